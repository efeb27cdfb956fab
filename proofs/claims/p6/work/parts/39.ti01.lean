/-! A ROW TAKEN BACK; an ACT kept, on both sides -/
section ROWS2
/-- now.loadFrom(rows, at), written out -/
def rL (g : Nat → Nat → Int32) (d p : Nat) : Nat → Nat → Int32 := y_u (y_u (y_u (y_u (y_u (y_u (u_cp (u_cp (u_cp (u_cp g 29 0 d p 7) 30 0 d (p + 7) 7) 31 0 d (p + 14) 2) 32 0 d (p + 16) 2) 28 1 (g d (p + 18))) 28 3 (g d (p + 19))) 28 6 (g d (p + 20))) 28 7 (g d (p + 21))) 28 8 (g d (p + 22))) 28 9 (g d (p + 23))
theorem rL_N {g : Nat → Nat → Int32} {d p o k : Nat} (h : ¬ (28 ≤ o ∧ o ≤ 32)) : rL g d p o k = g o k := by
  unfold rL
  rw [y_uN (by omega), y_uN (by omega), y_uN (by omega), y_uN (by omega), y_uN (by omega), y_uN (by omega), cpN (by omega), cpN (by omega), cpN (by omega), cpN (by omega)]
theorem rL_I {g : Nat → Nat → Int32} {d p k : Nat} (hd : d = 34 ∨ d = 35) (hk : k < 24) : nR (rL g d p) k = g d (p + k) := by
  show rL g d p (y_so k).1 (y_so k).2 = _
  rcases (show k < 7 ∨ (7 ≤ k ∧ k < 14) ∨ (14 ≤ k ∧ k < 16) ∨ (16 ≤ k ∧ k < 18) ∨ k = 18 ∨ k = 19 ∨ k = 20 ∨ k = 21 ∨ k = 22 ∨ k = 23 by omega) with h | h | h | h | rfl | rfl | rfl | rfl | rfl | rfl
  · have e : ∀ j : Fin 7, y_so j.1 = (29, j.1) := by decide
    rw [e ⟨k, h⟩]
    unfold rL
    dsimp only
    rw [y_uN (by omega), y_uN (by omega), y_uN (by omega), y_uN (by omega), y_uN (by omega), y_uN (by omega), cpN (by omega), cpN (by omega), cpN (by omega)]
    have := cpI (f := g) (d := 29) (dp := 0) (o := d) (sp := p) h
    rw [Nat.zero_add] at this
    exact this
  · obtain ⟨j, rfl⟩ : ∃ j, k = 7 + j := ⟨k - 7, by omega⟩
    have hj : j < 7 := by omega
    have e : ∀ j : Fin 7, y_so (7 + j.1) = (30, j.1) := by decide
    rw [e ⟨j, hj⟩, ← Nat.add_assoc]
    unfold rL
    dsimp only
    rw [y_uN (by omega), y_uN (by omega), y_uN (by omega), y_uN (by omega), y_uN (by omega), y_uN (by omega), cpN (by omega), cpN (by omega)]
    have := cpI (f := u_cp g 29 0 d p 7) (d := 30) (dp := 0) (o := d) (sp := p + 7) hj
    rw [Nat.zero_add] at this
    rw [this, cpN (by omega)]
  · obtain ⟨j, rfl⟩ : ∃ j, k = 14 + j := ⟨k - 14, by omega⟩
    have hj : j < 2 := by omega
    have e : ∀ j : Fin 2, y_so (14 + j.1) = (31, j.1) := by decide
    rw [e ⟨j, hj⟩, ← Nat.add_assoc]
    unfold rL
    dsimp only
    rw [y_uN (by omega), y_uN (by omega), y_uN (by omega), y_uN (by omega), y_uN (by omega), y_uN (by omega), cpN (by omega)]
    have := cpI (f := u_cp (u_cp g 29 0 d p 7) 30 0 d (p + 7) 7) (d := 31) (dp := 0) (o := d) (sp := p + 14) hj
    rw [Nat.zero_add] at this
    rw [this, cpN (by omega), cpN (by omega)]
  · obtain ⟨j, rfl⟩ : ∃ j, k = 16 + j := ⟨k - 16, by omega⟩
    have hj : j < 2 := by omega
    have e : ∀ j : Fin 2, y_so (16 + j.1) = (32, j.1) := by decide
    rw [e ⟨j, hj⟩, ← Nat.add_assoc]
    unfold rL
    dsimp only
    rw [y_uN (by omega), y_uN (by omega), y_uN (by omega), y_uN (by omega), y_uN (by omega), y_uN (by omega)]
    have := cpI (f := u_cp (u_cp (u_cp g 29 0 d p 7) 30 0 d (p + 7) 7) 31 0 d (p + 14) 2) (d := 32) (dp := 0) (o := d) (sp := p + 16) hj
    rw [Nat.zero_add] at this
    rw [this, cpN (by omega), cpN (by omega), cpN (by omega)]
  · unfold rL
    show y_u (y_u (y_u (y_u (y_u (y_u (u_cp (u_cp (u_cp (u_cp g 29 0 d p 7) 30 0 d (p + 7) 7) 31 0 d (p + 14) 2) 32 0 d (p + 16) 2) 28 1 (g d (p + 18))) 28 3 (g d (p + 19))) 28 6 (g d (p + 20))) 28 7 (g d (p + 21))) 28 8 (g d (p + 22))) 28 9 (g d (p + 23)) 28 1 = _
    rw [y_uN (by omega), y_uN (by omega), y_uN (by omega), y_uN (by omega), y_uN (by omega), y_uE]
  · unfold rL
    show y_u (y_u (y_u (y_u (y_u (y_u (u_cp (u_cp (u_cp (u_cp g 29 0 d p 7) 30 0 d (p + 7) 7) 31 0 d (p + 14) 2) 32 0 d (p + 16) 2) 28 1 (g d (p + 18))) 28 3 (g d (p + 19))) 28 6 (g d (p + 20))) 28 7 (g d (p + 21))) 28 8 (g d (p + 22))) 28 9 (g d (p + 23)) 28 3 = _
    rw [y_uN (by omega), y_uN (by omega), y_uN (by omega), y_uN (by omega), y_uE]
  · unfold rL
    show y_u (y_u (y_u (y_u (y_u (y_u (u_cp (u_cp (u_cp (u_cp g 29 0 d p 7) 30 0 d (p + 7) 7) 31 0 d (p + 14) 2) 32 0 d (p + 16) 2) 28 1 (g d (p + 18))) 28 3 (g d (p + 19))) 28 6 (g d (p + 20))) 28 7 (g d (p + 21))) 28 8 (g d (p + 22))) 28 9 (g d (p + 23)) 28 6 = _
    rw [y_uN (by omega), y_uN (by omega), y_uN (by omega), y_uE]
  · unfold rL
    show y_u (y_u (y_u (y_u (y_u (y_u (u_cp (u_cp (u_cp (u_cp g 29 0 d p 7) 30 0 d (p + 7) 7) 31 0 d (p + 14) 2) 32 0 d (p + 16) 2) 28 1 (g d (p + 18))) 28 3 (g d (p + 19))) 28 6 (g d (p + 20))) 28 7 (g d (p + 21))) 28 8 (g d (p + 22))) 28 9 (g d (p + 23)) 28 7 = _
    rw [y_uN (by omega), y_uN (by omega), y_uE]
  · unfold rL
    show y_u (y_u (y_u (y_u (y_u (y_u (u_cp (u_cp (u_cp (u_cp g 29 0 d p 7) 30 0 d (p + 7) 7) 31 0 d (p + 14) 2) 32 0 d (p + 16) 2) 28 1 (g d (p + 18))) 28 3 (g d (p + 19))) 28 6 (g d (p + 20))) 28 7 (g d (p + 21))) 28 8 (g d (p + 22))) 28 9 (g d (p + 23)) 28 8 = _
    rw [y_uN (by omega), y_uE]
  · unfold rL
    show y_u (y_u (y_u (y_u (y_u (y_u (u_cp (u_cp (u_cp (u_cp g 29 0 d p 7) 30 0 d (p + 7) 7) 31 0 d (p + 14) 2) 32 0 d (p + 16) 2) 28 1 (g d (p + 18))) 28 3 (g d (p + 19))) 28 6 (g d (p + 20))) 28 7 (g d (p + 21))) 28 8 (g d (p + 22))) 28 9 (g d (p + 23)) 28 9 = _
    rw [y_uE]
/-- where a row of the ring begins -/
def pN (O U : Nat) : Nat := (O + U) % 41 * 24
theorem pN_le (O U : Nat) : pN O U + 24 ≤ 984 := by
  have := Nat.mod_lt (O + U) (show 0 < 41 by omega)
  unfold pN
  omega
theorem c_rowNow {O U : Nat} (hO : O < 1000) (hU : U < 1000) {s : u_H} (h1 : s.1 33 1 = zi O) (h2 : s.1 33 2 = zi U) : u_c 96 [.inr (.inr 35)] s = some (some (.inl (zi (pN O U))), s) := by
  rw [b_96, h1, h2, zi_add, show Int32.ofInt 41 = zi 41 from rfl, zi_rem (by omega) (by omega) (by omega), show Int32.ofInt 24 = zi 24 from rfl, zi_mul]
  rfl
/-- an ACT is kept, in the class -/
theorem c_keep {O U : Nat} (hO : O < 41) (hU : U ≤ 40) {s : u_H} (h1 : s.1 33 1 = zi O) (h2 : s.1 33 2 = zi U) : ∃ O2 U2 s2, u_c 94 [.inr (.inr 35), .inr (.inr 30)] s = some (none, s2) ∧ O2 < 41 ∧ ((U < 40 ∧ O2 = O ∧ U2 = U + 1) ∨ (U = 40 ∧ O2 = (O + 1) % 41 ∧ U2 = 40)) ∧ s2.1 33 1 = zi O2 ∧ s2.1 33 2 = zi U2 ∧ s2.1 33 3 = Int32.ofInt 0 ∧ (∀ k, k < 24 → s2.1 34 (pN O2 U2 + k) = nR s.1 k) ∧ (∀ k, ¬ (pN O2 U2 ≤ k ∧ k < pN O2 U2 + 24) → s2.1 34 k = s.1 34 k) ∧ u_fr (fun o _ => o = 33 ∨ o = 34) s s2 := by
  have nrow : ∀ (g : Nat → Nat → Int32) (k : Nat), (∀ o j, o ≠ 33 → g o j = s.1 o j) → k < 24 → nR g k = nR s.1 k := fun g k h hk => by
    have hs := qS_so k hk
    refine h _ _ ?_
    unfold qS at hs
    omega
  by_cases q : U < 40
  · refine ⟨O, U + 1, (rW (y_u (y_u s.1 33 3 (Int32.ofInt 0)) 33 2 (zi (U + 1))) 34 (pN O (U + 1)), s.2), ?_, hO, Or.inl ⟨q, rfl, rfl⟩, ?_, ?_, ?_, fun k hk => ?_, fun k hk => ?_, ?_⟩
    · rw [b_94, h2, if_pos (show zi U < Int32.ofInt 40 from (zi_lt (b := 40) (by omega) (by omega)).mpr q), zi_one, c_rowNow (O := O) (U := U + 1) (by omega) (by omega) (s := (y_u (y_u s.1 33 3 (Int32.ofInt 0)) 33 2 (zi (U + 1)), s.2)) (by show y_u (y_u s.1 33 3 (Int32.ofInt 0)) 33 2 (zi (U + 1)) 33 1 = _; rw [y_uN (by omega), y_uN (by omega)]; exact h1) (by first | exact y_uE _ _ _ _ | (dsimp only; exact y_uE _ _ _ _)), u_biS, c_saveP (pN_le O (U + 1)), u_bvS]
    · try dsimp only
      rw [rW_N (by omega), y_uN (by omega), y_uN (by omega)]
      exact h1
    · try dsimp only
      rw [rW_N (by omega), y_uE]
    · try dsimp only
      rw [rW_N (by omega), y_uN (by omega), y_uE]
    · try dsimp only
      rw [rW_I (Or.inl rfl) hk]
      exact nrow _ k (fun o j h => (y_uN (by omega)).trans (y_uN (by omega))) hk
    · try dsimp only
      rw [rW_N (by omega), y_uN (by omega), y_uN (by omega)]
    · refine ⟨fun o k h => ⟨?_, rfl⟩, rfl⟩
      have h : ¬ (o = 33 ∨ o = 34) := h
      try dsimp only
      rw [rW_N (by omega), y_uN (by omega), y_uN (by omega)]
  · have hU2 : U = 40 := by omega
    subst hU2
    refine ⟨(O + 1) % 41, 40, (rW (y_u (y_u s.1 33 3 (Int32.ofInt 0)) 33 1 (zi ((O + 1) % 41))) 34 (pN ((O + 1) % 41) 40), s.2), ?_, Nat.mod_lt _ (by omega), Or.inr ⟨rfl, rfl, rfl⟩, ?_, ?_, ?_, fun k hk => ?_, fun k hk => ?_, ?_⟩
    · have hm := Nat.mod_lt (O + 1) (show 0 < 41 by omega)
      rw [b_94, h2, h1, if_neg (show ¬ zi 40 < Int32.ofInt 40 by decide), zi_one, show Int32.ofInt 41 = zi 41 from rfl, zi_rem (by omega) (by omega) (by omega), c_rowNow (O := (O + 1) % 41) (U := 40) (by omega) (by omega) (s := (y_u (y_u s.1 33 3 (Int32.ofInt 0)) 33 1 (zi ((O + 1) % 41)), s.2)) (by first | exact y_uE _ _ _ _ | (dsimp only; exact y_uE _ _ _ _)) (by show y_u (y_u s.1 33 3 (Int32.ofInt 0)) 33 1 (zi ((O + 1) % 41)) 33 2 = _; rw [y_uN (by omega), y_uN (by omega)]; exact h2), u_biS, c_saveP (pN_le _ _), u_bvS]
    · try dsimp only
      rw [rW_N (by omega), y_uE]
    · try dsimp only
      rw [rW_N (by omega), y_uN (by omega), y_uN (by omega)]
      exact h2
    · try dsimp only
      rw [rW_N (by omega), y_uN (by omega), y_uE]
    · try dsimp only
      rw [rW_I (Or.inl rfl) hk]
      exact nrow _ k (fun o j h => (y_uN (by omega)).trans (y_uN (by omega))) hk
    · try dsimp only
      rw [rW_N (by omega), y_uN (by omega), y_uN (by omega)]
    · refine ⟨fun o k h => ⟨?_, rfl⟩, rfl⟩
      have h : ¬ (o = 33 ∨ o = 34) := h
      try dsimp only
      rw [rW_N (by omega), y_uN (by omega), y_uN (by omega)]
/-- the model's row is gone on with -/
theorem m203_2 : ∀ (f i : Nat) (li : Nat → Int32) (ll : Nat → Int64) (s : u_H), 28 - i ≤ f → i ≤ 28 → li 1 = zi i → ∃ s2, u g_t203 2 (li, ll, [(0, 67)]) [] s = some (none, s2) ∧ (∀ k, i ≤ k → k < 28 → s2.1 86 k = s.1 85 k) ∧ u_fr (fun o k => (o = 86 ∧ i ≤ k) ∨ f177 o k) s s2 := by
  intro f
  have n86 : ∀ k, ¬ f177 86 k := fun k x => by
    unfold f177 at x
    omega
  have stop : ∀ (i : Nat) (li : Nat → Int32) (ll : Nat → Int64) (s : u_H), i = 28 → li 1 = zi i → ∃ s2, u g_t203 2 (li, ll, [(0, 67)]) [] s = some (none, s2) ∧ (∀ k, i ≤ k → k < 28 → s2.1 86 k = s.1 85 k) ∧ u_fr (fun o k => (o = 86 ∧ i ≤ k) ∨ f177 o k) s s2 := by
    intro i li ll s hi hl
    obtain ⟨s2, e1, e2⟩ := m_177 s
    refine ⟨s2, ?_, fun k x y => absurd y (by omega), e2.mono (fun o k x => Or.inr x)⟩
    rw [b_203_2, hl, hi, if_neg (show ¬ zi 28 < Int32.ofInt 28 by decide), e1, u_bvS]
  induction f with
  | zero =>
    intro i li ll s hf hi hl
    exact stop i li ll s (by omega) hl
  | succ f ih =>
    intro i li ll s hf hi hl
    by_cases q : i < 28
    · have hin : u_in (zi i) 28 = true := (u_inz (by omega)).mpr (by omega)
      have hcl : (zi i).toNatClampNeg = i := zi_clamp (by omega)
      obtain ⟨s2, e1, e3, e4⟩ := ih (i + 1) (u_l1 li 1 (zi (i + 1))) ll (y_u s.1 86 i (s.1 85 i), s.2) (by omega) (by omega) (u_l1E _ _ _)
      refine ⟨s2, ?_, fun k x y => ?_, ?_⟩
      · rw [b_203_2, hl, if_pos (show zi i < Int32.ofInt 28 from (zi_lt (b := 28) (by omega) (by omega)).mpr q), if_pos hin, if_pos hin, hcl, zi_one]
        exact e1
      · rcases Nat.lt_or_ge i k with z | z
        · rw [e3 k z y]
          show y_u s.1 86 i (s.1 85 i) 85 k = s.1 85 k
          rw [y_uN (by omega)]
        · have hk : k = i := by omega
          subst hk
          rw [e4.i (o := 86) (k := k) (fun x => by rcases x with x | x; exact absurd x.2 (by omega); exact n86 k x)]
          exact y_uE s.1 86 k _
      · refine (u_fr.wi (f := s.1) (r := s.2) u_fr.rf (Or.inl ⟨rfl, Nat.le_refl _⟩)).tr (e4.mono (fun o k x => ?_))
        rcases x with x | x
        · exact Or.inl ⟨x.1, Nat.le_of_succ_le x.2⟩
        · exact Or.inr x
    · exact stop i li ll s (by omega) hl
theorem m_fill (s : u_H) : ∃ s2, u_c 203 [.inr (.inr 67)] s = some (none, s2) ∧ (∀ k, k < 28 → s2.1 86 k = s.1 85 k) ∧ u_fr (fun o k => o = 86 ∨ f177 o k) s s2 := by
  obtain ⟨s2, e1, e2, e3⟩ := m203_2 28 0 (u_l1 u_z1 1 (Int32.ofInt 0)) u_z2 s (by omega) (by omega) (u_l1E u_z1 1 _)
  refine ⟨s2, ?_, fun k hk => e2 k (Nat.zero_le _) hk, e3.mono (fun o k x => by rcases x with x | x; exact Or.inl x.1; exact Or.inr x)⟩
  rw [b_203]
  exact e1
end ROWS2
