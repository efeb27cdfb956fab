/-! UNDO, REDO: both sides -/
section UNDO
/-- now.loadFrom(rows, at) -/
theorem c_loadP {p : Nat} (hp : p + 24 ≤ 984) (s : u_H) : u_c 146 [.inr (.inr 30), .inr (.inr 36), .inl (zi p)] s = some (none, (rL s.1 34 p, s.2)) := by
  have c : ∀ a, a < 4000 → (zi a).toNatClampNeg = a := fun a h => zi_clamp (by omega)
  have i : ∀ a, a < 984 → u_in (zi a) 984 = true := fun a h => (u_inz (by omega)).mpr h
  rw [b_146p, if_neg (zi_nonneg (by omega)), z24, zi_add, if_neg (show ¬ Int32.ofNat 984 < zi (p + 24) from fun e => by have := (zi_lt (a := 984) (by omega) (by omega)).mp e; omega), zO7, show Int32.ofInt 0 = zi 0 from rfl, if_pos (cpk_z (by omega) (by omega) (by omega) (by omega) (by omega)), c p (by omega)]
  rw [b_146_28p, show (u_l1 (u_l1 u_z1 2 (zi p)) 3 (zi p)) 3 = zi p from u_l1E _ _ _, zO7, zi_add, show Int32.ofInt 0 = zi 0 from rfl, if_pos (cpk_z (by omega) (by omega) (by omega) (by omega) (by omega)), c (p + 7) (by omega)]
  rw [b_146_43p, u_l1E, zO7, z2a, zi_add, show Int32.ofInt 0 = zi 0 from rfl, if_pos (cpk_z (by omega) (by omega) (by omega) (by omega) (by omega)), c (p + 7 + 7) (by omega)]
  rw [b_146_57p, u_l1E, z2a, zi_add, show Int32.ofInt 0 = zi 0 from rfl, if_pos (cpk_z (by omega) (by omega) (by omega) (by omega) (by omega)), c (p + 7 + 7 + 2) (by omega)]
  rw [b_146_71p, u_l1E, z2a, zi_add, show Int32.ofInt 1 = zi 1 from rfl, show Int32.ofInt 3 = zi 3 from rfl, show Int32.ofInt 4 = zi 4 from rfl, show Int32.ofInt 5 = zi 5 from rfl, zi_add, zi_add, zi_add, zi_add, zi_add, if_pos (i _ (by omega)), if_pos (i _ (by omega)), if_pos (i _ (by omega)), if_pos (i _ (by omega)), if_pos (i _ (by omega)), if_pos (i _ (by omega)), c _ (by omega), c _ (by omega), c _ (by omega), c _ (by omega), c _ (by omega), c _ (by omega)]
  rfl
/-- exchangeAt, in the model -/
theorem m199_2 {q : Nat} (hq : q + 28 ≤ 1120) : ∀ (f i : Nat) (li : Nat → Int32) (ll : Nat → Int64) (s : u_H), 28 - i ≤ f → i ≤ 28 → li 1 = zi q → li 2 = zi i → ∃ s2, u g_t199 2 (li, ll, [(0, 67)]) [] s = some (none, s2) ∧ (∀ k, i ≤ k → k < 28 → s2.1 85 k = s.1 91 (q + k) ∧ s2.1 91 (q + k) = s.1 85 k) ∧ u_fr (fun o k => (o = 85 ∧ i ≤ k ∧ k < 28) ∨ (o = 91 ∧ q + i ≤ k ∧ k < q + 28)) s s2 := by
  intro f
  have stop : ∀ (i : Nat) (li : Nat → Int32) (ll : Nat → Int64) (s : u_H), i = 28 → li 2 = zi i → ∃ s2, u g_t199 2 (li, ll, [(0, 67)]) [] s = some (none, s2) ∧ (∀ k, i ≤ k → k < 28 → s2.1 85 k = s.1 91 (q + k) ∧ s2.1 91 (q + k) = s.1 85 k) ∧ u_fr (fun o k => (o = 85 ∧ i ≤ k ∧ k < 28) ∨ (o = 91 ∧ q + i ≤ k ∧ k < q + 28)) s s2 := by
    intro i li ll s hi hl
    refine ⟨s, ?_, fun k x y => absurd y (by omega), u_fr.rf⟩
    rw [b_199_2, hl, hi, if_neg (show ¬ zi 28 < Int32.ofInt 28 by decide)]
  induction f with
  | zero =>
    intro i li ll s hf hi h1 hl
    exact stop i li ll s (by omega) hl
  | succ f ih =>
    intro i li ll s hf hi h1 hl
    by_cases z : i < 28
    · have hin : u_in (zi i) 28 = true := (u_inz (by omega)).mpr (by omega)
      have hin2 : u_in (zi (q + i)) 1120 = true := (u_inz (by omega)).mpr (by omega)
      have hcl : (zi i).toNatClampNeg = i := zi_clamp (by omega)
      have hcl2 : (zi (q + i)).toNatClampNeg = q + i := zi_clamp (by omega)
      have w : ∀ o k, ¬ (o = 91 ∧ k = q + i) → ¬ (o = 85 ∧ k = i) → y_u (y_u s.1 91 (q + i) (s.1 85 i)) 85 i (s.1 91 (q + i)) o k = s.1 o k := fun o k x y => (y_uN y).trans (y_uN x)
      obtain ⟨s2, e1, e2, e3⟩ := ih (i + 1) (u_l1 (u_l1 li 3 (s.1 91 (q + i))) 2 (zi (i + 1))) ll (y_u (y_u s.1 91 (q + i) (s.1 85 i)) 85 i (s.1 91 (q + i)), s.2) (by omega) (by omega) (by rw [u_l1N (by omega), u_l1N (by omega)]; exact h1) (u_l1E _ _ _)
      refine ⟨s2, ?_, fun k x y => ?_, ?_⟩
      · rw [b_199_2, hl, h1, if_pos (show zi i < Int32.ofInt 28 from (zi_lt (b := 28) (by omega) (by omega)).mpr z), zi_add, if_pos hin2, if_pos hin, if_pos hin2, if_pos hin, hcl, hcl2, zi_one]
        exact e1
      · rcases Nat.lt_or_ge i k with v | v
        · obtain ⟨x1, x2⟩ := e2 k v y
          exact ⟨x1.trans (w 91 (q + k) (by omega) (by omega)), x2.trans (w 85 k (by omega) (by omega))⟩
        · have hk : k = i := by omega
          subst hk
          rw [e3.i (o := 85) (k := k) (fun x => by omega), e3.i (o := 91) (k := q + k) (fun x => by omega)]
          dsimp only
          rw [y_uE, y_uN (by omega), y_uE]
          exact ⟨rfl, rfl⟩
      · exact (u_fr.wi (u_fr.wi (f := s.1) (r := s.2) u_fr.rf (Or.inr ⟨rfl, by omega, by omega⟩)) (Or.inl ⟨rfl, Nat.le_refl _, z⟩)).tr (e3.mono (fun o k x => by omega))
    · exact stop i li ll s (by omega) hl
theorem m_exch {U : Nat} (hU : U < 40) (s : u_H) : ∃ s2, u_c 199 [.inr (.inr 67), .inl (zi (28 * U))] s = some (none, s2) ∧ (∀ k, k < 28 → s2.1 85 k = s.1 91 (28 * U + k) ∧ s2.1 91 (28 * U + k) = s.1 85 k) ∧ (∀ i k, i ≠ U → k < 28 → s2.1 91 (28 * i + k) = s.1 91 (28 * i + k)) ∧ u_fr (fun o _ => o = 85 ∨ o = 91) s s2 := by
  obtain ⟨s2, e1, e2, e3⟩ := m199_2 (q := 28 * U) (by omega) 28 0 (u_l1 (u_l1 u_z1 1 (zi (28 * U))) 2 (Int32.ofInt 0)) u_z2 s (by omega) (Nat.zero_le _) rfl (u_l1E _ _ _)
  refine ⟨s2, ?_, fun k hk => e2 k (Nat.zero_le _) hk, fun i k hi hk => e3.i (fun x => by omega), e3.mono (fun o k x => by rcases x with x | x; exact Or.inl x.1; exact Or.inr x.1)⟩
  rw [b_199]
  exact e1
theorem rL_row {g : Nat → Nat → Int32} {p k : Nat} (hk : k < 24) : nR (rL g 34 p) k = g 34 (p + k) := rL_I (Or.inl rfl) hk
/-- past.takeBack(now), undo() -/
theorem undo_alike {b R : Nat} {sC sM : u_H} (hb : b ≤ 7) (hR : aR b R (nR sC.1) (sM.1 85)) (hP : aP b R sC.1 sM.1) : ∃ (y : Int32) (s2 t2 : u_H), u_c 98 [.inr (.inr 35), .inr (.inr 30)] sC = some (some (.inl y), s2) ∧ u_c 315 [.inr (.inr 67)] sM = some (some (.inl y), t2) ∧ aR b R (nR s2.1) (t2.1 85) ∧ aP b R s2.1 t2.1 := by
  obtain ⟨O, U, D, hO, hUD, ⟨p1, p2, p3⟩, ⟨p4, p5⟩, A⟩ := hP
  rcases Nat.eq_zero_or_pos U with h0 | h0
  · subst h0
    refine ⟨Int32.ofInt 0, sC, sM, ?_, ?_, hR, O, 0, D, hO, hUD, ⟨p1, p2, p3⟩, ⟨p4, p5⟩, A⟩
    · rw [b_98, p2, if_pos (show zi 0 = 0 from rfl)]
    · rw [b_315, p4, if_pos (show zi 0 = 0 from rfl)]
  · have ne : ¬ zi U = 0 := fun e => by
      have := (zi_eq0 (by omega)).mp e
      omega
    obtain ⟨t2, e1, e2, e3, e4⟩ := m_exch (U := U - 1) (by omega) (y_u (y_u sM.1 65 66 (zi (U - 1))) 65 67 (zi (D + 1)), sM.2)
    have n : ∀ o k, o ≠ 65 → y_u (y_u sM.1 65 66 (zi (U - 1))) 65 67 (zi (D + 1)) o k = sM.1 o k := fun o k h => (y_uN (by omega)).trans (y_uN (by omega))
    have hm := mP_undo (g := sM.1) (g2 := t2.1) h0 (fun k hk => (e2 k hk).1.trans (n 91 _ (by omega))) (fun k hk => (e2 k hk).2.trans (n 85 _ (by omega))) (fun i k hi hk => (e3 i k hi hk).trans (n 91 _ (by omega)))
    have g33 : ∀ o k, ¬ (28 ≤ o ∧ o ≤ 32) → o ≠ 33 → rL (y_u (y_u sC.1 33 2 (zi (U - 1))) 33 3 (zi (D + 1))) 34 (pN O (U - 1)) o k = sC.1 o k := fun o k x y => by
      rw [rL_N x, y_uN (by omega), y_uN (by omega)]
    refine ⟨Int32.ofInt 1, (rL (y_u (y_u sC.1 33 2 (zi (U - 1))) 33 3 (zi (D + 1))) 34 (pN O (U - 1)), sC.2), t2, ?_, ?_, ?_, O, U - 1, D + 1, hO, by omega, ⟨?_, ?_, ?_⟩, ⟨?_, ?_⟩, fun i hi => ?_⟩
    · rw [b_98, p2, if_neg ne, p3, show Int32.ofInt 1 = zi 1 from rfl, zi_sub (by omega), zi_add, c_rowNow (O := O) (U := U - 1) (by omega) (by omega) (by dsimp only; rw [y_uN (by omega), y_uN (by omega)]; exact p1) (by dsimp only; rw [y_uN (by omega), y_uE]), u_biS, c_loadP (pN_le _ _), u_bvS]
    · rw [b_315, p4, if_neg ne, p5, show Int32.ofInt 1 = zi 1 from rfl, show Int32.ofInt 28 = zi 28 from rfl, zi_sub (by omega), zi_add, zi_mul, e1, u_bvS]
    · refine aR_eq (A (U - 1) (by omega)) hb (fun k hk => ?_) (fun k hk => ?_)
      · rw [rL_row hk, y_uN (by omega), y_uN (by omega)]
      · rw [← hm (U - 1) k hk, mP_at]
    · dsimp only
      rw [rL_N (by omega), y_uN (by omega), y_uN (by omega)]
      exact p1
    · dsimp only
      rw [rL_N (by omega), y_uN (by omega), y_uE]
    · dsimp only
      rw [rL_N (by omega), y_uE]
    · rw [e4.i (o := 65) (k := 66) (fun x => by omega)]
      dsimp only
      rw [y_uN (by omega), y_uE]
    · rw [e4.i (o := 65) (k := 67) (fun x => by omega)]
      dsimp only
      rw [y_uE]
    · exact aR_eq (A i (by omega)) hb (fun k hk => g33 34 _ (by omega) (by omega)) (fun k hk => hm i k hk)
/-- past.takeAgain(now), redo() -/
theorem redo_alike {b R : Nat} {sC sM : u_H} (hb : b ≤ 7) (hR : aR b R (nR sC.1) (sM.1 85)) (hP : aP b R sC.1 sM.1) : ∃ (y : Int32) (s2 t2 : u_H), u_c 97 [.inr (.inr 35), .inr (.inr 30)] sC = some (some (.inl y), s2) ∧ u_c 285 [.inr (.inr 67)] sM = some (some (.inl y), t2) ∧ aR b R (nR s2.1) (t2.1 85) ∧ aP b R s2.1 t2.1 := by
  obtain ⟨O, U, D, hO, hUD, ⟨p1, p2, p3⟩, ⟨p4, p5⟩, A⟩ := hP
  rcases Nat.eq_zero_or_pos D with h0 | h0
  · subst h0
    refine ⟨Int32.ofInt 0, sC, sM, ?_, ?_, hR, O, U, 0, hO, hUD, ⟨p1, p2, p3⟩, ⟨p4, p5⟩, A⟩
    · rw [b_97, p3, if_pos (show zi 0 = 0 from rfl)]
    · rw [b_285, p5, if_pos (show zi 0 = 0 from rfl)]
  · have ne : ¬ zi D = 0 := fun e => by
      have := (zi_eq0 (by omega)).mp e
      omega
    obtain ⟨t2, e1, e2, e3, e4⟩ := m_exch (U := U) (by omega) sM
    have n : ∀ o k, o ≠ 65 → y_u (y_u t2.1 65 66 (zi (U + 1))) 65 67 (zi (D - 1)) o k = t2.1 o k := fun o k h => (y_uN (by omega)).trans (y_uN (by omega))
    have hm := mP_redo (g := sM.1) (g2 := y_u (y_u t2.1 65 66 (zi (U + 1))) 65 67 (zi (D - 1))) (U := U) (fun k hk => (n 85 _ (by omega)).trans (e2 k hk).1) (fun k hk => (n 91 _ (by omega)).trans (e2 k hk).2) (fun i k hi hk => (n 91 _ (by omega)).trans (e3 i k hi hk))
    have q4 : t2.1 65 66 = zi U := (e4.i (fun x => by omega)).trans p4
    have q5 : t2.1 65 67 = zi D := (e4.i (fun x => by omega)).trans p5
    have g33 : ∀ o k, ¬ (28 ≤ o ∧ o ≤ 32) → o ≠ 33 → rL (y_u (y_u sC.1 33 2 (zi (U + 1))) 33 3 (zi (D - 1))) 34 (pN O (U + 1)) o k = sC.1 o k := fun o k x y => by
      rw [rL_N x, y_uN (by omega), y_uN (by omega)]
    refine ⟨Int32.ofInt 1, (rL (y_u (y_u sC.1 33 2 (zi (U + 1))) 33 3 (zi (D - 1))) 34 (pN O (U + 1)), sC.2), (y_u (y_u t2.1 65 66 (zi (U + 1))) 65 67 (zi (D - 1)), t2.2), ?_, ?_, ?_, O, U + 1, D - 1, hO, by omega, ⟨?_, ?_, ?_⟩, ⟨?_, ?_⟩, fun i hi => ?_⟩
    · rw [b_97, p3, if_neg ne, p2, show Int32.ofInt 1 = zi 1 from rfl, zi_sub (by omega), zi_add, c_rowNow (O := O) (U := U + 1) (by omega) (by omega) (by dsimp only; rw [y_uN (by omega), y_uN (by omega)]; exact p1) (by dsimp only; rw [y_uN (by omega), y_uE]), u_biS, c_loadP (pN_le _ _), u_bvS]
    · rw [b_285, p5, if_neg ne, p4, show Int32.ofInt 28 = zi 28 from rfl, zi_mul, e1, u_bvS, q4, q5, zi_one, show Int32.ofInt 1 = zi 1 from rfl, zi_sub (by omega)]
    · refine aR_eq (A (U + 1) (by omega)) hb (fun k hk => ?_) (fun k hk => ?_)
      · rw [rL_row hk, y_uN (by omega), y_uN (by omega)]
      · dsimp only
        rw [← hm (U + 1) k hk, mP_at]
    · dsimp only
      rw [rL_N (by omega), y_uN (by omega), y_uN (by omega)]
      exact p1
    · dsimp only
      rw [rL_N (by omega), y_uN (by omega), y_uE]
    · dsimp only
      rw [rL_N (by omega), y_uE]
    · dsimp only
      rw [y_uN (by omega), y_uE]
    · dsimp only
      rw [y_uE]
    · exact aR_eq (A i (by omega)) hb (fun k hk => g33 34 _ (by omega) (by omega)) (fun k hk => hm i k hk)
end UNDO
