/-! THE PAST, ALIKE: kept, undone, redone (rows alone) -/
section PAST2
theorem mP_at {g : Nat → Nat → Int32} {U k : Nat} : mP g U U k = g 85 k := if_pos rfl
theorem mP_lt {g : Nat → Nat → Int32} {U i k : Nat} (h : i < U) : mP g U i k = g 91 (28 * i + k) := by
  unfold mP
  rw [if_neg (by omega), if_pos h]
theorem mP_gt {g : Nat → Nat → Int32} {U i k : Nat} (h : U < i) : mP g U i k = g 91 (28 * (i - 1) + k) := by
  unfold mP
  rw [if_neg (by omega), if_neg (by omega)]
/-- an ACT is kept on both sides -/
theorem aP_keep {b R O U D O2 U2 : Nat} {f g f2 g2 : Nat → Nat → Int32} (hb : b ≤ 7) (hUD : U + D ≤ 40) (A : ∀ i, i ≤ U + D → aR b R (fun k => f 34 (pN O i + k)) (mP g U i)) (hc : (U < 40 ∧ O2 = O ∧ U2 = U + 1) ∨ (U = 40 ∧ O2 = (O + 1) % 41 ∧ U2 = 40)) (N : aR b R (nR f2) (g2 85)) (r1 : ∀ k, k < 24 → f2 34 (pN O2 U2 + k) = nR f2 k) (r2 : ∀ k, ¬ (pN O2 U2 ≤ k ∧ k < pN O2 U2 + 24) → f2 34 k = f 34 k) (w1 : ∀ k, k < 28 → g2 91 (28 * (U2 - 1) + k) = g 85 k) (w2 : ∀ i k, i < U2 - 1 → k < 28 → g2 91 (28 * i + k) = g 91 (28 * (i + (U + 1 - U2)) + k)) : ∀ i, i ≤ U2 → aR b R (fun k => f2 34 (pN O2 i + k)) (mP g2 U2 i) := by
  intro i hi
  by_cases e : i = U2
  · subst e
    exact aR_eq N hb (fun k hk => r1 k hk) (fun k hk => mP_at)
  · have hj : i + (U + 1 - U2) ≤ U := by omega
    have eN : pN O2 i = pN O (i + (U + 1 - U2)) := by
      unfold pN
      rcases hc with ⟨h1, h2, h3⟩ | ⟨h1, h2, h3⟩
      · subst h2
        rw [show i + (U + 1 - U2) = i by omega]
      · subst h2
        rw [show i + (U + 1 - U2) = i + 1 by omega]
        omega
    have dis : ∀ k, k < 24 → ¬ (pN O2 U2 ≤ pN O2 i + k ∧ pN O2 i + k < pN O2 U2 + 24) := fun k hk q => by
      unfold pN at q
      have h40 : U2 ≤ 40 := by omega
      omega
    refine aR_eq (A (i + (U + 1 - U2)) (by omega)) hb (fun k hk => ?_) (fun k hk => ?_)
    · show f2 34 (pN O2 i + k) = f 34 (pN O (i + (U + 1 - U2)) + k)
      rw [r2 _ (dis k hk), eN]
    · rw [mP_lt (by omega)]
      by_cases q : i = U2 - 1
      · rw [q, w1 k hk, show U2 - 1 + (U + 1 - U2) = U by omega, mP_at]
      · rw [w2 i k (by omega) hk, mP_lt (by omega)]
/-- undone: the model's row is exchanged with what was -/
theorem mP_undo {g g2 : Nat → Nat → Int32} {U : Nat} (hU : 0 < U) (e1 : ∀ k, k < 28 → g2 85 k = g 91 (28 * (U - 1) + k)) (e2 : ∀ k, k < 28 → g2 91 (28 * (U - 1) + k) = g 85 k) (e3 : ∀ i k, i ≠ U - 1 → k < 28 → g2 91 (28 * i + k) = g 91 (28 * i + k)) : ∀ i k, k < 28 → mP g2 (U - 1) i k = mP g U i k := by
  intro i k hk
  rcases (show i < U - 1 ∨ i = U - 1 ∨ i = U ∨ U < i by omega) with h | h | h | h
  · rw [mP_lt h, mP_lt (by omega), e3 i k (by omega) hk]
  · rw [h, mP_at, mP_lt (by omega), e1 k hk]
  · rw [h, mP_gt (by omega), mP_at, e2 k hk]
  · rw [mP_gt (by omega), mP_gt h, e3 (i - 1) k (by omega) hk]
/-- redone -/
theorem mP_redo {g g2 : Nat → Nat → Int32} {U : Nat} (e1 : ∀ k, k < 28 → g2 85 k = g 91 (28 * U + k)) (e2 : ∀ k, k < 28 → g2 91 (28 * U + k) = g 85 k) (e3 : ∀ i k, i ≠ U → k < 28 → g2 91 (28 * i + k) = g 91 (28 * i + k)) : ∀ i k, k < 28 → mP g2 (U + 1) i k = mP g U i k := by
  intro i k hk
  rcases (show i < U ∨ i = U ∨ i = U + 1 ∨ U + 1 < i by omega) with h | h | h | h
  · rw [mP_lt (by omega), mP_lt h, e3 i k (by omega) hk]
  · rw [h, mP_lt (by omega), mP_at, e2 k hk]
  · rw [h, mP_at, mP_gt (by omega), Nat.add_sub_cancel, e1 k hk]
  · rw [mP_gt h, mP_gt (by omega), e3 (i - 1) k (by omega) hk]
end PAST2
