/-! A PAIR that there is; one in the queue: both sides, of any int -/
section WHO
variable {W : Nat}
theorem nn_zi {x : Int32} (h : ¬ x < 0) : ∃ n, n < 2147483648 ∧ x = zi n := by
  have h1 : ¬ x.toInt < 0 := fun q => h (Int32.lt_iff_toInt_lt.mpr q)
  have hx : x.toInt < 2147483648 := by
    have := Int32.toInt_lt x
    omega
  obtain ⟨n, hn⟩ : ∃ n : Nat, x.toInt = (n : Int) := ⟨x.toInt.toNat, by omega⟩
  exact ⟨n, by omega, Int32.toInt_inj.mp (by rw [hn, zi_int (by omega)])⟩
/-- between 0 and b - 1 -/
theorem isIn_zi {b : Nat} (hb : b ≤ 100) (x : Int32) (s : u_H) : (∃ p, p < b ∧ x = zi p ∧ u_c 230 [.inl x, .inl (Int32.ofInt 0), .inl (zi b - Int32.ofInt 1)] s = some (some (.inl (Int32.ofInt 1)), s)) ∨ ((∀ p, p < b → x ≠ zi p) ∧ u_c 230 [.inl x, .inl (Int32.ofInt 0), .inl (zi b - Int32.ofInt 1)] s = some (some (.inl (Int32.ofInt 0)), s)) := by
  by_cases h : x < 0
  · refine Or.inr ⟨fun p hp e => ?_, ?_⟩
    · rw [e] at h
      exact zi_nonneg (by omega) h
    · rw [b_230, if_pos (show x < Int32.ofInt 0 from h)]
  · obtain ⟨n, hn, rfl⟩ := nn_zi h
    rcases Nat.lt_or_ge n b with q | q
    · refine Or.inl ⟨n, q, rfl, ?_⟩
      rw [b_230, if_neg (show ¬ zi n < Int32.ofInt 0 from h), show Int32.ofInt 1 = zi 1 from rfl, zi_sub (by omega), if_neg (by rw [zi_lt (by omega) (by omega)]; omega)]
    · refine Or.inr ⟨fun p hp e => ?_, ?_⟩
      · have := (zi_inj hn (by omega)).mp e
        omega
      · rw [b_230, if_neg (show ¬ zi n < Int32.ofInt 0 from h)]
        rcases Nat.eq_zero_or_pos b with z | z
        · subst z
          have e : zi 0 - Int32.ofInt 1 < zi n := by
            rw [Int32.lt_iff_toInt_lt, zi_int hn, show (zi 0 - Int32.ofInt 1).toInt = -1 by decide]
            omega
          rw [if_pos e]
        · rw [show Int32.ofInt 1 = zi 1 from rfl, zi_sub (by omega), if_pos ((zi_lt (by omega) hn).mpr (by omega))]
theorem isPair_alike (hW : W = 5 ∨ W = 17) {b : Nat} (hb : b ≤ 7) {sC sM : u_H} (hT : sC.2.2.1 = W) (h4 : sC.1 (W - 2) 4 = zi b) (h48 : sM.1 65 48 = zi b) (x : Int32) : (∃ p, p < b ∧ x = zi p ∧ u_c 34 [.inr (.inr 2), .inl x] sC = some (some (.inl (Int32.ofInt 1)), sC) ∧ u_c 234 [.inr (.inr 67), .inl x] sM = some (some (.inl (Int32.ofInt 1)), sM)) ∨ (u_c 34 [.inr (.inr 2), .inl x] sC = some (some (.inl (Int32.ofInt 0)), sC) ∧ u_c 234 [.inr (.inr 67), .inl x] sM = some (some (.inl (Int32.ofInt 0)), sM)) := by
  rcases isIn_zi (b := b) (by omega) x sM with ⟨p, hp, e, h⟩ | ⟨hn, h⟩
  · refine Or.inl ⟨p, hp, e, ?_, ?_⟩
    · rw [b_34 hW, e, if_neg (zi_nonneg (by omega)), if_pos hT, h4, if_pos ((zi_lt (by omega) (by omega)).mpr hp)]
    · rw [b_234, h48, h, u_biS, if_pos (show q_ib (Int32.ofInt 1) = true by decide)]
  · refine Or.inr ⟨?_, ?_⟩
    · rw [b_34 hW]
      by_cases q : x < 0
      · rw [if_pos q]
      · obtain ⟨n, hn2, rfl⟩ := nn_zi q
        have hnb : ¬ n < b := fun z => hn n z rfl
        rw [if_neg q, if_pos hT, h4, if_neg (by rw [zi_lt hn2 (by omega)]; exact hnb)]
    · rw [b_234, h48, h, u_biS, if_pos (show q_ib (Int32.ofInt 0) = true by decide)]
/-- one in the queue -/
theorem inQ_alike (hW : W = 5 ∨ W = 17) {b R : Nat} (hb : b ≤ 7) {sC sM : u_H} (hT : sC.2.2.1 = W) (h4 : sC.1 (W - 2) 4 = zi b) (h48 : sM.1 65 48 = zi b) (hR : aR b R (nR sC.1) (sM.1 85)) (x : Int32) : (∃ p, p < b ∧ x = zi p ∧ nR sC.1 (7 + p) = zi 0 ∧ u_c 30 [.inr (.inr 2), .inl x] sC = some (some (.inl (Int32.ofInt 1)), sC) ∧ u_c 235 [.inr (.inr 67), .inl x] sM = some (some (.inl (Int32.ofInt 1)), sM)) ∨ (u_c 30 [.inr (.inr 2), .inl x] sC = some (some (.inl (Int32.ofInt 0)), sC) ∧ u_c 235 [.inr (.inr 67), .inl x] sM = some (some (.inl (Int32.ofInt 0)), sM)) := by
  have n1 : ¬ Int32.ofInt 1 = 0 := by decide
  rcases isPair_alike hW hb hT h4 h48 x with ⟨p, hp, e, e1, e2⟩ | ⟨e1, e2⟩
  · obtain ⟨h, hh, x1, x2⟩ := hR.2.1 p hp
    have c30 : sC.1 30 p = zi h := (nRh (by omega)).symm.trans x1
    have i7 : u_in (zi p) 7 = true := (u_inz (by omega)).mpr (by omega)
    have i9 : u_in (zi (9 + p)) 28 = true := (u_inz (by omega)).mpr (by omega)
    have k7 : (zi p).toNatClampNeg = p := zi_clamp (by omega)
    have k9 : (zi (9 + p)).toNatClampNeg = 9 + p := zi_clamp (by omega)
    have z9 : Int32.ofInt 9 = zi 9 := rfl
    by_cases z : h = 0
    · subst z
      refine Or.inl ⟨p, hp, e, x1, ?_, ?_⟩
      · rw [b_30, e1, u_biS, if_neg n1, e, if_pos i7, k7, c30, if_pos (show zi 0 = 0 from rfl)]
      · rw [b_235, e2, u_biS, if_neg n1, e, z9, zi_add, if_pos i9, k9, x2, if_pos (show zi 0 = 0 from rfl)]
    · have ne : ¬ zi h = 0 := fun q => z ((zi_eq0 (by omega)).mp q)
      refine Or.inr ⟨?_, ?_⟩
      · rw [b_30, e1, u_biS, if_neg n1, e, if_pos i7, k7, c30, if_neg ne]
      · rw [b_235, e2, u_biS, if_neg n1, e, z9, zi_add, if_pos i9, k9, x2, if_neg ne]
  · refine Or.inr ⟨?_, ?_⟩
    · rw [b_30, e1, u_biS, if_pos (show Int32.ofInt 0 = 0 by decide)]
    · rw [b_235, e2, u_biS, if_pos (show Int32.ofInt 0 = 0 by decide)]
end WHO
