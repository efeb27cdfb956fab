/-! BOTH READERS, STEP BY STEP: sC is what the class has come to, sM the model -/
def tx_V (ch : Nat → Int32) (n : Nat) (τ : f_T) : Prop := τ.1 ≤ n ∧ τ.2.2.2 ≤ n ∧ τ.1 ≤ τ.2.2.2 ∧ τ.2.2.1 < 10000 ∧ τ.2.1 ≤ 276 ∧ (256 ≤ τ.2.1 → τ.2.1 ≤ 273 → (tx_let ch τ.1 (τ.2.2.2 - τ.1)).length ≤ 8 ∧ tx_ok (tx_let ch τ.1 (τ.2.2.2 - τ.1)) ∧ τ.2.1 = 256 + tx_kw (tx_let ch τ.1 (τ.2.2.2 - τ.1))) ∧ (τ.2.1 ≠ 275 → τ.1 < n) ∧ (τ.2.1 ≠ 275 → τ.2.1 ≠ 276 → τ.1 < τ.2.2.2) ∧ (τ.2.1 < 256 → 30 < τ.2.1 ∧ τ.2.1 < 100)
def jN (ch : Nat → Int32) (n : Nat) (τ : f_T) (sC sM : u_H) : Prop := tx_V ch n τ ∧ (sC.1 27 3 = zi τ.1 ∧ sC.1 27 4 = zi τ.2.1 ∧ (τ.2.1 ≠ 276 → sC.1 27 2 = zi τ.2.2.2 ∧ sC.1 27 8 = 0 ∧ sC.1 27 9 = u_k (-1)) ∧ (τ.2.1 = 274 → sC.1 27 5 = zi τ.2.2.1) ∧ (256 ≤ τ.2.1 → τ.2.1 ≤ 273 → sC.2.1 27 6 = zl (tx_nN (tx_let ch τ.1 (τ.2.2.2 - τ.1)))) ∧ (τ.2.1 = 276 → sC.1 27 8 = Int32.ofInt 1 ∧ sC.1 27 9 = zi τ.1)) ∧ (sM.1 65 7 = zi τ.1 ∧ sM.1 65 6 = tx_so τ.2.1 ∧ sM.1 65 4 = zi τ.2.2.2 ∧ (τ.2.1 = 274 → sM.1 65 8 = zi τ.2.2.1) ∧ (256 ≤ τ.2.1 → τ.2.1 ≤ 273 → sM.2.1 65 9 = zl (tx_nW (tx_let ch τ.1 (τ.2.2.2 - τ.1)))) ∧ sM.1 65 2 = 0 ∧ sM.1 65 3 = u_k (-1))
def jC (f q : Nat) (sC sM : u_H) : Prop := 1 ≤ f ∧ f ≤ 5 ∧ q ≤ 1600 ∧ sC.1 27 8 = zi f ∧ sC.1 27 9 = zi q ∧ sC.1 27 4 = zi 276 ∧ sM.1 65 2 = zi f ∧ sM.1 65 3 = zi q
def jT (ch : Nat → Int32) (n W : Nat) (sC sM : u_H) : Prop := tC ch n sC ∧ tM ch n sM ∧ sC.2.2.2.2.1 = W
def jJ (ch : Nat → Int32) (n W : Nat) (sC sM : u_H) : Prop := jT ch n W sC sM ∧ ((∃ τ, jN ch n τ sC sM) ∨ ∃ f q, jC f q sC sM)
/-- the model's slots for tokens and faults -/
def tx_M (o k : Nat) : Prop := o = 65 ∧ (k = 2 ∨ k = 3 ∨ k = 4 ∨ (6 ≤ k ∧ k ≤ 9))
abbrev tx_C := tx_P27
theorem zf_pos {f : Nat} (h1 : 1 ≤ f) (h2 : f ≤ 5) : 0 < zi f := by
  rw [show (0 : Int32) = zi 0 from rfl, zi_lt (by omega) (by omega)]
  omega
theorem zf_ne {f : Nat} (h1 : 1 ≤ f) (h2 : f ≤ 5) : ¬ zi f = 0 := by
  rw [show (0 : Int32) = zi 0 from rfl, zi_inj (by omega) (by omega)]
  omega
theorem zk_iff {a b : Nat} (ha : a < 4000) (hb : b < 4000) : zi a = zi b ↔ a = b := zi_inj (by omega) (by omega)
theorem z_lt00 : ¬ (0 : Int32) < 0 := by decide
theorem jT_fr {P Q : Nat → Nat → Prop} {ch : Nat → Int32} {n W : Nat} {sC sM sC2 sM2 : u_H} (h : jT ch n W sC sM) (h1 : u_fr P sC sC2) (h2 : u_fr Q sM sM2) (p1 : ¬ P 1 1) (p2 : ∀ k, ¬ P 2 k) (q1 : ¬ Q 65 5) (q2 : ∀ k, ¬ Q 66 k) : jT ch n W sC2 sM2 := ⟨tC_fr h.1 h1 p1 p2, tM_fr h.2.1 h2 q1 q2, by rw [h1.2]; exact h.2.2⟩
theorem tx_Cn (o k : Nat) (h : o ≠ 27) : ¬ tx_C o k := fun q => h q.1
theorem tx_Cnn {o k : Nat} (h : o ≠ 27) : ¬ tx_C o k := fun q => h q.1
theorem tx_Mn (o k : Nat) (h : o ≠ 65) : ¬ tx_M o k := fun q => h q.1
theorem jT_fr2 {ch : Nat → Int32} {n W : Nat} {sC sM sC2 sM2 : u_H} (h : jT ch n W sC sM) (h1 : u_fr tx_C sC sC2) (h2 : u_fr tx_M sM sM2) : jT ch n W sC2 sM2 := jT_fr h h1 h2 (tx_Cn _ _ (by omega)) (fun k => tx_Cn _ _ (by omega)) (fun q => by have := q.2; omega) (fun k => tx_Mn _ _ (by omega))
theorem tx_Vat {ch : Nat → Int32} {n q : Nat} (hT : tx_T ch n) (hq : q ≤ n) : tx_V ch n (tx_at ch n q) := by
  unfold tx_at tx_V
  by_cases h0 : n ≤ q
  · rw [if_pos h0]
    dsimp only
    exact ⟨hq, hq, Nat.le_refl _, by omega, by omega, fun _ h => absurd h (by omega), fun h => absurd rfl h, fun h => absurd rfl h, fun h => absurd h (by omega)⟩
  · rw [if_neg h0]
    have bad : ∀ τ : f_T, τ = (q, 276, 0, q) → τ.1 ≤ n ∧ τ.2.2.2 ≤ n ∧ τ.1 ≤ τ.2.2.2 ∧ τ.2.2.1 < 10000 ∧ τ.2.1 ≤ 276 ∧ (256 ≤ τ.2.1 → τ.2.1 ≤ 273 → (tx_let ch τ.1 (τ.2.2.2 - τ.1)).length ≤ 8 ∧ tx_ok (tx_let ch τ.1 (τ.2.2.2 - τ.1)) ∧ τ.2.1 = 256 + tx_kw (tx_let ch τ.1 (τ.2.2.2 - τ.1))) ∧ (τ.2.1 ≠ 275 → τ.1 < n) ∧ (τ.2.1 ≠ 275 → τ.2.1 ≠ 276 → τ.1 < τ.2.2.2) ∧ (τ.2.1 < 256 → 30 < τ.2.1 ∧ τ.2.1 < 100) := by
      rintro τ rfl
      exact ⟨hq, hq, Nat.le_refl _, (show 0 < 10000 by omega), Nat.le_refl 276, fun _ h => absurd h (by show ¬ 276 ≤ 273; omega), fun _ => by show q < n; omega, fun _ h => absurd rfl h, fun h => absurd h (by show ¬ 276 < 256; omega)⟩
    by_cases h1 : t_le (ch q) = true
    · rw [if_pos h1]
      by_cases h8 : 8 < t_len t_le ch n q
      · rw [if_pos h8]
        exact bad _ rfl
      · rw [if_neg h8]
        have hl := t_len_le (ok := t_le) (ch := ch) (n := n) (p := q) hq
        have hk := tx_kw17 (tx_let ch q (t_len t_le ch n q))
        have hp := (t_len_yes hT t_leN h1).2
        have e : ∀ m : Nat, q + m - q = m := fun m => by omega
        dsimp only
        refine ⟨hq, hl, by omega, by omega, by omega, fun _ _ => ⟨by rw [e, tx_letL]; omega, ?_, by rw [e]⟩, fun _ => by omega, fun _ _ => by omega, fun h => absurd h (by omega)⟩
        rw [e]
        exact tx_letO _ (fun i hi => t_len_in hT t_leN (n - q) q i (Nat.le_refl _) hi)
    · rw [if_neg h1]
      by_cases h2 : t_di (ch q) = true
      · rw [if_pos h2]
        by_cases h4 : 4 < t_len t_di ch n q ∨ t_le (ch (q + t_len t_di ch n q)) = true
        · rw [if_pos h4]
          exact bad _ rfl
        · rw [if_neg h4]
          have hl := t_len_le (ok := t_di) (ch := ch) (n := n) (p := q) hq
          have hp := (t_len_yes hT t_diN h2).2
          have hd : ∀ i, i < t_len t_di ch n q → tx_d ch (q + i) - 48 ≤ 9 := fun i hi => by
            have := tx_diD (t_len_in hT t_diN (n - q) q i (Nat.le_refl _) hi)
            omega
          have hnum : ∀ m, m ≤ t_len t_di ch n q → tx_num ch q m < 10 ^ m := by
            intro m
            induction m with
            | zero => intro _; exact Nat.zero_lt_one
            | succ m ih =>
              intro hm
              have i1 := ih (by omega)
              have i2 := hd m (by omega)
              show tx_num ch q m * 10 + (tx_d ch (q + m) - 48) < 10 ^ (m + 1)
              rw [Nat.pow_succ]
              omega
          have h5 := hnum _ (Nat.le_refl _)
          have h6 : 10 ^ t_len t_di ch n q ≤ 10 ^ 4 := Nat.pow_le_pow_right (by omega) (by omega)
          dsimp only
          exact ⟨hq, hl, by omega, by omega, by omega, fun _ h => absurd h (by omega), fun _ => by omega, fun _ _ => by omega, fun h => absurd h (by omega)⟩
      · rw [if_neg h2]
        by_cases h3 : tx_sg (ch q) = true
        · rw [if_pos h3]
          have := tx_sgD h3
          dsimp only
          exact ⟨hq, by omega, by omega, by omega, by omega, fun h => absurd h (by omega), fun _ => by omega, fun _ _ => by omega, fun _ => by omega⟩
        · rw [if_neg h3]
          exact bad _ rfl
theorem tx_so3 {ch : Nat → Int32} {n : Nat} {τ : f_T} (hV : tx_V ch n τ) (hk : τ.2.1 ≠ 276) : ¬ tx_so τ.2.1 = Int32.ofInt 3 := by
  unfold tx_so
  by_cases h1 : τ.2.1 = 275
  · rw [if_pos h1]
    decide
  · rw [if_neg h1]
    by_cases h2 : τ.2.1 = 274
    · rw [if_pos h2]
      decide
    · rw [if_neg h2, if_neg hk]
      by_cases h3 : 256 ≤ τ.2.1
      · rw [if_pos h3]
        decide
      · rw [if_neg h3]
        have hsg := hV.2.2.2.2.2.2.2.2 (by omega)
        intro e
        have := (zi_inj (a := τ.2.1) (b := 3) (by omega) (by omega)).mp e
        omega
section PAIR
variable {ch : Nat → Int32} {n W : Nat} {sC sM : u_H}
/-- both go on to the next token -/
theorem p_next (hT : tx_T ch n) (hJ : jT ch n W sC sM) {τ : f_T} (h : jN ch n τ sC sM) (hk : τ.2.1 ≠ 276) : ∃ sC2 sM2, u_c 105 [.inr (.inr 29)] sC = some (none, sC2) ∧ u_c 309 [.inr (.inr 67)] sM = some (none, sM2) ∧ jT ch n W sC2 sM2 ∧ jN ch n (tx_tk ch n τ.2.2.2) sC2 sM2 ∧ u_fr tx_C sC sC2 ∧ u_fr tx_M sM sM2 := by
  obtain ⟨hV, ⟨c1, c2, c3, c4, c5, c6⟩, m1, m2, m3, m4, m5, m6, m7⟩ := h
  obtain ⟨c31, c32, c33⟩ := c3 hk
  obtain ⟨sC2, eC, kC⟩ := c_advance hT hJ.1 c31 hV.2.1 c32
  obtain ⟨sM2, eM, kM⟩ := m_token hT hJ.2.1 m3 hV.2.1
  obtain ⟨a1, a2, a3, a4, a5, a6, a7, a8⟩ := kC
  obtain ⟨b1, b2, b3, b4, b5, b6⟩ := kM
  have frC : u_fr tx_C sC sC2 := a7
  have frM : u_fr tx_M sM sM2 := b6.mono (fun o k q => ⟨q.1, by have := q.2; omega⟩)
  refine ⟨sC2, sM2, eC, eM, jT_fr2 hJ frC frM, ⟨tx_Vat hT (tx_q_le hV.2.1), ⟨a1, a2, fun h => ?_, a4, a5, a6⟩, b1, b2, b3, b4, b5, ?_, ?_⟩, frC, frM⟩
  · obtain ⟨x1, x2, x3⟩ := a3 h
    exact ⟨x1, x2, x3.trans c33⟩
  · rw [b6.i (fun q => by have := q.2; omega)]
    exact m6
  · rw [b6.i (fun q => by have := q.2; omega)]
    exact m7
/-- both refuse -/
theorem p_wrong (hJ : jJ ch n W sC sM) (hT : tx_T ch n) {x : Nat} (h1 : 1 ≤ x) (h5 : x ≤ 5) : ∃ sC2 sM2 f q, u_c 127 [.inr (.inr 29), .inl (zi x)] sC = some (none, sC2) ∧ u_c 324 [.inr (.inr 67), .inl (zi x)] sM = some (none, sM2) ∧ jT ch n W sC2 sM2 ∧ jC f q sC2 sM2 ∧ u_fr tx_C sC sC2 ∧ u_fr tx_M sM sM2 := by
  have hn := hT.1
  obtain ⟨hj, h | h⟩ := hJ
  · obtain ⟨τ, hV, ⟨c1, c2, c3, c4, c5, c6⟩, m1, m2, m3, m4, m5, m6, m7⟩ := h
    have hv1 := hV.1
    by_cases hk : τ.2.1 = 276
    · obtain ⟨x1, x2⟩ := c6 hk
      have frC : u_fr tx_C sC (y_u sC.1 27 4 (u_k 276), sC.2) := u_fr.wi (f := sC.1) (r := sC.2) u_fr.rf ⟨rfl, by omega⟩
      have frM : u_fr tx_M sM (y_u (y_u sM.1 65 2 (Int32.ofInt 1)) 65 3 (sM.1 65 7), sM.2) := u_fr.wi (u_fr.wi (f := sM.1) (r := sM.2) u_fr.rf ⟨rfl, by omega⟩) ⟨rfl, by omega⟩
      refine ⟨_, _, 1, τ.1, ?_, ?_, jT_fr2 hj frC frM, ⟨by omega, by omega, by omega, ?_, ?_, ?_, ?_, ?_⟩, frC, frM⟩
      · rw [b_127, x1, if_neg (by decide)]
      · rw [b_324, m6, if_neg z_lt00, m2, hk, if_pos (show tx_so 276 = Int32.ofInt 3 from rfl)]
      · simp [y_u]
        exact x1
      · simp [y_u, x2]
      · simp only [y_uE]
        exact u_kz 276
      · simp [y_u]
        rfl
      · simp [y_u, m1]
    · obtain ⟨x1, x2, x3⟩ := c3 hk
      have frC : u_fr tx_C sC (y_u (y_u (y_u sC.1 27 8 (zi x)) 27 9 (sC.1 27 3)) 27 4 (u_k 276), sC.2) := u_fr.wi (u_fr.wi (u_fr.wi (f := sC.1) (r := sC.2) u_fr.rf ⟨rfl, by omega⟩) ⟨rfl, by omega⟩) ⟨rfl, by omega⟩
      have frM : u_fr tx_M sM (y_u (y_u sM.1 65 2 (zi x)) 65 3 (sM.1 65 7), sM.2) := u_fr.wi (u_fr.wi (f := sM.1) (r := sM.2) u_fr.rf ⟨rfl, by omega⟩) ⟨rfl, by omega⟩
      have hso : ¬ tx_so τ.2.1 = Int32.ofInt 3 := by
        exact tx_so3 hV hk
      refine ⟨_, _, x, τ.1, ?_, ?_, jT_fr2 hj frC frM, ⟨h1, h5, by omega, ?_, ?_, ?_, ?_, ?_⟩, frC, frM⟩
      · rw [b_127, if_pos x2]
      · rw [b_324, m6, if_neg z_lt00, m2, if_neg hso]
      · simp [y_u]
      · simp [y_u, c1]
      · simp only [y_uE]
        exact u_kz 276
      · simp [y_u]
      · simp [y_u, m1]
  · obtain ⟨f, q, f1, f5, hq, k1, k2, k3, k4, k5⟩ := h
    have frC : u_fr tx_C sC (y_u sC.1 27 4 (u_k 276), sC.2) := u_fr.wi (f := sC.1) (r := sC.2) u_fr.rf ⟨rfl, by omega⟩
    refine ⟨_, _, f, q, ?_, ?_, jT_fr2 hj frC u_fr.rf, ⟨f1, f5, hq, ?_, ?_, ?_, k4, k5⟩, frC, u_fr.rf⟩
    · rw [b_127, k1, if_neg (zf_ne f1 f5)]
    · rw [b_324, k4, if_pos (zf_pos f1 f5)]
    · simp [y_u, k1]
    · simp [y_u, k2]
    · simp only [y_uE]
      exact u_kz 276
end PAIR
