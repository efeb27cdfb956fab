/-! the model's token -/
section MT
variable {ch : Nat → Int32} {n : Nat}
theorem tM_w {s : u_H} {o k : Nat} {x : Int32} {r : (Nat → Nat → Int64) × u_K} (hM : tM ch n s) (h1 : ¬ (o = 65 ∧ k = 5)) (h2 : o ≠ 66) : tM ch n (y_u s.1 o k x, r) := ⟨(y_uN (fun e => h1 ⟨e.1.symm, e.2.symm⟩)).trans hM.1, fun j hj => (y_uN (fun e => h2 e.1.symm)).trans (hM.2 j hj)⟩
theorem tM_l {s : u_H} {g : Nat → Nat → Int64} {r : u_K} (hM : tM ch n s) : tM ch n (s.1, g, r) := ⟨hM.1, hM.2⟩
theorem t_blC {c : Int32} : t_bl c = true ↔ c = Int32.ofInt 32 ∨ c = Int32.ofInt 10 := by
  unfold t_bl
  rw [Bool.or_eq_true, decide_eq_true_iff, decide_eq_true_iff]
theorem m_tok0 (hT : tx_T ch n) {li : Nat → Int32} {ll : Nat → Int64} : ∀ (f p : Nat) (s : u_H), n - p ≤ f → p ≤ n → tM ch n s → s.1 65 4 = zi p → u g_t309 0 (li, ll, [(0, 67)]) [] s = u g_t309 0 (li, ll, [(0, 67)]) [] (y_u s.1 65 4 (zi (tx_q ch n p)), s.2) := by
  have hn := hT.1
  intro f
  induction f with
  | zero =>
    intro p s hf hp hM ha
    have e : tx_q ch n p = p := by
      unfold tx_q t_len
      rw [show n - p = 0 by omega]
      rfl
    rw [e, y_uid ha]
  | succ f ih =>
    intro p s hf hp hM ha
    cases hb : t_bl (ch p) with
    | false =>
      have e : tx_q ch n p = p := by
        unfold tx_q
        rw [t_len_no hT t_blN hb, Nat.add_zero]
      rw [e, y_uid ha]
    | true =>
      obtain ⟨h1, h2⟩ := t_len_yes hT t_blN hb
      have e : tx_q ch n p = tx_q ch n (p + 1) := by
        unfold tx_q
        omega
      have ha2 : (y_u s.1 65 4 (zi (p + 1)) : Nat → Nat → Int32) 65 4 = zi (p + 1) := y_uE _ _ _ _
      have ih2 := ih (p + 1) (y_u s.1 65 4 (zi (p + 1)), s.2) (by omega) (by omega) (tM_w hM (by omega) (by omega)) ha2
      have hh : u_c 219 [.inr (.inr 67), .inl (Int32.ofInt 0)] s = some (some (.inl (ch p)), s) := m_here (k := 0) hT hM ha (by omega)
      have step : u g_t309 0 (li, ll, [(0, 67)]) [] s = u g_t309 0 (li, ll, [(0, 67)]) [] (y_u s.1 65 4 (zi (p + 1)), s.2) := by
        rw [b_309_0 li ll s, hh, u_biS, ha, zi_one]
        rcases t_blC.mp hb with c | c
        · rw [if_pos c]
        · have c2 : ¬ ch p = Int32.ofInt 32 := by rw [c]; decide
          rw [if_neg c2, hh, u_biS, if_pos c, ha, zi_one]
      rw [step, ih2, e]
      dsimp only
      rw [y_uu]
/-- its letters -/
theorem m_tok78 (hT : tx_T ch n) {q : Nat} {ll : Nat → Int64} : ∀ (f i : Nat) (s : u_H) (li : Nat → Int32), n - (q + i) ≤ f → q + i ≤ n → li 2 = zi i → (∀ j, j < i → t_le (ch (q + j)) = true) → tM ch n s → s.1 65 4 = zi q → s.2.1 65 9 = zl (tx_nW (tx_let ch q (min i 8))) → ∃ m, m = i + t_len t_le ch n (q + i) ∧ u g_t309 78 (li, ll, [(0, 67)]) [] s = some (none, ((if 8 < m then y_u s.1 65 6 (Int32.ofInt 3) else y_u (y_u s.1 65 6 (Int32.ofInt 1)) 65 4 (zi (q + m))), y_u s.2.1 65 9 (zl (tx_nW (tx_let ch q (min m 8)))), s.2.2)) := by
  have hn := hT.1
  have no : ∀ (i : Nat) (s : u_H) (li : Nat → Int32), q + i ≤ n → li 2 = zi i → tM ch n s → s.1 65 4 = zi q → s.2.1 65 9 = zl (tx_nW (tx_let ch q (min i 8))) → t_le (ch (q + i)) = false → u g_t309 78 (li, ll, [(0, 67)]) [] s = some (none, ((if 8 < i then y_u s.1 65 6 (Int32.ofInt 3) else y_u (y_u s.1 65 6 (Int32.ofInt 1)) 65 4 (zi (q + i))), y_u s.2.1 65 9 (zl (tx_nW (tx_let ch q (min i 8)))), s.2.2)) := by
    intro i s li hi hl hM ha hw hc
    have hh : u_c 219 [.inr (.inr 67), .inl (zi i)] s = some (some (.inl (ch (q + i))), s) := m_here hT hM ha (by omega)
    rw [b_309_78 li ll s, hl, hh, u_biS, m_le, hc, u_biS, if_pos zb_no, y_uid hw]
    have e8 : Int32.ofInt 8 < zi i ↔ 8 < i := zi_lt (a := 8) (by omega) (by omega)
    by_cases h8 : 8 < i
    · rw [if_pos (e8.mpr h8), if_pos rfl, if_pos h8]
    · rw [if_neg (fun h => h8 (e8.mp h)), if_neg (show ¬ Int32.ofInt 1 = Int32.ofInt 3 by decide), if_neg h8, ha, zi_add]
  intro f
  induction f with
  | zero =>
    intro i s li hf hi hl hle hM ha hw
    have hc : t_le (ch (q + i)) = false := by rw [hT.2.2 _ (by omega)]; exact t_leN
    refine ⟨i, by rw [t_len_no hT t_leN hc, Nat.add_zero], no i s li hi hl hM ha hw hc⟩
  | succ f ih =>
    intro i s li hf hi hl hle hM ha hw
    cases hc : t_le (ch (q + i)) with
    | false => exact ⟨i, by rw [t_len_no hT t_leN hc, Nat.add_zero], no i s li hi hl hM ha hw hc⟩
    | true =>
      obtain ⟨h1, h2⟩ := t_len_yes hT t_leN hc
      have hh : u_c 219 [.inr (.inr 67), .inl (zi i)] s = some (some (.inl (ch (q + i))), s) := m_here hT hM ha (by omega)
      have hle2 : ∀ j, j < i + 1 → t_le (ch (q + j)) = true := by
        intro j hj
        rcases Nat.lt_or_ge j i with c | c
        · exact hle j c
        · rw [show j = i by omega]
          exact hc
      have e8 : zi i < Int32.ofInt 8 ↔ i < 8 := zi_lt (b := 8) (by omega) (by omega)
      have hl2 : (u_l1 li 2 (zi (i + 1))) 2 = zi (i + 1) := u_l1E _ _ _
      by_cases h8 : i < 8
      · have hd := tx_dz hT h1
        have hld := tx_leD hc
        have hnw : (s.2.1 65 9 <<< ((Int32.ofInt 8).toInt64 &&& 63) ||| (ch (q + i)).toInt64) = zl (tx_nW (tx_let ch q (min (i + 1) 8))) := by
          have hb := tx_bd i (tx_let ch q i) (by rw [tx_letL]; exact Nat.le_refl i) (tx_letO i hle)
          have hb2 : tx_nW (tx_let ch q i) < 36028797018963968 := by
            have : tx_nW (tx_let ch q i) < 123 * 256 ^ 6 + 1 := by
              rcases (show i = 0 ∨ i = 1 ∨ i = 2 ∨ i = 3 ∨ i = 4 ∨ i = 5 ∨ i = 6 ∨ i = 7 by omega) with rfl | rfl | rfl | rfl | rfl | rfl | rfl | rfl <;> (have := hb.2; simp at this ⊢; omega)
            omega
          rw [hw, hd.1, zi_long (by omega), Nat.min_eq_left (by omega), zl_shl hb2 (by omega), Nat.min_eq_left (by omega)]
          show _ = zl (tx_nW (tx_let ch q i ++ [tx_d ch (q + i) - 96]))
          rw [tx_nWc, show tx_d ch (q + i) - 96 + 96 = tx_d ch (q + i) by omega]
        have hw2 : (y_u s.2.1 65 9 (zl (tx_nW (tx_let ch q (min (i + 1) 8)))) : Nat → Nat → Int64) 65 9 = zl (tx_nW (tx_let ch q (min (i + 1) 8))) := y_uE _ _ _ _
        obtain ⟨m, hm, hu⟩ := ih (i + 1) (s.1, y_u s.2.1 65 9 (zl (tx_nW (tx_let ch q (min (i + 1) 8)))), s.2.2) (u_l1 li 2 (zi (i + 1))) (by omega) (by omega) hl2 hle2 (tM_l hM) ha hw2
        refine ⟨m, by rw [hm, show q + (i + 1) = q + i + 1 by omega]; omega, ?_⟩
        rw [b_309_78 li ll s, hl, hh, u_biS, m_le, hc, u_biS, if_neg zb_yes, if_pos (e8.mpr h8), hh, u_biS, hnw, zi_one, hu]
        dsimp only
        rw [y_uu]
      · have hmin : min (i + 1) 8 = min i 8 := by omega
        obtain ⟨m, hm, hu⟩ := ih (i + 1) s (u_l1 li 2 (zi (i + 1))) (by omega) (by omega) hl2 hle2 hM ha (by rw [hmin]; exact hw)
        refine ⟨m, by rw [hm, show q + (i + 1) = q + i + 1 by omega]; omega, ?_⟩
        rw [b_309_78 li ll s, hl, hh, u_biS, m_le, hc, u_biS, if_neg zb_yes, if_neg (fun h => h8 (e8.mp h)), zi_one, hu]
/-- its digits -/
theorem m_tok203 {s : u_H} {li : Nat → Int32} {ll : Nat → Int64} : u g_t309 203 (li, ll, [(0, 67)]) [.inr (.inr 67)] s = some (none, (y_u s.1 65 6 (Int32.ofInt 3), s.2)) := by
  rw [b_309_203, if_pos rfl]
theorem m_tok144 (hT : tx_T ch n) {q : Nat} {ll : Nat → Int64} : ∀ (f i : Nat) (s : u_H) (li : Nat → Int32), n - (q + i) ≤ f → q + i ≤ n → li 2 = zi i → tM ch n s → s.1 65 4 = zi q → s.1 65 8 = zi (tx_num ch q (min i 4)) → ∃ m, m = i + t_len t_di ch n (q + i) ∧ u g_t309 144 (li, ll, [(0, 67)]) [] s = some (none, ((if 4 < m ∨ t_le (ch (q + m)) = true then y_u (y_u s.1 65 8 (zi (tx_num ch q (min m 4)))) 65 6 (Int32.ofInt 3) else y_u (y_u (y_u s.1 65 8 (zi (tx_num ch q (min m 4)))) 65 6 (Int32.ofInt 2)) 65 4 (zi (q + m))), s.2)) := by
  have hn := hT.1
  have no : ∀ (i : Nat) (s : u_H) (li : Nat → Int32), q + i ≤ n → li 2 = zi i → tM ch n s → s.1 65 4 = zi q → s.1 65 8 = zi (tx_num ch q (min i 4)) → t_di (ch (q + i)) = false → u g_t309 144 (li, ll, [(0, 67)]) [] s = some (none, ((if 4 < i ∨ t_le (ch (q + i)) = true then y_u (y_u s.1 65 8 (zi (tx_num ch q (min i 4)))) 65 6 (Int32.ofInt 3) else y_u (y_u (y_u s.1 65 8 (zi (tx_num ch q (min i 4)))) 65 6 (Int32.ofInt 2)) 65 4 (zi (q + i))), s.2)) := by
    intro i s li hi hl hM ha hw hc
    have hh : u_c 219 [.inr (.inr 67), .inl (zi i)] s = some (some (.inl (ch (q + i))), s) := m_here hT hM ha (by omega)
    rw [b_309_144 li ll s, hl, hh, u_biS, m_di, hc, u_biS, if_pos zb_no, y_uid hw]
    have e4 : Int32.ofInt 4 < zi i ↔ 4 < i := zi_lt (a := 4) (by omega) (by omega)
    by_cases h4 : 4 < i
    · rw [if_pos (e4.mpr h4), m_tok203, if_pos (Or.inl h4)]
    · rw [if_neg (fun h => h4 (e4.mp h)), hh, u_biS, m_le, u_biS]
      cases hle : t_le (ch (q + i)) with
      | false =>
        rw [if_pos zb_no, if_neg (show ¬ Int32.ofInt 2 = Int32.ofInt 3 by decide), if_neg (fun h => h.elim h4 (fun q => by cases q)), ha, zi_add]
      | true => rw [if_neg zb_yes, m_tok203, if_pos (Or.inr rfl)]
  intro f
  induction f with
  | zero =>
    intro i s li hf hi hl hM ha hw
    have hc : t_di (ch (q + i)) = false := by rw [hT.2.2 _ (by omega)]; exact t_diN
    refine ⟨i, by rw [t_len_no hT t_diN hc, Nat.add_zero], no i s li hi hl hM ha hw hc⟩
  | succ f ih =>
    intro i s li hf hi hl hM ha hw
    cases hc : t_di (ch (q + i)) with
    | false => exact ⟨i, by rw [t_len_no hT t_diN hc, Nat.add_zero], no i s li hi hl hM ha hw hc⟩
    | true =>
      obtain ⟨h1, h2⟩ := t_len_yes hT t_diN hc
      have hh : u_c 219 [.inr (.inr 67), .inl (zi i)] s = some (some (.inl (ch (q + i))), s) := m_here hT hM ha (by omega)
      have e4 : zi i < Int32.ofInt 4 ↔ i < 4 := zi_lt (b := 4) (by omega) (by omega)
      have hl2 : (u_l1 li 2 (zi (i + 1))) 2 = zi (i + 1) := u_l1E _ _ _
      by_cases h4 : i < 4
      · have hd := tx_dz hT h1
        have hld := tx_diD hc
        have hnw : Int32.ofInt 10 * s.1 65 8 + ch (q + i) - Int32.ofInt 48 = zi (tx_num ch q (min (i + 1) 4)) := by
          rw [hw, hd.1, Nat.min_eq_left (by omega), Nat.min_eq_left (by omega)]
          show zi 10 * zi _ + zi _ - zi 48 = zi (tx_num ch q i * 10 + (tx_d ch (q + i) - 48))
          rw [zi_mul, zi_add, zi_sub (by omega)]
          congr 1
          omega
        have hw2 : (y_u s.1 65 8 (zi (tx_num ch q (min (i + 1) 4))) : Nat → Nat → Int32) 65 8 = zi (tx_num ch q (min (i + 1) 4)) := y_uE _ _ _ _
        have ha2 : (y_u s.1 65 8 (zi (tx_num ch q (min (i + 1) 4))) : Nat → Nat → Int32) 65 4 = zi q := (y_uN (by omega)).trans ha
        obtain ⟨m, hm, hu⟩ := ih (i + 1) (y_u s.1 65 8 (zi (tx_num ch q (min (i + 1) 4))), s.2) (u_l1 li 2 (zi (i + 1))) (by omega) (by omega) hl2 (tM_w hM (by omega) (by omega)) ha2 hw2
        refine ⟨m, by rw [hm, show q + (i + 1) = q + i + 1 by omega]; omega, ?_⟩
        rw [b_309_144 li ll s, hl, hh, u_biS, m_di, hc, u_biS, if_neg zb_yes, if_pos (e4.mpr h4), hh, u_biS, hnw, zi_one, hu]
        dsimp only
        rw [y_uu]
      · have hmin : min (i + 1) 4 = min i 4 := by omega
        obtain ⟨m, hm, hu⟩ := ih (i + 1) s (u_l1 li 2 (zi (i + 1))) (by omega) (by omega) hl2 hM ha (by rw [hmin]; exact hw)
        refine ⟨m, by rw [hm, show q + (i + 1) = q + i + 1 by omega]; omega, ?_⟩
        rw [b_309_144 li ll s, hl, hh, u_biS, m_di, hc, u_biS, if_neg zb_yes, if_neg (fun h => h4 (e4.mp h)), zi_one, hu]
end MT
