/-! the class's tokens -/
/-- the reader, but for which lines were told -/
def tx_P27 (o k : Nat) : Prop := o = 27 ∧ (2 ≤ k ∧ k ≠ 7)
section CT
variable {ch : Nat → Int32} {n : Nat}
theorem tC_w {s : u_H} {o k : Nat} {x : Int32} {r : (Nat → Nat → Int64) × u_K} (hM : tC ch n s) (h1 : o ≠ 1) (h2 : o ≠ 2) : tC ch n (y_u s.1 o k x, r) := ⟨(y_uN (fun e => h1 e.1.symm)).trans hM.1, fun j hj => by rw [show (y_u s.1 o k x, r).1 2 j = s.1 2 j from y_uN (fun e => h2 e.1.symm)]; exact hM.2 j hj⟩
theorem tC_l {s : u_H} {g : Nat → Nat → Int64} {r : u_K} (hM : tC ch n s) : tC ch n (s.1, g, r) := ⟨hM.1, hM.2⟩
theorem c_lim {li : Nat → Int32} {i : Nat} (hl : li 1 = zi i) (hi : i < 2147483648) : li 1 < u_k 1600 ↔ i < 1600 := by
  rw [hl, show u_k 1600 = zi 1600 from u_kz 1600]
  exact zi_lt hi (by omega)
theorem c_skip (hT : tx_T ch n) {ll : Nat → Int64} : ∀ (f i p : Nat) (s : u_H) (li : Nat → Int32), n - p ≤ f → i ≤ p → p ≤ n → li 1 = zi i → tC ch n s → s.1 27 2 = zi p → ∃ li2, u g_t105 2 (li, ll, [(0, 29)]) [] s = u g_t105 42 (li2, ll, [(0, 29)]) [] (y_u s.1 27 2 (zi (tx_q ch n p)), s.2) := by
  have hn := hT.1
  have no : ∀ (i p : Nat) (s : u_H) (li : Nat → Int32), i ≤ p → p ≤ n → li 1 = zi i → tC ch n s → s.1 27 2 = zi p → t_bl (ch p) = false → ∃ li2, u g_t105 2 (li, ll, [(0, 29)]) [] s = u g_t105 42 (li2, ll, [(0, 29)]) [] (y_u s.1 27 2 (zi (tx_q ch n p)), s.2) := by
    intro i p s li hi hp hl hC ha hb
    have e : tx_q ch n p = p := by
      unfold tx_q
      rw [t_len_no hT t_blN hb, Nat.add_zero]
    refine ⟨li, ?_⟩
    rw [e, y_uid ha, b_105_2]
    by_cases hlim : li 1 < u_k 1600
    · rw [if_pos hlim, ha, c_byte hT hC (by omega), u_biS, c_bl, u_biS, hb, if_pos zb_no]
    · rw [if_neg hlim]
  intro f
  induction f with
  | zero =>
    intro i p s li hf hi hp hl hC ha
    exact no i p s li hi hp hl hC ha (by rw [hT.2.2 p (by omega)]; exact t_blN)
  | succ f ih =>
    intro i p s li hf hi hp hl hC ha
    cases hb : t_bl (ch p) with
    | false => exact no i p s li hi hp hl hC ha hb
    | true =>
      obtain ⟨h1, h2⟩ := t_len_yes hT t_blN hb
      have e : tx_q ch n p = tx_q ch n (p + 1) := by
        unfold tx_q
        omega
      have ha2 : (y_u s.1 27 2 (zi (p + 1)) : Nat → Nat → Int32) 27 2 = zi (p + 1) := y_uE _ _ _ _
      obtain ⟨li2, hu⟩ := ih (i + 1) (p + 1) (y_u s.1 27 2 (zi (p + 1)), s.2) (u_l1 li 1 (zi (i + 1))) (by omega) (by omega) (by omega) (u_l1E _ _ _) (tC_w hC (by omega) (by omega)) ha2
      refine ⟨li2, ?_⟩
      rw [b_105_2, if_pos ((c_lim hl (by omega)).mpr (by omega)), ha, c_byte hT hC (by omega), u_biS, c_bl, u_biS, hb, if_neg zb_yes, hl, zi_one, ha, zi_one, hu, e]
      dsimp only
      rw [y_uu]
theorem c_word (hT : tx_T ch n) {q : Nat} : ∀ (f i : Nat) (s : u_H) (li : Nat → Int32) (ll : Nat → Int64), n - (q + i) ≤ f → q + i ≤ n → li 1 = zi i → (∀ j, j < i → t_le (ch (q + j)) = true) → tC ch n s → s.1 27 2 = zi (q + i) → s.2.1 27 6 = zl (tx_nN (tx_let ch q i)) → ∃ m li2, m = i + t_len t_le ch n (q + i) ∧ u g_t129 7 (li, ll, [(0, 29)]) [] s = u g_t129 77 (li2, ll, [(0, 29)]) [] (y_u s.1 27 2 (zi (q + m)), y_u s.2.1 27 6 (zl (tx_nN (tx_let ch q m))), s.2.2) := by
  have hn := hT.1
  have no : ∀ (i : Nat) (s : u_H) (li : Nat → Int32) (ll : Nat → Int64), q + i ≤ n → li 1 = zi i → tC ch n s → s.1 27 2 = zi (q + i) → s.2.1 27 6 = zl (tx_nN (tx_let ch q i)) → t_le (ch (q + i)) = false → u g_t129 7 (li, ll, [(0, 29)]) [] s = u g_t129 77 (li, ll, [(0, 29)]) [] (y_u s.1 27 2 (zi (q + i)), y_u s.2.1 27 6 (zl (tx_nN (tx_let ch q i))), s.2.2) := by
    intro i s li ll hp hl hC ha hw hb
    rw [y_uid ha, y_uid hw, b_129_7]
    by_cases hlim : li 1 < u_k 1600
    · rw [if_pos hlim, ha, c_byte hT hC (by omega), u_biS, c_le, u_biS, hb, if_pos zb_no]
    · rw [if_neg hlim]
  intro f
  induction f with
  | zero =>
    intro i s li ll hf hi hl hle hC ha hw
    have hc : t_le (ch (q + i)) = false := by rw [hT.2.2 _ (by omega)]; exact t_leN
    exact ⟨i, li, by rw [t_len_no hT t_leN hc, Nat.add_zero], no i s li ll hi hl hC ha hw hc⟩
  | succ f ih =>
    intro i s li ll hf hi hl hle hC ha hw
    cases hc : t_le (ch (q + i)) with
    | false => exact ⟨i, li, by rw [t_len_no hT t_leN hc, Nat.add_zero], no i s li ll hi hl hC ha hw hc⟩
    | true =>
      obtain ⟨h1, h2⟩ := t_len_yes hT t_leN hc
      have hd := tx_dz hT h1
      have hld := tx_leD hc
      have hle2 : ∀ j, j < i + 1 → t_le (ch (q + j)) = true := by
        intro j hj
        rcases Nat.lt_or_ge j i with c | c
        · exact hle j c
        · rw [show j = i by omega]
          exact hc
      have hnw : s.2.1 27 6 * u_k6 32 + (ch (q + i) - Int32.ofInt 97 + Int32.ofInt 1).toInt64 = zl (tx_nN (tx_let ch q (i + 1))) := by
        rw [hw, hd.1, u_k6_eq]
        show zl _ * zl 32 + (zi _ - zi 97 + Int32.ofInt 1).toInt64 = zl (tx_nN (tx_let ch q i ++ [tx_d ch (q + i) - 96]))
        rw [zi_sub (by omega), zi_one, zi_long (by omega), zl_mul, zl_add, tx_nNc, show tx_d ch (q + i) - 97 + 1 = tx_d ch (q + i) - 96 by omega]
      have ha2 : (y_u s.1 27 2 (zi (q + i + 1)) : Nat → Nat → Int32) 27 2 = zi (q + (i + 1)) := y_uE _ _ _ _
      have hw2 : (y_u s.2.1 27 6 (zl (tx_nN (tx_let ch q (i + 1)))) : Nat → Nat → Int64) 27 6 = zl (tx_nN (tx_let ch q (i + 1))) := y_uE _ _ _ _
      obtain ⟨m, li2, hm, hu⟩ := ih (i + 1) (y_u s.1 27 2 (zi (q + i + 1)), y_u s.2.1 27 6 (zl (tx_nN (tx_let ch q (i + 1)))), s.2.2) (u_l1 li 1 (zi (i + 1))) ll (by omega) (by omega) (u_l1E _ _ _) hle2 (tC_w hC (by omega) (by omega)) ha2 hw2
      refine ⟨m, li2, by rw [hm, show q + (i + 1) = q + i + 1 by omega]; omega, ?_⟩
      rw [b_129_7, if_pos ((c_lim hl (by omega)).mpr (by omega)), ha, c_byte hT hC (by omega), u_biS, c_le, u_biS, hc, if_neg zb_yes, ha, c_byte hT hC (by omega), u_biS, hl, zi_one, ha, zi_one, hnw, hu]
      dsimp only
      rw [y_uu, y_uu]
theorem c_numb (hT : tx_T ch n) {q : Nat} : ∀ (f i : Nat) (s : u_H) (li : Nat → Int32) (ll : Nat → Int64), n - (q + i) ≤ f → q + i ≤ n → li 1 = zi i → tC ch n s → s.1 27 2 = zi (q + i) → s.1 27 5 = zi (tx_num ch q i) → ∃ m li2, m = i + t_len t_di ch n (q + i) ∧ u g_t128 7 (li, ll, [(0, 29)]) [] s = u g_t128 73 (li2, ll, [(0, 29)]) [] (y_u (y_u s.1 27 5 (zi (tx_num ch q m))) 27 2 (zi (q + m)), s.2) := by
  have hn := hT.1
  have no : ∀ (i : Nat) (s : u_H) (li : Nat → Int32) (ll : Nat → Int64), q + i ≤ n → li 1 = zi i → tC ch n s → s.1 27 2 = zi (q + i) → s.1 27 5 = zi (tx_num ch q i) → t_di (ch (q + i)) = false → u g_t128 7 (li, ll, [(0, 29)]) [] s = u g_t128 73 (li, ll, [(0, 29)]) [] (y_u (y_u s.1 27 5 (zi (tx_num ch q i))) 27 2 (zi (q + i)), s.2) := by
    intro i s li ll hp hl hC ha hw hb
    rw [y_uid hw, y_uid ha, b_128_7]
    by_cases hlim : li 1 < u_k 1600
    · rw [if_pos hlim, ha, c_byte hT hC (by omega), u_biS, c_di, u_biS, hb, if_pos zb_no]
    · rw [if_neg hlim]
  intro f
  induction f with
  | zero =>
    intro i s li ll hf hi hl hC ha hw
    have hc : t_di (ch (q + i)) = false := by rw [hT.2.2 _ (by omega)]; exact t_diN
    exact ⟨i, li, by rw [t_len_no hT t_diN hc, Nat.add_zero], no i s li ll hi hl hC ha hw hc⟩
  | succ f ih =>
    intro i s li ll hf hi hl hC ha hw
    cases hc : t_di (ch (q + i)) with
    | false => exact ⟨i, li, by rw [t_len_no hT t_diN hc, Nat.add_zero], no i s li ll hi hl hC ha hw hc⟩
    | true =>
      obtain ⟨h1, h2⟩ := t_len_yes hT t_diN hc
      have hd := tx_dz hT h1
      have hld := tx_diD hc
      have hnw : s.1 27 5 * Int32.ofInt 10 + (ch (q + i) - Int32.ofInt 48) = zi (tx_num ch q (i + 1)) := by
        rw [hw, hd.1]
        show zi _ * zi 10 + (zi _ - zi 48) = zi (tx_num ch q i * 10 + (tx_d ch (q + i) - 48))
        rw [zi_sub (by omega), zi_mul, zi_add]
      have ha2 : (y_u (y_u s.1 27 5 (zi (tx_num ch q (i + 1)))) 27 2 (zi (q + i + 1)) : Nat → Nat → Int32) 27 2 = zi (q + (i + 1)) := y_uE _ _ _ _
      have hw2 : (y_u (y_u s.1 27 5 (zi (tx_num ch q (i + 1)))) 27 2 (zi (q + i + 1)) : Nat → Nat → Int32) 27 5 = zi (tx_num ch q (i + 1)) := (y_uN (by omega)).trans (y_uE _ _ _ _)
      obtain ⟨m, li2, hm, hu⟩ := ih (i + 1) (y_u (y_u s.1 27 5 (zi (tx_num ch q (i + 1)))) 27 2 (zi (q + i + 1)), s.2) (u_l1 li 1 (zi (i + 1))) ll (by omega) (by omega) (u_l1E _ _ _) (tC_w (s := (y_u s.1 27 5 (zi (tx_num ch q (i + 1))), s.2)) (tC_w hC (by omega) (by omega)) (by omega) (by omega)) ha2 hw2
      refine ⟨m, li2, by rw [hm, show q + (i + 1) = q + i + 1 by omega]; omega, ?_⟩
      rw [b_128_7, if_pos ((c_lim hl (by omega)).mpr (by omega)), ha, c_byte hT hC (by omega), u_biS, c_di, u_biS, hc, if_neg zb_yes, ha, c_byte hT hC (by omega), u_biS, hl, zi_one, ha, zi_one, hnw, hu]
      dsimp only
      have e : ∀ (f : Nat → Nat → Int32) (a b c d : Int32), y_u (y_u (y_u (y_u f 27 5 a) 27 2 b) 27 5 c) 27 2 d = y_u (y_u f 27 5 c) 27 2 d := by
        intro f a b c d
        funext o2 k2
        simp only [y_u]
        repeat' split
        all_goals first
          | rfl
          | omega
      rw [e]
end CT
