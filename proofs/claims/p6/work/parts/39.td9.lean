/-! the model's formula: its tokens -/
section MT
variable {ch : Nat → Int32} {n : Nat} {s : u_H} {τ : f_T}
theorem m_next (hT : tx_T ch n) (h : mN ch n τ s) (hM : tM ch n s) : ∃ s2, u_c 309 [.inr (.inr 67)] s = some (none, s2) ∧ mN ch n (tx_tk ch n τ.2.2.2) s2 ∧ tM ch n s2 ∧ u_fr tx_M s s2 := by
  obtain ⟨hV, m1, m2, m3, m4, m5, m6, m7⟩ := h
  obtain ⟨sM2, eM, kM⟩ := m_token hT hM m3 hV.2.1
  obtain ⟨b1, b2, b3, b4, b5, b6⟩ := kM
  have frM : u_fr tx_M s sM2 := b6.mono (fun o k q => ⟨q.1, by have := q.2; omega⟩)
  refine ⟨sM2, eM, ⟨tx_Vat hT (tx_q_le hV.2.1), b1, b2, b3, b4, b5, ?_, ?_⟩, tM_fr hM frM (fun q => by have := q.2; omega) (fun k q => by have := q.1; omega), frM⟩
  · rw [b6.i (fun q => by have := q.2; omega)]
    exact m6
  · rw [b6.i (fun q => by have := q.2; omega)]
    exact m7
def tx_X (o k : Nat) : Prop := o = 65 ∧ (k = 2 ∨ k = 3)
/-- refuses -/
theorem m_wrong (h : mN ch n τ s) : ∃ s2, u_c 324 [.inr (.inr 67), .inl (Int32.ofInt 2)] s = some (none, s2) ∧ s2.1 65 2 = zi (if τ.2.1 = 276 then 1 else 2) ∧ s2.1 65 3 = zi τ.1 ∧ u_fr tx_X s s2 := by
  obtain ⟨hV, m1, m2, m3, m4, m5, m6, m7⟩ := h
  by_cases hk : τ.2.1 = 276
  · refine ⟨(y_u (y_u s.1 65 2 (Int32.ofInt 1)) 65 3 (s.1 65 7), s.2), ?_, ?_, ?_, u_fr.wi (u_fr.wi (f := s.1) (r := s.2) u_fr.rf ⟨rfl, by omega⟩) ⟨rfl, by omega⟩⟩
    · rw [b_324, m6, if_neg z_lt00, m2, hk, if_pos (show tx_so 276 = Int32.ofInt 3 from rfl)]
    · show y_u (y_u s.1 65 2 (Int32.ofInt 1)) 65 3 (s.1 65 7) 65 2 = _
      rw [y_uN (by omega), y_uE, if_pos hk]
      rfl
    · show y_u (y_u s.1 65 2 (Int32.ofInt 1)) 65 3 (s.1 65 7) 65 3 = _
      rw [y_uE, m1]
  · refine ⟨(y_u (y_u s.1 65 2 (Int32.ofInt 2)) 65 3 (s.1 65 7), s.2), ?_, ?_, ?_, u_fr.wi (u_fr.wi (f := s.1) (r := s.2) u_fr.rf ⟨rfl, by omega⟩) ⟨rfl, by omega⟩⟩
    · rw [b_324, m6, if_neg z_lt00, m2, if_neg (tx_so3 hV hk)]
    · show y_u (y_u s.1 65 2 (Int32.ofInt 2)) 65 3 (s.1 65 7) 65 2 = _
      rw [y_uN (by omega), y_uE, if_neg hk]
      rfl
    · show y_u (y_u s.1 65 2 (Int32.ofInt 2)) 65 3 (s.1 65 7) 65 3 = _
      rw [y_uE, m1]
/-- a word -/
theorem m_word (h : mN ch n τ s) {i N : Nat} {w : List Nat} (hi : tx_words[i]? = some w) (hN : tx_nW w = N) : u_c 238 [.inr (.inr 67), .inr (.inl (u_k6 N))] s = some (some (.inl (zb (decide (τ.2.1 = 256 + i)))), s) := by
  obtain ⟨sC, hj⟩ := mN_j h
  exact m_isw hj hi hN
theorem m_cmp (h : mN ch n τ s) {i N : Nat} {w : List Nat} (hi : tx_words[i]? = some w) (hN : tx_nW w = N) (h1 : 256 ≤ τ.2.1 ∧ τ.2.1 ≤ 273) : lg_cmp (s.2.1 65 9) (u_k6 N) = 0 ↔ τ.2.1 = 256 + i := by
  obtain ⟨hV, m1, m2, m3, m4, m5, m6, m7⟩ := h
  have hw := tx_wN hi
  obtain ⟨v1, v2, v3⟩ := hV.2.2.2.2.2.1 h1.1 h1.2
  rw [u_k6_eq, m5 h1.1 h1.2, ← hN]
  refine (lg_cmp_eq _ _).trans ((tx_nWi v1 hw.1 v2 hw.2).trans ?_)
  rw [← tx_kwi hi, v3]
  omega
/-- sign -/
theorem m_sign (h : mN ch n τ s) : u_c 300 [.inr (.inr 67)] s = some (some (.inl (zi (if f_sg τ.2.1 then fe τ.2.1 else 0))), s) := by
  have hs : ∀ c : Nat, 30 < c → c < 100 → (s.1 65 6 = zi c ↔ τ.2.1 = c) := fun c a b => by
    rw [h.2.2.1]
    exact tx_soS h.1 a b
  have h60 : s.1 65 6 = Int32.ofInt 60 ↔ τ.2.1 = 60 := hs 60 (by omega) (by omega)
  have h62 : s.1 65 6 = Int32.ofInt 62 ↔ τ.2.1 = 62 := hs 62 (by omega) (by omega)
  have h61 : s.1 65 6 = Int32.ofInt 61 ↔ τ.2.1 = 61 := hs 61 (by omega) (by omega)
  have h43 : s.1 65 6 = Int32.ofInt 43 ↔ τ.2.1 = 43 := hs 43 (by omega) (by omega)
  have h45 : s.1 65 6 = Int32.ofInt 45 ↔ τ.2.1 = 45 := hs 45 (by omega) (by omega)
  have h42 : s.1 65 6 = Int32.ofInt 42 ↔ τ.2.1 = 42 := hs 42 (by omega) (by omega)
  have h47 : s.1 65 6 = Int32.ofInt 47 ↔ τ.2.1 = 47 := hs 47 (by omega) (by omega)
  have h37 : s.1 65 6 = Int32.ofInt 37 ↔ τ.2.1 = 37 := hs 37 (by omega) (by omega)
  rw [b_300, m_word h (i := 15) (N := 6385252) (w := [1, 14, 4]) rfl rfl, u_biS]
  by_cases k1 : τ.2.1 = 271
  · rw [decide_eq_true (show τ.2.1 = 256 + 15 from k1), if_neg zb_yes, k1]
    rfl
  rw [decide_eq_false (show ¬ τ.2.1 = 256 + 15 from k1), if_pos zb_no, m_word h (i := 14) (N := 28530) (w := [15, 18]) rfl rfl, u_biS]
  by_cases k2 : τ.2.1 = 270
  · rw [decide_eq_true (show τ.2.1 = 256 + 14 from k2), if_neg zb_yes, k2]
    rfl
  rw [decide_eq_false (show ¬ τ.2.1 = 256 + 14 from k2), if_pos zb_no]
  by_cases c60 : τ.2.1 = 60
  · rw [if_pos (h60.mpr c60), h60.mpr c60, c60]
    rfl
  rw [if_neg (fun q => c60 (h60.mp q))]
  by_cases c62 : τ.2.1 = 62
  · rw [if_pos (h62.mpr c62), h62.mpr c62, c62]
    rfl
  rw [if_neg (fun q => c62 (h62.mp q))]
  by_cases c61 : τ.2.1 = 61
  · rw [if_pos (h61.mpr c61), h61.mpr c61, c61]
    rfl
  rw [if_neg (fun q => c61 (h61.mp q))]
  by_cases c43 : τ.2.1 = 43
  · rw [if_pos (h43.mpr c43), h43.mpr c43, c43]
    rfl
  rw [if_neg (fun q => c43 (h43.mp q))]
  by_cases c45 : τ.2.1 = 45
  · rw [if_pos (h45.mpr c45), h45.mpr c45, c45]
    rfl
  rw [if_neg (fun q => c45 (h45.mp q))]
  by_cases c42 : τ.2.1 = 42
  · rw [if_pos (h42.mpr c42), h42.mpr c42, c42]
    rfl
  rw [if_neg (fun q => c42 (h42.mp q))]
  by_cases c47 : τ.2.1 = 47
  · rw [if_pos (h47.mpr c47), h47.mpr c47, c47]
    rfl
  rw [if_neg (fun q => c47 (h47.mp q))]
  by_cases c37 : τ.2.1 = 37
  · rw [if_pos (h37.mpr c37), h37.mpr c37, c37]
    rfl
  rw [if_neg (fun q => c37 (h37.mp q)), if_neg (fun q : f_sg τ.2.1 => ?_)]
  · rfl
  · obtain ⟨q1, q2⟩ := q
    unfold f_ti at q1
    repeat' split at q1
    all_goals omega
noncomputable def fa (k : Nat) : Int32 := if k = 263 then Int32.ofInt 0 else if k = 264 then Int32.ofInt 1 else if k = 262 then Int32.ofInt 2 else if k = 265 then Int32.ofInt 3 else if k = 266 then Int32.ofInt 4 else if k = 267 then Int32.ofInt 5 else u_k (-1)
/-- asked -/
theorem m_asked (h : mN ch n τ s) : u_c 180 [.inr (.inr 67)] s = some (some (.inl (fa τ.2.1)), s) := by
  rw [b_180, h.2.2.1]
  by_cases h1 : 256 ≤ τ.2.1 ∧ τ.2.1 ≤ 273
  · have q1 := m_cmp h (i := 7) (N := 474147546227) (w := [14, 5, 5, 4, 19]) rfl rfl h1
    have q2 := m_cmp h (i := 8) (N := 1819244133) (w := [12, 15, 22, 5]) rfl rfl h1
    have q3 := m_cmp h (i := 6) (N := 109356099333997) (w := [3, 21, 19, 20, 15, 13]) rfl rfl h1
    have q4 := m_cmp h (i := 9) (N := 108187682958948) (w := [2, 5, 8, 9, 14, 4]) rfl rfl h1
    have q5 := m_cmp h (i := 10) (N := 1818584692) (w := [12, 5, 6, 20]) rfl rfl h1
    have q6 := m_cmp h (i := 11) (N := 120299592184933) (w := [13, 9, 14, 21, 20, 5]) rfl rfl h1
    rw [if_pos ((tx_so1 h.1).mpr h1)]
    unfold fa
    by_cases c1 : τ.2.1 = 263
    · rw [if_pos (q1.mpr c1), if_pos c1]
    rw [if_neg (fun q => c1 (q1.mp q)), if_neg c1]
    by_cases c2 : τ.2.1 = 264
    · rw [if_pos (q2.mpr c2), if_pos c2]
    rw [if_neg (fun q => c2 (q2.mp q)), if_neg c2]
    by_cases c3 : τ.2.1 = 262
    · rw [if_pos (q3.mpr c3), if_pos c3]
    rw [if_neg (fun q => c3 (q3.mp q)), if_neg c3]
    by_cases c4 : τ.2.1 = 265
    · rw [if_pos (q4.mpr c4), if_pos c4]
    rw [if_neg (fun q => c4 (q4.mp q)), if_neg c4]
    by_cases c5 : τ.2.1 = 266
    · rw [if_pos (q5.mpr c5), if_pos c5]
    rw [if_neg (fun q => c5 (q5.mp q)), if_neg c5]
    by_cases c6 : τ.2.1 = 267
    · rw [if_pos (q6.mpr c6), if_pos c6]
    rw [if_neg (fun q => c6 (q6.mp q)), if_neg c6]
  · rw [if_neg (fun q => h1 ((tx_so1 h.1).mp q))]
    unfold fa
    rw [if_neg (by omega), if_neg (by omega), if_neg (by omega), if_neg (by omega), if_neg (by omega), if_neg (by omega)]
end MT
