/-! the model's token as a whole -/
def tx_P65 (o k : Nat) : Prop := o = 65 ∧ (k = 4 ∨ (6 ≤ k ∧ k ≤ 9))
def tkM (ch : Nat → Int32) (τ : f_T) (s s2 : u_H) : Prop := s2.1 65 7 = zi τ.1 ∧ s2.1 65 6 = tx_so τ.2.1 ∧ s2.1 65 4 = zi τ.2.2.2 ∧ (τ.2.1 = 274 → s2.1 65 8 = zi τ.2.2.1) ∧ (256 ≤ τ.2.1 → τ.2.1 ≤ 273 → s2.2.1 65 9 = zl (tx_nW (tx_let ch τ.1 (τ.2.2.2 - τ.1)))) ∧ u_fr tx_P65 s s2
theorem tx_kw17 (l : List Nat) : tx_kw l ≤ 17 := List.idxOf_le_length
theorem tx_sgS {c : Int32} (h : tx_sg c = true) : c = Int32.ofInt 59 ∨ c = Int32.ofInt 40 ∨ c = Int32.ofInt 41 ∨ c = Int32.ofInt 60 ∨ c = Int32.ofInt 62 ∨ c = Int32.ofInt 61 ∨ c = Int32.ofInt 43 ∨ c = Int32.ofInt 45 ∨ c = Int32.ofInt 42 ∨ c = Int32.ofInt 47 ∨ c = Int32.ofInt 37 := by
  unfold tx_sg at h
  simp only [Bool.or_eq_true, decide_eq_true_iff] at h
  exact h
theorem tx_sgD {ch : Nat → Int32} {k : Nat} (h : tx_sg (ch k) = true) : ch k = zi (tx_d ch k) ∧ tx_d ch k < 100 ∧ 30 < tx_d ch k := by
  have key : ∀ a : Nat, 30 < a → a < 100 → ch k = Int32.ofInt (a : Int) → ch k = zi (tx_d ch k) ∧ tx_d ch k < 100 ∧ 30 < tx_d ch k := by
    intro a h1 h2 e
    have e2 : tx_d ch k = a := by
      show (ch k).toInt.toNat = a
      rw [e, zi_of, zi_int (by omega)]
      rfl
    rw [e2]
    exact ⟨e, h2, h1⟩
  rcases tx_sgS h with e | e | e | e | e | e | e | e | e | e | e
  · exact key 59 (by omega) (by omega) e
  · exact key 40 (by omega) (by omega) e
  · exact key 41 (by omega) (by omega) e
  · exact key 60 (by omega) (by omega) e
  · exact key 62 (by omega) (by omega) e
  · exact key 61 (by omega) (by omega) e
  · exact key 43 (by omega) (by omega) e
  · exact key 45 (by omega) (by omega) e
  · exact key 42 (by omega) (by omega) e
  · exact key 47 (by omega) (by omega) e
  · exact key 37 (by omega) (by omega) e
theorem t_or {c a : Int32} {s : u_H} {X : u_R} {b : Bool} (h : X = some (some (.inl (zb b)), s)) : (if c = a then some (some (.inl (Int32.ofInt 1)), s) else X) = some (some (.inl (zb (decide (c = a) || b))), s) := by
  by_cases e : c = a
  · rw [if_pos e, decide_eq_true e]
    rfl
  · rw [if_neg e, decide_eq_false e, h]
    rfl
theorem t_or0 {c a : Int32} {s : u_H} : (if c = a then some (some (.inl (Int32.ofInt 1)), s) else some (some (.inl (Int32.ofInt 0)), s) : u_R) = some (some (.inl (zb (decide (c = a)))), s) := by
  by_cases e : c = a
  · rw [if_pos e, decide_eq_true e]
    rfl
  · rw [if_neg e, decide_eq_false e]
    rfl
theorem m_sg (c : Int32) (s : u_H) : u_c 237 [.inl c] s = some (some (.inl (zb (tx_sg c))), s) := (b_237 c s).trans (t_or (t_or (t_or (t_or (t_or (t_or (t_or (t_or (t_or (t_or t_or0))))))))))
theorem tx_q_le {ch : Nat → Int32} {n p : Nat} (hp : p ≤ n) : tx_q ch n p ≤ n := t_len_le hp
theorem tx_q_bl {ch : Nat → Int32} {n p : Nat} (hT : tx_T ch n) : t_bl (ch (tx_q ch n p)) = false := t_len_end hT t_blN (n - p) p (Nat.le_refl _)
theorem m_token {ch : Nat → Int32} {n : Nat} {s : u_H} {p : Nat} (hT : tx_T ch n) (hM : tM ch n s) (ha : s.1 65 4 = zi p) (hp : p ≤ n) : ∃ s2, u_c 309 [.inr (.inr 67)] s = some (none, s2) ∧ tkM ch (tx_tk ch n p) s s2 := by
  have hn := hT.1
  have hq := tx_q_le (ch := ch) hp
  have hb := tx_q_bl (p := p) hT
  unfold tx_tk
  rw [b_309, m_tok0 hT (n - p) p s (Nat.le_refl _) hp hM ha]
  generalize hqq : tx_q ch n p = q at hq hb
  have hM1 : tM ch n (y_u s.1 65 4 (zi q), s.2) := tM_w hM (by omega) (by omega)
  have ha1 : (y_u s.1 65 4 (zi q) : Nat → Nat → Int32) 65 4 = zi q := y_uE _ _ _ _
  have fr1 : u_fr tx_P65 s (y_u s.1 65 4 (zi q), s.2) := u_fr.rf.wi (s := s) (f := s.1) (r := s.2) ⟨rfl, Or.inl rfl⟩
  generalize hs1 : (y_u s.1 65 4 (zi q), s.2) = s1 at hM1 fr1
  have ha1 : s1.1 65 4 = zi q := by rw [← hs1]; exact ha1
  have hh : u_c 219 [.inr (.inr 67), .inl (Int32.ofInt 0)] s1 = some (some (.inl (ch q)), s1) := m_here (k := 0) hT hM1 ha1 (by omega)
  have hM2 : tM ch n (y_u s1.1 65 7 (zi q), s1.2) := tM_w hM1 (by omega) (by omega)
  have fr2 : u_fr tx_P65 s (y_u s1.1 65 7 (zi q), s1.2) := u_fr.wi (f := s1.1) (r := s1.2) fr1 ⟨rfl, Or.inr ⟨by omega, by omega⟩⟩
  have hat2 : (y_u s1.1 65 7 (zi q) : Nat → Nat → Int32) 65 4 = zi q := (y_uN (by omega)).trans ha1
  have hpl2 : (y_u s1.1 65 7 (zi q) : Nat → Nat → Int32) 65 7 = zi q := y_uE _ _ _ _
  generalize hs2 : (y_u s1.1 65 7 (zi q), s1.2) = s2 at hM2 fr2
  have hat2 : s2.1 65 4 = zi q := by rw [← hs2]; exact hat2
  have hpl2 : s2.1 65 7 = zi q := by rw [← hs2]; exact hpl2
  have hh2 : u_c 219 [.inr (.inr 67), .inl (Int32.ofInt 0)] s2 = some (some (.inl (ch q)), s2) := m_here (k := 0) hT hM2 hat2 (by omega)
  have c1 : ¬ ch q = Int32.ofInt 32 := fun e => by rw [t_blC.mpr (Or.inl e)] at hb; cases hb
  have c2 : ¬ ch q = Int32.ofInt 10 := fun e => by rw [t_blC.mpr (Or.inr e)] at hb; cases hb
  rw [b_309_0, hh, u_biS, if_neg c1, hh, u_biS, if_neg c2, ha1, hs2, hh2, u_biS]
  unfold tx_at
  by_cases hend : n ≤ q
  · have hc : ch q < 0 := by rw [hT.2.2 q hend, t_m1]; decide
    rw [if_pos hc, if_neg (show ¬ Int32.ofInt 0 = Int32.ofInt 3 by decide), if_pos hend]
    refine ⟨_, rfl, ?_, ?_, ?_, ?_, ?_, ?_⟩
    · simp [y_u, hpl2]
    · simp [y_u, tx_so]
    · simp only [y_uE, hat2]
      exact zi_add q 0
    · intro h
      cases h
    · intro _ h
      have h2 : 275 ≤ 273 := h
      omega
    · exact u_fr.wi (u_fr.wi (u_fr.wi (u_fr.wl (f := s2.1) (g := s2.2.1) (r := s2.2.2) fr2 ⟨rfl, Or.inr ⟨by omega, by omega⟩⟩) ⟨rfl, Or.inr ⟨by omega, by omega⟩⟩) ⟨rfl, Or.inr ⟨by omega, by omega⟩⟩) ⟨rfl, Or.inl rfl⟩
  · have hlt : q < n := by omega
    have hd := tx_dz hT hlt
    have hc : ¬ ch q < 0 := by rw [hd.1]; exact zi_nonneg (by omega)
    rw [if_neg hc, if_neg hend, m_le, u_biS]
    have hM3 : tM ch n (y_u s2.1 65 8 (Int32.ofInt 0), y_u s2.2.1 65 9 (Int64.ofNat 0), s2.2.2) := tM_w hM2 (by omega) (by omega)
    have fr3 : u_fr tx_P65 s (y_u s2.1 65 8 (Int32.ofInt 0), y_u s2.2.1 65 9 (Int64.ofNat 0), s2.2.2) := u_fr.wi (u_fr.wl (f := s2.1) (g := s2.2.1) (r := s2.2.2) fr2 ⟨rfl, Or.inr ⟨by omega, by omega⟩⟩) ⟨rfl, Or.inr ⟨by omega, by omega⟩⟩
    have hat3 : (y_u s2.1 65 8 (Int32.ofInt 0) : Nat → Nat → Int32) 65 4 = zi q := (y_uN (by omega)).trans hat2
    have hpl3 : (y_u s2.1 65 8 (Int32.ofInt 0) : Nat → Nat → Int32) 65 7 = zi q := (y_uN (by omega)).trans hpl2
    have hnu3 : (y_u s2.1 65 8 (Int32.ofInt 0) : Nat → Nat → Int32) 65 8 = zi 0 := y_uE _ _ _ _
    have hwo3 : (y_u s2.2.1 65 9 (Int64.ofNat 0) : Nat → Nat → Int64) 65 9 = zl 0 := y_uE _ _ _ _
    generalize hs3 : (y_u s2.1 65 8 (Int32.ofInt 0), y_u s2.2.1 65 9 (Int64.ofNat 0), s2.2.2) = s3 at hM3 fr3
    have hat3 : s3.1 65 4 = zi q := by rw [← hs3]; exact hat3
    have hpl3 : s3.1 65 7 = zi q := by rw [← hs3]; exact hpl3
    have hnu3 : s3.1 65 8 = zi 0 := by rw [← hs3]; exact hnu3
    have hwo3 : s3.2.1 65 9 = zl 0 := by rw [← hs3]; exact hwo3
    cases hle : t_le (ch q) with
    | true =>
      rw [if_neg zb_yes, if_pos rfl]
      obtain ⟨m, hm, hu⟩ := m_tok78 (ll := u_z2) hT (n - q) 0 s3 (u_l1 (u_l1 u_z1 1 (ch q)) 2 (Int32.ofInt 0)) (by omega) (by omega) (u_l1E _ _ _) (fun j hj => by omega) hM3 hat3 hwo3
      rw [Nat.zero_add, Nat.add_zero] at hm
      rw [hu, ← hm]
      by_cases h8 : 8 < m
      · rw [if_pos h8, if_pos h8]
        refine ⟨_, rfl, ?_, ?_, ?_, ?_, ?_, ?_⟩
        · simp [y_u, hpl3]
        · simp [y_u, tx_so]
        · simp [y_u, hat3]
        · intro h
          cases h
        · intro _ h
          have h2 : 276 ≤ 273 := h
          omega
        · exact u_fr.wi (u_fr.wl (f := s3.1) (g := s3.2.1) (r := s3.2.2) fr3 ⟨rfl, Or.inr ⟨by omega, by omega⟩⟩) ⟨rfl, Or.inr ⟨by omega, by omega⟩⟩
      · rw [if_neg h8, if_neg h8]
        have hk := tx_kw17 (tx_let ch q m)
        refine ⟨_, rfl, ?_, ?_, ?_, ?_, ?_, ?_⟩
        · simp [y_u, hpl3]
        · show _ = tx_so (256 + tx_kw (tx_let ch q m))
          have e9 : ∀ (f : Nat → Nat → Int32) (x y : Int32), y_u (y_u f 65 6 x) 65 4 y 65 6 = x := fun f x y => (y_uN (by omega)).trans (y_uE _ _ _ _)
          dsimp only
          rw [e9]
          unfold tx_so
          rw [if_neg (by omega), if_neg (by omega), if_neg (by omega), if_pos (by omega)]
        · simp [y_u, tx_so]
        · intro h
          have h2 : 256 + tx_kw (tx_let ch q m) = 274 := h
          omega
        · intro _ _
          simp only [y_uE, Nat.add_sub_cancel_left]
          rw [Nat.min_eq_left (by omega)]
        · exact u_fr.wi (u_fr.wi (u_fr.wl (f := s3.1) (g := s3.2.1) (r := s3.2.2) fr3 ⟨rfl, Or.inr ⟨by omega, by omega⟩⟩) ⟨rfl, Or.inr ⟨by omega, by omega⟩⟩) ⟨rfl, Or.inl rfl⟩
    | false =>
      rw [if_pos zb_no, if_neg (by decide), m_di, u_biS]
      cases hdi : t_di (ch q) with
      | true =>
        rw [if_neg zb_yes, if_pos rfl]
        obtain ⟨m, hm, hu⟩ := m_tok144 (ll := u_z2) hT (n - q) 0 s3 (u_l1 (u_l1 u_z1 1 (ch q)) 2 (Int32.ofInt 0)) (by omega) (by omega) (u_l1E _ _ _) hM3 hat3 hnu3
        rw [Nat.zero_add, Nat.add_zero] at hm
        rw [hu, ← hm]
        by_cases h4 : 4 < m ∨ t_le (ch (q + m)) = true
        · rw [if_pos h4, if_pos h4]
          refine ⟨_, rfl, ?_, ?_, ?_, ?_, ?_, ?_⟩
          · simp [y_u, hpl3]
          · simp [y_u, tx_so]
          · simp [y_u, hat3]
          · intro h
            cases h
          · intro _ h
            have h2 : 276 ≤ 273 := h
            omega
          · exact u_fr.wi (u_fr.wi (f := s3.1) (r := s3.2) fr3 ⟨rfl, Or.inr ⟨by omega, by omega⟩⟩) ⟨rfl, Or.inr ⟨by omega, by omega⟩⟩
        · rw [if_neg h4, if_neg h4]
          refine ⟨_, rfl, ?_, ?_, ?_, ?_, ?_, ?_⟩
          · simp [y_u, hpl3]
          · simp [y_u, tx_so]
          · simp [y_u, tx_so]
          · intro _
            have e9 : ∀ (f : Nat → Nat → Int32) (x y z : Int32), y_u (y_u (y_u f 65 8 x) 65 6 y) 65 4 z 65 8 = x := fun f x y z => (y_uN (by omega)).trans ((y_uN (by omega)).trans (y_uE _ _ _ _))
            dsimp only
            rw [e9, Nat.min_eq_left (by omega)]
          · intro _ h
            have h2 : 274 ≤ 273 := h
            omega
          · exact u_fr.wi (u_fr.wi (u_fr.wi (f := s3.1) (r := s3.2) fr3 ⟨rfl, Or.inr ⟨by omega, by omega⟩⟩) ⟨rfl, Or.inr ⟨by omega, by omega⟩⟩) ⟨rfl, Or.inl rfl⟩
      | false =>
        rw [if_pos zb_no, if_neg (by decide), m_sg, u_biS]
        cases hsg : tx_sg (ch q) with
        | true =>
          have hsd := tx_sgD hsg
          have h3 : ¬ ch q = Int32.ofInt 3 := by
            rw [hsd.1]
            intro e
            have := (zi_inj (a := tx_d ch q) (b := 3) (by omega) (by omega)).mp e
            omega
          rw [if_neg zb_yes, if_neg h3, if_pos rfl]
          refine ⟨_, rfl, ?_, ?_, ?_, ?_, ?_, ?_⟩
          · simp [y_u, hpl3]
          · show _ = tx_so (tx_d ch q)
            have e9 : ∀ (f : Nat → Nat → Int32) (x y : Int32), y_u (y_u f 65 6 x) 65 4 y 65 6 = x := fun f x y => (y_uN (by omega)).trans (y_uE _ _ _ _)
            dsimp only
            rw [e9]
            unfold tx_so
            rw [if_neg (by omega), if_neg (by omega), if_neg (by omega), if_neg (by omega)]
            exact hsd.1
          · simp only [y_uE, hat3, zi_one]
          · intro h
            have h2 : tx_d ch q = 274 := h
            omega
          · intro h
            have h2 : 256 ≤ tx_d ch q := h
            omega
          · exact u_fr.wi (u_fr.wi (f := s3.1) (r := s3.2) fr3 ⟨rfl, Or.inr ⟨by omega, by omega⟩⟩) ⟨rfl, Or.inl rfl⟩
        | false =>
          rw [if_pos zb_no, if_pos rfl, if_neg (by decide)]
          refine ⟨_, rfl, ?_, ?_, ?_, ?_, ?_, ?_⟩
          · simp [y_u, hpl3]
          · simp [y_u, tx_so]
          · simp [y_u, hat3]
          · intro h
            cases h
          · intro _ h
            have h2 : 276 ≤ 273 := h
            omega
          · exact u_fr.wi (f := s3.1) (r := s3.2) fr3 ⟨rfl, Or.inr ⟨by omega, by omega⟩⟩
