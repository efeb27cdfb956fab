/-! FITS, SURE, ASK: the NEEDS are put back -/
section NEEDS
theorem i_more (x y : Int32) (s : u_H) : ∃ z, u_c 214 [.inl x, .inl y] s = some (some (.inl z), s) := by
  rw [b_214]
  split
  · exact ⟨_, rfl⟩
  · exact ⟨_, rfl⟩
theorem isIn_any (x a b : Int32) (s : u_H) : ∃ z, u_c 230 [.inl x, .inl a, .inl b] s = some (some (.inl z), s) := by
  rw [b_230]
  split
  · exact ⟨_, rfl⟩
  · split
    · exact ⟨_, rfl⟩
    · exact ⟨_, rfl⟩
theorem bi_some {x : Option (Option (q_V Int32) × u_H)} {k : Int32 → u_H → Option (Option (q_V Int32) × u_H)} {r : Option (q_V Int32) × u_H} (h : u_bi x k = some r) : ∃ z s, x = some (some (.inl z), s) ∧ k z s = some r := by
  unfold u_bi at h
  split at h
  · exact ⟨_, _, rfl, h⟩
  · cases h
abbrev f102 (o _k : Nat) : Prop := o = 102
theorem m247_25 : ∀ (f i : Nat) (li : Nat → Int32) (ll : Nat → Int64) (s : u_H) (r : Option (q_V Int32) × u_H), 31 - i ≤ f → i ≤ 31 → li 3 = zi i → u g_t247 25 (li, ll, [(0, 67)]) [] s = some r → u_fr f102 s r.2 := by
  intro f
  have stop : ∀ (li : Nat → Int32) (ll : Nat → Int64) (s : u_H) (r : Option (q_V Int32) × u_H), li 3 = zi 31 → u g_t247 25 (li, ll, [(0, 67)]) [] s = some r → u_fr f102 s r.2 := by
    intro li ll s r hl h
    rw [b_247_25, hl, if_pos (show Int32.ofInt 30 < zi 31 by decide)] at h
    cases h
    exact u_fr.rf
  induction f with
  | zero =>
    intro i li ll s r hf hi hl h
    exact stop li ll s r (by rw [hl]; exact congrArg zi (by omega)) h
  | succ f ih =>
    intro i li ll s r hf hi hl h
    rcases Nat.lt_or_ge i 31 with q | q
    · rw [b_247_25, hl, if_neg (show ¬ Int32.ofInt 30 < zi i from fun e => by have := (zi_lt (a := 30) (b := i) (by omega) (by omega)).mp e; omega), zi_one] at h
      split at h
      · split at h
        · exact ih (i + 1) _ _ _ _ (by omega) (by omega) (u_l1E _ _ _) h
        · split at h
          · split at h
            · obtain ⟨z, s1, hz, h⟩ := bi_some h
              obtain ⟨z2, hz2⟩ := i_more (li 2) ((y_u s.1 102 ((s.1 101 ((((Int32.ofInt 61) * (zi i)) + (li 1)).toNatClampNeg)).toNatClampNeg) ((s.1 102 ((s.1 101 ((((Int32.ofInt 61) * (zi i)) + (li 1)).toNatClampNeg)).toNatClampNeg)) + (Int32.ofInt 1))) 102 ((s.1 101 ((((Int32.ofInt 61) * (zi i)) + (li 1)).toNatClampNeg)).toNatClampNeg)) ((y_u s.1 102 ((s.1 101 ((((Int32.ofInt 61) * (zi i)) + (li 1)).toNatClampNeg)).toNatClampNeg) ((s.1 102 ((s.1 101 ((((Int32.ofInt 61) * (zi i)) + (li 1)).toNatClampNeg)).toNatClampNeg)) + (Int32.ofInt 1))), s.2)
              rw [hz2] at hz
              cases hz
              exact (u_fr.wi (P := f102) (f := s.1) (r := s.2) u_fr.rf rfl).tr (ih (i + 1) _ _ _ _ (by omega) (by omega) (u_l1E _ _ _) h)
            · cases h
          · cases h
      · cases h
    · exact stop li ll s r (by rw [hl]; exact congrArg zi (by omega)) h
theorem m247_2 : ∀ (f i : Nat) (li : Nat → Int32) (ll : Nat → Int64) (s : u_H) (r : Option (q_V Int32) × u_H), 8 - i ≤ f → i ≤ 8 → li 2 = zi i → u g_t247 2 (li, ll, [(0, 67)]) [] s = some r → u_fr f102 s r.2 := by
  intro f
  have stop : ∀ (li : Nat → Int32) (ll : Nat → Int64) (s : u_H) (r : Option (q_V Int32) × u_H), li 2 = zi 8 → u g_t247 2 (li, ll, [(0, 67)]) [] s = some r → u_fr f102 s r.2 := by
    intro li ll s r hl h
    rw [b_247_2, hl, if_pos (show Int32.ofInt 7 < zi 8 by decide)] at h
    exact m247_25 30 1 _ _ _ _ (by omega) (by omega) (u_l1E _ _ _) h
  induction f with
  | zero =>
    intro i li ll s r hf hi hl h
    exact stop li ll s r (by rw [hl]; exact congrArg zi (by omega)) h
  | succ f ih =>
    intro i li ll s r hf hi hl h
    rcases Nat.lt_or_ge i 8 with q | q
    · rw [b_247_2, hl, if_neg (show ¬ Int32.ofInt 7 < zi i from fun e => by have := (zi_lt (a := 7) (b := i) (by omega) (by omega)).mp e; omega), zi_one] at h
      split at h
      · exact (u_fr.wi (P := f102) (f := s.1) (r := s.2) u_fr.rf rfl).tr (ih (i + 1) _ _ _ _ (by omega) (by omega) (u_l1E _ _ _) h)
      · cases h
    · exact stop li ll s r (by rw [hl]; exact congrArg zi (by omega)) h
theorem m_247 {x : Int32} {s : u_H} {r : Option (q_V Int32) × u_H} (h : u_c 247 [.inr (.inr 67), .inl x] s = some r) : u_fr f102 s r.2 := by
  rw [b_247] at h
  exact m247_2 8 0 _ _ _ _ (by omega) (by omega) (u_l1E _ _ _) h
theorem m305_24 : ∀ (f i : Nat) (li : Nat → Int32) (ll : Nat → Int64) (s : u_H) (r : Option (q_V Int32) × u_H), 31 - i ≤ f → i ≤ 31 → li 4 = zi i → u g_t305 24 (li, ll, [(0, 67)]) [] s = some r → r.2 = s := by
  intro f
  have stop : ∀ (li : Nat → Int32) (ll : Nat → Int64) (s : u_H) (r : Option (q_V Int32) × u_H), li 4 = zi 31 → u g_t305 24 (li, ll, [(0, 67)]) [] s = some r → r.2 = s := by
    intro li ll s r hl h
    rw [b_305_24, hl, if_pos (show Int32.ofInt 30 < zi 31 by decide)] at h
    cases h
    rfl
  induction f with
  | zero =>
    intro i li ll s r hf hi hl h
    exact stop li ll s r (by rw [hl]; exact congrArg zi (by omega)) h
  | succ f ih =>
    intro i li ll s r hf hi hl h
    rcases Nat.lt_or_ge i 31 with q | q
    · rw [b_305_24, hl, if_neg (show ¬ Int32.ofInt 30 < zi i from fun e => by have := (zi_lt (a := 30) (b := i) (by omega) (by omega)).mp e; omega), zi_one] at h
      split at h
      · split at h
        · exact ih (i + 1) _ _ _ _ (by omega) (by omega) (u_l1E _ _ _) h
        · split at h
          · exact ih (i + 1) _ _ _ _ (by omega) (by omega) (u_l1E _ _ _) h
          · split at h
            · exact ih (i + 1) _ _ _ _ (by omega) (by omega) (u_l1E _ _ _) h
            · exact ih (i + 1) _ _ _ _ (by omega) (by omega) (u_l1E _ _ _) h
      · cases h
    · exact stop li ll s r (by rw [hl]; exact congrArg zi (by omega)) h
theorem m179_24 : ∀ (f i : Nat) (li : Nat → Int32) (ll : Nat → Int64) (s : u_H) (r : Option (q_V Int32) × u_H), 61 - i ≤ f → i ≤ 61 → li 4 = zi i → u g_t179 24 (li, ll, [(0, 67)]) [] s = some r → u_fr f102 s r.2 := by
  intro f
  have stop : ∀ (li : Nat → Int32) (ll : Nat → Int64) (s : u_H) (r : Option (q_V Int32) × u_H), li 4 = zi 61 → u g_t179 24 (li, ll, [(0, 67)]) [] s = some r → u_fr f102 s r.2 := by
    intro li ll s r hl h
    rw [b_179_24, hl, if_pos (show Int32.ofInt 60 < zi 61 by decide)] at h
    split at h
    · cases h
      exact u_fr.rf
    · obtain ⟨z, s1, e1, h⟩ := bi_some h
      cases h
      exact m_247 e1
  induction f with
  | zero =>
    intro i li ll s r hf hi hl h
    exact stop li ll s r (by rw [hl]; exact congrArg zi (by omega)) h
  | succ f ih =>
    intro i li ll s r hf hi hl h
    rcases Nat.lt_or_ge i 61 with q | q
    · rw [b_179_24, hl, if_neg (show ¬ Int32.ofInt 60 < zi i from fun e => by have := (zi_lt (a := 60) (b := i) (by omega) (by omega)).mp e; omega), zi_one] at h
      obtain ⟨z, s1, e1, h⟩ := bi_some h
      obtain ⟨z2, s2, e2, h⟩ := bi_some h
      have f12 := (m_247 e1).tr (m_247 e2)
      split at h
      · exact f12.tr (ih (i + 1) _ _ _ _ (by omega) (by omega) (u_l1E _ _ _) h)
      · exact f12.tr (ih (i + 1) _ _ _ _ (by omega) (by omega) (u_l1E _ _ _) h)
    · exact stop li ll s r (by rw [hl]; exact congrArg zi (by omega)) h
/-- what layFits keeps is kept by all three -/
theorem m_fits {x : Int32} {s t4 : u_H} {v4 : Option (q_V Int32)} {r : Option (q_V Int32) × u_H} (h4 : u_c 244 [.inr (.inr 67), .inl x] s = some (v4, t4)) (h : u_c 205 [.inr (.inr 67), .inl x] s = some r) : r.2 = t4 := by
  rw [b_205, h4] at h
  obtain ⟨z, s1, e1, h⟩ := bi_some h
  cases e1
  cases h
  rfl
theorem m_sure {w x : Int32} {s t4 : u_H} {v4 : Option (q_V Int32)} {r : Option (q_V Int32) × u_H} (h4 : u_c 244 [.inr (.inr 67), .inl x] s = some (v4, t4)) (h : u_c 305 [.inr (.inr 67), .inl w, .inl x] s = some r) : r.2 = s ∨ r.2 = t4 := by
  obtain ⟨z, hz⟩ := isIn_any w (Int32.ofInt 0) (Int32.ofInt 1) s
  rw [b_305, hz, u_biS] at h
  split at h
  · cases h
    exact Or.inl rfl
  · rw [h4] at h
    obtain ⟨z, s1, e1, h⟩ := bi_some h
    cases e1
    split at h
    · cases h
      exact Or.inr rfl
    · exact Or.inr (m305_24 30 1 _ _ _ _ (by omega) (by omega) (u_l1E _ _ _) h)
theorem m_ask {w x : Int32} {s t4 : u_H} {v4 : Option (q_V Int32)} {r : Option (q_V Int32) × u_H} (h4 : u_c 244 [.inr (.inr 67), .inl x] s = some (v4, t4)) (h : u_c 179 [.inr (.inr 67), .inl w, .inl x] s = some r) : r.2 = s ∨ u_fr f102 t4 r.2 := by
  obtain ⟨z, hz⟩ := isIn_any w (Int32.ofInt 0) (Int32.ofInt 1) s
  rw [b_179, hz, u_biS] at h
  split at h
  · cases h
    exact Or.inl rfl
  · rw [h4] at h
    obtain ⟨z, s1, e1, h⟩ := bi_some h
    cases e1
    split at h
    · cases h
      exact Or.inr u_fr.rf
    · exact Or.inr (m179_24 60 1 _ _ _ _ (by omega) (by omega) (u_l1E _ _ _) h)
/-- what another method's contract tells of the same heap -/
theorem y_C.wi {k D k2 D2 : Nat} {P P2 : List (q_V Int32) → y_H → Prop} {Q Q2 : List (q_V Int32) → y_H → Option (q_V Int32) → y_H → Prop} (h : y_C g_sh g_ts k D P Q) (h2 : y_C g_sh g_ts k2 D2 P2 Q2) (f : List (q_V Int32) → List (q_V Int32)) (hP : ∀ a s, P a s → P2 (f a) s) : y_C g_sh g_ts k D P (fun a s v s2 => Q a s v s2 ∧ ∃ v3 s3, Q2 (f a) s v3 s3) := by
  intro d a s hd hp hh ns hR
  obtain ⟨n, v, h2', s2, e, hR2, hQ⟩ := h d a s hd hp hh ns hR
  obtain ⟨-, v3, -, s3, -, -, hQ3⟩ := h2 D2 (f a) s (Nat.le_refl _) (hP a s hp) hh ns hR
  exact ⟨n, v, h2', s2, e, hR2, hQ, v3, s3, hQ3⟩
end NEEDS
