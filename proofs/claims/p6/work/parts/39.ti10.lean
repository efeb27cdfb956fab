/-! BOTH SIDES AT HAND: what was told, the rows; one goes out of the queue -/
section HAND
variable {W : Nat}
/-- what was told, alike: the class's heap f, the model's g; nothing is thought of -/
def aW (W a b R w : Nat) (c : List Int) (l : Bool) (f g : Nat → Nat → Int32) : Prop := (a ≤ 5 ∧ b ≤ 7 ∧ 1 ≤ R ∧ R ≤ 2) ∧ (f (W - 2) 0 = zi a ∧ f (W - 2) 4 = zi b ∧ f (W - 2) 10 = zi R ∧ f (W - 2) 9 = g 65 27 ∧ f (W - 2) 11 = g 65 51 ∧ g 65 28 = zi R ∧ g 65 29 = u_k (-1)) ∧ (∀ k, k < a → f W k = g 80 k ∧ f (W + 1) k = g 81 k) ∧ (∀ k, k < b → (∃ v, v < a ∧ f (W + 3) k = zi v ∧ g 82 k = zi v) ∧ f (W + 4) k = g 83 k ∧ f (W + 5) k = g 84 k) ∧ (c.length ≤ 270 ∧ prC W c f ∧ prM c g ∧ g 65 25 = zb l ∧ (l = false → c = []) ∧ (l = true → fV c w)) ∧ ∀ r, r < 3 → g 87 r = 0 ∧ g 88 r = 0
/-- what it speaks of: in the class, in the model -/
def aWc (W o k : Nat) : Prop := o = W - 2 ∨ o = W ∨ o = W + 1 ∨ o = W + 3 ∨ o = W + 4 ∨ o = W + 5 ∨ o = W + 6 ∨ o = W + 7
def aWm (o k : Nat) : Prop := (o = 65 ∧ (k = 18 ∨ k = 25 ∨ k = 27 ∨ k = 28 ∨ k = 29 ∨ k = 51)) ∨ o = 70 ∨ o = 71 ∨ (80 ≤ o ∧ o ≤ 84) ∨ o = 87 ∨ o = 88
theorem aW_fr {a b R w : Nat} {c : List Int} {l : Bool} {f g f2 g2 : Nat → Nat → Int32} (h : aW W a b R w c l f g) (e1 : ∀ o k, aWc W o k → f2 o k = f o k) (e2 : ∀ o k, aWm o k → g2 o k = g o k) : aW W a b R w c l f2 g2 := by
  obtain ⟨h1, ⟨h2, h3, h4, h5, h6, h7, h8⟩, h9, h10, ⟨h11, h12, h13, h14, h15, h16⟩, h17⟩ := h
  refine ⟨h1, ⟨?_, ?_, ?_, ?_, ?_, ?_, ?_⟩, fun k hk => ?_, fun k hk => ?_, ⟨h11, ⟨?_, fun k x hx => ?_⟩, ⟨?_, fun k x hx => ?_⟩, ?_, h15, h16⟩, fun r hr => ?_⟩
  · rw [e1 _ _ (by unfold aWc; omega)]; exact h2
  · rw [e1 _ _ (by unfold aWc; omega)]; exact h3
  · rw [e1 _ _ (by unfold aWc; omega)]; exact h4
  · rw [e1 _ _ (by unfold aWc; omega), e2 65 27 (by unfold aWm; omega)]; exact h5
  · rw [e1 _ _ (by unfold aWc; omega), e2 65 51 (by unfold aWm; omega)]; exact h6
  · rw [e2 65 28 (by unfold aWm; omega)]; exact h7
  · rw [e2 65 29 (by unfold aWm; omega)]; exact h8
  · rw [e1 W k (by unfold aWc; omega), e1 (W + 1) k (by unfold aWc; omega), e2 80 k (by unfold aWm; omega), e2 81 k (by unfold aWm; omega)]
    exact h9 k hk
  · rw [e1 (W + 3) k (by unfold aWc; omega), e1 (W + 4) k (by unfold aWc; omega), e1 (W + 5) k (by unfold aWc; omega), e2 82 k (by unfold aWm; omega), e2 83 k (by unfold aWm; omega), e2 84 k (by unfold aWm; omega)]
    exact h10 k hk
  · rw [e1 _ _ (by unfold aWc; omega)]; exact h12.1
  · rw [e1 _ _ (by unfold aWc; omega)]; exact h12.2 k x hx
  · rw [e2 65 18 (by unfold aWm; omega)]; exact h13.1
  · rw [e2 70 k (by unfold aWm; omega), e2 71 k (by unfold aWm; omega)]; exact h13.2 k x hx
  · rw [e2 65 25 (by unfold aWm; omega)]; exact h14
  · rw [e2 87 r (by unfold aWm; omega), e2 88 r (by unfold aWm; omega)]; exact h17 r hr
theorem sLvm {f g : Nat → Nat → Int32} {v : Nat} (h1 : f 28 6 = g 86 24) (h2 : f W v = g 80 v) (h3 : f (W + 1) v = g 81 v) : sLv W f v = sLm g v := by
  unfold sLv sLm
  rw [h1, h2, h3]
/-- whether a SHIP is gone: alike -/
theorem gone_alike (hW : W = 5 ∨ W = 17) {v : Nat} {sC sM : u_H} (hv : v < 5) (hT : sC.2.2.1 = W) (h6 : sC.1 28 6 = sM.1 86 24) (h2 : sC.1 W v = sM.1 80 v) (h3 : sC.1 (W + 1) v = sM.1 81 v) (h8 : sC.1 28 8 = sM.1 86 26) (hl : sM.1 65 29 = u_k (-1)) : (sM.1 86 26 < sLm sM.1 v ∧ u_c 33 [.inr (.inr 2), .inl (zi v)] sC = some (some (.inl (Int32.ofInt 0)), sC) ∧ u_c 229 [.inr (.inr 67), .inl (zi v)] sM = some (some (.inl (Int32.ofInt 0)), sM)) ∨ (¬ sM.1 86 26 < sLm sM.1 v ∧ u_c 33 [.inr (.inr 2), .inl (zi v)] sC = some (some (.inl (Int32.ofInt 1)), sC) ∧ u_c 229 [.inr (.inr 67), .inl (zi v)] sM = some (some (.inl (Int32.ofInt 1)), sM)) := by
  have e := sLvm h6 h2 h3
  by_cases q : sM.1 86 26 < sLm sM.1 v
  · refine Or.inl ⟨q, ?_, ?_⟩
    · rw [b_33 hW, if_pos hT, c_sail hW hv, u_biS, e, h8, if_pos q]
    · rw [b_229, m_sail hv hl, u_biS, if_pos q]
  · refine Or.inr ⟨q, ?_, ?_⟩
    · rw [b_33 hW, if_pos hT, c_sail hW hv, u_biS, e, h8, if_neg q]
    · rw [b_229, m_sail hv hl, u_biS, if_neg q]
/-- now.leave(place), in the class -/
theorem c145_25 {z : Nat} (hz : z ≤ 7) : ∀ (f i : Nat) (li : Nat → Int32) (ll : Nat → Int64) (s : u_H), z - 1 - i ≤ f → i ≤ z - 1 → 0 < z → s.1 28 1 = zi (z - 1) → li 2 = zi i → ∃ s2, u g_t145 25 (li, ll, [(0, 30)]) [] s = some (none, s2) ∧ (∀ j, i ≤ j → j < z - 1 → s2.1 29 j = s.1 29 (j + 1)) ∧ u_fr (fun o k => o = 29 ∧ i ≤ k ∧ k < z - 1) s s2 := by
  intro f
  have stop : ∀ (i : Nat) (li : Nat → Int32) (ll : Nat → Int64) (s : u_H), i = z - 1 → s.1 28 1 = zi (z - 1) → li 2 = zi i → ∃ s2, u g_t145 25 (li, ll, [(0, 30)]) [] s = some (none, s2) ∧ (∀ j, i ≤ j → j < z - 1 → s2.1 29 j = s.1 29 (j + 1)) ∧ u_fr (fun o k => o = 29 ∧ i ≤ k ∧ k < z - 1) s s2 := by
    intro i li ll s hi h1 hl
    refine ⟨s, ?_, fun j x y => absurd y (by omega), u_fr.rf⟩
    rw [b_145_25, hl, h1, hi, if_neg (by rw [zi_lt (by omega) (by omega)]; omega)]
  induction f with
  | zero =>
    intro i li ll s hf hi h0 h1 hl
    exact stop i li ll s (by omega) h1 hl
  | succ f ih =>
    intro i li ll s hf hi h0 h1 hl
    by_cases q : i < z - 1
    · have hin : u_in (zi i) 7 = true := (u_inz (by omega)).mpr (by omega)
      have hin1 : u_in (zi (i + 1)) 7 = true := (u_inz (by omega)).mpr (by omega)
      have hcl : (zi i).toNatClampNeg = i := zi_clamp (by omega)
      have hcl1 : (zi (i + 1)).toNatClampNeg = i + 1 := zi_clamp (by omega)
      obtain ⟨s2, e1, e2, e3⟩ := ih (i + 1) (u_l1 li 2 (zi (i + 1))) ll (y_u s.1 29 i (s.1 29 (i + 1)), s.2) (by omega) (by omega) h0 (by show y_u s.1 29 i (s.1 29 (i + 1)) 28 1 = _; rw [y_uN (by omega)]; exact h1) (u_l1E _ _ _)
      refine ⟨s2, ?_, fun j x y => ?_, ?_⟩
      · rw [b_145_25, hl, h1, if_pos ((zi_lt (by omega) (by omega)).mpr q), zi_one, if_pos hin1, if_pos hin, hcl, hcl1]
        exact e1
      · rcases Nat.lt_or_ge i j with w | w
        · rw [e2 j w y]
          show y_u s.1 29 i (s.1 29 (i + 1)) 29 (j + 1) = _
          rw [y_uN (by omega)]
        · have hj : j = i := by omega
          subst hj
          rw [e3.i (o := 29) (k := j) (fun x => absurd x.2.1 (by omega))]
          exact y_uE s.1 29 j _
      · exact (u_fr.wi (f := s.1) (r := s.2) u_fr.rf ⟨rfl, Nat.le_refl _, q⟩).tr (e3.mono (fun o k x => ⟨x.1, Nat.le_of_succ_le x.2.1, x.2.2⟩))
    · exact stop i li ll s (by omega) h1 hl
theorem c_leave {z k : Nat} (hz : z ≤ 7) (hk : k < z) {s : u_H} (h1 : s.1 28 1 = zi z) : ∃ s2, u_c 145 [.inr (.inr 30), .inl (zi k)] s = some (none, s2) ∧ s2.1 28 1 = zi (z - 1) ∧ (∀ i, i < z - 1 → s2.1 29 i = s.1 29 (if i < k then i else i + 1)) ∧ u_fr (fun o j => (o = 28 ∧ j = 1) ∨ (o = 29 ∧ j < 7)) s s2 := by
  obtain ⟨s2, e1, e2, e3⟩ := c145_25 hz 7 k (u_l1 (u_l1 u_z1 1 (zi k)) 2 (zi k)) u_z2 (y_u s.1 28 1 (zi (z - 1)), s.2) (by omega) (by omega) (by omega) (by first | exact y_uE _ _ _ _ | (dsimp only; exact y_uE _ _ _ _)) (u_l1E _ _ _)
  refine ⟨s2, ?_, ?_, fun i hi => ?_, ?_⟩
  · rw [b_145, if_neg (zi_nonneg (by omega)), h1, if_pos ((zi_lt (by omega) (by omega)).mpr hk), show Int32.ofInt 1 = zi 1 from rfl, zi_sub (by omega)]
    exact e1
  · rw [e3.i (o := 28) (k := 1) (fun x => absurd x.1 (by omega))]
    exact y_uE s.1 28 1 _
  · by_cases q : i < k
    · rw [if_pos q, e3.i (o := 29) (k := i) (fun x => absurd x.2.1 (by omega))]
      show y_u s.1 28 1 (zi (z - 1)) 29 i = _
      rw [y_uN (by omega)]
    · rw [if_neg q, e2 i (by omega) hi]
      show y_u s.1 28 1 (zi (z - 1)) 29 (i + 1) = _
      rw [y_uN (by omega)]
  · exact (u_fr.wi (f := s.1) (r := s.2) u_fr.rf (Or.inl ⟨rfl, rfl⟩)).tr (e3.mono (fun o j x => Or.inr ⟨x.1, by omega⟩))
/-- takeOut(place), in the model -/
theorem m307_9 {z : Nat} (hz : z ≤ 7) : ∀ (f i : Nat) (li : Nat → Int32) (ll : Nat → Int64) (s : u_H), z - 1 - i ≤ f → i ≤ z - 1 → 0 < z → s.1 86 8 = zi z → li 3 = zi i → ∃ s2, u g_t307 9 (li, ll, [(0, 67)]) [] s = some (some (.inl (li 2)), s2) ∧ s2.1 86 8 = zi (z - 1) ∧ (∀ j, i ≤ j → j < z - 1 → s2.1 86 j = s.1 86 (j + 1)) ∧ u_fr (fun o k => o = 86 ∧ ((i ≤ k ∧ k < z - 1) ∨ k = 8)) s s2 := by
  intro f
  have stop : ∀ (i : Nat) (li : Nat → Int32) (ll : Nat → Int64) (s : u_H), i = z - 1 → 0 < z → s.1 86 8 = zi z → li 3 = zi i → ∃ s2, u g_t307 9 (li, ll, [(0, 67)]) [] s = some (some (.inl (li 2)), s2) ∧ s2.1 86 8 = zi (z - 1) ∧ (∀ j, i ≤ j → j < z - 1 → s2.1 86 j = s.1 86 (j + 1)) ∧ u_fr (fun o k => o = 86 ∧ ((i ≤ k ∧ k < z - 1) ∨ k = 8)) s s2 := by
    intro i li ll s hi h0 h1 hl
    refine ⟨(y_u s.1 86 8 (zi (z - 1)), s.2), ?_, (by first | exact y_uE _ _ _ _ | (dsimp only; exact y_uE _ _ _ _)), fun j x y => absurd y (by omega), u_fr.wi (f := s.1) (r := s.2) u_fr.rf ⟨rfl, Or.inr rfl⟩⟩
    rw [b_307_9, b_277, u_biS, hl, h1, show Int32.ofInt 1 = zi 1 from rfl, zi_sub (by omega), hi, if_neg (by rw [zi_lt (by omega) (by omega)]; omega)]
  induction f with
  | zero =>
    intro i li ll s hf hi h0 h1 hl
    exact stop i li ll s (by omega) h0 h1 hl
  | succ f ih =>
    intro i li ll s hf hi h0 h1 hl
    by_cases q : i < z - 1
    · have hin : u_in (zi i) 28 = true := (u_inz (by omega)).mpr (by omega)
      have hin1 : u_in (zi (i + 1)) 28 = true := (u_inz (by omega)).mpr (by omega)
      have hcl : (zi i).toNatClampNeg = i := zi_clamp (by omega)
      have hcl1 : (zi (i + 1)).toNatClampNeg = i + 1 := zi_clamp (by omega)
      obtain ⟨s2, e1, e0, e2, e3⟩ := ih (i + 1) (u_l1 li 3 (zi (i + 1))) ll (y_u s.1 86 i (s.1 86 (i + 1)), s.2) (by omega) (by omega) h0 (by show y_u s.1 86 i (s.1 86 (i + 1)) 86 8 = _; rw [y_uN (by omega)]; exact h1) (u_l1E _ _ _)
      refine ⟨s2, ?_, e0, fun j x y => ?_, ?_⟩
      · rw [b_307_9, b_277, u_biS, hl, h1, zi_one, show Int32.ofInt 1 = zi 1 from rfl, zi_sub (by omega), if_pos ((zi_lt (by omega) (by omega)).mpr q), if_pos hin1, if_pos hin, hcl, hcl1, e1, u_l1N (by omega)]
      · rcases Nat.lt_or_ge i j with w | w
        · rw [e2 j w y]
          show y_u s.1 86 i (s.1 86 (i + 1)) 86 (j + 1) = _
          rw [y_uN (by omega)]
        · have hj : j = i := by omega
          subst hj
          rw [e3.i (o := 86) (k := j) (fun x => by rcases x.2 with x | x; exact absurd x.1 (by omega); omega)]
          exact y_uE s.1 86 j _
      · exact (u_fr.wi (f := s.1) (r := s.2) u_fr.rf ⟨rfl, Or.inl ⟨Nat.le_refl _, q⟩⟩).tr (e3.mono (fun o k x => ⟨x.1, by omega⟩))
    · exact stop i li ll s (by omega) h0 h1 hl
theorem m_take {z k : Nat} (hz : z ≤ 7) (hk : k < z) {s : u_H} (h1 : s.1 86 8 = zi z) : ∃ s2, u_c 307 [.inr (.inr 67), .inl (zi k)] s = some (some (.inl (s.1 86 k)), s2) ∧ s2.1 86 8 = zi (z - 1) ∧ (∀ i, i < z - 1 → s2.1 86 i = s.1 86 (if i < k then i else i + 1)) ∧ u_fr (fun o j => o = 86 ∧ j < 9 ∧ j ≠ 7) s s2 := by
  have hin : u_in (zi k) 28 = true := (u_inz (by omega)).mpr (by omega)
  have hcl : (zi k).toNatClampNeg = k := zi_clamp (by omega)
  obtain ⟨s2, e1, e2, e3, e4⟩ := m307_9 hz 7 k (u_l1 (u_l1 (u_l1 u_z1 1 (zi k)) 2 (s.1 86 k)) 3 (zi k)) u_z2 s (by omega) (by omega) (by omega) h1 (u_l1E _ _ _)
  refine ⟨s2, ?_, e2, fun i hi => ?_, e4.mono (fun o j x => ⟨x.1, by omega, by omega⟩)⟩
  · rw [b_307, if_pos hin, hcl, e1, u_l1N (by omega), u_l1E]
  · by_cases q : i < k
    · rw [if_pos q, e4.i (fun x => by rcases x.2 with x | x; exact absurd x.1 (by omega); omega)]
    · rw [if_neg q, e3 i (by omega) hi]
end HAND
