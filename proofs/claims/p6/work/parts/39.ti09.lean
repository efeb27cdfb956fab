/-! THE TRIAL, opened; how long a pair takes now -/
section OPEN
variable {W : Nat}
/-- who is in such a way, as bits -/
noncomputable def bF (g : Nat → Nat → Int32) (w : Int32) : Nat → Int32
  | 0 => Int32.ofInt 0
  | n + 1 => if g 30 n = w then bF g w n ||| (Int32.ofInt 1 <<< (zi n &&& 31)) else bF g w n ||| Int32.ofInt 0
theorem c140_5 {b : Nat} {w : Int32} (hb : b ≤ 7) : ∀ (f i : Nat) (li : Nat → Int32) (ll : Nat → Int64) (s : u_H), b - i ≤ f → i ≤ b → li 1 = w → li 2 = zi b → li 3 = bF s.1 w i → li 4 = zi i → u g_t140 5 (li, ll, [(0, 30)]) [] s = some (some (.inl (bF s.1 w b)), s) := by
  intro f
  have stop : ∀ (i : Nat) (li : Nat → Int32) (ll : Nat → Int64) (s : u_H), i = b → li 1 = w → li 2 = zi b → li 3 = bF s.1 w i → li 4 = zi i → u g_t140 5 (li, ll, [(0, 30)]) [] s = some (some (.inl (bF s.1 w b)), s) := by
    intro i li ll s hi h1 h2 h3 h4
    subst hi
    rw [b_140_5, h4, h2, if_neg (by rw [zi_lt (by omega) (by omega)]; omega), h3]
  induction f with
  | zero =>
    intro i li ll s hf hi h1 h2 h3 h4
    exact stop i li ll s (by omega) h1 h2 h3 h4
  | succ f ih =>
    intro i li ll s hf hi h1 h2 h3 h4
    by_cases q : i < b
    · have hin : u_in (zi i) 7 = true := (u_inz (by omega)).mpr (by omega)
      have hcl : (zi i).toNatClampNeg = i := zi_clamp (by omega)
      rw [b_140_5, h4, h2, if_pos ((zi_lt (by omega) (by omega)).mpr q), if_pos hin, hcl, h1, h3, zi_one]
      by_cases z : s.1 30 i = w
      · rw [if_pos z]
        refine ih (i + 1) _ _ _ (by omega) (by omega) ?_ ?_ ?_ ?_
        · rw [u_l1N (by omega), u_l1N (by omega)]; exact h1
        · rw [u_l1N (by omega), u_l1N (by omega)]; exact h2
        · rw [u_l1N (by omega), u_l1E]
          show _ = if s.1 30 i = w then bF s.1 w i ||| (Int32.ofInt 1 <<< (zi i &&& 31)) else bF s.1 w i ||| Int32.ofInt 0
          rw [if_pos z]
        · rw [u_l1E]
      · rw [if_neg z]
        refine ih (i + 1) _ _ _ (by omega) (by omega) ?_ ?_ ?_ ?_
        · rw [u_l1N (by omega), u_l1N (by omega)]; exact h1
        · rw [u_l1N (by omega), u_l1N (by omega)]; exact h2
        · rw [u_l1N (by omega), u_l1E]
          show _ = if s.1 30 i = w then bF s.1 w i ||| (Int32.ofInt 1 <<< (zi i &&& 31)) else bF s.1 w i ||| Int32.ofInt 0
          rw [if_neg z]
        · rw [u_l1E]
    · exact stop i li ll s (by omega) h1 h2 h3 h4
theorem c_bits {b : Nat} {w : Int32} (hb : b ≤ 7) (s : u_H) : u_c 140 [.inr (.inr 30), .inl w, .inl (zi b)] s = some (some (.inl (bF s.1 w b)), s) := by
  rw [b_140]
  exact c140_5 hb 7 0 _ _ _ (by omega) (Nat.zero_le _) rfl rfl rfl rfl
theorem sLv_eq {g g2 : Nat → Nat → Int32} {v : Nat} (h1 : g2 28 6 = g 28 6) (h2 : g2 W v = g W v) (h3 : g2 (W + 1) v = g (W + 1) v) : sLv W g2 v = sLv W g v := by
  unfold sLv
  rw [h1, h2, h3]
/-- the trial's own, of its object -/
def f36 (k : Nat) : Prop := k = 6 ∨ k = 7 ∨ k = 8 ∨ k = 10
theorem c164_45 (hW : W = 5 ∨ W = 17) {a : Nat} (ha : a ≤ 5) : ∀ (f i : Nat) (li : Nat → Int32) (ll : Nat → Int64) (s : u_H), a - i ≤ f → i ≤ a → s.1 (W - 2) 0 = zi a → li 3 = zi i → ∃ (li2 : Nat → Int32) (s2 : u_H), u g_t164 45 (li, ll, [(2, 30), (1, W), (0, 38)]) [] s = u g_t164 102 (li2, ll, [(2, 30), (1, W), (0, 38)]) [] s2 ∧ li2 3 = zi 0 ∧ (∀ v, i ≤ v → v < a → s2.1 39 v = sLv W s.1 v) ∧ (s2.1 36 6 = s.1 28 3 ∧ s2.1 36 7 = s.1 (W - 2) 9 ∧ s2.1 36 8 = Int32.ofInt 0 ∧ s2.1 36 10 = s.1 (W - 2) 10) ∧ u_fr (fun o k => (o = 39 ∧ i ≤ k) ∨ (o = 36 ∧ f36 k)) s s2 := by
  intro f
  have stop : ∀ (i : Nat) (li : Nat → Int32) (ll : Nat → Int64) (s : u_H), i = a → s.1 (W - 2) 0 = zi a → li 3 = zi i → ∃ (li2 : Nat → Int32) (s2 : u_H), u g_t164 45 (li, ll, [(2, 30), (1, W), (0, 38)]) [] s = u g_t164 102 (li2, ll, [(2, 30), (1, W), (0, 38)]) [] s2 ∧ li2 3 = zi 0 ∧ (∀ v, i ≤ v → v < a → s2.1 39 v = sLv W s.1 v) ∧ (s2.1 36 6 = s.1 28 3 ∧ s2.1 36 7 = s.1 (W - 2) 9 ∧ s2.1 36 8 = Int32.ofInt 0 ∧ s2.1 36 10 = s.1 (W - 2) 10) ∧ u_fr (fun o k => (o = 39 ∧ i ≤ k) ∨ (o = 36 ∧ f36 k)) s s2 := by
    intro i li ll s hi h0 hl
    refine ⟨u_l1 li 3 (Int32.ofInt 0), (y_u (y_u (y_u (y_u s.1 36 6 (s.1 28 3)) 36 7 (s.1 (W - 2) 9)) 36 8 (Int32.ofInt 0)) 36 10 (s.1 (W - 2) 10), s.2), ?_, u_l1E _ _ _, fun v x y => absurd y (by omega), ⟨rfl, rfl, rfl, rfl⟩, ?_⟩
    · rw [b_164_45 hW, hl, h0, hi, if_neg (by rw [zi_lt (by omega) (by omega)]; omega)]
    · exact u_fr.wi (u_fr.wi (u_fr.wi (u_fr.wi (f := s.1) (r := s.2) u_fr.rf (Or.inr ⟨rfl, Or.inl rfl⟩)) (Or.inr ⟨rfl, Or.inr (Or.inl rfl)⟩)) (Or.inr ⟨rfl, Or.inr (Or.inr (Or.inl rfl))⟩)) (Or.inr ⟨rfl, Or.inr (Or.inr (Or.inr rfl))⟩)
  induction f with
  | zero =>
    intro i li ll s hf hi h0 hl
    exact stop i li ll s (by omega) h0 hl
  | succ f ih =>
    intro i li ll s hf hi h0 hl
    by_cases q : i < a
    · have hin : u_in (zi i) 5 = true := (u_inz (by omega)).mpr (by omega)
      have hcl : (zi i).toNatClampNeg = i := zi_clamp (by omega)
      have w : ∀ o k, o ≠ 39 → y_u s.1 39 i (sLv W s.1 i) o k = s.1 o k := fun o k h => y_uN (by omega)
      have ws : ∀ v, sLv W (y_u s.1 39 i (sLv W s.1 i)) v = sLv W s.1 v := fun v => sLv_eq (w 28 6 (by omega)) (w W v (by omega)) (w (W + 1) v (by omega))
      obtain ⟨li2, s2, e1, e2, e3, ⟨e4, e5, e6, e7⟩, e8⟩ := ih (i + 1) (u_l1 li 3 (zi (i + 1))) ll (y_u s.1 39 i (sLv W s.1 i), s.2) (by omega) (by omega) ((w (W - 2) 0 (by omega)).trans h0) (u_l1E _ _ _)
      refine ⟨li2, s2, ?_, e2, fun v x y => ?_, ⟨e4.trans (w 28 3 (by omega)), e5.trans (w (W - 2) 9 (by omega)), e6, e7.trans (w (W - 2) 10 (by omega))⟩, ?_⟩
      · rw [b_164_45 hW, hl, h0, if_pos ((zi_lt (by omega) (by omega)).mpr q), c_sail hW (by omega), u_biS, if_pos hin, hcl, zi_one]
        exact e1
      · rcases Nat.lt_or_ge i v with z | z
        · rw [e3 v z y]
          exact ws v
        · have hk : v = i := by omega
          subst hk
          rw [e8.i (o := 39) (k := v) (fun x => by rcases x with x | x; exact absurd x.2 (by omega); exact absurd x.1 (by omega))]
          exact y_uE s.1 39 v _
      · refine (u_fr.wi (f := s.1) (r := s.2) u_fr.rf (Or.inl ⟨rfl, Nat.le_refl _⟩)).tr (e8.mono (fun o k x => ?_))
        rcases x with x | x
        · exact Or.inl ⟨x.1, Nat.le_of_succ_le x.2⟩
        · exact Or.inr x
    · exact stop i li ll s (by omega) h0 hl
theorem c164_102 (hW : W = 5 ∨ W = 17) {b : Nat} (hb : b ≤ 7) {li : Nat → Int32} {ll : Nat → Int64} {s : u_H} (h0 : s.1 (W - 2) 4 = zi b) (hl : li 3 = zi 0) : ∃ s2, u g_t164 102 (li, ll, [(2, 30), (1, W), (0, 38)]) [] s = some (none, s2) ∧ (∀ r, r < 2 → s2.1 40 r = s.1 31 r ∧ s2.1 41 r = s.1 32 r) ∧ (s2.1 40 2 = u_k (-1) ∧ s2.1 41 2 = Int32.ofInt 0) ∧ (s2.1 36 14 = s.1 28 8 ∧ s2.1 36 15 = bF s.1 (Int32.ofInt 2) b) ∧ u_fr (fun o k => o = 40 ∨ o = 41 ∨ (o = 36 ∧ (k = 14 ∨ k = 15))) s s2 := by
  have one : ∀ (r : Nat) (li : Nat → Int32) (s : u_H), r < 2 → li 3 = zi r → u g_t164 102 (li, ll, [(2, 30), (1, W), (0, 38)]) [] s = u g_t164 102 (u_l1 (u_l1 li 4 (Int32.ofInt 1)) 3 (zi (r + 1)), ll, [(2, 30), (1, W), (0, 38)]) [] (y_u (y_u s.1 40 r (s.1 31 r)) 41 r (s.1 32 r), s.2) := by
    intro r li s hr h3
    have h2 : u_in (zi r) 2 = true := (u_inz (by omega)).mpr hr
    have h33 : u_in (zi r) 3 = true := (u_inz (by omega)).mpr (by omega)
    have hc : (zi r).toNatClampNeg = r := zi_clamp (by omega)
    rw [b_164_102 hW, h3, if_pos (show zi r < Int32.ofInt 3 from (zi_lt (b := 3) (by omega) (by omega)).mpr (by omega)), if_pos (show zi r < Int32.ofInt 2 from (zi_lt (b := 2) (by omega) (by omega)).mpr hr), if_neg (show ¬ Int32.ofInt 1 = 0 by decide), if_pos h2, b_164_139 hW, if_pos h33, u_l1E, if_neg (show ¬ Int32.ofInt 1 = 0 by decide), show u_l1 li 4 (Int32.ofInt 1) 3 = li 3 from u_l1N (by omega), h3, if_pos h2, if_pos h33, hc, zi_one]
  have last : ∀ (li : Nat → Int32) (s : u_H), li 3 = zi 2 → u g_t164 102 (li, ll, [(2, 30), (1, W), (0, 38)]) [] s = u g_t164 102 (u_l1 (u_l1 li 4 (Int32.ofInt 0)) 3 (zi 3), ll, [(2, 30), (1, W), (0, 38)]) [] (y_u (y_u s.1 40 2 (u_k (-1))) 41 2 (Int32.ofInt 0), s.2) := by
    intro li s h3
    have h33 : u_in (zi 2) 3 = true := (u_inz (by omega)).mpr (by omega)
    have hc : (zi 2).toNatClampNeg = 2 := zi_clamp (by omega)
    rw [b_164_102 hW, h3, if_pos (show zi 2 < Int32.ofInt 3 by decide), if_neg (show ¬ zi 2 < Int32.ofInt 2 by decide), if_pos (show Int32.ofInt 0 = 0 by decide), b_164_139 hW, if_pos h33, u_l1E, if_pos (show Int32.ofInt 0 = 0 by decide), show u_l1 li 4 (Int32.ofInt 0) 3 = li 3 from u_l1N (by omega), h3, if_pos h33, hc, zi_one]
  have e1 := one 0 li s (by omega) hl
  have e2 : u g_t164 102 (u_l1 (u_l1 li 4 (Int32.ofInt 1)) 3 (zi (0 + 1)), ll, [(2, 30), (1, W), (0, 38)]) [] (y_u (y_u s.1 40 0 (s.1 31 0)) 41 0 (s.1 32 0), s.2) = u g_t164 102 (u_l1 (u_l1 (u_l1 (u_l1 li 4 (Int32.ofInt 1)) 3 (zi (0 + 1))) 4 (Int32.ofInt 1)) 3 (zi (1 + 1)), ll, [(2, 30), (1, W), (0, 38)]) [] (y_u (y_u (y_u (y_u s.1 40 0 (s.1 31 0)) 41 0 (s.1 32 0)) 40 1 (s.1 31 1)) 41 1 (s.1 32 1), s.2) := one 1 (u_l1 (u_l1 li 4 (Int32.ofInt 1)) 3 (zi (0 + 1))) (y_u (y_u s.1 40 0 (s.1 31 0)) 41 0 (s.1 32 0), s.2) (by omega) (u_l1E _ _ _)
  have e3 := last (u_l1 (u_l1 (u_l1 (u_l1 li 4 (Int32.ofInt 1)) 3 (zi (0 + 1))) 4 (Int32.ofInt 1)) 3 (zi (1 + 1))) (y_u (y_u (y_u (y_u s.1 40 0 (s.1 31 0)) 41 0 (s.1 32 0)) 40 1 (s.1 31 1)) 41 1 (s.1 32 1), s.2) (u_l1E _ _ _)
  have fr : u_fr (fun o k => o = 40 ∨ o = 41 ∨ (o = 36 ∧ (k = 14 ∨ k = 15))) s (y_u (y_u (y_u (y_u (y_u (y_u s.1 40 0 (s.1 31 0)) 41 0 (s.1 32 0)) 40 1 (s.1 31 1)) 41 1 (s.1 32 1)) 40 2 (u_k (-1))) 41 2 (Int32.ofInt 0), s.2) := u_fr.wi (u_fr.wi (u_fr.wi (u_fr.wi (u_fr.wi (u_fr.wi (f := s.1) (r := s.2) u_fr.rf (Or.inl rfl)) (Or.inr (Or.inl rfl))) (Or.inl rfl)) (Or.inr (Or.inl rfl))) (Or.inl rfl)) (Or.inr (Or.inl rfl))
  have o40 : ∀ r, r < 3 → y_u (y_u (y_u (y_u (y_u (y_u s.1 40 0 (s.1 31 0)) 41 0 (s.1 32 0)) 40 1 (s.1 31 1)) 41 1 (s.1 32 1)) 40 2 (u_k (-1))) 41 2 (Int32.ofInt 0) 40 r = (if r = 0 then s.1 31 0 else if r = 1 then s.1 31 1 else u_k (-1)) ∧ y_u (y_u (y_u (y_u (y_u (y_u s.1 40 0 (s.1 31 0)) 41 0 (s.1 32 0)) 40 1 (s.1 31 1)) 41 1 (s.1 32 1)) 40 2 (u_k (-1))) 41 2 (Int32.ofInt 0) 41 r = (if r = 0 then s.1 32 0 else if r = 1 then s.1 32 1 else Int32.ofInt 0) := by
    intro r hr
    rcases (show r = 0 ∨ r = 1 ∨ r = 2 by omega) with rfl | rfl | rfl
    · exact ⟨rfl, rfl⟩
    · exact ⟨rfl, rfl⟩
    · exact ⟨rfl, rfl⟩
  revert e3 fr o40
  generalize y_u (y_u (y_u (y_u (y_u (y_u s.1 40 0 (s.1 31 0)) 41 0 (s.1 32 0)) 40 1 (s.1 31 1)) 41 1 (s.1 32 1)) 40 2 (u_k (-1))) 41 2 (Int32.ofInt 0) = G
  intro e3 fr o40
  have nG : ∀ o k, ¬ (o = 40 ∨ o = 41 ∨ (o = 36 ∧ (k = 14 ∨ k = 15))) → G o k = s.1 o k := fun o k h => fr.i h
  have bG : ∀ (x : Int32) n, bF (y_u G 36 14 x) (Int32.ofInt 2) n = bF s.1 (Int32.ofInt 2) n := by
    intro x n
    induction n with
    | zero => rfl
    | succ n ih =>
      show (if y_u G 36 14 x 30 n = Int32.ofInt 2 then bF (y_u G 36 14 x) (Int32.ofInt 2) n ||| (Int32.ofInt 1 <<< (zi n &&& 31)) else bF (y_u G 36 14 x) (Int32.ofInt 2) n ||| Int32.ofInt 0) = (if s.1 30 n = Int32.ofInt 2 then bF s.1 (Int32.ofInt 2) n ||| (Int32.ofInt 1 <<< (zi n &&& 31)) else bF s.1 (Int32.ofInt 2) n ||| Int32.ofInt 0)
      rw [ih, y_uN (by omega), nG 30 n (by omega)]
  refine ⟨(y_u (y_u G 36 14 (s.1 28 8)) 36 15 (bF s.1 (Int32.ofInt 2) b), s.2), ?_, fun r hr => ?_, ?_, ⟨rfl, rfl⟩, u_fr.wi (u_fr.wi fr (Or.inr (Or.inr ⟨rfl, Or.inl rfl⟩))) (Or.inr (Or.inr ⟨rfl, Or.inr rfl⟩))⟩
  · rw [e1, e2, e3, b_164_102 hW, u_l1E, if_neg (show ¬ zi 3 < Int32.ofInt 3 by decide)]
    dsimp only
    rw [nG (W - 2) 4 (by omega), nG 28 8 (by omega), h0, c_bits hb, u_biS]
    show some (none, (y_u (y_u G 36 14 (s.1 28 8)) 36 15 (bF (y_u G 36 14 (s.1 28 8)) (Int32.ofInt 2) b), s.2)) = _
    rw [bG]
  · try dsimp only
    rw [y_uN (by omega), y_uN (by omega), y_uN (by omega), y_uN (by omega), (o40 r (by omega)).1, (o40 r (by omega)).2]
    rcases (show r = 0 ∨ r = 1 by omega) with rfl | rfl
    · exact ⟨rfl, rfl⟩
    · exact ⟨rfl, rfl⟩
  · try dsimp only
    rw [y_uN (by omega), y_uN (by omega), y_uN (by omega), y_uN (by omega), (o40 2 (by omega)).1, (o40 2 (by omega)).2]
    exact ⟨rfl, rfl⟩
/-- what an opened trial holds -/
def cO (W a b : Nat) (s s2 : u_H) : Prop := (∀ o k, ¬ (36 ≤ o ∧ o ≤ 41) → s2.1 o k = s.1 o k) ∧ s2.2.2 = (s.2.2.1, s.2.2.2.1, s.2.2.2.2.1, W) ∧ (∀ k, k < 7 → s2.1 37 k = s.1 29 k ∧ s2.1 38 k = s.1 (W + 4) k) ∧ s2.1 36 2 = s.1 28 1 ∧ (∀ v, v < a → s2.1 39 v = sLv W s.1 v) ∧ (s2.1 36 6 = s.1 28 3 ∧ s2.1 36 7 = s.1 (W - 2) 9 ∧ s2.1 36 8 = Int32.ofInt 0 ∧ s2.1 36 10 = s.1 (W - 2) 10 ∧ s2.1 36 14 = s.1 28 8 ∧ s2.1 36 15 = bF s.1 (Int32.ofInt 2) b) ∧ (∀ r, r < 2 → s2.1 40 r = s.1 31 r ∧ s2.1 41 r = s.1 32 r) ∧ s2.1 40 2 = u_k (-1) ∧ s2.1 41 2 = Int32.ofInt 0
theorem bF_eq {g g2 : Nat → Nat → Int32} {w : Int32} : ∀ n, (∀ p, p < n → g2 30 p = g 30 p) → bF g2 w n = bF g w n
  | 0, _ => rfl
  | n + 1, h => by
    show (if g2 30 n = w then bF g2 w n ||| (Int32.ofInt 1 <<< (zi n &&& 31)) else bF g2 w n ||| Int32.ofInt 0) = (if g 30 n = w then bF g w n ||| (Int32.ofInt 1 <<< (zi n &&& 31)) else bF g w n ||| Int32.ofInt 0)
    rw [bF_eq n (fun p hp => h p (by omega)), h n (by omega)]
theorem c_open (hW : W = 5 ∨ W = 17) {a b : Nat} (ha : a ≤ 5) (hb : b ≤ 7) {s : u_H} (h0 : s.1 (W - 2) 0 = zi a) (h4 : s.1 (W - 2) 4 = zi b) : ∃ s2, u_c 164 [.inr (.inr 38), .inr (.inr W), .inr (.inr 30)] s = some (none, s2) ∧ cO W a b s s2 := by
  have w0 : ∀ o k, o ≠ 36 → o ≠ 37 → o ≠ 38 → u_cp (y_u (u_cp s.1 37 0 29 0 7) 36 2 ((u_cp s.1 37 0 29 0 7) 28 1)) 38 0 (W + 4) 0 7 o k = s.1 o k := fun o k p q r => by
    rw [cpN (by omega), y_uN (by omega), cpN (by omega)]
  obtain ⟨l2, s2, e1, e2, e3, ⟨e4, e5, e6, e7⟩, e8⟩ := c164_45 hW ha 5 0 (u_l1 u_z1 3 (Int32.ofInt 0)) u_z2 (u_cp (y_u (u_cp s.1 37 0 29 0 7) 36 2 ((u_cp s.1 37 0 29 0 7) 28 1)) 38 0 (W + 4) 0 7, s.2.1, (s.2.2.1, s.2.2.2.1, s.2.2.2.2.1, W)) (by omega) (Nat.zero_le _) ((w0 (W - 2) 0 (by omega) (by omega) (by omega)).trans h0) (u_l1E _ _ _)
  have w2 : ∀ o k, ¬ ((o = 39 ∧ 0 ≤ k) ∨ (o = 36 ∧ f36 k)) → s2.1 o k = u_cp (y_u (u_cp s.1 37 0 29 0 7) 36 2 ((u_cp s.1 37 0 29 0 7) 28 1)) 38 0 (W + 4) 0 7 o k := fun o k h => e8.i h
  have n2 : ∀ o k, ¬ (36 ≤ o ∧ o ≤ 39) → s2.1 o k = s.1 o k := fun o k h => (w2 o k (by omega)).trans (w0 o k (by omega) (by omega) (by omega))
  obtain ⟨s3, g1, g2, ⟨g3, g4⟩, ⟨g5, g6⟩, g7⟩ := c164_102 hW hb (li := l2) (ll := u_z2) (s := s2) ((n2 (W - 2) 4 (by omega)).trans h4) e2
  have n3 : ∀ o k, ¬ (o = 40 ∨ o = 41 ∨ (o = 36 ∧ (k = 14 ∨ k = 15))) → s3.1 o k = s2.1 o k := fun o k h => g7.i h
  refine ⟨s3, ?_, fun o k h => (n3 o k (by omega)).trans (n2 o k (by omega)), ?_, fun k hk => ⟨?_, ?_⟩, ?_, fun v hv => ?_, ⟨?_, ?_, ?_, ?_, ?_, ?_⟩, fun r hr => ⟨?_, ?_⟩, g3, g4⟩
  · rw [b_164 hW, b_164_20 hW, b_164_43 hW, e1, g1]
  · exact g7.2.trans e8.2
  · rw [n3 37 k (by omega), w2 37 k (by unfold f36; omega), cpN (by omega), y_uN (by omega)]
    have := cpI (f := s.1) (d := 37) (dp := 0) (o := 29) (sp := 0) hk
    rw [Nat.zero_add] at this
    exact this
  · rw [n3 38 k (by omega), w2 38 k (by unfold f36; omega)]
    have := cpI (f := y_u (u_cp s.1 37 0 29 0 7) 36 2 ((u_cp s.1 37 0 29 0 7) 28 1)) (d := 38) (dp := 0) (o := W + 4) (sp := 0) hk
    rw [Nat.zero_add] at this
    rw [this, y_uN (by omega), cpN (by omega)]
  · rw [n3 36 2 (by omega), w2 36 2 (by unfold f36; omega), cpN (by omega), y_uE, cpN (by omega)]
  · rw [n3 39 v (by omega), e3 v (Nat.zero_le _) hv]
    exact sLv_eq (w0 28 6 (by omega) (by omega) (by omega)) (w0 W v (by omega) (by omega) (by omega)) (w0 (W + 1) v (by omega) (by omega) (by omega))
  · rw [n3 36 6 (by omega), e4]
    exact w0 28 3 (by omega) (by omega) (by omega)
  · rw [n3 36 7 (by omega), e5]
    exact w0 (W - 2) 9 (by omega) (by omega) (by omega)
  · rw [n3 36 8 (by omega), e6]
  · rw [n3 36 10 (by omega), e7]
    exact w0 (W - 2) 10 (by omega) (by omega) (by omega)
  · rw [g5]
    exact n2 _ _ (by omega)
  · rw [g6]
    exact bF_eq b (fun p hp => n2 30 p (by omega))
  · rw [(g2 r hr).1]
    exact n2 _ _ (by omega)
  · rw [(g2 r hr).2]
    exact n2 _ _ (by omega)
end OPEN
