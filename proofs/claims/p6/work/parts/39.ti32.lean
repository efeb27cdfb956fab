/-! WHAT SHOWS THE STATE: both sides answer alike -/
section SHOW
variable {W : Nat}
/-- both sides as they stand -/
def jV (W a b R w : Nat) (c : List Int) (l : Bool) (sC sM : u_H) : Prop := sC.2.2.1 = W ∧ tW W a b R w c l sC.1 sM.1 ∧ sM.1 65 47 = zi a ∧ sM.1 65 48 = zi b ∧ aR b R (nR sC.1) (sM.1 85)
/-- the model goes on from what is now -/
theorem m_filled (sM : u_H) : ∃ t1, u_c 203 [.inr (.inr 67)] sM = some (none, t1) ∧ (∀ k, k < 28 → t1.1 86 k = sM.1 85 k) ∧ tN sM.1 t1.1 ∧ ∀ o k, o ≠ 86 → (o ≠ 65 ∨ (k ≠ 27 ∧ k ≠ 28 ∧ k ≠ 29 ∧ k ≠ 59 ∧ k ≠ 62)) → (o < 87 ∨ 90 < o) → t1.1 o k = sM.1 o k := by
  obtain ⟨t1, f1, f2, f3, f4⟩ := m_fillT sM
  refine ⟨t1, f1, f2, f3, fun o k p q r => f4.i (fun z => ?_)⟩
  rcases z with z | z
  · exact p z
  · unfold f177 at z
    omega
theorem waves_alike {a b R w : Nat} {c : List Int} {l : Bool} {sC sM : u_H} (J : jV W a b R w c l sC sM) : ∃ y s2 t2, u_c 79 [.inr (.inr 2)] sC = some (some (.inl y), s2) ∧ u_c 319 [.inr (.inr 67)] sM = some (some (.inl y), t2) := by
  refine ⟨sC.1 28 7, sC, sM, b_79 sC, ?_⟩
  rw [b_319, show sC.1 28 7 = sM.1 85 25 from J.2.2.2.2.2.2.1.2.2.1]
theorem queue_alike {a b R w : Nat} {c : List Int} {l : Bool} {sC sM : u_H} (J : jV W a b R w c l sC sM) (x : Int32) : ∃ y s2 t2, u_c 58 [.inr (.inr 2), .inl x] sC = some (some (.inl y), s2) ∧ u_c 276 [.inr (.inr 67), .inl x] sM = some (some (.inl y), t2) := by
  obtain ⟨-, hA, -, -, hR⟩ := J
  have hb := hA.1.2.1
  obtain ⟨z, z1, zc, z2, z3, z4, -⟩ := hR.1
  have z2 : sC.1 28 1 = zi z := z2
  rcases isIn_zi (b := z) (by omega) x sM with ⟨p, hp, rfl, e⟩ | ⟨hn, e⟩
  · obtain ⟨q, q1, q2, q3, -⟩ := z4 p hp
    refine ⟨zi q, sC, sM, ?_, ?_⟩
    · rw [b_58, if_neg (zi_nonneg (by omega)), z2, if_pos ((zi_lt (by omega) (by omega)).mpr hp), if_pos ((u_inz (by omega)).mpr (by omega)), zi_clamp (by omega), (nRl (by omega)).symm.trans q2]
    · rw [b_276, z3, e, u_biS, if_neg (show ¬ Int32.ofInt 1 = 0 by decide), if_pos ((u_inz (by omega)).mpr (by omega)), zi_clamp (by omega), q3]
  · refine ⟨u_k (-1), sC, sM, ?_, ?_⟩
    · rw [b_58, z2]
      by_cases q : x < 0
      · rw [if_pos q]
      · obtain ⟨n, hn2, rfl⟩ := nn_zi q
        rw [if_neg q, if_neg (fun h => hn n ((zi_lt hn2 (by omega)).mp h) rfl)]
    · rw [b_276, z3, e, u_biS, if_pos (show Int32.ofInt 0 = 0 by decide)]
theorem rail_alike (hW : W = 5 ∨ W = 17) {a b R w : Nat} {c : List Int} {l : Bool} {sC sM : u_H} (J : jV W a b R w c l sC sM) (x y : Int32) : ∃ v s2 t2, u_c 59 [.inr (.inr 2), .inl x, .inl y] sC = some (some (.inl v), s2) ∧ u_c 279 [.inr (.inr 67), .inl x, .inl y] sM = some (some (.inl v), t2) := by
  obtain ⟨hT, hA, -, -, hR⟩ := J
  have h10 := hA.2.1.2.2.1
  have h50 := hA.2.1.2.2.2.2.2
  have r1 := hA.1.2.2.1
  have r2 := hA.1.2.2.2
  rcases isIn_zi (b := R) (by omega) x sM with ⟨p, hp, rfl, e⟩ | ⟨hn, e⟩
  · obtain ⟨q1, q2, -⟩ := hR.2.2.2.1 p (by omega)
    have q1 : sC.1 31 p = sM.1 85 (18 + p) := (nRp (by omega)).symm.trans q1
    have q2 : sC.1 32 p = sM.1 85 (21 + p) := (nRt (by omega)).symm.trans q2
    have i2 : u_in (zi p) 2 = true := (u_inz (by omega)).mpr (by omega)
    have k2 : (zi p).toNatClampNeg = p := zi_clamp (by omega)
    have hlt : zi p < zi R := (zi_lt (by omega) (by omega)).mpr hp
    by_cases y0 : y = 0
    · refine ⟨sC.1 31 p, sC, sM, ?_, ?_⟩
      · rw [b_59 hW, if_neg (zi_nonneg (by omega)), if_pos hT, h10, if_pos hlt, if_pos y0, if_pos i2, k2]
      · rw [b_279, h50, e, u_biS, if_neg (show ¬ Int32.ofInt 1 = 0 by decide), if_pos y0, show Int32.ofInt 18 = zi 18 from rfl, zi_add, if_pos ((u_inz (by omega)).mpr (by omega)), zi_clamp (by omega), q1]
    · by_cases y1 : y = Int32.ofInt 1
      · refine ⟨sC.1 32 p, sC, sM, ?_, ?_⟩
        · rw [b_59 hW, if_neg (zi_nonneg (by omega)), if_pos hT, h10, if_pos hlt, if_neg y0, if_pos y1, if_pos i2, k2]
        · rw [b_279, h50, e, u_biS, if_neg (show ¬ Int32.ofInt 1 = 0 by decide), if_neg y0, if_pos y1, show Int32.ofInt 21 = zi 21 from rfl, zi_add, if_pos ((u_inz (by omega)).mpr (by omega)), zi_clamp (by omega), q2]
      · refine ⟨u_k (-1), sC, sM, ?_, ?_⟩
        · rw [b_59 hW, if_neg (zi_nonneg (by omega)), if_pos hT, h10, if_pos hlt, if_neg y0, if_neg y1]
        · rw [b_279, h50, e, u_biS, if_neg (show ¬ Int32.ofInt 1 = 0 by decide), if_neg y0, if_neg y1]
  · refine ⟨u_k (-1), sC, sM, ?_, ?_⟩
    · rw [b_59 hW, h10]
      by_cases q : x < 0
      · rw [if_pos q]
      · obtain ⟨n, hn2, rfl⟩ := nn_zi q
        rw [if_neg q, if_pos hT, if_neg (fun h => hn n ((zi_lt hn2 (by omega)).mp h) rfl)]
    · rw [b_279, h50, e, u_biS, if_pos (show Int32.ofInt 0 = 0 by decide)]
/-- who is not in the queue has no place -/
theorem c147_no {z : Nat} (hz : z ≤ 7) {y : Int32} {s : u_H} (h1 : s.1 28 1 = zi z) (hno : ∀ j, j < z → s.1 29 j ≠ y) : ∀ (f i : Nat) (li : Nat → Int32) (ll : Nat → Int64), z - i ≤ f → i ≤ z → li 1 = y → li 2 = zi i → u g_t147 2 (li, ll, [(0, 30)]) [] s = some (some (.inl (u_k (-1))), s) := by
  intro f
  have stop : ∀ (li : Nat → Int32) (ll : Nat → Int64), li 2 = zi z → u g_t147 2 (li, ll, [(0, 30)]) [] s = some (some (.inl (u_k (-1))), s) := by
    intro li ll hl
    rw [b_147_2, hl, h1, if_neg (by rw [zi_lt (by omega) (by omega)]; omega)]
  induction f with
  | zero =>
    intro i li ll hf hi hp hl
    exact stop li ll (by rw [hl]; exact congrArg zi (by omega))
  | succ f ih =>
    intro i li ll hf hi hp hl
    rcases Nat.lt_or_ge i z with q | q
    · rw [b_147_2, hl, h1, if_pos ((zi_lt (by omega) (by omega)).mpr q), if_pos ((u_inz (by omega)).mpr (by omega)), zi_clamp (by omega), hp, if_neg (hno i q), zi_one]
      exact ih (i + 1) _ _ (by omega) (by omega) ((u_l1N (by omega)).trans hp) (u_l1E _ _ _)
    · exact stop li ll (by rw [hl]; exact congrArg zi (by omega))
theorem m272_no {z : Nat} (hz : z ≤ 7) {y : Int32} {s : u_H} (h8 : s.1 86 8 = zi z) (hno : ∀ j, j < z → s.1 86 j ≠ y) : ∀ (f i : Nat) (li : Nat → Int32) (ll : Nat → Int64), z - i ≤ f → i ≤ z → li 1 = y → li 2 = u_k (-1) → li 3 = zi i → u g_t272 4 (li, ll, [(0, 67)]) [] s = some (some (.inl (u_k (-1))), s) := by
  intro f
  have stop : ∀ (li : Nat → Int32) (ll : Nat → Int64), li 2 = u_k (-1) → li 3 = zi z → u g_t272 4 (li, ll, [(0, 67)]) [] s = some (some (.inl (u_k (-1))), s) := by
    intro li ll h2 hl
    rw [b_272_4, b_277, u_biS, hl, h8, if_neg (by rw [zi_lt (by omega) (by omega)]; omega), h2]
  induction f with
  | zero =>
    intro i li ll hf hi hp h2 hl
    exact stop li ll h2 (by rw [hl]; exact congrArg zi (by omega))
  | succ f ih =>
    intro i li ll hf hi hp h2 hl
    rcases Nat.lt_or_ge i z with q | q
    · rw [b_272_4, b_277, u_biS, hl, h8, if_pos ((zi_lt (by omega) (by omega)).mpr q), if_pos ((u_inz (by omega)).mpr (by omega)), zi_clamp (by omega), hp, if_neg (hno i q), zi_one]
      exact ih (i + 1) _ _ (by omega) (by omega) (by rw [u_l1N (by omega), u_l1N (by omega)]; exact hp) (by rw [u_l1N (by omega), u_l1E]; exact h2) (u_l1E _ _ _)
    · exact stop li ll h2 (by rw [hl]; exact congrArg zi (by omega))
theorem m_truth0 (s : u_H) : u_c 313 [.inl (Int32.ofInt 0)] s = some (some (.inl (Int32.ofInt 0)), s) := by
  rw [b_313, if_pos (show Int32.ofInt 0 = 0 by decide)]
theorem m_truth1 (s : u_H) : u_c 313 [.inl (Int32.ofInt 1)] s = some (some (.inl (Int32.ofInt 1)), s) := by
  rw [b_313, if_neg (show ¬ Int32.ofInt 1 = 0 by decide)]
theorem pair_alike (hW : W = 5 ∨ W = 17) {a b R w : Nat} {c : List Int} {l : Bool} {sC sM : u_H} (J : jV W a b R w c l sC sM) (x y : Int32) : ∃ v s2 t2, u_c 54 [.inr (.inr 2), .inl x, .inl y] sC = some (some (.inl v), s2) ∧ u_c 271 [.inr (.inr 67), .inl x, .inl y] sM = some (some (.inl v), t2) := by
  obtain ⟨hT, hA, h47, h48, hR⟩ := J
  have hb := hA.1.2.1
  have n10 : ¬ Int32.ofInt 1 = 0 := by decide
  have z00 : Int32.ofInt 0 = 0 := by decide
  obtain ⟨t1, f1, f2, f3, f4⟩ := m_filled sM
  rcases isPair_alike hW hb hT hA.2.1.2.1 h48 x with ⟨p, hp, rfl, e1, e2⟩ | ⟨e1, e2⟩
  · obtain ⟨⟨v, v1, v2, v3⟩, n4, n5⟩ := hA.2.2.2.1 p hp
    have i7 : u_in (zi p) 7 = true := (u_inz (by omega)).mpr (by omega)
    have i8 : u_in (zi p) 8 = true := (u_inz (by omega)).mpr (by omega)
    have k7 : (zi p).toNatClampNeg = p := zi_clamp (by omega)
    by_cases y0 : y = Int32.ofInt 0
    · refine ⟨zi v, sC, t1, ?_, ?_⟩
      · rw [b_54 hW, e1, u_biS, if_neg n10, if_pos y0, if_pos hT, if_pos i7, k7, v2]
      · rw [b_271, e2, u_biS, if_neg n10, f1, u_bvS, if_pos y0, if_pos i8, k7, f4 82 p (by omega) (by omega) (by omega), v3]
    by_cases y1 : y = Int32.ofInt 1
    · refine ⟨sC.1 (W + 4) p, sC, t1, ?_, ?_⟩
      · rw [b_54 hW, e1, u_biS, if_neg n10, if_neg y0, if_pos y1, if_pos hT, if_pos i7, k7]
      · rw [b_271, e2, u_biS, if_neg n10, f1, u_bvS, if_neg y0, if_pos y1, if_pos i8, k7, f4 83 p (by omega) (by omega) (by omega), n4]
    by_cases y2 : y = Int32.ofInt 2
    · refine ⟨sC.1 (W + 5) p, sC, t1, ?_, ?_⟩
      · rw [b_54 hW, e1, u_biS, if_neg n10, if_neg y0, if_neg y1, if_pos y2, if_pos hT, if_pos i7, k7]
      · rw [b_271, e2, u_biS, if_neg n10, f1, u_bvS, if_neg y0, if_neg y1, if_pos y2, if_pos i8, k7, f4 84 p (by omega) (by omega) (by omega), n5]
    by_cases y3 : y = Int32.ofInt 3
    · obtain ⟨h, hh, x1, x2⟩ := hR.2.1 p hp
      refine ⟨zi h, sC, t1, ?_, ?_⟩
      · rw [b_54 hW, e1, u_biS, if_neg n10, if_neg y0, if_neg y1, if_neg y2, if_pos y3, if_pos i7, k7, (nRh (by omega)).symm.trans x1]
      · rw [b_271, e2, u_biS, if_neg n10, f1, u_bvS, if_neg y0, if_neg y1, if_neg y2, if_pos y3, show Int32.ofInt 9 = zi 9 from rfl, zi_add, if_pos ((u_inz (by omega)).mpr (by omega)), zi_clamp (by omega), f4 85 (9 + p) (by omega) (by omega) (by omega), x2]
    by_cases y4 : y = Int32.ofInt 4
    · by_cases h0 : nR sC.1 (7 + p) = zi 0
      · obtain ⟨z, k, z1, k1, z2, z3, k2, k3, kn⟩ := aQ_place hb hR.1 hp h0
        have pl := c_place (z := z) (k := k) (p := p) (by omega) k1 (s := sC) (show sC.1 28 1 = zi z from z2) ((nRl (by omega)).symm.trans k2) (fun j hj q => (kn j (by omega) (by omega)).1 ((nRl (by omega)).trans q))
        have pm := m_place (z := z) (k := k) (p := p) (by omega) k1 (s := t1) ((f2 8 (by omega)).trans z3) ((f2 k (by omega)).trans k3) (fun j hj hjk q => (kn j hj hjk).2 ((f2 j (by omega)).symm.trans q))
        refine ⟨zi k, sC, t1, ?_, ?_⟩
        · rw [b_54 hW, e1, u_biS, if_neg n10, if_neg y0, if_neg y1, if_neg y2, if_neg y3, if_pos y4, pl, u_biS]
        · rw [b_271, e2, u_biS, if_neg n10, f1, u_bvS, if_neg y0, if_neg y1, if_neg y2, if_neg y3, if_pos y4, pm, u_biS]
      · obtain ⟨z, z1, zc, z2, z3, z4, -⟩ := hR.1
        have no : ∀ j, j < z → sC.1 29 j ≠ zi p ∧ t1.1 86 j ≠ zi p := fun j hj => by
          obtain ⟨q, q1, q2, q3, q4⟩ := z4 j hj
          have hne : ¬ zi q = zi p := fun e => by
            have := (zi_inj (by omega) (by omega)).mp e
            subst this
            exact h0 q4
          exact ⟨fun e => hne (q2.symm.trans ((nRl (by omega)).trans e)), fun e => hne (q3.symm.trans ((f2 j (by omega)).symm.trans e))⟩
        have pl : u_c 147 [.inr (.inr 30), .inl (zi p)] sC = some (some (.inl (u_k (-1))), sC) := by
          rw [b_147]
          exact c147_no (z := z) (y := zi p) (by omega) (show sC.1 28 1 = zi z from z2) (fun j hj => (no j hj).1) 7 0 _ _ (by omega) (Nat.zero_le _) (by rw [u_l1N (by omega), u_l1E]) (u_l1E _ _ _)
        have pm : u_c 272 [.inr (.inr 67), .inl (zi p)] t1 = some (some (.inl (u_k (-1))), t1) := by
          rw [b_272]
          exact m272_no (z := z) (y := zi p) (by omega) ((f2 8 (by omega)).trans z3) (fun j hj => (no j hj).2) 7 0 _ _ (by omega) (Nat.zero_le _) (by rw [u_l1N (by omega), u_l1N (by omega), u_l1E]) (by rw [u_l1N (by omega), u_l1E]) (u_l1E _ _ _)
        refine ⟨u_k (-1), sC, t1, ?_, ?_⟩
        · rw [b_54 hW, e1, u_biS, if_neg n10, if_neg y0, if_neg y1, if_neg y2, if_neg y3, if_pos y4, pl, u_biS]
        · rw [b_271, e2, u_biS, if_neg n10, f1, u_bvS, if_neg y0, if_neg y1, if_neg y2, if_neg y3, if_pos y4, pm, u_biS]
    by_cases y5 : y = Int32.ofInt 5
    · have h17 : sC.1 28 3 = sM.1 85 17 := hR.2.2.1.1
      have m17 : t1.1 85 17 = sM.1 85 17 := f4 85 17 (by omega) (by omega) (by omega)
      by_cases q : bN (sC.1 28 3) p
      · refine ⟨Int32.ofInt 0, sC, t1, ?_, ?_⟩
        · rw [b_54 hW, e1, u_biS, if_neg n10, if_neg y0, if_neg y1, if_neg y2, if_neg y3, if_neg y4, if_pos y5, b_143, c_h0 q, u_biS, if_pos (show q_ib (Int32.ofInt 0) = true by decide), u_biS, if_pos z00]
        · rw [b_271, e2, u_biS, if_neg n10, f1, u_bvS, if_neg y0, if_neg y1, if_neg y2, if_neg y3, if_neg y4, if_pos y5, m17, ← h17, m_h0 q, u_biS, m_truth0, u_biS]
      · refine ⟨Int32.ofInt 1, sC, t1, ?_, ?_⟩
        · rw [b_54 hW, e1, u_biS, if_neg n10, if_neg y0, if_neg y1, if_neg y2, if_neg y3, if_neg y4, if_pos y5, b_143, c_h1 q, u_biS, if_pos (show q_ib (Int32.ofInt 1) = true by decide), u_biS, if_neg n10]
        · rw [b_271, e2, u_biS, if_neg n10, f1, u_bvS, if_neg y0, if_neg y1, if_neg y2, if_neg y3, if_neg y4, if_pos y5, m17, ← h17, m_h1 q, u_biS, m_truth1, u_biS]
    · refine ⟨u_k (-1), sC, t1, ?_, ?_⟩
      · rw [b_54 hW, e1, u_biS, if_neg n10, if_neg y0, if_neg y1, if_neg y2, if_neg y3, if_neg y4, if_neg y5]
      · rw [b_271, e2, u_biS, if_neg n10, f1, u_bvS, if_neg y0, if_neg y1, if_neg y2, if_neg y3, if_neg y4, if_neg y5]
  · refine ⟨u_k (-1), sC, sM, ?_, ?_⟩
    · rw [b_54 hW, e1, u_biS, if_pos z00]
    · rw [b_271, e2, u_biS, if_pos z00]
end SHOW
