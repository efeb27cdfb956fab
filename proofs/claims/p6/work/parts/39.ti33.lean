/-! WHAT SHOWS THE STATE, the rest: ship, soonest, fondest -/
section SHOW2
variable {W : Nat}
/-- whose SHIP x is, as bits -/
def bS (g : Nat → Int32) (x : Int32) : Nat → Int32
  | 0 => Int32.ofInt 0
  | i + 1 => bS g x i ||| (if g i = x then Int32.ofInt 1 <<< (zi i &&& 31) else Int32.ofInt 0)
theorem sh_0 : ∀ i : Fin 7, (Int32.ofInt 0 <<< (zi i.1 &&& 31)) = Int32.ofInt 0 := by decide +kernel
theorem c155_4 (hW : W = 5 ∨ W = 17) {b : Nat} (hb : b ≤ 7) {x : Int32} {g : Nat → Int32} : ∀ (f i : Nat) (li : Nat → Int32) (ll : Nat → Int64) (s : u_H), b - i ≤ f → i ≤ b → s.1 (W - 2) 4 = zi b → (∀ k, k < b → s.1 (W + 3) k = g k) → li 1 = x → li 2 = bS g x i → li 3 = zi i → u g_t155 4 (li, ll, [(0, W)]) [] s = some (some (.inl (bS g x b)), s) := by
  intro f
  have stop : ∀ (li : Nat → Int32) (ll : Nat → Int64) (s : u_H), s.1 (W - 2) 4 = zi b → li 2 = bS g x b → li 3 = zi b → u g_t155 4 (li, ll, [(0, W)]) [] s = some (some (.inl (bS g x b)), s) := by
    intro li ll s h4 h2 h3
    rw [b_155_4 hW, h3, h4, if_neg (by rw [zi_lt (by omega) (by omega)]; omega), h2]
  induction f with
  | zero =>
    intro i li ll s hf hi h4 hg h1 h2 h3
    have e : i = b := by omega
    subst e
    exact stop li ll s h4 h2 h3
  | succ f ih =>
    intro i li ll s hf hi h4 hg h1 h2 h3
    rcases Nat.lt_or_ge i b with q | q
    · rw [b_155_4 hW, h3, h4, if_pos ((zi_lt (by omega) (by omega)).mpr q), if_pos ((u_inz (by omega)).mpr (by omega)), zi_clamp (by omega), hg i q, h1, h2, zi_one]
      by_cases z : g i = x
      · rw [if_pos z]
        refine ih (i + 1) _ _ _ (by omega) (by omega) h4 hg (by rw [u_l1N (by omega), u_l1N (by omega)]; exact h1) ?_ (u_l1E _ _ _)
        rw [u_l1N (by omega), u_l1E]
        show _ = bS g x i ||| (if g i = x then _ else _)
        rw [if_pos z]
      · rw [if_neg z]
        refine ih (i + 1) _ _ _ (by omega) (by omega) h4 hg (by rw [u_l1N (by omega), u_l1N (by omega)]; exact h1) ?_ (u_l1E _ _ _)
        rw [u_l1N (by omega), u_l1E]
        show _ = bS g x i ||| (if g i = x then _ else _)
        rw [if_neg z]
    · have e : i = b := by omega
      subst e
      exact stop li ll s h4 h2 h3
theorem m297_19 {b : Nat} (hb : b ≤ 7) {x : Int32} {g : Nat → Int32} : ∀ (f i : Nat) (li : Nat → Int32) (ll : Nat → Int64) (s : u_H), b - i ≤ f → i ≤ b → s.1 65 48 = zi b → (∀ k, k < b → s.1 82 k = g k) → li 1 = x → li 3 = bS g x i → li 4 = zi i → ∃ li2 : Nat → Int32, u g_t297 19 (li, ll, [(0, 67)]) [] s = u g_t297 19 (li2, ll, [(0, 67)]) [] s ∧ li2 1 = x ∧ li2 2 = li 2 ∧ li2 3 = bS g x b ∧ li2 4 = zi b := by
  intro f
  induction f with
  | zero =>
    intro i li ll s hf hi h4 hg h1 h2 h3
    have e : i = b := by omega
    subst e
    exact ⟨li, rfl, h1, rfl, h2, h3⟩
  | succ f ih =>
    intro i li ll s hf hi h4 hg h1 h2 h3
    rcases Nat.lt_or_ge i b with q | q
    · rw [b_297_19, h3, h4, if_pos ((zi_lt (by omega) (by omega)).mpr q), if_pos ((u_inz (by omega)).mpr (by omega)), zi_clamp (by omega), hg i q, h1, h2, zi_one]
      by_cases z : g i = x
      · rw [if_pos z, m_truth1, u_biS]
        obtain ⟨l2, k1, k2, k3, k4, k5⟩ := ih (i + 1) (u_l1 (u_l1 li 3 (bS g x i ||| (Int32.ofInt 1 <<< (zi i &&& 31)))) 4 (zi (i + 1))) ll s (by omega) (by omega) h4 hg (by rw [u_l1N (by omega), u_l1N (by omega)]; exact h1) (by
          rw [u_l1N (by omega), u_l1E]
          show _ = bS g x i ||| (if g i = x then _ else _)
          rw [if_pos z]) (u_l1E _ _ _)
        refine ⟨l2, k1, k2, k3.trans ?_, k4, k5⟩
        rw [u_l1N (by omega), u_l1N (by omega)]
      · rw [if_neg z, m_truth0, u_biS, sh_0 ⟨i, by omega⟩]
        obtain ⟨l2, k1, k2, k3, k4, k5⟩ := ih (i + 1) (u_l1 (u_l1 li 3 (bS g x i ||| Int32.ofInt 0)) 4 (zi (i + 1))) ll s (by omega) (by omega) h4 hg (by rw [u_l1N (by omega), u_l1N (by omega)]; exact h1) (by
          rw [u_l1N (by omega), u_l1E]
          show _ = bS g x i ||| (if g i = x then _ else _)
          rw [if_neg z]) (u_l1E _ _ _)
        refine ⟨l2, k1, k2, k3.trans ?_, k4, k5⟩
        rw [u_l1N (by omega), u_l1N (by omega)]
    · have e : i = b := by omega
      subst e
      exact ⟨li, rfl, h1, rfl, h2, h3⟩
theorem ship_alike (hW : W = 5 ∨ W = 17) {a b R w : Nat} {c : List Int} {l : Bool} {sC sM : u_H} (J : jV W a b R w c l sC sM) (x y : Int32) : ∃ v s2 t2, u_c 67 [.inr (.inr 2), .inl x, .inl y] sC = some (some (.inl v), s2) ∧ u_c 297 [.inr (.inr 67), .inl x, .inl y] sM = some (some (.inl v), t2) := by
  obtain ⟨hT, hA, h47, h48, hR⟩ := J
  have hb := hA.1.2.1
  have ha := hA.1.1
  have n10 : ¬ Int32.ofInt 1 = 0 := by decide
  have z00 : Int32.ofInt 0 = 0 := by decide
  obtain ⟨t1, f1, f2, f3, f4⟩ := m_filled sM
  rcases isShip_alike hW ha hT hA.2.1.1 h47 x with ⟨p, hp, rfl, e1, e2⟩ | ⟨e1, e2⟩
  · obtain ⟨b1, b2⟩ := hA.2.2.1 p hp
    have t80 : t1.1 80 p = sM.1 80 p := f4 80 p (by omega) (by omega) (by omega)
    have t81 : t1.1 81 p = sM.1 81 p := f4 81 p (by omega) (by omega) (by omega)
    have h6 : sC.1 28 6 = t1.1 86 24 := (show sC.1 28 6 = sM.1 85 24 from hR.2.2.1.2.1).trans (f2 24 (by omega)).symm
    have h8 : sC.1 28 8 = t1.1 86 26 := by
      obtain ⟨t, q1, q2, q3⟩ := hR.2.2.1.2.2.2.1
      exact (show sC.1 28 8 = zi t from q2).trans (q3.symm.trans (f2 26 (by omega)).symm)
    have i5 : u_in (zi p) 5 = true := (u_inz (by omega)).mpr (by omega)
    have k5 : (zi p).toNatClampNeg = p := zi_clamp (by omega)
    obtain ⟨l2, k1, k2, k3, k4, k6⟩ := m297_19 (b := b) hb (x := zi p) (g := fun k => sC.1 (W + 3) k) 7 0 (u_l1 (u_l1 (u_l1 (u_l1 u_z1 1 (zi p)) 2 y) 3 (Int32.ofInt 0)) 4 (Int32.ofInt 0)) u_z2 t1 (by omega) (Nat.zero_le _) ((f4 65 48 (by omega) (by omega) (by omega)).trans h48) (fun k hk => by
      obtain ⟨⟨v, -, v2, v3⟩, -, -⟩ := hA.2.2.2.1 k hk
      rw [f4 82 k (by omega) (by omega) (by omega), v3, ← v2]) rfl rfl (u_l1E _ _ _)
    have k3 : l2 2 = y := k3
    have hM : ∀ r, (u g_t297 19 (l2, u_z2, [(0, 67)]) [] t1 = r) → u_c 297 [.inr (.inr 67), .inl (zi p), .inl y] sM = r := fun r h => by
      rw [b_297, e2, u_biS, if_neg n10, f1, u_bvS, k1, h]
    have out : ¬ l2 4 < t1.1 65 48 := by
      rw [k6, f4 65 48 (by omega) (by omega) (by omega), h48, zi_lt (by omega) (by omega)]
      omega
    by_cases y0 : y = Int32.ofInt 0
    · refine ⟨sLv W sC.1 p, sC, t1, ?_, hM _ ?_⟩
      · rw [b_67 hW, e1, u_biS, if_neg n10, if_pos y0, if_pos hT, c_sail hW (by omega), u_biS]
      · rw [b_297_19, if_neg out, k3, if_pos y0, k2, m_sail (by omega) f3.2.2.1, u_biS, sLvm h6 (b1.trans t80.symm) (b2.trans t81.symm)]
    by_cases y1 : y = Int32.ofInt 1
    · refine ⟨sC.1 (W + 1) p, sC, t1, ?_, hM _ ?_⟩
      · rw [b_67 hW, e1, u_biS, if_neg n10, if_neg y0, if_pos y1, if_pos hT, if_pos i5, k5]
      · rw [b_297_19, if_neg out, k3, if_neg y0, if_pos y1, k2, if_pos i5, k5, t81, b2]
    by_cases y2 : y = Int32.ofInt 2
    · have m24 : t1.1 85 24 = sC.1 28 6 := (f4 85 24 (by omega) (by omega) (by omega)).trans ((f2 24 (by omega)).symm.trans h6.symm)
      by_cases q : bN (sC.1 28 6) p
      · refine ⟨Int32.ofInt 0, sC, t1, ?_, hM _ ?_⟩
        · rw [b_67 hW, e1, u_biS, if_neg n10, if_neg y0, if_neg y1, if_pos y2, b_142, c_h0 q, u_biS, if_pos (show q_ib (Int32.ofInt 0) = true by decide), u_biS, if_pos z00]
        · rw [b_297_19, if_neg out, k3, if_neg y0, if_neg y1, if_pos y2, k2, m24, m_h0 q, u_biS, m_truth0, u_biS]
      · refine ⟨Int32.ofInt 1, sC, t1, ?_, hM _ ?_⟩
        · rw [b_67 hW, e1, u_biS, if_neg n10, if_neg y0, if_neg y1, if_pos y2, b_142, c_h1 q, u_biS, if_pos (show q_ib (Int32.ofInt 1) = true by decide), u_biS, if_neg n10]
        · rw [b_297_19, if_neg out, k3, if_neg y0, if_neg y1, if_pos y2, k2, m24, m_h1 q, u_biS, m_truth1, u_biS]
    by_cases y3 : y = Int32.ofInt 3
    · rcases gone_alike hW (v := p) (sC := sC) (sM := t1) (by omega) hT h6 (b1.trans t80.symm) (b2.trans t81.symm) h8 f3.2.2.1 with ⟨-, q1, q2⟩ | ⟨-, q1, q2⟩
      · refine ⟨Int32.ofInt 0, sC, t1, ?_, hM _ ?_⟩
        · rw [b_67 hW, e1, u_biS, if_neg n10, if_neg y0, if_neg y1, if_neg y2, if_pos y3, q1, u_biS, if_pos z00]
        · rw [b_297_19, if_neg out, k3, if_neg y0, if_neg y1, if_neg y2, if_pos y3, k2, q2, u_biS, m_truth0, u_biS]
      · refine ⟨Int32.ofInt 1, sC, t1, ?_, hM _ ?_⟩
        · rw [b_67 hW, e1, u_biS, if_neg n10, if_neg y0, if_neg y1, if_neg y2, if_pos y3, q1, u_biS, if_neg n10]
        · rw [b_297_19, if_neg out, k3, if_neg y0, if_neg y1, if_neg y2, if_pos y3, k2, q2, u_biS, m_truth1, u_biS]
    by_cases y4 : y = Int32.ofInt 4
    · have cs : u g_t155 4 ((u_l1 (u_l1 (u_l1 u_z1 1 (zi p)) 2 (Int32.ofInt 0)) 3 (Int32.ofInt 0)), u_z2, [(0, W)]) [] sC = some (some (.inl (bS (fun k => sC.1 (W + 3) k) (zi p) b)), sC) := c155_4 hW hb 7 0 _ _ _ (by omega) (Nat.zero_le _) hA.2.1.2.1 (fun _ _ => rfl) (by rw [u_l1N (by omega), u_l1N (by omega), u_l1E]) (by rw [u_l1N (by omega), u_l1E]; rfl) (u_l1E _ _ _)
      refine ⟨bS (fun k => sC.1 (W + 3) k) (zi p) b, sC, t1, ?_, hM _ ?_⟩
      · rw [b_67 hW, e1, u_biS, if_neg n10, if_neg y0, if_neg y1, if_neg y2, if_neg y3, if_pos y4, if_pos hT, b_155 hW, cs, u_biS]
      · rw [b_297_19, if_neg out, k3, if_neg y0, if_neg y1, if_neg y2, if_neg y3, if_pos y4, k4]
    · refine ⟨u_k (-1), sC, t1, ?_, hM _ ?_⟩
      · rw [b_67 hW, e1, u_biS, if_neg n10, if_neg y0, if_neg y1, if_neg y2, if_neg y3, if_neg y4]
      · rw [b_297_19, if_neg out, k3, if_neg y0, if_neg y1, if_neg y2, if_neg y3, if_neg y4]
  · refine ⟨u_k (-1), sC, sM, ?_, ?_⟩
    · rw [b_67 hW, e1, u_biS, if_pos z00]
    · rw [b_297, e2, u_biS, if_pos z00]
/-- the soonest, from ship i on; best as far as seen -/
theorem soon_loop (hW : W = 5 ∨ W = 17) {a : Nat} (ha : a ≤ 5) {sC t1 : u_H} (hT : sC.2.2.1 = W) (h0 : sC.1 (W - 2) 0 = zi a) (h47 : t1.1 65 47 = zi a) (h6 : sC.1 28 6 = t1.1 86 24) (h8 : sC.1 28 8 = t1.1 86 26) (hl : t1.1 65 29 = u_k (-1)) (hs : ∀ k, k < a → sC.1 W k = t1.1 80 k ∧ sC.1 (W + 1) k = t1.1 81 k) : ∀ (f i : Nat) (li lj : Nat → Int32) (ll lm : Nat → Int64), a - i ≤ f → i ≤ a → li 1 = lj 1 → (li 1 = u_k (-1) ∨ ∃ q, q < a ∧ li 1 = zi q) → li 2 = zi i → lj 2 = zi i → ∃ y, u g_t70 4 (li, ll, [(0, 2)]) [] sC = some (some (.inl y), sC) ∧ u g_t301 8 (lj, lm, [(0, 67)]) [] t1 = some (some (.inl y), t1) := by
  have n10 : ¬ Int32.ofInt 1 = 0 := by decide
  have z00 : Int32.ofInt 0 = 0 := by decide
  intro f
  have stop : ∀ (li lj : Nat → Int32) (ll lm : Nat → Int64), li 1 = lj 1 → li 2 = zi a → lj 2 = zi a → ∃ y, u g_t70 4 (li, ll, [(0, 2)]) [] sC = some (some (.inl y), sC) ∧ u g_t301 8 (lj, lm, [(0, 67)]) [] t1 = some (some (.inl y), t1) := by
    intro li lj ll lm h1 h2 h3
    refine ⟨li 1, ?_, ?_⟩
    · rw [b_70_4 hW, if_pos hT, h2, h0, if_neg (by rw [zi_lt (by omega) (by omega)]; omega)]
    · rw [b_301_8, h3, h47, if_neg (by rw [zi_lt (by omega) (by omega)]; omega), h1]
  induction f with
  | zero =>
    intro i li lj ll lm hf hi h1 hb h2 h3
    have e : i = a := by omega
    subst e
    exact stop li lj ll lm h1 h2 h3
  | succ f ih =>
    intro i li lj ll lm hf hi h1 hb h2 h3
    rcases Nat.lt_or_ge i a with q | q
    · have hlt : zi i < zi a := (zi_lt (by omega) (by omega)).mpr q
      obtain ⟨s1, s2⟩ := hs i q
      have ei : sLv W sC.1 i = sLm t1.1 i := sLvm h6 s1 s2
      have step : ∀ (v0 : Int32) (A : Int32) (lj' : Nat → Int32), (v0 = 0 ∨ v0 = Int32.ofInt 1) → True := fun _ _ _ _ => trivial
      rcases gone_alike hW (v := i) (sC := sC) (sM := t1) (by omega) hT h6 s1 s2 h8 hl with ⟨-, q1, q2⟩ | ⟨-, q1, q2⟩
      · -- not gone
        rcases hb with hb | ⟨p, hp, hb⟩
        · -- none as yet
          obtain ⟨y, y1, y2⟩ := ih (i + 1) (u_l1 (u_l1 (u_l1 li 3 (Int32.ofInt 1)) 1 (zi i)) 2 (zi (i + 1))) (u_l1 (u_l1 lj 1 (zi i)) 2 (zi (i + 1))) ll lm (by omega) (by omega) (by rw [u_l1N (by omega), u_l1E, u_l1N (by omega), u_l1E]) (Or.inr ⟨i, q, by rw [u_l1N (by omega), u_l1E]⟩) (u_l1E _ _ _) (u_l1E _ _ _)
          refine ⟨y, ?_, ?_⟩
          · rw [b_70_4 hW, if_pos hT, h2, h0, if_pos hlt, if_pos hb, b_70_52, if_neg n10, h2, q1, u_biS, if_pos z00, zi_one]
            exact y1
          · rw [b_301_8, h3, h47, if_pos hlt, q2, u_biS, if_pos z00, ← h1, hb, if_pos zk_neg, zi_one]
            exact y2
        · have hne : ¬ li 1 = u_k (-1) := by rw [hb]; exact zi_n0 (by omega)
          have hnn : ¬ zi p < 0 := zi_nonneg (by omega)
          obtain ⟨p1, p2⟩ := hs p hp
          have ep : sLv W sC.1 p = sLm t1.1 p := sLvm h6 p1 p2
          by_cases lt : sLm t1.1 i < sLm t1.1 p
          · obtain ⟨y, y1, y2⟩ := ih (i + 1) (u_l1 (u_l1 (u_l1 li 3 (Int32.ofInt 1)) 1 (zi i)) 2 (zi (i + 1))) (u_l1 (u_l1 lj 1 (zi i)) 2 (zi (i + 1))) ll lm (by omega) (by omega) (by rw [u_l1N (by omega), u_l1E, u_l1N (by omega), u_l1E]) (Or.inr ⟨i, q, by rw [u_l1N (by omega), u_l1E]⟩) (u_l1E _ _ _) (u_l1E _ _ _)
            refine ⟨y, ?_, ?_⟩
            · rw [b_70_4 hW, if_pos hT, h2, h0, if_pos hlt, if_neg hne, if_pos hT, c_sail hW (by omega), u_biS, if_pos hT, hb, c_sail hW (by omega), u_biS, ei, ep, if_pos lt, b_70_52, if_neg n10, h2, q1, u_biS, if_pos z00, zi_one]
              exact y1
            · rw [b_301_8, h3, h47, if_pos hlt, q2, u_biS, if_pos z00, ← h1, hb, if_neg hnn, m_sail (by omega) hl, u_biS, m_sail (by omega) hl, u_biS, if_pos lt, zi_one]
              exact y2
          · obtain ⟨y, y1, y2⟩ := ih (i + 1) (u_l1 (u_l1 li 3 (Int32.ofInt 0)) 2 (zi (i + 1))) (u_l1 lj 2 (zi (i + 1))) ll lm (by omega) (by omega) (by rw [u_l1N (by omega), u_l1N (by omega), u_l1N (by omega)]; exact h1) (Or.inr ⟨p, hp, by rw [u_l1N (by omega), u_l1N (by omega)]; exact hb⟩) (u_l1E _ _ _) (u_l1E _ _ _)
            refine ⟨y, ?_, ?_⟩
            · rw [b_70_4 hW, if_pos hT, h2, h0, if_pos hlt, if_neg hne, if_pos hT, c_sail hW (by omega), u_biS, if_pos hT, hb, c_sail hW (by omega), u_biS, ei, ep, if_neg lt, b_70_52, if_pos z00, h2, zi_one]
              exact y1
            · rw [b_301_8, h3, h47, if_pos hlt, q2, u_biS, if_pos z00, ← h1, hb, if_neg hnn, m_sail (by omega) hl, u_biS, m_sail (by omega) hl, u_biS, if_neg lt, zi_one]
              exact y2
      · -- gone
        have hM : ∀ r, u g_t301 8 (u_l1 lj 2 (zi (i + 1)), lm, [(0, 67)]) [] t1 = r → u g_t301 8 (lj, lm, [(0, 67)]) [] t1 = r := fun r h => by
          rw [b_301_8, h3, h47, if_pos hlt, q2, u_biS, if_neg n10, zi_one, h]
        have nx : ∀ v0 : Int32, ∃ y, u g_t70 4 (u_l1 (u_l1 li 3 v0) 2 (zi (i + 1)), ll, [(0, 2)]) [] sC = some (some (.inl y), sC) ∧ u g_t301 8 (u_l1 lj 2 (zi (i + 1)), lm, [(0, 67)]) [] t1 = some (some (.inl y), t1) := fun v0 => by
          refine ih (i + 1) _ _ ll lm (by omega) (by omega) (by rw [u_l1N (by omega), u_l1N (by omega), u_l1N (by omega)]; exact h1) ?_ (u_l1E _ _ _) (u_l1E _ _ _)
          rw [u_l1N (by omega), u_l1N (by omega)]
          exact hb
        rcases hb with hb | ⟨p, hp, hb⟩
        · obtain ⟨y, y1, y2⟩ := nx (Int32.ofInt 1)
          refine ⟨y, ?_, hM _ y2⟩
          rw [b_70_4 hW, if_pos hT, h2, h0, if_pos hlt, if_pos hb, b_70_52, if_neg n10, h2, q1, u_biS, if_neg n10, zi_one]
          exact y1
        · have hne : ¬ li 1 = u_k (-1) := by rw [hb]; exact zi_n0 (by omega)
          obtain ⟨p1, p2⟩ := hs p hp
          by_cases lt : sLv W sC.1 i < sLv W sC.1 p
          · obtain ⟨y, y1, y2⟩ := nx (Int32.ofInt 1)
            refine ⟨y, ?_, hM _ y2⟩
            rw [b_70_4 hW, if_pos hT, h2, h0, if_pos hlt, if_neg hne, if_pos hT, c_sail hW (by omega), u_biS, if_pos hT, hb, c_sail hW (by omega), u_biS, if_pos lt, b_70_52, if_neg n10, h2, q1, u_biS, if_neg n10, zi_one]
            exact y1
          · obtain ⟨y, y1, y2⟩ := nx (Int32.ofInt 0)
            refine ⟨y, ?_, hM _ y2⟩
            rw [b_70_4 hW, if_pos hT, h2, h0, if_pos hlt, if_neg hne, if_pos hT, c_sail hW (by omega), u_biS, if_pos hT, hb, c_sail hW (by omega), u_biS, if_neg lt, b_70_52, if_pos z00, h2, zi_one]
            exact y1
    · have e : i = a := by omega
      subst e
      exact stop li lj ll lm h1 h2 h3
theorem soonest_alike (hW : W = 5 ∨ W = 17) {a b R w : Nat} {c : List Int} {l : Bool} {sC sM : u_H} (J : jV W a b R w c l sC sM) : ∃ v s2 t2, u_c 70 [.inr (.inr 2)] sC = some (some (.inl v), s2) ∧ u_c 301 [.inr (.inr 67)] sM = some (some (.inl v), t2) := by
  obtain ⟨hT, hA, h47, h48, hR⟩ := J
  obtain ⟨t1, f1, f2, f3, f4⟩ := m_filled sM
  have h6 : sC.1 28 6 = t1.1 86 24 := (show sC.1 28 6 = sM.1 85 24 from hR.2.2.1.2.1).trans (f2 24 (by omega)).symm
  have h8 : sC.1 28 8 = t1.1 86 26 := by
    obtain ⟨t, q1, q2, q3⟩ := hR.2.2.1.2.2.2.1
    exact (show sC.1 28 8 = zi t from q2).trans (q3.symm.trans (f2 26 (by omega)).symm)
  obtain ⟨y, y1, y2⟩ := soon_loop hW hA.1.1 (t1 := t1) hT hA.2.1.1 ((f4 65 47 (by omega) (by omega) (by omega)).trans h47) h6 h8 f3.2.2.1 (fun k hk => by
    rw [f4 80 k (by omega) (by omega) (by omega), f4 81 k (by omega) (by omega) (by omega)]
    exact hA.2.2.1 k hk) 5 0 (u_l1 (u_l1 u_z1 1 (u_k (-1))) 2 (Int32.ofInt 0)) (u_l1 (u_l1 u_z1 1 (u_k (-1))) 2 (Int32.ofInt 0)) u_z2 u_z2 (by have := hA.1.1; omega) (Nat.zero_le _) rfl (Or.inl (by rw [u_l1N (by omega), u_l1E])) (u_l1E _ _ _) (u_l1E _ _ _)
  refine ⟨y, sC, t1, ?_, ?_⟩
  · rw [b_70, y1]
  · rw [b_301, f1, u_bvS, y2]
/-- the fondest, from place i on; best as far as seen -/
theorem fond_loop (hW : W = 5 ∨ W = 17) {b z : Nat} (hb : b ≤ 7) (hz : z ≤ 7) {sC sM : u_H} (hT : sC.2.2.1 = W) (h1 : sC.1 28 1 = zi z) (h8 : sM.1 85 8 = zi z) (hq : ∀ k, k < z → ∃ p, p < b ∧ sC.1 29 k = zi p ∧ sM.1 85 k = zi p) (hl : ∀ p, p < b → sC.1 (W + 5) p = sM.1 84 p) : ∀ (f i : Nat) (li lj : Nat → Int32) (ll lm : Nat → Int64), z - i ≤ f → i ≤ z → li 1 = lj 1 → (li 1 = u_k (-1) ∨ ∃ q, q < b ∧ li 1 = zi q) → li 2 = zi i → lj 2 = zi i → ∃ y, u g_t24 4 (li, ll, [(0, 2)]) [] sC = some (some (.inl y), sC) ∧ u g_t207 4 (lj, lm, [(0, 67)]) [] sM = some (some (.inl y), sM) := by
  intro f
  have stop : ∀ (li lj : Nat → Int32) (ll lm : Nat → Int64), li 1 = lj 1 → li 2 = zi z → lj 2 = zi z → ∃ y, u g_t24 4 (li, ll, [(0, 2)]) [] sC = some (some (.inl y), sC) ∧ u g_t207 4 (lj, lm, [(0, 67)]) [] sM = some (some (.inl y), sM) := by
    intro li lj ll lm e h2 h3
    refine ⟨li 1, ?_, ?_⟩
    · rw [b_24_4 hW, h2, h1, if_neg (by rw [zi_lt (by omega) (by omega)]; omega)]
    · rw [b_207_4, h3, h8, if_neg (by rw [zi_lt (by omega) (by omega)]; omega), e]
  induction f with
  | zero =>
    intro i li lj ll lm hf hi e hbe h2 h3
    have ei : i = z := by omega
    subst ei
    exact stop li lj ll lm e h2 h3
  | succ f ih =>
    intro i li lj ll lm hf hi e hbe h2 h3
    rcases Nat.lt_or_ge i z with q | q
    · have hlt : zi i < zi z := (zi_lt (by omega) (by omega)).mpr q
      obtain ⟨p, hp, p1, p2⟩ := hq i q
      have i7 : u_in (zi i) 7 = true := (u_inz (by omega)).mpr (by omega)
      have i28 : u_in (zi i) 28 = true := (u_inz (by omega)).mpr (by omega)
      have ki : (zi i).toNatClampNeg = i := zi_clamp (by omega)
      have p7 : u_in (zi p) 7 = true := (u_inz (by omega)).mpr (by omega)
      have p8 : u_in (zi p) 8 = true := (u_inz (by omega)).mpr (by omega)
      have kp : (zi p).toNatClampNeg = p := zi_clamp (by omega)
      have take : ∃ y, u g_t24 4 (u_l1 (u_l1 (u_l1 li 3 (zi p)) 1 (zi p)) 2 (zi (i + 1)), ll, [(0, 2)]) [] sC = some (some (.inl y), sC) ∧ u g_t207 4 (u_l1 (u_l1 lj 1 (zi p)) 2 (zi (i + 1)), lm, [(0, 67)]) [] sM = some (some (.inl y), sM) := ih (i + 1) _ _ ll lm (by omega) (by omega) (by rw [u_l1N (by omega), u_l1E, u_l1N (by omega), u_l1E]) (Or.inr ⟨p, hp, by rw [u_l1N (by omega), u_l1E]⟩) (u_l1E _ _ _) (u_l1E _ _ _)
      rcases hbe with hbe | ⟨r, hr, hbe⟩
      · obtain ⟨y, y1, y2⟩ := take
        refine ⟨y, ?_, ?_⟩
        · rw [b_24_4 hW, h2, h1, if_pos hlt, if_pos i7, if_pos hbe, ki, p1, zi_one]
          exact y1
        · rw [b_207_4, h3, h8, if_pos hlt, ← e, hbe, if_pos zk_neg, if_pos i28, ki, p2, zi_one]
          exact y2
      · have hne : ¬ li 1 = u_k (-1) := by rw [hbe]; exact zi_n0 (by omega)
        have r7 : u_in (zi r) 7 = true := (u_inz (by omega)).mpr (by omega)
        have r8 : u_in (zi r) 8 = true := (u_inz (by omega)).mpr (by omega)
        have kr : (zi r).toNatClampNeg = r := zi_clamp (by omega)
        by_cases lt : sM.1 84 r < sM.1 84 p
        · obtain ⟨y, y1, y2⟩ := take
          refine ⟨y, ?_, ?_⟩
          · rw [b_24_4 hW, h2, h1, if_pos hlt, if_pos i7, if_neg hne, if_pos hT, ki, p1, if_pos p7, if_pos hT, hbe, if_pos r7, kr, kp, hl r hr, hl p hp, if_pos lt, zi_one]
            exact y1
          · rw [b_207_4, h3, h8, if_pos hlt, ← e, hbe, if_neg (zi_nonneg (by omega)), if_pos i28, ki, p2, if_pos p8, if_pos r8, kr, kp, if_pos lt, if_pos i28, zi_one]
            exact y2
        · obtain ⟨y, y1, y2⟩ := ih (i + 1) (u_l1 (u_l1 li 3 (zi p)) 2 (zi (i + 1))) (u_l1 lj 2 (zi (i + 1))) ll lm (by omega) (by omega) (by rw [u_l1N (by omega), u_l1N (by omega), u_l1N (by omega)]; exact e) (Or.inr ⟨r, hr, by rw [u_l1N (by omega), u_l1N (by omega)]; exact hbe⟩) (u_l1E _ _ _) (u_l1E _ _ _)
          refine ⟨y, ?_, ?_⟩
          · rw [b_24_4 hW, h2, h1, if_pos hlt, if_pos i7, if_neg hne, if_pos hT, ki, p1, if_pos p7, if_pos hT, hbe, if_pos r7, kr, kp, hl r hr, hl p hp, if_neg lt, zi_one]
            exact y1
          · rw [b_207_4, h3, h8, if_pos hlt, ← e, hbe, if_neg (zi_nonneg (by omega)), if_pos i28, ki, p2, if_pos p8, if_pos r8, kr, kp, if_neg lt, zi_one]
            exact y2
    · have ei : i = z := by omega
      subst ei
      exact stop li lj ll lm e h2 h3
theorem fondest_alike (hW : W = 5 ∨ W = 17) {a b R w : Nat} {c : List Int} {l : Bool} {sC sM : u_H} (J : jV W a b R w c l sC sM) : ∃ v s2 t2, u_c 24 [.inr (.inr 2)] sC = some (some (.inl v), s2) ∧ u_c 207 [.inr (.inr 67)] sM = some (some (.inl v), t2) := by
  obtain ⟨hT, hA, h47, h48, hR⟩ := J
  have hb := hA.1.2.1
  obtain ⟨z, z1, zc, z2, z3, z4, -⟩ := hR.1
  obtain ⟨y, y1, y2⟩ := fond_loop hW (z := z) hb (by omega) hT (show sC.1 28 1 = zi z from z2) z3 (fun k hk => by
    obtain ⟨p, q1, q2, q3, -⟩ := z4 k hk
    exact ⟨p, q1, (nRl (by omega)).symm.trans q2, q3⟩) (fun p hp => (hA.2.2.2.1 p hp).2.2) 7 0 (u_l1 (u_l1 u_z1 1 (u_k (-1))) 2 (Int32.ofInt 0)) (u_l1 (u_l1 u_z1 1 (u_k (-1))) 2 (Int32.ofInt 0)) u_z2 u_z2 (by omega) (Nat.zero_le _) rfl (Or.inl (by rw [u_l1N (by omega), u_l1E])) (u_l1E _ _ _) (u_l1E _ _ _)
  exact ⟨y, sC, sM, by rw [b_24, y1], by rw [b_207, y2]⟩
end SHOW2
