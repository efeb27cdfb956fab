/-! behind the class's formula: its sign; and both -/
section CS
variable {ch : Nat → Int32} {n W : Nat}
theorem c_semi (hW : W = 5 ∨ W = 17) (hT : tx_T ch n) {τ : f_T} {s s2 : u_H} {r : f_R} (hr : cR ch n W 7 τ [] 0 s s2 r) (ht : cT ch n W s2) : ∃ s3, u_c 106 [.inr (.inr 29), .inl (Int32.ofInt 59)] s2 = some (none, s3) ∧ u_fr (fCf W) s2 s3 ∧ ((∃ f q, f_fin r = .inl (f, q) ∧ cX W f q s3 ∧ q ≤ 1600) ∨ (∃ τ2 c2 u2, f_fin r = .inr (τ2, c2, u2) ∧ cN ch n (tx_A ch n τ2) s3 ∧ cD W c2 u2 s3)) := by
  obtain ⟨hf, hm⟩ := hr
  cases r with
  | inl f =>
    obtain ⟨hx, hq⟩ := hm
    have hne : ¬ s2.1 27 8 = 0 := by
      rw [hx.2.2.1, show (0 : Int32) = zi 0 from rfl, zk_iff (by have := hx.2.1; omega) (by omega)]
      have := hx.1
      omega
    refine ⟨s2, ?_, u_fr.rf, Or.inl ⟨f.1, f.2, rfl, hx, hq⟩⟩
    rw [b_106, if_neg hne]
  | inr p =>
    obtain ⟨τ2, c2, u2⟩ := p
    obtain ⟨hN, hk, hD, h1, h2, h3, h4⟩ := hm
    have hc : c2.length ≤ 270 := by
      have h3 : c2.length + 1 ≤ 0 + (u2 - 0) * (2 + 7) := h3
      omega
    have h8 : s2.1 27 8 = 0 := (hN.2.2.2.1 hk).2.1
    have hn := hT.1
    have hv1 := hN.1.1
    have hv5 := hN.1.2.2.2.2.1
    have h59 : s2.1 27 4 = Int32.ofInt 59 ↔ τ2.2.1 = 59 := by
      rw [hN.2.2.1]
      exact zk_iff (b := 59) (by omega) (by omega)
    rw [b_106, if_pos h8]
    by_cases e : τ2.2.1 = 59
    · obtain ⟨s3, e1, e2, e3, e4, e5, e6, e7⟩ := c_next hW hT ht hN hk (by omega) hD hc
      rw [if_pos (h59.mpr e), e1, u_bvS]
      refine ⟨s3, rfl, fr_CC e2, Or.inr ⟨τ2, c2, u2, ?_, e4, e5⟩⟩
      show (if f_k τ2 = 59 then (.inr (τ2, c2, u2) : f_R) else .inl (2, f_st τ2)) = _
      rw [if_pos (show f_k τ2 = 59 from e)]
    · obtain ⟨s3, e1, e2, e3⟩ := c_ref hW ht hN hk hD hc (x := 2) (by omega) (by omega)
      rw [if_neg (fun q => e (h59.mp q)), show Int32.ofInt 2 = zi 2 from rfl, e1, u_bvS]
      refine ⟨s3, rfl, e2, Or.inl ⟨2, τ2.1, ?_, e3, by omega⟩⟩
      show (if f_k τ2 = 59 then (.inr (τ2, c2, u2) : f_R) else .inl (2, f_st τ2)) = _
      rw [if_neg (show ¬ f_k τ2 = 59 from e)]
      rfl
/-- both formulas, and the sign behind them -/
theorem p_formula (hW : W = 5 ∨ W = 17) (hT : tx_T ch n) {τ : f_T} {sC sM : u_H} (hC : cT ch n W sC) (hCN : cN ch n (tx_A ch n τ) sC) (hk : (tx_A ch n τ).2.1 ≠ 276) (hD : cD W [] 0 sC) (hN : mN ch n τ sM) (hM : tM ch n sM) (h20 : sM.1 65 20 = zi 0) : ∃ s2 s3, u_c 114 [.inr (.inr 29), .inl (Int32.ofInt 0)] sC = some (none, s2) ∧ u_c 106 [.inr (.inr 29), .inl (Int32.ofInt 59)] s2 = some (none, s3) ∧ u_fr (fCf W) sC s3 ∧ ∀ (r q : Option (q_V Int32) × u_H) (li : Nat → Int32) (ll : Nat → Int64), u_c 208 [.inr (.inr 67)] sM = some r → u g_t282 236 (li, ll, [(0, 67)]) [] r.2 = some q → r.1 = none ∧ q.1 = none ∧ jJ ch n W s3 q.2 ∧ (q.2.1 65 2 = 0 → ∃ c2 u2, cD W c2 u2 s3 ∧ mQ c2 q.2 ∧ q.2.1 65 20 = zi u2) := by
  obtain ⟨r0, s2, x1, x2, x3⟩ := c_formula hW hT (tx_A ch n τ) [] 0 sC hC hCN hk hD (Nat.zero_le _) (by omega)
  have hC2 := cT_f hW hC x3.1
  obtain ⟨s3, y1, y2, y3⟩ := c_semi hW hT x3 hC2
  have hC3 := cT_f hW hC2 y2
  refine ⟨s2, s3, x2, y1, x3.1.tr y2, fun r q li ll hr hq => ?_⟩
  obtain ⟨k, hR⟩ := f_top x1 hk
  obtain ⟨sv, v1, v2, v3⟩ := m_formula hT (b0 := 0) hN hM h20 (by omega) hR hr
  have nH : ∀ o k, o ≠ 65 → o ≠ 68 → o ≠ 69 → o ≠ 72 → ¬ tx_H o k := fun o k a b c d e => by
    unfold tx_H tx_G at e
    omega
  have n5 : ¬ tx_H 65 5 := fun e => by
    unfold tx_H tx_G at e
    omega
  have n5G : ¬ tx_G 65 5 := fun e => by
    unfold tx_G at e
    omega
  have n66 : ∀ k, ¬ tx_G 66 k := fun k e => by
    unfold tx_G at e
    omega
  have hMr : tM ch n r.2 := tM_fr hM v2 n5 (fun k => nH _ _ (by omega) (by omega) (by omega) (by omega))
  have key := m_236 hT (b0 := 0) (R := f_fin r0) (s := r.2) (r := r) (li := li) (ll := ll) ⟨v1.1, u_fr.rf, v1.2.2⟩ hq
  obtain ⟨k1, k2, k3⟩ := key
  have hMq : tM ch n q.2 := tM_fr hMr k2 n5G n66
  have hj : jT ch n W s3 q.2 := ⟨hC3.1, hMq, hC3.2⟩
  refine ⟨v1.1, k1, ?_, ?_⟩
  · rcases k3 with ⟨τ2, z1, z2⟩ | ⟨τ2, out2, w2, z1, z2, z3, z4, z5, z6, z7, z8⟩
    · rcases y3 with ⟨f, p, y4, y5, y6⟩ | ⟨τ3, c2, u2, y4, y5, y6⟩
      · rw [y4] at z1
        have z1 : (if f_k τ2 = 276 then 1 else 2, f_st τ2) = (f, p) := Sum.inl.inj (Option.some.inj z1)
        have a1 : (if f_k τ2 = 276 then 1 else 2) = f := congrArg Prod.fst z1
        have a2 : f_st τ2 = p := congrArg Prod.snd z1
        refine ⟨hj, Or.inr ⟨f, p, y5.1, y5.2.1, y6, y5.2.2.1, y5.2.2.2.1, y5.2.2.2.2.1, ?_, ?_⟩⟩
        · rw [z2.1, ← a1]
          rfl
        · rw [z2.2, ← a2]
          rfl
      · rw [y4] at z1
        exact absurd (Option.some.inj z1) (fun e => by cases e)
    · rcases y3 with ⟨f, p, y4, y5, y6⟩ | ⟨τ3, c2, u2, y4, y5, y6⟩
      · rw [y4] at z1
        cases z1
      · rw [y4] at z1
        have z1 : (τ3, c2, u2) = (τ2, out2, w2) := Sum.inr.inj z1
        have a1 : τ3 = τ2 := congrArg Prod.fst z1
        subst a1
        exact ⟨hj, Or.inl ⟨tx_A ch n τ3, y5.1, y5.2, z3.2⟩⟩
  · intro h0
    rcases k3 with ⟨τ2, z1, z2⟩ | ⟨τ2, out2, w2, z1, z2, z3, z4, z5, z6, z7, z8⟩
    · exact absurd h0 (mE_pos z2).2
    · rcases y3 with ⟨f, p, y4, y5, y6⟩ | ⟨τ3, c2, u2, y4, y5, y6⟩
      · rw [y4] at z1
        cases z1
      · rw [y4] at z1
        have z1 : (τ3, c2, u2) = (τ2, out2, w2) := Sum.inr.inj z1
        cases z1
        refine ⟨c2, u2, y6, z5, ?_⟩
        rw [z6, Nat.zero_add]
end CS
