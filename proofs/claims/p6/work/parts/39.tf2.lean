/-! both formulas, and the sign behind them -/
section CS
variable {ch : Nat → Int32} {n W : Nat}
theorem f_op276 {A : f_T → f_T} {τ : f_T} (h : τ.2.1 = 276) : f_op A 1 true τ [] [] 0 0 = some (.inl (1, τ.1)) := by
  have h : f_k τ = 276 := h
  unfold f_op
  rw [if_neg (by rw [h]; omega), if_neg (by rw [h]; omega), if_neg (by rw [h]; unfold f_kn; omega)]
  unfold f_wr
  rw [if_pos h]
  rfl
/-- the class's formula and its sign -/
theorem c_form (hW : W = 5 ∨ W = 17) (hT : tx_T ch n) {τ : f_T} {s : u_H} (hC : cT ch n W s) (hN : cN ch n (tx_A ch n τ) s) (hx : (tx_A ch n τ).2.1 = 276 → cX W 1 (tx_A ch n τ).1 s) (hD : cD W [] 0 s) : ∃ (R : f_R) (k : Nat) (s2 s3 : u_H), f_op (tx_A ch n) k true (tx_A ch n τ) [] [] 0 0 = some R ∧ u_c 114 [.inr (.inr 29), .inl (Int32.ofInt 0)] s = some (none, s2) ∧ u_c 106 [.inr (.inr 29), .inl (Int32.ofInt 59)] s2 = some (none, s3) ∧ u_fr (fCf W) s s3 ∧ ((∃ f q, R = .inl (f, q) ∧ cX W f q s3 ∧ q ≤ 1600) ∨ (∃ τ2 c2 u2, R = .inr (τ2, c2, u2) ∧ cN ch n (tx_A ch n τ2) s3 ∧ cD W c2 u2 s3 ∧ (c2.length ≤ 270 ∧ fV c2 u2))) := by
  by_cases hk : (tx_A ch n τ).2.1 = 276
  · have h1 := hx hk
    obtain ⟨s2, e1, e2, e3⟩ := clF114 hW 1 (tx_A ch n τ).1 s (Int32.ofInt 0) h1
    have hv1 := hN.1.1
    have hn := hT.1
    refine ⟨.inl (1, (tx_A ch n τ).1), 1, s2, s2, f_op276 hk, e1, ?_, e3, Or.inl ⟨1, (tx_A ch n τ).1, rfl, e2, by omega⟩⟩
    rw [b_106, if_neg (by rw [e2.2.2.1]; decide)]
  · obtain ⟨r0, s2, x1, x2, x3⟩ := c_formula hW hT (tx_A ch n τ) [] 0 s hC hN hk hD (Nat.zero_le _) (Nat.zero_le _)
    rw [show zi (7 - 7) = Int32.ofInt 0 from rfl] at x2
    obtain ⟨k, hR⟩ := f_top x1 hk
    obtain ⟨s3, y1, y2, y3⟩ := c_semi hW hT x3 (cT_f hW hC x3.1)
    refine ⟨f_fin r0, k, s2, s3, hR, x2, y1, x3.1.tr y2, ?_⟩
    rcases y3 with y3 | ⟨τ2, c2, u2, g1, g2, g3, g4⟩
    · exact Or.inl y3
    · have hv : fV c2 u2 := by
        cases r0 with
        | inl f => cases g1
        | inr q =>
          obtain ⟨τ3, c3, u3⟩ := q
          have g1 : (if f_k τ3 = 59 then (.inr (τ3, c3, u3) : f_R) else .inl (2, f_st τ3)) = .inr (τ2, c2, u2) := g1
          by_cases e : f_k τ3 = 59
          · rw [if_pos e] at g1
            injection g1 with g1
            cases g1
            exact fV_form (P := fun τ => tx_V ch n τ) (fun τ q => tx_Vat hT (tx_q_le q.2.1)) (fun τ q => q.2.2.2.1) hN.1 x1
          · rw [if_neg e] at g1
            cases g1
      exact Or.inr ⟨τ2, c2, u2, g1, g2, g3, g4, hv⟩
/-- both formulas, and the sign behind them -/
theorem p_formula (hW : W = 5 ∨ W = 17) (hT : tx_T ch n) {τ : f_T} {sC sM : u_H} (hC : cT ch n W sC) (hCN : cN ch n (tx_A ch n τ) sC) (hx : (tx_A ch n τ).2.1 = 276 → cX W 1 (tx_A ch n τ).1 sC) (hD : cD W [] 0 sC) (hN : mN ch n τ sM) (hM : tM ch n sM) (h20 : sM.1 65 20 = zi 0) : ∃ s2 s3, u_c 114 [.inr (.inr 29), .inl (Int32.ofInt 0)] sC = some (none, s2) ∧ u_c 106 [.inr (.inr 29), .inl (Int32.ofInt 59)] s2 = some (none, s3) ∧ u_fr (fCf W) sC s3 ∧ ∀ (r q : Option (q_V Int32) × u_H) (li : Nat → Int32) (ll : Nat → Int64), u_c 208 [.inr (.inr 67)] sM = some r → u g_t282 236 (li, ll, [(0, 67)]) [] r.2 = some q → r.1 = none ∧ q.1 = none ∧ u_fr tx_H sM q.2 ∧ q.2.1 65 24 = Int32.ofInt 1 ∧ jJ ch n W s3 q.2 ∧ (q.2.1 65 2 = 0 → ∃ c2 u2, (c2.length ≤ 270 ∧ fV c2 u2) ∧ cD W c2 u2 s3 ∧ mQ c2 q.2 ∧ q.2.1 65 20 = zi u2) := by
  obtain ⟨R, k, s2, s3, hR, x2, y1, y2, y3⟩ := c_form hW hT hC hCN hx hD
  have hC3 := cT_f hW hC y2
  refine ⟨s2, s3, x2, y1, y2, fun r q li ll hr hq => ?_⟩
  obtain ⟨sv, v1, v2, v3⟩ := m_formula hT (b0 := 0) hN hM h20 (by omega) hR hr
  have nH : ∀ o k, o ≠ 65 → o ≠ 68 → o ≠ 69 → o ≠ 72 → ¬ tx_H o k := fun o k a b c d e => by
    unfold tx_H tx_G at e
    omega
  have n5 : ¬ tx_H 65 5 := fun e => by
    unfold tx_H tx_G at e
    omega
  have n5G : ¬ tx_G 65 5 := fun e => by
    unfold tx_G at e
    omega
  have n66 : ∀ k, ¬ tx_G 66 k := fun k e => by
    unfold tx_G at e
    omega
  have hMr : tM ch n r.2 := tM_fr hM v2 n5 (fun k => nH _ _ (by omega) (by omega) (by omega) (by omega))
  have key := m_236 hT (b0 := 0) (R := R) (s := r.2) (r := r) (li := li) (ll := ll) ⟨v1.1, u_fr.rf, v1.2.2⟩ hq
  obtain ⟨k1, k2, k3⟩ := key
  have hMq : tM ch n q.2 := tM_fr hMr k2 n5G n66
  have hj : jT ch n W s3 q.2 := ⟨hC3.1, hMq, hC3.2⟩
  have n24 : ¬ tx_G 65 24 := fun e => by
    unfold tx_G at e
    omega
  refine ⟨v1.1, k1, v2.tr (k2.mono (fun o k e => Or.inl e)), (k2.i n24).trans v3, ?_, ?_⟩
  · rcases k3 with ⟨τ2, z1, z2⟩ | ⟨τ2, out2, w2, z1, z2, z3, z4, z5, z6, z7, z8⟩
    · rcases y3 with ⟨f, p, y4, y5, y6⟩ | ⟨τ3, c2, u2, y4, y5, y6, y7⟩
      · rw [y4] at z1
        have z1 : (if f_k τ2 = 276 then 1 else 2, f_st τ2) = (f, p) := Sum.inl.inj (Option.some.inj z1)
        have a1 : (if f_k τ2 = 276 then 1 else 2) = f := congrArg Prod.fst z1
        have a2 : f_st τ2 = p := congrArg Prod.snd z1
        refine ⟨hj, Or.inr ⟨f, p, y5.1, y5.2.1, y6, y5.2.2.1, y5.2.2.2.1, y5.2.2.2.2.1, ?_, ?_⟩⟩
        · rw [z2.1, ← a1]
          rfl
        · rw [z2.2, ← a2]
          rfl
      · rw [y4] at z1
        exact absurd (Option.some.inj z1) (fun e => by cases e)
    · rcases y3 with ⟨f, p, y4, y5, y6⟩ | ⟨τ3, c2, u2, y4, y5, y6, y7⟩
      · rw [y4] at z1
        cases z1
      · rw [y4] at z1
        have z1 : (τ3, c2, u2) = (τ2, out2, w2) := Sum.inr.inj z1
        have a1 : τ3 = τ2 := congrArg Prod.fst z1
        subst a1
        exact ⟨hj, Or.inl ⟨tx_A ch n τ3, y5.1, y5.2, z3.2⟩⟩
  · intro h0
    rcases k3 with ⟨τ2, z1, z2⟩ | ⟨τ2, out2, w2, z1, z2, z3, z4, z5, z6, z7, z8⟩
    · exact absurd h0 (mE_pos z2).2
    · rcases y3 with ⟨f, p, y4, y5, y6⟩ | ⟨τ3, c2, u2, y4, y5, y6, y7⟩
      · rw [y4] at z1
        cases z1
      · rw [y4] at z1
        have z1 : (τ3, c2, u2) = (τ2, out2, w2) := Sum.inr.inj z1
        cases z1
        refine ⟨out2, w2, y7, y6, z5, ?_⟩
        rw [z6, Nat.zero_add]
end CS
