/-! behind the class's formula: its sign; and both -/
section CS
variable {ch : Nat → Int32} {n W : Nat}
theorem c_semi (hW : W = 5 ∨ W = 17) (hT : tx_T ch n) {τ : f_T} {s s2 : u_H} {r : f_R} (hr : cR ch n W 7 τ [] 0 s s2 r) (ht : cT ch n W s2) : ∃ s3, u_c 106 [.inr (.inr 29), .inl (Int32.ofInt 59)] s2 = some (none, s3) ∧ u_fr (fCf W) s2 s3 ∧ ((∃ f q, f_fin r = .inl (f, q) ∧ cX W f q s3 ∧ q ≤ 1600) ∨ (∃ τ2 c2 u2, f_fin r = .inr (τ2, c2, u2) ∧ cN ch n (tx_A ch n τ2) s3 ∧ cD W c2 u2 s3 ∧ c2.length ≤ 270)) := by
  obtain ⟨hf, hm⟩ := hr
  cases r with
  | inl f =>
    obtain ⟨hx, hq⟩ := hm
    have hne : ¬ s2.1 27 8 = 0 := by
      rw [hx.2.2.1, show (0 : Int32) = zi 0 from rfl, zk_iff (by have := hx.2.1; omega) (by omega)]
      have := hx.1
      omega
    refine ⟨s2, ?_, u_fr.rf, Or.inl ⟨f.1, f.2, rfl, hx, hq⟩⟩
    rw [b_106, if_neg hne]
  | inr p =>
    obtain ⟨τ2, c2, u2⟩ := p
    obtain ⟨hN, hk, hD, h1, h2, h3, h4⟩ := hm
    have hc : c2.length ≤ 270 := by
      have h3 : c2.length + 1 ≤ 0 + (u2 - 0) * (2 + 7) := h3
      omega
    have h8 : s2.1 27 8 = 0 := (hN.2.2.2.1 hk).2.1
    have hn := hT.1
    have hv1 := hN.1.1
    have hv5 := hN.1.2.2.2.2.1
    have h59 : s2.1 27 4 = Int32.ofInt 59 ↔ τ2.2.1 = 59 := by
      rw [hN.2.2.1]
      exact zk_iff (b := 59) (by omega) (by omega)
    rw [b_106, if_pos h8]
    by_cases e : τ2.2.1 = 59
    · obtain ⟨s3, e1, e2, e3, e4, e5, e6, e7⟩ := c_next hW hT ht hN hk (by omega) hD hc
      rw [if_pos (h59.mpr e), e1, u_bvS]
      refine ⟨s3, rfl, fr_CC e2, Or.inr ⟨τ2, c2, u2, ?_, e4, e5, hc⟩⟩
      show (if f_k τ2 = 59 then (.inr (τ2, c2, u2) : f_R) else .inl (2, f_st τ2)) = _
      rw [if_pos (show f_k τ2 = 59 from e)]
    · obtain ⟨s3, e1, e2, e3⟩ := c_ref hW ht hN hk hD hc (x := 2) (by omega) (by omega)
      rw [if_neg (fun q => e (h59.mp q)), show Int32.ofInt 2 = zi 2 from rfl, e1, u_bvS]
      refine ⟨s3, rfl, e2, Or.inl ⟨2, τ2.1, ?_, e3, by omega⟩⟩
      show (if f_k τ2 = 59 then (.inr (τ2, c2, u2) : f_R) else .inl (2, f_st τ2)) = _
      rw [if_neg (show ¬ f_k τ2 = 59 from e)]
      rfl
end CS
