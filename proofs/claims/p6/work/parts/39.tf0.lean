/-! behind the model's formula: its sign -/
section MS
variable {ch : Nat → Int32} {n : Nat}
theorem m_236 (hT : tx_T ch n) {b0 : Nat} {R : f_R} {s : u_H} {r q : Option (q_V Int32) × u_H} {li : Nat → Int32} {ll : Nat → Int64} (h : mV ch n b0 R s r) (hr : u g_t282 236 (li, ll, [(0, 67)]) [] r.2 = some q) : q.1 = none ∧ u_fr tx_G s q.2 ∧ ((∃ τ2, f_wr τ2 = some R ∧ mE τ2 q.2) ∨ (∃ τ2 out2 w2, R = .inr (τ2, out2, w2) ∧ f_k τ2 = 59 ∧ mN ch n (tx_A ch n τ2) q.2 ∧ tM ch n q.2 ∧ mQ out2 q.2 ∧ q.2.1 65 20 = zi (b0 + w2) ∧ q.2.1 65 22 = zi w2 ∧ w2 ≤ 30)) := by
  obtain ⟨h1, h2, h3⟩ := h
  rcases h3 with ⟨τ2, x1, x2⟩ | ⟨τ2, out2, w2, x1, x2, x3, x4, x5, x6, x7, x8⟩
  · have hp := (mE_pos x2).2
    rw [b_282_236, if_neg hp, if_neg hp] at hr
    cases hr
    exact ⟨rfl, h2, Or.inl ⟨τ2, x1, x2⟩⟩
  · have hfault : r.2.1 65 2 = 0 := x2.2.2.2.2.2.2.1
    have hs59 : r.2.1 65 6 = Int32.ofInt 59 ↔ τ2.2.1 = 59 := by
      rw [x2.2.2.1]
      exact tx_soS (c := 59) x2.1 (by omega) (by omega)
    rw [b_282_236, if_pos hfault] at hr
    by_cases e : τ2.2.1 = 59
    · rw [if_pos (show f_k τ2 = 59 from e)] at x1
      have x1 : R = .inr (τ2, out2, w2) := (Option.some.inj x1).symm
      obtain ⟨s2, e1, e2, e3, e4⟩ := m_next hT x2 x3
      rw [if_pos (hs59.mpr e), if_pos hfault, e1, u_bvS] at hr
      cases hr
      have nm : ∀ o k, ¬ (o = 65 ∧ (k = 2 ∨ k = 3 ∨ k = 4 ∨ (6 ≤ k ∧ k ≤ 9))) → ¬ tx_M o k := fun o k q q2 => q q2
      exact ⟨rfl, h2.tr (e4.mono (fun o k q => tx_MG q)), Or.inr ⟨τ2, out2, w2, x1, e, e2, e3, mQ_fr x4 (e4.i (nm _ _ (by omega))) (fun j => e4.i (nm _ _ (by omega))) (fun j => e4.i (nm _ _ (by omega))), (e4.i (nm _ _ (by omega))).trans x5, (e4.i (nm _ _ (by omega))).trans x6, x7⟩⟩
    · rw [if_neg (show ¬ f_k τ2 = 59 from e)] at x1
      obtain ⟨s2, e1, e2, e3, e4⟩ := m_wrong x2
      have he : mE τ2 s2 := ⟨e2, e3⟩
      rw [if_neg (fun q => e (hs59.mp q)), e1, u_bvS, if_neg (mE_pos he).2] at hr
      cases hr
      exact ⟨rfl, h2.tr (e4.mono (fun o k q => tx_XG q)), Or.inl ⟨τ2, x1, he⟩⟩
end MS
