/-! the model's formula (208) -/
def tx_H (o k : Nat) : Prop := tx_G o k ∨ (o = 65 ∧ k = 24)
section MK
variable {ch : Nat → Int32} {n : Nat}
theorem mV_w {b0 : Nat} {R : f_R} {s s2 : u_H} {r : Option (q_V Int32) × u_H} (h : u_fr tx_H s s2) (h2 : mV ch n b0 R s2 r) : u_fr tx_H s r.2 := h.tr (h2.2.1.mono (fun _ _ q => Or.inl q))
theorem m_formula (hT : tx_T ch n) {b0 k : Nat} {τ : f_T} {s : u_H} {r : Option (q_V Int32) × u_H} {R : f_R} (h : mN ch n τ s) (hM : tM ch n s) (h20 : s.1 65 20 = zi b0) (hb : b0 ≤ 30) (hR : f_op (tx_A ch n) k true (tx_A ch n τ) [] [] 0 0 = some R) (hr : u_c 208 [.inr (.inr 67)] s = some r) : ∃ s2, mV ch n b0 R s2 r ∧ u_fr tx_H s r.2 ∧ r.2.1 65 24 = Int32.ofInt 1 := by
  rw [b_208] at hr
  obtain ⟨s1, e1, e2, e3, e4⟩ := m_next hT h hM
  rw [e1, u_bvS] at hr
  generalize hs0 : ((y_u (y_u (y_u (y_u (y_u s1.1 65 24 (Int32.ofInt 1)) 65 17 (Int32.ofInt 0)) 65 19 (Int32.ofInt 0)) 65 23 (Int32.ofInt 0)) 65 22 (Int32.ofInt 0)), s1.2) = s0 at hr
  have hv : ∀ o k, ¬ (o = 65 ∧ (k = 24 ∨ k = 17 ∨ k = 19 ∨ k = 23 ∨ k = 22)) → s0.1 o k = s1.1 o k := fun o k q => by
    rw [← hs0]
    show y_u (y_u (y_u (y_u (y_u s1.1 65 24 (Int32.ofInt 1)) 65 17 (Int32.ofInt 0)) 65 19 (Int32.ofInt 0)) 65 23 (Int32.ofInt 0)) 65 22 (Int32.ofInt 0) o k = _
    rw [y_uN (by omega), y_uN (by omega), y_uN (by omega), y_uN (by omega), y_uN (by omega)]
  have c24 : s0.1 65 24 = Int32.ofInt 1 := by
    rw [← hs0]
    show y_u (y_u (y_u (y_u (y_u s1.1 65 24 (Int32.ofInt 1)) 65 17 (Int32.ofInt 0)) 65 19 (Int32.ofInt 0)) 65 23 (Int32.ofInt 0)) 65 22 (Int32.ofInt 0) 65 24 = _
    rw [y_uN (by omega), y_uN (by omega), y_uN (by omega), y_uN (by omega), y_uE]
  have c17 : s0.1 65 17 = Int32.ofInt 0 := by
    rw [← hs0]
    show y_u (y_u (y_u (y_u (y_u s1.1 65 24 (Int32.ofInt 1)) 65 17 (Int32.ofInt 0)) 65 19 (Int32.ofInt 0)) 65 23 (Int32.ofInt 0)) 65 22 (Int32.ofInt 0) 65 17 = _
    rw [y_uN (by omega), y_uN (by omega), y_uN (by omega), y_uE]
  have c19 : s0.1 65 19 = Int32.ofInt 0 := by
    rw [← hs0]
    show y_u (y_u (y_u (y_u (y_u s1.1 65 24 (Int32.ofInt 1)) 65 17 (Int32.ofInt 0)) 65 19 (Int32.ofInt 0)) 65 23 (Int32.ofInt 0)) 65 22 (Int32.ofInt 0) 65 19 = _
    rw [y_uN (by omega), y_uN (by omega), y_uE]
  have c23 : s0.1 65 23 = Int32.ofInt 0 := by
    rw [← hs0]
    show y_u (y_u (y_u (y_u (y_u s1.1 65 24 (Int32.ofInt 1)) 65 17 (Int32.ofInt 0)) 65 19 (Int32.ofInt 0)) 65 23 (Int32.ofInt 0)) 65 22 (Int32.ofInt 0) 65 23 = _
    rw [y_uN (by omega), y_uE]
  have c22 : s0.1 65 22 = Int32.ofInt 0 := by
    rw [← hs0]
    exact y_uE (y_u (y_u (y_u (y_u s1.1 65 24 (Int32.ofInt 1)) 65 17 (Int32.ofInt 0)) 65 19 (Int32.ofInt 0)) 65 23 (Int32.ofInt 0)) 65 22 _
  have hl2 : s0.2 = s1.2 := by
    rw [← hs0]
  obtain ⟨hV, m1, m2, m3, m4, m5, m6, m7⟩ := e2
  have hN0 : mN ch n (tx_A ch n τ) s0 := ⟨hV, (hv _ _ (by omega)).trans m1, (hv _ _ (by omega)).trans m2, (hv _ _ (by omega)).trans m3, fun q => (hv _ _ (by omega)).trans (m4 q), fun a b => by rw [hl2]; exact m5 a b, (hv _ _ (by omega)).trans m6, (hv _ _ (by omega)).trans m7⟩
  have hM0 : tM ch n s0 := ⟨(hv _ _ (by omega)).trans e3.1, fun j hj => (hv _ _ (by omega)).trans (e3.2 j hj)⟩
  have hS0 : mS ch n b0 (tx_A ch n τ) [] [] 0 0 s0 := by
    refine ⟨hN0, hM0, ⟨c19, (fun x hx => by cases hx), (fun j x hj => by cases j <;> cases hj)⟩, ⟨c17, (fun j x hj => by cases j <;> cases hj)⟩, ?_, c22, c23, Nat.zero_le _, hb, rfl, Nat.zero_le _⟩
    rw [hv _ _ (by omega), e4.i (fun q => by have := q.2; omega)]
    exact h20
  have fr0 : u_fr tx_H s s0 := by
    refine (e4.mono (fun o k q => Or.inl (tx_MG q))).tr ?_
    rw [← hs0]
    refine u_fr.wi (u_fr.wi (u_fr.wi (u_fr.wi (u_fr.wi (f := s1.1) (r := s1.2) u_fr.rf (Or.inr ⟨rfl, rfl⟩)) (Or.inl (Or.inl ⟨rfl, by omega⟩))) (Or.inl (Or.inl ⟨rfl, by omega⟩))) (Or.inl (Or.inl ⟨rfl, by omega⟩))) (Or.inl (Or.inl ⟨rfl, by omega⟩))
  have n24 : ¬ tx_G 65 24 := fun q => by
    unfold tx_G at q
    omega
  rw [b_316] at hr
  cases hu : u g_t316 2 ((u_l1 u_z1 1 (Int32.ofInt 1)), u_z2, [(0, 67)]) [] s0 with
  | none =>
    rw [hu] at hr
    cases hr
  | some ru =>
    obtain ⟨vu, su⟩ := ru
    obtain ⟨g1, g2, g3⟩ := m_unit hT k _ _ _ _ _ _ _ _ _ _ hS0 (by rw [u_l1E]; decide) hR hu
    have g1 : vu = none := g1
    subst g1
    rw [hu, u_bvS] at hr
    have g2 : u_fr tx_G s0 su := g2
    have key : mV ch n b0 R s0 r := by
      rcases g3 with ⟨τ2, x1, x2⟩ | ⟨k2, τ2, O2, out2, w2, dp2, x1, x2, x3⟩
      · have := m_end x2 hr
        subst this
        exact ⟨rfl, g2, Or.inl ⟨τ2, x1, x2⟩⟩
      · exact mV_t g2 (m_loop hT (k2 + 1) k2 (Nat.lt_succ_self _) τ2 O2 out2 w2 dp2 su _ u_z2 r R x2 (by rw [u_l1E]; decide) x3 hr)
    exact ⟨s0, key, mV_w fr0 key, (key.2.1.i n24).trans c24⟩
end MK
