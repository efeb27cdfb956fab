/-! the model's formula: a unit, whole -/
theorem ms_val {τ : f_T} (hk : f_kn τ.2.1) (hv : τ.2.2.1 < 10000) : ms (f_val τ) = if τ.2.1 = 274 then (Int32.ofInt 0, zi τ.2.2.1) else (Int32.ofInt 1, fa τ.2.1) := by
  unfold f_val f_k
  by_cases e : τ.2.1 = 274
  · rw [if_pos e, if_pos e]
    unfold ms
    rw [if_neg (by omega), if_pos (by omega)]
    rfl
  · rw [if_neg e, if_neg e]
    have h6 : τ.2.1 = 262 ∨ τ.2.1 = 263 ∨ τ.2.1 = 264 ∨ τ.2.1 = 265 ∨ τ.2.1 = 266 ∨ τ.2.1 = 267 := by
      rcases hk with q | q
      · exact absurd q e
      · omega
    rcases h6 with q | q | q | q | q | q <;> rw [q] <;> rfl
theorem fa_pos {k : Nat} (h : 262 ≤ k ∧ k ≤ 267) : ¬ fa k < 0 := by
  have h6 : k = 262 ∨ k = 263 ∨ k = 264 ∨ k = 265 ∨ k = 266 ∨ k = 267 := by omega
  rcases h6 with q | q | q | q | q | q <;> subst q
  · exact (by decide : ¬ Int32.ofInt 2 < 0)
  · exact (by decide : ¬ Int32.ofInt 0 < 0)
  · exact (by decide : ¬ Int32.ofInt 1 < 0)
  · exact (by decide : ¬ Int32.ofInt 3 < 0)
  · exact (by decide : ¬ Int32.ofInt 4 < 0)
  · exact (by decide : ¬ Int32.ofInt 5 < 0)
theorem fa_neg {k : Nat} (h : ¬ (262 ≤ k ∧ k ≤ 267)) : fa k < 0 := by
  unfold fa
  rw [if_neg (by omega), if_neg (by omega), if_neg (by omega), if_neg (by omega), if_neg (by omega), if_neg (by omega), u_k_eq]
  decide
theorem mN_frQ {ch : Nat → Int32} {n : Nat} {τ : f_T} {s s2 : u_H} (h : mN ch n τ s) (hf : u_fr tx_Q s s2) : mN ch n τ s2 := by
  obtain ⟨hV, m1, m2, m3, m4, m5, m6, m7⟩ := h
  have nq : ∀ k, k ≠ 17 → ¬ tx_Q 65 k := fun k q q2 => by
    unfold tx_Q at q2
    omega
  exact ⟨hV, (hf.i (nq _ (by omega))).trans m1, (hf.i (nq _ (by omega))).trans m2, (hf.i (nq _ (by omega))).trans m3, fun q => (hf.i (nq _ (by omega))).trans (m4 q), fun a b => (hf.l (nq _ (by omega))).trans (m5 a b), (hf.i (nq _ (by omega))).trans m6, (hf.i (nq _ (by omega))).trans m7⟩
section MV
variable {ch : Nat → Int32} {n : Nat}
/-- a value added, and on -/
theorem m_addN (hT : tx_T ch n) {b0 : Nat} {τ : f_T} {O : List Nat} {out : List Int} {w dp : Nat} {s : u_H} {x : Int} {p1 p2 : Int32} {r : Option (q_V Int32) × u_H} (h : mS ch n b0 τ O out w dp s) (h1 : τ.2.1 ≠ 275) (h2 : τ.2.1 ≠ 276) (hx : ms x = (p1, p2)) (hr : (u_bv (u_c 176 [.inr (.inr 67), .inl p1, .inl p2] s) fun s2 => u_bv (u_c 309 [.inr (.inr 67)] s2) fun s3 => some (none, s3)) = some r) : r.1 = none ∧ u_fr tx_G s r.2 ∧ mS ch n b0 (tx_A ch n τ) O (out ++ [x]) w dp r.2 := by
  obtain ⟨hN, hM, hO, hQ, h20, h22, hd, hw, hb, hdc, hlen⟩ := h
  have hn := hT.1
  have hv1 := hN.1.1
  have hlt := tx_Alt hN.1 h1 h2
  cases ha : u_c 176 [.inr (.inr 67), .inl p1, .inl p2] s with
  | none => rw [ha] at hr; cases hr
  | some ra =>
    obtain ⟨va, sa⟩ := ra
    obtain ⟨a1, a2, a3⟩ := m_add hQ (by omega) hx ha
    have a1 : va = none := a1
    subst a1
    rw [ha, u_bvS] at hr
    have a2 : mQ (out ++ [x]) sa := a2
    have a3 : u_fr tx_Q s sa := a3
    have nq : ∀ o k, ¬ (o = 65 ∧ k = 17) → o ≠ 68 → o ≠ 69 → ¬ tx_Q o k := fun o k q q1 q2 q3 => by
      unfold tx_Q at q3
      omega
    obtain ⟨s3, e1, e2, e3, e4⟩ := m_next hT (mN_frQ hN a3) (tM_fr hM a3 (nq _ _ (by omega) (by omega) (by omega)) (fun k => nq _ _ (by omega) (by omega) (by omega)))
    rw [e1, u_bvS] at hr
    cases hr
    have nm : ∀ o k, ¬ (o = 65 ∧ (k = 2 ∨ k = 3 ∨ k = 4 ∨ (6 ≤ k ∧ k ≤ 9))) → ¬ tx_M o k := fun o k q q2 => q q2
    refine ⟨rfl, (a3.mono (fun o k q => tx_QG q)).tr (e4.mono (fun o k q => tx_MG q)), e2, e3, mO_fr hO ?_ (fun j => ?_), mQ_fr a2 (e4.i (nm _ _ (by omega))) (fun j => e4.i (nm _ _ (by omega))) (fun j => e4.i (nm _ _ (by omega))), ?_, ?_, ?_, hw, hb, hdc, ?_⟩
    · exact (e4.i (nm _ _ (by omega))).trans (a3.i (nq _ _ (by omega) (by omega) (by omega)))
    · exact (e4.i (nm _ _ (by omega))).trans (a3.i (nq _ _ (by omega) (by omega) (by omega)))
    · exact ((e4.i (nm _ _ (by omega))).trans (a3.i (nq _ _ (by omega) (by omega) (by omega)))).trans h20
    · exact ((e4.i (nm _ _ (by omega))).trans (a3.i (nq _ _ (by omega) (by omega) (by omega)))).trans h22
    · exact ((e4.i (nm _ _ (by omega))).trans (a3.i (nq _ _ (by omega) (by omega) (by omega)))).trans hd
    · rw [List.length_append]
      show O.length + (out.length + 1) ≤ _
      omega
theorem m_val (hT : tx_T ch n) {b0 : Nat} {τ : f_T} {O : List Nat} {out : List Int} {w dp : Nat} {s : u_H} {li : Nat → Int32} {ll : Nat → Int64} {r : Option (q_V Int32) × u_H} (h : mS ch n b0 τ O out w dp s) (hw : w ≠ 30) (hk : f_kn τ.2.1) (h2 : li 2 = fa τ.2.1) (hr : u g_t316 138 (li, ll, [(0, 67)]) [] s = some r) : r.1 = none ∧ u_fr tx_G s r.2 ∧ mS ch n b0 (tx_A ch n τ) O (out ++ [f_val τ]) (w + 1) dp r.2 := by
  have hk1 : τ.2.1 ≠ 275 ∧ τ.2.1 ≠ 276 := by
    rcases hk with q | q <;> omega
  have hms := ms_val hk h.1.1.2.2.2.1
  obtain ⟨c1, c2⟩ := m_count h hw
  have fr1 : u_fr tx_G s (y_u (y_u s.1 65 20 (zi (b0 + (w + 1)))) 65 22 (zi (w + 1)), s.2) := u_fr.wi (u_fr.wi (f := s.1) (r := s.2) u_fr.rf (Or.inl ⟨rfl, by omega⟩)) (Or.inl ⟨rfl, by omega⟩)
  rw [b_316_138, h.1.2.2.2.2.2.2.1, if_neg z_lt00, c1, u_bvS, h2] at hr
  by_cases e : τ.2.1 = 274
  · rw [if_pos e] at hms
    have hf : fa τ.2.1 < 0 := fa_neg (by omega)
    rw [if_pos hf, if_pos hf, c2.1.2.2.2.2.1 e] at hr
    obtain ⟨g1, g2, g3⟩ := m_addN hT c2 hk1.1 hk1.2 hms hr
    exact ⟨g1, fr1.tr g2, g3⟩
  · rw [if_neg e] at hms
    have hf : ¬ fa τ.2.1 < 0 := fa_pos (by rcases hk with q | q <;> omega)
    rw [if_neg hf, if_neg hf] at hr
    obtain ⟨g1, g2, g3⟩ := m_addN hT c2 hk1.1 hk1.2 hms hr
    exact ⟨g1, fr1.tr g2, g3⟩
/-- refused, and out of the unit -/
theorem m_stop {li : Nat → Int32} {ll : Nat → Int64} {s : u_H} {r : Option (q_V Int32) × u_H} {τ : f_T} (h : mE τ s) (hr : u g_t316 2 (li, ll, [(0, 67)]) [] s = some r) : r = (none, s) := by
  obtain ⟨h1, h2⟩ := mE_pos h
  rw [b_316_2] at hr
  by_cases e : li 1 = 0
  · rw [if_pos e, b_316_101, if_pos h1] at hr
    cases hr
    rfl
  · rw [if_neg e, if_neg h2, b_316_101, if_pos h1] at hr
    cases hr
    rfl
theorem m_e267 {O : List Nat} {p : Int32} {li : Nat → Int32} {ll : Nat → Int64} {s : u_H} {r : Option (q_V Int32) × u_H} {τ : f_T} (h : mE τ s) (hO : mO O s) (hl : O.length < 4000) (hr : (u_bv (u_c 267 [.inr (.inr 67), .inl p] s) fun s5 => u g_t316 2 (li, ll, [(0, 67)]) [] s5) = some r) : r.1 = none ∧ u_fr tx_Y s r.2 ∧ mE τ r.2 := by
  cases ha : u_c 267 [.inr (.inr 67), .inl p] s with
  | none => rw [ha] at hr; cases hr
  | some ra =>
    obtain ⟨va, sa⟩ := ra
    obtain ⟨a1, a2⟩ := m_openE (mE_pos h).2 hO hl ha
    have a1 : va = none := a1
    subst a1
    have a2 : u_fr tx_Y s sa := a2
    rw [ha, u_bvS] at hr
    have ny : ∀ k, k ≠ 19 → k ≠ 23 → ¬ tx_Y 65 k := fun k q1 q2 q3 => by
      unfold tx_Y at q3
      omega
    have he : mE τ sa := ⟨(a2.i (ny _ (by omega) (by omega))).trans h.1, (a2.i (ny _ (by omega) (by omega))).trans h.2⟩
    have := m_stop he hr
    subst this
    exact ⟨rfl, a2, he⟩
theorem tx_YG {o k : Nat} (h : tx_Y o k) : tx_G o k := by
  unfold tx_Y at h
  unfold tx_G
  omega
/-- refused, at an open sign -/
theorem m_eO {b0 : Nat} {τ : f_T} {O : List Nat} {out : List Int} {w dp : Nat} {s : u_H} {p : Int32} {li : Nat → Int32} {ll : Nat → Int64} {r : Option (q_V Int32) × u_H} (hn : n ≤ 1600) (h : mS ch n b0 τ O out w dp s) (hr : (u_bv (u_c 324 [.inr (.inr 67), .inl (Int32.ofInt 2)] s) fun s3 => u_bv (u_c 267 [.inr (.inr 67), .inl p] s3) fun s5 => u g_t316 2 (li, ll, [(0, 67)]) [] s5) = some r) : r.1 = none ∧ u_fr tx_G s r.2 ∧ mE τ r.2 := by
  obtain ⟨hN, hM, hO, hQ, h20, h22, hd, hw, hb, hdc, hlen⟩ := h
  have hv1 := hN.1.1
  obtain ⟨s2, e1, e2, e3, e4⟩ := m_wrong hN
  rw [e1, u_bvS] at hr
  have nx : ∀ o k, ¬ (o = 65 ∧ (k = 2 ∨ k = 3)) → ¬ tx_X o k := fun o k q q2 => q q2
  obtain ⟨g1, g2, g3⟩ := m_e267 (τ := τ) ⟨e2, e3⟩ (mO_fr hO (e4.i (nx _ _ (by omega))) (fun j => e4.i (nx _ _ (by omega)))) (by omega) hr
  exact ⟨g1, (e4.mono (fun o k q => tx_XG q)).tr (g2.mono (fun o k q => tx_YG q)), g3⟩
theorem m_eU {b0 : Nat} {τ : f_T} {O : List Nat} {out : List Int} {w dp : Nat} {s : u_H} {p : Int32} {li : Nat → Int32} {ll : Nat → Int64} {r : Option (q_V Int32) × u_H} (hn : n ≤ 1600) (h : mS ch n b0 τ O out w dp s) (hr : (u_bv (u_c 324 [.inr (.inr 67), .inl (Int32.ofInt 2)] s) fun s3 => u_bv (u_c 191 [.inr (.inr 67)] s3) fun s4 => u_bv (u_c 267 [.inr (.inr 67), .inl p] s4) fun s5 => u g_t316 2 (li, ll, [(0, 67)]) [] s5) = some r) : r.1 = none ∧ u_fr tx_G s r.2 ∧ mE τ r.2 := by
  obtain ⟨hN, hM, hO, hQ, h20, h22, hd, hw, hb, hdc, hlen⟩ := h
  have hv1 := hN.1.1
  obtain ⟨s2, e1, e2, e3, e4⟩ := m_wrong hN
  rw [e1, u_bvS, b_191, u_bvS] at hr
  have nx : ∀ o k, ¬ (o = 65 ∧ (k = 2 ∨ k = 3)) → ¬ tx_X o k := fun o k q q2 => q q2
  have wn : ∀ (a b : Int32) (o k : Nat), ¬ (o = 65 ∧ (k = 20 ∨ k = 22)) → y_u (y_u s2.1 65 20 a) 65 22 b o k = s2.1 o k := fun a b o k q => by rw [y_uN (by omega), y_uN (by omega)]
  have hO2 : mO O s2 := mO_fr hO (e4.i (nx _ _ (by omega))) (fun j => e4.i (nx _ _ (by omega)))
  have hOw : ∀ a b : Int32, mO O (y_u (y_u s2.1 65 20 a) 65 22 b, s2.2) := fun a b => mO_fr hO2 (wn a b 65 19 (by omega)) (fun j => wn a b 72 j (by omega))
  have hEw : ∀ a b : Int32, mE τ (y_u (y_u s2.1 65 20 a) 65 22 b, s2.2) := fun a b => ⟨(wn a b _ _ (by omega)).trans e2, (wn a b _ _ (by omega)).trans e3⟩
  obtain ⟨g1, g2, g3⟩ := m_e267 (hEw _ _) (hOw _ _) (by omega) hr
  refine ⟨g1, ((e4.mono (fun o k q => tx_XG q)).tr ?_).tr (g2.mono (fun o k q => tx_YG q)), g3⟩
  exact u_fr.wi (u_fr.wi (f := s2.1) (r := s2.2) u_fr.rf (Or.inl ⟨rfl, by omega⟩)) (Or.inl ⟨rfl, by omega⟩)
/-- refused, at a value -/
theorem m_eV {b0 : Nat} {τ : f_T} {O : List Nat} {out : List Int} {w dp : Nat} {s : u_H} {li : Nat → Int32} {ll : Nat → Int64} {r : Option (q_V Int32) × u_H} (h : mS ch n b0 τ O out w dp s) (hr : (u_bv (u_c 324 [.inr (.inr 67), .inl (Int32.ofInt 2)] s) fun s3 => u g_t316 138 (li, ll, [(0, 67)]) [] s3) = some r) : r.1 = none ∧ u_fr tx_G s r.2 ∧ mE τ r.2 := by
  obtain ⟨s2, e1, e2, e3, e4⟩ := m_wrong h.1
  rw [e1, u_bvS, b_316_138, if_pos (mE_pos (τ := τ) ⟨e2, e3⟩).1] at hr
  cases hr
  exact ⟨rfl, e4.mono (fun o k q => tx_XG q), e2, e3⟩
end MV
