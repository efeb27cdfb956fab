/-! the model's formula is the pure one -/
theorem cl_len (m : Nat) : ∀ O : List Nat, (f_cl m O).2.1.length + (f_cl m O).1.length = O.length ∧ f_dc (f_cl m O).2.1 + (f_cl m O).2.2 = f_dc O ∧ ∀ x ∈ (f_cl m O).2.1, x ∈ O := by
  intro O
  induction O with
  | nil => exact ⟨rfl, rfl, fun x h => h⟩
  | cons x O ih =>
    obtain ⟨i1, i2, i3⟩ := ih
    rw [f_cl_cons]
    by_cases e : x ≠ 40 ∧ m ≤ f_ti x
    · rw [if_pos e]
      refine ⟨?_, ?_, fun y hy => List.mem_cons_of_mem _ (i3 y hy)⟩
      · show (f_cl m O).2.1.length + ((f_cl m O).1.length + 1) = O.length + 1
        omega
      · show f_dc (f_cl m O).2.1 + ((f_cl m O).2.2 + (if x = 272 then 1 else 0)) = f_dc O + (if x = 40 ∨ x = 272 then 1 else 0)
        by_cases e2 : x = 272
        · rw [if_pos e2, if_pos (Or.inr e2)]
          omega
        · rw [if_neg e2, if_neg (fun q => q.elim e.1 e2)]
          omega
    · rw [if_neg e]
      exact ⟨rfl, rfl, fun y hy => hy⟩
theorem cl_hb : ∀ O : List Nat, f_hb O = true → ∃ t, (f_cl 0 O).2.1 = 40 :: t := by
  intro O
  induction O with
  | nil =>
    intro h
    cases h
  | cons x O ih =>
    intro h
    rw [f_cl_cons]
    by_cases e : x = 40
    · rw [if_neg (fun q => q.1 e), e]
      exact ⟨O, rfl⟩
    · rw [if_pos ⟨e, Nat.zero_le _⟩]
      refine ih ?_
      have h2 : (decide (x = 40) || f_hb O) = true := h
      rw [decide_eq_false e, Bool.false_or] at h2
      exact h2
section MF
variable {ch : Nat → Int32} {n : Nat}
theorem mN_frF {τ : f_T} {s s2 : u_H} (h : mN ch n τ s) (hf : u_fr tx_F s s2) : mN ch n τ s2 := by
  obtain ⟨hV, m1, m2, m3, m4, m5, m6, m7⟩ := h
  have nq : ∀ k, k < 10 → ¬ tx_F 65 k := fun k q q2 => by
    unfold tx_F at q2
    omega
  exact ⟨hV, (hf.i (nq _ (by omega))).trans m1, (hf.i (nq _ (by omega))).trans m2, (hf.i (nq _ (by omega))).trans m3, fun q => (hf.i (nq _ (by omega))).trans (m4 q), fun a b => (hf.l (nq _ (by omega))).trans (m5 a b), (hf.i (nq _ (by omega))).trans m6, (hf.i (nq _ (by omega))).trans m7⟩
/-- the pure formula's end, the sign behind it aside -/
def mV (ch : Nat → Int32) (n b0 : Nat) (R : f_R) (s : u_H) (r : Option (q_V Int32) × u_H) : Prop := r.1 = none ∧ u_fr tx_G s r.2 ∧ ((∃ τ2, f_wr τ2 = some R ∧ mE τ2 r.2) ∨ (∃ τ2 out2 w2, (if f_k τ2 = 59 then some (.inr (τ2, out2, w2)) else f_wr τ2) = some R ∧ mN ch n τ2 r.2 ∧ tM ch n r.2 ∧ mQ out2 r.2 ∧ r.2.1 65 20 = zi (b0 + w2) ∧ r.2.1 65 22 = zi w2 ∧ w2 ≤ 30 ∧ out2.length ≤ 1600))
theorem m_cl {b0 m : Nat} (hm : m ≤ 6) (hT : tx_T ch n) {τ : f_T} {O : List Nat} {out : List Int} {w dp : Nat} {s : u_H} {r : Option (q_V Int32) × u_H} (h : mS ch n b0 τ O out w dp s) (hr : u_c 187 [.inr (.inr 67), .inl (zi m)] s = some r) : r.1 = none ∧ u_fr tx_F s r.2 ∧ (mN ch n τ r.2 ∧ tM ch n r.2 ∧ mO (f_cl m O).2.1 r.2 ∧ mQ (out ++ (f_cl m O).1) r.2 ∧ r.2.1 65 23 = zi (dp - (f_cl m O).2.2)) := by
  obtain ⟨hN, hM, hO, hQ, h20, h22, hd, hw, hb, hdc, hlen⟩ := h
  have hn := hT.1
  have hv1 := hN.1.1
  have hdl := dc_le O
  rw [b_187] at hr
  obtain ⟨g1, g2, g3, g4, g5⟩ := m_close hm O out dp s _ _ r (u_l1E _ _ _) hO hQ (by omega) (by omega) (by omega) hd hr
  refine ⟨g1, g5, mN_frF hN g5, tM_fr hM g5 (fun q => ?_) (fun k q => ?_), g2, g3, g4⟩
  · unfold tx_F at q
    omega
  · unfold tx_F at q
    omega
end MF
