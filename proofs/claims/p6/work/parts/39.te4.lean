/-! the model's formula is the pure one: its loop -/
section MG
variable {ch : Nat → Int32} {n : Nat}
theorem nF20 {k : Nat} (h : k ≠ 17) (h2 : k ≠ 19) (h3 : k ≠ 23) : ¬ tx_F 65 k := fun q => by
  unfold tx_F at q
  omega
/-- the end of a sound formula -/
theorem m_162 (hT : tx_T ch n) {b0 : Nat} {τ : f_T} {O : List Nat} {out : List Int} {w dp : Nat} {s : u_H} {li : Nat → Int32} {ll : Nat → Int64} {r : Option (q_V Int32) × u_H} {R : f_R} (h : mS ch n b0 τ O out w dp s) (hR : (if f_hb O = true then f_wr τ else if f_k τ = 59 then some (.inr (τ, out ++ (f_cl 0 O).1, w)) else f_wr τ) = some R) (hr : u g_t208 162 (li, ll, [(0, 67)]) [] s = some r) : mV ch n b0 R s r := by
  have hn := hT.1
  have hv1 := h.1.1.1
  have hfault : s.1 65 2 = 0 := h.1.2.2.2.2.2.2.1
  have hlen := h.2.2.2.2.2.2.2.2.2.2
  rw [b_208_162, if_pos hfault] at hr
  cases hm : u_c 217 [.inr (.inr 67)] s with
  | none =>
    rw [hm] at hr
    cases hr
  | some rm =>
    have hmb := m_hb h.2.2.1 (by omega) hm
    subst hmb
    rw [hm, u_biS] at hr
    cases hb : f_hb O with
    | true =>
      rw [if_pos hb] at hR
      obtain ⟨s2, e1, e2, e3, e4⟩ := m_wrong h.1
      rw [hb, if_neg zb_yes, e1, u_bvS, if_neg (mE_pos (τ := τ) ⟨e2, e3⟩).2] at hr
      cases hr
      exact ⟨rfl, e4.mono (fun o k q => tx_XG q), Or.inl ⟨τ, hR, e2, e3⟩⟩
    | false =>
      rw [if_neg (by rw [hb]; exact Bool.false_ne_true)] at hR
      rw [hb, if_pos zb_no, if_pos hfault] at hr
      cases hc : u_c 187 [.inr (.inr 67), .inl (zi 0)] s with
      | none =>
        rw [show Int32.ofInt 0 = zi 0 from rfl, hc] at hr
        cases hr
      | some rc =>
        obtain ⟨vc, sc⟩ := rc
        obtain ⟨a1, a2, a3, a4, a5, a6, a7⟩ := m_cl (m := 0) (by omega) hT h hc
        have a1 : vc = none := a1
        subst a1
        have a2 : u_fr tx_F s sc := a2
        rw [show Int32.ofInt 0 = zi 0 from rfl, hc, u_bvS] at hr
        cases hr
        have hcl := (cl_len 0 O).1
        refine ⟨rfl, a2.mono (fun o k q => tx_FG q), Or.inr ⟨τ, _, w, hR, a3, a4, a6, (a2.i (nF20 (by omega) (by omega) (by omega))).trans h.2.2.2.2.1, (a2.i (nF20 (by omega) (by omega) (by omega))).trans h.2.2.2.2.2.1, h.2.2.2.2.2.2.2.1, ?_⟩⟩
        rw [List.length_append]
        omega
/-- the end of a refused one -/
theorem m_end {τ : f_T} {s : u_H} {li : Nat → Int32} {ll : Nat → Int64} {r : Option (q_V Int32) × u_H} (h : mE τ s) (hr : u g_t208 35 (li, ll, [(0, 67)]) [] s = some r) : r = (none, s) := by
  have h2 := (mE_pos h).2
  rw [b_208_35] at hr
  by_cases e : li 1 = 0
  · rw [if_pos e, b_208_162, if_neg h2, if_neg h2] at hr
    cases hr
    rfl
  · rw [if_neg e, if_neg h2, b_208_162, if_neg h2, if_neg h2] at hr
    cases hr
    rfl
/-- the state after a bracket's end, or an operator pushed -/
theorem m_brk (hT : tx_T ch n) {b0 : Nat} {τ : f_T} {O t : List Nat} {out : List Int} {w dp c : Nat} {s sc : u_H} (h : mS ch n b0 τ O out w dp s) (hk : τ.2.1 = 41) (ht : (f_cl 0 O).2.1 = 40 :: t) (a2 : u_fr tx_F s sc) (a3 : mN ch n τ sc) (a4 : tM ch n sc) (a5 : mO (40 :: t) sc) (a6 : mQ (out ++ (f_cl 0 O).1) sc) (a7 : sc.1 65 23 = zi (dp - (f_cl 0 O).2.2)) : ∃ s2, u_c 309 [.inr (.inr 67)] (y_u (y_u sc.1 65 19 (sc.1 65 19 - Int32.ofInt 1)) 65 23 (sc.1 65 23 - Int32.ofInt 1), sc.2) = some (none, s2) ∧ u_fr tx_G s s2 ∧ mS ch n b0 (tx_A ch n τ) t (out ++ (f_cl 0 O).1) w (dp - (f_cl 0 O).2.2 - 1) s2 := by
  have hn := hT.1
  have hv1 := h.1.1.1
  obtain ⟨hN, hM, hO, hQ, h20, h22, hd, hw, hb, hdc, hlen⟩ := h
  obtain ⟨l1, l2, l3⟩ := cl_len 0 O
  rw [ht] at l1 l2
  have l1 : t.length + 1 + (f_cl 0 O).1.length = O.length := l1
  have l2 : f_dc t + 1 + (f_cl 0 O).2.2 = f_dc O := l2
  have e19 : sc.1 65 19 - Int32.ofInt 1 = zi t.length := by
    rw [a5.1]
    exact zi_sub (a := t.length + 1) (b := 1) (by omega)
  have e23 : sc.1 65 23 - Int32.ofInt 1 = zi (dp - (f_cl 0 O).2.2 - 1) := by
    rw [a7]
    exact zi_sub (b := 1) (by omega)
  rw [e19, e23]
  have hN1 : mN ch n τ (y_u (y_u sc.1 65 19 (zi t.length)) 65 23 (zi (dp - (f_cl 0 O).2.2 - 1)), sc.2) := mN_w (s := (y_u sc.1 65 19 (zi t.length), sc.2)) (mN_w a3 (by omega)) (by omega)
  have hM1 : tM ch n (y_u (y_u sc.1 65 19 (zi t.length)) 65 23 (zi (dp - (f_cl 0 O).2.2 - 1)), sc.2) := tM_w (s := (y_u sc.1 65 19 (zi t.length), sc.2)) (tM_w a4 (by omega) (by omega)) (by omega) (by omega)
  have hQ1 : mQ (out ++ (f_cl 0 O).1) (y_u (y_u sc.1 65 19 (zi t.length)) 65 23 (zi (dp - (f_cl 0 O).2.2 - 1)), sc.2) := mQ_w (s := (y_u sc.1 65 19 (zi t.length), sc.2)) (mQ_w a6 (by omega) (by omega) (by omega)) (by omega) (by omega) (by omega)
  have wn : ∀ (o k : Nat), ¬ (o = 65 ∧ (k = 19 ∨ k = 23)) → y_u (y_u sc.1 65 19 (zi t.length)) 65 23 (zi (dp - (f_cl 0 O).2.2 - 1)) o k = sc.1 o k := fun o k q => by rw [y_uN (by omega), y_uN (by omega)]
  have hO1 : mO t (y_u (y_u sc.1 65 19 (zi t.length)) 65 23 (zi (dp - (f_cl 0 O).2.2 - 1)), sc.2) := mO_pop a5 (by
    show y_u (y_u sc.1 65 19 (zi t.length)) 65 23 (zi (dp - (f_cl 0 O).2.2 - 1)) 65 19 = _
    rw [y_uN (by omega), y_uE]) (fun j => wn 72 j (by omega))
  obtain ⟨s2, e1, e2, e3, e4⟩ := m_next hT hN1 hM1
  have nm : ∀ o k, ¬ (o = 65 ∧ (k = 2 ∨ k = 3 ∨ k = 4 ∨ (6 ≤ k ∧ k ≤ 9))) → ¬ tx_M o k := fun o k q q2 => q q2
  have hlt := tx_Alt hN.1 (by omega) (by omega)
  refine ⟨s2, e1, ?_, e2, e3, mO_fr hO1 (e4.i (nm _ _ (by omega))) (fun j => e4.i (nm _ _ (by omega))), mQ_fr hQ1 (e4.i (nm _ _ (by omega))) (fun j => e4.i (nm _ _ (by omega))) (fun j => e4.i (nm _ _ (by omega))), ?_, ?_, ?_, hw, hb, by omega, ?_⟩
  · refine ((a2.mono (fun o k q => tx_FG q)).tr ?_).tr (e4.mono (fun o k q => tx_MG q))
    exact u_fr.wi (u_fr.wi (f := sc.1) (r := sc.2) u_fr.rf (Or.inl ⟨rfl, by omega⟩)) (Or.inl ⟨rfl, by omega⟩)
  · rw [e4.i (nm _ _ (by omega))]
    exact ((wn 65 20 (by omega)).trans (a2.i (nF20 (by omega) (by omega) (by omega)))).trans h20
  · rw [e4.i (nm _ _ (by omega))]
    exact ((wn 65 22 (by omega)).trans (a2.i (nF20 (by omega) (by omega) (by omega)))).trans h22
  · rw [e4.i (nm _ _ (by omega))]
    exact y_uE (y_u sc.1 65 19 (zi t.length)) 65 23 _
  · rw [List.length_append]
    omega
theorem m_opr (hT : tx_T ch n) {b0 m : Nat} {τ : f_T} {O : List Nat} {out : List Int} {w dp : Nat} {s sc : u_H} (h : mS ch n b0 τ O out w dp s) (hk : f_sg τ.2.1) (a2 : u_fr tx_F s sc) (a3 : mN ch n τ sc) (a4 : tM ch n sc) (a5 : mO (f_cl m O).2.1 sc) (a6 : mQ (out ++ (f_cl m O).1) sc) (a7 : sc.1 65 23 = zi (dp - (f_cl m O).2.2)) : ∃ s2, u_c 309 [.inr (.inr 67)] (y_u (y_u sc.1 72 (sc.1 65 19).toNatClampNeg (zi (fe τ.2.1))) 65 19 (sc.1 65 19 + Int32.ofInt 1), sc.2) = some (none, s2) ∧ u_fr tx_G s s2 ∧ mS ch n b0 (tx_A ch n τ) (τ.2.1 :: (f_cl m O).2.1) (out ++ (f_cl m O).1) w (dp - (f_cl m O).2.2) s2 := by
  have hn := hT.1
  have hv1 := h.1.1.1
  obtain ⟨hN, hM, hO, hQ, h20, h22, hd, hw, hb, hdc, hlen⟩ := h
  obtain ⟨l1, l2, l3⟩ := cl_len m O
  generalize hO2 : (f_cl m O).2.1 = O2 at *
  generalize ho2 : (f_cl m O).1 = o2 at *
  generalize hc2 : (f_cl m O).2.2 = c2 at *
  rw [a5.1, zi_one, zi_clamp (by omega)]
  have hk40 : τ.2.1 ≠ 40 := fun q => by
    have := hk.1
    rw [q] at this
    exact this rfl
  have hk5 : τ.2.1 ≠ 275 ∧ τ.2.1 ≠ 276 := by
    constructor
    · intro q
      have := hk.1
      rw [q] at this
      exact this rfl
    · intro q
      have := hk.1
      rw [q] at this
      exact this rfl
  have hN1 : mN ch n τ (y_u (y_u sc.1 72 O2.length (zi (fe τ.2.1))) 65 19 (zi (O2.length + 1)), sc.2) := mN_w (s := (y_u sc.1 72 O2.length (zi (fe τ.2.1)), sc.2)) (mN_w a3 (by omega)) (by omega)
  have hM1 : tM ch n (y_u (y_u sc.1 72 O2.length (zi (fe τ.2.1))) 65 19 (zi (O2.length + 1)), sc.2) := tM_w (s := (y_u sc.1 72 O2.length (zi (fe τ.2.1)), sc.2)) (tM_w a4 (by omega) (by omega)) (by omega) (by omega)
  have hQ1 : mQ (out ++ o2) (y_u (y_u sc.1 72 O2.length (zi (fe τ.2.1))) 65 19 (zi (O2.length + 1)), sc.2) := mQ_w (s := (y_u sc.1 72 O2.length (zi (fe τ.2.1)), sc.2)) (mQ_w a6 (by omega) (by omega) (by omega)) (by omega) (by omega) (by omega)
  have wn : ∀ (o k : Nat), ¬ (o = 65 ∧ k = 19) → o ≠ 72 → y_u (y_u sc.1 72 O2.length (zi (fe τ.2.1))) 65 19 (zi (O2.length + 1)) o k = sc.1 o k := fun o k q q2 => by rw [y_uN (by omega), y_uN (by omega)]
  have hO1 : mO (τ.2.1 :: O2) (y_u (y_u sc.1 72 O2.length (zi (fe τ.2.1))) 65 19 (zi (O2.length + 1)), sc.2) := by
    refine mO_push a5 (Or.inr hk.1) ?_ ?_ (fun j hj => ?_)
    · exact y_uE (y_u sc.1 72 O2.length (zi (fe τ.2.1))) 65 19 _
    · show y_u (y_u sc.1 72 O2.length (zi (fe τ.2.1))) 65 19 (zi (O2.length + 1)) 72 O2.length = _
      rw [y_uN (by omega), y_uE]
    · show y_u (y_u sc.1 72 O2.length (zi (fe τ.2.1))) 65 19 (zi (O2.length + 1)) 72 j = _
      rw [y_uN (by omega), y_uN (by omega)]
  obtain ⟨s2, e1, e2, e3, e4⟩ := m_next hT hN1 hM1
  have nm : ∀ o k, ¬ (o = 65 ∧ (k = 2 ∨ k = 3 ∨ k = 4 ∨ (6 ≤ k ∧ k ≤ 9))) → ¬ tx_M o k := fun o k q q2 => q q2
  have hlt := tx_Alt hN.1 hk5.1 hk5.2
  refine ⟨s2, e1, ?_, e2, e3, mO_fr hO1 (e4.i (nm _ _ (by omega))) (fun j => e4.i (nm _ _ (by omega))), mQ_fr hQ1 (e4.i (nm _ _ (by omega))) (fun j => e4.i (nm _ _ (by omega))) (fun j => e4.i (nm _ _ (by omega))), ?_, ?_, ?_, hw, hb, ?_, ?_⟩
  · refine ((a2.mono (fun o k q => tx_FG q)).tr ?_).tr (e4.mono (fun o k q => tx_MG q))
    exact u_fr.wi (u_fr.wi (f := sc.1) (r := sc.2) u_fr.rf (Or.inr (Or.inr (Or.inr rfl)))) (Or.inl ⟨rfl, by omega⟩)
  · rw [e4.i (nm _ _ (by omega))]
    exact ((wn 65 20 (by omega) (by omega)).trans (a2.i (nF20 (by omega) (by omega) (by omega)))).trans h20
  · rw [e4.i (nm _ _ (by omega))]
    exact ((wn 65 22 (by omega) (by omega)).trans (a2.i (nF20 (by omega) (by omega) (by omega)))).trans h22
  · rw [e4.i (nm _ _ (by omega))]
    exact (wn 65 23 (by omega) (by omega)).trans a7
  · show f_dc O2 + (if τ.2.1 = 40 ∨ τ.2.1 = 272 then 1 else 0) = dp - c2
    rw [if_neg (fun q => q.elim hk40 hk.2)]
    omega
  · rw [List.length_append]
    show O2.length + 1 + (out.length + o2.length) ≤ _
    omega
end MG
