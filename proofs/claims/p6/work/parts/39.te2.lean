/-! the model's unit is the pure one -/
section MW
variable {ch : Nat → Int32} {n : Nat}
theorem z7 {dp : Nat} (h : dp < 4000) : Int32.ofInt 6 < zi dp ↔ 6 < dp := zi_lt (a := 6) (b := dp) (by omega) (by omega)
theorem dc_le : ∀ O : List Nat, f_dc O ≤ O.length := by
  intro O
  induction O with
  | nil => exact Nat.le_refl _
  | cons x O ih =>
    show f_dc O + (if x = 40 ∨ x = 272 then 1 else 0) ≤ O.length + 1
    by_cases e : x = 40 ∨ x = 272
    · rw [if_pos e]
      omega
    · rw [if_neg e]
      omega
/-- what a unit comes to -/
def mU (ch : Nat → Int32) (n b0 k : Nat) (R : f_R) (s : u_H) (r : Option (q_V Int32) × u_H) : Prop := r.1 = none ∧ u_fr tx_G s r.2 ∧ ((∃ τ2, f_wr τ2 = some R ∧ mE τ2 r.2) ∨ (∃ k2 τ2 O2 out2 w2 dp2, k2 < k ∧ mS ch n b0 τ2 O2 out2 w2 dp2 r.2 ∧ f_op (tx_A ch n) k2 false τ2 O2 out2 w2 dp2 = some R))
theorem mU_e {b0 k : Nat} {R : f_R} {τ : f_T} {s : u_H} {r : Option (q_V Int32) × u_H} (hR : f_wr τ = some R) (h : r.1 = none ∧ u_fr tx_G s r.2 ∧ mE τ r.2) : mU ch n b0 k R s r := ⟨h.1, h.2.1, Or.inl ⟨τ, hR, h.2.2⟩⟩
theorem m_unit (hT : tx_T ch n) {b0 : Nat} : ∀ (k : Nat) (τ : f_T) (O : List Nat) (out : List Int) (w dp : Nat) (s : u_H) (li : Nat → Int32) (ll : Nat → Int64) (r : Option (q_V Int32) × u_H) (R : f_R), mS ch n b0 τ O out w dp s → ¬ li 1 = 0 → f_op (tx_A ch n) k true τ O out w dp = some R → u g_t316 2 (li, ll, [(0, 67)]) [] s = some r → mU ch n b0 k R s r := by
  intro k
  induction k with
  | zero =>
    intro τ O out w dp s li ll r R h hl hR hr
    cases hR
  | succ k ih =>
    intro τ O out w dp s li ll r R h hl hR hr
    have hn := hT.1
    have hv1 := h.1.1.1
    have hfault : s.1 65 2 = 0 := h.1.2.2.2.2.2.2.1
    have hlen := h.2.2.2.2.2.2.2.2.2.2
    have hdc := h.2.2.2.2.2.2.2.2.2.1
    have hdl := dc_le O
    have hd : s.1 65 23 = zi dp := h.2.2.2.2.2.2.1
    have hw30 := h.2.2.2.2.2.2.2.1
    have hfull := m_full h.2.2.2.2.1 h.2.2.2.2.2.1 h.2.2.2.2.2.2.2.2.1 hw30
    have h7 := z7 (dp := dp) (by omega)
    have hs40 : s.1 65 6 = Int32.ofInt 40 ↔ τ.2.1 = 40 := by
      rw [h.1.2.2.1]
      exact tx_soS (c := 40) h.1.1 (by omega) (by omega)
    have hs2 : s.1 65 6 = Int32.ofInt 2 ↔ τ.2.1 = 274 := by
      rw [h.1.2.2.1]
      exact tx_so2 h.1.1
    -- what is no open sign
    have h101 : ∀ li : Nat → Int32, ¬ τ.2.1 = 40 → (if f_kn (f_k τ) ∧ w ≠ 30 then f_op (tx_A ch n) k false (tx_A ch n τ) O (out ++ [f_val τ]) (w + 1) dp else f_wr τ) = some R → u g_t316 101 (li, ll, [(0, 67)]) [] s = some r → mU ch n b0 (k + 1) R s r := fun li h40 hR hr => by
      rw [b_316_101, hfault, if_neg z_lt00, m_asked h.1, u_biS] at hr
      by_cases h274 : τ.2.1 = 274
      · rw [if_pos (hs2.mpr h274), hfull, u_biS] at hr
        by_cases e : w = 30
        · rw [if_neg (fun q => q.2 e)] at hR
          rw [decide_eq_true e, if_neg zb_yes] at hr
          exact mU_e hR (m_eV h hr)
        · rw [if_pos ⟨Or.inl h274, e⟩] at hR
          rw [decide_eq_false e, if_pos zb_no] at hr
          obtain ⟨g1, g2, g3⟩ := m_val hT h e (Or.inl h274) (u_l1E _ _ _) hr
          exact ⟨g1, g2, Or.inr ⟨k, _, _, _, _, _, Nat.lt_succ_self k, g3, hR⟩⟩
      · rw [if_neg (fun q => h274 (hs2.mp q))] at hr
        by_cases hk : 262 ≤ τ.2.1 ∧ τ.2.1 ≤ 267
        · rw [if_neg (fa_pos hk), hfull, u_biS] at hr
          by_cases e : w = 30
          · rw [if_neg (fun q => q.2 e)] at hR
            rw [decide_eq_true e, if_neg zb_yes] at hr
            exact mU_e hR (m_eV h hr)
          · rw [if_pos ⟨Or.inr hk, e⟩] at hR
            rw [decide_eq_false e, if_pos zb_no] at hr
            obtain ⟨g1, g2, g3⟩ := m_val hT h e (Or.inr hk) (u_l1E _ _ _) hr
            exact ⟨g1, g2, Or.inr ⟨k, _, _, _, _, _, Nat.lt_succ_self k, g3, hR⟩⟩
        · rw [if_neg (fun q => q.1.elim h274 hk)] at hR
          rw [if_pos (fa_neg hk)] at hr
          exact mU_e hR (m_eV h hr)
    have h53 : (if f_k τ = 40 then (if w = 30 ∨ 6 < dp then f_wr τ else f_op (tx_A ch n) k true (tx_A ch n τ) (40 :: O) out (w + 1) (dp + 1)) else if f_kn (f_k τ) ∧ w ≠ 30 then f_op (tx_A ch n) k false (tx_A ch n τ) O (out ++ [f_val τ]) (w + 1) dp else f_wr τ) = some R → u g_t316 53 (li, ll, [(0, 67)]) [] s = some r → mU ch n b0 (k + 1) R s r := fun hR hr => by
      rw [b_316_53] at hr
      by_cases h40 : τ.2.1 = 40
      · rw [if_pos (show f_k τ = 40 from h40)] at hR
        rw [if_pos (hs40.mpr h40), hfull, u_biS] at hr
        by_cases e : w = 30
        · rw [if_pos (Or.inl e)] at hR
          rw [decide_eq_true e, if_neg zb_yes] at hr
          exact mU_e hR (m_eU hn h hr)
        · rw [decide_eq_false e, if_pos zb_no, hd] at hr
          by_cases e7 : 6 < dp
          · rw [if_pos (Or.inr e7)] at hR
            rw [if_pos (h7.mpr e7)] at hr
            exact mU_e hR (m_eU hn h hr)
          · rw [if_neg (fun q => q.elim e e7)] at hR
            obtain ⟨c1, c2⟩ := m_count h e
            rw [if_neg (fun q => e7 (h7.mp q)), c1, u_bvS] at hr
            cases ha : u_c 267 [.inr (.inr 67), .inl (zi (fe 40))] (y_u (y_u s.1 65 20 (zi (b0 + (w + 1)))) 65 22 (zi (w + 1)), s.2) with
            | none =>
              rw [show Int32.ofInt 20 = zi (fe 40) from rfl, ha] at hr
              cases hr
            | some ra =>
              obtain ⟨va, sa⟩ := ra
              obtain ⟨a1, a2, a3⟩ := m_push hT c2 (Or.inl rfl) (by omega) (by omega) ha
              have a1 : va = none := a1
              subst a1
              rw [show Int32.ofInt 20 = zi (fe 40) from rfl, ha, u_bvS] at hr
              obtain ⟨g1, g2, g3⟩ := ih _ _ _ _ _ _ _ _ _ _ a2 hl hR hr
              have fr1 : u_fr tx_G s (y_u (y_u s.1 65 20 (zi (b0 + (w + 1)))) 65 22 (zi (w + 1)), s.2) := u_fr.wi (u_fr.wi (f := s.1) (r := s.2) u_fr.rf (Or.inl ⟨rfl, by omega⟩)) (Or.inl ⟨rfl, by omega⟩)
              refine ⟨g1, (fr1.tr (a3.mono (fun o k q => tx_OG q))).tr g2, ?_⟩
              rcases g3 with g3 | ⟨k2, τ2, O2, out2, w2, dp2, x1, x2, x3⟩
              · exact Or.inl g3
              · exact Or.inr ⟨k2, τ2, O2, out2, w2, dp2, by omega, x2, x3⟩
      · rw [if_neg (show ¬ f_k τ = 40 from h40)] at hR
        rw [if_neg (fun q => h40 (hs40.mp q)), b_316_2, u_l1E, if_pos z00] at hr
        exact h101 _ h40 hR hr
    rw [f_op] at hR
    rw [b_316_2, if_neg hl, if_pos hfault, m_word h.1 (i := 16) (N := 7237492) (w := [14, 15, 20]) rfl rfl, u_biS] at hr
    by_cases h272 : τ.2.1 = 272
    · rw [decide_eq_true (show τ.2.1 = 256 + 16 from h272), if_neg zb_yes] at hr
      cases hm : u_c 257 [.inr (.inr 67)] s with
      | none =>
        rw [hm] at hr
        cases hr
      | some rm =>
        have hmn := m_mn h.2.2.1 (by omega) hm
        subst hmn
        rw [hm, u_biS] at hr
        cases hb : f_mn O with
        | false =>
          rw [hb, if_pos zb_no] at hr
          rw [if_neg (fun q => by have := q.2; rw [hb] at this; cases this)] at hR
          exact h53 hR hr
        | true =>
          rw [hb, if_neg zb_yes, hd] at hr
          rw [if_pos ⟨h272, hb⟩] at hR
          by_cases e7 : 6 < dp
          · rw [if_pos e7] at hR
            rw [if_pos (h7.mpr e7)] at hr
            exact mU_e hR (m_eO hn h hr)
          · rw [if_neg e7] at hR
            rw [if_neg (fun q => e7 (h7.mp q))] at hr
            cases ha : u_c 267 [.inr (.inr 67), .inl (zi (fe 272))] s with
            | none =>
              rw [show Int32.ofInt 21 = zi (fe 272) from rfl, ha] at hr
              cases hr
            | some ra =>
              obtain ⟨va, sa⟩ := ra
              obtain ⟨a1, a2, a3⟩ := m_push hT h (Or.inr rfl) (by omega) (by omega) ha
              have a1 : va = none := a1
              subst a1
              rw [show Int32.ofInt 21 = zi (fe 272) from rfl, ha, u_bvS] at hr
              obtain ⟨g1, g2, g3⟩ := ih _ _ _ _ _ _ _ _ _ _ a2 hl hR hr
              refine ⟨g1, (a3.mono (fun o k q => tx_OG q)).tr g2, ?_⟩
              rcases g3 with g3 | ⟨k2, τ2, O2, out2, w2, dp2, x1, x2, x3⟩
              · exact Or.inl g3
              · exact Or.inr ⟨k2, τ2, O2, out2, w2, dp2, by omega, x2, x3⟩
    · rw [decide_eq_false (show ¬ τ.2.1 = 256 + 16 from h272), if_pos zb_no] at hr
      rw [if_neg (fun q => h272 q.1)] at hR
      exact h53 hR hr
end MW
