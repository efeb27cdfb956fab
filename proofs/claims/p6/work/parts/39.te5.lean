/-! the model's formula is the pure one, whole -/
section MH
variable {ch : Nat → Int32} {n : Nat}
theorem mV_t {b0 : Nat} {R : f_R} {s s2 : u_H} {r : Option (q_V Int32) × u_H} (h : u_fr tx_G s s2) (h2 : mV ch n b0 R s2 r) : mV ch n b0 R s r := ⟨h2.1, h.tr h2.2.1, h2.2.2⟩
theorem sg_fe {k : Nat} (h : f_sg k) : fv k ∧ k ≠ 40 ∧ ¬ zi (fe k) = 0 := by
  have hv : fv k := Or.inr h.1
  have h40 : k ≠ 40 := fun q => by
    have := h.1
    rw [q] at this
    exact this rfl
  refine ⟨hv, h40, ?_⟩
  rcases fv_l hv with q | q | q | q | q | q | q | q | q | q | q | q <;> subst q <;> first | exact absurd rfl h40 | decide
theorem m_loop (hT : tx_T ch n) {b0 : Nat} : ∀ (N k : Nat), k < N → ∀ (τ : f_T) (O : List Nat) (out : List Int) (w dp : Nat) (s : u_H) (li : Nat → Int32) (ll : Nat → Int64) (r : Option (q_V Int32) × u_H) (R : f_R), mS ch n b0 τ O out w dp s → ¬ li 1 = 0 → f_op (tx_A ch n) k false τ O out w dp = some R → u g_t208 35 (li, ll, [(0, 67)]) [] s = some r → mV ch n b0 R s r := by
  intro N
  induction N with
  | zero =>
    intro k hk
    omega
  | succ N ih =>
    intro k hkN τ O out w dp s li ll r R h hl hR hr
    cases k with
    | zero => cases hR
    | succ k =>
    have hn := hT.1
    have hv1 := h.1.1.1
    have hfault : s.1 65 2 = 0 := h.1.2.2.2.2.2.2.1
    have hlen := h.2.2.2.2.2.2.2.2.2.2
    have hs41 : s.1 65 6 = Int32.ofInt 41 ↔ τ.2.1 = 41 := by
      rw [h.1.2.2.1]
      exact tx_soS (c := 41) h.1.1 (by omega) (by omega)
    rw [b_208_35, if_neg hl, if_pos hfault, m_sign h.1, u_biS] at hr
    -- out of the loop
    have hout : ∀ (li : Nat → Int32), li 1 = 0 → (if f_hb O = true then f_wr τ else if f_k τ = 59 then some (.inr (τ, out ++ (f_cl 0 O).1, w)) else f_wr τ) = some R → u g_t208 35 (li, ll, [(0, 67)]) [] s = some r → mV ch n b0 R s r := fun li hl0 hR hr => by
      rw [b_208_35, if_pos hl0] at hr
      exact m_162 hT h hR hr
    have h99 : (if f_sg (f_k τ) ∧ ¬ (f_ti (f_k τ) = 4 ∧ f_hr O = true) then f_op (tx_A ch n) k true (tx_A ch n τ) (f_k τ :: (f_cl (f_ti (f_k τ)) O).2.1) (out ++ (f_cl (f_ti (f_k τ)) O).1) w (dp - (f_cl (f_ti (f_k τ)) O).2.2) else if f_hb O = true then f_wr τ else if f_k τ = 59 then some (.inr (τ, out ++ (f_cl 0 O).1, w)) else f_wr τ) = some R → ∀ x2 : Int32, x2 = zi (if f_sg τ.2.1 then fe τ.2.1 else 0) → u g_t208 99 ((u_l1 li 2 x2), ll, [(0, 67)]) [] s = some r → mV ch n b0 R s r := fun hR x2 hx2 hr => by
      rw [b_208_99, u_l1E, hx2] at hr
      by_cases hsg : f_sg τ.2.1
      · obtain ⟨v1, v2, v3⟩ := sg_fe hsg
        rw [if_pos hsg, if_neg v3, m_tight v1 v2, u_biS] at hr
        have h6 := f_ti6 τ.2.1
        have h118 : f_op (tx_A ch n) k true (tx_A ch n τ) (τ.2.1 :: (f_cl (f_ti τ.2.1) O).2.1) (out ++ (f_cl (f_ti τ.2.1) O).1) w (dp - (f_cl (f_ti τ.2.1) O).2.2) = some R → u g_t208 118 ((u_l1 li 2 (zi (fe τ.2.1))), ll, [(0, 67)]) [] s = some r → mV ch n b0 R s r := fun hR hr => by
          rw [b_208_118, u_l1E, m_tight v1 v2, u_biS] at hr
          cases hc : u_c 187 [.inr (.inr 67), .inl (zi (f_ti τ.2.1))] s with
          | none =>
            rw [hc] at hr
            cases hr
          | some rc =>
            obtain ⟨vc, sc⟩ := rc
            obtain ⟨a1, a2, a3, a4, a5, a6, a7⟩ := m_cl h6 hT h hc
            have a1 : vc = none := a1
            subst a1
            rw [hc, u_bvS] at hr
            by_cases hi : u_in (sc.1 65 19) 160 = true
            · rw [if_pos hi] at hr
              obtain ⟨s2, e1, e2, e3⟩ := m_opr hT h hsg a2 a3 a4 a5 a6 a7
              rw [e1, u_bvS, b_316] at hr
              cases hu : u g_t316 2 ((u_l1 u_z1 1 (Int32.ofInt 1)), u_z2, [(0, 67)]) [] s2 with
              | none =>
                rw [hu] at hr
                cases hr
              | some ru =>
                obtain ⟨vu, su⟩ := ru
                obtain ⟨g1, g2, g3⟩ := m_unit hT k _ _ _ _ _ _ _ _ _ _ e3 (by rw [u_l1E]; decide) hR hu
                have g1 : vu = none := g1
                subst g1
                rw [hu, u_bvS] at hr
                have g2 : u_fr tx_G s2 su := g2
                rcases g3 with ⟨τ2, x1, x2⟩ | ⟨k2, τ2, O2, out2, w2, dp2, x1, x2, x3⟩
                · have := m_end x2 hr
                  subst this
                  exact ⟨rfl, e2.tr g2, Or.inl ⟨τ2, x1, x2⟩⟩
                · exact mV_t (e2.tr g2) (ih k2 (by omega) τ2 O2 out2 w2 dp2 su _ ll r R x2 (by rw [u_l1N (by omega)]; exact hl) x3 hr)
            · rw [if_neg hi] at hr
              cases hr
        by_cases h4 : f_ti τ.2.1 = 4
        · rw [if_pos ((ti_eq h6).mpr h4)] at hr
          cases hm : u_c 218 [.inr (.inr 67)] s with
          | none =>
            rw [hm] at hr
            cases hr
          | some rm =>
            have hmr := m_hr h.2.2.1 (by omega) hm
            subst hmr
            rw [hm, u_biS] at hr
            cases hb : f_hr O with
            | false =>
              rw [hb, if_pos zb_no] at hr
              rw [if_pos ⟨hsg, fun q => by have := q.2; rw [hb] at this; cases this⟩] at hR
              exact h118 hR hr
            | true =>
              rw [hb, if_neg zb_yes] at hr
              rw [if_neg (fun q => q.2 ⟨h4, hb⟩)] at hR
              exact hout _ (u_l1E _ _ _) hR hr
        · rw [if_neg (fun q => h4 ((ti_eq h6).mp q))] at hr
          rw [if_pos ⟨hsg, fun q => h4 q.1⟩] at hR
          exact h118 hR hr
      · rw [if_neg (fun q => hsg q.1)] at hR
        rw [if_neg hsg, if_pos (show zi 0 = 0 from rfl)] at hr
        exact hout _ (u_l1E _ _ _) hR hr
    rw [f_op] at hR
    by_cases h41 : τ.2.1 = 41
    · rw [if_pos (hs41.mpr h41)] at hr
      cases hm : u_c 217 [.inr (.inr 67)] s with
      | none =>
        rw [hm] at hr
        cases hr
      | some rm =>
        have hmb := m_hb h.2.2.1 (by omega) hm
        subst hmb
        rw [hm, u_biS] at hr
        cases hb : f_hb O with
        | false =>
          rw [hb, if_pos zb_no] at hr
          rw [if_neg (fun q => by have := q.2; rw [hb] at this; cases this)] at hR
          exact h99 hR _ rfl hr
        | true =>
          rw [if_pos ⟨h41, hb⟩] at hR
          rw [hb, if_neg zb_yes] at hr
          cases hc : u_c 187 [.inr (.inr 67), .inl (zi 0)] s with
          | none =>
            rw [show Int32.ofInt 0 = zi 0 from rfl, hc] at hr
            cases hr
          | some rc =>
            obtain ⟨vc, sc⟩ := rc
            obtain ⟨a1, a2, a3, a4, a5, a6, a7⟩ := m_cl (m := 0) (by omega) hT h hc
            have a1 : vc = none := a1
            subst a1
            obtain ⟨t, ht⟩ := cl_hb O hb
            have a5 : mO (40 :: t) sc := by
              rw [← ht]
              exact a5
            rw [show Int32.ofInt 0 = zi 0 from rfl, hc, u_bvS] at hr
            obtain ⟨s2, e1, e2, e3⟩ := m_brk (c := 0) hT h h41 ht a2 a3 a4 a5 a6 a7
            rw [e1, u_bvS] at hr
            rw [ht] at hR
            exact mV_t e2 (ih k (by omega) _ _ _ _ _ _ _ ll r R e3 (by rw [u_l1N (by omega)]; exact hl) hR hr)
    · rw [if_neg (fun q => h41 (hs41.mp q))] at hr
      rw [if_neg (fun q => h41 q.1)] at hR
      exact h99 hR _ rfl hr
end MH
