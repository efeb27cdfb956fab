/-! BOTH READERS OVER THE WHOLE TEXT -/
section READ
variable {ch : Nat → Int32} {n W : Nat} {sC sM : u_H}
theorem p_first (hT : tx_T ch n) (hJ : jT ch n W sC sM) (c1 : sC.1 27 2 = zi 0) (c8 : sC.1 27 8 = 0) (c9 : sC.1 27 9 = u_k (-1)) (m4 : sM.1 65 4 = zi 0) (m2 : sM.1 65 2 = 0) (m3 : sM.1 65 3 = u_k (-1)) : ∃ sC2 sM2, u_c 105 [.inr (.inr 29)] sC = some (none, sC2) ∧ u_c 309 [.inr (.inr 67)] sM = some (none, sM2) ∧ jT ch n W sC2 sM2 ∧ jN ch n (tx_tk ch n 0) sC2 sM2 ∧ u_fr tx_C sC sC2 ∧ u_fr tx_M sM sM2 := by
  obtain ⟨sC2, eC, kC⟩ := c_advance hT hJ.1 c1 (Nat.zero_le _) c8
  obtain ⟨sM2, eM, kM⟩ := m_token hT hJ.2.1 m4 (Nat.zero_le _)
  obtain ⟨a1, a2, a3, a4, a5, a6, a7, a8⟩ := kC
  obtain ⟨b1, b2, b3, b4, b5, b6⟩ := kM
  have frC : u_fr tx_C sC sC2 := a7
  have frM : u_fr tx_M sM sM2 := b6.mono (fun o k q => ⟨q.1, by have := q.2; omega⟩)
  refine ⟨sC2, sM2, eC, eM, jT_fr2 hJ frC frM, ⟨tx_Vat hT (tx_q_le (Nat.zero_le _)), ⟨a1, a2, fun h => ?_, a4, a5, a6⟩, b1, b2, b3, b4, b5, ?_, ?_⟩, frC, frM⟩
  · obtain ⟨x1, x2, x3⟩ := a3 h
    exact ⟨x1, x2, x3.trans c9⟩
  · rw [b6.i (fun q => by have := q.2; omega)]
    exact m2
  · rw [b6.i (fun q => by have := q.2; omega)]
    exact m3
theorem tx_so0 {τ : f_T} (hV : tx_V ch n τ) : tx_so τ.2.1 = 0 ↔ τ.2.1 = 275 := by
  unfold tx_so
  by_cases h1 : τ.2.1 = 275
  · rw [if_pos h1]
    exact ⟨fun _ => h1, fun _ => rfl⟩
  · rw [if_neg h1]
    refine ⟨fun e => absurd e ?_, fun e => absurd e h1⟩
    by_cases h2 : τ.2.1 = 274
    · rw [if_pos h2]
      decide
    · rw [if_neg h2]
      by_cases h4 : τ.2.1 = 276
      · rw [if_pos h4]
        decide
      · rw [if_neg h4]
        by_cases h3 : 256 ≤ τ.2.1
        · rw [if_pos h3]
          decide
        · rw [if_neg h3]
          have hsg := hV.2.2.2.2.2.2.2.2 (by omega)
          intro e
          have := (zi_inj (a := τ.2.1) (b := 0) (by omega) (by omega)).mp e
          omega
/-- how reading ends -/
def pE (W : Nat) (v : Int32) (sC sM : u_H) : Prop := (∃ f q, v = Int32.ofInt 0 ∧ jC f q sC sM) ∨ (v = Int32.ofInt 1 ∧ sC.1 27 8 = 0 ∧ sC.1 27 9 = u_k (-1) ∧ sM.1 65 2 = 0 ∧ sM.1 65 3 = u_k (-1) ∧ ∃ a b m, jD W a b m sC sM)
theorem p_loop (hW : W = 5 ∨ W = 17) (hT : tx_T ch n) : ∀ (f N : Nat) (sC sM : u_H) (li : Nat → Int32) (ll : Nat → Int64) (r : Option (q_V Int32) × u_H), N + f = 18 → li 2 = zi N → jJ ch n W sC sM → (sM.1 65 2 = 0 → ∃ a b m, a + b + fc m = N ∧ jD W a b m sC sM) → u g_t281 93 (u_z1, u_z2, [(0, 67)]) [] sM = some r → ∃ v sC2, u g_t115 38 (li, ll, [(1, W), (0, 29)]) [] sC = some (some (.inl v), sC2) ∧ r.1 = none ∧ jT ch n W sC2 r.2 ∧ u_fr (fCL W) sC sC2 ∧ u_fr fML sM r.2 ∧ pE W v sC2 r.2 := by
  have hstop : ∀ (N : Nat) (li : Nat → Int32) (ll : Nat → Int64) (sC : u_H), ¬ sC.1 27 8 = 0 → u g_t115 38 (li, ll, [(1, W), (0, 29)]) [] sC = some (some (.inl (Int32.ofInt 0)), sC) := by
    intro N li ll sC h
    rw [b_115_38 hW]
    by_cases q : li 2 < u_k 1600
    · rw [if_pos q, if_neg h, if_neg h]
    · rw [if_neg q, if_neg h]
  intro f
  induction f with
  | zero =>
    intro N sC sM li ll r hN hl hJ hD hr
    obtain ⟨hj, h | ⟨f, q, h⟩⟩ := hJ
    · obtain ⟨τ, h⟩ := h
      obtain ⟨a, b, m, x1, ⟨NS, NP, x2, x3⟩, x4, x5⟩ := hD h.2.2.2.2.2.2.2.1
      have := x2.1
      have := x3.1
      have := fc_all ⟨m, x4.1⟩
      have : fc m ≤ 5 := this
      omega
    · rw [b_281_93, if_neg (jC_ne h)] at hr
      cases hr
      exact ⟨_, sC, hstop N li ll sC (by rw [h.2.2.2.1]; exact zf_ne h.1 h.2.1), rfl, hj, u_fr.rf, u_fr.rf, Or.inl ⟨f, q, rfl, h⟩⟩
  | succ f ih =>
    intro N sC sM li ll r hN hl hJ hD hr
    obtain ⟨hj, h | ⟨f, q, h⟩⟩ := hJ
    rotate_left
    · rw [b_281_93, if_neg (jC_ne h)] at hr
      cases hr
      exact ⟨_, sC, hstop N li ll sC (by rw [h.2.2.2.1]; exact zf_ne h.1 h.2.1), rfl, hj, u_fr.rf, u_fr.rf, Or.inl ⟨f, q, rfl, h⟩⟩
    obtain ⟨τ, h⟩ := h
    have h' := h
    obtain ⟨hV, ⟨c1, c2, c3, c4, c5, c6⟩, m1, m2, m3, m4, m5, m6, m7⟩ := h'
    have hV5 := hV.2.2.2.2.1
    obtain ⟨a, b, m, x1, x2⟩ := hD m6
    have hs0 : sM.1 65 6 = 0 ↔ τ.2.1 = 275 := by
      rw [m2]
      exact tx_so0 hV
    have hlt : li 2 < u_k 1600 := by
      rw [hl, show u_k 1600 = zi 1600 from u_kz 1600, zi_lt (by omega) (by omega)]
      omega
    rw [b_281_93, if_pos m6] at hr
    by_cases k5 : τ.2.1 = 275
    · rw [if_pos (hs0.mpr k5)] at hr
      cases hr
      obtain ⟨y1, y2, y3⟩ := c3 (by omega)
      refine ⟨Int32.ofInt 1, sC, ?_, rfl, hj, u_fr.rf, u_fr.rf, Or.inr ⟨rfl, y2, y3, m6, m7, a, b, m, x2⟩⟩
      rw [b_115_38 hW, if_pos hlt, if_pos y2, if_pos (by rw [c2, k5]; exact (u_kz 275).symm), if_pos y2]
    rw [if_neg (fun q => k5 (hs0.mp q))] at hr
    by_cases k6 : τ.2.1 = 276
    · obtain ⟨sM2, e1, e2, e3, e4⟩ := p_lineX hT hj h k6 x2
      rw [e1, u_bvS, b_281_93, if_neg (jC_ne e3)] at hr
      cases hr
      exact ⟨_, sC, hstop N li ll sC (by rw [(c6 k6).1]; decide), rfl, e2, u_fr.rf, e4.mono (fun o k q => fM_L q), Or.inl ⟨1, τ.1, rfl, e3⟩⟩
    obtain ⟨y1, y2, y3⟩ := c3 k6
    cases hu : u_c 282 [.inr (.inr 67)] sM with
    | none =>
      rw [hu] at hr
      cases hr
    | some ru =>
      obtain ⟨vu, su⟩ := ru
      obtain ⟨s2, z1, z2, z3, z4, z5, z6⟩ := p_line hW hT hj h x2 hu
      have z2 : vu = none := z2
      subst z2
      rw [hu, u_bvS] at hr
      have hl2 : u_l1 li 2 (li 2 + Int32.ofInt 1) 2 = zi (N + 1) := by
        rw [u_l1E, hl, zi_one]
      obtain ⟨v, s3, w1, w2, w3, w4, w5, w6⟩ := ih (N + 1) s2 su (u_l1 li 2 (li 2 + Int32.ofInt 1)) ll r (by omega) hl2 z3 (fun q => by obtain ⟨a2, b2, m2, q1, q2⟩ := z6 q; exact ⟨a2, b2, m2, by omega, q2⟩) hr
      refine ⟨v, s3, ?_, w2, w3, z4.tr w4, z5.tr w5, w6⟩
      rw [b_115_38 hW, if_pos hlt, if_pos y2, if_neg (by rw [c2, show u_k 275 = zi 275 from u_kz 275]; exact z_ne (by omega) (by omega) k5), z1, u_bvS]
      exact w1
/-- the start -/
noncomputable def mI (s : u_H) : u_H := (y_u (y_u (y_u (y_u (y_u (y_u (y_u (y_u (y_u (y_u (y_u (y_u (y_u (y_u (y_u (y_u (y_u s.1 65 5 (s.1 65 1)) 65 1 (Int32.ofInt 0)) 65 4 (Int32.ofInt 0)) 65 2 (Int32.ofInt 0)) 65 3 (u_k (-1))) 65 41 (Int32.ofInt 0)) 65 42 (Int32.ofInt 0)) 65 43 (Int32.ofInt 11)) 65 44 (Int32.ofInt 1)) 65 45 (Int32.ofInt 0)) 65 46 (Int32.ofInt 0)) 65 53 (Int32.ofInt 0)) 65 54 (Int32.ofInt 0)) 65 55 (Int32.ofInt 0)) 65 56 (Int32.ofInt 0)) 65 24 (Int32.ofInt 0)) 65 20 (Int32.ofInt 0), s.2)
noncomputable def cI (W : Nat) (s : u_H) : u_H := (y_u (y_u (y_u (y_u (y_u (y_u (y_u (y_u (y_u (y_u (y_u (y_u s.1 (W - 2) 0 (Int32.ofInt 0)) (W - 2) 4 (Int32.ofInt 0)) (W - 2) 9 (Int32.ofInt 11)) (W - 2) 10 (Int32.ofInt 1)) (W - 2) 11 (Int32.ofInt 0)) (W - 2) 12 (Int32.ofInt 0)) (W + 6) 3 (Int32.ofInt 0)) (W + 6) 4 (Int32.ofInt 0)) 27 2 (Int32.ofInt 0)) 27 7 (Int32.ofInt 0)) 27 8 (Int32.ofInt 0)) 27 9 (u_k (-1)), s.2.1, (s.2.2.1, s.2.2.2.1, W, s.2.2.2.2.2))
theorem m_281 (s : u_H) : u_c 281 [.inr (.inr 67)] s = u_bv (u_c 309 [.inr (.inr 67)] (mI s)) fun s1 => u g_t281 93 (u_z1, u_z2, [(0, 67)]) [] s1 := b_281 s
theorem c_115 (hW : W = 5 ∨ W = 17) (s : u_H) : u_c 115 [.inr (.inr 29), .inr (.inr W)] s = u_bv (u_c 105 [.inr (.inr 29)] (cI W s)) fun s2 => u g_t115 38 (u_l1 u_z1 2 (Int32.ofInt 0), u_z2, [(1, W), (0, 29)]) [] s2 := by
  rw [b_115 hW, b_154 hW, u_bvS]
  rfl
def fMR (o k : Nat) : Prop := fML o k ∨ (o = 65 ∧ (k = 1 ∨ k = 5))
/-- the class's state, at its Told -/
abbrev cS (W : Nat) (s : u_H) : u_H := (s.1, s.2.1, (s.2.2.1, s.2.2.2.1, W, s.2.2.2.2.2))
theorem cI_fr (hW : W = 5 ∨ W = 17) (s : u_H) : u_fr (fCL W) (cS W s) (cI W s) := by
  have h1 : ∀ k, 2 ≤ k → fCL W 27 k := fun k h => Or.inl ⟨rfl, h⟩
  have h2 : ∀ o k, W - 2 ≤ o → o ≤ W + 7 → fCL W o k := fun o k a b => Or.inr ⟨a, b⟩
  unfold cI
  iterate 4 refine u_fr.wi ?_ (h1 _ (by omega))
  iterate 8 refine u_fr.wi ?_ (h2 _ _ (by omega) (by omega))
  exact u_fr.rf
theorem mI_fr (s : u_H) : u_fr fMR s (mI s) := by
  unfold mI
  iterate 17 refine u_fr.wi ?_ (by unfold fMR fML; omega)
  exact u_fr.rf
theorem p_read (hW : W = 5 ∨ W = 17) (hT : tx_T ch n) (hC : tC ch n sC) (hM1 : sM.1 65 1 = zi n) (hM6 : ∀ k, k < n → sM.1 66 k = ch k) {r : Option (q_V Int32) × u_H} (hr : u_c 281 [.inr (.inr 67)] sM = some r) : ∃ v sC2, u_c 115 [.inr (.inr 29), .inr (.inr W)] sC = some (some (.inl v), sC2) ∧ r.1 = none ∧ jT ch n W sC2 r.2 ∧ u_fr (fCL W) (cS W sC) sC2 ∧ u_fr fMR sM r.2 ∧ r.2.1 65 1 = 0 ∧ pE W v sC2 r.2 := by
  have fc := cI_fr hW sC
  have fm := mI_fr sM
  have hj : jT ch n W (cI W sC) (mI sM) := by
    refine ⟨tC_fr (s := cS W sC) ⟨hC.1, hC.2⟩ fc ?_ (fun k => ?_), ⟨?_, fun k hk => ?_⟩, rfl⟩
    · unfold fCL
      omega
    · unfold fCL
      omega
    · exact hM1
    · rw [fm.i (by unfold fMR fML; omega)]
      exact hM6 k hk
  have hD : jD W 0 0 0 (cI W sC) (mI sM) := by
    refine ⟨⟨fun _ => [], fun _ => [], ⟨by omega, ?_, rfl, (fun k hk => absurd hk (by omega)), (fun k hk => absurd hk (by omega)), (fun j k hk => absurd hk (by omega)), (fun k hk => absurd hk (by omega))⟩, ⟨by omega, ?_, rfl, (fun k hk => absurd hk (by omega)), (fun k hk => absurd hk (by omega)), (fun k hk => absurd hk (by omega))⟩⟩, ⟨by omega, ?_, fun j hj => ?_⟩, fun j hj hj1 => ?_, Or.inl ⟨rfl, ⟨?_, ?_, (fun k x hk => by cases hk)⟩, rfl⟩⟩
    · rcases hW with rfl | rfl <;> rfl
    · rcases hW with rfl | rfl <;> rfl
    · rcases hW with rfl | rfl <;> rfl
    · rcases (show j = 0 ∨ j = 1 ∨ j = 2 ∨ j = 3 ∨ j = 4 by omega) with rfl | rfl | rfl | rfl | rfl <;> rfl
    · rcases (show j = 0 ∨ j = 2 ∨ j = 3 ∨ j = 4 by omega) with rfl | rfl | rfl | rfl
      · exact ⟨1, by decide, by decide, by rcases hW with rfl | rfl <;> rfl, rfl⟩
      · exact ⟨0, by decide, by decide, by rcases hW with rfl | rfl <;> rfl, rfl⟩
      · exact ⟨0, by decide, by decide, by rcases hW with rfl | rfl <;> rfl, rfl⟩
      · exact ⟨11, by decide, by decide, by rcases hW with rfl | rfl <;> rfl, rfl⟩
    · rcases hW with rfl | rfl <;> rfl
    · rcases hW with rfl | rfl <;> rfl
  have c2 : (cI W sC).1 27 2 = zi 0 := by rcases hW with rfl | rfl <;> rfl
  have c8 : (cI W sC).1 27 8 = 0 := by rcases hW with rfl | rfl <;> rfl
  have c9 : (cI W sC).1 27 9 = u_k (-1) := by rcases hW with rfl | rfl <;> rfl
  obtain ⟨s1, t1, e1, e2, e3, e4, e5, e6⟩ := p_first hT hj c2 c8 c9 rfl rfl rfl
  rw [m_281, e2, u_bvS] at hr
  obtain ⟨v, s2, w1, w2, w3, w4, w5, w6⟩ := p_loop hW hT 18 0 s1 t1 (u_l1 u_z1 2 (Int32.ofInt 0)) u_z2 r rfl (u_l1E ..) (p_nJ e3 e4) (fun _ => ⟨0, 0, 0, rfl, jD_t hW hD e5 e6⟩) hr
  refine ⟨v, s2, ?_, w2, w3, (fc.tr (e5.mono (fun o k q => fC_L hW q))).tr w4, (fm.tr (e6.mono (fun o k q => Or.inl (fM_L q)))).tr (w5.mono (fun o k q => Or.inl q)), ?_, w6⟩
  · rw [c_115 hW, e1, u_bvS]
    exact w1
  · rw [w5.i (by unfold fML; omega), e6.i (fun q => by have := tx_Ma q; omega)]
    rfl
end READ
