/-! a line's end; a number behind its word -/
section SEMI
variable {ch : Nat → Int32} {n W : Nat} {sC sM : u_H}
theorem p_semi (hT : tx_T ch n) (hJ : jJ ch n W sC sM) : ∃ sC2 sM2, u_c 106 [.inr (.inr 29), .inl (Int32.ofInt 59)] sC = some (none, sC2) ∧ (∀ li ll, u g_t282 236 (li, ll, [(0, 67)]) [] sM = some (none, sM2)) ∧ p_OK ch n W sC sM sC2 sM2 ∧ (sM2.1 65 2 = 0 → sM.1 65 2 = 0) := by
  obtain ⟨sCw, sMw, fw, qw, ew1, ew2, ew3, ew4, ew5, ew6⟩ := p_wrong hJ hT (x := 2) (by omega) (by omega)
  have z2 : (Int32.ofInt 2) = zi 2 := rfl
  have hJ2 := hJ
  obtain ⟨hj, h | h⟩ := hJ2
  · obtain ⟨τ, h⟩ := h
    have h' := h
    obtain ⟨hV, ⟨c1, c2, c3, c4, c5, c6⟩, m1, m2, m3, m4, m5, m6, m7⟩ := h'
    have hV5 := hV.2.2.2.2.1
    have hm : sM.1 65 6 = Int32.ofInt 59 ↔ τ.2.1 = 59 := by
      rw [m2]
      exact tx_soS (c := 59) hV (by omega) (by omega)
    have hc : sC.1 27 4 = Int32.ofInt 59 ↔ τ.2.1 = 59 := by
      rw [c2]
      exact zk_iff (b := 59) (by omega) (by omega)
    by_cases hk : τ.2.1 = 59
    · obtain ⟨x1, x2, x3⟩ := c3 (by omega)
      obtain ⟨sC2, sM2, e1, e2, e3, e4, e5, e6⟩ := p_next hT hj h (by omega)
      refine ⟨sC2, sM2, ?_, fun li ll => ?_, ⟨p_nJ e3 e4, e5, e6⟩, fun _ => m6⟩
      · rw [b_106, if_pos x2, if_pos (hc.mpr hk), e1, u_bvS]
      · rw [b_282_236, if_pos m6, if_pos (hm.mpr hk), if_pos m6, e2, u_bvS]
    · have hMw : ∀ li ll, u g_t282 236 (li, ll, [(0, 67)]) [] sM = some (none, sMw) := fun li ll => by
        rw [b_282_236, if_pos m6, if_neg (fun e => hk (hm.mp e)), z2, ew2, u_bvS, if_neg (jC_ne ew4)]
      by_cases hb : τ.2.1 = 276
      · obtain ⟨y1, y2⟩ := c6 hb
        obtain ⟨t1, t2, t3⟩ := hj
        have e9 : u_c 324 [.inr (.inr 67), .inl (zi 2)] sM = some (none, (y_u (y_u sM.1 65 2 (Int32.ofInt 1)) 65 3 (sM.1 65 7), sM.2)) := by
          rw [b_324, m6, if_neg z_lt00, m2, hb, if_pos (show tx_so 276 = Int32.ofInt 3 from rfl)]
        rw [ew2] at e9
        refine ⟨sC, sMw, ?_, hMw, ⟨p_wJ (f := 1) (q := τ.1) ⟨t1, ew3.2.1, t3⟩ ⟨by omega, by omega, ?_, ?_, y2, ?_, ?_, ?_⟩, u_fr.rf, ew6⟩, fun _ => m6⟩
        · rw [b_106, y1, if_neg (by decide)]
        · have := hV.1
          have := hT.1
          omega
        · exact y1
        · rw [c2, hb]
        · cases e9
          simp [y_u]
          rfl
        · cases e9
          simp [y_u, m1]
      · obtain ⟨x1, x2, x3⟩ := c3 hb
        refine ⟨sCw, sMw, ?_, hMw, ⟨p_wJ ew3 ew4, ew5, ew6⟩, fun _ => m6⟩
        rw [b_106, if_pos x2, if_neg (fun e => hk (hc.mp e)), z2, ew1, u_bvS]
  · obtain ⟨f, q, h⟩ := h
    have h' := h
    obtain ⟨f1, f5, hq, k1, k2, k3, k4, k5⟩ := h'
    refine ⟨sC, sM, ?_, fun li ll => ?_, ⟨p_wJ hj h, u_fr.rf, u_fr.rf⟩, fun e => e⟩
    · rw [b_106, k1, if_neg (zf_ne f1 f5)]
    · rw [b_282_236, if_neg (jC_ne h), if_neg (jC_ne h)]
theorem p_told (hT : tx_T ch n) (hj : jT ch n W sC sM) {τ : f_T} (h : jN ch n τ sC sM) {i N : Nat} {w : List Nat} (hi : tx_words[i]? = some w) (hN : tx_nW w = N) (hk : τ.2.1 = 256 + i) (hi7 : i < 7) {lo hi2 : Nat} (hlo : lo ≤ 10000) (hhi : hi2 ≤ 10000) : ∃ vC vM s1 s2 sM2, u_c 105 [.inr (.inr 29)] sC = some (none, s1) ∧ s1.2.2.2.2.1 = W ∧ u_c 118 [.inr (.inr 29), .inl (zi lo), .inl (zi hi2)] s1 = some (some (.inl vC), s2) ∧ u_c 310 [.inr (.inr 67), .inr (.inl (u_k6 N)), .inl (zi lo), .inl (zi hi2)] sM = some (some (.inl vM), sM2) ∧ p_OK ch n W sC sM s2 sM2 ∧ (sM2.1 65 2 = 0 → ∃ x, lo ≤ x ∧ x ≤ hi2 ∧ vC = zi x ∧ vM = zi x) := by
  have hm6 := h.2.2.2.2.2.2.2.1
  obtain ⟨s1, sM1, e1, e2, e3, e4, e5, e6⟩ := p_next hT hj h (by omega)
  have h318 : u_c 318 [.inr (.inr 67), .inr (.inl (u_k6 N))] sM = some (none, sM1) := by
    rw [b_318, hm6, if_neg z_lt00, m_isw h hi hN, u_biS, decide_eq_true hk, if_neg zb_yes, e2, u_bvS]
  obtain ⟨vC, vM, s2, sM2, g1, g2, ⟨g3, g4, g5⟩, g6⟩ := p_number hT (p_nJ e3 e4) hlo hhi
  refine ⟨vC, vM, s1, s2, sM2, e1, e3.2.2, g1, ?_, ⟨g3, e5.tr g4, e6.tr g5⟩, fun q => ?_⟩
  · rw [b_310, h318, u_bvS, g2, u_biS]
  · obtain ⟨τ2, y1, y2, y3, y4, y5, y6, y7⟩ := g6 q
    exact ⟨_, y3, y4, y5, y6⟩
end SEMI
section STAGE
variable {ch : Nat → Int32} {n W : Nat} {sC sM : u_H} {τ : f_T}
theorem m_w0 (h : jN ch n τ sC sM) : u_c 238 [.inr (.inr 67), .inr (.inl (u_k6 1936222576))] sM = some (some (.inl (zb (decide (τ.2.1 = 256 + 0)))), sM) := m_isw h (i := 0) rfl rfl
theorem m_w1 (h : jN ch n τ sC sM) : u_c 238 [.inr (.inr 67), .inr (.inl (u_k6 1885432178))] sM = some (some (.inl (zb (decide (τ.2.1 = 256 + 1)))), sM) := m_isw h (i := 1) rfl rfl
theorem m_w2 (h : jN ch n τ sC sM) : u_c 238 [.inr (.inr 67), .inr (.inl (u_k6 491260570739))] sM = some (some (.inl (zb (decide (τ.2.1 = 256 + 2)))), sM) := m_isw h (i := 2) rfl rfl
theorem m_w3 (h : jN ch n τ sC sM) : u_c 238 [.inr (.inr 67), .inr (.inl (u_k6 465491424371))] sM = some (some (.inl (zb (decide (τ.2.1 = 256 + 3)))), sM) := m_isw h (i := 3) rfl rfl
theorem m_w4 (h : jN ch n τ sC sM) : u_c 238 [.inr (.inr 67), .inr (.inl (u_k6 8175547842734419059))] sM = some (some (.inl (zb (decide (τ.2.1 = 256 + 4)))), sM) := m_isw h (i := 4) rfl rfl
theorem m_w5 (h : jN ch n τ sC sM) : u_c 238 [.inr (.inr 67), .inr (.inl (u_k6 1685217655))] sM = some (some (.inl (zb (decide (τ.2.1 = 256 + 5)))), sM) := m_isw h (i := 5) rfl rfl
theorem m_w6 (h : jN ch n τ sC sM) : u_c 238 [.inr (.inr 67), .inr (.inl (u_k6 109356099333997))] sM = some (some (.inl (zb (decide (τ.2.1 = 256 + 6)))), sM) := m_isw h (i := 6) rfl rfl
theorem m_191W (h : jN ch n τ sC sM) (hn : τ.2.1 = 256 + 5 → ¬ sM.1 65 56 = 0) {li : Nat → Int32} {ll : Nat → Int64} : u g_t282 191 (li, ll, [(0, 67)]) [] sM = u_bv (u_c 324 [.inr (.inr 67), .inl (zi 2)] sM) fun s3 => u g_t282 236 (li, ll, [(0, 67)]) [] s3 := by
  rw [b_282_191, m_w5 h, u_biS]
  by_cases hk : τ.2.1 = 256 + 5
  · rw [decide_eq_true hk, if_neg zb_yes, if_neg (hn hk)]
    rfl
  · rw [decide_eq_false hk, if_pos zb_no]
    rfl
theorem m_191H (h : jN ch n τ sC sM) (hk : τ.2.1 = 256 + 5) (hz : sM.1 65 56 = 0) {li : Nat → Int32} {ll : Nat → Int64} {v : Int32} {s3 : u_H} (e : u_c 310 [.inr (.inr 67), .inr (.inl (u_k6 1685217655)), .inl (zi 0), .inl (zi 999)] (y_u sM.1 65 56 (Int32.ofInt 1), sM.2) = some (some (.inl v), s3)) : u g_t282 191 (li, ll, [(0, 67)]) [] sM = u g_t282 236 (li, ll, [(0, 67)]) [] (y_u s3.1 65 46 v, s3.2) := by
  rw [b_282_191, m_w5 h, u_biS, decide_eq_true hk, if_neg zb_yes, if_pos hz, show (Int32.ofInt 0) = zi 0 from rfl, show u_k 999 = zi 999 from u_kz 999, e, u_biS]
theorem m_152N (h : jN ch n τ sC sM) (hn : τ.2.1 = 256 + 4 → ¬ sM.1 65 55 = 0) {li : Nat → Int32} {ll : Nat → Int64} : u g_t282 152 (li, ll, [(0, 67)]) [] sM = u g_t282 191 (li, ll, [(0, 67)]) [] sM := by
  rw [b_282_152, m_w4 h, u_biS]
  by_cases hk : τ.2.1 = 256 + 4
  · rw [decide_eq_true hk, if_neg zb_yes, if_neg (hn hk)]
  · rw [decide_eq_false hk, if_pos zb_no]
theorem m_152H (h : jN ch n τ sC sM) (hk : τ.2.1 = 256 + 4) (hz : sM.1 65 55 = 0) {li : Nat → Int32} {ll : Nat → Int64} {v : Int32} {s3 : u_H} (e : u_c 310 [.inr (.inr 67), .inr (.inl (u_k6 8175547842734419059)), .inl (zi 0), .inl (zi 100)] (y_u sM.1 65 55 (Int32.ofInt 1), sM.2) = some (some (.inl v), s3)) : u g_t282 152 (li, ll, [(0, 67)]) [] sM = u g_t282 236 (li, ll, [(0, 67)]) [] (y_u s3.1 65 45 v, s3.2) := by
  rw [b_282_152, m_w4 h, u_biS, decide_eq_true hk, if_neg zb_yes, if_pos hz, show (Int32.ofInt 0) = zi 0 from rfl, show (Int32.ofInt 100) = zi 100 from rfl, e, u_biS]
theorem m_90N (h : jN ch n τ sC sM) (hn : τ.2.1 = 256 + 2 → ¬ sM.1 65 54 = 0) (hn3 : τ.2.1 = 256 + 3 → ¬ sM.1 65 24 = 0) {li : Nat → Int32} {ll : Nat → Int64} : u g_t282 90 (li, ll, [(0, 67)]) [] sM = u g_t282 152 (li, ll, [(0, 67)]) [] sM := by
  rw [b_282_90, m_w2 h, u_biS]
  by_cases hk : τ.2.1 = 256 + 2
  · rw [decide_eq_true hk, if_neg zb_yes, if_neg (hn hk), m_w3 h, u_biS, decide_eq_false (by omega), if_pos zb_no]
  · rw [decide_eq_false hk, if_pos zb_no, m_w3 h, u_biS]
    by_cases hk3 : τ.2.1 = 256 + 3
    · rw [decide_eq_true hk3, if_neg zb_yes, if_neg (hn3 hk3)]
    · rw [decide_eq_false hk3, if_pos zb_no]
theorem m_90H (h : jN ch n τ sC sM) (hk : τ.2.1 = 256 + 2) (hz : sM.1 65 54 = 0) {li : Nat → Int32} {ll : Nat → Int64} {v : Int32} {s3 : u_H} (e : u_c 310 [.inr (.inr 67), .inr (.inl (u_k6 491260570739)), .inl (zi 1), .inl (zi 2)] (y_u sM.1 65 54 (Int32.ofInt 1), sM.2) = some (some (.inl v), s3)) : u g_t282 90 (li, ll, [(0, 67)]) [] sM = u g_t282 236 (li, ll, [(0, 67)]) [] (y_u s3.1 65 44 v, s3.2) := by
  have z1 : (Int32.ofInt 1) = zi 1 := rfl
  rw [b_282_90, m_w2 h, u_biS, decide_eq_true hk, if_neg zb_yes, if_pos hz, show (u_c 310 [.inr (.inr 67), .inr (.inl (u_k6 491260570739)), .inl (Int32.ofInt 1), .inl (Int32.ofInt 2)] (y_u sM.1 65 54 (Int32.ofInt 1), sM.2)) = some (some (.inl v), s3) from e, u_biS]
theorem m_90F (h : jN ch n τ sC sM) (hk : τ.2.1 = 256 + 3) (hz : sM.1 65 24 = 0) {li : Nat → Int32} {ll : Nat → Int64} : u g_t282 90 (li, ll, [(0, 67)]) [] sM = u_bv (u_c 208 [.inr (.inr 67)] sM) fun s5 => u g_t282 236 (li, ll, [(0, 67)]) [] s5 := by
  rw [b_282_90, m_w2 h, u_biS, decide_eq_false (by omega), if_pos zb_no, m_w3 h, u_biS, decide_eq_true hk, if_neg zb_yes, if_pos hz]
theorem m_51N (h : jN ch n τ sC sM) (hn : τ.2.1 = 256 + 6 → ¬ sM.1 65 53 = 0) {li : Nat → Int32} {ll : Nat → Int64} : u g_t282 51 (li, ll, [(0, 67)]) [] sM = u g_t282 90 (li, ll, [(0, 67)]) [] sM := by
  rw [b_282_51, m_w6 h, u_biS]
  by_cases hk : τ.2.1 = 256 + 6
  · rw [decide_eq_true hk, if_neg zb_yes, if_neg (hn hk)]
  · rw [decide_eq_false hk, if_pos zb_no]
theorem m_51H (h : jN ch n τ sC sM) (hk : τ.2.1 = 256 + 6) (hz : sM.1 65 53 = 0) {li : Nat → Int32} {ll : Nat → Int64} {v : Int32} {s3 : u_H} (e : u_c 310 [.inr (.inr 67), .inr (.inl (u_k6 109356099333997)), .inl (zi 1), .inl (zi 60)] (y_u sM.1 65 53 (Int32.ofInt 1), sM.2) = some (some (.inl v), s3)) : u g_t282 51 (li, ll, [(0, 67)]) [] sM = u g_t282 236 (li, ll, [(0, 67)]) [] (y_u s3.1 65 43 v, s3.2) := by
  rw [b_282_51, m_w6 h, u_biS, decide_eq_true hk, if_neg zb_yes, if_pos hz, show (u_c 310 [.inr (.inr 67), .inr (.inl (u_k6 109356099333997)), .inl (Int32.ofInt 1), .inl (Int32.ofInt 60)] (y_u sM.1 65 53 (Int32.ofInt 1), sM.2)) = some (some (.inl v), s3) from e, u_biS]
theorem m_0N (h : jN ch n τ sC sM) (hn0 : τ.2.1 = 256 + 0 → ¬ sM.1 65 41 < Int32.ofInt 5) (hn1 : τ.2.1 = 256 + 1 → ¬ sM.1 65 42 < Int32.ofInt 7) : u_c 282 [.inr (.inr 67)] sM = u g_t282 51 (u_z1, u_z2, [(0, 67)]) [] sM := by
  rw [b_282, m_w0 h, u_biS]
  by_cases hk : τ.2.1 = 256 + 0
  · rw [decide_eq_true hk, if_neg zb_yes, if_neg (hn0 hk), m_w1 h, u_biS, decide_eq_false (by omega), if_pos zb_no]
  · rw [decide_eq_false hk, if_pos zb_no, m_w1 h, u_biS]
    by_cases hk1 : τ.2.1 = 256 + 1
    · rw [decide_eq_true hk1, if_neg zb_yes, if_neg (hn1 hk1)]
    · rw [decide_eq_false hk1, if_pos zb_no]
theorem m_0S (h : jN ch n τ sC sM) (hk : τ.2.1 = 256 + 0) (hz : sM.1 65 41 < Int32.ofInt 5) : u_c 282 [.inr (.inr 67)] sM = u_bv (u_c 284 [.inr (.inr 67)] sM) fun s6 => u g_t282 236 (u_z1, u_z2, [(0, 67)]) [] s6 := by
  rw [b_282, m_w0 h, u_biS, decide_eq_true hk, if_neg zb_yes, if_pos hz]
theorem m_0P (h : jN ch n τ sC sM) (hk : τ.2.1 = 256 + 1) (hz : sM.1 65 42 < Int32.ofInt 7) : u_c 282 [.inr (.inr 67)] sM = u_bv (u_c 283 [.inr (.inr 67)] sM) fun s6 => u g_t282 236 (u_z1, u_z2, [(0, 67)]) [] s6 := by
  rw [b_282, m_w0 h, u_biS, decide_eq_false (by omega), if_pos zb_no, m_w1 h, u_biS, decide_eq_true hk, if_neg zb_yes, if_pos hz]
end STAGE
