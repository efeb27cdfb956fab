/-! a line with a number's key -/
section KEY
variable {ch : Nat → Int32} {n W : Nat} {sC sM : u_H} {τ : f_T}
def kN (j : Nat) : Nat := if j = 0 then 491260570739 else if j = 2 then 8175547842734419059 else if j = 3 then 1685217655 else 109356099333997
theorem kw_w (j : Nat) (hj : j < 5) (h1 : j ≠ 1) : ∃ w, tx_words[2 + j]? = some w ∧ tx_nW w = kN j := by
  rcases (show j = 0 ∨ j = 2 ∨ j = 3 ∨ j = 4 by omega) with rfl | rfl | rfl | rfl
  · exact ⟨_, rfl, rfl⟩
  · exact ⟨_, rfl, rfl⟩
  · exact ⟨_, rfl, rfl⟩
  · exact ⟨_, rfl, rfl⟩
theorem m282_k (h : jN ch n τ sC sM) {j : Nat} (hj : j < 5) (h1 : j ≠ 1) (hk : τ.2.1 = 258 + j) (hz : sM.1 65 (fg j) = 0) {v : Int32} {s3 : u_H} (e : u_c 310 [.inr (.inr 67), .inr (.inl (u_k6 (kN j))), .inl (zi (kl j)), .inl (zi (kh j))] (y_u sM.1 65 (fg j) (Int32.ofInt 1), sM.2) = some (some (.inl v), s3)) : u_c 282 [.inr (.inr 67)] sM = u g_t282 236 (u_z1, u_z2, [(0, 67)]) [] (y_u s3.1 65 (kc j + 34) v, s3.2) := by
  rw [m_0N h (fun e => absurd e (by omega)) (fun e => absurd e (by omega))]
  rcases (show j = 0 ∨ j = 2 ∨ j = 3 ∨ j = 4 by omega) with q | q | q | q
  · subst q
    rw [show fg 0 = 54 from rfl, show kN 0 = 491260570739 from rfl, show kl 0 = 1 from rfl, show kh 0 = 2 from rfl] at e
    rw [m_51N h (fun e => absurd e (by omega)), m_90H h hk hz e, show kc 0 + 34 = 44 from rfl]
  · subst q
    rw [show fg 2 = 55 from rfl, show kN 2 = 8175547842734419059 from rfl, show kl 2 = 0 from rfl, show kh 2 = 100 from rfl] at e
    rw [m_51N h (fun e => absurd e (by omega)), m_90N h (fun e => absurd e (by omega)) (fun e => absurd e (by omega)), m_152H h hk hz e, show kc 2 + 34 = 45 from rfl]
  · subst q
    rw [show fg 3 = 56 from rfl, show kN 3 = 1685217655 from rfl, show kl 3 = 0 from rfl, show kh 3 = 999 from rfl] at e
    rw [m_51N h (fun e => absurd e (by omega)), m_90N h (fun e => absurd e (by omega)) (fun e => absurd e (by omega)), m_152N h (fun e => absurd e (by omega)), m_191H h hk hz e, show kc 3 + 34 = 46 from rfl]
  · subst q
    rw [show fg 4 = 53 from rfl, show kN 4 = 109356099333997 from rfl, show kl 4 = 1 from rfl, show kh 4 = 60 from rfl] at e
    rw [m_51H h hk hz e, show kc 4 + 34 = 43 from rfl]
theorem c119_k (hW : W = 5 ∨ W = 17) {s s1 s2 : u_H} {v : Int32} {j m : Nat} (hj : j < 5) (hj1 : j ≠ 1) (hm : m < 32) (h7 : s.1 27 7 = zi (4 * m)) (hb : fB m j = false) (e1 : u_c 105 [.inr (.inr 29)] (y_u s.1 27 7 (zi (4 * fU m j)), s.2) = some (none, s1)) (hi : s1.2.2.2.2.1 = W) (e2 : u_c 118 [.inr (.inr 29), .inl (zi (kl j)), .inl (zi (kh j))] s1 = some (some (.inl v), s2)) : u_c 119 [.inr (.inr 29), .inl (zi (258 + j))] s = some (none, (y_u s2.1 (W - 2) (kc j) v, s2.2)) := by
  obtain ⟨b1, b2⟩ := fb_c hm hj
  rw [b_119 hW, h7, if_pos (b1.mpr hb), b2, e1, u_bvS, show u_k 262 = zi 262 from u_kz 262, show u_k 258 = zi 258 from u_kz 258, show u_k 260 = zi 260 from u_kz 260, show u_k 261 = zi 261 from u_kz 261, show u_k 999 = zi 999 from u_kz 999, show Int32.ofInt 0 = zi 0 from rfl, show Int32.ofInt 1 = zi 1 from rfl, show Int32.ofInt 2 = zi 2 from rfl, show Int32.ofInt 60 = zi 60 from rfl, show Int32.ofInt 100 = zi 100 from rfl]
  by_cases h4 : j = 4
  · subst h4
    rw [show kl 4 = 1 from rfl, show kh 4 = 60 from rfl] at e2
    rw [if_pos rfl, if_pos hi, e2, u_biS]
    rfl
  rw [if_neg (z_ne (a := 258 + j) (b := 262) (by omega) (by omega) (by omega))]
  by_cases h0 : j = 0
  · subst h0
    rw [show kl 0 = 1 from rfl, show kh 0 = 2 from rfl] at e2
    rw [if_pos rfl, if_pos hi, e2, u_biS]
    rfl
  rw [if_neg (z_ne (a := 258 + j) (b := 258) (by omega) (by omega) (by omega))]
  by_cases h2 : j = 2
  · subst h2
    rw [show kl 2 = 0 from rfl, show kh 2 = 100 from rfl] at e2
    rw [if_pos rfl, if_pos hi, e2, u_biS]
    rfl
  rw [if_neg (z_ne (a := 258 + j) (b := 260) (by omega) (by omega) (by omega))]
  have h3 : j = 3 := by omega
  subst h3
  rw [show kl 3 = 0 from rfl, show kh 3 = 999 from rfl] at e2
  rw [if_pos rfl, if_pos hi, e2, u_biS]
  rfl
theorem c119_f (hW : W = 5 ∨ W = 17) {s s1 : u_H} {m : Nat} (hm : m < 32) (h7 : s.1 27 7 = zi (4 * m)) (hb : fB m 1 = false) (e1 : u_c 105 [.inr (.inr 29)] (y_u s.1 27 7 (zi (4 * fU m 1)), s.2) = some (none, s1)) : u_c 119 [.inr (.inr 29), .inl (zi (258 + 1))] s = u_bv (u_c 114 [.inr (.inr 29), .inl (Int32.ofInt 0)] s1) fun s10 => some (none, s10) := by
  obtain ⟨b1, b2⟩ := fb_c hm (show 1 < 5 by omega)
  rw [b_119 hW, h7, if_pos (b1.mpr hb), b2, e1, u_bvS, show u_k 262 = zi 262 from u_kz 262, show u_k 258 = zi 258 from u_kz 258, show u_k 260 = zi 260 from u_kz 260, show u_k 261 = zi 261 from u_kz 261, if_neg (z_ne (a := 258 + 1) (b := 262) (by omega) (by omega) (by omega)), if_neg (z_ne (a := 258 + 1) (b := 258) (by omega) (by omega) (by omega)), if_neg (z_ne (a := 258 + 1) (b := 260) (by omega) (by omega) (by omega)), if_neg (z_ne (a := 258 + 1) (b := 261) (by omega) (by omega) (by omega))]
theorem p_lineK (hW : W = 5 ∨ W = 17) (hT : tx_T ch n) (hj : jT ch n W sC sM) (h : jN ch n τ sC sM) {j : Nat} (hj5 : j < 5) (hj1 : j ≠ 1) (hk : τ.2.1 = 258 + j) {a b m : Nat} (hD : jD W a b m sC sM) (hb : fB m j = false) {r : Option (q_V Int32) × u_H} (hr : u_c 282 [.inr (.inr 67)] sM = some r) : pL ch n W (a + b + fc m + 1) sC sM r := by
  obtain ⟨⟨NS, NP, x1, x2⟩, x3, x4, x5⟩ := hD
  have fz : sM.1 65 (fg j) = 0 := by
    rw [x3.2.2 j hj5, hb]
    exact zb_no
  have gA := fg_all j
  have cA := kc_all j
  have hm := x3.1
  obtain ⟨u1, u2, u3⟩ := fU_all ⟨m, hm⟩ ⟨j, hj5⟩
  have u1 : fU m j < 32 := u1
  have u2 : fB m j = false → fc (fU m j) = fc m + 1 := u2
  have u3 : ∀ i, i < 5 → fB (fU m j) i = (fB m i || Nat.beq i j) := fun i hi => u3 ⟨i, hi⟩
  obtain ⟨sC0, hC0⟩ : ∃ s, s = (y_u sC.1 27 7 (zi (4 * fU m j)), sC.2) := ⟨_, rfl⟩
  obtain ⟨sM0, hM0⟩ : ∃ s, s = (y_u sM.1 65 (fg j) (Int32.ofInt 1), sM.2) := ⟨_, rfl⟩
  have fC0 : u_fr (fun o k => o = 27 ∧ k = 7) sC sC0 := by
    rw [hC0]
    exact u_fr.wi (f := sC.1) (r := sC.2) u_fr.rf ⟨rfl, rfl⟩
  have fM0 : u_fr (fun o k => o = 65 ∧ k = fg j) sM sM0 := by
    rw [hM0]
    exact u_fr.wi (f := sM.1) (r := sM.2) u_fr.rf ⟨rfl, rfl⟩
  have c7 : sC0.1 27 7 = zi (4 * fU m j) := by
    rw [hC0]
    exact y_uE sC.1 27 7 _
  have m7 : sM0.1 65 (fg j) = Int32.ofInt 1 := by
    rw [hM0]
    exact y_uE sM.1 65 (fg j) _
  have hj0 : jT ch n W sC0 sM0 := jT_fr hj fC0 fM0 (fun q => absurd q.1 (by omega)) (fun k q => absurd q.1 (by omega)) (fun q => by have := q.2; omega) (fun k q => absurd q.1 (by omega))
  have h0 : jN ch n τ sC0 sM0 := jN_fr h fC0 fM0 (fun k _ h7 q => h7 q.2) (fun k _ h9 _ q => by have := q.2; omega)
  obtain ⟨w, hw, hN⟩ := kw_w j hj5 hj1
  obtain ⟨vC, vM, s1, s2, sM2, e1, e2, e3, e4, ⟨e5, e6, e7⟩, e8⟩ := p_told hT hj0 h0 hw hN (by omega) (by omega) (kb_all j).1 (kb_all j).2
  have fC1 : u_fr (fCk W j) sC (y_u s2.1 (W - 2) (kc j) vC, s2.2) := u_fr.wi (f := s2.1) (r := s2.2) ((fC0.mono (fun o k q => Or.inl ⟨q.1, by have := q.2; omega⟩)).tr (e6.mono (fun o k q => Or.inl ⟨q.1, q.2.1⟩))) (Or.inr ⟨rfl, rfl⟩)
  have fM1 : u_fr (fMk j) sM (y_u sM2.1 65 (kc j + 34) vM, sM2.2) := u_fr.wi (f := sM2.1) (r := sM2.2) ((fM0.mono (fun o k q => Or.inr ⟨q.1, Or.inl q.2⟩)).tr (e7.mono (fun o k q => Or.inl q))) (Or.inr ⟨rfl, Or.inr rfl⟩)
  have jf : jJ ch n W (y_u s2.1 (W - 2) (kc j) vC, s2.2) (y_u sM2.1 65 (kc j + 34) vM, sM2.2) := jJ_Mi (sM := sM2) (jJ_Ci (sC := s2) e5 (by omega) (by omega) (by omega)) (Or.inr (by omega)) (by omega)
  rw [hC0] at e1
  rw [hM0] at e4
  have hk4 : sC.1 27 4 = zi (258 + j) := by
    rw [h.2.1.2.1, hk]
  refine p_close hW hT (li := u_z1) (ll := u_z2) jf (fC1.mono (fun o k q => ?_)) (fM1.mono (fun o k q => ?_)) (fun hf => ?_) ?_ ?_ hr
  · unfold fCk at q
    unfold fCL
    omega
  · unfold fMk at q
    unfold fML
    omega
  · have hf2 : sM2.1 65 2 = 0 := (show y_u sM2.1 65 (kc j + 34) vM 65 2 = sM2.1 65 2 from y_uN (by omega)).symm.trans hf
    obtain ⟨x, y1, y2, y3, y4⟩ := e8 hf2
    refine ⟨a, b, fU m j, by rw [u2 hb]; omega, ⟨NS, NP, dS_f x1 fC1 fM1 (fun o k s q => ?_) (fun o k s q => ?_), dP_f x2 fC1 fM1 (fun o k s q => ?_) (fun o k s q => ?_)⟩, ⟨u1, ?_, fun i hi => ?_⟩, fun i hi hi1 => ?_, ?_⟩
    · unfold fCk at q
      unfold sSC at s
      omega
    · unfold fMk at q
      unfold sSM at s
      omega
    · unfold fCk at q
      unfold sPC at s
      omega
    · unfold fMk at q
      unfold sPM at s
      omega
    · show y_u s2.1 (W - 2) (kc j) vC 27 7 = _
      rw [y_uN (by omega), e6.i (fun q => q.2.2 rfl)]
      exact c7
    · have gi := fg_all i
      show y_u sM2.1 65 (kc j + 34) vM 65 (fg i) = _
      rw [y_uN (by omega), e7.i (fun q => by have := tx_Ma q; omega), u3 i hi]
      by_cases e : i = j
      · subst e
        rw [m7, Nat.beq_refl, Bool.or_true]
        rfl
      · rw [fM0.i (fun q => e (fg_inj hi hj5 q.2)), x3.2.2 i hi, nbF e, Bool.or_false]
    · by_cases e : i = j
      · subst e
        refine ⟨x, y1, y2, ?_, ?_⟩
        · show y_u s2.1 (W - 2) (kc i) vC (W - 2) (kc i) = _
          rw [y_uE, y3]
        · show y_u sM2.1 65 (kc i + 34) vM 65 (kc i + 34) = _
          rw [y_uE, y4]
      · obtain ⟨z, z1, z2, z3, z4⟩ := x4 i hi hi1
        have ci := kc_all i
        have hne : kc i ≠ kc j := fun q => e (kc_inj hi hi1 hj5 hj1 q)
        refine ⟨z, z1, z2, ?_, ?_⟩
        · show y_u s2.1 (W - 2) (kc j) vC (W - 2) (kc i) = _
          rw [y_uN (by omega), e6.i (fun q => by have := tx_Ca q; omega), fC0.i (fun q => by have := q.1; omega)]
          exact z3
        · show y_u sM2.1 65 (kc j + 34) vM 65 (kc i + 34) = _
          rw [y_uN (by omega), e7.i (fun q => by have := tx_Ma q; omega), fM0.i (fun q => by have := q.2; omega)]
          exact z4
    · rw [u3 1 (by omega), nbF (fun q => hj1 q.symm : ¬ 1 = j), Bool.or_false]
      refine dG_f x5 fC1 fM1 (fun o k s q => ?_) (fun o k s q => ?_)
      · unfold fCk at q
        unfold sGC at s
        omega
      · unfold fMk at q
        unfold sGM at s
        omega
  · rw [c116_k hj5 hk4, c119_k hW hj5 hj1 hm x3.2.1 hb e1 e2 e3, u_bvS]
  · exact m282_k h hj5 hj1 hk fz e4
end KEY
