/-! a ship's line, a pair's, the formula's; any line -/
section LINE
variable {ch : Nat → Int32} {n W : Nat} {sC sM : u_H} {τ : f_T}
theorem p_lineS (hW : W = 5 ∨ W = 17) (hT : tx_T ch n) (hj : jT ch n W sC sM) (h : jN ch n τ sC sM) (hk : τ.2.1 = 256) {a b m : Nat} (hD : jD W a b m sC sM) (ha : a ≠ 5) {r : Option (q_V Int32) × u_H} (hr : u_c 282 [.inr (.inr 67)] sM = some r) : pL ch n W (a + b + fc m + 1) sC sM r := by
  obtain ⟨⟨NS, NP, x1, x2⟩, x3, x4, x5⟩ := hD
  have ha5 : a < 5 := by have := x1.1; omega
  obtain ⟨s1, s2, e1, e2, e3, e4, e5, e6⟩ := p_readShip hW hT hj h (by omega) ha5 x1
  have hk4 : sC.1 27 4 = zi 256 := by rw [h.2.1.2.1, hk]
  refine p_close hW hT (sC1 := s1) (sM1 := s2) (li := u_z1) (ll := u_z2) e3 (e4.mono (fun o k q => ?_)) (e5.mono (fun o k q => ?_)) (fun hf => ?_) ?_ ?_ hr
  · have q := fCs_a q
    unfold fCL
    omega
  · have q := fMs_a q
    unfold fML
    omega
  · obtain ⟨NS2, y1⟩ := e6 hf
    refine ⟨a + 1, b, m, by omega, ⟨NS2, NP, y1, dP_m (dP_f x2 e4 e5 (fun o k s q => ?_) (fun o k s q => ?_)) (Nat.le_succ a)⟩, dF_f x3 e4 e5 (fun o k s q => ?_) (fun o k s q => ?_), dK_f x4 e4 e5 (fun o k s q => ?_) (fun o k s q => ?_), dG_f x5 e4 e5 (fun o k s q => ?_) (fun o k s q => ?_)⟩
    · have q := fCs_a q
      unfold sPC at s
      omega
    · have q := fMs_a q
      unfold sPM at s
      omega
    · have q := fCs_a q
      unfold sFC at s
      omega
    · have q := fMs_a q
      unfold sFM at s
      omega
    · have q := fCs_a q
      unfold sKC at s
      omega
    · have q := fMs_a q
      unfold sKM at s
      omega
    · have q := fCs_a q
      unfold sGC at s
      omega
    · have q := fMs_a q
      unfold sGM at s
      omega
  · rw [c116_s hk4, e1, u_bvS]
  · rw [m_0S h (by omega) (by rw [x1.2.2.1, show Int32.ofInt 5 = zi 5 from rfl, zi_lt (by omega) (by omega)]; exact ha5), e2, u_bvS]
theorem p_lineP (hW : W = 5 ∨ W = 17) (hT : tx_T ch n) (hj : jT ch n W sC sM) (h : jN ch n τ sC sM) (hk : τ.2.1 = 257) {a b m : Nat} (hD : jD W a b m sC sM) (hb : b ≠ 7) {r : Option (q_V Int32) × u_H} (hr : u_c 282 [.inr (.inr 67)] sM = some r) : pL ch n W (a + b + fc m + 1) sC sM r := by
  obtain ⟨⟨NS, NP, x1, x2⟩, x3, x4, x5⟩ := hD
  have hb7 : b < 7 := by have := x2.1; omega
  obtain ⟨s1, s2, e1, e2, e3, e4, e5, e6⟩ := p_readPair hW hT hj h (by omega) hb7 x1 x2
  have hk4 : sC.1 27 4 = zi 257 := by rw [h.2.1.2.1, hk]
  refine p_close hW hT (sC1 := s1) (sM1 := s2) (li := u_z1) (ll := u_z2) e3 (e4.mono (fun o k q => ?_)) (e5.mono (fun o k q => ?_)) (fun hf => ?_) ?_ ?_ hr
  · have q := fCp_a q
    unfold fCL
    omega
  · have q := fMp_a q
    unfold fML
    omega
  · obtain ⟨NP2, y1⟩ := e6 hf
    refine ⟨a, b + 1, m, by omega, ⟨NS, NP2, dS_f x1 e4 e5 (fun o k s q => ?_) (fun o k s q => ?_), y1⟩, dF_f x3 e4 e5 (fun o k s q => ?_) (fun o k s q => ?_), dK_f x4 e4 e5 (fun o k s q => ?_) (fun o k s q => ?_), dG_f x5 e4 e5 (fun o k s q => ?_) (fun o k s q => ?_)⟩
    · have q := fCp_a q
      unfold sSC at s
      omega
    · have q := fMp_a q
      unfold sSM at s
      omega
    · have q := fCp_a q
      unfold sFC at s
      omega
    · have q := fMp_a q
      unfold sFM at s
      omega
    · have q := fCp_a q
      unfold sKC at s
      omega
    · have q := fMp_a q
      unfold sKM at s
      omega
    · have q := fCp_a q
      unfold sGC at s
      omega
    · have q := fMp_a q
      unfold sGM at s
      omega
  · rw [c116_p hk4, e1, u_bvS]
  · rw [m_0P h (by omega) (by rw [x2.2.2.1, show Int32.ofInt 7 = zi 7 from rfl, zi_lt (by omega) (by omega)]; exact hb7), e2, u_bvS]
theorem p_lineF (hW : W = 5 ∨ W = 17) (hT : tx_T ch n) (hj : jT ch n W sC sM) (h : jN ch n τ sC sM) (hk : τ.2.1 = 258 + 1) {a b m : Nat} (hD : jD W a b m sC sM) (hb : fB m 1 = false) {r : Option (q_V Int32) × u_H} (hr : u_c 282 [.inr (.inr 67)] sM = some r) : pL ch n W (a + b + fc m + 1) sC sM r := by
  obtain ⟨⟨NS, NP, x1, x2⟩, x3, x4, x5⟩ := hD
  have hm := x3.1
  obtain ⟨u1, u2, u3⟩ := fU_all ⟨m, hm⟩ ⟨1, by omega⟩
  have u1 : fU m 1 < 32 := u1
  have u3 : ∀ i, i < 5 → fB (fU m 1) i = (fB m i || Nat.beq i 1) := fun i hi => u3 ⟨i, hi⟩
  have u2 : fc (fU m 1) = fc m + 1 := u2 hb
  have fz : sM.1 65 24 = 0 := by
    have := x3.2.2 1 (by omega)
    rw [show fg 1 = 24 from rfl, hb] at this
    exact this.trans zb_no
  rcases x5 with ⟨g1, g2, g3⟩ | ⟨g1, g2⟩
  rotate_left
  · rw [hb] at g1
    cases g1
  obtain ⟨sC0, hC0⟩ : ∃ s, s = (y_u sC.1 27 7 (zi (4 * fU m 1)), sC.2) := ⟨_, rfl⟩
  have fC0 : u_fr (fun o k => o = 27 ∧ k = 7) sC sC0 := by
    rw [hC0]
    exact u_fr.wi (f := sC.1) (r := sC.2) u_fr.rf ⟨rfl, rfl⟩
  have c7 : sC0.1 27 7 = zi (4 * fU m 1) := by
    rw [hC0]
    exact y_uE sC.1 27 7 _
  have fMr : u_fr (fun _ _ => False) sM sM := u_fr.rf
  have hj0 : jT ch n W sC0 sM := jT_fr hj fC0 fMr (fun q => absurd q.1 (by omega)) (fun k q => absurd q.1 (by omega)) (fun q => q) (fun k q => q)
  have h0 : jN ch n τ sC0 sM := jN_fr h fC0 fMr (fun k _ h7 q => h7 q.2) (fun k _ h9 _ q => q)
  obtain ⟨s1, sM1, e1, e2, e3, e4, e5, e6⟩ := p_next hT hj0 h0 (by omega)
  have f01 : u_fr (fun o k => o = 27 ∧ 2 ≤ k) sC s1 := (fC0.mono (fun o k q => ⟨q.1, by have := q.2; omega⟩)).tr (e5.mono (fun o k q => ⟨q.1, q.2.1⟩))
  have hD1 : cD W [] 0 s1 := cD_f g2 f01 (fun o k s q => by
    have q1 : o = 27 := q.1
    unfold sGC at s
    omega)
  have hCN : cN ch n (tx_A ch n τ) s1 := ⟨e4.1, e4.2.1⟩
  have hX : (tx_A ch n τ).2.1 = 276 → cX W 1 (tx_A ch n τ).1 s1 := fun q => by
    obtain ⟨y1, y2⟩ := e4.2.1.2.2.2.2.2 q
    exact ⟨by omega, by omega, y1, y2, by rw [e4.2.1.2.1]; exact congrArg zi q, e3.2.2, 0, by omega, hD1.1⟩
  have hMN : mN ch n τ sM := ⟨h.1, h.2.2⟩
  obtain ⟨s2, s3, k1, k2, k3, k4⟩ := p_formula hW hT ⟨e3.1, e3.2.2⟩ hCN hX hD1 hMN hj.2.1 g3
  rw [hC0] at e1
  have hk4 : sC.1 27 4 = zi (258 + 1) := by
    rw [h.2.1.2.1, hk]
  have hc : u_c 116 [.inr (.inr 29)] sC = some (none, s3) := by
    rw [c116_k (j := 1) (by omega) hk4, c119_f hW hm x3.2.1 hb e1, k1, u_bvS, u_bvS, k2, u_bvS]
  rw [m_0N h (fun e => absurd e (by omega)) (fun e => absurd e (by omega)), m_51N h (fun e => absurd e (by omega)), m_90F h hk fz] at hr
  cases hu : u_c 208 [.inr (.inr 67)] sM with
  | none =>
    rw [hu] at hr
    cases hr
  | some ru =>
    obtain ⟨vu, su⟩ := ru
    have hvu : vu = none := by
      cases vu with
      | none => rfl
      | some v =>
        rw [hu] at hr
        cases hr
    subst hvu
    rw [hu, u_bvS] at hr
    obtain ⟨-, t2, t3, t4, t5, t6⟩ := k4 (none, su) r u_z1 u_z2 hu hr
    have fC : u_fr (fun o k => (o = 27 ∧ 2 ≤ k) ∨ o = W + 6 ∨ o = W + 7) sC s3 := (f01.mono (fun o k q => Or.inl q)).tr (k3.mono (fun o k q => by have q := fCf_a q; omega))
    refine ⟨s3, hc, t2, t5, fC.mono (fun o k q => ?_), t3.mono (fun o k q => ?_), fun hf => ?_⟩
    · unfold fCL
      omega
    · have q := tx_Ha q
      unfold fML
      omega
    · obtain ⟨c2, w2, z0, z1, z2, z3⟩ := t6 hf
      refine ⟨a, b, fU m 1, by rw [u2]; omega, ⟨NS, NP, dS_f x1 fC t3 (fun o k s q => ?_) (fun o k s q => ?_), dP_f x2 fC t3 (fun o k s q => ?_) (fun o k s q => ?_)⟩, ⟨u1, ?_, fun i hi => ?_⟩, dK_f x4 fC t3 (fun o k s q => ?_) (fun o k s q => ?_), ?_⟩
      · unfold sSC at s
        omega
      · have q := tx_Ha q
        unfold sSM at s
        omega
      · unfold sPC at s
        omega
      · have q := tx_Ha q
        unfold sPM at s
        omega
      · rw [k3.i (fun q => by have := fCf_a q; omega), e5.i (fun q => q.2.2 rfl)]
        exact c7
      · rw [u3 i hi]
        by_cases e : i = 1
        · subst e
          rw [show Nat.beq 1 1 = true from rfl, Bool.or_true]
          exact t4
        · have gi := fg_all i
          have hne : fg i ≠ 24 := fun q => e (fg_inj (i := i) (j := 1) hi (by omega) q)
          rw [t3.i (fun q => by have := tx_Ha q; omega), x3.2.2 i hi, nbF e, Bool.or_false]
      · unfold sKC at s
        omega
      · have q := tx_Ha q
        unfold sKM at s
        omega
      · refine Or.inr ⟨?_, c2, w2, z0, z1, z2, z3⟩
        rw [u3 1 (by omega), show Nat.beq 1 1 = true from rfl, Bool.or_true]
/-- any line of a text that goes on -/
theorem p_line (hW : W = 5 ∨ W = 17) (hT : tx_T ch n) (hj : jT ch n W sC sM) (h : jN ch n τ sC sM) {a b m : Nat} (hD : jD W a b m sC sM) {r : Option (q_V Int32) × u_H} (hr : u_c 282 [.inr (.inr 67)] sM = some r) : pL ch n W (a + b + fc m + 1) sC sM r := by
  by_cases hw : pW a b m τ
  · exact p_lineW hW hT hj h hD hw hr
  by_cases k0 : τ.2.1 = 256
  · exact p_lineS hW hT hj h k0 hD (fun q => hw ⟨fun _ => q, fun e => absurd e (by omega), fun j hj e => absurd e (by omega)⟩) hr
  by_cases k1 : τ.2.1 = 257
  · exact p_lineP hW hT hj h k1 hD (fun q => hw ⟨fun e => absurd e (by omega), fun _ => q, fun j hj e => absurd e (by omega)⟩) hr
  by_cases k2 : 258 ≤ τ.2.1 ∧ τ.2.1 ≤ 262
  · obtain ⟨j, hj5, e⟩ : ∃ j, j < 5 ∧ τ.2.1 = 258 + j := ⟨τ.2.1 - 258, by omega, by omega⟩
    have hb : fB m j = false := by
      cases hq : fB m j with
      | false => rfl
      | true => exact absurd ⟨fun e => absurd e (by omega), fun e => absurd e (by omega), fun i hi e2 => (show j = i by omega) ▸ hq⟩ hw
    by_cases j1 : j = 1
    · subst j1
      exact p_lineF hW hT hj h e hD hb hr
    · exact p_lineK hW hT hj h hj5 j1 e hD hb hr
  · exact absurd ⟨fun e => absurd e (by omega), fun e => absurd e (by omega), fun i hi e => absurd e (by omega)⟩ hw
end LINE
