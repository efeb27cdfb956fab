/-! a new name, a ship's name -/
def tx_MN (j o k : Nat) : Prop := tx_M o k ∨ (o = 67 ∧ k = j)
section NAMES
variable {ch : Nat → Int32} {n W : Nat} {sC sM : u_H}
theorem nmC_fr {o cnt : Nat} {NM : Nat → List Nat} {s s2 : u_H} (h : nmC o cnt NM s) (ho : o ≠ 27) (hf : u_fr tx_C s s2) : nmC o cnt NM s2 := fun k hk => ⟨(h k hk).1, (hf.l (tx_Cnn ho)).trans (h k hk).2⟩
theorem nmM_fr {fr cnt : Nat} {NM : Nat → List Nat} {s s2 : u_H} (h : nmM fr cnt NM s) (hf : u_fr tx_M s s2) : nmM fr cnt NM s2 := fun k hk => (hf.l (tx_Mn 67 _ (by omega))).trans (h k hk)
theorem jN_wM {τ : f_T} {g : Nat → Nat → Int64} {r : u_K} (h : jN ch n τ sC sM) (hg : g 65 9 = sM.2.1 65 9) : jN ch n τ sC (sM.1, g, r) := by
  obtain ⟨hV, hc, m1, m2, m3, m4, m5, m6, m7⟩ := h
  exact ⟨hV, hc, m1, m2, m3, m4, fun a b => hg.trans (m5 a b), m6, m7⟩
theorem jT_wM {g : Nat → Nat → Int64} {r : u_K} (h : jT ch n W sC sM) : jT ch n W sC (sM.1, g, r) := ⟨h.1, tM_l h.2.1, h.2.2⟩
theorem m_33N {fr cnt : Nat} {li : Nat → Int32} {ll : Nat → Int64} {s : u_H} (h : 0 < s.1 65 2) : u g_t263 33 (li, ll, [(0, 67)]) [] s = some (none, s) := by
  rw [b_263_33, if_pos h]
theorem jC_pos {f q : Nat} (h : jC f q sC sM) : 0 < sM.1 65 2 := by rw [h.2.2.2.2.2.2.1]; exact zf_pos h.1 h.2.1
theorem p_newName (hT : tx_T ch n) (hj : jT ch n W sC sM) {τ : f_T} (h : jN ch n τ sC sM) (hk : τ.2.1 ≠ 276) {ref o fr cnt : Nat} {NM : Nat → List Nat} (ho : o ≠ 27) (hfr : fr ≤ 5) (hcnt : fr + cnt < 12) (h117 : ∀ s : u_H, u_c 117 [.inr (.inr 29), .inr (.inr ref), .inl (zi cnt)] s =
  if (s.1 27 4) = (u_k 273) then
    u_bi (u_c 107 [.inr (.inr ref), .inl (zi cnt), .inr (.inl (s.2.1 27 6))] s) fun x2 s1 =>
    if x2 = (u_k (-1)) then
      u_bv (u_c 105 [.inr (.inr 29)] s1) fun s3 =>
      some (some (.inr (.inl (s.2.1 27 6))), s3)
    else
      u_bv (u_c 127 [.inr (.inr 29), .inl (Int32.ofInt 3)] s1) fun s4 =>
      some (some (.inr (.inl (s.2.1 27 6))), s4)
  else
    u_bv (u_c 127 [.inr (.inr 29), .inl (Int32.ofInt 2)] s) fun s5 =>
    some (some (.inr (.inl (Int64.ofNat 0))), s5)) (hfind : ∀ (s : u_H) (l : List Nat), nmC o cnt NM s → tx_n8 l → u_c 107 [.inr (.inr ref), .inl (zi cnt), .inr (.inl (zl (tx_nN l)))] s = some (some (.inl (zo (tx_fst NM l cnt 0))), s)) (hC : nmC o cnt NM sC) (hM : nmM fr cnt NM sM) : ∃ sC1 nm sC2 sM2, u_c 105 [.inr (.inr 29)] sC = some (none, sC1) ∧ sC1.2.2.2.2.1 = W ∧ u_c 117 [.inr (.inr 29), .inr (.inr ref), .inl (zi cnt)] sC1 = some (some (.inr (.inl nm)), sC2) ∧ u_c 263 [.inr (.inr 67), .inl (zi fr), .inl (zi cnt)] sM = some (none, sM2) ∧ jJ ch n W sC2 sM2 ∧ u_fr tx_C sC sC2 ∧ u_fr (tx_MN (fr + cnt)) sM sM2 ∧ (sM2.1 65 2 = 0 → ∃ l, tx_n8 l ∧ nm = zl (tx_nN l) ∧ sM2.2.1 67 (fr + cnt) = zl (tx_nW l) ∧ tx_las NM l cnt = none) := by
  obtain ⟨sC1, sM1, e1, e2, e3, e4, e5, e6⟩ := p_next hT hj h hk
  have hC1 := nmC_fr hC ho e5
  have hM1 := nmM_fr hM e6
  have hisn := m_isn e4
  have e4' := e4
  obtain ⟨hV, ⟨c1, c2, c3, c4, c5, c6⟩, m1, m2, m3, m4, m5, m6, m7⟩ := e4'
  generalize hτ : tx_tk ch n τ.2.2.2 = τ1 at *
  have hV5 := hV.2.2.2.2.1
  have z2 : (Int32.ofInt 2) = zi 2 := rfl
  have z3 : (Int32.ofInt 3) = zi 3 := rfl
  by_cases h273 : τ1.2.1 = 273
  · obtain ⟨v1, v2, v3⟩ := hV.2.2.2.2.2.1 (by omega) (by omega)
    have n8 : tx_n8 (tx_ls ch τ1) := ⟨v1, v2⟩
    have c5' : sC1.2.1 27 6 = zl (tx_nN (tx_ls ch τ1)) := c5 (by omega) (by omega)
    have m5' : sM1.2.1 65 9 = zl (tx_nW (tx_ls ch τ1)) := m5 (by omega) (by omega)
    have hk1 : sC1.1 27 4 = u_k 273 := by rw [c2, h273]; exact (u_kz 273).symm
    have hb : ∀ k, tx_fst NM (tx_ls ch τ1) cnt 0 = some k → k < 4000 := fun k hh => by
      have := tx_fstS cnt 0 k hh
      omega
    have hb2 : ∀ k, tx_las NM (tx_ls ch τ1) cnt = some k → k < 4000 := fun k hh => by
      have := tx_lasS cnt k hh
      omega
    have hmf := m_find (l := tx_ls ch τ1) hfr (by omega) hM1 (fun k hh => (hC1 k hh).1) n8 m5'
    by_cases hf : tx_fst NM (tx_ls ch τ1) cnt 0 = none
    · have hl : tx_las NM (tx_ls ch τ1) cnt = none := tx_fl.mp hf
      have e4w : jN ch n τ1 sC1 (sM1.1, y_u sM1.2.1 67 (fr + cnt) (sM1.2.1 65 9), sM1.2.2) := jN_wM e4 (y_uN (by omega))
      obtain ⟨sC2, sM2, g1, g2, g3, g4, g5, g6⟩ := p_next hT (jT_wM e3) e4w (by omega)
      refine ⟨sC1, sC1.2.1 27 6, sC2, sM2, e1, e3.2.2, ?_, ?_, p_nJ g3 g4, e5.tr g5, ?_, fun _ => ⟨tx_ls ch τ1, n8, c5', ?_, hl⟩⟩
      · rw [h117, if_pos hk1, c5', hfind sC1 _ hC1 n8, u_biS, if_pos ((zo_none hb).mpr hf), g1, u_bvS]
      · rw [b_263, e2, u_bvS, hisn, u_biS, decide_eq_true h273, if_neg zb_yes, hmf, u_biS, if_pos ((zo_neg hb2).mpr hl), b_263_33, m6, if_neg z_lt00, u_l1N (by omega), u_l1E, u_l1E, zi_add, if_pos ((u_inz (by omega)).mpr hcnt), zi_clamp (by omega), g2, u_bvS]
      · refine (e6.mono (fun o k q => Or.inl q)).tr (u_fr.tr ?_ (g6.mono (fun o k q => Or.inl q)))
        exact u_fr.wl (f := sM1.1) (g := sM1.2.1) (r := sM1.2.2) u_fr.rf (Or.inr ⟨rfl, rfl⟩)
      · rw [g6.l (tx_Mn 67 _ (by omega))]
        exact (y_uE _ _ _ _).trans m5'
    · have hl : ¬ tx_las NM (tx_ls ch τ1) cnt = none := fun q => hf (tx_fl.mpr q)
      obtain ⟨sCw, sMw, fw, qw, ew1, ew2, ew3, ew4, ew5, ew6⟩ := p_wrong (p_nJ e3 e4) hT (x := 3) (by omega) (by omega)
      refine ⟨sC1, sC1.2.1 27 6, sCw, sMw, e1, e3.2.2, ?_, ?_, p_wJ ew3 ew4, e5.tr ew5, (e6.tr ew6).mono (fun o k q => Or.inl q), fun q => absurd q (jC_ne ew4)⟩
      · rw [h117, if_pos hk1, c5', hfind sC1 _ hC1 n8, u_biS, if_neg (fun q => hf ((zo_none hb).mp q)), z3, ew1, u_bvS]
      · rw [b_263, e2, u_bvS, hisn, u_biS, decide_eq_true h273, if_neg zb_yes, hmf, u_biS, if_neg (fun q => hl ((zo_neg hb2).mp q)), z3, ew2, u_bvS, m_33N (fr := fr) (cnt := cnt) (jC_pos ew4)]
  · obtain ⟨sCw, sMw, fw, qw, ew1, ew2, ew3, ew4, ew5, ew6⟩ := p_wrong (p_nJ e3 e4) hT (x := 2) (by omega) (by omega)
    refine ⟨sC1, Int64.ofNat 0, sCw, sMw, e1, e3.2.2, ?_, ?_, p_wJ ew3 ew4, e5.tr ew5, (e6.tr ew6).mono (fun o k q => Or.inl q), fun q => absurd q (jC_ne ew4)⟩
    · rw [h117, if_neg (by rw [c2, show u_k 273 = zi 273 from u_kz 273, zk_iff (by omega) (by omega)]; exact h273), z2, ew1, u_bvS]
    · rw [b_263, e2, u_bvS, hisn, u_biS, decide_eq_false h273, if_pos zb_no, z2, ew2, u_bvS, m_33N (fr := fr) (cnt := cnt) (jC_pos ew4)]
theorem p_oldShip (hW : W = 5 ∨ W = 17) (hT : tx_T ch n) (hJ : jJ ch n W sC sM) {cnt : Nat} {NM : Nat → List Nat} (hcnt : cnt ≤ 5) (hd : ∀ j k, j < cnt → k < cnt → NM j = NM k → j = k) (hsC : sC.1 (W - 2) 0 = zi cnt) (hsM : sM.1 65 41 = zi cnt) (hC : nmC (W - 1) cnt NM sC) (hM : nmM 0 cnt NM sM) : ∃ vC vM sC2 sM2, u_c 123 [.inr (.inr 29)] sC = some (some (.inl vC), sC2) ∧ u_c 266 [.inr (.inr 67)] sM = some (some (.inl vM), sM2) ∧ p_OK ch n W sC sM sC2 sM2 ∧ (sM2.1 65 2 = 0 → (∃ τ, jN ch n τ sC sM) ∧ ∃ v, v < cnt ∧ vC = zi v ∧ vM = zi v) := by
  have hJ2 := hJ
  have z2 : (Int32.ofInt 2) = zi 2 := rfl
  have z5 : (Int32.ofInt 5) = zi 5 := rfl
  have z0 : (Int32.ofInt 0) = zi 0 := rfl
  have m41 : ∀ {s : u_H} {f q : Nat} {sC : u_H}, jC f q sC s → ∀ li ll, u g_t266 41 (li, ll, [(0, 67)]) [] s = some (some (.inl (Int32.ofInt 0)), s) := by
    intro s f q sC h li ll
    rw [b_266_41, if_pos (jC_pos h), if_neg (jC_ne h)]
  obtain ⟨hj, h | h⟩ := hJ2
  · obtain ⟨τ, h⟩ := h
    have hisn := m_isn h
    have h' := h
    obtain ⟨hV, ⟨c1, c2, c3, c4, c5, c6⟩, m1, m2, m3, m4, m5, m6, m7⟩ := h'
    have hV5 := hV.2.2.2.2.1
    by_cases h273 : τ.2.1 = 273
    · obtain ⟨v1, v2, v3⟩ := hV.2.2.2.2.2.1 (by omega) (by omega)
      have n8 : tx_n8 (tx_ls ch τ) := ⟨v1, v2⟩
      have c5' : sC.2.1 27 6 = zl (tx_nN (tx_ls ch τ)) := c5 (by omega) (by omega)
      have m5' : sM.2.1 65 9 = zl (tx_nW (tx_ls ch τ)) := m5 (by omega) (by omega)
      have hk1 : sC.1 27 4 = u_k 273 := by rw [c2, h273]; exact (u_kz 273).symm
      have heq := tx_fleq (l := tx_ls ch τ) hd
      have hb : ∀ k, tx_fst NM (tx_ls ch τ) cnt 0 = some k → k < 4000 := fun k hh => by
        have := tx_fstS cnt 0 k hh
        omega
      have hmf := m_find (fr := 0) (l := tx_ls ch τ) (by omega) (by omega) hM (fun k hh => (hC k hh).1) n8 m5'
      rw [← heq] at hmf
      have hcf := c_find_s hW hcnt hC n8
      cases hf : tx_fst NM (tx_ls ch τ) cnt 0 with
      | none =>
        obtain ⟨sCw, sMw, fw, qw, ew1, ew2, ew3, ew4, ew5, ew6⟩ := p_wrong hJ hT (x := 5) (by omega) (by omega)
        rw [hf] at hmf hcf
        refine ⟨Int32.ofInt 0, Int32.ofInt 0, sCw, sMw, ?_, ?_, ⟨p_wJ ew3 ew4, ew5, ew6⟩, fun q => absurd q (jC_ne ew4)⟩
        · rw [b_123 hW, if_pos hk1, if_pos hj.2.2, if_pos hj.2.2, hsC, c5', hcf, u_biS, if_pos (show zo none = u_k (-1) from rfl), z5, ew1, u_bvS]
        · rw [b_266, m6, if_neg z_lt00, hisn, u_biS, decide_eq_true h273, if_neg zb_yes, hsM, z0, hmf, u_biS, if_pos ((zo_neg (x := none) (fun k q => by cases q)).mpr rfl), z5, ew2, u_bvS, m41 ew4]
          rfl
      | some v =>
        have hv := tx_fstS cnt 0 v hf
        rw [hf] at hmf hcf
        have hne : ¬ zo (some v) = u_k (-1) := fun q => by
          have := (zo_none (x := some v) (fun k q => by cases q; omega)).mp q
          cases this
        have hnn : ¬ zo (some v) < 0 := fun q => by
          have := (zo_neg (x := some v) (fun k q => by cases q; omega)).mp q
          cases this
        obtain ⟨sC2, sM2, g1, g2, g3, g4, g5, g6⟩ := p_next hT hj h (by omega)
        refine ⟨zi v, zi v, sC2, sM2, ?_, ?_, ⟨p_nJ g3 g4, g5, g6⟩, fun _ => ⟨⟨τ, h⟩, v, by omega, rfl, rfl⟩⟩
        · rw [b_123 hW, if_pos hk1, if_pos hj.2.2, if_pos hj.2.2, hsC, c5', hcf, u_biS, if_neg hne, g1, u_bvS]
          rfl
        · rw [b_266, m6, if_neg z_lt00, hisn, u_biS, decide_eq_true h273, if_neg zb_yes, hsM, z0, hmf, u_biS, if_neg hnn, b_266_41, m6, if_neg z_lt00, hsM, z0, hmf, u_biS, m6, if_pos rfl, g2, u_bvS]
          rfl
    · obtain ⟨sCw, sMw, fw, qw, ew1, ew2, ew3, ew4, ew5, ew6⟩ := p_wrong hJ hT (x := 2) (by omega) (by omega)
      refine ⟨Int32.ofInt 0, Int32.ofInt 0, sCw, sMw, ?_, ?_, ⟨p_wJ ew3 ew4, ew5, ew6⟩, fun q => absurd q (jC_ne ew4)⟩
      · rw [b_123 hW, if_neg (by rw [c2, show u_k 273 = zi 273 from u_kz 273, zk_iff (by omega) (by omega)]; exact h273), z2, ew1, u_bvS]
      · rw [b_266, m6, if_neg z_lt00, hisn, u_biS, decide_eq_false h273, if_pos zb_no, z2, ew2, u_bvS, m41 ew4]
  · obtain ⟨f, q, h⟩ := h
    obtain ⟨sCw, sMw, fw, qw, ew1, ew2, ew3, ew4, ew5, ew6⟩ := p_wrong hJ hT (x := 2) (by omega) (by omega)
    have h' := h
    obtain ⟨f1, f5, hq, k1, k2, k3, k4, k5⟩ := h'
    have hM : sMw = sM := by
      rw [b_324, k4, if_pos (zf_pos f1 f5)] at ew2
      cases ew2
      rfl
    subst hM
    refine ⟨Int32.ofInt 0, Int32.ofInt 0, sCw, sMw, ?_, ?_, ⟨p_wJ ew3 ew4, ew5, u_fr.rf⟩, fun e => absurd e (jC_ne ew4)⟩
    · rw [b_123 hW, if_neg (by rw [k3, show u_k 273 = zi 273 from u_kz 273, zk_iff (by omega) (by omega)]; omega), z2, ew1, u_bvS]
    · rw [b_266, k4, if_pos (zf_pos f1 f5)]
end NAMES
