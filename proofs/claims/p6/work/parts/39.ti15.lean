/-! THE RAILS at work: both sides -/
section WORK
variable {W : Nat}
/-- a minute less at a RAIL -/
theorem aR_less {b R r p t : Nat} {c m c2 m2 : Nat → Int32} (hb : b ≤ 7) (H : aR b R c m) (hr2 : r < 2) (hp : c (14 + r) = zi p) (hpb : p < b) (ht : c (16 + r) = zi (t + 1)) (t1 : 1 ≤ t) (t2 : t ≤ 100) (e1 : ∀ i, i < 24 → i ≠ 16 + r → c2 i = c i) (e2 : ∀ i, i < 28 → i ≠ 21 + r → m2 i = m i) (e3 : c2 (16 + r) = zi t ∧ m2 (21 + r) = zi t) : aR b R c2 m2 := ⟨aQ_eq H.1 hb (fun k hk => e1 k (by omega) (by omega)) (e1 18 (by omega) (by omega)) (fun k hk => e2 k (by omega) (by omega)), aH_eq H.2.1 (fun q hq => e1 _ (by omega) (by omega)) (fun q hq => e2 _ (by omega) (by omega)), aS_eq H.2.2.1 (fun k h1 h2 => e1 k h2 (by omega)) (fun k h1 => e2 k (by omega) (by omega)), aL_less H.2.2.2 hr2 hb hp hpb ht t1 t2 (fun j hj => ⟨e1 _ (by omega) (by omega), e2 _ (by omega) (by omega)⟩) e3 (fun j hj hjr => ⟨e1 _ (by omega) (by omega), e2 _ (by omega) (by omega)⟩) ⟨e2 20 (by omega) (by omega), e2 23 (by omega) (by omega)⟩ (fun j hj => e1 _ (by omega) (by omega))⟩
/-- a RAIL is free; WAVES alike -/
theorem aR_free {b R r p h : Nat} {c m c2 m2 : Nat → Int32} (hb : b ≤ 7) (H : aR b R c m) (hr2 : r < 2) (hp : c (14 + r) = zi p) (hpb : p < b) (h1 : 2 ≤ h) (h4 : h ≤ 4) (e1 : ∀ i, i < 24 → i ≠ 14 + r → i ≠ 16 + r → i ≠ 7 + p → i ≠ 21 → c2 i = c i) (e2 : ∀ i, i < 28 → i ≠ 18 + r → i ≠ 21 + r → i ≠ 9 + p → i ≠ 25 → m2 i = m i) (e3 : c2 (14 + r) = u_k (-1) ∧ m2 (18 + r) = u_k (-1)) (e4 : c2 (16 + r) = zi 0 ∧ m2 (21 + r) = zi 0) (e5 : c2 (7 + p) = zi h ∧ m2 (9 + p) = zi h) (hw : c2 21 = m2 25) : aR b R c2 m2 := by
  obtain ⟨H1, H2, H3, H4⟩ := H
  have hph : c (7 + p) = zi 1 := by
    rcases (H4.1 r hr2).2.2 with x | ⟨x, q, t, x1, x2, x3, x4, x5, x6⟩
    · exact absurd (hp.symm.trans x) (zi_n0 (by omega))
    · have e : q = p := (zi_inj (by omega) (by omega)).mp (x4.symm.trans hp)
      subst e
      exact x6
  have w : ∀ j, j < b → j ≠ p → c2 (7 + j) = c (7 + j) := fun j hj hjp => e1 _ (by omega) (by omega) (by omega) (by omega) (by omega)
  refine ⟨aQ_off (h := 1) (h2 := h) hb H1 hpb hph (by omega) (by omega) (by omega) h4 (fun i hi => e1 i (by omega) (by omega) (by omega) (by omega) (by omega)) (fun i hi => e2 i (by omega) (by omega) (by omega) (by omega) (by omega)) (e1 18 (by omega) (by omega) (by omega) (by omega) (by omega)) w e5.1, aH_set H2 h4 (fun j hj hjp => ⟨w j hj hjp, e2 _ (by omega) (by omega) (by omega) (by omega) (by omega)⟩) e5, ?_, aL_free H4 hr2 hb hpb hp e3 e4 (fun j hj hjr => ⟨⟨e1 _ (by omega) (by omega) (by omega) (by omega) (by omega), e2 _ (by omega) (by omega) (by omega) (by omega) (by omega)⟩, e1 _ (by omega) (by omega) (by omega) (by omega) (by omega), e2 _ (by omega) (by omega) (by omega) (by omega) (by omega)⟩) ⟨e2 20 (by omega) (by omega) (by omega) (by omega) (by omega), e2 23 (by omega) (by omega) (by omega) (by omega) (by omega)⟩ w⟩
  obtain ⟨a1, a2, a3, ⟨t, t1, t2, t3⟩, a5⟩ := H3
  refine ⟨?_, ?_, hw, ⟨t, t1, ?_, ?_⟩, ?_⟩
  · rw [e1 19 (by omega) (by omega) (by omega) (by omega) (by omega), e2 17 (by omega) (by omega) (by omega) (by omega) (by omega)]; exact a1
  · rw [e1 20 (by omega) (by omega) (by omega) (by omega) (by omega), e2 24 (by omega) (by omega) (by omega) (by omega) (by omega)]; exact a2
  · rw [e1 22 (by omega) (by omega) (by omega) (by omega) (by omega)]; exact t2
  · rw [e2 26 (by omega) (by omega) (by omega) (by omega) (by omega)]; exact t3
  · rw [e1 23 (by omega) (by omega) (by omega) (by omega) (by omega), e2 27 (by omega) (by omega) (by omega) (by omega) (by omega)]; exact a5
/-- the class's row, where one slot of the state is written -/
theorem nR_ne {g g2 : Nat → Nat → Int32} {i : Nat} (hi : i < 24) (h : g2 (y_so i).1 (y_so i).2 = g (y_so i).1 (y_so i).2) : nR g2 i = nR g i := h
/-- the places of the row are all different -/
theorem so_at : ∀ i : Fin 24, ∀ r : Fin 2, ((y_so i.1).1 = 31 ∧ (y_so i.1).2 = r.1 → i.1 = 14 + r.1) ∧ ((y_so i.1).1 = 32 ∧ (y_so i.1).2 = r.1 → i.1 = 16 + r.1) := by decide
theorem so_at30 : ∀ i : Fin 24, ∀ p : Fin 7, (y_so i.1).1 = 30 ∧ (y_so i.1).2 = p.1 → i.1 = 7 + p.1 := by decide
theorem so_at28 : ∀ i : Fin 24, (y_so i.1).1 = 28 → ((y_so i.1).2 = 7 → i.1 = 21) ∧ ((y_so i.1).2 = 8 → i.1 = 22) := by decide
/-- freeRail, in the class -/
theorem c_freeR {r p : Nat} (hr : r < 2) (hp : p < 7) (x : Int32) {s : u_H} (h : s.1 31 r = zi p) : u_c 141 [.inr (.inr 30), .inl (zi r), .inl x] s = some (none, (y_u (y_u (y_u s.1 30 p x) 31 r (u_k (-1))) 32 r (Int32.ofInt 0), s.2)) := by
  have hin : u_in (zi r) 2 = true := (u_inz (by omega)).mpr hr
  have hcl : (zi r).toNatClampNeg = r := zi_clamp (by omega)
  rw [b_141, if_pos hin, hcl, h, if_pos ((u_inz (by omega)).mpr hp), if_pos hin, if_pos hin, zi_clamp (by omega)]
/-- frees, in the model: nothing is held -/
theorem m_freeR {r : Nat} (hr : r < 3) {s : u_H} (h : s.1 88 r = 0) : u_c 210 [.inr (.inr 67), .inl (zi r)] s = some (none, (y_u (y_u (y_u s.1 86 (18 + r) (u_k (-1))) 86 (21 + r) (Int32.ofInt 0)) 88 r (Int32.ofInt 0), s.2)) := by
  have hin : u_in (zi r) 3 = true := (u_inz (by omega)).mpr hr
  have hcl : (zi r).toNatClampNeg = r := zi_clamp (by omega)
  rw [b_210, show Int32.ofInt 18 = zi 18 from rfl, show Int32.ofInt 21 = zi 21 from rfl, zi_add, zi_add, if_pos ((u_inz (by omega)).mpr (by omega)), if_pos ((u_inz (by omega)).mpr (by omega)), if_pos hin, hcl, if_pos h, if_pos hin, zi_clamp (by omega), zi_clamp (by omega)]
/-- what working writes -/
def fWc (o k : Nat) : Prop := o = 30 ∨ o = 31 ∨ o = 32 ∨ (o = 28 ∧ k = 7)
def fWm (o : Nat) : Prop := o = 86 ∨ o = 88 ∨ o = 89
theorem fWc_a {o k : Nat} (hW : W = 5 ∨ W = 17) (h : fWc o k) : ¬ aWc W o k := fun q => by
  unfold aWc at q
  unfold fWc at h
  omega
/-- told alike, behind what working writes in the model: what is due stays none -/
theorem aW_work {a b R w : Nat} {c : List Int} {l : Bool} {f g f2 g2 : Nat → Nat → Int32} (h : aW W a b R w c l f g) (e1 : ∀ o k, aWc W o k → f2 o k = f o k) (e2 : ∀ o k, aWm o k → o ≠ 88 → g2 o k = g o k) (e3 : ∀ r, r < 3 → g2 88 r = 0) : aW W a b R w c l f2 g2 := by
  have h0 := aW_fr (f2 := f2) (g2 := fun o k => if o = 88 then g o k else g2 o k) h e1 (fun o k q => by
    by_cases x : o = 88
    · show (if o = 88 then g o k else g2 o k) = _
      rw [if_pos x]
    · show (if o = 88 then g o k else g2 o k) = _
      rw [if_neg x]
      exact e2 o k q x)
  obtain ⟨h1, h2, h3, h4, h5, h6⟩ := h0
  exact ⟨h1, h2, h3, h4, h5, fun r hr => ⟨(h6 r hr).1, e3 r hr⟩⟩
/-- one RAIL's minute -/
theorem work1 (hW : W = 5 ∨ W = 17) {a b R w r : Nat} {c : List Int} {l : Bool} {sC sM : u_H} {li lj : Nat → Int32} {ll lm : Nat → Int64} (J : jR W a b R w c l sC sM) (hr : r < R) (h1 : li 2 = zi r) (h2 : lj 3 = zi r) (h3 : lj 2 = li 1) : ∃ (li2 lj2 : Nat → Int32) (s2 t2 : u_H), u g_t82 4 (li, ll, [(0, 2)]) [] sC = u g_t82 4 (li2, ll, [(0, 2)]) [] s2 ∧ u g_t212 74 (lj, lm, [(0, 67)]) [] sM = u g_t212 74 (lj2, lm, [(0, 67)]) [] t2 ∧ li2 2 = zi (r + 1) ∧ lj2 3 = zi (r + 1) ∧ lj2 2 = li2 1 ∧ jR W a b R w c l s2 t2 ∧ u_fr fWc sC s2 ∧ u_fr (fun o _ => fWm o) sM t2 := by
  obtain ⟨J1, J2, J3⟩ := J
  have hb : b ≤ 7 := J2.1.2.1
  have hR : R ≤ 2 := J2.1.2.2.2
  have h10 : sC.1 (W - 2) 10 = zi R := J2.2.1.2.2.1
  have h28 : sM.1 65 28 = zi R := J2.2.1.2.2.2.2.2.1
  obtain ⟨L1, L2, L3, L4⟩ := J3.2.2.2
  obtain ⟨x1, x2, x3⟩ := L1 r (by omega)
  have c31 : nR sC.1 (14 + r) = sC.1 31 r := nRp (by omega)
  have c32 : nR sC.1 (16 + r) = sC.1 32 r := nRt (by omega)
  have hin : u_in (zi r) 2 = true := (u_inz (by omega)).mpr (by omega)
  have hcl : (zi r).toNatClampNeg = r := zi_clamp (by omega)
  have hlt : zi r < zi R := (zi_lt (by omega) (by omega)).mpr hr
  rcases x3 with x3 | ⟨-, p, t, y1, y2, y3, y4, y5, y6⟩
  · have m18 : sM.1 86 (18 + r) = u_k (-1) := x1.symm.trans x3
    refine ⟨u_l1 li 2 (zi (r + 1)), u_l1 lj 3 (zi (r + 1)), sC, sM, ?_, ?_, u_l1E _ _ _, u_l1E _ _ _, by rw [u_l1N (by omega), u_l1N (by omega)]; exact h3, ⟨J1, J2, J3⟩, u_fr.rf, u_fr.rf⟩
    · rw [b_82_4 hW, if_pos J1, h1, h10, if_pos hlt, if_pos hin, hcl, if_pos (c31.symm.trans x3), zi_one]
    · rw [b_212_74, h2, h28, if_pos hlt, m_free (by omega) (Or.inl m18), u_biS, decide_eq_true m18, if_neg zb_yes, zi_one]
  · obtain ⟨t', rfl⟩ : ∃ t', t = t' + 1 := ⟨t - 1, by omega⟩
    have e31 : sC.1 31 r = zi p := c31.symm.trans y4
    have e32 : sC.1 32 r = zi (t' + 1) := c32.symm.trans y5
    have m18 : sM.1 86 (18 + r) = zi p := x1.symm.trans y4
    have m21 : sM.1 86 (21 + r) = zi (t' + 1) := x2.symm.trans y5
    have hsub : zi (t' + 1) - Int32.ofInt 1 = zi t' := by rw [show Int32.ofInt 1 = zi 1 from rfl, zi_sub (by omega), Nat.add_sub_cancel]
    have nfr : ¬ zi p = u_k (-1) := zi_n0 (by omega)
    have i18 : u_in (zi (18 + r)) 28 = true := (u_inz (by omega)).mpr (by omega)
    have i21 : u_in (zi (21 + r)) 28 = true := (u_inz (by omega)).mpr (by omega)
    have i9 : u_in (zi (9 + p)) 28 = true := (u_inz (by omega)).mpr (by omega)
    have i8 : u_in (zi p) 8 = true := (u_inz (by omega)).mpr (by omega)
    have k18 : (zi (18 + r)).toNatClampNeg = 18 + r := zi_clamp (by omega)
    have k21 : (zi (21 + r)).toNatClampNeg = 21 + r := zi_clamp (by omega)
    have k9 : (zi (9 + p)).toNatClampNeg = 9 + p := zi_clamp (by omega)
    have kp : (zi p).toNatClampNeg = p := zi_clamp (by omega)
    have s1 : u g_t82 4 (li, ll, [(0, 2)]) [] sC = if zi t' = 0 then (u_bv (u_c 141 [.inr (.inr 30), .inl (zi r), .inl (Int32.ofInt 2)] (y_u sC.1 32 r (zi t'), sC.2)) fun s1 => u g_t82 4 (u_l1 (u_l1 li 1 (li 1 ||| (Int32.ofInt 1 <<< (zi p &&& 31)))) 2 (zi (r + 1)), ll, [(0, 2)]) [] s1) else u g_t82 4 (u_l1 li 2 (zi (r + 1)), ll, [(0, 2)]) [] (y_u sC.1 32 r (zi t'), sC.2) := by
      rw [b_82_4 hW, if_pos J1, h1, h10, if_pos hlt, if_pos hin, hcl, e31, if_neg nfr, if_pos hin, if_pos hin, if_pos hin, e32, hsub, y_uE, if_pos hin, zi_one]
    have fz : (Int32.ofInt 18 : Int32) = zi 18 := rfl
    have t1 : u g_t212 74 (lj, lm, [(0, 67)]) [] sM = if 0 < zi t' then u g_t212 74 (u_l1 lj 3 (zi (r + 1)), lm, [(0, 67)]) [] (y_u sM.1 86 (21 + r) (zi t'), sM.2) else (u_bv (u_c 210 [.inr (.inr 67), .inl (zi r)] (y_u (y_u (y_u sM.1 86 (21 + r) (zi t')) 86 (9 + p) (Int32.ofInt 2)) 89 p (sM.1 65 62), sM.2)) fun s3 => u g_t212 74 (u_l1 (u_l1 (u_l1 lj 4 (zi p)) 2 (lj 2 ||| (Int32.ofInt 1 <<< (zi p &&& 31)))) 3 (zi (r + 1)), lm, [(0, 67)]) [] s3) := by
      rw [b_212_74, h2, h28, if_pos hlt, m_free (by omega) (Or.inr ⟨p, by omega, m18⟩), u_biS, m18, decide_eq_false nfr, if_pos zb_no, show Int32.ofInt 21 = zi 21 from rfl, fz, show Int32.ofInt 9 = zi 9 from rfl, zi_add, zi_add, if_pos i21, if_pos i21, if_pos i21, k21, k18, m21, hsub, y_uE, y_uN (show ¬ ((86 : Nat) = 86 ∧ 18 + r = 21 + r) by omega), m18, zi_add, if_pos i18, if_pos i9, if_pos i8, k9, kp, zi_one]
    have a88 : sM.1 88 r = 0 := (J2.2.2.2.2.2 r (by omega)).2
    have w20 := J3.2.2.1.2.2.1
    rcases Nat.eq_zero_or_pos t' with z0 | z0
    · subst z0
      have f1 := c_freeR (r := r) (p := p) (by omega) (by omega) (Int32.ofInt 2) (s := (y_u sC.1 32 r (zi 0), sC.2)) (by show y_u sC.1 32 r (zi 0) 31 r = _; rw [y_uN (by omega)]; exact e31)
      have f2 := m_freeR (r := r) (by omega) (s := (y_u (y_u (y_u sM.1 86 (21 + r) (zi 0)) 86 (9 + p) (Int32.ofInt 2)) 89 p (sM.1 65 62), sM.2)) (by show y_u (y_u (y_u sM.1 86 (21 + r) (zi 0)) 86 (9 + p) (Int32.ofInt 2)) 89 p (sM.1 65 62) 88 r = _; rw [y_uN (by omega), y_uN (by omega), y_uN (by omega)]; exact a88)
      have fC : u_fr fWc sC (y_u (y_u (y_u (y_u sC.1 32 r (zi 0)) 30 p (Int32.ofInt 2)) 31 r (u_k (-1))) 32 r (Int32.ofInt 0), sC.2) := u_fr.wi (u_fr.wi (u_fr.wi (u_fr.wi (f := sC.1) (r := sC.2) u_fr.rf (Or.inr (Or.inr (Or.inl rfl)))) (Or.inl rfl)) (Or.inr (Or.inl rfl))) (Or.inr (Or.inr (Or.inl rfl)))
      have fM : u_fr (fun o _ => fWm o) sM (y_u (y_u (y_u (y_u (y_u (y_u sM.1 86 (21 + r) (zi 0)) 86 (9 + p) (Int32.ofInt 2)) 89 p (sM.1 65 62)) 86 (18 + r) (u_k (-1))) 86 (21 + r) (Int32.ofInt 0)) 88 r (Int32.ofInt 0), sM.2) := u_fr.wi (u_fr.wi (u_fr.wi (u_fr.wi (u_fr.wi (u_fr.wi (f := sM.1) (r := sM.2) u_fr.rf (Or.inl rfl)) (Or.inl rfl)) (Or.inr (Or.inr rfl))) (Or.inl rfl)) (Or.inl rfl)) (Or.inr (Or.inl rfl))
      have NC : ∀ i, i < 24 → i ≠ 14 + r → i ≠ 16 + r → i ≠ 7 + p → nR (y_u (y_u (y_u (y_u sC.1 32 r (zi 0)) 30 p (Int32.ofInt 2)) 31 r (u_k (-1))) 32 r (Int32.ofInt 0)) i = nR sC.1 i := fun i hi q1 q2 q3 => by
        have g1 := so_at ⟨i, hi⟩ ⟨r, by omega⟩
        have g2 := so_at30 ⟨i, hi⟩ ⟨p, by omega⟩
        show y_u (y_u (y_u (y_u sC.1 32 r (zi 0)) 30 p (Int32.ofInt 2)) 31 r (u_k (-1))) 32 r (Int32.ofInt 0) (y_so i).1 (y_so i).2 = _
        rw [y_uN (fun q => q2 (g1.2 q)), y_uN (fun q => q1 (g1.1 q)), y_uN (fun q => q3 (g2 q)), y_uN (fun q => q2 (g1.2 q))]
      have NM : ∀ i, i ≠ 18 + r → i ≠ 21 + r → i ≠ 9 + p → y_u (y_u (y_u (y_u (y_u (y_u sM.1 86 (21 + r) (zi 0)) 86 (9 + p) (Int32.ofInt 2)) 89 p (sM.1 65 62)) 86 (18 + r) (u_k (-1))) 86 (21 + r) (Int32.ofInt 0)) 88 r (Int32.ofInt 0) 86 i = sM.1 86 i := fun i q1 q2 q3 => by
        rw [y_uN (by omega), y_uN (by omega), y_uN (by omega), y_uN (by omega), y_uN (by omega), y_uN (by omega)]
      refine ⟨u_l1 (u_l1 li 1 (li 1 ||| (Int32.ofInt 1 <<< (zi p &&& 31)))) 2 (zi (r + 1)), u_l1 (u_l1 (u_l1 lj 4 (zi p)) 2 (lj 2 ||| (Int32.ofInt 1 <<< (zi p &&& 31)))) 3 (zi (r + 1)), (y_u (y_u (y_u (y_u sC.1 32 r (zi 0)) 30 p (Int32.ofInt 2)) 31 r (u_k (-1))) 32 r (Int32.ofInt 0), sC.2), (y_u (y_u (y_u (y_u (y_u (y_u sM.1 86 (21 + r) (zi 0)) 86 (9 + p) (Int32.ofInt 2)) 89 p (sM.1 65 62)) 86 (18 + r) (u_k (-1))) 86 (21 + r) (Int32.ofInt 0)) 88 r (Int32.ofInt 0), sM.2), ?_, ?_, u_l1E _ _ _, u_l1E _ _ _, ?_, ⟨J1, ?_, ?_⟩, fC, fM⟩
      · rw [s1, if_pos (show zi 0 = 0 from rfl), f1, u_bvS]
        first | done | rfl
      · rw [t1, if_neg (show ¬ 0 < zi 0 by decide), f2, u_bvS]
        first | done | rfl
      · rw [u_l1N (by omega), u_l1E, u_l1N (by omega), u_l1E, h3]
      · refine aW_work J2 (fun o k q => fC.i (fun y => fWc_a hW y q)) (fun o k q q2 => fM.i (fun y => ?_)) (fun j hj => ?_)
        · unfold aWm at q
          unfold fWm at y
          omega
        · by_cases x : j = r
          · subst x
            first | exact y_uE _ _ _ _ | (dsimp only; exact y_uE _ _ _ _)
          · show y_u (y_u (y_u (y_u (y_u (y_u sM.1 86 (21 + r) (zi 0)) 86 (9 + p) (Int32.ofInt 2)) 89 p (sM.1 65 62)) 86 (18 + r) (u_k (-1))) 86 (21 + r) (Int32.ofInt 0)) 88 r (Int32.ofInt 0) 88 j = _
            rw [y_uN (by omega), y_uN (by omega), y_uN (by omega), y_uN (by omega), y_uN (by omega), y_uN (by omega)]
            exact (J2.2.2.2.2.2 j hj).2
      · dsimp only
        refine aR_free (r := r) (p := p) (h := 2) hb J3 (by omega) y4 y1 (by omega) (by omega) (fun i hi q1 q2 q3 _ => NC i hi q1 q2 q3) (fun i _ q1 q2 q3 _ => NM i q1 q2 q3) ⟨?_, ?_⟩ ⟨?_, ?_⟩ ⟨?_, ?_⟩ ((NC 21 (by omega) (by omega) (by omega) (by omega)).trans (w20.trans (NM 25 (by omega) (by omega) (by omega)).symm))
        · rw [nRp (by omega), y_uN (by omega), y_uE]
        · rw [y_uN (by omega), y_uN (by omega), y_uE]
        · rw [nRt (by omega), y_uE]
          rfl
        · rw [y_uN (by omega), y_uE]
          rfl
        · rw [nRh (by omega), y_uN (by omega), y_uN (by omega), y_uE]
          rfl
        · rw [y_uN (by omega), y_uN (by omega), y_uN (by omega), y_uN (by omega), y_uE]
          rfl
    · have fC : u_fr fWc sC (y_u sC.1 32 r (zi t'), sC.2) := u_fr.wi (f := sC.1) (r := sC.2) u_fr.rf (Or.inr (Or.inr (Or.inl rfl)))
      have fM : u_fr (fun o _ => fWm o) sM (y_u sM.1 86 (21 + r) (zi t'), sM.2) := u_fr.wi (f := sM.1) (r := sM.2) u_fr.rf (Or.inl rfl)
      have ne0 : ¬ zi t' = 0 := fun q => by
        have := (zi_eq0 (by omega)).mp q
        omega
      have gt0 : 0 < zi t' := (zi_lt (a := 0) (by omega) (by omega)).mpr z0
      refine ⟨u_l1 li 2 (zi (r + 1)), u_l1 lj 3 (zi (r + 1)), (y_u sC.1 32 r (zi t'), sC.2), (y_u sM.1 86 (21 + r) (zi t'), sM.2), ?_, ?_, u_l1E _ _ _, u_l1E _ _ _, by rw [u_l1N (by omega), u_l1N (by omega)]; exact h3, ⟨J1, ?_, ?_⟩, fC, fM⟩
      · rw [s1, if_neg ne0]
      · rw [t1, if_pos gt0]
      · refine aW_work J2 (fun o k q => fC.i (fun y => fWc_a hW y q)) (fun o k q q2 => fM.i (fun y => ?_)) (fun j hj => ?_)
        · unfold aWm at q
          unfold fWm at y
          omega
        · show y_u sM.1 86 (21 + r) (zi t') 88 j = _
          rw [y_uN (by omega)]
          exact (J2.2.2.2.2.2 j hj).2
      · dsimp only
        refine aR_less (r := r) (p := p) (t := t') hb J3 (by omega) y4 y1 y5 z0 (by omega) (fun i hi q => ?_) (fun i hi q => ?_) ⟨?_, ?_⟩
        · have g1 := so_at ⟨i, hi⟩ ⟨r, by omega⟩
          show y_u sC.1 32 r (zi t') (y_so i).1 (y_so i).2 = _
          rw [y_uN (fun q2 => q (g1.2 q2))]
        · exact y_uN (by omega)
        · rw [nRt (by omega), y_uE]
        · first | exact y_uE _ _ _ _ | (dsimp only; exact y_uE _ _ _ _)
/-- all RAILS' minute -/
theorem work_all (hW : W = 5 ∨ W = 17) {a b R w : Nat} {c : List Int} {l : Bool} : ∀ (f r : Nat) (li lj : Nat → Int32) (ll lm : Nat → Int64) (sC sM : u_H), R - r ≤ f → r ≤ R → jR W a b R w c l sC sM → li 2 = zi r → lj 3 = zi r → lj 2 = li 1 → ∃ (x : Int32) (lj2 : Nat → Int32) (s2 t2 : u_H), u g_t82 4 (li, ll, [(0, 2)]) [] sC = some (some (.inl x), s2) ∧ u g_t212 74 (lj, lm, [(0, 67)]) [] sM = u g_t212 74 (lj2, lm, [(0, 67)]) [] t2 ∧ lj2 3 = zi R ∧ lj2 2 = x ∧ jR W a b R w c l s2 t2 ∧ u_fr fWc sC s2 ∧ u_fr (fun o _ => fWm o) sM t2 := by
  intro f
  induction f with
  | zero =>
    intro r li lj ll lm sC sM hf hr J h1 h2 h3
    have e : r = R := by omega
    subst e
    have hR : r ≤ 2 := J.2.1.1.2.2.2
    refine ⟨li 1, lj, sC, sM, ?_, rfl, h2, h3, J, u_fr.rf, u_fr.rf⟩
    rw [b_82_4 hW, if_pos J.1, h1, show sC.1 (W - 2) 10 = zi r from J.2.1.2.1.2.2.1, if_neg (by rw [zi_lt (by omega) (by omega)]; omega)]
  | succ f ih =>
    intro r li lj ll lm sC sM hf hr J h1 h2 h3
    by_cases q : r < R
    · obtain ⟨li2, lj2, s2, t2, e1, e2, e3, e4, e5, e6, e7, e8⟩ := work1 hW (ll := ll) (lm := lm) J q h1 h2 h3
      obtain ⟨x, lj3, s3, t3, g1, g2, g3, g4, g5, g6, g7⟩ := ih (r + 1) li2 lj2 ll lm s2 t2 (by omega) (by omega) e6 e3 e4 e5
      exact ⟨x, lj3, s3, t3, e1.trans g1, e2.trans g2, g3, g4, g5, e7.tr g6, e8.tr g7⟩
    · have e : r = R := by omega
      subst e
      have hR : r ≤ 2 := J.2.1.1.2.2.2
      refine ⟨li 1, lj, sC, sM, ?_, rfl, h2, h3, J, u_fr.rf, u_fr.rf⟩
      rw [b_82_4 hW, if_pos J.1, h1, show sC.1 (W - 2) 10 = zi r from J.2.1.2.1.2.2.1, if_neg (by rw [zi_lt (by omega) (by omega)]; omega)]
end WORK
