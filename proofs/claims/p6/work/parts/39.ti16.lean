/-! THOSE CUT OFF AT THE RAILS: both sides -/
section CUT
variable {W : Nat}
theorem cut1 (hW : W = 5 ∨ W = 17) {a b R w r : Nat} {c : List Int} {l : Bool} {sC sM : u_H} {li lj : Nat → Int32} {ll lm : Nat → Int64} (J : jR W a b R w c l sC sM) (hr : r < R) (h1 : li 1 = zi r) (h2 : lj 3 = zi r) : ∃ (s2 t2 : u_H), u g_t15 2 (li, ll, [(0, 2)]) [] sC = u g_t15 2 (u_l1 li 1 (zi (r + 1)), ll, [(0, 2)]) [] s2 ∧ u g_t212 185 (lj, lm, [(0, 67)]) [] sM = u g_t212 185 (u_l1 lj 3 (zi (r + 1)), lm, [(0, 67)]) [] t2 ∧ jR W a b R w c l s2 t2 ∧ u_fr fWc sC s2 ∧ u_fr (fun o _ => fWm o) sM t2 := by
  have J0 := J
  obtain ⟨J1, J2, J3⟩ := J0
  have ha : a ≤ 5 := J2.1.1
  have hb : b ≤ 7 := J2.1.2.1
  have hR : R ≤ 2 := J2.1.2.2.2
  have h10 : sC.1 (W - 2) 10 = zi R := J2.2.1.2.2.1
  have h28 : sM.1 65 28 = zi R := J2.2.1.2.2.2.2.2.1
  have hl29 : sM.1 65 29 = u_k (-1) := J2.2.1.2.2.2.2.2.2
  obtain ⟨L1, L2, L3, L4⟩ := J3.2.2.2
  obtain ⟨x1, x2, x3⟩ := L1 r (by omega)
  have c31 : nR sC.1 (14 + r) = sC.1 31 r := nRp (by omega)
  have hin : u_in (zi r) 2 = true := (u_inz (by omega)).mpr (by omega)
  have hcl : (zi r).toNatClampNeg = r := zi_clamp (by omega)
  have hlt : zi r < zi R := (zi_lt (by omega) (by omega)).mpr hr
  have fz : (Int32.ofInt 18 : Int32) = zi 18 := rfl
  rcases x3 with x3 | ⟨-, p, t, y1, y2, y3, y4, y5, y6⟩
  · have m18 : sM.1 86 (18 + r) = u_k (-1) := x1.symm.trans x3
    refine ⟨sC, sM, ?_, ?_, J, u_fr.rf, u_fr.rf⟩
    · rw [b_15_2 hW, if_pos J1, h1, h10, if_pos hlt, if_pos hin, hcl, if_pos (c31.symm.trans x3), zi_one]
    · rw [b_212_185, h2, h28, if_pos hlt, m_free (by omega) (Or.inl m18), u_biS, decide_eq_true m18, if_neg zb_yes, zi_one]
  · have e31 : sC.1 31 r = zi p := c31.symm.trans y4
    have m18 : sM.1 86 (18 + r) = zi p := x1.symm.trans y4
    have nfr : ¬ zi p = u_k (-1) := zi_n0 (by omega)
    obtain ⟨⟨v, v1, v2, v3⟩, -, -⟩ := J2.2.2.2.1 p y1
    obtain ⟨b1, b2⟩ := J2.2.2.1 v v1
    have i18 : u_in (zi (18 + r)) 28 = true := (u_inz (by omega)).mpr (by omega)
    have i9 : u_in (zi (9 + p)) 28 = true := (u_inz (by omega)).mpr (by omega)
    have i8 : u_in (zi p) 8 = true := (u_inz (by omega)).mpr (by omega)
    have i7 : u_in (zi p) 7 = true := (u_inz (by omega)).mpr (by omega)
    have k18 : (zi (18 + r)).toNatClampNeg = 18 + r := zi_clamp (by omega)
    have k9 : (zi (9 + p)).toNatClampNeg = 9 + p := zi_clamp (by omega)
    have kp : (zi p).toNatClampNeg = p := zi_clamp (by omega)
    have hmin : sC.1 28 8 = sM.1 86 26 := by
      obtain ⟨t, t1, t2, t3⟩ := J3.2.2.1.2.2.2.1
      exact (show sC.1 28 8 = zi t from t2).trans t3.symm
    rcases gone_alike hW (v := v) (sC := sC) (sM := sM) (by omega) J1 J3.2.2.1.2.1 b1 b2 hmin hl29 with ⟨q, q1, q2⟩ | ⟨q, q1, q2⟩
    · refine ⟨sC, sM, ?_, ?_, J, u_fr.rf, u_fr.rf⟩
      · rw [b_15_2 hW, if_pos J1, h1, h10, if_pos hlt, if_pos hin, hcl, e31, if_neg nfr, if_pos J1, if_pos hin, if_pos i7, kp, v2, q1, u_biS, if_pos (show Int32.ofInt 0 = 0 by decide), zi_one]
      · rw [b_212_185, h2, h28, if_pos hlt, m_free (by omega) (Or.inr ⟨p, by omega, m18⟩), u_biS, m18, decide_eq_false nfr, if_pos zb_no, fz, zi_add, if_pos i18, k18, m18, if_pos i8, kp, v3, q2, u_biS, if_pos (show Int32.ofInt 0 = 0 by decide), zi_one]
    · have a88 : sM.1 88 r = 0 := (J2.2.2.2.2.2 r (by omega)).2
      have w20 := J3.2.2.1.2.2.1
      have f1 := c_freeR (r := r) (p := p) (by omega) (by omega) (Int32.ofInt 3) (s := sC) e31
      have f2 : u_c 261 [.inr (.inr 67), .inl (zi p)] sM = some (none, (y_u (y_u sM.1 86 (9 + p) (Int32.ofInt 3)) 86 25 (y_u sM.1 86 (9 + p) (Int32.ofInt 3) 86 25 + Int32.ofInt 1), sM.2)) := by
        rw [b_261, show Int32.ofInt 9 = zi 9 from rfl, zi_add, if_pos i9, k9]
      have f3 := m_freeR (r := r) (by omega) (s := (y_u (y_u sM.1 86 (9 + p) (Int32.ofInt 3)) 86 25 (y_u sM.1 86 (9 + p) (Int32.ofInt 3) 86 25 + Int32.ofInt 1), sM.2)) (by dsimp only; rw [y_uN (by omega), y_uN (by omega)]; exact a88)
      have fC : u_fr fWc sC (y_u (y_u (y_u (y_u sC.1 30 p (Int32.ofInt 3)) 31 r (u_k (-1))) 32 r (Int32.ofInt 0)) 28 7 (y_u (y_u (y_u sC.1 30 p (Int32.ofInt 3)) 31 r (u_k (-1))) 32 r (Int32.ofInt 0) 28 7 + Int32.ofInt 1), sC.2) := u_fr.wi (u_fr.wi (u_fr.wi (u_fr.wi (f := sC.1) (r := sC.2) u_fr.rf (Or.inl rfl)) (Or.inr (Or.inl rfl))) (Or.inr (Or.inr (Or.inl rfl)))) (Or.inr (Or.inr (Or.inr ⟨rfl, rfl⟩)))
      have fM : u_fr (fun o _ => fWm o) sM (y_u (y_u (y_u (y_u (y_u sM.1 86 (9 + p) (Int32.ofInt 3)) 86 25 (y_u sM.1 86 (9 + p) (Int32.ofInt 3) 86 25 + Int32.ofInt 1)) 86 (18 + r) (u_k (-1))) 86 (21 + r) (Int32.ofInt 0)) 88 r (Int32.ofInt 0), sM.2) := u_fr.wi (u_fr.wi (u_fr.wi (u_fr.wi (u_fr.wi (f := sM.1) (r := sM.2) u_fr.rf (Or.inl rfl)) (Or.inl rfl)) (Or.inl rfl)) (Or.inl rfl)) (Or.inr (Or.inl rfl))
      have NC : ∀ i, i < 24 → i ≠ 14 + r → i ≠ 16 + r → i ≠ 7 + p → i ≠ 21 → nR (y_u (y_u (y_u (y_u sC.1 30 p (Int32.ofInt 3)) 31 r (u_k (-1))) 32 r (Int32.ofInt 0)) 28 7 (y_u (y_u (y_u sC.1 30 p (Int32.ofInt 3)) 31 r (u_k (-1))) 32 r (Int32.ofInt 0) 28 7 + Int32.ofInt 1)) i = nR sC.1 i := fun i hi q1 q2 q3 q4 => by
        have g1 := so_at ⟨i, hi⟩ ⟨r, by omega⟩
        have g2 := so_at30 ⟨i, hi⟩ ⟨p, by omega⟩
        have g3 := so_at28 ⟨i, hi⟩
        show y_u (y_u (y_u (y_u sC.1 30 p (Int32.ofInt 3)) 31 r (u_k (-1))) 32 r (Int32.ofInt 0)) 28 7 (y_u (y_u (y_u sC.1 30 p (Int32.ofInt 3)) 31 r (u_k (-1))) 32 r (Int32.ofInt 0) 28 7 + Int32.ofInt 1) (y_so i).1 (y_so i).2 = _
        rw [y_uN (fun q => q4 ((g3 q.1).1 q.2)), y_uN (fun q => q2 (g1.2 q)), y_uN (fun q => q1 (g1.1 q)), y_uN (fun q => q3 (g2 q))]
      have NM : ∀ i, i ≠ 18 + r → i ≠ 21 + r → i ≠ 9 + p → i ≠ 25 → y_u (y_u (y_u (y_u (y_u sM.1 86 (9 + p) (Int32.ofInt 3)) 86 25 (y_u sM.1 86 (9 + p) (Int32.ofInt 3) 86 25 + Int32.ofInt 1)) 86 (18 + r) (u_k (-1))) 86 (21 + r) (Int32.ofInt 0)) 88 r (Int32.ofInt 0) 86 i = sM.1 86 i := fun i q1 q2 q3 q4 => by
        rw [y_uN (by omega), y_uN (by omega), y_uN (by omega), y_uN (by omega), y_uN (by omega)]
      refine ⟨(y_u (y_u (y_u (y_u sC.1 30 p (Int32.ofInt 3)) 31 r (u_k (-1))) 32 r (Int32.ofInt 0)) 28 7 (y_u (y_u (y_u sC.1 30 p (Int32.ofInt 3)) 31 r (u_k (-1))) 32 r (Int32.ofInt 0) 28 7 + Int32.ofInt 1), sC.2), (y_u (y_u (y_u (y_u (y_u sM.1 86 (9 + p) (Int32.ofInt 3)) 86 25 (y_u sM.1 86 (9 + p) (Int32.ofInt 3) 86 25 + Int32.ofInt 1)) 86 (18 + r) (u_k (-1))) 86 (21 + r) (Int32.ofInt 0)) 88 r (Int32.ofInt 0), sM.2), ?_, ?_, ⟨J1, ?_, ?_⟩, fC, fM⟩
      · rw [b_15_2 hW, if_pos J1, h1, h10, if_pos hlt, if_pos hin, hcl, e31, if_neg nfr, if_pos J1, if_pos hin, if_pos i7, kp, v2, q1, u_biS, if_neg (show ¬ Int32.ofInt 1 = 0 by decide), f1, u_bvS, zi_one]
        first | done | rfl
      · rw [b_212_185, h2, h28, if_pos hlt, m_free (by omega) (Or.inr ⟨p, by omega, m18⟩), u_biS, m18, decide_eq_false nfr, if_pos zb_no, fz, zi_add, if_pos i18, k18, m18, if_pos i8, kp, v3, q2, u_biS, if_neg (show ¬ Int32.ofInt 1 = 0 by decide), if_pos i18, m18, f2, u_bvS, f3, u_bvS, zi_one]
        first | done | rfl
      · refine aW_work J2 (fun o k q => fC.i (fun y => fWc_a hW y q)) (fun o k q q2 => fM.i (fun y => ?_)) (fun j hj => ?_)
        · unfold aWm at q
          unfold fWm at y
          omega
        · by_cases x : j = r
          · subst x
            first | exact y_uE _ _ _ _ | (dsimp only; exact y_uE _ _ _ _)
          · try dsimp only
            rw [y_uN (by omega), y_uN (by omega), y_uN (by omega), y_uN (by omega), y_uN (by omega)]
            exact (J2.2.2.2.2.2 j hj).2
      · dsimp only
        refine aR_free (r := r) (p := p) (h := 3) hb J3 (by omega) y4 y1 (by omega) (by omega) NC (fun i _ q1 q2 q3 q4 => NM i q1 q2 q3 q4) ⟨?_, ?_⟩ ⟨?_, ?_⟩ ⟨?_, ?_⟩ ?_
        · rw [nRp (by omega), y_uN (by omega), y_uN (by omega), y_uE]
        · rw [y_uN (by omega), y_uN (by omega), y_uE]
        · rw [nRt (by omega), y_uN (by omega), y_uE]
          rfl
        · rw [y_uN (by omega), y_uE]
          rfl
        · rw [nRh (by omega), y_uN (by omega), y_uN (by omega), y_uN (by omega), y_uE]
          rfl
        · rw [y_uN (by omega), y_uN (by omega), y_uN (by omega), y_uN (by omega), y_uE]
          rfl
        · show y_u (y_u (y_u (y_u sC.1 30 p (Int32.ofInt 3)) 31 r (u_k (-1))) 32 r (Int32.ofInt 0)) 28 7 (y_u (y_u (y_u sC.1 30 p (Int32.ofInt 3)) 31 r (u_k (-1))) 32 r (Int32.ofInt 0) 28 7 + Int32.ofInt 1) 28 7 = _
          rw [y_uE, y_uN (by omega), y_uN (by omega), y_uN (by omega), y_uN (show ¬ ((86 : Nat) = 88 ∧ 25 = r) by omega), y_uN (by omega), y_uN (by omega), y_uE, y_uN (by omega)]
          exact congrArg (· + Int32.ofInt 1) w20
theorem cut_all (hW : W = 5 ∨ W = 17) {a b R w : Nat} {c : List Int} {l : Bool} : ∀ (f r : Nat) (li lj : Nat → Int32) (ll lm : Nat → Int64) (sC sM : u_H), R - r ≤ f → r ≤ R → jR W a b R w c l sC sM → li 1 = zi r → lj 3 = zi r → ∃ (s2 t2 : u_H), u g_t15 2 (li, ll, [(0, 2)]) [] sC = some (none, s2) ∧ u g_t212 185 (lj, lm, [(0, 67)]) [] sM = some (some (.inl (lj 2)), t2) ∧ jR W a b R w c l s2 t2 ∧ u_fr fWc sC s2 ∧ u_fr (fun o _ => fWm o) sM t2 := by
  intro f
  have stop : ∀ (r : Nat) (li lj : Nat → Int32) (ll lm : Nat → Int64) (sC sM : u_H), r = R → jR W a b R w c l sC sM → li 1 = zi r → lj 3 = zi r → ∃ (s2 t2 : u_H), u g_t15 2 (li, ll, [(0, 2)]) [] sC = some (none, s2) ∧ u g_t212 185 (lj, lm, [(0, 67)]) [] sM = some (some (.inl (lj 2)), t2) ∧ jR W a b R w c l s2 t2 ∧ u_fr fWc sC s2 ∧ u_fr (fun o _ => fWm o) sM t2 := by
    intro r li lj ll lm sC sM e J h1 h2
    subst e
    have hR : r ≤ 2 := J.2.1.1.2.2.2
    refine ⟨sC, sM, ?_, ?_, J, u_fr.rf, u_fr.rf⟩
    · rw [b_15_2 hW, if_pos J.1, h1, show sC.1 (W - 2) 10 = zi r from J.2.1.2.1.2.2.1, if_neg (by rw [zi_lt (by omega) (by omega)]; omega)]
    · rw [b_212_185, h2, show sM.1 65 28 = zi r from J.2.1.2.1.2.2.2.2.2.1, if_neg (by rw [zi_lt (by omega) (by omega)]; omega)]
  induction f with
  | zero =>
    intro r li lj ll lm sC sM hf hr J h1 h2
    exact stop r li lj ll lm sC sM (by omega) J h1 h2
  | succ f ih =>
    intro r li lj ll lm sC sM hf hr J h1 h2
    by_cases q : r < R
    · obtain ⟨s2, t2, e1, e2, e6, e7, e8⟩ := cut1 hW (ll := ll) (lm := lm) J q h1 h2
      obtain ⟨s3, t3, g1, g2, g5, g6, g7⟩ := ih (r + 1) (u_l1 li 1 (zi (r + 1))) (u_l1 lj 3 (zi (r + 1))) ll lm s2 t2 (by omega) (by omega) e6 (u_l1E _ _ _) (u_l1E _ _ _)
      refine ⟨s3, t3, e1.trans g1, (e2.trans g2).trans ?_, g5, e7.tr g6, e8.tr g7⟩
      rw [u_l1N (by omega)]
    · exact stop r li lj ll lm sC sM (by omega) J h1 h2
/-- a minute more -/
theorem aR_min {b R : Nat} {c m c2 m2 : Nat → Int32} {t : Nat} (hb : b ≤ 7) (H : aR b R c m) (ht : t ≤ 999) (e1 : ∀ i, i < 24 → i ≠ 22 → c2 i = c i) (e2 : ∀ i, i < 28 → i ≠ 26 → m2 i = m i) (e3 : c2 22 = zi t ∧ m2 26 = zi t) : aR b R c2 m2 := by
  obtain ⟨H1, H2, H3, H4⟩ := H
  refine ⟨aQ_eq H1 hb (fun k hk => e1 k (by omega) (by omega)) (e1 18 (by omega) (by omega)) (fun k hk => e2 k (by omega) (by omega)), aH_eq H2 (fun q hq => e1 _ (by omega) (by omega)) (fun q hq => e2 _ (by omega) (by omega)), ?_, aL_eq H4 (fun k _ hk => e1 k (by omega) (by omega)) (fun k _ hk => e2 k (by omega) (by omega)) (fun p hp e => (e1 (7 + p) (by omega) (by omega)).trans e)⟩
  obtain ⟨a1, a2, a3, -, a5⟩ := H3
  refine ⟨?_, ?_, ?_, ⟨t, ht, e3.1, e3.2⟩, ?_⟩
  · rw [e1 19 (by omega) (by omega), e2 17 (by omega) (by omega)]; exact a1
  · rw [e1 20 (by omega) (by omega), e2 24 (by omega) (by omega)]; exact a2
  · rw [e1 21 (by omega) (by omega), e2 25 (by omega) (by omega)]; exact a3
  · rw [e1 23 (by omega) (by omega), e2 27 (by omega) (by omega)]; exact a5
end CUT
