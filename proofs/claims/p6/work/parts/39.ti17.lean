/-! A MINUTE, but for what is kept of it: both sides -/
section MIN
variable {W : Nat}
theorem fills (hW : W = 5 ∨ W = 17) {a b R w : Nat} {c : List Int} {l : Bool} : ∀ (f r : Nat) (li lj : Nat → Int32) (ll lm : Nat → Int64) (sC sM : u_H), R - r ≤ f → r ≤ R → jR W a b R w c l sC sM → li 1 = zi r → lj 3 = zi r → lj 1 = Int32.ofInt 1 → ∃ (li2 lj2 : Nat → Int32) (s2 t2 : u_H), u g_t48 27 (li, ll, [(0, 2)]) [] sC = u g_t48 27 (li2, ll, [(0, 2)]) [] s2 ∧ u g_t212 4 (lj, lm, [(0, 67)]) [] sM = u g_t212 4 (lj2, lm, [(0, 67)]) [] t2 ∧ li2 1 = zi R ∧ lj2 3 = zi R ∧ lj2 2 = lj 2 ∧ jR W a b R w c l s2 t2 ∧ u_fi (fun o k => fFc W o k) sC s2 ∧ u_fr (fun o _ => fFm o) sM t2 := by
  intro f
  induction f with
  | zero =>
    intro r li lj ll lm sC sM hf hr J h1 h2 h3
    have e : r = R := by omega
    subst e
    exact ⟨li, lj, sC, sM, rfl, rfl, h1, h2, rfl, J, u_fi.rf, u_fr.rf⟩
  | succ f ih =>
    intro r li lj ll lm sC sM hf hr J h1 h2 h3
    by_cases q : r < R
    · have J0 := J
      obtain ⟨J1, J2, J3⟩ := J0
      have hb : b ≤ 7 := J2.1.2.1
      have hR : R ≤ 2 := J2.1.2.2.2
      have h10 : sC.1 (W - 2) 10 = zi R := J2.2.1.2.2.1
      have h28 : sM.1 65 28 = zi R := J2.2.1.2.2.2.2.2.1
      obtain ⟨L1, L2, L3, L4⟩ := J3.2.2.2
      obtain ⟨x1, x2, x3⟩ := L1 r (by omega)
      have c31 : nR sC.1 (14 + r) = sC.1 31 r := nRp (by omega)
      have hin : u_in (zi r) 2 = true := (u_inz (by omega)).mpr (by omega)
      have hin3 : u_in (zi r) 3 = true := (u_inz (by omega)).mpr (by omega)
      have hcl : (zi r).toNatClampNeg = r := zi_clamp (by omega)
      have hlt : zi r < zi R := (zi_lt (by omega) (by omega)).mpr q
      rcases x3 with x3 | ⟨-, p, t, y1, y2, y3, y4, y5, y6⟩
      · have m18 : sM.1 86 (18 + r) = u_k (-1) := x1.symm.trans x3
        have a87 : sM.1 87 r = 0 := (J2.2.2.2.2.2 r (by omega)).1
        obtain ⟨s1, t1, g1, g2, g3, g4, g5, g6⟩ := fill_alike hW J q
        obtain ⟨li2, lj2, s2, t2, k1, k2, k3, k4, k5, k6, k7, k8⟩ := ih (r + 1) (u_l1 li 1 (zi (r + 1))) (u_l1 lj 3 (zi (r + 1))) ll lm s1 t1 (by omega) (by omega) g3 (u_l1E _ _ _) (u_l1E _ _ _) ((u_l1N (by omega)).trans h3)
        refine ⟨li2, lj2, s2, t2, ?_, ?_, k3, k4, k5.trans (u_l1N (by omega)), k6, g5.tr k7, g6.tr k8⟩
        · rw [b_48_27 hW, if_pos J1, h1, h10, if_pos hlt, if_pos hin, hcl, if_pos (c31.symm.trans x3), g1, u_bvS, zi_one]
          exact k1
        · rw [b_212_4, h2, h28, if_pos hlt, m_free (by omega) (Or.inl m18), u_biS, decide_eq_true m18, if_neg zb_yes, if_pos hin3, hcl, a87, if_neg (show ¬ (0 : Int32) < 0 by decide), m_free (by omega) (Or.inl m18), u_biS, decide_eq_true m18, if_neg zb_yes, h3, g2, u_bvS, zi_one]
          exact k2
      · have e31 : sC.1 31 r = zi p := c31.symm.trans y4
        have m18 : sM.1 86 (18 + r) = zi p := x1.symm.trans y4
        have nfr : ¬ zi p = u_k (-1) := zi_n0 (by omega)
        obtain ⟨li2, lj2, s2, t2, k1, k2, k3, k4, k5, k6, k7, k8⟩ := ih (r + 1) (u_l1 li 1 (zi (r + 1))) (u_l1 lj 3 (zi (r + 1))) ll lm sC sM (by omega) (by omega) J (u_l1E _ _ _) (u_l1E _ _ _) ((u_l1N (by omega)).trans h3)
        refine ⟨li2, lj2, s2, t2, ?_, ?_, k3, k4, k5.trans (u_l1N (by omega)), k6, k7, k8⟩
        · rw [b_48_27 hW, if_pos J1, h1, h10, if_pos hlt, if_pos hin, hcl, e31, if_neg nfr, zi_one]
          exact k1
        · rw [b_212_4, h2, h28, if_pos hlt, m_free (by omega) (Or.inr ⟨p, by omega, m18⟩), u_biS, m18, decide_eq_false nfr, if_pos zb_no, m_free (by omega) (Or.inr ⟨p, by omega, m18⟩), u_biS, m18, decide_eq_false nfr, if_pos zb_no, zi_one]
          exact k2
    · have e : r = R := by omega
      subst e
      exact ⟨li, lj, sC, sM, rfl, rfl, h1, h2, rfl, J, u_fi.rf, u_fr.rf⟩
/-- what a minute writes -/
def fGc (W o : Nat) : Prop := (28 ≤ o ∧ o ≤ 32) ∨ fLc W o
def fGm (o k : Nat) : Prop := fFm o ∨ fWm o ∨ (o = 65 ∧ k = 62)
theorem minute_core (hW : W = 5 ∨ W = 17) {a b R w t : Nat} {c : List Int} {l : Bool} {sC sM : u_H} (J : jR W a b R w c l sC sM) (ht : t < 999) (h8 : sC.1 28 8 = zi t) : ∃ (x : Int32) (s4 t4 : u_H), u g_t48 27 (u_l1 u_z1 1 (Int32.ofInt 0), u_z2, [(0, 2)]) [] sC = (u_bv (u_c 94 [.inr (.inr 35), .inr (.inr 30)] s4) fun s5 => some (some (.inl x), s5)) ∧ u_c 212 [.inr (.inr 67), .inl (Int32.ofInt 1)] sM = some (some (.inl x), t4) ∧ jR W a b R w c l s4 t4 ∧ u_fi (fun o _ => fGc W o) sC s4 ∧ u_fr fGm sM t4 := by
  have hR : R ≤ 2 := J.2.1.1.2.2.2
  obtain ⟨li2, lj2, s1, t1, k1, k2, k3, k4, k5, k6, k7, k8⟩ := fills hW 2 0 (u_l1 u_z1 1 (Int32.ofInt 0)) (u_l1 (u_l1 (u_l1 u_z1 1 (Int32.ofInt 1)) 2 (Int32.ofInt 0)) 3 (Int32.ofInt 0)) u_z2 u_z2 sC sM (by omega) (Nat.zero_le _) J (u_l1E _ _ _) (u_l1E _ _ _) rfl
  have fT1 : u_fr fGm t1 (y_u t1.1 65 62 (t1.1 65 62 + Int32.ofInt 1), t1.2) := u_fr.wi (f := t1.1) (r := t1.2) u_fr.rf (Or.inr (Or.inr ⟨rfl, rfl⟩))
  have n1 : ∀ o k, o ≠ 65 → y_u t1.1 65 62 (t1.1 65 62 + Int32.ofInt 1) o k = t1.1 o k := fun o k h => y_uN (by omega)
  have J1 : jR W a b R w c l s1 (y_u t1.1 65 62 (t1.1 65 62 + Int32.ofInt 1), t1.2) := by
    refine ⟨k6.1, aW_fr k6.2.1 (fun o k _ => rfl) (fun o k q => ?_), aR_eq k6.2.2 k6.2.1.1.2.1 (fun k _ => rfl) (fun k _ => n1 86 k (by omega))⟩
    show y_u t1.1 65 62 (t1.1 65 62 + Int32.ofInt 1) o k = t1.1 o k
    unfold aWm at q
    rw [y_uN (by omega)]
  obtain ⟨x, lj3, s2, t2, g1, g2, g3, g4, g5, g6, g7⟩ := work_all hW 2 0 (u_l1 (u_l1 u_z1 1 (Int32.ofInt 0)) 2 (Int32.ofInt 0)) (u_l1 lj2 3 (Int32.ofInt 0)) u_z2 u_z2 s1 (y_u t1.1 65 62 (t1.1 65 62 + Int32.ofInt 1), t1.2) (by omega) (Nat.zero_le _) J1 (u_l1E _ _ _) (u_l1E _ _ _) ((u_l1N (by omega)).trans (k5.trans rfl))
  -- the minute
  have hb : b ≤ 7 := g5.2.1.1.2.1
  have e8 : s2.1 28 8 = zi t := by
    rw [g6.i (o := 28) (k := 8) (fun q => by unfold fWc at q; omega), k7.1 28 8 (fun q => by unfold fFc fLc at q; omega)]
    exact h8
  have e26 : t2.1 86 26 = zi t := by
    obtain ⟨t', q1, q2, q3⟩ := g5.2.2.2.2.1.2.2.2.1
    have e : t' = t := (zi_inj (by omega) (by omega)).mp ((show s2.1 28 8 = zi t' from q2).symm.trans e8)
    rw [q3, e]
  have J2 : jR W a b R w c l (y_u s2.1 28 8 (zi (t + 1)), s2.2) (y_u t2.1 86 26 (zi (t + 1)), t2.2) := by
    refine ⟨g5.1, aW_fr g5.2.1 (fun o k q => y_uN (fun y => by unfold aWc at q; omega)) (fun o k q => y_uN (fun y => by unfold aWm at q; omega)), aR_min (t := t + 1) hb g5.2.2 (by omega) (fun i hi q => ?_) (fun i hi q => y_uN (by omega)) ⟨?_, (by first | exact y_uE _ _ _ _ | (dsimp only; exact y_uE _ _ _ _))⟩⟩
    · have g3 := so_at28 ⟨i, hi⟩
      show y_u s2.1 28 8 (zi (t + 1)) (y_so i).1 (y_so i).2 = _
      rw [y_uN (fun y => q ((g3 y.1).2 y.2))]
    · exact y_uE s2.1 28 8 _
  obtain ⟨s3, t3, r1, r2, r3, r4, r5⟩ := cut_all hW 2 0 (u_l1 u_z1 1 (Int32.ofInt 0)) (u_l1 lj3 3 (Int32.ofInt 0)) u_z2 u_z2 (y_u s2.1 28 8 (zi (t + 1)), s2.2) (y_u t2.1 86 26 (zi (t + 1)), t2.2) (by omega) (Nat.zero_le _) J2 (u_l1E _ _ _) (u_l1E _ _ _)
  have h10 : s1.1 (W - 2) 10 = zi R := k6.2.1.2.1.2.2.1
  have h28 : t1.1 65 28 = zi R := k6.2.1.2.1.2.2.2.2.2.1
  have h28b : t2.1 65 28 = zi R := g5.2.1.2.1.2.2.2.2.2.1
  refine ⟨x, s3, t3, ?_, ?_, r3, ?_, ?_⟩
  · rw [k1, b_48_27 hW, if_pos k6.1, k3, h10, if_neg (by rw [zi_lt (by omega) (by omega)]; omega), b_82, g1, u_biS, e8, zi_one, b_15, r1, u_bvS]
  · rw [b_212, k2, b_212_4, k4, h28, if_neg (by rw [zi_lt (by omega) (by omega)]; omega), g2, b_212_74, g3, h28b, if_neg (by rw [zi_lt (by omega) (by omega)]; omega), e26, zi_one, r2, u_l1N (by omega), g4]
  · refine u_fi.tr (k7.mono (fun o k q => ?_)) (u_fi.tr (g6.fi.mono (fun o k q => ?_)) (u_fi.tr (u_fi.wi (f := s2.1) (r := s2.2) u_fi.rf (Or.inl (by omega))) (r4.fi.mono (fun o k q => ?_))))
    · unfold fFc at q
      rcases q with q | q | q
      · exact Or.inl (by omega)
      · exact Or.inl (by omega)
      · exact Or.inr q
    · unfold fWc at q
      exact Or.inl (by omega)
    · unfold fWc at q
      exact Or.inl (by omega)
  · refine (k8.mono (fun o k q => Or.inl q)).tr (fT1.tr ((g7.mono (fun o k q => Or.inr (Or.inl q))).tr ((u_fr.wi (f := t2.1) (r := t2.2) u_fr.rf (Or.inr (Or.inl (Or.inl rfl)))).tr (r5.mono (fun o k q => Or.inr (Or.inl q))))))
end MIN
