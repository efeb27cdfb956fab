/-! A RAIL IS FILLED, to its end: both sides -/
section FILL2
variable {W : Nat}
/-- what filling writes -/
def fFc (W o k : Nat) : Prop := (o = 28 ∧ k ≠ 8) ∨ (29 ≤ o ∧ o ≤ 32) ∨ fLc W o
def fFm (o : Nat) : Prop := o = 73 ∨ o = 74 ∨ o = 86 ∨ o = 90
theorem fLc_no {o : Nat} (hW : W = 5 ∨ W = 17) (h : (27 ≤ o ∧ o < 36) ∨ o = W - 2) : ¬ fLc W o := fun q => by
  unfold fLc at q
  omega
theorem fFc_a {o k : Nat} (hW : W = 5 ∨ W = 17) (h : fFc W o k) : ¬ aWc W o k := fun q => by
  unfold aWc at q
  unfold fFc fLc at h
  omega
theorem fFm_a {o k : Nat} (h : fFm o) : ¬ aWm o k := fun q => by
  unfold aWm at q
  unfold fFm at h
  omega
theorem fill_up (hW : W = 5 ∨ W = 17) {a b R w z r : Nat} {c : List Int} {l : Bool} {sC sM : u_H} {li lj : Nat → Int32} {ll lm : Nat → Int64} (J : jR W a b R w c l sC sM) (hz : nR sC.1 18 = zi z) (hzb : z ≤ b) (hr : r < R) (hl : li 1 = zi r) (hj : lj 1 = zi r) (hj2 : lj 2 = Int32.ofInt 1) (hf : 0 < z → ∃ p v, p < b ∧ v < a ∧ sC.1 29 0 = zi p ∧ sM.1 86 0 = zi p ∧ sM.1 82 p = zi v ∧ sM.1 86 26 < sLm sM.1 v) : ∃ s2 t2, u g_t22 87 (li, ll, [(0, 2)]) [] sC = some (none, s2) ∧ u g_t304 37 (lj, lm, [(0, 67)]) [] sM = some (none, t2) ∧ jR W a b R w c l s2 t2 ∧ (∀ j, j < 2 → j ≠ r → nR s2.1 (14 + j) = nR sC.1 (14 + j)) ∧ u_fi (fun o k => fFc W o k) sC s2 ∧ u_fr (fun o _ => fFm o) sM t2 := by
  have J0 := J
  obtain ⟨J1, J2, J3⟩ := J0
  have hb : b ≤ 7 := J2.1.2.1
  have hR : R ≤ 2 := J2.1.2.2.2
  have hz1 : sC.1 28 1 = zi z := hz
  have hz2 : sM.1 86 8 = zi z := by
    obtain ⟨z', x1, x2, x3⟩ := aQ_n J3.1
    have e : z' = z := (zi_inj (by omega) (by omega)).mp (x2.symm.trans hz)
    rw [x3, e]
  rcases Nat.eq_zero_or_pos z with h0 | h0
  · subst h0
    refine ⟨sC, sM, ?_, ?_, J, fun j _ _ => rfl, u_fi.rf, u_fr.rf⟩
    · rw [b_22_87 hW, hz1, if_pos (show zi 0 = 0 from rfl)]
    · rw [b_304_37, b_277, u_biS, hz2, if_pos (show zi 0 = 0 from rfl)]
  · obtain ⟨p, v, p1, v1, p2, p3, v2, hg⟩ := hf h0
    obtain ⟨t, s1, t1, k1, k2, e1, e2, f1, f2⟩ := lenNow hW J hz hzb h0 p1 p2 v1 v2 hg
    have n1 : ∀ o k, ¬ fLc W o → s1.1 o k = sC.1 o k := fun o k h => f1.1 o k h
    have m1 : ∀ o k, ¬ (o = 73 ∨ o = 74) → t1.1 o k = sM.1 o k := fun o k h => f2.i h
    have ne0 : ¬ zi z = 0 := fun q => by
      have := (zi_inj (b := 0) (by omega) (by omega)).mp q
      omega
    have hin : u_in (zi p) 7 = true := (u_inz (by omega)).mpr (by omega)
    have hin8 : u_in (zi p) 8 = true := (u_inz (by omega)).mpr (by omega)
    have hcl : (zi p).toNatClampNeg = p := zi_clamp (by omega)
    have hr2 : u_in (zi r) 2 = true := (u_inz (by omega)).mpr (by omega)
    have hcr : (zi r).toNatClampNeg = r := zi_clamp (by omega)
    have c9 : u_in (zi (9 + p)) 28 = true := (u_inz (by omega)).mpr (by omega)
    have c18 : u_in (zi (18 + r)) 28 = true := (u_inz (by omega)).mpr (by omega)
    have c21 : u_in (zi (21 + r)) 28 = true := (u_inz (by omega)).mpr (by omega)
    have k9 : (zi (9 + p)).toNatClampNeg = 9 + p := zi_clamp (by omega)
    have k18 : (zi (18 + r)).toNatClampNeg = 18 + r := zi_clamp (by omega)
    have k21 : (zi (21 + r)).toNatClampNeg = 21 + r := zi_clamp (by omega)
    have k1000 : ¬ u_k 1000 = 0 := by
      rw [u_k_eq]
      decide
    obtain ⟨s3, g1, g2, g3, g4⟩ := c_leave (z := z) (k := 0) (by omega) h0 (s := s1) ((n1 28 1 (fLc_no hW (by omega))).trans hz1)
    obtain ⟨t3, d1, d2, d3, d4⟩ := m_take (z := z) (k := 0) (by omega) h0 (s := t1) ((m1 86 8 (by omega)).trans hz2)
    have n3 : ∀ o k, ¬ ((o = 28 ∧ k = 1) ∨ (o = 29 ∧ k < 7)) → s3.1 o k = s1.1 o k := fun o k h => g4.i h
    have m3 : ∀ o k, ¬ (o = 86 ∧ k < 9 ∧ k ≠ 7) → t3.1 o k = t1.1 o k := fun o k h => d4.i h
    have hT3 : s3.2.2.1 = W := by
      rw [g4.2, f1.2]
      exact J1
    -- the SEED, alike
    have hseed : s3.1 28 9 = t3.1 86 27 := by
      rw [n3 28 9 (by omega), m3 86 27 (by omega), n1 28 9 (fLc_no hW (by omega)), m1 86 27 (by omega)]
      exact J3.2.2.1.2.2.2.2
    have hq : s3.1 (W - 2) 11 = t3.1 65 51 := by
      rw [n3 (W - 2) 11 (by omega), m3 65 51 (by omega), n1 (W - 2) 11 (fLc_no hW (by omega)), m1 65 51 (by omega)]
      exact J2.2.1.2.2.2.2.1
    obtain ⟨sd, hsd⟩ : ∃ sd : Int32, sd = ((t3.1 86 27 * u_k 137) + Int32.ofInt 71) - ((t3.1 86 27 * u_k 137) + Int32.ofInt 71) / u_k 1000 * u_k 1000 := ⟨_, rfl⟩
    -- a QUARREL or none
    obtain ⟨x, hx⟩ : ∃ x : Nat, (x = 3 ∧ (sd - sd / Int32.ofInt 100 * Int32.ofInt 100) < t3.1 65 51) ∨ (x = 0 ∧ ¬ (sd - sd / Int32.ofInt 100 * Int32.ofInt 100) < t3.1 65 51) := by
      by_cases q : (sd - sd / Int32.ofInt 100 * Int32.ofInt 100) < t3.1 65 51
      · exact ⟨3, Or.inl ⟨rfl, q⟩⟩
      · exact ⟨0, Or.inr ⟨rfl, q⟩⟩
    have hx3 : x ≤ 3 := by
      rcases hx with ⟨h, -⟩ | ⟨h, -⟩ <;> omega
    have g1' : u_c 145 [.inr (.inr 30), .inl (Int32.ofInt 0)] s1 = some (none, s3) := g1
    have hq56 : ∀ s : u_H, u_c 56 [.inl sd, .inl (t3.1 65 51)] s = some (some (.inl (zi x)), s) := by
      intro s
      rcases hx with ⟨h, q⟩ | ⟨h, q⟩
      · rw [b_56, if_pos q, h]
        rfl
      · rw [b_56, if_neg q, h]
        rfl
    have tail : ∀ (lj : Nat → Int32) (s : u_H), lj 3 = zi (t + x) → lj 4 = zi p → lj 1 = zi r → u g_t304 123 (lj, lm, [(0, 67)]) [] s = some (none, (y_u (y_u (y_u (y_u s.1 86 (9 + p) (Int32.ofInt 1)) 86 (18 + r) (zi p)) 86 (21 + r) (zi (t + x))) 90 p (s.1 65 62), s.2)) := by
      intro lj s w3 w4 w1
      rw [b_304_123, w4, w1, w3, show Int32.ofInt 9 = zi 9 from rfl, show Int32.ofInt 18 = zi 18 from rfl, show Int32.ofInt 21 = zi 21 from rfl, zi_add, zi_add, zi_add, if_pos c9, if_pos c18, if_pos c21, if_pos hin8, k9, k18, k21, hcl]
    -- the two heaps
    have eS : u g_t22 87 (li, ll, [(0, 2)]) [] sC = some (none, (y_u (y_u (y_u (y_u s3.1 30 p (Int32.ofInt 1)) 28 9 sd) 31 r (zi p)) 32 r (zi (t + x)), s3.2)) := by
      rw [b_22_87 hW, hz1, if_neg ne0, p2, e1, u_biS, g1', u_bvS, if_pos hin, hcl, b_50, if_neg k1000, u_biS, hl, if_pos hr2, hcr, hseed, ← hsd]
      dsimp only
      rw [if_pos hT3, show y_u s3.1 30 p (Int32.ofInt 1) (W - 2) 11 = s3.1 (W - 2) 11 from y_uN (by omega), hq, hq56, u_biS, zi_add, if_pos hr2]
      first | done | rfl
    have eT : u g_t304 37 (lj, lm, [(0, 67)]) [] sM = some (none, (y_u (y_u (y_u (y_u (y_u t3.1 86 27 sd) 86 (9 + p) (Int32.ofInt 1)) 86 (18 + r) (zi p)) 86 (21 + r) (zi (t + x))) 90 p (y_u t3.1 86 27 sd 65 62), t3.2)) := by
      have d1' : u_c 307 [.inr (.inr 67), .inl (Int32.ofInt 0)] t1 = some (some (.inl (zi p)), t3) := by
        rw [← show t1.1 86 0 = zi p from (m1 86 0 (by omega)).trans p3]
        exact d1
      have e2' : u_c 250 [.inr (.inr 67), .inl (zi p), .inl (zi (z - 1))] sM = some (some (.inl (zi t)), t1) := e2
      rw [b_304_37, b_277, u_biS, hz2, if_neg ne0, b_277, u_biS, hz2, p3, show Int32.ofInt 1 = zi 1 from rfl, zi_sub (by omega), e2', u_biS, d1', u_biS, hj2, if_neg (show ¬ Int32.ofInt 1 = 0 by decide), if_neg k1000, ← hsd]
      rcases hx with ⟨h, q⟩ | ⟨h, q⟩
      · rw [if_pos q]
        refine (tail _ _ ?_ ?_ ?_).trans ?_
        · rw [u_l1E, h, show Int32.ofInt 3 = zi 3 from rfl, zi_add]
        · rw [u_l1N (by omega), u_l1E]
        · rw [u_l1N (by omega), u_l1N (by omega), u_l1N (by omega)]
          exact hj
        · rfl
      · rw [if_neg q]
        refine (tail _ _ ?_ ?_ ?_).trans ?_
        · rw [u_l1E, h, i_add0]
          rfl
        · rw [u_l1N (by omega), u_l1E]
        · rw [u_l1N (by omega), u_l1N (by omega), u_l1N (by omega)]
          exact hj
        · rfl
    have fC : u_fi (fun o k => fFc W o k) sC (y_u (y_u (y_u (y_u s3.1 30 p (Int32.ofInt 1)) 28 9 sd) 31 r (zi p)) 32 r (zi (t + x)), s3.2) := by
      refine u_fi.wi (u_fi.wi (u_fi.wi (u_fi.wi ((f1.mono (fun o _ q => Or.inr (Or.inr q))).tr (g4.fi.mono (fun o k q => by rcases q with q | q; exact Or.inl ⟨q.1, by omega⟩; exact Or.inr (Or.inl (by omega))))) ?_) ?_) ?_) ?_
      · exact Or.inr (Or.inl (by omega))
      · exact Or.inl (by omega)
      · exact Or.inr (Or.inl (by omega))
      · exact Or.inr (Or.inl (by omega))
    have fM : u_fr (fun o _ => fFm o) sM (y_u (y_u (y_u (y_u (y_u t3.1 86 27 sd) 86 (9 + p) (Int32.ofInt 1)) 86 (18 + r) (zi p)) 86 (21 + r) (zi (t + x))) 90 p (y_u t3.1 86 27 sd 65 62), t3.2) := by
      refine u_fr.wi (u_fr.wi (u_fr.wi (u_fr.wi (u_fr.wi ((f2.mono (fun o _ q => ?_)).tr (d4.mono (fun o k q => ?_))) ?_) ?_) ?_) ?_) ?_
      · unfold fFm
        omega
      · unfold fFm
        omega
      · exact Or.inr (Or.inr (Or.inl rfl))
      · exact Or.inr (Or.inr (Or.inl rfl))
      · exact Or.inr (Or.inr (Or.inl rfl))
      · exact Or.inr (Or.inr (Or.inl rfl))
      · exact Or.inr (Or.inr (Or.inr rfl))
    have NF : ∀ o k, ¬ (o = 30 ∧ k = p) → ¬ (o = 28 ∧ k = 9) → ¬ (o = 31 ∧ k = r) → ¬ (o = 32 ∧ k = r) → y_u (y_u (y_u (y_u s3.1 30 p (Int32.ofInt 1)) 28 9 sd) 31 r (zi p)) 32 r (zi (t + x)) o k = s3.1 o k := fun o k q1 q2 q3 q4 => by
      rw [y_uN q4, y_uN q3, y_uN q2, y_uN q1]
    have NG : ∀ i, i ≠ 27 → i ≠ 9 + p → i ≠ 18 + r → i ≠ 21 + r → y_u (y_u (y_u (y_u (y_u t3.1 86 27 sd) 86 (9 + p) (Int32.ofInt 1)) 86 (18 + r) (zi p)) 86 (21 + r) (zi (t + x))) 90 p (y_u t3.1 86 27 sd 65 62) 86 i = t3.1 86 i := fun i q1 q2 q3 q4 => by
      rw [y_uN (by omega), y_uN (by omega), y_uN (by omega), y_uN (by omega), y_uN (by omega)]
    have NC : ∀ o k, ¬ ((o = 28 ∧ k = 1) ∨ (o = 29 ∧ k < 7)) → ¬ fLc W o → s3.1 o k = sC.1 o k := fun o k q1 q2 => (n3 o k q1).trans (n1 o k q2)
    have NM : ∀ i, ¬ (i < 9 ∧ i ≠ 7) → t3.1 86 i = sM.1 86 i := fun i q => (m3 86 i (by omega)).trans (m1 86 i (by omega))
    refine ⟨_, _, eS, eT, ⟨hT3, aW_fr J2 (fun o k q => fC.1 o k (fun y => fFc_a hW y q)) (fun o k q => fM.i (fun y => fFm_a y q)), ?_⟩, fun j hj hjr => ?_, fC, fM⟩
    · dsimp only
      refine aR_up (z := z) (r := r) (p := p) (t := t + x) hb J3 hz hzb h0 p1 ((nRl (by omega)).trans p2) hr (by omega) (by omega) (by omega) ?_ ?_ (fun i hi => ?_) (fun i hi => ?_) (fun j hj hjp => ⟨?_, ?_⟩) ⟨?_, ?_⟩ ⟨?_, ?_⟩ ⟨?_, ?_⟩ (fun j hj hjr => ⟨⟨?_, ?_⟩, ?_, ?_⟩) ⟨?_, ?_⟩ (fun i h1 h2 => ?_) (fun i h1 => ?_) ?_
      · show y_u (y_u (y_u (y_u s3.1 30 p (Int32.ofInt 1)) 28 9 sd) 31 r (zi p)) 32 r (zi (t + x)) 28 1 = _
        rw [NF 28 1 (by omega) (by omega) (by omega) (by omega)]
        exact g2
      · rw [NG 8 (by omega) (by omega) (by omega) (by omega)]
        exact d2
      · rw [nRl (by omega), nRl (by omega), NF 29 i (by omega) (by omega) (by omega) (by omega), g3 i hi, if_neg (by omega)]
        exact n1 29 (i + 1) (fLc_no hW (by omega))
      · rw [NG i (by omega) (by omega) (by omega) (by omega), d3 i hi, if_neg (by omega)]
        exact m1 86 (i + 1) (by omega)
      · rw [nRh (by omega), nRh (by omega), NF 30 j (by omega) (by omega) (by omega) (by omega)]
        exact NC 30 j (by omega) (fLc_no hW (by omega))
      · rw [NG (9 + j) (by omega) (by omega) (by omega) (by omega)]
        exact NM (9 + j) (by omega)
      · rw [nRh (by omega), y_uN (by omega), y_uN (by omega), y_uN (by omega), y_uE]
        rfl
      · rw [y_uN (by omega), y_uN (by omega), y_uN (by omega), y_uE]
        rfl
      · rw [nRp (by omega), y_uN (by omega), y_uE]
      · rw [y_uN (by omega), y_uN (by omega), y_uE]
      · rw [nRt (by omega), y_uE]
      · rw [y_uN (by omega), y_uE]
      · rw [nRp hj, nRp hj, NF 31 j (by omega) (by omega) (by omega) (by omega)]
        exact NC 31 j (by omega) (fLc_no hW (by omega))
      · rw [NG (18 + j) (by omega) (by omega) (by omega) (by omega)]
        exact NM (18 + j) (by omega)
      · rw [nRt hj, nRt hj, NF 32 j (by omega) (by omega) (by omega) (by omega)]
        exact NC 32 j (by omega) (fLc_no hW (by omega))
      · rw [NG (21 + j) (by omega) (by omega) (by omega) (by omega)]
        exact NM (21 + j) (by omega)
      · rw [NG 20 (by omega) (by omega) (by omega) (by omega)]
        exact NM 20 (by omega)
      · rw [NG 23 (by omega) (by omega) (by omega) (by omega)]
        exact NM 23 (by omega)
      · rcases (show i = 19 ∨ i = 20 ∨ i = 21 ∨ i = 22 by omega) with rfl | rfl | rfl | rfl
        · show y_u (y_u (y_u (y_u s3.1 30 p (Int32.ofInt 1)) 28 9 sd) 31 r (zi p)) 32 r (zi (t + x)) 28 3 = sC.1 28 3
          rw [NF 28 3 (by omega) (by omega) (by omega) (by omega)]
          exact NC 28 3 (by omega) (fLc_no hW (by omega))
        · show y_u (y_u (y_u (y_u s3.1 30 p (Int32.ofInt 1)) 28 9 sd) 31 r (zi p)) 32 r (zi (t + x)) 28 6 = sC.1 28 6
          rw [NF 28 6 (by omega) (by omega) (by omega) (by omega)]
          exact NC 28 6 (by omega) (fLc_no hW (by omega))
        · show y_u (y_u (y_u (y_u s3.1 30 p (Int32.ofInt 1)) 28 9 sd) 31 r (zi p)) 32 r (zi (t + x)) 28 7 = sC.1 28 7
          rw [NF 28 7 (by omega) (by omega) (by omega) (by omega)]
          exact NC 28 7 (by omega) (fLc_no hW (by omega))
        · show y_u (y_u (y_u (y_u s3.1 30 p (Int32.ofInt 1)) 28 9 sd) 31 r (zi p)) 32 r (zi (t + x)) 28 8 = sC.1 28 8
          rw [NF 28 8 (by omega) (by omega) (by omega) (by omega)]
          exact NC 28 8 (by omega) (fLc_no hW (by omega))
      · rw [NG i (by omega) (by omega) (by omega) (by omega)]
        exact NM i (by omega)
      · show y_u (y_u (y_u (y_u s3.1 30 p (Int32.ofInt 1)) 28 9 sd) 31 r (zi p)) 32 r (zi (t + x)) 28 9 = _
        rw [y_uN (by omega), y_uN (by omega), y_uE, y_uN (by omega), y_uN (by omega), y_uN (by omega), y_uN (by omega), y_uE]
    · rw [nRp hj, nRp hj]
      show y_u (y_u (y_u (y_u s3.1 30 p (Int32.ofInt 1)) 28 9 sd) 31 r (zi p)) 32 r (zi (t + x)) 31 j = _
      rw [NF 31 j (by omega) (by omega) (by omega) (by omega)]
      exact NC 31 j (by omega) (fLc_no hW (by omega))
/-- a free RAIL is filled -/
theorem fill_alike (hW : W = 5 ∨ W = 17) {a b R w r : Nat} {c : List Int} {l : Bool} {sC sM : u_H} (J : jR W a b R w c l sC sM) (hr : r < R) : ∃ s2 t2, u_c 22 [.inr (.inr 2), .inl (zi r)] sC = some (none, s2) ∧ u_c 304 [.inr (.inr 67), .inl (zi r), .inl (Int32.ofInt 1)] sM = some (none, t2) ∧ jR W a b R w c l s2 t2 ∧ (∀ j, j < 2 → j ≠ r → nR s2.1 (14 + j) = nR sC.1 (14 + j)) ∧ u_fi (fun o k => fFc W o k) sC s2 ∧ u_fr (fun o _ => fFm o) sM t2 := by
  obtain ⟨z, z1, z2, z3⟩ := aQ_n J.2.2.1
  have hb : b ≤ 7 := J.2.1.1.2.1
  obtain ⟨li2, z', s1, t1, e1, e2, e3, e4, e5, e6, e7, e8, e9⟩ := miss_all hW z 0 (u_l1 (u_l1 u_z1 1 (zi r)) 2 (Int32.ofInt 0)) (u_l1 (u_l1 u_z1 1 (zi r)) 2 (Int32.ofInt 1)) u_z2 u_z2 sC sM (by omega) z1 J z2 (u_l1E _ _ _)
  obtain ⟨s2, t2, g1, g2, g3, g4, g5, g6⟩ := fill_up hW (li := li2) (lj := u_l1 (u_l1 u_z1 1 (zi r)) 2 (Int32.ofInt 1)) (ll := u_z2) (lm := u_z2) e4 e6 (by omega) hr (e2.trans rfl) rfl rfl e7
  refine ⟨s2, t2, ?_, ?_, g3, fun j hj hjr => (g4 j hj hjr).trans ?_, u_fi.tr (e8.fi.mono (fun o k q => ?_)) g5, (e9.mono (fun o k q => Or.inr (Or.inr (Or.inl q)))).tr g6⟩
  · rw [b_22, e1, g1]
  · rw [b_304, e3, g2]
  · rw [nRp hj, nRp hj]
    exact e8.i (fun q => by unfold fQc at q; omega)
  · unfold fQc at q
    unfold fFc
    omega
end FILL2
