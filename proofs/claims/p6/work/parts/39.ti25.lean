/-! A SHIP WAITS: both sides -/
section AWAIT
variable {W : Nat}
theorem aR_wait {b R : Nat} {c m c2 m2 : Nat → Int32} (hb : b ≤ 7) (H : aR b R c m) (e1 : ∀ i, i < 24 → i ≠ 20 → c2 i = c i) (e2 : ∀ i, i < 28 → i ≠ 24 → m2 i = m i) (hw : c2 20 = m2 24) : aR b R c2 m2 := by
  obtain ⟨H1, H2, H3, H4⟩ := H
  refine ⟨aQ_eq H1 hb (fun k hk => e1 k (by omega) (by omega)) (e1 18 (by omega) (by omega)) (fun k hk => e2 k (by omega) (by omega)), aH_eq H2 (fun q hq => e1 _ (by omega) (by omega)) (fun q hq => e2 _ (by omega) (by omega)), ?_, aL_eq H4 (fun k _ hk => e1 k (by omega) (by omega)) (fun k _ hk => e2 k (by omega) (by omega)) (fun p hp e => (e1 (7 + p) (by omega) (by omega)).trans e)⟩
  obtain ⟨a1, -, a3, ⟨t, t1, t2, t3⟩, a5⟩ := H3
  refine ⟨?_, hw, ?_, ⟨t, t1, ?_, ?_⟩, ?_⟩
  · rw [e1 19 (by omega) (by omega), e2 17 (by omega) (by omega)]; exact a1
  · rw [e1 21 (by omega) (by omega), e2 25 (by omega) (by omega)]; exact a3
  · rw [e1 22 (by omega) (by omega)]; exact t2
  · rw [e2 26 (by omega) (by omega)]; exact t3
  · rw [e1 23 (by omega) (by omega), e2 27 (by omega) (by omega)]; exact a5
theorem isShip_alike (hW : W = 5 ∨ W = 17) {a : Nat} (ha : a ≤ 5) {sC sM : u_H} (hT : sC.2.2.1 = W) (h0 : sC.1 (W - 2) 0 = zi a) (h47 : sM.1 65 47 = zi a) (x : Int32) : (∃ p, p < a ∧ x = zi p ∧ u_c 35 [.inr (.inr 2), .inl x] sC = some (some (.inl (Int32.ofInt 1)), sC) ∧ u_c 236 [.inr (.inr 67), .inl x] sM = some (some (.inl (Int32.ofInt 1)), sM)) ∨ (u_c 35 [.inr (.inr 2), .inl x] sC = some (some (.inl (Int32.ofInt 0)), sC) ∧ u_c 236 [.inr (.inr 67), .inl x] sM = some (some (.inl (Int32.ofInt 0)), sM)) := by
  rcases isIn_zi (b := a) (by omega) x sM with ⟨p, hp, e, h⟩ | ⟨hn, h⟩
  · refine Or.inl ⟨p, hp, e, ?_, ?_⟩
    · rw [b_35 hW, e, if_neg (zi_nonneg (by omega)), if_pos hT, h0, if_pos ((zi_lt (by omega) (by omega)).mpr hp)]
    · rw [b_236, h47, h, u_biS, if_pos (show q_ib (Int32.ofInt 1) = true by decide)]
  · refine Or.inr ⟨?_, ?_⟩
    · rw [b_35 hW]
      by_cases q : x < 0
      · rw [if_pos q]
      · obtain ⟨n, hn2, rfl⟩ := nn_zi q
        have hnb : ¬ n < a := fun z => hn n z rfl
        rw [if_neg q, if_pos hT, h0, if_neg (by rw [zi_lt hn2 (by omega)]; exact hnb)]
    · rw [b_236, h47, h, u_biS, if_pos (show q_ib (Int32.ofInt 0) = true by decide)]
/-- await(ship) -/
theorem await_alike (hW : W = 5 ∨ W = 17) {a b R w : Nat} {c : List Int} {l : Bool} {sC sM : u_H} (hT : sC.2.2.1 = W) (hA : tW W a b R w c l sC.1 sM.1) (h47 : sM.1 65 47 = zi a) (hR : aR b R (nR sC.1) (sM.1 85)) (hP : aP b R sC.1 sM.1) (x : Int32) : ∃ (y : Int32) (s2 t2 : u_H), u_c 6 [.inr (.inr 2), .inl x] sC = some (some (.inl y), s2) ∧ u_c 181 [.inr (.inr 67), .inl x] sM = some (some (.inl y), t2) ∧ aR b R (nR s2.1) (t2.1 85) ∧ aP b R s2.1 t2.1 := by
  have hb : b ≤ 7 := hA.1.2.1
  have ha : a ≤ 5 := hA.1.1
  have n10 : ¬ Int32.ofInt 1 = 0 := by decide
  have z00 : Int32.ofInt 0 = 0 := by decide
  have n177 : ∀ o k, (o ≠ 65 ∨ (k ≠ 27 ∧ k ≠ 28 ∧ k ≠ 29 ∧ k ≠ 59 ∧ k ≠ 62)) → (o < 87 ∨ 90 < o) → ¬ f177 o k := by
    intro o k p q z
    unfold f177 at z
    omega
  obtain ⟨t1, f1, f2, f3, f4⟩ := m_fillT sM
  have n1 : ∀ o k, o ≠ 86 → ¬ f177 o k → t1.1 o k = sM.1 o k := fun o k p q => f4.i (fun z => by rcases z with z | z; exact p z; exact q z)
  have e85 : ∀ k, t1.1 85 k = sM.1 85 k := fun k => n1 85 k (by omega) (n177 85 k (by omega) (by omega))
  have n91 : ∀ k, t1.1 91 k = sM.1 91 k := fun k => n1 91 k (by omega) (n177 91 k (by omega) (by omega))
  obtain ⟨O, U, D, hO, hUD, ⟨p1, p2, p3⟩, ⟨p4, p5⟩, A⟩ := hP
  have P1 : aP b R sC.1 t1.1 := ⟨O, U, D, hO, hUD, ⟨p1, p2, p3⟩, ⟨(n1 65 66 (by omega) (n177 65 66 (by omega) (by omega))).trans p4, (n1 65 67 (by omega) (n177 65 67 (by omega) (by omega))).trans p5⟩, fun i hi => aR_eq (A i hi) hb (fun k _ => rfl) (fun k _ => by
    unfold mP
    rw [e85, n91])⟩
  have R1 : aR b R (nR sC.1) (t1.1 85) := aR_eq hR hb (fun k _ => rfl) (fun k _ => e85 k)
  have no : ∀ (hc : u_c 6 [.inr (.inr 2), .inl x] sC = some (some (.inl (u_k (-1))), sC)) (hm : u_c 181 [.inr (.inr 67), .inl x] sM = some (some (.inl (u_k (-1))), t1)), ∃ (y : Int32) (s2 t2 : u_H), u_c 6 [.inr (.inr 2), .inl x] sC = some (some (.inl y), s2) ∧ u_c 181 [.inr (.inr 67), .inl x] sM = some (some (.inl y), t2) ∧ aR b R (nR s2.1) (t2.1 85) ∧ aP b R s2.1 t2.1 := fun hc hm => ⟨_, sC, t1, hc, hm, R1, P1⟩
  rcases isShip_alike hW ha (sM := t1) hT hA.2.1.1 ((n1 65 47 (by omega) (n177 65 47 (by omega) (by omega))).trans h47) x with ⟨v, hv, e, e1, e2⟩ | ⟨e1, e2⟩
  · obtain ⟨b1, b2⟩ := hA.2.2.1 v hv
    have t80 : t1.1 80 v = sM.1 80 v := n1 80 v (by omega) (n177 80 v (by omega) (by omega))
    have t81 : t1.1 81 v = sM.1 81 v := n1 81 v (by omega) (n177 81 v (by omega) (by omega))
    have w6 : sC.1 28 6 = sM.1 85 24 := hR.2.2.1.2.1
    have hmin : sC.1 28 8 = t1.1 86 26 := by
      obtain ⟨t, q1, q2, q3⟩ := hR.2.2.1.2.2.2.1
      exact (show sC.1 28 8 = zi t from q2).trans (q3.symm.trans (f2 26 (by omega)).symm)
    have h6 : sC.1 28 6 = t1.1 86 24 := w6.trans (f2 24 (by omega)).symm
    have t24 : t1.1 85 24 = sC.1 28 6 := (e85 24).trans w6.symm
    by_cases hq : bN (sC.1 28 6) v
    · rcases gone_alike hW (v := v) (sC := sC) (sM := t1) (by omega) hT h6 (b1.trans t80.symm) (b2.trans t81.symm) hmin f3.2.2.1 with ⟨q, q1, q2⟩ | ⟨q, q1, q2⟩
      · obtain ⟨U2, t2, g1, g2, g3, g4, g5, g6, g7, g8, g9⟩ := m_act (U := U) (by omega) ((n1 65 66 (by omega) (n177 65 66 (by omega) (by omega))).trans p4)
        have a85 : ∀ k, t2.1 85 k = t1.1 85 k := fun k => g9.i (fun z => by unfold fAm f177 at z; omega)
        obtain ⟨t5, d1, d2, d3, d4⟩ := m_fillT (y_u t2.1 85 24 (t2.1 85 24 ||| (Int32.ofInt 1 <<< (zi v &&& 31))), t2.2)
        have n5 : ∀ o k, o ≠ 86 → ¬ f177 o k → t5.1 o k = y_u t2.1 85 24 (t2.1 85 24 ||| (Int32.ofInt 1 <<< (zi v &&& 31))) o k := fun o k p q => d4.i (fun z => by rcases z with z | z; exact p z; exact q z)
        obtain ⟨O2, U2', s5, w1, w2, w3, w4, w5, w6', w7, w8, w9⟩ := c_keep hO (U := U) (by omega) (s := (y_u sC.1 28 6 (sC.1 28 6 ||| (Int32.ofInt 1 <<< (zi v &&& 31))), sC.2)) (by dsimp only; rw [y_uN (by omega)]; exact p1) (by dsimp only; rw [y_uN (by omega)]; exact p2)
        have eU : U2' = U2 := by
          rcases w3 with ⟨z1, z2, z3⟩ | ⟨z1, z2, z3⟩
          · rcases g2 with ⟨y1, y2⟩ | ⟨y1, y2⟩ <;> omega
          · rcases g2 with ⟨y1, y2⟩ | ⟨y1, y2⟩ <;> omega
        subst eU
        have m4 : ∀ o j, (o = 91 ∨ (o = 65 ∧ (j = 66 ∨ j = 67))) → t5.1 o j = t2.1 o j := fun o j h => (n5 o j (by omega) (n177 o j (by omega) (by omega))).trans (y_uN (by omega))
        have nrow : ∀ j, j < 24 → nR s5.1 j = nR (y_u sC.1 28 6 (sC.1 28 6 ||| (Int32.ofInt 1 <<< (zi v &&& 31)))) j := fun j hj => by
          have hs := qS_so j hj
          refine w9.i (fun z => ?_)
          unfold qS at hs
          omega
        have so6 : ∀ i : Fin 24, (y_so i.1).1 = 28 ∧ (y_so i.1).2 = 6 → i.1 = 20 := by decide
        have r85 : ∀ k, t5.1 85 k = y_u t2.1 85 24 (t2.1 85 24 ||| (Int32.ofInt 1 <<< (zi v &&& 31))) 85 k := fun k => n5 85 k (by omega) (n177 85 k (by omega) (by omega))
        have N : aR b R (nR s5.1) (t5.1 85) := by
          refine aR_wait hb hR (fun i hi q => (nrow i hi).trans ?_) (fun i hi q => (r85 i).trans ?_) ?_
          · exact y_uN (fun z => q (so6 ⟨i, hi⟩ z))
          · rw [y_uN (by omega)]
            exact (a85 i).trans (e85 i)
          · rw [nrow 20 (by omega), r85 24, nR20, y_uE, y_uE, a85, t24]
        have ship : ∀ o k, aWc W o k → s5.1 o k = sC.1 o k := fun o k q => (w9.i (fun z => by unfold aWc at q; omega)).trans (y_uN (fun z => by unfold aWc at q; omega))
        have mship : ∀ o k, (o = 80 ∨ o = 81) → t5.1 o k = sM.1 o k := fun o k q => (n5 o k (by omega) (n177 o k (by omega) (by omega))).trans ((y_uN (by omega)).trans ((g9.i (fun z => by unfold fAm f177 at z; omega)).trans (n1 o k (by omega) (n177 o k (by omega) (by omega)))))
        have es : sLv W s5.1 v = sLm t5.1 v := sLvm (by
          rw [d2 24 (by omega)]
          dsimp only
          have := nrow 20 (by omega)
          rw [nR20, nR20, y_uE] at this
          rw [y_uE, a85, t24]
          exact this) (by rw [ship W v (by unfold aWc; omega), mship 80 v (by omega)]; exact b1) (by rw [ship (W + 1) v (by unfold aWc; omega), mship 81 v (by omega)]; exact b2)
        have hT5 : s5.2.2.1 = W := by
          rw [w9.2]
          exact hT
        refine ⟨sLv W s5.1 v, s5, t5, ?_, ?_, N, O2, U2', 0, w2, by omega, ⟨w4, w5, w6'⟩, ⟨(m4 65 66 (Or.inr ⟨rfl, Or.inl rfl⟩)).trans g3, (m4 65 67 (Or.inr ⟨rfl, Or.inr rfl⟩)).trans g4⟩, ?_⟩
        · rw [b_6 hW, e1, u_biS, if_neg n10, e, b_142, c_h0 hq, u_biS, if_pos (show q_ib (Int32.ofInt 0) = true by decide), u_biS, if_pos z00, q1, u_biS, if_pos z00, w1, u_bvS, if_pos hT5, c_sail hW (by omega), u_biS]
        · rw [b_181, f1, u_bvS, e2, u_biS, if_neg n10, e, t24, m_h0 hq, u_biS, if_pos z00, q2, u_biS, if_pos z00, g1, u_bvS, d1, u_bvS, m_sail (by omega) d3.2.2.1, u_biS, es]
        · refine aP_keep (f := sC.1) (g := sM.1) (O := O) (U := U) (D := D) hb hUD A w3 N (fun j hj => (w7 j hj).trans (nrow j hj).symm) (fun j hj => (w8 j hj).trans ?_) (fun j hj => (m4 91 _ (Or.inl rfl)).trans ((g5 j hj).trans (e85 j))) (fun i j hi hj => (m4 91 _ (Or.inl rfl)).trans ((g6 i j hi hj).trans (n91 _)))
          dsimp only
          rw [y_uN (by omega)]
      · refine no ?_ ?_
        · rw [b_6 hW, e1, u_biS, if_neg n10, e, b_142, c_h0 hq, u_biS, if_pos (show q_ib (Int32.ofInt 0) = true by decide), u_biS, if_pos z00, q1, u_biS, if_neg n10]
        · rw [b_181, f1, u_bvS, e2, u_biS, if_neg n10, e, t24, m_h0 hq, u_biS, if_pos z00, q2, u_biS, if_neg n10]
    · refine no ?_ ?_
      · rw [b_6 hW, e1, u_biS, if_neg n10, e, b_142, c_h1 hq, u_biS, if_pos (show q_ib (Int32.ofInt 1) = true by decide), u_biS, if_neg n10]
      · rw [b_181, f1, u_bvS, e2, u_biS, if_neg n10, e, t24, m_h1 hq, u_biS, if_neg n10]
  · refine no ?_ ?_
    · rw [b_6 hW, e1, u_biS, if_pos z00]
    · rw [b_181, f1, u_bvS, e2, u_biS, if_pos z00]
end AWAIT
