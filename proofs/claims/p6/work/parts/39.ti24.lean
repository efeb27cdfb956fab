/-! ONE JOINS: both sides -/
section JOIN
variable {W : Nat}
/-- one joins at the end of the queue -/
theorem aR_join {b R z p h : Nat} {c m c2 m2 : Nat → Int32} (hb : b ≤ 7) (H : aR b R c m) (hz : c 18 = zi z) (hzb : z ≤ b) (hp : p < b) (hph : c (7 + p) = zi h) (h2 : 2 ≤ h) (h4 : h ≤ 4) (s1 : c2 18 = zi (z + 1)) (s2 : m2 8 = zi (z + 1)) (l1 : ∀ i, i < z → c2 i = c i) (l2 : ∀ i, i < z → m2 i = m i) (n1 : c2 z = zi p) (n2 : m2 z = zi p) (q1 : ∀ j, j < b → j ≠ p → c2 (7 + j) = c (7 + j) ∧ m2 (9 + j) = m (9 + j)) (q2 : c2 (7 + p) = zi 0 ∧ m2 (9 + p) = zi 0) (o1 : ∀ i, 14 ≤ i → i < 24 → i ≠ 18 → c2 i = c i) (o2 : ∀ i, 17 ≤ i → i < 28 → m2 i = m i) : z < b ∧ aR b R c2 m2 := by
  obtain ⟨H1, H2, H3, H4⟩ := H
  obtain ⟨x1, x2⟩ := aQ_in hb H1 hz hzb hp hph h2 h4 s1 s2 l1 l2 n1 n2 (fun j hj hjp => (q1 j hj hjp).1) q2.1
  refine ⟨x1, x2, aH_set H2 (by omega) q1 q2, aS_eq H3 (fun k a b => o1 k (by omega) b (by omega)) (fun k a => o2 k (by omega) (by omega)), aL_eq H4 (fun k a b => o1 k a (by omega) (by omega)) (fun k a b => o2 k (by omega) (by omega)) (fun q hq e => ?_)⟩
  have hne : q ≠ p := fun e2 => by
    subst e2
    have := (zi_inj (by omega) (by omega)).mp (hph.symm.trans e)
    omega
  exact (q1 q hq hne).1.trans e
theorem aQ_lt {b z p h : Nat} {c m : Nat → Int32} (hb : b ≤ 7) (H : aQ b c m) (hz : c 18 = zi z) (hzb : z ≤ b) (hp : p < b) (hph : c (7 + p) = zi h) (h1 : 1 ≤ h) (h4 : h ≤ 4) : z < b := by
  obtain ⟨z', z1, zc, z2, -⟩ := H
  have ez : z' = z := (zi_inj (by omega) (by omega)).mp (z2.symm.trans hz)
  subst ez
  have hh : ¬ zi h = zi 0 := fun e => by
    have := (zi_inj (by omega) (by omega)).mp e
    omega
  have hc := cQ_out (c := fun i => if i = 7 + p then zi 0 else c i) (c2 := c) (p := p) (if_pos rfl) (by rw [hph]; exact hh) b hp (fun j hj hj2 => (if_neg (by omega)).symm)
  have hle := cQ_le (c := fun i => if i = 7 + p then zi 0 else c i) b
  omega
/-- join(pair) -/
theorem join_alike (hW : W = 5 ∨ W = 17) {a b R w : Nat} {c : List Int} {l : Bool} {sC sM : u_H} (hT : sC.2.2.1 = W) (hA : tW W a b R w c l sC.1 sM.1) (h48 : sM.1 65 48 = zi b) (hR : aR b R (nR sC.1) (sM.1 85)) (hP : aP b R sC.1 sM.1) (x : Int32) : ∃ (y : Int32) (s2 t2 : u_H), u_c 36 [.inr (.inr 2), .inl x] sC = some (some (.inl y), s2) ∧ u_c 239 [.inr (.inr 67), .inl x] sM = some (some (.inl y), t2) ∧ aR b R (nR s2.1) (t2.1 85) ∧ aP b R s2.1 t2.1 := by
  have hb : b ≤ 7 := hA.1.2.1
  have ha : a ≤ 5 := hA.1.1
  have n10 : ¬ Int32.ofInt 1 = 0 := by decide
  have n177 : ∀ o k, (o ≠ 65 ∨ (k ≠ 27 ∧ k ≠ 28 ∧ k ≠ 29 ∧ k ≠ 59 ∧ k ≠ 62)) → (o < 87 ∨ 90 < o) → ¬ f177 o k := by
    intro o k p q z
    unfold f177 at z
    omega
  obtain ⟨t1, f1, f2, f3, f4⟩ := m_fillT sM
  have n1 : ∀ o k, o ≠ 86 → ¬ f177 o k → t1.1 o k = sM.1 o k := fun o k p q => f4.i (fun z => by rcases z with z | z; exact p z; exact q z)
  have e85 : ∀ k, t1.1 85 k = sM.1 85 k := fun k => n1 85 k (by omega) (n177 85 k (by omega) (by omega))
  have n91 : ∀ k, t1.1 91 k = sM.1 91 k := fun k => n1 91 k (by omega) (n177 91 k (by omega) (by omega))
  have hP0 := hP
  obtain ⟨O, U, D, hO, hUD, ⟨p1, p2, p3⟩, ⟨p4, p5⟩, A⟩ := hP
  have P1 : aP b R sC.1 t1.1 := ⟨O, U, D, hO, hUD, ⟨p1, p2, p3⟩, ⟨(n1 65 66 (by omega) (n177 65 66 (by omega) (by omega))).trans p4, (n1 65 67 (by omega) (n177 65 67 (by omega) (by omega))).trans p5⟩, fun i hi => aR_eq (A i hi) hb (fun k _ => rfl) (fun k _ => by
    unfold mP
    rw [e85, n91])⟩
  have R1 : aR b R (nR sC.1) (t1.1 85) := aR_eq hR hb (fun k _ => rfl) (fun k _ => e85 k)
  have no : ∀ (hc : u_c 36 [.inr (.inr 2), .inl x] sC = some (some (.inl (u_k (-1))), sC)) (hm : u_c 239 [.inr (.inr 67), .inl x] sM = some (some (.inl (u_k (-1))), t1)), ∃ (y : Int32) (s2 t2 : u_H), u_c 36 [.inr (.inr 2), .inl x] sC = some (some (.inl y), s2) ∧ u_c 239 [.inr (.inr 67), .inl x] sM = some (some (.inl y), t2) ∧ aR b R (nR s2.1) (t2.1 85) ∧ aP b R s2.1 t2.1 := fun hc hm => ⟨_, sC, t1, hc, hm, R1, P1⟩
  rcases isPair_alike hW hb (sM := t1) hT hA.2.1.2.1 ((n1 65 48 (by omega) (n177 65 48 (by omega) (by omega))).trans h48) x with ⟨p, hp, e, e1, e2⟩ | ⟨e1, e2⟩
  · obtain ⟨⟨v, v1, v2, v3⟩, -, -⟩ := hA.2.2.2.1 p hp
    obtain ⟨b1, b2⟩ := hA.2.2.1 v v1
    obtain ⟨h, hh, x1, x2⟩ := hR.2.1 p hp
    have t82 : t1.1 82 p = zi v := (n1 82 p (by omega) (n177 82 p (by omega) (by omega))).trans v3
    have t80 : t1.1 80 v = sM.1 80 v := n1 80 v (by omega) (n177 80 v (by omega) (by omega))
    have t81 : t1.1 81 v = sM.1 81 v := n1 81 v (by omega) (n177 81 v (by omega) (by omega))
    have c30 : sC.1 30 p = zi h := (nRh (by omega)).symm.trans x1
    have m9 : t1.1 85 (9 + p) = zi h := (e85 _).trans x2
    have i7 : u_in (zi p) 7 = true := (u_inz (by omega)).mpr (by omega)
    have i8 : u_in (zi p) 8 = true := (u_inz (by omega)).mpr (by omega)
    have i9 : u_in (zi (9 + p)) 28 = true := (u_inz (by omega)).mpr (by omega)
    have k7 : (zi p).toNatClampNeg = p := zi_clamp (by omega)
    have k9 : (zi (9 + p)).toNatClampNeg = 9 + p := zi_clamp (by omega)
    have z9 : Int32.ofInt 9 = zi 9 := rfl
    have hmin : sC.1 28 8 = t1.1 86 26 := by
      obtain ⟨t, q1, q2, q3⟩ := hR.2.2.1.2.2.2.1
      exact (show sC.1 28 8 = zi t from q2).trans (q3.symm.trans (f2 26 (by omega)).symm)
    have h6 : sC.1 28 6 = t1.1 86 24 := (show sC.1 28 6 = sM.1 85 24 from hR.2.2.1.2.1).trans (f2 24 (by omega)).symm
    have s4 : ∀ q : h ≠ 4, ¬ zi h = Int32.ofInt 4 := fun q e => q ((zi_inj (b := 4) (by omega) (by omega)).mp e)
    have s3 : ∀ q : h ≠ 3, ¬ zi h = Int32.ofInt 3 := fun q e => q ((zi_inj (b := 3) (by omega) (by omega)).mp e)
    rcases gone_alike hW (v := v) (sC := sC) (sM := t1) (by omega) hT h6 (b1.trans t80.symm) (b2.trans t81.symm) hmin f3.2.2.1 with ⟨q, q1, q2⟩ | ⟨q, q1, q2⟩
    · by_cases h34 : h = 3 ∨ h = 4
      · obtain ⟨z, z1, z2, z3⟩ := aQ_n hR.1
        have zlt : z < b := aQ_lt hb hR.1 z2 z1 hp x1 (by omega) hh
        have c28 : sC.1 28 1 = zi z := z2
        have iz7 : u_in (zi z) 7 = true := (u_inz (by omega)).mpr (by omega)
        have kz : (zi z).toNatClampNeg = z := zi_clamp (by omega)
        have iz28 : u_in (zi z) 28 = true := (u_inz (by omega)).mpr (by omega)
        obtain ⟨U2, t2, g1, g2, g3, g4, g5, g6, g7, g8, g9⟩ := m_act (U := U) (by omega) ((n1 65 66 (by omega) (n177 65 66 (by omega) (by omega))).trans p4)
        have t2r : ∀ k, k < 28 → t2.1 86 k = sM.1 85 k := fun k hk => (g7 k hk).trans (e85 k)
        have put : u_c 274 [.inr (.inr 67), .inl (zi p)] t2 = some (none, (y_u (y_u (y_u t2.1 86 z (zi p)) 86 8 (zi (z + 1))) 86 (9 + p) (Int32.ofInt 0), t2.2)) := by
          rw [b_274, b_277, u_biS, t2r 8 (by omega), z3, if_pos iz28, z9, zi_add, if_pos i9, kz, k9, y_uN (by omega), t2r 8 (by omega), z3, zi_one]
        obtain ⟨t5, v1', v2', v3'⟩ := m_240 (y_u (y_u (y_u t2.1 86 z (zi p)) 86 8 (zi (z + 1))) 86 (9 + p) (Int32.ofInt 0), t2.2)
        obtain ⟨O2, U2', s5, w1, w2, w3, w4, w5, w6, w7, w8, w9⟩ := c_keep hO (U := U) (by omega) (s := (y_u (y_u (y_u sC.1 30 p (Int32.ofInt 0)) 29 z (zi p)) 28 1 (zi (z + 1)), sC.2)) (by dsimp only; rw [y_uN (by omega), y_uN (by omega), y_uN (by omega)]; exact p1) (by dsimp only; rw [y_uN (by omega), y_uN (by omega), y_uN (by omega)]; exact p2)
        have eU : U2' = U2 := by
          rcases w3 with ⟨z1, z2, z3⟩ | ⟨z1, z2, z3⟩
          · rcases g2 with ⟨y1, y2⟩ | ⟨y1, y2⟩ <;> omega
          · rcases g2 with ⟨y1, y2⟩ | ⟨y1, y2⟩ <;> omega
        subst eU
        have m4 : ∀ o j, (o = 91 ∨ (o = 65 ∧ (j = 66 ∨ j = 67))) → t5.1 o j = t2.1 o j := fun o j h => (v3'.i (fun z => by have z : o = 85 := z; omega)).trans ((y_uN (by omega)).trans ((y_uN (by omega)).trans (y_uN (by omega))))
        have nrow : ∀ j, j < 24 → nR s5.1 j = nR (y_u (y_u (y_u sC.1 30 p (Int32.ofInt 0)) 29 z (zi p)) 28 1 (zi (z + 1))) j := fun j hj => by
          have hs := qS_so j hj
          refine w9.i (fun z => ?_)
          unfold qS at hs
          omega
        have NG : ∀ i, i ≠ z → i ≠ 8 → i ≠ 9 + p → i < 28 → y_u (y_u (y_u t2.1 86 z (zi p)) 86 8 (zi (z + 1))) 86 (9 + p) (Int32.ofInt 0) 86 i = sM.1 85 i := fun i y1 y2 y3 y4 => by
          rw [y_uN (by omega), y_uN (by omega), y_uN (by omega)]
          exact t2r i y4
        have N0 := (aR_join (z := z) (p := p) (h := h) (c2 := nR (y_u (y_u (y_u sC.1 30 p (Int32.ofInt 0)) 29 z (zi p)) 28 1 (zi (z + 1)))) (m2 := y_u (y_u (y_u t2.1 86 z (zi p)) 86 8 (zi (z + 1))) 86 (9 + p) (Int32.ofInt 0) 86) hb hR z2 z1 hp x1 (by omega) hh (by rw [nR18, y_uE]) (by rw [y_uN (by omega), y_uE]) (fun i hi => by rw [nRl (by omega), nRl (by omega), y_uN (by omega), y_uN (by omega), y_uN (by omega)]) (fun i hi => NG i (by omega) (by omega) (by omega) (by omega)) (by rw [nRl (by omega), y_uN (by omega), y_uE]) (by rw [y_uN (by omega), y_uN (by omega), y_uE]) (fun j hj hjp => ⟨by rw [nRh (by omega), nRh (by omega), y_uN (by omega), y_uN (by omega), y_uN (by omega)], NG (9 + j) (by omega) (by omega) (by omega) (by omega)⟩) ⟨by rw [nRh (by omega), y_uN (by omega), y_uN (by omega), y_uE]; rfl, by rw [y_uE]; rfl⟩ (fun i h1 h2 h3 => nRo h1 h2 (fun j hj => ⟨by rw [y_uN (by omega), y_uN (by omega), y_uN (by omega)], by rw [y_uN (by omega), y_uN (by omega), y_uN (by omega)]⟩) (fun y => by
          rcases (show i = 19 ∨ i = 20 ∨ i = 21 ∨ i = 22 ∨ i = 23 by omega) with rfl | rfl | rfl | rfl | rfl <;> rfl)) (fun i h1 h2 => NG i (by omega) (by omega) (by omega) (by omega))).2
        have N : aR b R (nR s5.1) (t5.1 85) := aR_eq N0 hb nrow v2'
        refine ⟨zi z, s5, t5, ?_, ?_, N, O2, U2', 0, w2, by omega, ⟨w4, w5, w6⟩, ⟨(m4 65 66 (Or.inr ⟨rfl, Or.inl rfl⟩)).trans g3, (m4 65 67 (Or.inr ⟨rfl, Or.inr rfl⟩)).trans g4⟩, ?_⟩
        · have e28 : s5.1 28 1 = zi (z + 1) := by
            have := nrow 18 (by omega)
            rw [nR18, nR18, y_uE] at this
            exact this
          have k66 : u g_t36 66 (u_l1 u_z1 1 (zi p), u_z2, [(0, 2)]) [] sC = some (some (.inl (zi z)), s5) := by
            rw [b_36_66, u_l1E, if_pos i7, c28, if_pos iz7, kz, k7, zi_one, w1, u_bvS, e28, show Int32.ofInt 1 = zi 1 from rfl, zi_sub (by omega), Nat.add_sub_cancel]
          rw [b_36 hW, e1, u_biS, if_neg n10, if_pos hT, e, if_pos i7, k7, v2, q1, u_biS, if_pos (show Int32.ofInt 0 = 0 by decide), c28, if_pos (show zi z < Int32.ofInt 7 from (zi_lt (b := 7) (by omega) (by omega)).mpr (by omega)), if_pos i7, c30]
          rcases h34 with h3 | h4
          · rw [if_neg (s4 (by omega)), if_pos i7, if_pos (show zi h = Int32.ofInt 3 by rw [h3]; rfl)]
            exact k66
          · rw [if_pos (show zi h = Int32.ofInt 4 by rw [h4]; rfl)]
            exact k66
        · have e85' : t5.1 85 8 = zi (z + 1) := by
            rw [v2' 8 (by omega)]
            dsimp only
            rw [y_uN (by omega), y_uE]
          have k38 : u g_t239 38 (u_l1 u_z1 1 (zi p), u_z2, [(0, 67)]) [] t1 = some (some (.inl (zi z)), t5) := by
            rw [b_239_38, u_l1E, if_pos i8, k7, t82, q2, u_biS, if_pos (show Int32.ofInt 0 = 0 by decide), g1, u_bvS, put, u_bvS, v1', u_bvS, e85', show Int32.ofInt 1 = zi 1 from rfl, zi_sub (by omega), Nat.add_sub_cancel]
          rw [b_239, f1, u_bvS, e2, u_biS, if_neg n10, e, z9, zi_add, if_pos i9, k9, m9]
          rcases h34 with h3 | h4
          · rw [if_neg (s4 (by omega)), if_pos i9, if_pos (show zi h = Int32.ofInt 3 by rw [h3]; rfl)]
            exact k38
          · rw [if_pos (show zi h = Int32.ofInt 4 by rw [h4]; rfl)]
            exact k38
        · refine aP_keep (f := sC.1) (g := sM.1) (O := O) (U := U) (D := D) hb hUD A w3 N (fun j hj => (w7 j hj).trans (nrow j hj).symm) (fun j hj => (w8 j hj).trans ?_) (fun j hj => (m4 91 _ (Or.inl rfl)).trans ((g5 j hj).trans (e85 j))) (fun i j hi hj => (m4 91 _ (Or.inl rfl)).trans ((g6 i j hi hj).trans (n91 _)))
          dsimp only
          rw [y_uN (by omega), y_uN (by omega), y_uN (by omega)]
      · refine no ?_ ?_
        · rw [b_36 hW, e1, u_biS, if_neg n10, if_pos hT, e, if_pos i7, k7, v2, q1, u_biS, if_pos (show Int32.ofInt 0 = 0 by decide)]
          by_cases y : sC.1 28 1 < Int32.ofInt 7
          · rw [if_pos y, if_pos i7, c30, if_neg (s4 (by omega)), if_pos i7, if_neg (s3 (by omega))]
          · rw [if_neg y]
        · rw [b_239, f1, u_bvS, e2, u_biS, if_neg n10, e, z9, zi_add, if_pos i9, k9, m9, if_neg (s4 (by omega)), if_pos i9, if_neg (s3 (by omega))]
    · refine no ?_ ?_
      · rw [b_36 hW, e1, u_biS, if_neg n10, if_pos hT, e, if_pos i7, k7, v2, q1, u_biS, if_neg n10]
      · have k38 : u g_t239 38 (u_l1 u_z1 1 (zi p), u_z2, [(0, 67)]) [] t1 = some (some (.inl (u_k (-1))), t1) := by
          rw [b_239_38, u_l1E, if_pos i8, k7, t82, q2, u_biS, if_neg n10]
        rw [b_239, f1, u_bvS, e2, u_biS, if_neg n10, e, z9, zi_add, if_pos i9, k9, m9]
        by_cases h4 : h = 4
        · rw [if_pos (show zi h = Int32.ofInt 4 by rw [h4]; rfl)]
          exact k38
        · rw [if_neg (s4 h4), if_pos i9]
          by_cases h3 : h = 3
          · rw [if_pos (show zi h = Int32.ofInt 3 by rw [h3]; rfl)]
            exact k38
          · rw [if_neg (s3 h3)]
  · refine no ?_ ?_
    · rw [b_36 hW, e1, u_biS, if_pos (show Int32.ofInt 0 = 0 by decide)]
    · rw [b_239, f1, u_bvS, e2, u_biS, if_pos (show Int32.ofInt 0 = 0 by decide)]
end JOIN
