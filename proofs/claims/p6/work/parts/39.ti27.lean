/-! A SHORT FORM, agreed on or not: both sides; whatever is answered, the rows stay alike -/
section TURN
variable {W : Nat}
theorem aR_short {b R : Nat} {c m c2 m2 : Nat → Int32} (hb : b ≤ 7) (H : aR b R c m) (e1 : ∀ i, i < 24 → i ≠ 19 → c2 i = c i) (e2 : ∀ i, i < 28 → i ≠ 17 → m2 i = m i) (hw : c2 19 = m2 17) : aR b R c2 m2 := by
  obtain ⟨H1, H2, H3, H4⟩ := H
  refine ⟨aQ_eq H1 hb (fun k hk => e1 k (by omega) (by omega)) (e1 18 (by omega) (by omega)) (fun k hk => e2 k (by omega) (by omega)), aH_eq H2 (fun q hq => e1 _ (by omega) (by omega)) (fun q hq => e2 _ (by omega) (by omega)), ?_, aL_eq H4 (fun k _ hk => e1 k (by omega) (by omega)) (fun k _ hk => e2 k (by omega) (by omega)) (fun p hp e => (e1 (7 + p) (by omega) (by omega)).trans e)⟩
  obtain ⟨-, a2, a3, ⟨t, t1, t2, t3⟩, a5⟩ := H3
  refine ⟨hw, ?_, ?_, ⟨t, t1, ?_, ?_⟩, ?_⟩
  · rw [e1 20 (by omega) (by omega), e2 24 (by omega) (by omega)]; exact a2
  · rw [e1 21 (by omega) (by omega), e2 25 (by omega) (by omega)]; exact a3
  · rw [e1 22 (by omega) (by omega)]; exact t2
  · rw [e2 26 (by omega) (by omega)]; exact t3
  · rw [e1 23 (by omega) (by omega), e2 27 (by omega) (by omega)]; exact a5
theorem aP_fr {b R : Nat} {f g f2 g2 : Nat → Nat → Int32} (hb : b ≤ 7) (h : aP b R f g) (e1 : ∀ k, (k = 1 ∨ k = 2 ∨ k = 3) → f2 33 k = f 33 k) (e2 : ∀ k, k < 984 → f2 34 k = f 34 k) (e3 : ∀ k, (k = 66 ∨ k = 67) → g2 65 k = g 65 k) (e4 : ∀ k, k < 28 → g2 85 k = g 85 k) (e5 : ∀ k, k < 1120 → g2 91 k = g 91 k) : aP b R f2 g2 := by
  obtain ⟨O, U, D, hO, hUD, ⟨p1, p2, p3⟩, ⟨p4, p5⟩, A⟩ := h
  refine ⟨O, U, D, hO, hUD, ⟨(e1 1 (by omega)).trans p1, (e1 2 (by omega)).trans p2, (e1 3 (by omega)).trans p3⟩, ⟨(e3 66 (by omega)).trans p4, (e3 67 (by omega)).trans p5⟩, fun i hi => aR_eq (A i hi) hb (fun k hk => ?_) (fun k hk => ?_)⟩
  · have := pN_le O i
    exact e2 _ (by omega)
  · unfold mP
    by_cases q : i = U
    · rw [if_pos q, if_pos q]
      exact e4 k hk
    · rw [if_neg q, if_neg q]
      refine e5 _ ?_
      split <;> omega
theorem bN_0 : ∀ v : Fin 5, ((Int32.ofInt 0 >>> (zi v.1 &&& 31)) &&& Int32.ofInt 1) = 0 := by decide +kernel
/-- how long one in the queue takes now: each side for itself, its SHIP gone or not -/
theorem lenEach (hW : W = 5 ∨ W = 17) {a b R w z k p : Nat} {c : List Int} {l : Bool} {sC sM : u_H} (J : jR W a b R w c l sC sM) (hz : nR sC.1 18 = zi z) (hzb : z ≤ b) (hk : k < z) (hp : p < b) (hkp : sC.1 29 k = zi p) : (∃ t s2, u_c 42 [.inr (.inr 2), .inl (zi p)] sC = some (some (.inl (zi t)), s2) ∧ u_fi (fun o _ => fLc W o) sC s2) ∧ ∃ t t2, u_c 250 [.inr (.inr 67), .inl (zi p), .inl (zi (z - 1 - k))] sM = some (some (.inl (zi t)), t2) ∧ u_fr (fun o _ => o = 73 ∨ o = 74) sM t2 := by
  obtain ⟨J1, J2, J3⟩ := J
  obtain ⟨⟨A1, A2, A3, A4⟩, ⟨A5, A6, A7, A8, A9, A10, A11⟩, A12, A13, ⟨A14, A15, A16, A17, A18, A19⟩, A20⟩ := J2
  have hz1 : sC.1 28 1 = zi z := hz
  obtain ⟨s1, o1, o2, o3, o4, o5, o6, ⟨o7, o8, o9, o10, o11, o12⟩, o13⟩ := c_open hW A1 A2 (s := sC) A5 A6
  obtain ⟨⟨v, v1, v2, v3⟩, n4, n5⟩ := A13 p hp
  obtain ⟨S1, S2, S3, ⟨t, t1, t2, t3⟩, S5⟩ := J3.2.2.1
  have nk : ∀ o k, ¬ (36 ≤ o ∧ o ≤ 41) → s1.1 o k = sC.1 o k := o2
  have hno : ∀ j, j < k → s1.1 29 j ≠ zi p := fun j hj e => by
    rw [nk 29 j (by omega)] at e
    obtain ⟨z', x1, -, x2, -, -, x6, -⟩ := J3.1
    have ez : z' = z := (zi_inj (by omega) (by omega)).mp (x2.symm.trans hz)
    subst ez
    have := x6 j k (by omega) hk (by rw [nRl (by omega), nRl (by omega)]; exact e.trans hkp.symm)
    omega
  have C : prC W c s1.1 := ⟨(nk _ _ (by omega)).trans A15.1, fun j x hx => (nk _ _ (by omega)).trans (A15.2 j x hx)⟩
  refine ⟨?_, ?_⟩
  · obtain ⟨L, hL⟩ : ∃ L : Int32, L = (if Int32.ofInt 0 < s1.1 39 v - zi t then s1.1 39 v - zi t else Int32.ofInt 0) := ⟨_, rfl⟩
    have n2 : ∀ o k, ¬ (o = 86 ∧ k = 24) → ¬ (o = 80 ∧ k = v) → y_u (y_u sM.1 86 24 (Int32.ofInt 0)) 80 v (L + zi t) o k = sM.1 o k := fun o k x y => (y_uN y).trans (y_uN x)
    have hs : sLm (y_u (y_u sM.1 86 24 (Int32.ofInt 0)) 80 v (L + zi t)) v = L + zi t := by
      unfold sLm
      rw [y_uN (by omega), y_uE, if_pos (bN_0 ⟨v, by omega⟩), y_uE]
    obtain ⟨r, s2, t2', r1, r2, r3, -, r5, -⟩ := len_two hW (p := p) (v := v) (t := t) (w := w) (c := c) (l := l) (sC := s1) (sM := (y_u (y_u sM.1 86 24 (Int32.ofInt 0)) 80 v (L + zi t), sM.2)) (bh := zi (z - 1 - k)) (by rw [o3]) (by omega) (by omega) t1 ((nk (W + 3) p (by omega)).trans v2) ((n2 82 p (by omega) (by omega)).trans v3) (((o4 p (by omega)).2.trans n4).trans (n2 83 p (by omega) (by omega)).symm) (((nk (W + 5) p (by omega)).trans n5).trans (n2 84 p (by omega) (by omega)).symm) ((o8.trans A8).trans (n2 65 27 (by omega) (by omega)).symm) ((n2 86 26 (by omega) (by omega)).trans t3) ((n2 65 29 (by omega) (by omega)).trans A11) ((o7.trans S1).trans (n2 86 17 (by omega) (by omega)).symm) A14 C ⟨(n2 65 18 (by omega) (by omega)).trans A16.1, fun j x hx => by
      dsimp only
      rw [n2 70 j (by omega) (by omega), n2 71 j (by omega) (by omega)]
      exact A16.2 j x hx⟩ ((n2 65 25 (by omega) (by omega)).trans A17) A18 A19
    have r3 := r3 (by
      dsimp only
      rw [hs, ← hL]
      exact (Int32.add_sub_cancel L (zi t)).symm)
    refine ⟨r, s2, ?_, u_fi.tr (s2 := s1) ⟨fun o j h => o2 o j (fun q => h (Or.inl q)), by rw [o3]⟩ (r5.fi.mono (fun o j q => Or.inr q))⟩
    rw [b_42, b_52 hW, if_pos J1, o1, u_bvS, u_bvS, c_place (by omega) hk ((nk 28 1 (by omega)).trans hz1) ((nk 29 k (by omega)).trans hkp) hno, u_biS, (nk 28 1 (by omega)).trans hz1, (nk 28 8 (by omega)).trans (show sC.1 28 8 = zi t from t2), show Int32.ofInt 1 = zi 1 from rfl, zi_sub (by omega), zi_sub (by omega), r3, u_biS]
  · obtain ⟨r, s2, t2', r1, r2, -, r4, -, r6⟩ := len_two hW (p := p) (v := v) (t := t) (w := w) (c := c) (l := l) (sC := s1) (sM := sM) (bh := zi (z - 1 - k)) (by rw [o3]) (by omega) (by omega) t1 ((nk (W + 3) p (by omega)).trans v2) v3 ((o4 p (by omega)).2.trans n4) ((nk (W + 5) p (by omega)).trans n5) (o8.trans A8) t3 A11 (o7.trans S1) A14 C A16 A17 A18 A19
    exact ⟨r, t2', r4, r6⟩
/-- the SHORT form of one in the queue, turned -/
theorem turn_core (hW : W = 5 ∨ W = 17) {a b R w p : Nat} {c : List Int} {l : Bool} {sC sM : u_H} (hT : sC.2.2.1 = W) (hA : tW W a b R w c l sC.1 sM.1) (hR : aR b R (nR sC.1) (sM.1 85)) (hP : aP b R sC.1 sM.1) (hp : p < b) (h0 : nR sC.1 (7 + p) = zi 0) : ∃ (v v2 : Int32) (s2 t2 : u_H), (u_bv (u_c 94 [.inr (.inr 35), .inr (.inr 30)] (y_u sC.1 28 3 (sC.1 28 3 ^^^ (Int32.ofInt 1 <<< (zi p &&& 31))), sC.2)) fun s5 => u_bi (u_c 42 [.inr (.inr 2), .inl (zi p)] s5) fun x7 s6 => some (some (.inl x7), s6)) = some (some (.inl v), s2) ∧ u_c 314 [.inr (.inr 67), .inl (zi p)] sM = some (some (.inl v2), t2) ∧ aR b R (nR s2.1) (t2.1 85) ∧ aP b R s2.1 t2.1 := by
  have hb : b ≤ 7 := hA.1.2.1
  obtain ⟨z, k, z1, k1, z2, z3, k2, k3, kn⟩ := aQ_place hb hR.1 hp h0
  have hP0 := hP
  obtain ⟨O, U, D, hO, hUD, ⟨p1, p2, p3⟩, ⟨p4, p5⟩, A⟩ := hP
  obtain ⟨U2, t2, g1, g2, g3, g4, g5, g6, g7, g8, g9⟩ := m_act (U := U) (by omega) p4
  have n2 : ∀ o k, ¬ fAm o k → t2.1 o k = sM.1 o k := fun o k h => g9.i h
  have nA : ∀ o k, tWm o k → ¬ fAm o k := by
    intro o k p z
    unfold tWm at p
    unfold fAm f177 at z
    omega
  have a85 : ∀ k, t2.1 85 k = sM.1 85 k := fun k => n2 85 k (fun z => by unfold fAm f177 at z; omega)
  obtain ⟨x, hx⟩ : ∃ x : Int32, x = (sC.1 28 3 ^^^ (Int32.ofInt 1 <<< (zi p &&& 31))) := ⟨_, rfl⟩
  have h17 : sC.1 28 3 = sM.1 85 17 := hR.2.2.1.1
  have hx2 : (t2.1 85 17 ^^^ (Int32.ofInt 1 <<< (zi p &&& 31))) = x := by rw [a85, ← h17, hx]
  obtain ⟨O2, U2', s5, w1, w2, w3, w4, w5, w6, w7, w8, w9⟩ := c_keep hO (U := U) (by omega) (s := (y_u sC.1 28 3 x, sC.2)) (by dsimp only; rw [y_uN (by omega)]; exact p1) (by dsimp only; rw [y_uN (by omega)]; exact p2)
  have eU : U2' = U2 := by
    rcases w3 with ⟨z1, z2, z3⟩ | ⟨z1, z2, z3⟩
    · rcases g2 with ⟨y1, y2⟩ | ⟨y1, y2⟩ <;> omega
    · rcases g2 with ⟨y1, y2⟩ | ⟨y1, y2⟩ <;> omega
  subst eU
  obtain ⟨t3, ht3⟩ : ∃ t3 : u_H, t3 = (y_u t2.1 85 17 x, t2.2) := ⟨_, rfl⟩
  have m3 : ∀ o k, ¬ (o = 85 ∧ k = 17) → t3.1 o k = t2.1 o k := fun o k h => by
    rw [ht3]
    exact y_uN h
  have m317 : t3.1 85 17 = x := by
    rw [ht3]
    dsimp only
    exact y_uE _ _ _ _
  have nrow : ∀ j, j < 24 → nR s5.1 j = nR (y_u sC.1 28 3 x) j := fun j hj => by
    have hs := qS_so j hj
    refine w9.i (fun z => ?_)
    unfold qS at hs
    omega
  have so3 : ∀ i : Fin 24, (y_so i.1).1 = 28 ∧ (y_so i.1).2 = 3 → i.1 = 19 := by decide
  have N : aR b R (nR s5.1) (t3.1 85) := by
    refine aR_short hb hR (fun i hi q => (nrow i hi).trans ?_) (fun i hi q => (m3 85 i (by omega)).trans (a85 i)) ?_
    · exact y_uN (fun z => q (so3 ⟨i, hi⟩ z))
    · rw [nrow 19 (by omega), m317, nR19, y_uE]
  have P : aP b R s5.1 t3.1 := by
    refine ⟨O2, U2', 0, w2, by omega, ⟨w4, w5, w6⟩, ⟨(m3 65 66 (by omega)).trans g3, (m3 65 67 (by omega)).trans g4⟩, ?_⟩
    refine aP_keep (f := sC.1) (g := sM.1) (O := O) (U := U) (D := D) hb hUD A w3 N (fun j hj => (w7 j hj).trans (nrow j hj).symm) (fun j hj => (w8 j hj).trans ?_) (fun j hj => (m3 91 _ (by omega)).trans (g5 j hj)) (fun i j hi hj => (m3 91 _ (by omega)).trans (g6 i j hi hj))
    dsimp only
    rw [y_uN (by omega)]
  obtain ⟨t4, f1, f2, f3, f4⟩ := m_fillT t3
  have n177 : ∀ o k, (o ≠ 65 ∨ (k ≠ 27 ∧ k ≠ 28 ∧ k ≠ 29 ∧ k ≠ 59 ∧ k ≠ 62)) → (o < 87 ∨ 90 < o) → ¬ f177 o k := by
    intro o k p q z
    unfold f177 at z
    omega
  have n4 : ∀ o k, o ≠ 86 → ¬ f177 o k → t4.1 o k = t3.1 o k := fun o k p q => f4.i (fun z => by rcases z with z | z; exact p z; exact q z)
  have tt : ∀ o k, tWm o k → t4.1 o k = sM.1 o k := fun o k q => (n4 o k (by unfold tWm at q; omega) (n177 o k (by unfold tWm at q; omega) (by unfold tWm at q; omega))).trans ((m3 o k (by unfold tWm at q; omega)).trans (n2 o k (nA o k q)))
  have t49 : ∀ k, (k = 49 ∨ k = 50) → t3.1 65 k = sM.1 65 k := fun k hk => (m3 65 k (by omega)).trans (n2 65 k (fun z => by unfold fAm f177 at z; omega))
  have c5 : ∀ o k, aWc W o k → s5.1 o k = sC.1 o k := fun o k q => (w9.i (fun z => by unfold aWc at q; omega)).trans (y_uN (fun z => by unfold aWc at q; omega))
  have hT5 : s5.2.2.1 = W := by
    rw [w9.2]
    exact hT
  have J : jR W a b R w c l s5 t4 := ⟨hT5, tW_aW hA ⟨f3.1.trans (t49 49 (by omega)), f3.2.1.trans (t49 50 (by omega)), f3.2.2.1, f3.2.2.2.2.2.2⟩ c5 tt, aR_eq N hb (fun k _ => rfl) f2⟩
  have r29 : ∀ j, j < 7 → s5.1 29 j = sC.1 29 j := fun j hj => by
    rw [w9.i (o := 29) (k := j) (fun z => by have z : 29 = 33 ∨ 29 = 34 := z; omega)]
    dsimp only
    rw [y_uN (by omega)]
  have r18 : nR s5.1 18 = zi z := by
    rw [nrow 18 (by omega), nR18, y_uN (by omega)]
    exact z2
  obtain ⟨⟨r, s6, L1, L2⟩, r', t6, L3, L4⟩ := lenEach hW J r18 z1 k1 hp ((r29 k (by omega)).trans ((nRl (by omega)).symm.trans k2))
  have q8 : t4.1 86 8 = zi z := (f2 8 (by omega)).trans ((m3 85 8 (by omega)).trans ((a85 8).trans z3))
  have pm := m_place (z := z) (k := k) (p := p) (by omega) k1 (s := t4) q8 ((f2 k (by omega)).trans ((m3 85 k (by omega)).trans ((a85 k).trans k3))) (fun j hj hjk q => (kn j hj hjk).2 (((f2 j (by omega)).trans ((m3 85 j (by omega)).trans (a85 j))).symm.trans q))
  have hf6 : ∀ o j, (28 ≤ o ∧ o ≤ 34) → s6.1 o j = s5.1 o j := fun o j h => L2.1 o j (fun q => by unfold fLc at q; omega)
  have hm6 : ∀ o j, (o = 85 ∨ o = 91 ∨ (o = 65 ∧ (j = 66 ∨ j = 67))) → t6.1 o j = t3.1 o j := fun o j h => (L4.i (fun q => by have q : o = 73 ∨ o = 74 := q; omega)).trans (n4 o j (by omega) (n177 o j (by omega) (by omega)))
  refine ⟨zi r, zi r', s6, t6, ?_, ?_, aR_eq N hb (fun j hj => ?_) (fun j hj => hm6 85 j (Or.inl rfl)), aP_fr hb P (fun j hj => hf6 33 j (by omega)) (fun j hj => hf6 34 j (by omega)) (fun j hj => hm6 65 j (Or.inr (Or.inr ⟨rfl, hj⟩))) (fun j hj => hm6 85 j (Or.inl rfl)) (fun j hj => hm6 91 j (Or.inr (Or.inl rfl)))⟩
  · rw [← hx, w1, u_bvS, L1, u_biS]
  · rw [b_314, g1, u_bvS, hx2, ← ht3, b_249, f1, u_bvS, b_277, u_biS, pm, u_biS, q8, show Int32.ofInt 1 = zi 1 from rfl, zi_sub (by omega), zi_sub (by omega), L3, u_biS, u_biS]
  · have hs := qS_so j hj
    unfold qS at hs
    exact hf6 _ _ (by omega)
/-- shorten(pair), insist(pair): y says which -/
theorem turn_alike (hW : W = 5 ∨ W = 17) {a b R w : Nat} {c : List Int} {l : Bool} {sC sM : u_H} (hT : sC.2.2.1 = W) (hA : tW W a b R w c l sC.1 sM.1) (h48 : sM.1 65 48 = zi b) (hR : aR b R (nR sC.1) (sM.1 85)) (hP : aP b R sC.1 sM.1) (x : Int32) : (∃ (v v2 : Int32) (s2 t2 : u_H), u_c 68 [.inr (.inr 2), .inl x] sC = some (some (.inl v), s2) ∧ u_c 298 [.inr (.inr 67), .inl x] sM = some (some (.inl v2), t2) ∧ aR b R (nR s2.1) (t2.1 85) ∧ aP b R s2.1 t2.1) ∧ ∃ (v v2 : Int32) (s2 t2 : u_H), u_c 31 [.inr (.inr 2), .inl x] sC = some (some (.inl v), s2) ∧ u_c 223 [.inr (.inr 67), .inl x] sM = some (some (.inl v2), t2) ∧ aR b R (nR s2.1) (t2.1 85) ∧ aP b R s2.1 t2.1 := by
  have hb : b ≤ 7 := hA.1.2.1
  have n1 : ¬ Int32.ofInt 1 = 0 := by decide
  have n01 : ¬ Int32.ofInt 0 = Int32.ofInt 1 := by decide
  have n10 : ¬ Int32.ofInt 1 = Int32.ofInt 0 := by decide
  have z0 : Int32.ofInt 0 = 0 := by decide
  have h17 : sC.1 28 3 = sM.1 85 17 := hR.2.2.1.1
  rcases inQ_alike hW hb hT hA.2.1.2.1 h48 hR x with ⟨p, hp, e, h0, e1, e2⟩ | ⟨e1, e2⟩
  · obtain ⟨v, v2, s2, t2, y1, y2, y3, y4⟩ := turn_core hW hT hA hR hP hp h0
    subst e
    by_cases q : bN (sC.1 28 3) p
    · have q2 : bN (sM.1 85 17) p := by rw [← h17]; exact q
      refine ⟨⟨v, v2, s2, t2, ?_, ?_, y3, y4⟩, u_k (-1), u_k (-1), sC, sM, ?_, ?_, hR, hP⟩
      · rw [b_68, b_3, e1, u_biS, if_neg n1, b_143, c_h0 q, u_biS, if_pos (show q_ib (Int32.ofInt 0) = true by decide), u_biS, if_neg n01, y1, u_biS]
      · rw [b_298, e2, u_biS, if_neg n1, m_h0 q2, u_biS, if_pos z0, y2, u_biS]
      · rw [b_31, b_3, e1, u_biS, if_neg n1, b_143, c_h0 q, u_biS, if_pos (show q_ib (Int32.ofInt 0) = true by decide), u_biS, if_pos rfl, u_biS]
      · rw [b_223, e2, u_biS, if_neg n1, m_h0 q2, u_biS, if_pos z0]
    · have q2 : ¬ bN (sM.1 85 17) p := by rw [← h17]; exact q
      refine ⟨⟨u_k (-1), u_k (-1), sC, sM, ?_, ?_, hR, hP⟩, v, v2, s2, t2, ?_, ?_, y3, y4⟩
      · rw [b_68, b_3, e1, u_biS, if_neg n1, b_143, c_h1 q, u_biS, if_pos (show q_ib (Int32.ofInt 1) = true by decide), u_biS, if_pos rfl, u_biS]
      · rw [b_298, e2, u_biS, if_neg n1, m_h1 q2, u_biS, if_neg n1]
      · rw [b_31, b_3, e1, u_biS, if_neg n1, b_143, c_h1 q, u_biS, if_pos (show q_ib (Int32.ofInt 1) = true by decide), u_biS, if_neg n10, y1, u_biS]
      · rw [b_223, e2, u_biS, if_neg n1, m_h1 q2, u_biS, if_neg n1, y2, u_biS]
  · refine ⟨⟨u_k (-1), u_k (-1), sC, sM, ?_, ?_, hR, hP⟩, u_k (-1), u_k (-1), sC, sM, ?_, ?_, hR, hP⟩
    · rw [b_68, b_3, e1, u_biS, if_pos z0, u_biS]
    · rw [b_298, e2, u_biS, if_pos z0]
    · rw [b_31, b_3, e1, u_biS, if_pos z0, u_biS]
    · rw [b_223, e2, u_biS, if_pos z0]
end TURN
