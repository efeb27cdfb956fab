/-! A TICKET GIVEN UP: both sides -/
section GIVE
variable {W : Nat}
theorem m272_4 {z k p : Nat} (hz : z ≤ 7) (hk : k < z) {s : u_H} (h8 : s.1 86 8 = zi z) (hp : s.1 86 k = zi p) (hne : ∀ j, j < z → j ≠ k → s.1 86 j ≠ zi p) : ∀ (f i : Nat) (li : Nat → Int32) (ll : Nat → Int64), z - i ≤ f → i ≤ z → li 1 = zi p → li 2 = (if k < i then zi k else u_k (-1)) → li 3 = zi i → u g_t272 4 (li, ll, [(0, 67)]) [] s = some (some (.inl (zi k)), s) := by
  intro f
  have stop : ∀ (i : Nat) (li : Nat → Int32) (ll : Nat → Int64), i = z → li 2 = (if k < i then zi k else u_k (-1)) → li 3 = zi i → u g_t272 4 (li, ll, [(0, 67)]) [] s = some (some (.inl (zi k)), s) := by
    intro i li ll hi h2 h3
    rw [b_272_4, b_277, u_biS, h3, h8, hi, if_neg (by rw [zi_lt (by omega) (by omega)]; omega), h2, if_pos (by omega)]
  induction f with
  | zero =>
    intro i li ll hf hi h1 h2 h3
    exact stop i li ll (by omega) h2 h3
  | succ f ih =>
    intro i li ll hf hi h1 h2 h3
    by_cases q : i < z
    · have hin : u_in (zi i) 28 = true := (u_inz (by omega)).mpr (by omega)
      have hcl : (zi i).toNatClampNeg = i := zi_clamp (by omega)
      rw [b_272_4, b_277, u_biS, h3, h8, if_pos ((zi_lt (by omega) (by omega)).mpr q), if_pos hin, hcl, h1, zi_one]
      by_cases e : i = k
      · subst e
        rw [if_pos hp]
        refine ih (i + 1) _ _ (by omega) (by omega) ?_ ?_ (u_l1E _ _ _)
        · rw [u_l1N (by omega), u_l1N (by omega)]; exact h1
        · rw [u_l1N (by omega), u_l1E, if_pos (by omega)]
      · rw [if_neg (hne i q e)]
        refine ih (i + 1) _ _ (by omega) (by omega) ?_ ?_ (u_l1E _ _ _)
        · rw [u_l1N (by omega), u_l1N (by omega)]; exact h1
        · rw [u_l1N (by omega), u_l1E, h2]
          by_cases w : k < i
          · rw [if_pos w, if_pos (by omega)]
          · rw [if_neg w, if_neg (by omega)]
    · exact stop i li ll (by omega) h2 h3
theorem m_place {z k p : Nat} (hz : z ≤ 7) (hk : k < z) {s : u_H} (h8 : s.1 86 8 = zi z) (hp : s.1 86 k = zi p) (hne : ∀ j, j < z → j ≠ k → s.1 86 j ≠ zi p) : u_c 272 [.inr (.inr 67), .inl (zi p)] s = some (some (.inl (zi k)), s) := by
  rw [b_272]
  exact m272_4 hz hk h8 hp hne 7 0 _ _ (by omega) (Nat.zero_le _) rfl (by rw [u_l1N (by omega), u_l1E, if_neg (by omega)]) (u_l1E _ _ _)
/-- where one of the queue stands, on both sides -/
theorem aQ_place {b p : Nat} {c m : Nat → Int32} (hb : b ≤ 7) (H : aQ b c m) (hp : p < b) (h0 : c (7 + p) = zi 0) : ∃ z k, z ≤ b ∧ k < z ∧ c 18 = zi z ∧ m 8 = zi z ∧ c k = zi p ∧ m k = zi p ∧ (∀ j, j < z → j ≠ k → c j ≠ zi p ∧ m j ≠ zi p) := by
  obtain ⟨z, z1, zc, z2, z3, z4, z5, z6⟩ := H
  obtain ⟨k, k1, k2⟩ := z6 p hp h0
  obtain ⟨p', q1, q2, q3, q4⟩ := z4 k k1
  have e : p' = p := (zi_inj (by omega) (by omega)).mp (q2.symm.trans k2)
  subst e
  refine ⟨z, k, z1, k1, z2, z3, k2, q3, fun j hj hjk => ?_⟩
  obtain ⟨p2, r1, r2, r3, r4⟩ := z4 j hj
  have hne : p2 ≠ p' := fun e => by
    subst e
    exact hjk (z5 j k hj k1 (r2.trans k2.symm))
  refine ⟨fun e => hne ?_, fun e => hne ?_⟩
  · exact (zi_inj (by omega) (by omega)).mp (r2.symm.trans e)
  · exact (zi_inj (by omega) (by omega)).mp (r3.symm.trans e)
/-- giveUp(pair) -/
theorem giveUp_alike (hW : W = 5 ∨ W = 17) {b R : Nat} (hb : b ≤ 7) {sC sM : u_H} (hT : sC.2.2.1 = W) (h4 : sC.1 (W - 2) 4 = zi b) (h48 : sM.1 65 48 = zi b) (hR : aR b R (nR sC.1) (sM.1 85)) (hP : aP b R sC.1 sM.1) (x : Int32) : ∃ (y : Int32) (s2 t2 : u_H), u_c 25 [.inr (.inr 2), .inl x] sC = some (some (.inl y), s2) ∧ u_c 211 [.inr (.inr 67), .inl x] sM = some (some (.inl y), t2) ∧ aR b R (nR s2.1) (t2.1 85) ∧ aP b R s2.1 t2.1 := by
  have n1 : ¬ Int32.ofInt 1 = 0 := by decide
  rcases inQ_alike hW hb hT h4 h48 hR x with ⟨p, hp, e, h0, e1, e2⟩ | ⟨e1, e2⟩
  · obtain ⟨z, k, z1, k1, z2, z3, k2, k3, kn⟩ := aQ_place hb hR.1 hp h0
    obtain ⟨O, U, D, hO, hUD, ⟨p1, p2, p3⟩, ⟨p4, p5⟩, A⟩ := hP
    obtain ⟨U2, t2, g1, g2, g3, g4, g5, g6, g7, g8, g9⟩ := m_act (U := U) (by omega) p4
    -- the class
    have c28 : sC.1 28 1 = zi z := z2
    have pl := c_place (z := z) (k := k) (p := p) (by omega) k1 (s := sC) c28 ((nRl (by omega)).symm.trans k2) (fun j hj q => (kn j (by omega) (by omega)).1 ((nRl (by omega)).trans q))
    obtain ⟨s3, l1, l2, l3, l4⟩ := c_leave (z := z) (k := k) (by omega) k1 (s := sC) c28
    have nl : ∀ o j, ¬ ((o = 28 ∧ j = 1) ∨ (o = 29 ∧ j < 7)) → s3.1 o j = sC.1 o j := fun o j h => l4.i h
    -- the model
    have pm := m_place (z := z) (k := k) (p := p) (by omega) k1 (s := t2) ((g7 8 (by omega)).trans z3) ((g7 k (by omega)).trans k3) (fun j hj hjk q => (kn j hj hjk).2 ((g7 j (by omega)).symm.trans q))
    obtain ⟨t3, d1, d2, d3, d4⟩ := m_take (z := z) (k := k) (by omega) k1 (s := t2) ((g7 8 (by omega)).trans z3)
    have nt : ∀ i, i < 28 → ¬ (i < 9 ∧ i ≠ 7) → t3.1 86 i = sM.1 85 i := fun i hi h => (d4.i (fun q => h q.2)).trans (g7 i hi)
    obtain ⟨t5, v1, v2, v3⟩ := m_240 (y_u t3.1 86 (9 + p) (Int32.ofInt 4), t3.2)
    have i7 : u_in (zi p) 7 = true := (u_inz (by omega)).mpr (by omega)
    have i9 : u_in (zi (9 + p)) 28 = true := (u_inz (by omega)).mpr (by omega)
    have k7 : (zi p).toNatClampNeg = p := zi_clamp (by omega)
    have k9 : (zi (9 + p)).toNatClampNeg = 9 + p := zi_clamp (by omega)
    obtain ⟨O2, U2', s5, w1, w2, w3, w4, w5, w6, w7, w8, w9⟩ := c_keep hO (U := U) (by omega) (s := (y_u s3.1 30 p (Int32.ofInt 4), s3.2)) (by dsimp only; rw [y_uN (by omega), nl 33 1 (by omega)]; exact p1) (by dsimp only; rw [y_uN (by omega), nl 33 2 (by omega)]; exact p2)
    have eU : U2' = U2 := by
      rcases w3 with ⟨z1, z2, z3⟩ | ⟨z1, z2, z3⟩
      · rcases g2 with ⟨y1, y2⟩ | ⟨y1, y2⟩ <;> omega
      · rcases g2 with ⟨y1, y2⟩ | ⟨y1, y2⟩ <;> omega
    subst eU
    have m4 : ∀ o j, (o = 91 ∨ (o = 65 ∧ (j = 66 ∨ j = 67))) → t5.1 o j = t2.1 o j := fun o j h => (v3.i (fun z => by have z : o = 85 := z; omega)).trans ((y_uN (by omega)).trans (d4.i (fun z => by omega)))
    have nrow : ∀ j, j < 24 → nR s5.1 j = nR (y_u s3.1 30 p (Int32.ofInt 4)) j := fun j hj => by
      have hs := qS_so j hj
      refine w9.i (fun z => ?_)
      unfold qS at hs
      omega
    have N0 : aR b R (nR (y_u s3.1 30 p (Int32.ofInt 4))) (y_u t3.1 86 (9 + p) (Int32.ofInt 4) 86) := by
      refine aR_gone (z := z) (k := k) (p := p) (h := 4) hb hR z2 z1 k1 hp k2 (by omega) (by omega) ?_ ?_ (fun i hi => ?_) (fun i hi => ?_) (fun j hj hjp => ⟨?_, ?_⟩) ⟨?_, ?_⟩ (fun i h1 h2 h3 h4 => ?_) (fun i h1 h2 h3 => ?_) ?_
      · rw [nR18, y_uN (by omega)]
        exact l2
      · rw [y_uN (by omega)]
        exact d2
      · rw [nRl (by omega), nRl (by split <;> omega), y_uN (by omega)]
        exact l3 i hi
      · rw [y_uN (by omega), d3 i hi]
        exact g7 _ (by split <;> omega)
      · rw [nRh (by omega), nRh (by omega), y_uN (by omega), nl 30 j (by omega)]
      · rw [y_uN (by omega)]
        exact nt _ (by omega) (by omega)
      · rw [nRh (by omega), y_uE]
        rfl
      · rw [y_uE]
        rfl
      · refine nRo h1 h2 (fun j hj => ⟨?_, ?_⟩) (fun y => ?_)
        · rw [y_uN (by omega), nl 31 j (by omega)]
        · rw [y_uN (by omega), nl 32 j (by omega)]
        · rcases (show i = 19 ∨ i = 20 ∨ i = 22 ∨ i = 23 by omega) with rfl | rfl | rfl | rfl
          · exact (y_uN (f := s3.1) (o2 := 28) (k2 := 3) (by omega)).trans (nl 28 3 (by omega))
          · exact (y_uN (f := s3.1) (o2 := 28) (k2 := 6) (by omega)).trans (nl 28 6 (by omega))
          · exact (y_uN (f := s3.1) (o2 := 28) (k2 := 8) (by omega)).trans (nl 28 8 (by omega))
          · exact (y_uN (f := s3.1) (o2 := 28) (k2 := 9) (by omega)).trans (nl 28 9 (by omega))
      · rw [y_uN (by omega)]
        exact nt i h2 (by omega)
      · rw [nR21, y_uN (by omega), nl 28 7 (by omega), y_uN (by omega), nt 25 (by omega) (by omega)]
        exact hR.2.2.1.2.2.1
    have N : aR b R (nR s5.1) (t5.1 85) := aR_eq N0 hb nrow v2
    refine ⟨zi (z - 1), s5, t5, ?_, ?_, N, O2, U2', 0, w2, by omega, ⟨w4, w5, w6⟩, ⟨(m4 65 66 (Or.inr ⟨rfl, Or.inl rfl⟩)).trans g3, (m4 65 67 (Or.inr ⟨rfl, Or.inr rfl⟩)).trans g4⟩, ?_⟩
    · have e28 : s5.1 28 1 = zi (z - 1) := by
        have := nrow 18 (by omega)
        rw [nR18, nR18, y_uN (by omega)] at this
        exact this.trans l2
      rw [b_25, e1, u_biS, if_neg n1, e, pl, u_biS, l1, u_bvS, if_pos i7, k7, w1, u_bvS, e28]
    · have e85 : t5.1 85 8 = zi (z - 1) := by
        rw [v2 8 (by omega)]
        dsimp only
        rw [y_uN (by omega)]
        exact d2
      rw [b_211, e2, u_biS, if_neg n1, g1, u_bvS, e, pm, u_biS, d1, u_biS, show Int32.ofInt 9 = zi 9 from rfl, zi_add, if_pos i9, k9, v1, u_bvS, e85]
    · refine aP_keep (f := sC.1) (g := sM.1) (O := O) (U := U) (D := D) hb hUD A w3 N (fun j hj => (w7 j hj).trans (nrow j hj).symm) (fun j hj => (w8 j hj).trans ?_) (fun j hj => (m4 91 _ (Or.inl rfl)).trans (g5 j hj)) (fun i j hi hj => (m4 91 _ (Or.inl rfl)).trans (g6 i j hi hj))
      dsimp only
      rw [y_uN (by omega)]
      exact nl 34 j (by omega)
  · refine ⟨u_k (-1), sC, sM, ?_, ?_, hR, hP⟩
    · rw [b_25, e1, u_biS, if_pos (show Int32.ofInt 0 = 0 by decide)]
    · rw [b_211, e2, u_biS, if_pos (show Int32.ofInt 0 = 0 by decide)]
end GIVE
