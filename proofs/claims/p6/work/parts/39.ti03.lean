/-! ONE GOES OUT OF THE QUEUE, one joins, two change places: both rows -/
section MOVE
/-- one at a place of the queue goes out, and is otherwise then -/
theorem aQ_out {b z k p h : Nat} {c m c2 m2 : Nat → Int32} (hb : b ≤ 7) (H : aQ b c m) (hz : c 18 = zi z) (hzb : z ≤ b) (hk : k < z) (hp : p < b) (hkp : c k = zi p) (h1 : 1 ≤ h) (h4 : h ≤ 4) (s1 : c2 18 = zi (z - 1)) (s2 : m2 8 = zi (z - 1)) (l1 : ∀ i, i < z - 1 → c2 i = c (if i < k then i else i + 1)) (l2 : ∀ i, i < z - 1 → m2 i = m (if i < k then i else i + 1)) (q1 : ∀ j, j < b → j ≠ p → c2 (7 + j) = c (7 + j)) (q2 : c2 (7 + p) = zi h) : aQ b c2 m2 := by
  obtain ⟨z', z1, zc, z2, z3, z4, z5, z6⟩ := H
  have ez : z' = z := (zi_inj (by omega) (by omega)).mp (z2.symm.trans hz)
  subst ez
  have hh : ¬ zi h = zi 0 := fun e => by
    have := (zi_inj (by omega) (by omega)).mp e
    omega
  have hp0 : c (7 + p) = zi 0 := by
    obtain ⟨p', p1, p2, p3, p4⟩ := z4 k hk
    have e : p' = p := (zi_inj (by omega) (by omega)).mp (p2.symm.trans hkp)
    subst e
    exact p4
  have ix : ∀ i, i < z' - 1 → (if i < k then i else i + 1) < z' ∧ (if i < k then i else i + 1) ≠ k := fun i hi => by
    split <;> omega
  refine ⟨z' - 1, by omega, ?_, s1, s2, fun i hi => ?_, fun i j hi hj e => ?_, fun j hj e => ?_⟩
  · have := cQ_out hp0 (by rw [q2]; exact hh) b hp (fun j hj hj2 => q1 j hj hj2)
    omega
  · obtain ⟨i1, i2⟩ := ix i hi
    obtain ⟨p', p1, p2, p3, p4⟩ := z4 _ i1
    have hne : p' ≠ p := fun e => by
      subst e
      exact i2 (z5 _ _ i1 hk (p2.trans hkp.symm))
    refine ⟨p', p1, (l1 i hi).trans p2, (l2 i hi).trans p3, ?_⟩
    rw [q1 p' p1 hne]
    exact p4
  · obtain ⟨i1, i2⟩ := ix i hi
    obtain ⟨j1, j2⟩ := ix j hj
    rw [l1 i hi, l1 j hj] at e
    have e2 := z5 _ _ i1 j1 e
    by_cases x : i < k
    · rw [if_pos x] at e2
      by_cases y : j < k
      · rw [if_pos y] at e2
        exact e2
      · rw [if_neg y] at e2
        omega
    · rw [if_neg x] at e2
      by_cases y : j < k
      · rw [if_pos y] at e2
        omega
      · rw [if_neg y] at e2
        omega
  · by_cases x : j = p
    · subst x
      rw [q2] at e
      exact absurd e hh
    · rw [q1 j hj x] at e
      obtain ⟨k', k1, k2⟩ := z6 j hj e
      have hne : k' ≠ k := fun e2 => by
        subst e2
        exact x ((zi_inj (by omega) (by omega)).mp (k2.symm.trans hkp))
      by_cases y : k' < k
      · refine ⟨k', by omega, ?_⟩
        rw [l1 k' (by omega), if_pos y]
        exact k2
      · refine ⟨k' - 1, by omega, ?_⟩
        rw [l1 (k' - 1) (by omega), if_neg (by omega), show k' - 1 + 1 = k' by omega]
        exact k2
/-- one that is not in the queue nor at a RAIL joins it at its end -/
theorem aQ_in {b z p h : Nat} {c m c2 m2 : Nat → Int32} (hb : b ≤ 7) (H : aQ b c m) (hz : c 18 = zi z) (hzb : z ≤ b) (hp : p < b) (hph : c (7 + p) = zi h) (h2 : 2 ≤ h) (h4 : h ≤ 4) (s1 : c2 18 = zi (z + 1)) (s2 : m2 8 = zi (z + 1)) (l1 : ∀ i, i < z → c2 i = c i) (l2 : ∀ i, i < z → m2 i = m i) (n1 : c2 z = zi p) (n2 : m2 z = zi p) (q1 : ∀ j, j < b → j ≠ p → c2 (7 + j) = c (7 + j)) (q2 : c2 (7 + p) = zi 0) : z < b ∧ aQ b c2 m2 := by
  obtain ⟨z', z1, zc, z2, z3, z4, z5, z6⟩ := H
  have ez : z' = z := (zi_inj (by omega) (by omega)).mp (z2.symm.trans hz)
  subst ez
  have hh : ∀ x, x < 2 → ¬ zi h = zi x := fun x hx e => by
    have := (zi_inj (by omega) (by omega)).mp e
    omega
  have hc := cQ_out (c := c2) (c2 := c) q2 (by rw [hph]; exact hh 0 (by omega)) b hp (fun j hj hj2 => (q1 j hj hj2).symm)
  have hle := cQ_le (c := c2) b
  refine ⟨by omega, z' + 1, by omega, by omega, s1, s2, fun i hi => ?_, fun i j hi hj e => ?_, fun j hj e => ?_⟩
  · rcases Nat.lt_or_ge i z' with x | x
    · obtain ⟨p', p1, p2, p3, p4⟩ := z4 i x
      have hne : p' ≠ p := fun e => by
        subst e
        rw [hph] at p4
        exact hh 0 (by omega) p4
      exact ⟨p', p1, (l1 i x).trans p2, (l2 i x).trans p3, (q1 p' p1 hne).trans p4⟩
    · have e : i = z' := by omega
      subst e
      exact ⟨p, hp, n1, n2, q2⟩
  · have inj : ∀ i, i < z' → c2 i ≠ zi p := fun i x e2 => by
      obtain ⟨p', p1, p2, p3, p4⟩ := z4 i x
      rw [l1 i x, p2] at e2
      have e3 : p' = p := (zi_inj (by omega) (by omega)).mp e2
      subst e3
      rw [hph] at p4
      exact hh 0 (by omega) p4
    rcases Nat.lt_or_ge i z' with x | x
    · rcases Nat.lt_or_ge j z' with y | y
      · rw [l1 i x, l1 j y] at e
        exact z5 i j x y e
      · have ej : j = z' := by omega
        subst ej
        rw [n1] at e
        exact absurd e (inj i x)
    · have ei : i = z' := by omega
      subst ei
      rcases Nat.lt_or_ge j i with y | y
      · rw [n1] at e
        exact absurd e.symm (inj j y)
      · omega
  · by_cases x : j = p
    · subst x
      exact ⟨z', by omega, n1⟩
    · rw [q1 j hj x] at e
      obtain ⟨k', k1, k2⟩ := z6 j hj e
      exact ⟨k', by omega, (l1 k' k1).trans k2⟩
/-- two in the queue change places -/
theorem aQ_swap {b z i j : Nat} {c m c2 m2 : Nat → Int32} (hb : b ≤ 7) (H : aQ b c m) (hz : c 18 = zi z) (hzb : z ≤ b) (hi : i < z) (hj : j < z) (l1 : ∀ k, k < z → c2 k = c (if k = i then j else if k = j then i else k)) (l2 : ∀ k, k < z → m2 k = m (if k = i then j else if k = j then i else k)) (hw : ∀ p, p < b → c2 (7 + p) = c (7 + p)) (e18 : c2 18 = c 18) (e8 : m2 8 = m 8) : aQ b c2 m2 := by
  obtain ⟨z', z1, zc, z2, z3, z4, z5, z6⟩ := H
  have ez : z' = z := (zi_inj (by omega) (by omega)).mp (z2.symm.trans hz)
  subst ez
  have ix : ∀ k, k < z' → (if k = i then j else if k = j then i else k) < z' := fun k hk => by
    split
    · exact hj
    · split <;> omega
  refine ⟨z', z1, ?_, e18.trans z2, e8.trans z3, fun k hk => ?_, fun k l hk hl e => ?_, fun p hp e => ?_⟩
  · rw [cQ_eq b hw]
    exact zc
  · obtain ⟨p, p1, p2, p3, p4⟩ := z4 _ (ix k hk)
    exact ⟨p, p1, (l1 k hk).trans p2, (l2 k hk).trans p3, (hw p p1).trans p4⟩
  · rw [l1 k hk, l1 l hl] at e
    have e2 := z5 _ _ (ix k hk) (ix l hl) e
    by_cases x1 : k = i
    · rw [if_pos x1] at e2
      by_cases y1 : l = i
      · omega
      · rw [if_neg y1] at e2
        by_cases y2 : l = j
        · rw [if_pos y2] at e2
          omega
        · rw [if_neg y2] at e2
          omega
    · rw [if_neg x1] at e2
      by_cases x2 : k = j
      · rw [if_pos x2] at e2
        by_cases y1 : l = i
        · rw [if_pos y1] at e2
          omega
        · rw [if_neg y1] at e2
          by_cases y2 : l = j
          · omega
          · rw [if_neg y2] at e2
            omega
      · rw [if_neg x2] at e2
        by_cases y1 : l = i
        · rw [if_pos y1] at e2
          omega
        · rw [if_neg y1] at e2
          by_cases y2 : l = j
          · rw [if_pos y2] at e2
            omega
          · rw [if_neg y2] at e2
            exact e2
  · rw [hw p hp] at e
    obtain ⟨k, k1, k2⟩ := z6 p hp e
    by_cases x1 : k = i
    · subst x1
      refine ⟨j, hj, ?_⟩
      rw [l1 j hj]
      by_cases y : j = k
      · rw [if_pos y, y]
        exact k2
      · rw [if_neg y, if_pos rfl]
        exact k2
    · by_cases x2 : k = j
      · subst x2
        refine ⟨i, hi, ?_⟩
        rw [l1 i hi, if_pos rfl]
        exact k2
      · refine ⟨k, k1, ?_⟩
        rw [l1 k k1, if_neg x1, if_neg x2]
        exact k2
/-- one that steps up: at a free RAIL -/
theorem aL_up {b R r p t : Nat} {c c2 m m2 : Nat → Int32} (H : aL b R c m) (hr : r < R) (hr2 : r < 2) (hp : p < b) (hb : b ≤ 7) (t1 : 1 ≤ t) (t2 : t ≤ 100) (h0 : c (7 + p) = zi 0) (e1 : c2 (14 + r) = zi p ∧ m2 (18 + r) = zi p) (e2 : c2 (16 + r) = zi t ∧ m2 (21 + r) = zi t) (e3 : ∀ j, j < 2 → j ≠ r → (c2 (14 + j) = c (14 + j) ∧ m2 (18 + j) = m (18 + j)) ∧ c2 (16 + j) = c (16 + j) ∧ m2 (21 + j) = m (21 + j)) (e4 : m2 20 = m 20 ∧ m2 23 = m 23) (w1 : c2 (7 + p) = zi 1) (w2 : ∀ j, j < b → j ≠ p → c2 (7 + j) = c (7 + j)) : aL b R c2 m2 := by
  obtain ⟨h1, h2, h3, h4⟩ := H
  have no : ∀ j, j < 2 → j ≠ r → c2 (14 + j) ≠ zi p := fun j hj hjr e => by
    rw [(e3 j hj hjr).1.1] at e
    rcases (h1 j hj).2.2 with x | ⟨y, q, t, y1, y2, y3, y4, y5, y6⟩
    · exact zi_n0 (x := p) (by omega) (e.symm.trans x)
    · have e5 : q = p := (zi_inj (by omega) (by omega)).mp (y4.symm.trans e)
      subst e5
      rw [h0] at y6
      exact absurd ((zi_inj (by omega) (by omega)).mp y6) (by omega)
  refine ⟨fun j hj => ?_, fun e => ?_, e4.1.trans h3, e4.2.trans h4⟩
  · by_cases x : j = r
    · subst x
      exact ⟨e1.1.trans e1.2.symm, e2.1.trans e2.2.symm, Or.inr ⟨hr, p, t, hp, t1, t2, e1.1, e2.1, w1⟩⟩
    · obtain ⟨⟨g1, g2⟩, g3, g4⟩ := e3 j hj x
      obtain ⟨x1, x2, x3⟩ := h1 j hj
      rw [g1, g2, g3, g4]
      refine ⟨x1, x2, ?_⟩
      rcases x3 with x3 | ⟨y, q, t, y1, y2, y3, y4, y5, y6⟩
      · exact Or.inl x3
      · refine Or.inr ⟨y, q, t, y1, y2, y3, y4, y5, ?_⟩
        have hne : q ≠ p := fun e => by
          subst e
          rw [h0] at y6
          exact absurd ((zi_inj (by omega) (by omega)).mp y6) (by omega)
        rw [w2 q y1 hne]
        exact y6
  · exfalso
    rcases (show r = 0 ∨ r = 1 by omega) with rfl | rfl
    · exact no 1 (by omega) (by omega) (e.symm.trans e1.1)
    · exact no 0 (by omega) (by omega) (e.trans e1.1)
/-- a minute less at a RAIL -/
theorem aL_less {b R r p t : Nat} {c c2 m m2 : Nat → Int32} (H : aL b R c m) (hr2 : r < 2) (hb : b ≤ 7) (hp : c (14 + r) = zi p) (hpb : p < b) (ht : c (16 + r) = zi (t + 1)) (t1 : 1 ≤ t) (t2 : t ≤ 100) (e1 : ∀ j, j < 2 → c2 (14 + j) = c (14 + j) ∧ m2 (18 + j) = m (18 + j)) (e2 : c2 (16 + r) = zi t ∧ m2 (21 + r) = zi t) (e3 : ∀ j, j < 2 → j ≠ r → c2 (16 + j) = c (16 + j) ∧ m2 (21 + j) = m (21 + j)) (e4 : m2 20 = m 20 ∧ m2 23 = m 23) (w : ∀ j, j < b → c2 (7 + j) = c (7 + j)) : aL b R c2 m2 := by
  obtain ⟨h1, h2, h3, h4⟩ := H
  refine ⟨fun j hj => ?_, fun e => ?_, e4.1.trans h3, e4.2.trans h4⟩
  · obtain ⟨g1, g2⟩ := e1 j hj
    obtain ⟨x1, x2, x3⟩ := h1 j hj
    rw [g1, g2]
    by_cases x : j = r
    · subst x
      refine ⟨x1, e2.1.trans e2.2.symm, ?_⟩
      rcases x3 with x3 | ⟨y, q, t', y1, y2, y3, y4, y5, y6⟩
      · exact Or.inl x3
      · exact Or.inr ⟨y, q, t, y1, t1, t2, y4, e2.1, (w q y1).trans y6⟩
    · obtain ⟨g3, g4⟩ := e3 j hj x
      rw [g3, g4]
      refine ⟨x1, x2, ?_⟩
      rcases x3 with x3 | ⟨y, q, t', y1, y2, y3, y4, y5, y6⟩
      · exact Or.inl x3
      · exact Or.inr ⟨y, q, t', y1, y2, y3, y4, y5, (w q y1).trans y6⟩
  · rw [(e1 0 (by omega)).1] at e ⊢
    rw [(e1 1 (by omega)).1] at e
    exact h2 e
/-- a RAIL is free from now on: who was there is otherwise then -/
theorem aL_free {b R r p : Nat} {c c2 m m2 : Nat → Int32} (H : aL b R c m) (hr2 : r < 2) (hb : b ≤ 7) (hpb : p < b) (hp : c (14 + r) = zi p) (e1 : c2 (14 + r) = u_k (-1) ∧ m2 (18 + r) = u_k (-1)) (e2 : c2 (16 + r) = zi 0 ∧ m2 (21 + r) = zi 0) (e3 : ∀ j, j < 2 → j ≠ r → (c2 (14 + j) = c (14 + j) ∧ m2 (18 + j) = m (18 + j)) ∧ c2 (16 + j) = c (16 + j) ∧ m2 (21 + j) = m (21 + j)) (e4 : m2 20 = m 20 ∧ m2 23 = m 23) (w : ∀ j, j < b → j ≠ p → c2 (7 + j) = c (7 + j)) : aL b R c2 m2 := by
  obtain ⟨h1, h2, h3, h4⟩ := H
  have no : ∀ j, j < 2 → j ≠ r → c (14 + j) ≠ zi p := fun j hj hjr e => by
    have hc : c 14 = c 15 → False := fun q => by
      have q2 := h2 q
      rcases (show r = 0 ∨ r = 1 by omega) with rfl | rfl
      · exact zi_n0 (x := p) (by omega) (hp.symm.trans q2)
      · exact zi_n0 (x := p) (by omega) (hp.symm.trans (q.symm.trans q2))
    rcases (show r = 0 ∨ r = 1 by omega) with rfl | rfl
    · have ej : j = 1 := by omega
      subst ej
      exact hc (hp.trans e.symm)
    · have ej : j = 0 := by omega
      subst ej
      exact hc (e.trans hp.symm)
  refine ⟨fun j hj => ?_, fun e => ?_, e4.1.trans h3, e4.2.trans h4⟩
  · by_cases x : j = r
    · subst x
      exact ⟨e1.1.trans e1.2.symm, e2.1.trans e2.2.symm, Or.inl e1.1⟩
    · obtain ⟨⟨g1, g2⟩, g3, g4⟩ := e3 j hj x
      obtain ⟨x1, x2, x3⟩ := h1 j hj
      rw [g1, g2, g3, g4]
      refine ⟨x1, x2, ?_⟩
      rcases x3 with x3 | ⟨y, q, t', y1, y2, y3, y4, y5, y6⟩
      · exact Or.inl x3
      · refine Or.inr ⟨y, q, t', y1, y2, y3, y4, y5, ?_⟩
        have hne : q ≠ p := fun e => by
          subst e
          exact no j hj x y4
        rw [w q y1 hne]
        exact y6
  · rcases (show r = 0 ∨ r = 1 by omega) with rfl | rfl
    · exact e1.1
    · exact e.trans e1.1
/-- who goes to a RAIL or away from it is not in the queue -/
theorem aQ_off {b p h h2 : Nat} {c m c2 m2 : Nat → Int32} (hb : b ≤ 7) (H : aQ b c m) (hp : p < b) (hph : c (7 + p) = zi h) (h1 : 1 ≤ h) (h4 : h ≤ 4) (g1 : 1 ≤ h2) (g4 : h2 ≤ 4) (l1 : ∀ i, i < 7 → c2 i = c i) (l2 : ∀ i, i < 9 → m2 i = m i) (e18 : c2 18 = c 18) (q1 : ∀ j, j < b → j ≠ p → c2 (7 + j) = c (7 + j)) (q2 : c2 (7 + p) = zi h2) : aQ b c2 m2 := by
  obtain ⟨z, z1, zc, z2, z3, z4, z5, z6⟩ := H
  have hh : ∀ x, 1 ≤ x → x ≤ 4 → ¬ zi x = zi 0 := fun x hx hx4 e => by
    have := (zi_inj (by omega) (by omega)).mp e
    omega
  have key : ∀ n, n ≤ b → cQ c2 n = cQ c n := by
    intro n
    induction n with
    | zero => intro _; rfl
    | succ n ih =>
      intro hn
      show cQ c2 n + (if c2 (7 + n) = zi 0 then 1 else 0) = cQ c n + (if c (7 + n) = zi 0 then 1 else 0)
      rw [ih (by omega)]
      by_cases x : n = p
      · subst x
        rw [q2, hph, if_neg (hh h2 g1 g4), if_neg (hh h h1 h4)]
      · rw [q1 n (by omega) x]
  refine ⟨z, z1, zc.trans (key b (Nat.le_refl _)).symm, e18.trans z2, (l2 8 (by omega)).trans z3, fun k hk => ?_, fun i j hi hj e => ?_, fun j hj e => ?_⟩
  · obtain ⟨p', p1, p2, p3, p4⟩ := z4 k hk
    have hne : p' ≠ p := fun e => by
      subst e
      exact hh h h1 h4 (hph.symm.trans p4)
    exact ⟨p', p1, (l1 k (by omega)).trans p2, (l2 k (by omega)).trans p3, (q1 p' p1 hne).trans p4⟩
  · rw [l1 i (by omega), l1 j (by omega)] at e
    exact z5 i j hi hj e
  · by_cases x : j = p
    · subst x
      exact absurd (q2.symm.trans e) (hh h2 g1 g4)
    · obtain ⟨k, k1, k2⟩ := z6 j hj ((q1 j hj x).symm.trans e)
      exact ⟨k, k1, (l1 k (by omega)).trans k2⟩
end MOVE
