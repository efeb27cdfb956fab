/-! THOSE WHO MISS IT AHEAD OF A RAIL: both sides -/
section MISS
variable {W : Nat}
theorem aQ_at {b z k : Nat} {c m : Nat → Int32} (hb : b ≤ 7) (H : aQ b c m) (hz : c 18 = zi z) (hzb : z ≤ b) (hk : k < z) : ∃ p, p < b ∧ c k = zi p ∧ m k = zi p ∧ c (7 + p) = zi 0 := by
  obtain ⟨z', z1, zc, z2, z3, z4, z5, z6⟩ := H
  have ez : z' = z := (zi_inj (by omega) (by omega)).mp (z2.symm.trans hz)
  subst ez
  exact z4 k hk
theorem aQ_n {b : Nat} {c m : Nat → Int32} (H : aQ b c m) : ∃ z, z ≤ b ∧ c 18 = zi z ∧ m 8 = zi z := by
  obtain ⟨z, z1, zc, z2, z3, -⟩ := H
  exact ⟨z, z1, z2, z3⟩
/-- one of the queue goes away: WAVES alike -/
theorem aR_gone {b R z k p h : Nat} {c m c2 m2 : Nat → Int32} (hb : b ≤ 7) (H : aR b R c m) (hz : c 18 = zi z) (hzb : z ≤ b) (hk : k < z) (hp : p < b) (hkp : c k = zi p) (h1 : 2 ≤ h) (h4 : h ≤ 4) (s1 : c2 18 = zi (z - 1)) (s2 : m2 8 = zi (z - 1)) (l1 : ∀ i, i < z - 1 → c2 i = c (if i < k then i else i + 1)) (l2 : ∀ i, i < z - 1 → m2 i = m (if i < k then i else i + 1)) (q1 : ∀ j, j < b → j ≠ p → c2 (7 + j) = c (7 + j) ∧ m2 (9 + j) = m (9 + j)) (q2 : c2 (7 + p) = zi h ∧ m2 (9 + p) = zi h) (o1 : ∀ i, 14 ≤ i → i < 24 → i ≠ 18 → i ≠ 21 → c2 i = c i) (o2 : ∀ i, 17 ≤ i → i < 28 → i ≠ 25 → m2 i = m i) (hw : c2 21 = m2 25) : aR b R c2 m2 := by
  obtain ⟨H1, H2, H3, H4⟩ := H
  obtain ⟨p', p1, p2, p3, p4⟩ := aQ_at hb H1 hz hzb hk
  have ep : p' = p := (zi_inj (by omega) (by omega)).mp (p2.symm.trans hkp)
  subst ep
  refine ⟨aQ_out hb H1 hz hzb hk hp hkp (by omega) h4 s1 s2 l1 l2 (fun j x y => (q1 j x y).1) q2.1, aH_set H2 h4 q1 q2, ?_, aL_eq H4 (fun i x y => o1 i x (by omega) (by omega) (by omega)) (fun i x y => o2 i (by omega) (by omega) (by omega)) (fun q x e => ?_)⟩
  · obtain ⟨a1, a2, a3, ⟨t, t1, t2, t3⟩, a5⟩ := H3
    refine ⟨?_, ?_, hw, ⟨t, t1, ?_, ?_⟩, ?_⟩
    · rw [o1 19 (by omega) (by omega) (by omega) (by omega), o2 17 (by omega) (by omega) (by omega)]; exact a1
    · rw [o1 20 (by omega) (by omega) (by omega) (by omega), o2 24 (by omega) (by omega) (by omega)]; exact a2
    · rw [o1 22 (by omega) (by omega) (by omega) (by omega)]; exact t2
    · rw [o2 26 (by omega) (by omega) (by omega)]; exact t3
    · rw [o1 23 (by omega) (by omega) (by omega) (by omega), o2 27 (by omega) (by omega) (by omega)]; exact a5
  · have hne : q ≠ p' := fun e2 => by
      subst e2
      rw [p4] at e
      exact absurd ((zi_inj (by omega) (by omega)).mp e) (by omega)
    exact (q1 q x hne).1.trans e
/-! the class's row, slot by slot -/
theorem nRl {g : Nat → Nat → Int32} {k : Nat} (h : k < 7) : nR g k = g 29 k := by
  have e : ∀ j : Fin 7, y_so j.1 = (29, j.1) := by decide
  show g (y_so k).1 (y_so k).2 = _
  rw [e ⟨k, h⟩]
theorem nRh {g : Nat → Nat → Int32} {k : Nat} (h : k < 7) : nR g (7 + k) = g 30 k := by
  have e : ∀ j : Fin 7, y_so (7 + j.1) = (30, j.1) := by decide
  show g (y_so (7 + k)).1 (y_so (7 + k)).2 = _
  rw [e ⟨k, h⟩]
theorem nRp {g : Nat → Nat → Int32} {k : Nat} (h : k < 2) : nR g (14 + k) = g 31 k := by
  have e : ∀ j : Fin 2, y_so (14 + j.1) = (31, j.1) := by decide
  show g (y_so (14 + k)).1 (y_so (14 + k)).2 = _
  rw [e ⟨k, h⟩]
theorem nRt {g : Nat → Nat → Int32} {k : Nat} (h : k < 2) : nR g (16 + k) = g 32 k := by
  have e : ∀ j : Fin 2, y_so (16 + j.1) = (32, j.1) := by decide
  show g (y_so (16 + k)).1 (y_so (16 + k)).2 = _
  rw [e ⟨k, h⟩]
theorem nR18 {g : Nat → Nat → Int32} : nR g 18 = g 28 1 := rfl
theorem nR19 {g : Nat → Nat → Int32} : nR g 19 = g 28 3 := rfl
theorem nR20 {g : Nat → Nat → Int32} : nR g 20 = g 28 6 := rfl
theorem nR21 {g : Nat → Nat → Int32} : nR g 21 = g 28 7 := rfl
theorem nR22 {g : Nat → Nat → Int32} : nR g 22 = g 28 8 := rfl
theorem nR23 {g : Nat → Nat → Int32} : nR g 23 = g 28 9 := rfl
/-- a slot of the row behind the queue: unchanged where nothing of it is written -/
theorem nRo {g g2 : Nat → Nat → Int32} {i : Nat} (h1 : 14 ≤ i) (h2 : i < 24) (e31 : ∀ k, k < 2 → g2 31 k = g 31 k ∧ g2 32 k = g 32 k) (e28 : i = 18 ∨ i = 19 ∨ i = 20 ∨ i = 21 ∨ i = 22 ∨ i = 23 → g2 (y_so i).1 (y_so i).2 = g (y_so i).1 (y_so i).2) : nR g2 i = nR g i := by
  rcases (show (14 ≤ i ∧ i < 16) ∨ (16 ≤ i ∧ i < 18) ∨ (18 ≤ i ∧ i < 24) by omega) with h | h | h
  · obtain ⟨j, rfl⟩ : ∃ j, i = 14 + j := ⟨i - 14, by omega⟩
    rw [nRp (by omega), nRp (by omega)]
    exact (e31 j (by omega)).1
  · obtain ⟨j, rfl⟩ : ∃ j, i = 16 + j := ⟨i - 16, by omega⟩
    rw [nRt (by omega), nRt (by omega)]
    exact (e31 j (by omega)).2
  · exact e28 (by omega)
/-- both sides, at hand -/
def jR (W a b R w : Nat) (c : List Int) (l : Bool) (sC sM : u_H) : Prop := sC.2.2.1 = W ∧ aW W a b R w c l sC.1 sM.1 ∧ aR b R (nR sC.1) (sM.1 86)
/-- what the class's queue writes; the model's row -/
def fQc (o k : Nat) : Prop := (o = 28 ∧ (k = 1 ∨ k = 7)) ∨ o = 29 ∨ o = 30
theorem fQc_a {o k : Nat} (hW : W = 5 ∨ W = 17) (h : fQc o k) : ¬ aWc W o k := fun q => by
  unfold aWc at q
  unfold fQc at h
  omega
theorem f86_a {o k : Nat} (h : o = 86) : ¬ aWm o k := fun q => by
  unfold aWm at q
  omega
/-- the first one misses it, on both sides -/
theorem miss1 (hW : W = 5 ∨ W = 17) {a b R w z p : Nat} {c : List Int} {l : Bool} {sC sM : u_H} (J : jR W a b R w c l sC sM) (hz : nR sC.1 18 = zi z) (h0 : 0 < z) (hzb : z ≤ b) (hp : p < b) (hc : sC.1 29 0 = zi p) (hm : sM.1 86 0 = zi p) : ∃ s1 t1 t2, u_c 145 [.inr (.inr 30), .inl (Int32.ofInt 0)] (y_u sC.1 30 p (Int32.ofInt 3), sC.2) = some (none, s1) ∧ u_c 307 [.inr (.inr 67), .inl (Int32.ofInt 0)] sM = some (some (.inl (zi p)), t1) ∧ u_c 261 [.inr (.inr 67), .inl (zi p)] t1 = some (none, t2) ∧ jR W a b R w c l (y_u s1.1 28 7 (s1.1 28 7 + Int32.ofInt 1), s1.2) t2 ∧ nR (y_u s1.1 28 7 (s1.1 28 7 + Int32.ofInt 1)) 18 = zi (z - 1) ∧ u_fr fQc sC (y_u s1.1 28 7 (s1.1 28 7 + Int32.ofInt 1), s1.2) ∧ u_fr (fun o _ => o = 86) sM t2 := by
  obtain ⟨J1, J2, J3⟩ := J
  have hb : b ≤ 7 := J2.1.2.1
  have hz1 : sC.1 28 1 = zi z := hz
  have hz2 : sM.1 86 8 = zi z := by
    obtain ⟨z', x1, x2, x3⟩ := aQ_n J3.1
    have e : z' = z := (zi_inj (by omega) (by omega)).mp (x2.symm.trans hz)
    rw [x3, e]
  obtain ⟨s1, e1, e2, e3, e4⟩ := c_leave (z := z) (k := 0) (by omega) h0 (s := (y_u sC.1 30 p (Int32.ofInt 3), sC.2)) (by show y_u sC.1 30 p (Int32.ofInt 3) 28 1 = _; rw [y_uN (by omega)]; exact hz1)
  obtain ⟨t1, g1, g2, g3, g4⟩ := m_take (z := z) (k := 0) (by omega) h0 (s := sM) hz2
  have hi9 : u_in (zi (9 + p)) 28 = true := (u_inz (by omega)).mpr (by omega)
  have hc9 : (zi (9 + p)).toNatClampNeg = 9 + p := zi_clamp (by omega)
  have n1 : ∀ o k, ¬ ((o = 28 ∧ k = 1) ∨ (o = 29 ∧ k < 7)) → s1.1 o k = y_u sC.1 30 p (Int32.ofInt 3) o k := fun o k h => e4.i h
  have nt : ∀ o k, ¬ (o = 86 ∧ k < 9 ∧ k ≠ 7) → t1.1 o k = sM.1 o k := fun o k h => g4.i h
  have fC : u_fr fQc sC (y_u s1.1 28 7 (s1.1 28 7 + Int32.ofInt 1), s1.2) := by
    refine u_fr.wi (u_fr.tr (u_fr.wi (f := sC.1) (r := sC.2) (o := 30) (k := p) (x := Int32.ofInt 3) u_fr.rf (Or.inr (Or.inr rfl))) (e4.mono (fun o k q => ?_))) (Or.inl ⟨rfl, Or.inr rfl⟩)
    rcases q with q | q
    · exact Or.inl ⟨q.1, Or.inl q.2⟩
    · exact Or.inr (Or.inl q.1)
  have fM : u_fr (fun o _ => o = 86) sM (y_u (y_u t1.1 86 (9 + p) (Int32.ofInt 3)) 86 25 (y_u t1.1 86 (9 + p) (Int32.ofInt 3) 86 25 + Int32.ofInt 1), t1.2) := u_fr.wi (u_fr.wi (g4.mono (fun o k q => q.1)) rfl) rfl
  -- the two heaps, slot by slot
  have nm : ∀ i, i ≠ 25 → i ≠ 9 + p → y_u (y_u t1.1 86 (9 + p) (Int32.ofInt 3)) 86 25 (y_u t1.1 86 (9 + p) (Int32.ofInt 3) 86 25 + Int32.ofInt 1) 86 i = t1.1 86 i := fun i x y => by rw [y_uN (by omega), y_uN (by omega)]
  refine ⟨s1, t1, (y_u (y_u t1.1 86 (9 + p) (Int32.ofInt 3)) 86 25 (y_u t1.1 86 (9 + p) (Int32.ofInt 3) 86 25 + Int32.ofInt 1), t1.2), e1, ?_, ?_, ⟨?_, ?_, ?_⟩, ?_, fC, fM⟩
  · rw [← hm]
    exact g1
  · rw [b_261, show Int32.ofInt 9 = zi 9 from rfl, zi_add, if_pos hi9, hc9]
  · show s1.2.2.1 = W
    rw [e4.2]
    exact J1
  · exact aW_fr J2 (fun o k q => fC.i (fun x => fQc_a hW x q)) (fun o k q => fM.i (fun x => f86_a x q))
  · dsimp only
    refine aR_gone (k := 0) (p := p) (h := 3) hb J3 hz hzb h0 hp ((nRl (by omega)).trans hc) (by omega) (by omega) ?_ ?_ (fun i hi => ?_) (fun i hi => ?_) (fun j hj hjp => ⟨?_, ?_⟩) ⟨?_, ?_⟩ (fun i h1 h2 h3 h4 => ?_) (fun i h1 h2 h3 => ?_) ?_
    · rw [nR18, y_uN (by omega)]
      exact e2
    · rw [nm 8 (by omega) (by omega)]
      exact g2
    · rw [nRl (by omega), if_neg (by omega), nRl (by omega)]
      try dsimp only
      rw [y_uN (by omega), e3 i hi, if_neg (by omega)]
      show y_u sC.1 30 p (Int32.ofInt 3) 29 (i + 1) = _
      rw [y_uN (by omega)]
    · rw [nm i (by omega) (by omega)]
      exact g3 i hi
    · rw [nRh (by omega), nRh (by omega)]
      try dsimp only
      rw [y_uN (by omega), n1 30 j (by omega), y_uN (by omega)]
    · rw [nm (9 + j) (by omega) (by omega), nt 86 (9 + j) (by omega)]
    · rw [nRh (by omega)]
      try dsimp only
      rw [y_uN (by omega), n1 30 p (by omega), y_uE]
      rfl
    · rw [y_uN (by omega), y_uE]
      rfl
    · refine nRo h1 h2 (fun k hk => ⟨?_, ?_⟩) (fun x => ?_)
      · try dsimp only
        rw [y_uN (by omega), n1 31 k (by omega), y_uN (by omega)]
      · try dsimp only
        rw [y_uN (by omega), n1 32 k (by omega), y_uN (by omega)]
      · rcases (show i = 19 ∨ i = 20 ∨ i = 22 ∨ i = 23 by omega) with rfl | rfl | rfl | rfl
        · show y_u s1.1 28 7 (s1.1 28 7 + Int32.ofInt 1) 28 3 = sC.1 28 3
          rw [y_uN (by omega), n1 28 3 (by omega), y_uN (by omega)]
        · show y_u s1.1 28 7 (s1.1 28 7 + Int32.ofInt 1) 28 6 = sC.1 28 6
          rw [y_uN (by omega), n1 28 6 (by omega), y_uN (by omega)]
        · show y_u s1.1 28 7 (s1.1 28 7 + Int32.ofInt 1) 28 8 = sC.1 28 8
          rw [y_uN (by omega), n1 28 8 (by omega), y_uN (by omega)]
        · show y_u s1.1 28 7 (s1.1 28 7 + Int32.ofInt 1) 28 9 = sC.1 28 9
          rw [y_uN (by omega), n1 28 9 (by omega), y_uN (by omega)]
    · rw [nm i h3 (by omega), nt 86 i (by omega)]
    · show y_u s1.1 28 7 (s1.1 28 7 + Int32.ofInt 1) 28 7 = y_u (y_u t1.1 86 (9 + p) (Int32.ofInt 3)) 86 25 (y_u t1.1 86 (9 + p) (Int32.ofInt 3) 86 25 + Int32.ofInt 1) 86 25
      rw [y_uE, y_uE, y_uN (by omega), n1 28 7 (by omega), nt 86 25 (by omega), y_uN (by omega)]
      have := J3.2.2.1.2.2.1
      exact congrArg (· + Int32.ofInt 1) this
  · rw [nR18, y_uN (by omega)]
    exact e2
/-- all who miss it there -/
theorem miss_all (hW : W = 5 ∨ W = 17) {a b R w : Nat} {c : List Int} {l : Bool} : ∀ (z i : Nat) (li lj : Nat → Int32) (ll lm : Nat → Int64) (sC sM : u_H), i + z ≤ 7 → z ≤ b → jR W a b R w c l sC sM → nR sC.1 18 = zi z → li 2 = zi i → ∃ (li2 : Nat → Int32) (z2 : Nat) (s2 t2 : u_H), u g_t22 2 (li, ll, [(0, 2)]) [] sC = u g_t22 87 (li2, ll, [(0, 2)]) [] s2 ∧ li2 1 = li 1 ∧ u g_t304 0 (lj, lm, [(0, 67)]) [] sM = u g_t304 37 (lj, lm, [(0, 67)]) [] t2 ∧ jR W a b R w c l s2 t2 ∧ z2 ≤ z ∧ nR s2.1 18 = zi z2 ∧ (0 < z2 → ∃ p v, p < b ∧ v < a ∧ s2.1 29 0 = zi p ∧ t2.1 86 0 = zi p ∧ t2.1 82 p = zi v ∧ t2.1 86 26 < sLm t2.1 v) ∧ u_fr fQc sC s2 ∧ u_fr (fun o _ => o = 86) sM t2 := by
  intro z
  induction z with
  | zero =>
    intro i li lj ll lm sC sM hiz hzb J hz h2
    have hz2 : sM.1 86 8 = zi 0 := by
      obtain ⟨z', x1, x2, x3⟩ := aQ_n J.2.2.1
      have e : z' = 0 := (zi_inj (by have := J.2.1.1.2.1; omega) (by omega)).mp (x2.symm.trans hz)
      rw [x3, e]
    have hz1 : sC.1 28 1 = zi 0 := hz
    refine ⟨li, 0, sC, sM, ?_, rfl, ?_, J, Nat.le_refl _, hz, fun h => absurd h (by omega), u_fr.rf, u_fr.rf⟩
    · rw [b_22_2 hW, hz1, if_neg (show ¬ 0 < zi 0 by decide)]
      by_cases q : li 2 < Int32.ofInt 7
      · rw [if_pos q]
      · rw [if_neg q]
    · rw [b_304_0, b_277, u_biS, hz2, if_neg (show ¬ 0 < zi 0 by decide)]
  | succ z ih =>
    intro i li lj ll lm sC sM hiz hzb J hz h2
    have J0 := J
    obtain ⟨J1, J2, J3⟩ := J0
    have hb : b ≤ 7 := J2.1.2.1
    have ha : a ≤ 5 := J2.1.1
    have hz1 : sC.1 28 1 = zi (z + 1) := hz
    have hz2 : sM.1 86 8 = zi (z + 1) := by
      obtain ⟨z', x1, x2, x3⟩ := aQ_n J3.1
      have e : z' = z + 1 := (zi_inj (by omega) (by omega)).mp (x2.symm.trans hz)
      rw [x3, e]
    obtain ⟨p, p1, p2, p3, p4⟩ := aQ_at hb J3.1 hz hzb (show 0 < z + 1 by omega)
    have p2 : sC.1 29 0 = zi p := (nRl (by omega)).symm.trans p2
    obtain ⟨⟨v, v1, v2, v3⟩, -, -⟩ := J2.2.2.2.1 p p1
    obtain ⟨s1', s2'⟩ := J2.2.2.1 v v1
    have hin : u_in (zi p) 7 = true := (u_inz (by omega)).mpr (by omega)
    have hin8 : u_in (zi p) 8 = true := (u_inz (by omega)).mpr (by omega)
    have hcl : (zi p).toNatClampNeg = p := zi_clamp (by omega)
    have i7 : zi i < Int32.ofInt 7 := (zi_lt (b := 7) (by omega) (by omega)).mpr (by omega)
    have z0 : 0 < zi (z + 1) := (zi_lt (a := 0) (by omega) (by omega)).mpr (by omega)
    have hl29 : sM.1 65 29 = u_k (-1) := J2.2.1.2.2.2.2.2.2
    rcases gone_alike hW (v := v) (sC := sC) (sM := sM) (by omega) J1 J3.2.2.1.2.1 s1' s2' (by obtain ⟨t, t1, t2, t3⟩ := J3.2.2.1.2.2.2.1; exact (show sC.1 28 8 = zi t from t2).trans t3.symm) hl29 with ⟨q, q1, q2⟩ | ⟨q, q1, q2⟩
    · refine ⟨li, z + 1, sC, sM, ?_, rfl, ?_, J, Nat.le_refl _, hz, fun _ => ⟨p, v, p1, v1, p2, p3, v3, q⟩, u_fr.rf, u_fr.rf⟩
      · rw [b_22_2 hW, h2, if_pos i7, hz1, if_pos z0, if_pos J1, p2, if_pos hin, hcl, v2, q1, u_biS, if_pos (show Int32.ofInt 0 = 0 by decide)]
      · rw [b_304_0, b_277, u_biS, hz2, if_pos z0, p3, if_pos hin8, hcl, v3, q2, u_biS, if_pos (show Int32.ofInt 0 = 0 by decide)]
    · obtain ⟨s1, t1, t2, m1, m2, m3, m4, m5, m6, m7⟩ := miss1 hW J hz (by omega) hzb p1 p2 p3
      obtain ⟨li2, z2, s3, t3, r1, r2, r3, r4, r5, r6, r7, r8, r9⟩ := ih (i + 1) (u_l1 li 2 (zi (i + 1))) lj ll lm (y_u s1.1 28 7 (s1.1 28 7 + Int32.ofInt 1), s1.2) t2 (by omega) (by omega) m4 m5 (u_l1E _ _ _)
      refine ⟨li2, z2, s3, t3, ?_, r2.trans (u_l1N (by omega)), ?_, r4, by omega, r6, r7, m6.tr r8, m7.tr r9⟩
      · rw [b_22_2 hW, h2, if_pos i7, hz1, if_pos z0, if_pos J1, p2, if_pos hin, hcl, v2, q1, u_biS, if_neg (show ¬ Int32.ofInt 1 = 0 by decide), p2, if_pos hin, hcl, m1, u_bvS, zi_one]
        exact r1
      · rw [b_304_0, b_277, u_biS, hz2, if_pos z0, p3, if_pos hin8, hcl, v3, q2, u_biS, if_neg (show ¬ Int32.ofInt 1 = 0 by decide), m2, u_biS, m3, u_bvS]
        exact r3
end MISS
