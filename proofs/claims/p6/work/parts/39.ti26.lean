/-! THE BOXES: both sides -/
section BOX
variable {W : Nat}
/-- an image kept on both sides: m says which boxes hold one -/
def aB (b R : Nat) (f g : Nat → Nat → Int32) : Prop := ∃ m, m < 8 ∧ f 0 7 = zi m ∧ ∀ i, i < 3 → g 104 i = zb (Nat.testBit m i) ∧ (Nat.testBit m i = true → aR b R (fun k => f 35 (24 * i + k)) (fun k => g 105 (28 * i + k)))
theorem aB_fr {b R : Nat} {f g f2 g2 : Nat → Nat → Int32} (hb : b ≤ 7) (h : aB b R f g) (e0 : f2 0 7 = f 0 7) (e1 : ∀ k, k < 72 → f2 35 k = f 35 k) (e2 : ∀ k, k < 3 → g2 104 k = g 104 k) (e3 : ∀ k, k < 84 → g2 105 k = g 105 k) : aB b R f2 g2 := by
  obtain ⟨m, h1, h2, h3⟩ := h
  refine ⟨m, h1, e0.trans h2, fun i hi => ?_⟩
  obtain ⟨x1, x2⟩ := h3 i hi
  exact ⟨(e2 i hi).trans x1, fun t => aR_eq (x2 t) hb (fun k hk => e1 _ (by omega)) (fun k hk => e3 _ (by omega))⟩
theorem aB_new {b R : Nat} {f g : Nat → Nat → Int32} (h1 : f 0 7 = 0) (h2 : ∀ k, k < 3 → g 104 k = 0) : aB b R f g := ⟨0, by omega, h1, fun i hi => ⟨(h2 i hi).trans (by rw [Nat.zero_testBit]; exact zb_no.symm), fun t => by rw [Nat.zero_testBit] at t; cases t⟩⟩
theorem box_all : ∀ m : Fin 8, ∀ i : Fin 3, ((zi m.1 ||| (Int32.ofInt 1 <<< (zi i.1 &&& 31))) = zi (m.1 ||| (1 <<< i.1)) ∧ m.1 ||| (1 <<< i.1) < 8) ∧ ((((zi m.1 >>> (zi i.1 &&& 31)) &&& Int32.ofInt 1) = 0) ↔ Nat.testBit m.1 i.1 = false) ∧ ∀ j : Fin 3, Nat.testBit (m.1 ||| (1 <<< i.1)) j.1 = (Nat.testBit m.1 j.1 || Nat.beq j.1 i.1) := by decide +kernel
/-- now.saveTo(boxes, at), now.loadFrom(boxes, at) -/
theorem c_saveX {p : Nat} (hp : p + 24 ≤ 72) (s : u_H) : u_c 149 [.inr (.inr 30), .inr (.inr 37), .inl (zi p)] s = some (none, (rW s.1 35 p, s.2)) := by
  have c : ∀ a, a < 4000 → (zi a).toNatClampNeg = a := fun a h => zi_clamp (by omega)
  have i : ∀ a, a < 72 → u_in (zi a) 72 = true := fun a h => (u_inz (by omega)).mpr h
  rw [b_149x, if_neg (zi_nonneg (by omega)), z24, zi_add, if_neg (show ¬ Int32.ofNat 72 < zi (p + 24) from fun e => by have := (zi_lt (a := 72) (by omega) (by omega)).mp e; omega), zO7, show Int32.ofInt 0 = zi 0 from rfl, if_pos (cpk_z (by omega) (by omega) (by omega) (by omega) (by omega)), c p (by omega)]
  rw [b_149_28x, show (u_l1 (u_l1 u_z1 2 (zi p)) 3 (zi p)) 3 = zi p from u_l1E _ _ _, zO7, zi_add, show Int32.ofInt 0 = zi 0 from rfl, if_pos (cpk_z (by omega) (by omega) (by omega) (by omega) (by omega)), c (p + 7) (by omega)]
  rw [b_149_43x, u_l1E, zO7, z2a, zi_add, show Int32.ofInt 0 = zi 0 from rfl, if_pos (cpk_z (by omega) (by omega) (by omega) (by omega) (by omega)), c (p + 7 + 7) (by omega)]
  rw [b_149_57x, u_l1E, z2a, zi_add, show Int32.ofInt 0 = zi 0 from rfl, if_pos (cpk_z (by omega) (by omega) (by omega) (by omega) (by omega)), c (p + 7 + 7 + 2) (by omega)]
  rw [b_149_71x, u_l1E, z2a, zi_add, show Int32.ofInt 1 = zi 1 from rfl, show Int32.ofInt 3 = zi 3 from rfl, show Int32.ofInt 4 = zi 4 from rfl, show Int32.ofInt 5 = zi 5 from rfl, zi_add, zi_add, zi_add, zi_add, zi_add, if_pos (i _ (by omega)), if_pos (i _ (by omega)), if_pos (i _ (by omega)), if_pos (i _ (by omega)), if_pos (i _ (by omega)), if_pos (i _ (by omega)), c _ (by omega), c _ (by omega), c _ (by omega), c _ (by omega), c _ (by omega), c _ (by omega)]
  rfl
theorem c_loadX {p : Nat} (hp : p + 24 ≤ 72) (s : u_H) : u_c 146 [.inr (.inr 30), .inr (.inr 37), .inl (zi p)] s = some (none, (rL s.1 35 p, s.2)) := by
  have c : ∀ a, a < 4000 → (zi a).toNatClampNeg = a := fun a h => zi_clamp (by omega)
  have i : ∀ a, a < 72 → u_in (zi a) 72 = true := fun a h => (u_inz (by omega)).mpr h
  rw [b_146x, if_neg (zi_nonneg (by omega)), z24, zi_add, if_neg (show ¬ Int32.ofNat 72 < zi (p + 24) from fun e => by have := (zi_lt (a := 72) (by omega) (by omega)).mp e; omega), zO7, show Int32.ofInt 0 = zi 0 from rfl, if_pos (cpk_z (by omega) (by omega) (by omega) (by omega) (by omega)), c p (by omega)]
  rw [b_146_28x, show (u_l1 (u_l1 u_z1 2 (zi p)) 3 (zi p)) 3 = zi p from u_l1E _ _ _, zO7, zi_add, show Int32.ofInt 0 = zi 0 from rfl, if_pos (cpk_z (by omega) (by omega) (by omega) (by omega) (by omega)), c (p + 7) (by omega)]
  rw [b_146_43x, u_l1E, zO7, z2a, zi_add, show Int32.ofInt 0 = zi 0 from rfl, if_pos (cpk_z (by omega) (by omega) (by omega) (by omega) (by omega)), c (p + 7 + 7) (by omega)]
  rw [b_146_57x, u_l1E, z2a, zi_add, show Int32.ofInt 0 = zi 0 from rfl, if_pos (cpk_z (by omega) (by omega) (by omega) (by omega) (by omega)), c (p + 7 + 7 + 2) (by omega)]
  rw [b_146_71x, u_l1E, z2a, zi_add, show Int32.ofInt 1 = zi 1 from rfl, show Int32.ofInt 3 = zi 3 from rfl, show Int32.ofInt 4 = zi 4 from rfl, show Int32.ofInt 5 = zi 5 from rfl, zi_add, zi_add, zi_add, zi_add, zi_add, if_pos (i _ (by omega)), if_pos (i _ (by omega)), if_pos (i _ (by omega)), if_pos (i _ (by omega)), if_pos (i _ (by omega)), if_pos (i _ (by omega)), c _ (by omega), c _ (by omega), c _ (by omega), c _ (by omega), c _ (by omega), c _ (by omega)]
  rfl
/-- the model's rows, copied -/
theorem m222_18 {q : Nat} (hq : q < 3) : ∀ (f i : Nat) (li : Nat → Int32) (ll : Nat → Int64) (s : u_H), 28 - i ≤ f → i ≤ 28 → li 1 = zi q → li 2 = zi i → ∃ s2, u g_t222 18 (li, ll, [(0, 67)]) [] s = some (some (.inl (s.1 85 26)), s2) ∧ (∀ k, i ≤ k → k < 28 → s2.1 105 (28 * q + k) = s.1 85 k) ∧ u_fr (fun o k => o = 105 ∧ 28 * q + i ≤ k ∧ k < 28 * q + 28) s s2 := by
  intro f
  have stop : ∀ (i : Nat) (li : Nat → Int32) (ll : Nat → Int64) (s : u_H), i = 28 → li 2 = zi i → ∃ s2, u g_t222 18 (li, ll, [(0, 67)]) [] s = some (some (.inl (s.1 85 26)), s2) ∧ (∀ k, i ≤ k → k < 28 → s2.1 105 (28 * q + k) = s.1 85 k) ∧ u_fr (fun o k => o = 105 ∧ 28 * q + i ≤ k ∧ k < 28 * q + 28) s s2 := by
    intro i li ll s hi hl
    refine ⟨s, ?_, fun k x y => absurd y (by omega), u_fr.rf⟩
    rw [b_222_18, hl, hi, if_neg (show ¬ zi 28 < Int32.ofInt 28 by decide)]
  induction f with
  | zero =>
    intro i li ll s hf hi h1 hl
    exact stop i li ll s (by omega) hl
  | succ f ih =>
    intro i li ll s hf hi h1 hl
    by_cases z : i < 28
    · have hin : u_in (zi i) 28 = true := (u_inz (by omega)).mpr (by omega)
      have hin2 : u_in (zi (28 * q + i)) 84 = true := (u_inz (by omega)).mpr (by omega)
      have hcl : (zi i).toNatClampNeg = i := zi_clamp (by omega)
      have hcl2 : (zi (28 * q + i)).toNatClampNeg = 28 * q + i := zi_clamp (by omega)
      have w : ∀ o k, ¬ (o = 105 ∧ k = 28 * q + i) → y_u s.1 105 (28 * q + i) (s.1 85 i) o k = s.1 o k := fun o k x => y_uN x
      obtain ⟨s2, e1, e2, e3⟩ := ih (i + 1) (u_l1 li 2 (zi (i + 1))) ll (y_u s.1 105 (28 * q + i) (s.1 85 i), s.2) (by omega) (by omega) (by rw [u_l1N (by omega)]; exact h1) (u_l1E _ _ _)
      refine ⟨s2, ?_, fun k x y => ?_, ?_⟩
      · rw [b_222_18, hl, h1, if_pos (show zi i < Int32.ofInt 28 from (zi_lt (b := 28) (by omega) (by omega)).mpr z), if_pos hin, show Int32.ofInt 28 = zi 28 from rfl, zi_mul, zi_add, if_pos hin2, hcl, hcl2, zi_one]
        rw [e1]
        dsimp only
        rw [w 85 26 (by omega)]
      · rcases Nat.lt_or_ge i k with v | v
        · rw [e2 k v y]
          exact w 85 k (by omega)
        · have hk : k = i := by omega
          subst hk
          rw [e3.i (o := 105) (k := 28 * q + k) (fun x => by omega)]
          dsimp only
          rw [y_uE]
      · exact (u_fr.wi (f := s.1) (r := s.2) u_fr.rf ⟨rfl, by omega, by omega⟩).tr (e3.mono (fun o k x => by omega))
    · exact stop i li ll s (by omega) hl
theorem m182_20 {q : Nat} (hq : q < 3) : ∀ (f i : Nat) (li : Nat → Int32) (ll : Nat → Int64) (s : u_H), 28 - i ≤ f → i ≤ 28 → li 1 = zi q → li 2 = zi i → ∃ s2, u g_t182 20 (li, ll, [(0, 67)]) [] s = some (some (.inl (s2.1 85 26)), s2) ∧ (∀ k, i ≤ k → k < 28 → s2.1 85 k = s.1 105 (28 * q + k)) ∧ s2.1 65 66 = zi 0 ∧ s2.1 65 67 = zi 0 ∧ u_fr (fun o k => (o = 85 ∧ i ≤ k ∧ k < 28) ∨ (o = 65 ∧ (k = 66 ∨ k = 67))) s s2 := by
  intro f
  have stop : ∀ (i : Nat) (li : Nat → Int32) (ll : Nat → Int64) (s : u_H), i = 28 → li 2 = zi i → ∃ s2, u g_t182 20 (li, ll, [(0, 67)]) [] s = some (some (.inl (s2.1 85 26)), s2) ∧ (∀ k, i ≤ k → k < 28 → s2.1 85 k = s.1 105 (28 * q + k)) ∧ s2.1 65 66 = zi 0 ∧ s2.1 65 67 = zi 0 ∧ u_fr (fun o k => (o = 85 ∧ i ≤ k ∧ k < 28) ∨ (o = 65 ∧ (k = 66 ∨ k = 67))) s s2 := by
    intro i li ll s hi hl
    refine ⟨(y_u (y_u s.1 65 66 (Int32.ofInt 0)) 65 67 (Int32.ofInt 0), s.2), ?_, fun k x y => absurd y (by omega), ?_, ?_, u_fr.wi (u_fr.wi (f := s.1) (r := s.2) u_fr.rf (Or.inr ⟨rfl, Or.inl rfl⟩)) (Or.inr ⟨rfl, Or.inr rfl⟩)⟩
    · rw [b_182_20, hl, hi, if_neg (show ¬ zi 28 < Int32.ofInt 28 by decide)]
      dsimp only
      rw [y_uN (by omega), y_uN (by omega)]
    · dsimp only
      rw [y_uN (by omega), y_uE]
      rfl
    · dsimp only
      rw [y_uE]
      rfl
  induction f with
  | zero =>
    intro i li ll s hf hi h1 hl
    exact stop i li ll s (by omega) hl
  | succ f ih =>
    intro i li ll s hf hi h1 hl
    by_cases z : i < 28
    · have hin : u_in (zi i) 28 = true := (u_inz (by omega)).mpr (by omega)
      have hin2 : u_in (zi (28 * q + i)) 84 = true := (u_inz (by omega)).mpr (by omega)
      have hcl : (zi i).toNatClampNeg = i := zi_clamp (by omega)
      have hcl2 : (zi (28 * q + i)).toNatClampNeg = 28 * q + i := zi_clamp (by omega)
      have w : ∀ o k, ¬ (o = 85 ∧ k = i) → y_u s.1 85 i (s.1 105 (28 * q + i)) o k = s.1 o k := fun o k x => y_uN x
      obtain ⟨s2, e1, e2, e3, e4, e5⟩ := ih (i + 1) (u_l1 li 2 (zi (i + 1))) ll (y_u s.1 85 i (s.1 105 (28 * q + i)), s.2) (by omega) (by omega) (by rw [u_l1N (by omega)]; exact h1) (u_l1E _ _ _)
      refine ⟨s2, ?_, fun k x y => ?_, e3, e4, ?_⟩
      · rw [b_182_20, hl, h1, if_pos (show zi i < Int32.ofInt 28 from (zi_lt (b := 28) (by omega) (by omega)).mpr z), show Int32.ofInt 28 = zi 28 from rfl, zi_mul, zi_add, if_pos hin2, if_pos hin, hcl, hcl2, zi_one]
        exact e1
      · rcases Nat.lt_or_ge i k with v | v
        · rw [e2 k v y]
          exact w 105 (28 * q + k) (by omega)
        · have hk : k = i := by omega
          subst hk
          rw [e5.i (o := 85) (k := k) (fun x => by omega)]
          dsimp only
          rw [y_uE]
      · exact (u_fr.wi (f := s.1) (r := s.2) u_fr.rf (Or.inl ⟨rfl, by omega, by omega⟩)).tr (e5.mono (fun o k x => by omega))
    · exact stop i li ll s (by omega) hl
/-- whether it is a box -/
theorem isBox_zi (x : Int32) : (∃ i, i < 3 ∧ x = zi i ∧ ∀ s : u_H, u_c 224 [.inl x] s = some (some (.inl (Int32.ofInt 1)), s)) ∨ ((x < 0 ∨ (¬ x < 0 ∧ ¬ x < Int32.ofInt 3)) ∧ ∀ s : u_H, u_c 224 [.inl x] s = some (some (.inl (Int32.ofInt 0)), s)) := by
  by_cases q : x < 0
  · exact Or.inr ⟨Or.inl q, fun s => by rw [b_224, if_pos q]⟩
  · by_cases q2 : x < Int32.ofInt 3
    · obtain ⟨n, hn, rfl⟩ := nn_zi q
      exact Or.inl ⟨n, (zi_lt (b := 3) hn (by omega)).mp q2, rfl, fun s => by rw [b_224, if_neg q, if_pos q2]⟩
    · exact Or.inr ⟨Or.inr ⟨q, q2⟩, fun s => by rw [b_224, if_neg q, if_neg q2]⟩
/-- image(box) -/
theorem image_alike {b R : Nat} {sC sM : u_H} (hb : b ≤ 7) (hR : aR b R (nR sC.1) (sM.1 85)) (hB : aB b R sC.1 sM.1) (x : Int32) : ∃ (y : Int32) (s2 t2 : u_H), u_c 29 [.inr (.inr 2), .inl x] sC = some (some (.inl y), s2) ∧ u_c 222 [.inr (.inr 67), .inl x] sM = some (some (.inl y), t2) ∧ aB b R s2.1 t2.1 := by
  rcases isBox_zi x with ⟨i, hi, rfl, h⟩ | ⟨hn, h⟩
  · obtain ⟨m, m1, m2, m3⟩ := hB
    obtain ⟨⟨a1, a2⟩, -, a4⟩ := box_all ⟨m, m1⟩ ⟨i, hi⟩
    have a1 : (zi m ||| (Int32.ofInt 1 <<< (zi i &&& 31))) = zi (m ||| (1 <<< i)) := a1
    have a2 : m ||| (1 <<< i) < 8 := a2
    have a4 : ∀ j, j < 3 → Nat.testBit (m ||| (1 <<< i)) j = (Nat.testBit m j || Nat.beq j i) := fun j hj => a4 ⟨j, hj⟩
    have hin : u_in (zi i) 3 = true := (u_inz (by omega)).mpr hi
    have hcl : (zi i).toNatClampNeg = i := zi_clamp (by omega)
    obtain ⟨t2, e1, e2, e3⟩ := m222_18 hi 28 0 (u_l1 (u_l1 u_z1 1 (zi i)) 2 (Int32.ofInt 0)) u_z2 (y_u sM.1 104 i (Int32.ofInt 1), sM.2) (by omega) (by omega) ((u_l1N (by omega)).trans (u_l1E _ _ _)) (u_l1E _ _ _)
    have w : ∀ o k, ¬ (o = 104 ∧ k = i) → y_u sM.1 104 i (Int32.ofInt 1) o k = sM.1 o k := fun o k q => y_uN q
    obtain ⟨t, t1, t3, t4⟩ := hR.2.2.1.2.2.2.1
    have t3 : sC.1 28 8 = zi t := t3
    refine ⟨zi t, (y_u (rW sC.1 35 (i * 24)) 0 7 (zi (m ||| (1 <<< i))), sC.2), t2, ?_, ?_, m ||| (1 <<< i), a2, ?_, fun j hj => ⟨?_, fun q => ?_⟩⟩
    · rw [b_29, if_neg (zi_nonneg (by omega)), if_pos (show zi i < Int32.ofInt 3 from (zi_lt (b := 3) (by omega) (by omega)).mpr hi), z24, zi_mul, c_saveX (by omega), u_bvS]
      dsimp only
      rw [rW_N (by omega), rW_N (by omega), t3, m2, a1]
    · rw [b_222, h, u_biS, if_neg (show ¬ Int32.ofInt 1 = 0 by decide), if_pos hin, hcl, e1]
      dsimp only
      rw [w 85 26 (by omega), t4]
    · dsimp only
      exact y_uE _ _ _ _
    · rw [e3.i (o := 104) (k := j) (fun q => by omega)]
      dsimp only
      rw [a4 j hj]
      by_cases q : j = i
      · subst q
        rw [y_uE, show Nat.beq j j = true from Nat.beq_refl j, Bool.or_true]
        rfl
      · rw [w 104 j (by omega), nbF q, Bool.or_false]
        exact (m3 j hj).1
    · by_cases z : j = i
      · subst z
        refine aR_eq hR hb (fun k hk => ?_) (fun k hk => ?_)
        · try dsimp only
          rw [y_uN (by omega), Nat.mul_comm 24 j]
          exact rW_I (Or.inr rfl) hk
        · try dsimp only
          rw [e2 k (Nat.zero_le _) hk]
          exact w 85 k (by omega)
      · rw [a4 j hj, nbF z, Bool.or_false] at q
        refine aR_eq ((m3 j hj).2 q) hb (fun k hk => ?_) (fun k hk => ?_)
        · try dsimp only
          rw [y_uN (by omega)]
          exact rW_N (by omega)
        · try dsimp only
          rw [e3.i (fun q => by omega)]
          exact w 105 _ (by omega)
  · refine ⟨u_k (-1), sC, sM, ?_, ?_, hB⟩
    · rcases hn with hn | ⟨hn, hn2⟩
      · rw [b_29, if_pos hn]
      · rw [b_29, if_neg hn, if_neg hn2]
    · rw [b_222, h, u_biS, if_pos (show Int32.ofInt 0 = 0 by decide)]
/-- back(box) -/
theorem back_alike {b R : Nat} {sC sM : u_H} (hb : b ≤ 7) (hR : aR b R (nR sC.1) (sM.1 85)) (hP : aP b R sC.1 sM.1) (hB : aB b R sC.1 sM.1) (x : Int32) : ∃ (y : Int32) (s2 t2 : u_H), u_c 7 [.inr (.inr 2), .inl x] sC = some (some (.inl y), s2) ∧ u_c 182 [.inr (.inr 67), .inl x] sM = some (some (.inl y), t2) ∧ aR b R (nR s2.1) (t2.1 85) ∧ aP b R s2.1 t2.1 := by
  rcases isBox_zi x with ⟨i, hi, rfl, h⟩ | ⟨hn, h⟩
  · obtain ⟨m, m1, m2, m3⟩ := hB
    obtain ⟨-, a3, -⟩ := box_all ⟨m, m1⟩ ⟨i, hi⟩
    have a3 : bN (zi m) i ↔ Nat.testBit m i = false := a3
    have hin : u_in (zi i) 3 = true := (u_inz (by omega)).mpr hi
    have hcl : (zi i).toNatClampNeg = i := zi_clamp (by omega)
    obtain ⟨x1, x2⟩ := m3 i hi
    by_cases q : bN (zi m) i
    · have e := a3.mp q
      refine ⟨u_k (-1), sC, sM, ?_, ?_, hR, hP⟩
      · rw [b_7, if_neg (zi_nonneg (by omega)), if_pos (show zi i < Int32.ofInt 3 from (zi_lt (b := 3) (by omega) (by omega)).mpr hi), m2, c_h0 q, u_biS, if_pos (show Int32.ofInt 0 = 0 by decide)]
      · rw [b_182, h, u_biS, if_neg (show ¬ Int32.ofInt 1 = 0 by decide), if_pos hin, hcl, x1, e, if_pos zb_no]
    · have e : Nat.testBit m i = true := by
        cases z : Nat.testBit m i with
        | true => rfl
        | false => exact absurd (a3.mpr z) q
      obtain ⟨t2, e1, e2, e3, e4, e5⟩ := m182_20 hi 28 0 (u_l1 (u_l1 u_z1 1 (zi i)) 2 (Int32.ofInt 0)) u_z2 sM (by omega) (by omega) ((u_l1N (by omega)).trans (u_l1E _ _ _)) (u_l1E _ _ _)
      have N := x2 e
      obtain ⟨s3, hs3⟩ : ∃ s3 : u_H, s3 = (rL sC.1 35 (i * 24), sC.2) := ⟨_, rfl⟩
      obtain ⟨s4, hs4⟩ : ∃ s4 : u_H, s4 = (y_u (y_u (y_u s3.1 33 1 (Int32.ofInt 0)) 33 2 (Int32.ofInt 0)) 33 3 (Int32.ofInt 0), s3.2) := ⟨_, rfl⟩
      have r3 : ∀ k, k < 24 → nR s3.1 k = sC.1 35 (24 * i + k) := fun k hk => by
        rw [hs3, Nat.mul_comm 24 i]
        exact rL_I (Or.inr rfl) hk
      have r4 : ∀ k, k < 24 → nR s4.1 k = nR s3.1 k := fun k hk => by
        have hs := qS_so k hk
        rw [hs4]
        unfold qS at hs
        show y_u (y_u (y_u s3.1 33 1 (Int32.ofInt 0)) 33 2 (Int32.ofInt 0)) 33 3 (Int32.ofInt 0) (y_so k).1 (y_so k).2 = s3.1 (y_so k).1 (y_so k).2
        rw [y_uN (by omega), y_uN (by omega), y_uN (by omega)]
      have p0 : pN 0 0 + 24 ≤ 984 := pN_le 0 0
      have r5 : ∀ k, k < 24 → nR (rW s4.1 34 (pN 0 0)) k = nR s4.1 k := fun k hk => by
        have hs := qS_so k hk
        unfold qS at hs
        show rW s4.1 34 (pN 0 0) (y_so k).1 (y_so k).2 = s4.1 (y_so k).1 (y_so k).2
        exact rW_N (by omega)
      have d1 : s4.1 33 1 = zi 0 := by
        rw [hs4]
        dsimp only
        rw [y_uN (by omega), y_uN (by omega), y_uE]
        rfl
      have d2 : s4.1 33 2 = zi 0 := by
        rw [hs4]
        dsimp only
        rw [y_uN (by omega), y_uE]
        rfl
      have d3 : s4.1 33 3 = zi 0 := by
        rw [hs4]
        dsimp only
        rw [y_uE]
        rfl
      have N2 : aR b R (nR (rW s4.1 34 (pN 0 0))) (t2.1 85) := aR_eq N hb (fun k hk => (r5 k hk).trans ((r4 k hk).trans (r3 k hk))) (fun k hk => e2 k (Nat.zero_le _) hk)
      obtain ⟨t, t1, t3, t4⟩ := N2.2.2.1.2.2.2.1
      have t3 : rW s4.1 34 (pN 0 0) 28 8 = zi t := t3
      have hr : u_c 95 [.inr (.inr 35), .inr (.inr 30)] s3 = some (none, (rW s4.1 34 (pN 0 0), s4.2)) := by
        rw [b_95, ← hs4, c_rowNow (O := 0) (U := 0) (by omega) (by omega) d1 d2, u_biS, c_saveP p0, u_bvS]
      refine ⟨zi t, (rW s4.1 34 (pN 0 0), s4.2), t2, ?_, ?_, N2, 0, 0, 0, by omega, by omega, ⟨?_, ?_, ?_⟩, ⟨e3, e4⟩, fun j hj => ?_⟩
      · rw [b_7, if_neg (zi_nonneg (by omega)), if_pos (show zi i < Int32.ofInt 3 from (zi_lt (b := 3) (by omega) (by omega)).mpr hi), m2, c_h1 q, u_biS, if_neg (show ¬ Int32.ofInt 1 = 0 by decide), z24, zi_mul, c_loadX (by omega), u_bvS, ← hs3, hr, u_bvS]
        dsimp only
        rw [t3]
      · rw [b_182, h, u_biS, if_neg (show ¬ Int32.ofInt 1 = 0 by decide), if_pos hin, hcl, x1, e, if_neg zb_yes, e1, t4]
      · exact (rW_N (g := s4.1) (d := 34) (p := pN 0 0) (o := 33) (k := 1) (by omega)).trans d1
      · exact (rW_N (g := s4.1) (d := 34) (p := pN 0 0) (o := 33) (k := 2) (by omega)).trans d2
      · exact (rW_N (g := s4.1) (d := 34) (p := pN 0 0) (o := 33) (k := 3) (by omega)).trans d3
      · have hj : j = 0 := by omega
        subst hj
        refine aR_eq N2 hb (fun k hk => ?_) (fun k hk => mP_at)
        dsimp only
        rw [r5 k hk]
        exact rW_I (Or.inl rfl) hk
  · refine ⟨u_k (-1), sC, sM, ?_, ?_, hR, hP⟩
    · rcases hn with hn | ⟨hn, hn2⟩
      · rw [b_7, if_pos hn]
      · rw [b_7, if_neg hn, if_neg hn2]
    · rw [b_182, h, u_biS, if_pos (show Int32.ofInt 0 = 0 by decide)]
end BOX
