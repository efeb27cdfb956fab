/-! SEEN, UNTOLD: both sides -/
section SEEN
/-- whether a SEEN can be noted -/
def vOk (b m : Nat) (p1 p2 : Int32) : Prop := ¬ p1 < 0 ∧ ¬ Int32.ofInt 60 < p1 ∧ ¬ p2 < 0 ∧ ¬ Int32.ofInt 7 < p2 ∧ b ≠ 0 ∧ m < 30
/-- the note, in columns -/
noncomputable def vN (c1 c2 c3 c4 c5 o k m : Nat) (tm p1 p2 p3 : Int32) (g : Nat → Nat → Int32) : Nat → Nat → Int32 := y_u (y_u (y_u (y_u (y_u (y_u g c1 m p1) c2 m p2) c3 m p3) c4 m tm) c5 m (u_k (-1))) o k (zi (m + 1))
theorem z_back (m : Nat) : zi m + Int32.ofInt 1 - Int32.ofInt 1 = zi m := by
  rw [zi_one, show Int32.ofInt 1 = zi 1 from rfl, zi_sub (by omega)]
  rfl
theorem c_seen {T b m : Nat} (hT : T = 5 ∨ T = 17) {p1 p2 p3 : Int32} {s t : u_H} {v : Option (q_V Int32)} (hs : s.2.2.1 = T) (hb : b ≤ 7) (hm : m ≤ 30) (h4 : s.1 (T - 2) 4 = zi b) (h1 : s.1 55 1 = zi m) (h : u_c 65 [.inr (.inr 2), .inl p1, .inl p2, .inl p3] s = some (v, t)) : (vOk b m p1 p2 ∧ v = some (.inl (zi m)) ∧ t.1 = vN 56 57 58 59 60 55 1 m (s.1 55 0) p1 p2 p3 s.1) ∨ (¬ vOk b m p1 p2 ∧ v = some (.inl (u_k (-1))) ∧ t.1 = s.1) := by
  rw [b_65 hT, if_pos hs, h4] at h
  have no : ∀ (X : Prop), ¬ X → (X → False) := fun _ a b => a b
  have fin0 : ∀ (li : Nat → Int32) (ll : Nat → Int64), u g_t134 25 (li, ll, [(0, 57)]) [.inl (Int32.ofInt 0)] s = some (some (.inl (u_k (-1))), s) := by
    intro li ll
    rw [b_134_25, if_pos (show Int32.ofInt 0 = 0 from rfl)]
  by_cases q0 : b = 0
  · rw [if_pos (by rw [q0]; rfl)] at h
    cases h
    exact Or.inr ⟨fun q => q.2.2.2.2.1 q0, rfl, rfl⟩
  rw [if_neg (show ¬ zi b = 0 from fun e => q0 ((zi_inj (b := 0) (by omega) (by omega)).mp e)), b_134] at h
  by_cases q1 : p1 < 0
  · rw [if_pos q1, fin0, u_biS] at h
    cases h
    exact Or.inr ⟨fun q => q.1 q1, rfl, rfl⟩
  rw [if_neg q1] at h
  by_cases q2 : Int32.ofInt 60 < p1
  · rw [if_pos q2, fin0, u_biS] at h
    cases h
    exact Or.inr ⟨fun q => q.2.1 q2, rfl, rfl⟩
  rw [if_neg q2] at h
  by_cases q3 : p2 < 0
  · rw [if_pos q3, fin0, u_biS] at h
    cases h
    exact Or.inr ⟨fun q => q.2.2.1 q3, rfl, rfl⟩
  rw [if_neg q3] at h
  by_cases q4 : Int32.ofInt 7 < p2
  · rw [if_pos q4, fin0, u_biS] at h
    cases h
    exact Or.inr ⟨fun q => q.2.2.2.1 q4, rfl, rfl⟩
  rw [if_neg q4, b_134_25, if_neg (show ¬ Int32.ofInt 1 = 0 by decide), h1] at h
  by_cases q5 : m < 30
  · have hin : u_in (zi m) 30 = true := (u_inz (by omega)).mpr q5
    have hcl : (zi m).toNatClampNeg = m := zi_clamp (by omega)
    rw [if_pos (show zi m < Int32.ofInt 30 from (zi_lt (b := 30) (by omega) (by omega)).mpr q5), if_pos hin, if_pos hin, if_pos hin] at h
    rw [show (u_l1 (u_l1 (u_l1 u_z1 1 p1) 2 p2) 3 p3) 3 = p3 from u_l1E _ _ _, show (u_l1 (u_l1 (u_l1 u_z1 1 p1) 2 p2) 3 p3) 1 = p1 from (u_l1N (by omega)).trans ((u_l1N (by omega)).trans (u_l1E _ _ _)), show (u_l1 (u_l1 (u_l1 u_z1 1 p1) 2 p2) 3 p3) 2 = p2 from (u_l1N (by omega)).trans (u_l1E _ _ _)] at h
    by_cases q6 : q_ib p3 = true
    · rw [if_pos q6, if_pos hin, if_pos hin, hcl, z_back, zi_one, u_biS] at h
      cases h
      exact Or.inl ⟨⟨q1, q2, q3, q4, q0, q5⟩, rfl, rfl⟩
    · rw [if_neg q6] at h
      cases h
  · rw [if_neg (show ¬ zi m < Int32.ofInt 30 from fun e => q5 ((zi_lt (b := 30) (by omega) (by omega)).mp e)), u_biS] at h
    cases h
    exact Or.inr ⟨fun q => q5 q.2.2.2.2.2, rfl, rfl⟩
theorem m_seen {b m : Nat} {p1 p2 p3 : Int32} {s t : u_H} {v : Option (q_V Int32)} (hb : b ≤ 7) (hm : m ≤ 30) (h4 : s.1 65 48 = zi b) (h1 : s.1 65 78 = zi m) (h : u_c 296 [.inr (.inr 67), .inl p1, .inl p2, .inl p3] s = some (v, t)) : (vOk b m p1 p2 ∧ v = some (.inl (zi m)) ∧ t.1 = vN 96 97 100 98 99 65 78 m (s.1 65 79) p1 p2 p3 s.1) ∨ (¬ vOk b m p1 p2 ∧ v = some (.inl (u_k (-1))) ∧ t.1 = s.1) := by
  rw [b_296, b_230, show Int32.ofInt 0 = (0 : Int32) from rfl] at h
  by_cases q1 : p1 < 0
  · rw [if_pos q1, u_biS, if_pos rfl] at h
    cases h
    exact Or.inr ⟨fun q => q.1 q1, rfl, rfl⟩
  rw [if_neg q1] at h
  by_cases q2 : Int32.ofInt 60 < p1
  · rw [if_pos q2, u_biS, if_pos rfl] at h
    cases h
    exact Or.inr ⟨fun q => q.2.1 q2, rfl, rfl⟩
  rw [if_neg q2, u_biS, if_neg (show ¬ Int32.ofInt 1 = 0 by decide), b_230] at h
  by_cases q3 : p2 < 0
  · rw [if_pos q3, u_biS, if_pos (show Int32.ofInt 0 = 0 from rfl)] at h
    cases h
    exact Or.inr ⟨fun q => q.2.2.1 q3, rfl, rfl⟩
  rw [if_neg q3] at h
  by_cases q4 : Int32.ofInt 7 < p2
  · rw [if_pos q4, u_biS, if_pos (show Int32.ofInt 0 = 0 from rfl)] at h
    cases h
    exact Or.inr ⟨fun q => q.2.2.2.1 q4, rfl, rfl⟩
  rw [if_neg q4, u_biS, if_neg (show ¬ Int32.ofInt 1 = 0 by decide), h4] at h
  by_cases q0 : b = 0
  · rw [if_pos (by rw [q0]; rfl)] at h
    cases h
    exact Or.inr ⟨fun q => q.2.2.2.2.1 q0, rfl, rfl⟩
  rw [if_neg (show ¬ zi b = 0 from fun e => q0 ((zi_inj (b := 0) (by omega) (by omega)).mp e)), h1] at h
  by_cases q5 : m < 30
  · have hin : u_in (zi m) 30 = true := (u_inz (by omega)).mpr q5
    have hcl : (zi m).toNatClampNeg = m := zi_clamp (by omega)
    rw [if_neg (show ¬ zi m = Int32.ofInt 30 from fun e => absurd ((zi_inj (b := 30) (by omega) (by omega)).mp e) (by omega)), if_pos hin, if_pos hin, if_pos hin] at h
    by_cases q6 : q_ib p3 = true
    · rw [if_pos q6, if_pos hin, if_pos hin, hcl, z_back, zi_one] at h
      cases h
      exact Or.inl ⟨⟨q1, q2, q3, q4, q0, q5⟩, rfl, rfl⟩
    · rw [if_neg q6] at h
      cases h
  · rw [if_pos (show zi m = Int32.ofInt 30 from by rw [show m = 30 by omega]; rfl)] at h
    cases h
    exact Or.inr ⟨fun q => q5 q.2.2.2.2.2, rfl, rfl⟩
theorem vN_N {c1 c2 c3 c4 c5 o k m : Nat} {tm p1 p2 p3 : Int32} {g : Nat → Nat → Int32} {o2 k2 : Nat} (h : ¬ (o2 = o ∧ k2 = k)) (h2 : ¬ ((o2 = c1 ∨ o2 = c2 ∨ o2 = c3 ∨ o2 = c4 ∨ o2 = c5) ∧ k2 = m)) : vN c1 c2 c3 c4 c5 o k m tm p1 p2 p3 g o2 k2 = g o2 k2 := by
  unfold vN
  rw [y_uN h, y_uN (by omega), y_uN (by omega), y_uN (by omega), y_uN (by omega), y_uN (by omega)]
/-- both have noted it -/
theorem v_seen {g g2 g3 : Nat → Nat → Int32} {m t : Nat} {p1 p2 p3 : Int32} (h : aV g m t) (hm : m < 30) (hC : ∀ o k, qV o k → g2 o k = vN 56 57 58 59 60 55 1 m (g 55 0) p1 p2 p3 g o k) (hC2 : ∀ o k, vS o k → ¬ qV o k → g2 o k = g o k) (hM : ∀ o k, vS o k → ¬ qV o k → g3 o k = vN 96 97 100 98 99 65 78 m (g2 65 79) p1 p2 p3 g2 o k) (hM2 : ∀ o k, qV o k → g3 o k = g2 o k) : aV g3 (m + 1) t := by
  obtain ⟨h1, h2, ⟨h3, h4, h5, h6⟩, h7⟩ := h
  have e79 : g2 65 79 = zi t := (hC2 65 79 (by unfold vS; omega) (by unfold qV; omega)).trans h6
  have C : ∀ o k, qV o k → g3 o k = vN 56 57 58 59 60 55 1 m (zi t) p1 p2 p3 g o k := fun o k q => by
    rw [hM2 o k q, hC o k q, h5]
  have M : ∀ o k, vS o k → ¬ qV o k → g3 o k = vN 96 97 100 98 99 65 78 m (zi t) p1 p2 p3 g2 o k := fun o k q q2 => by
    rw [hM o k q q2, e79]
  have qc : ∀ o k, (56 ≤ o ∧ o ≤ 60) → k < 30 → qV o k := fun o k a b => by
    unfold qV
    omega
  have qm : ∀ o k, (96 ≤ o ∧ o ≤ 100) → k < 30 → vS o k ∧ ¬ qV o k := fun o k a b => ⟨Or.inr (Or.inr ⟨a.1, a.2, b⟩), fun q => by unfold qV at q; omega⟩
  refine ⟨by omega, h2, ⟨?_, ?_, ?_, ?_⟩, fun j hj => ?_⟩
  · rw [C 55 1 (by unfold qV; omega)]
    unfold vN
    rw [y_uE]
  · rw [M 65 78 (by unfold vS; omega) (by unfold qV; omega)]
    unfold vN
    rw [y_uE]
  · rw [C 55 0 (by unfold qV; omega), vN_N (by omega) (by omega)]
    exact h5
  · rw [M 65 79 (by unfold vS; omega) (by unfold qV; omega), vN_N (by omega) (by omega)]
    exact e79
  · rcases Nat.lt_or_ge j m with q | q
    · refine aVj_fr (h7 j q) (fun o ho => ?_)
      rcases ho with ho | ho
      · rw [C o j (qc o j ho (by omega)), vN_N (by omega) (by omega)]
      · obtain ⟨a1, a2⟩ := qm o j ho (by omega)
        rw [M o j a1 a2, vN_N (by omega) (by omega)]
        exact hC2 o j a1 a2
    · have hj2 : j = m := by omega
      subst hj2
      have K : ∀ o, (56 ≤ o ∧ o ≤ 60) → g3 o j = vN 56 57 58 59 60 55 1 j (zi t) p1 p2 p3 g o j := fun o ho => C o j (qc o j ho hm)
      have L : ∀ o, (96 ≤ o ∧ o ≤ 100) → g3 o j = vN 96 97 100 98 99 65 78 j (zi t) p1 p2 p3 g2 o j := fun o ho => M o j (qm o j ho hm).1 (qm o j ho hm).2
      have a56 : g3 56 j = p1 := by
        rw [K 56 (by omega)]
        unfold vN
        rw [y_uN (by omega), y_uN (by omega), y_uN (by omega), y_uN (by omega), y_uN (by omega), y_uE]
      have a57 : g3 57 j = p2 := by
        rw [K 57 (by omega)]
        unfold vN
        rw [y_uN (by omega), y_uN (by omega), y_uN (by omega), y_uN (by omega), y_uE]
      have a58 : g3 58 j = p3 := by
        rw [K 58 (by omega)]
        unfold vN
        rw [y_uN (by omega), y_uN (by omega), y_uN (by omega), y_uE]
      have a59 : g3 59 j = zi t := by
        rw [K 59 (by omega)]
        unfold vN
        rw [y_uN (by omega), y_uN (by omega), y_uE]
      have a60 : g3 60 j = u_k (-1) := by
        rw [K 60 (by omega)]
        unfold vN
        rw [y_uN (by omega), y_uE]
      have b96 : g3 96 j = p1 := by
        rw [L 96 (by omega)]
        unfold vN
        rw [y_uN (by omega), y_uN (by omega), y_uN (by omega), y_uN (by omega), y_uN (by omega), y_uE]
      have b97 : g3 97 j = p2 := by
        rw [L 97 (by omega)]
        unfold vN
        rw [y_uN (by omega), y_uN (by omega), y_uN (by omega), y_uN (by omega), y_uE]
      have b100 : g3 100 j = p3 := by
        rw [L 100 (by omega)]
        unfold vN
        rw [y_uN (by omega), y_uN (by omega), y_uN (by omega), y_uE]
      have b98 : g3 98 j = zi t := by
        rw [L 98 (by omega)]
        unfold vN
        rw [y_uN (by omega), y_uN (by omega), y_uE]
      have b99 : g3 99 j = u_k (-1) := by
        rw [L 99 (by omega)]
        unfold vN
        rw [y_uN (by omega), y_uE]
      exact ⟨a56.trans b96.symm, a57.trans b97.symm, a58.trans b100.symm, a59.trans b98.symm, a60.trans b99.symm, Or.inl a60⟩
/-- what is told no more -/
theorem zk_neg : u_k (-1) < 0 := by
  rw [u_k_eq]
  decide
theorem zi_n0 {x : Nat} (h : x < 2147483648) : ¬ zi x = u_k (-1) := fun e => by
  have := zk_neg
  rw [← e] at this
  exact zi_nonneg h this
theorem c_untell {m : Nat} {p : Int32} {s t : u_H} {v : Option (q_V Int32)} (hm : m ≤ 30) (h1 : s.1 55 1 = zi m) (h : u_c 78 [.inr (.inr 2), .inl p] s = some (v, t)) : (∃ j, j < m ∧ p = zi j ∧ s.1 60 j = u_k (-1) ∧ v = some (.inl (Int32.ofInt 1)) ∧ t.1 = y_u s.1 60 j (s.1 55 0)) ∨ ((∀ j, j < m → p = zi j → s.1 60 j ≠ u_k (-1)) ∧ v = some (.inl (Int32.ofInt 0)) ∧ t.1 = s.1) := by
  rw [b_78, b_137, h1] at h
  by_cases q1 : p < 0
  · rw [if_pos q1, u_biS, if_pos (show q_ib (Int32.ofInt 0) = true by decide)] at h
    cases h
    exact Or.inr ⟨fun j hj e => absurd q1 (by rw [e]; exact zi_nonneg (by omega)), rfl, rfl⟩
  rw [if_neg q1] at h
  by_cases q2 : p < zi m
  · obtain ⟨j, hj, rfl⟩ : ∃ j, j < m ∧ p = zi j := by
      have a1 : 0 ≤ p.toInt := by
        have : ¬ p.toInt < 0 := fun z => q1 (Int32.lt_iff_toInt_lt.mpr z)
        omega
      have a2 : p.toInt < (m : Int) := by
        have := Int32.lt_iff_toInt_lt.mp q2
        rw [zi_int (by omega)] at this
        exact this
      refine ⟨p.toInt.toNat, by omega, Int32.toInt_inj.mp ?_⟩
      rw [zi_int (by omega)]
      omega
    have hin : u_in (zi j) 30 = true := (u_inz (by omega)).mpr (by omega)
    have hcl : (zi j).toNatClampNeg = j := zi_clamp (by omega)
    rw [if_pos q2, if_pos hin, hcl] at h
    by_cases q3 : s.1 60 j = u_k (-1)
    · rw [if_pos q3, if_pos hin, u_biS, if_pos (show q_ib (Int32.ofInt 1) = true by decide)] at h
      cases h
      exact Or.inl ⟨j, hj, rfl, q3, rfl, rfl⟩
    · rw [if_neg q3, u_biS, if_pos (show q_ib (Int32.ofInt 0) = true by decide)] at h
      cases h
      refine Or.inr ⟨fun i hi e => ?_, rfl, rfl⟩
      have e2 : j = i := (zi_inj (by omega) (by omega)).mp e
      subst e2
      exact q3
  · rw [if_neg q2, u_biS, if_pos (show q_ib (Int32.ofInt 0) = true by decide)] at h
    cases h
    exact Or.inr ⟨fun j hj e => absurd ((zi_lt (by omega) (by omega)).mpr hj) (by rw [← e]; exact q2), rfl, rfl⟩
theorem m_untell {m : Nat} {p : Int32} {s t : u_H} {v : Option (q_V Int32)} (hm : m ≤ 30) (h1 : s.1 65 78 = zi m) (h : u_c 317 [.inr (.inr 67), .inl p] s = some (v, t)) : (∃ j, j < m ∧ p = zi j ∧ s.1 99 j < 0 ∧ v = some (.inl (Int32.ofInt 1)) ∧ t.1 = y_u s.1 99 j (s.1 65 79)) ∨ ((∀ j, j < m → p = zi j → ¬ s.1 99 j < 0) ∧ v = some (.inl (Int32.ofInt 0)) ∧ t.1 = s.1) := by
  rw [b_317, b_230, h1, show Int32.ofInt 0 = (0 : Int32) from rfl] at h
  have z0 : (0 : Int32) = Int32.ofInt 0 := rfl
  have hm1 : (zi m - Int32.ofInt 1).toInt = (m : Int) - 1 := by
    rcases Nat.eq_zero_or_pos m with q | q
    · subst q
      decide
    · rw [show Int32.ofInt 1 = zi 1 from rfl, zi_sub (by omega), zi_int (by omega)]
      omega
  by_cases q1 : p < 0
  · rw [if_pos q1, u_biS, if_pos rfl] at h
    cases h
    exact Or.inr ⟨fun j hj e => absurd q1 (by rw [e]; exact zi_nonneg (by omega)), rfl, rfl⟩
  rw [if_neg q1] at h
  by_cases q2 : zi m - Int32.ofInt 1 < p
  · rw [if_pos q2, u_biS, if_pos rfl] at h
    cases h
    refine Or.inr ⟨fun j hj e => ?_, rfl, rfl⟩
    have a := Int32.lt_iff_toInt_lt.mp q2
    rw [hm1, e, zi_int (by omega)] at a
    omega
  · obtain ⟨j, hj, rfl⟩ : ∃ j, j < m ∧ p = zi j := by
      have a1 : 0 ≤ p.toInt := by
        have : ¬ p.toInt < 0 := fun z => q1 (Int32.lt_iff_toInt_lt.mpr z)
        omega
      have a2 : ¬ (m : Int) - 1 < p.toInt := fun z => q2 (Int32.lt_iff_toInt_lt.mpr (by rw [hm1]; exact z))
      refine ⟨p.toInt.toNat, by omega, Int32.toInt_inj.mp ?_⟩
      rw [zi_int (by omega)]
      omega
    have hin : u_in (zi j) 30 = true := (u_inz (by omega)).mpr (by omega)
    have hcl : (zi j).toNatClampNeg = j := zi_clamp (by omega)
    rw [if_neg q2, u_biS, if_neg (show ¬ Int32.ofInt 1 = 0 by decide), if_pos hin, hcl] at h
    by_cases q3 : s.1 99 j < 0
    · rw [if_pos q3, if_pos hin] at h
      cases h
      exact Or.inl ⟨j, hj, rfl, q3, rfl, rfl⟩
    · rw [if_neg q3] at h
      cases h
      refine Or.inr ⟨fun i hi e => ?_, rfl, rfl⟩
      have e2 : j = i := (zi_inj (by omega) (by omega)).mp e
      subst e2
      exact q3
/-- both tell it no more, or neither -/
theorem v_untell {g : Nat → Nat → Int32} {m t : Nat} (h : aV g m t) {j : Nat} (hj : j < m) : g 60 j = u_k (-1) ↔ g 99 j < 0 := by
  obtain ⟨-, -, -, h7⟩ := h
  obtain ⟨-, -, -, -, e, q⟩ := h7 j hj
  rw [← e]
  rcases q with q | ⟨x, hx, q⟩
  · rw [q]
    exact ⟨fun _ => zk_neg, fun _ => rfl⟩
  · rw [q]
    exact ⟨fun z => absurd z (zi_n0 (by omega)), fun z => absurd z (zi_nonneg (by omega))⟩
theorem v_untell2 {g g3 : Nat → Nat → Int32} {m t j : Nat} (h : aV g m t) (hj : j < m) (e : ∀ o k, vS o k → ¬ ((o = 60 ∨ o = 99) ∧ k = j) → g3 o k = g o k) (e1 : g3 60 j = zi t) (e2 : g3 99 j = zi t) : aV g3 m t := by
  obtain ⟨h1, h2, ⟨h3, h4, h5, h6⟩, h7⟩ := h
  refine ⟨h1, h2, ⟨?_, ?_, ?_, ?_⟩, fun i hi => ?_⟩
  · rw [e 55 1 (by unfold vS qV; omega) (by omega)]; exact h3
  · rw [e 65 78 (by unfold vS qV; omega) (by omega)]; exact h4
  · rw [e 55 0 (by unfold vS qV; omega) (by omega)]; exact h5
  · rw [e 65 79 (by unfold vS qV; omega) (by omega)]; exact h6
  · by_cases q : i = j
    · subst q
      obtain ⟨a1, a2, a3, a4, -, -⟩ := h7 i hi
      refine ⟨?_, ?_, ?_, ?_, e1.trans e2.symm, Or.inr ⟨t, h2, e1⟩⟩
      · rw [e 56 i (by unfold vS qV; omega) (by omega), e 96 i (by unfold vS qV; omega) (by omega)]; exact a1
      · rw [e 57 i (by unfold vS qV; omega) (by omega), e 97 i (by unfold vS qV; omega) (by omega)]; exact a2
      · rw [e 58 i (by unfold vS qV; omega) (by omega), e 100 i (by unfold vS qV; omega) (by omega)]; exact a3
      · rw [e 59 i (by unfold vS qV; omega) (by omega), e 98 i (by unfold vS qV; omega) (by omega)]; exact a4
    · exact aVj_fr (h7 i hi) (fun o ho => e o i (by unfold vS qV; omega) (by omega))
end SEEN
