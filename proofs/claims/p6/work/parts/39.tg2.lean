/-! THE TEXT, ALIKE ON BOTH SIDES; what is fed -/
/-- the slots that the law's invariant speaks of -/
def lX (o k : Nat) : Prop := (o = 1 ∧ k = 1) ∨ (o = 2 ∧ k < 1600) ∨ (o = 65 ∧ (k = 1 ∨ k = 2 ∨ k = 3)) ∨ (o = 66 ∧ k < 1600) ∨ (o = 27 ∧ (k = 8 ∨ k = 9))
def jXt (g : Nat → Nat → Int32) (n : Nat) : Prop := n ≤ 1600 ∧ g 1 1 = zi n ∧ g 65 1 = zi n ∧ ∀ k, k < n → g 2 k &&& u_k 255 = g 66 k ∧ 0 ≤ (g 66 k).toInt ∧ (g 66 k).toInt ≤ 255
def jX (g : Nat → Nat → Int32) : Prop := (∃ n, jXt g n) ∧ g 27 8 = g 65 2 ∧ g 27 9 = g 65 3
theorem jX_fr {g g2 : Nat → Nat → Int32} (h : jX g) (e : ∀ o k, lX o k → g2 o k = g o k) : jX g2 := by
  obtain ⟨⟨n, h1, h2, h3, h4⟩, h5, h6⟩ := h
  refine ⟨⟨n, h1, ?_, ?_, fun k hk => ?_⟩, ?_, ?_⟩
  · rw [e 1 1 (by unfold lX; omega)]
    exact h2
  · rw [e 65 1 (by unfold lX; omega)]
    exact h3
  · rw [e 2 k (by unfold lX; omega), e 66 k (by unfold lX; omega)]
    exact h4 k hk
  · rw [e 27 8 (by unfold lX; omega), e 65 2 (by unfold lX; omega)]
    exact h5
  · rw [e 27 9 (by unfold lX; omega), e 65 3 (by unfold lX; omega)]
    exact h6
noncomputable def jch (g : Nat → Nat → Int32) (n : Nat) : Nat → Int32 := fun k => if k < n then g 66 k else u_k (-1)
theorem jX_T {g : Nat → Nat → Int32} {n : Nat} (h : jXt g n) : tx_T (jch g n) n := by
  refine ⟨h.1, fun k hk => ?_, fun k hk => ?_⟩
  · unfold jch
    rw [if_pos hk]
    exact (h.2.2.2 k hk).2
  · unfold jch
    rw [if_neg (by omega)]
theorem jX_C {s : u_H} {n : Nat} (h : jXt s.1 n) : tC (jch s.1 n) n s := ⟨h.2.1, fun k hk => by
  unfold jch
  rw [if_pos hk]
  exact (h.2.2.2 k hk).1⟩
section FEED
theorem bt_and (x : Int32) : x.toInt8.toInt32.toInt8.toInt32 &&& Int32.ofInt 255 = x &&& Int32.ofInt 255 := by
  apply Int32.toBitVec_inj.mp
  simp only [Int32.toBitVec_and, Int8.toBitVec_toInt32, Int32.toBitVec_toInt8]
  have h255 : ∀ j : Fin 32, 8 ≤ j.1 → (Int32.ofInt 255).toBitVec.getLsbD j.1 = false := by decide
  apply BitVec.eq_of_getLsbD_eq
  intro i hi
  rw [BitVec.getLsbD_and, BitVec.getLsbD_and]
  by_cases h : i < 8
  · have e : (BitVec.signExtend 32 (BitVec.signExtend 8 (BitVec.signExtend 32 (BitVec.signExtend 8 x.toBitVec)))).getLsbD i = x.toBitVec.getLsbD i := by
      rw [BitVec.getLsbD_signExtend, BitVec.getLsbD_signExtend, BitVec.getLsbD_signExtend, BitVec.getLsbD_signExtend]
      simp [h, hi]
    rw [← e]
  · rw [h255 ⟨i, hi⟩ (Nat.le_of_not_lt h), Bool.and_false, Bool.and_false]
noncomputable def fw (p : Int32) (a : Nat) : Int32 := (p >>> (zi a &&& 31)) &&& u_k 255
def bt (p : Int32) (a : Nat) : Int32 := (p >>> (zi a &&& 31)).toInt8.toInt32.toInt8.toInt32
theorem bt_fw (p : Int32) (a : Nat) : bt p a &&& u_k 255 = fw p a := by
  unfold bt fw
  rw [u_k_eq]
  exact bt_and _
theorem fw_rg (p : Int32) (a : Nat) : 0 ≤ (fw p a).toInt ∧ (fw p a).toInt ≤ 255 := by
  unfold fw
  rw [u_k_eq]
  generalize p >>> (zi a &&& 31) = x
  have h := q_jand_ok (a := q_jall) (b := (2147483903, 2147483903)) (x := x) (y := Int32.ofInt 255) (q_jall_ok x) ⟨by decide, by decide⟩
  have e := q_pc_int (x &&& Int32.ofInt 255)
  have h1 : 2147483648 ≤ q_pc (x &&& Int32.ofInt 255) := h.1
  have h2 : q_pc (x &&& Int32.ofInt 255) ≤ 2147483903 := h.2
  omega
theorem z8_24 : zi 24 + u_k (-8) = zi 16 := by rw [u_k_eq]; decide
theorem z8_16 : zi 16 + u_k (-8) = zi 8 := by rw [u_k_eq]; decide
theorem z8_8 : zi 8 + u_k (-8) = zi 0 := by rw [u_k_eq]; decide
theorem z8_0 : zi 0 + u_k (-8) < 0 := by rw [u_k_eq]; decide
theorem c_put1 {li : Nat → Int32} {ll : Nat → Int64} {s : u_H} {p : Int32} {a m : Nat} (h1 : li 1 = p) (h2 : li 2 = zi a) (ha : a < 100) (hn : s.1 1 1 = zi m) (hm : m < 1600) : u g_t152 3 (li, ll, [(0, 3)]) [] s = u g_t152 3 (u_l1 li 2 (zi a + u_k (-8)), ll, [(0, 3)]) [] (y_u (y_u s.1 2 m (bt p a)) 1 1 (zi (m + 1)), s.2) := by
  rw [b_152_3, h2, h1, hn, if_neg (zi_nonneg (by omega)), show u_k 1600 = zi 1600 from u_kz 1600, if_pos ((zi_lt (by omega) (by omega)).mpr hm), if_pos ((u_inz (by omega)).mpr hm), zi_clamp (by omega), zi_one]
  rfl
theorem m_put1 {li : Nat → Int32} {ll : Nat → Int64} {s : u_H} {p : Int32} {a m : Nat} (h1 : li 1 = p) (h2 : li 2 = zi a) (ha : a < 100) (hn : s.1 65 1 = zi m) (hm : m < 1600) : u g_t209 3 (li, ll, [(0, 67)]) [] s = u g_t209 3 (u_l1 li 2 (zi a + u_k (-8)), ll, [(0, 67)]) [] (y_u (y_u s.1 66 m (fw p a)) 65 1 (zi (m + 1)), s.2) := by
  rw [b_209_3, h2, h1, hn, if_neg (zi_nonneg (by omega)), if_pos ((u_inz (by omega)).mpr hm), zi_clamp (by omega), zi_one]
  rfl
noncomputable def wd (p : Int32) : List Int32 := [fw p 24, fw p 16, fw p 8, fw p 0]
/-- bytes l behind the first n -/
def cB (n : Nat) (l : List Int32) (g0 g : Nat → Nat → Int32) : Prop := g 1 1 = zi (n + l.length) ∧ (∀ k, k < n → g 2 k = g0 2 k) ∧ ∀ i x, l[i]? = some x → g 2 (n + i) &&& u_k 255 = x
def mB (n : Nat) (l : List Int32) (g0 g : Nat → Nat → Int32) : Prop := g 65 1 = zi (n + l.length) ∧ (∀ k, k < n → g 66 k = g0 66 k) ∧ ∀ i x, l[i]? = some x → g 66 (n + i) = x
theorem cB_1 {n : Nat} {l : List Int32} {g0 : Nat → Nat → Int32} {s : u_H} {x y : Int32} (h : cB n l g0 s.1) (hx : x &&& u_k 255 = y) : cB n (l ++ [y]) g0 (y_u (y_u s.1 2 (n + l.length) x) 1 1 (zi (n + l.length + 1))) := by
  obtain ⟨h1, h2, h3⟩ := h
  refine ⟨?_, fun k hk => ?_, fun i z hz => ?_⟩
  · rw [y_uE, List.length_append]
    rfl
  · rw [y_uN (by omega), y_uN (by omega)]
    exact h2 k hk
  · rcases Nat.lt_trichotomy i l.length with q | q | q
    · rw [List.getElem?_append_left q] at hz
      rw [y_uN (by omega), y_uN (by omega)]
      exact h3 i z hz
    · subst q
      rw [List.getElem?_append_right (Nat.le_refl _), Nat.sub_self] at hz
      have e : y = z := Option.some.inj hz
      rw [y_uN (by omega), y_uE, hx, e]
    · rw [List.getElem?_eq_none (by rw [List.length_append]; show l.length + 1 ≤ i; omega)] at hz
      cases hz
theorem mB_1 {n : Nat} {l : List Int32} {g0 : Nat → Nat → Int32} {s : u_H} {y : Int32} (h : mB n l g0 s.1) : mB n (l ++ [y]) g0 (y_u (y_u s.1 66 (n + l.length) y) 65 1 (zi (n + l.length + 1))) := by
  obtain ⟨h1, h2, h3⟩ := h
  refine ⟨?_, fun k hk => ?_, fun i z hz => ?_⟩
  · rw [y_uE, List.length_append]
    rfl
  · rw [y_uN (by omega), y_uN (by omega)]
    exact h2 k hk
  · rcases Nat.lt_trichotomy i l.length with q | q | q
    · rw [List.getElem?_append_left q] at hz
      rw [y_uN (by omega), y_uN (by omega)]
      exact h3 i z hz
    · subst q
      rw [List.getElem?_append_right (Nat.le_refl _), Nat.sub_self] at hz
      have e : y = z := Option.some.inj hz
      rw [y_uN (by omega), y_uE, e]
    · rw [List.getElem?_eq_none (by rw [List.length_append]; show l.length + 1 ≤ i; omega)] at hz
      cases hz
theorem c_putS {li : Nat → Int32} {ll : Nat → Int64} {n : Nat} {l : List Int32} {g0 : Nat → Nat → Int32} {s : u_H} {p : Int32} {a : Nat} (h1 : li 1 = p) (h2 : li 2 = zi a) (ha : a < 100) (h : cB n l g0 s.1) (hm : n + l.length < 1600) : ∃ s2, u g_t152 3 (li, ll, [(0, 3)]) [] s = u g_t152 3 (u_l1 li 2 (zi a + u_k (-8)), ll, [(0, 3)]) [] s2 ∧ cB n (l ++ [fw p a]) g0 s2.1 := ⟨_, c_put1 h1 h2 ha h.1 hm, cB_1 h (bt_fw p a)⟩
theorem m_putS {li : Nat → Int32} {ll : Nat → Int64} {n : Nat} {l : List Int32} {g0 : Nat → Nat → Int32} {s : u_H} {p : Int32} {a : Nat} (h1 : li 1 = p) (h2 : li 2 = zi a) (ha : a < 100) (h : mB n l g0 s.1) (hm : n + l.length < 1600) : ∃ s2, u g_t209 3 (li, ll, [(0, 67)]) [] s = u g_t209 3 (u_l1 li 2 (zi a + u_k (-8)), ll, [(0, 67)]) [] s2 ∧ mB n (l ++ [fw p a]) g0 s2.1 := ⟨_, m_put1 h1 h2 ha h.1 hm, mB_1 h⟩
theorem l_two {li : Nat → Int32} {p x : Int32} (h1 : li 1 = p) : (u_l1 li 2 x) 1 = p := (u_l1N (by omega)).trans h1
theorem c_put {n : Nat} {l : List Int32} {g0 : Nat → Nat → Int32} {s : u_H} (p : Int32) (h : cB n l g0 s.1) (hm : n + l.length + 4 ≤ 1600) : ∃ s2, u_c 152 [.inr (.inr 3), .inl p] s = some (none, s2) ∧ cB n (l ++ wd p) g0 s2.1 := by
  have a0 : (u_l1 (u_l1 u_z1 1 p) 2 (Int32.ofInt 24)) 1 = p := l_two (u_l1E _ _ _)
  obtain ⟨s1, e1, h1⟩ := c_putS (ll := u_z2) a0 (show _ = zi 24 from u_l1E _ _ _) (by omega) h (by omega)
  have a1 := l_two (x := zi 24 + u_k (-8)) a0
  have n1 : (l ++ [fw p 24]).length = l.length + 1 := by rw [List.length_append]; rfl
  obtain ⟨s2, e2, h2⟩ := c_putS (ll := u_z2) a1 ((u_l1E _ _ _).trans z8_24) (by omega) h1 (by omega)
  have a2 := l_two (x := zi 16 + u_k (-8)) a1
  have n2 : (l ++ [fw p 24] ++ [fw p 16]).length = l.length + 2 := by rw [List.length_append, n1]; rfl
  obtain ⟨s3, e3, h3⟩ := c_putS (ll := u_z2) a2 ((u_l1E _ _ _).trans z8_16) (by omega) h2 (by omega)
  have a3 := l_two (x := zi 8 + u_k (-8)) a2
  have n3 : (l ++ [fw p 24] ++ [fw p 16] ++ [fw p 8]).length = l.length + 3 := by rw [List.length_append, n2]; rfl
  obtain ⟨s4, e4, h4⟩ := c_putS (ll := u_z2) a3 ((u_l1E _ _ _).trans z8_8) (by omega) h3 (by omega)
  refine ⟨s4, ?_, ?_⟩
  · rw [b_152, e1, e2, e3, e4, b_152_3, u_l1E, if_pos z8_0]
  · have e : l ++ wd p = l ++ [fw p 24] ++ [fw p 16] ++ [fw p 8] ++ [fw p 0] := by
      rw [List.append_assoc, List.append_assoc, List.append_assoc]
      rfl
    rw [e]
    exact h4
theorem m_put {n : Nat} {l : List Int32} {g0 : Nat → Nat → Int32} {s : u_H} (p : Int32) (h : mB n l g0 s.1) (hm : n + l.length + 4 ≤ 1600) : ∃ s2, u_c 209 [.inr (.inr 67), .inl p] s = some (none, s2) ∧ mB n (l ++ wd p) g0 s2.1 := by
  have a0 : (u_l1 (u_l1 u_z1 1 p) 2 (Int32.ofInt 24)) 1 = p := l_two (u_l1E _ _ _)
  obtain ⟨s1, e1, h1⟩ := m_putS (ll := u_z2) a0 (show _ = zi 24 from u_l1E _ _ _) (by omega) h (by omega)
  have a1 := l_two (x := zi 24 + u_k (-8)) a0
  have n1 : (l ++ [fw p 24]).length = l.length + 1 := by rw [List.length_append]; rfl
  obtain ⟨s2, e2, h2⟩ := m_putS (ll := u_z2) a1 ((u_l1E _ _ _).trans z8_24) (by omega) h1 (by omega)
  have a2 := l_two (x := zi 16 + u_k (-8)) a1
  have n2 : (l ++ [fw p 24] ++ [fw p 16]).length = l.length + 2 := by rw [List.length_append, n1]; rfl
  obtain ⟨s3, e3, h3⟩ := m_putS (ll := u_z2) a2 ((u_l1E _ _ _).trans z8_16) (by omega) h2 (by omega)
  have a3 := l_two (x := zi 8 + u_k (-8)) a2
  have n3 : (l ++ [fw p 24] ++ [fw p 16] ++ [fw p 8]).length = l.length + 3 := by rw [List.length_append, n2]; rfl
  obtain ⟨s4, e4, h4⟩ := m_putS (ll := u_z2) a3 ((u_l1E _ _ _).trans z8_8) (by omega) h3 (by omega)
  refine ⟨s4, ?_, ?_⟩
  · rw [b_209, e1, e2, e3, e4, b_209_3, u_l1E, if_pos z8_0]
  · have e : l ++ wd p = l ++ [fw p 24] ++ [fw p 16] ++ [fw p 8] ++ [fw p 0] := by
      rw [List.append_assoc, List.append_assoc, List.append_assoc]
      rfl
    rw [e]
    exact h4
noncomputable def wd5 (p1 p2 p3 p4 p5 : Int32) : List Int32 := [] ++ wd p1 ++ wd p2 ++ wd p3 ++ wd p4 ++ wd p5
theorem wd_n (l : List Int32) (p : Int32) : (l ++ wd p).length = l.length + 4 := by
  rw [List.length_append]
  rfl
theorem c_feed {n : Nat} {s : u_H} (p1 p2 p3 p4 p5 : Int32) (h1 : s.1 1 1 = zi n) (hn : n ≤ 1600) : ∃ v s2, u_c 21 [.inr (.inr 2), .inl p1, .inl p2, .inl p3, .inl p4, .inl p5] s = some (some (.inl v), s2) ∧ ((1600 < n + 20 ∧ s2 = s) ∨ (n + 20 ≤ 1600 ∧ cB n (wd5 p1 p2 p3 p4 p5) s.1 s2.1)) := by
  rw [b_21, h1, show Int32.ofInt 20 = zi 20 from rfl, zi_add, show u_k 1600 = zi 1600 from u_kz 1600]
  by_cases q : 1600 < n + 20
  · rw [if_pos ((zi_lt (by omega) (by omega)).mpr q)]
    exact ⟨_, _, rfl, Or.inl ⟨q, rfl⟩⟩
  · rw [if_neg (fun e => q ((zi_lt (by omega) (by omega)).mp e))]
    have h0 : cB n [] s.1 s.1 := ⟨h1, fun _ _ => rfl, fun i x hx => by cases hx⟩
    obtain ⟨s1, e1, g1⟩ := c_put p1 h0 (show n + 0 + 4 ≤ 1600 by omega)
    have n1 : (([] : List Int32) ++ wd p1).length = 4 := wd_n _ _
    obtain ⟨s2, e2, g2⟩ := c_put p2 g1 (by omega)
    have n2 := wd_n (([] : List Int32) ++ wd p1) p2
    obtain ⟨s3, e3, g3⟩ := c_put p3 g2 (by omega)
    have n3 := wd_n (([] : List Int32) ++ wd p1 ++ wd p2) p3
    obtain ⟨s4, e4, g4⟩ := c_put p4 g3 (by omega)
    have n4 := wd_n (([] : List Int32) ++ wd p1 ++ wd p2 ++ wd p3) p4
    obtain ⟨s5, e5, g5⟩ := c_put p5 g4 (by omega)
    rw [e1, u_bvS, e2, u_bvS, e3, u_bvS, e4, u_bvS, e5, u_bvS]
    exact ⟨_, _, rfl, Or.inr ⟨by omega, g5⟩⟩
theorem m_feed {n : Nat} {s : u_H} (p1 p2 p3 p4 p5 : Int32) (h1 : s.1 65 1 = zi n) (hn : n ≤ 1600) : ∃ v s2, u_c 202 [.inr (.inr 67), .inl p1, .inl p2, .inl p3, .inl p4, .inl p5] s = some (some (.inl v), s2) ∧ ((1600 < n + 20 ∧ s2 = s) ∨ (n + 20 ≤ 1600 ∧ mB n (wd5 p1 p2 p3 p4 p5) s.1 s2.1)) := by
  rw [b_202, h1, show Int32.ofInt 20 = zi 20 from rfl, zi_add, show u_k 1600 = zi 1600 from u_kz 1600]
  by_cases q : 1600 < n + 20
  · rw [if_pos ((zi_lt (by omega) (by omega)).mpr q)]
    exact ⟨_, _, rfl, Or.inl ⟨q, rfl⟩⟩
  · rw [if_neg (fun e => q ((zi_lt (by omega) (by omega)).mp e))]
    have h0 : mB n [] s.1 s.1 := ⟨h1, fun _ _ => rfl, fun i x hx => by cases hx⟩
    obtain ⟨s1, e1, g1⟩ := m_put p1 h0 (show n + 0 + 4 ≤ 1600 by omega)
    have n1 : (([] : List Int32) ++ wd p1).length = 4 := wd_n _ _
    obtain ⟨s2, e2, g2⟩ := m_put p2 g1 (by omega)
    have n2 := wd_n (([] : List Int32) ++ wd p1) p2
    obtain ⟨s3, e3, g3⟩ := m_put p3 g2 (by omega)
    have n3 := wd_n (([] : List Int32) ++ wd p1 ++ wd p2) p3
    obtain ⟨s4, e4, g4⟩ := m_put p4 g3 (by omega)
    have n4 := wd_n (([] : List Int32) ++ wd p1 ++ wd p2 ++ wd p3) p4
    obtain ⟨s5, e5, g5⟩ := m_put p5 g4 (by omega)
    rw [e1, u_bvS, e2, u_bvS, e3, u_bvS, e4, u_bvS, e5, u_bvS]
    exact ⟨_, _, rfl, Or.inr ⟨by omega, g5⟩⟩
theorem wd5_in {p1 p2 p3 p4 p5 x : Int32} (h : x ∈ wd5 p1 p2 p3 p4 p5) : 0 ≤ x.toInt ∧ x.toInt ≤ 255 := by
  have hw : ∀ p, x ∈ wd p → 0 ≤ x.toInt ∧ x.toInt ≤ 255 := by
    intro p h
    unfold wd at h
    simp only [List.mem_cons, List.not_mem_nil, or_false] at h
    rcases h with rfl | rfl | rfl | rfl <;> exact fw_rg _ _
  unfold wd5 at h
  simp only [List.mem_append, List.not_mem_nil, false_or] at h
  rcases h with (((h | h) | h) | h) | h <;> exact hw _ h
/-- both fed alike -/
theorem jX_feed {g g2 : Nat → Nat → Int32} {n : Nat} {p1 p2 p3 p4 p5 : Int32} (h : jXt g n) (hn : n + 20 ≤ 1600) (hc : cB n (wd5 p1 p2 p3 p4 p5) g g2) (hm : mB n (wd5 p1 p2 p3 p4 p5) g g2) : jXt g2 (n + 20) := by
  obtain ⟨h1, h2, h3, h4⟩ := h
  obtain ⟨c1, c2, c3⟩ := hc
  obtain ⟨m1, m2, m3⟩ := hm
  have hl : (wd5 p1 p2 p3 p4 p5).length = 20 := rfl
  rw [hl] at c1 m1
  refine ⟨hn, c1, m1, fun k hk => ?_⟩
  rcases Nat.lt_or_ge k n with q | q
  · rw [c2 k q, m2 k q]
    exact h4 k q
  · obtain ⟨i, rfl⟩ : ∃ i, k = n + i := ⟨k - n, by omega⟩
    have hi : i < (wd5 p1 p2 p3 p4 p5).length := by omega
    have e := List.getElem?_eq_getElem hi
    rw [c3 i _ e, m3 i _ e]
    exact ⟨rfl, wd5_in (List.getElem_mem hi)⟩
end FEED
