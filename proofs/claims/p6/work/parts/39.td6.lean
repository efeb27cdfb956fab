/-! nots, relations; the whole formula -/
section FO
variable {ch : Nat → Int32} {n W : Nat}
theorem f_ti4 {k : Nat} : f_ti k = 4 ↔ k = 60 ∨ k = 62 ∨ k = 61 := by
  constructor
  · intro h
    unfold f_ti at h
    repeat' split at h
    all_goals omega
  · rintro (rfl | rfl | rfl) <;> rfl
/-- a sum, and one more behind a relation -/
theorem clRel (hW : W = 5 ∨ W = 17) (hT : tx_T ch n) {d : Nat} {S : f_X} (hd : d ≤ 7) (hS : clX ch n W 124 S d) : ∀ (τ : f_T) (c : List Int) (w : Nat) (s : u_H), cT ch n W s → cN ch n τ s → τ.2.1 ≠ 276 → τ.2.1 ≠ 272 → cD W c w s → c.length ≤ 9 * w → w ≤ 30 → ∃ r s2, f_rel (tx_A ch n) S τ c w = some r ∧ u_c 120 [.inr (.inr 29), .inl (zi (7 - d))] s = some (none, s2) ∧ cR ch n W d τ c w s s2 r := by
  intro τ c w s ht hcn hk hk272 hD hc hu
  have hn := hT.1
  have hV5 := hcn.1.2.2.2.2.1
  obtain ⟨r, s1, x1, x2, x3⟩ := hS τ c w s ht hcn hk hD hc hu
  have e0 : u_c 120 [.inr (.inr 29), .inl (zi (7 - d))] s = if s1.1 27 4 = Int32.ofInt 60 then u g_t120 79 (u_l1 u_z1 1 (zi (7 - d)), u_z2, [(0, 29)]) [] s1 else if s1.1 27 4 = Int32.ofInt 62 then u g_t120 79 (u_l1 u_z1 1 (zi (7 - d)), u_z2, [(0, 29)]) [] s1 else if s1.1 27 4 = Int32.ofInt 61 then u g_t120 79 (u_l1 u_z1 1 (zi (7 - d)), u_z2, [(0, 29)]) [] s1 else some (none, s1) := by
    rw [b_120 hW, if_neg (by rw [hcn.2.2.1, show u_k 272 = zi 272 from u_kz 272, zk_iff (by omega) (by omega)]; exact hk272), x2, u_bvS]
  rcases r with ⟨fc, fq⟩ | ⟨τ2, c2, w2⟩
  · obtain ⟨y1, y2, y3⟩ := x3
    refine ⟨.inl (fc, fq), s1, ?_, ?_, y1, y2, y3⟩
    · unfold f_rel
      rw [x1]
      rfl
    · rw [e0, if_neg (show ¬ s1.1 27 4 = Int32.ofInt 60 from cX_k (a := 60) y2 (by omega)), if_neg (show ¬ s1.1 27 4 = Int32.ofInt 62 from cX_k (a := 62) y2 (by omega)), if_neg (show ¬ s1.1 27 4 = Int32.ofInt 61 from cX_k (a := 61) y2 (by omega))]
  · have x3' := x3
    obtain ⟨y1, y2, y3, y4, y5, y6, y7, y8⟩ := x3'
    have ht1 := cT_f hW ht y1
    have k4 := y2.2.2.1
    have hV2 := y2.1.2.2.2.2.1
    have hun : f_rel (tx_A ch n) S τ c w = if f_ti (f_k τ2) = 4 then f_bd (f_ad (tx_A ch n) τ2 c2 w2) fun τ1 c u => f_bd (S τ1 c u) fun τ3 c u => some (.inr (τ3, c ++ [(10000 + f_k τ2 : Int)], u)) else some (.inr (τ2, c2, w2)) := by
      unfold f_rel
      rw [x1]
      rfl
    have hkk : ∀ a : Nat, a < 300 → (s1.1 27 4 = Int32.ofInt (a : Int) ↔ τ2.2.1 = a) := by
      intro a ha
      rw [k4]
      exact zk_iff (by omega) (by omega)
    by_cases h4 : f_ti τ2.2.1 = 4
    · have hrel := f_ti4.mp h4
      have hl9 := bd_9 (e := 2 + d) (by omega) (show w ≤ w2 by omega) hc y7
      have e79 : u_c 120 [.inr (.inr 29), .inl (zi (7 - d))] s = u g_t120 79 (u_l1 u_z1 1 (zi (7 - d)), u_z2, [(0, 29)]) [] s1 := by
        rw [e0]
        rcases hrel with q | q | q
        · rw [if_pos (show s1.1 27 4 = Int32.ofInt 60 from (hkk 60 (by omega)).mpr q)]
        · rw [if_neg (show ¬ s1.1 27 4 = Int32.ofInt 60 from fun z => by have := (hkk 60 (by omega)).mp z; omega), if_pos (show s1.1 27 4 = Int32.ofInt 62 from (hkk 62 (by omega)).mpr q)]
        · rw [if_neg (show ¬ s1.1 27 4 = Int32.ofInt 60 from fun z => by have := (hkk 60 (by omega)).mp z; omega), if_neg (show ¬ s1.1 27 4 = Int32.ofInt 62 from fun z => by have := (hkk 62 (by omega)).mp z; omega), if_pos (show s1.1 27 4 = Int32.ofInt 61 from (hkk 61 (by omega)).mpr q)]
      have e80 := e79.trans (b_120_79 hW (u_l1 u_z1 1 (zi (7 - d))) u_z2 s1)
      rw [u_l1E, k4, zk10] at e80
      obtain ⟨s2, a1, a2, a3⟩ := c_ad hW hT ht1 y2 y3 (by omega) y4 (by omega)
      rcases a3 with ⟨b1, b2, b3⟩ | ⟨b1, b2, b3, b4, b5, b6⟩
      · obtain ⟨s3, v1, v2, v3⟩ := clF124 hW _ _ s2 (zi (7 - d)) b2
        obtain ⟨s4, z1, z2, z3⟩ := cX_add hW v2 (zi (10000 + τ2.2.1))
        refine ⟨.inl (1, (tx_A ch n τ2).1), s4, ?_, ?_, ((y1.tr (fr_CC a2)).tr v3).tr z3, z2, b3⟩
        · rw [hun, if_pos (show f_ti (f_k τ2) = 4 from h4), b1]
          rfl
        · rw [e80, a1, u_bvS, v1, u_bvS, if_pos v2.2.2.2.2.2.1, z1, u_bvS]
      · obtain ⟨r, s3, v1, v2, v3⟩ := hS (tx_A ch n τ2) c2 w2 s2 b2 b3 b4 b5 (by omega) y6
        rcases r with ⟨fc, fq⟩ | ⟨τ3, c3, w3⟩
        · obtain ⟨q1, q2, q3⟩ := v3
          obtain ⟨s4, z1, z2, z3⟩ := cX_add hW q2 (zi (10000 + τ2.2.1))
          refine ⟨.inl (fc, fq), s4, ?_, ?_, ((y1.tr (fr_CC a2)).tr q1).tr z3, z2, q3⟩
          · rw [hun, if_pos (show f_ti (f_k τ2) = 4 from h4), b1]
            show f_bd (S (tx_A ch n τ2) c2 w2) _ = _
            rw [v1]
            rfl
          · rw [e80, a1, u_bvS, v2, u_bvS, if_pos q2.2.2.2.2.2.1, z1, u_bvS]
        · obtain ⟨q1, q2, q3, q4, q5, q6, q7, q8⟩ := v3
          have hb := bd_tr (e := 2 + d) (Nat.le_of_lt y5) (Nat.le_of_lt q5) y7 q7
          have hb9 := bd_9 (c := c3.length + 1) (e := 2 + d) (by omega) (show w ≤ w3 by omega) hc hb
          obtain ⟨s4, z1, z2, z3⟩ := c_add (x := (10000 + (τ2.2.1 : Int))) (y := zi (10000 + τ2.2.1)) hW q4 (by omega) (by
            show Int32.ofInt ((10000 + τ2.2.1 : Nat) : Int) = _
            rw [Int.natCast_add]
            rfl) (by
            rw [k6n, Int32.lt_iff_toInt_lt, zi_int (by omega)]
            have : (Int32.ofInt (-6)).toInt = -6 := by decide
            omega)
          have ht3 := cT_f hW b2 q1
          refine ⟨.inr (τ3, c3 ++ [(10000 + (τ2.2.1 : Int))], w3), s4, ?_, ?_, ((y1.tr (fr_CC a2)).tr q1).tr (fr_CF z2), cN_f hW q2 z2, q3, z3, by omega, q6, ?_, by omega⟩
          · rw [hun, if_pos (show f_ti (f_k τ2) = 4 from h4), b1]
            show f_bd (S (tx_A ch n τ2) c2 w2) _ = _
            rw [v1]
            rfl
          · rw [e80, a1, u_bvS, v2, u_bvS, if_pos ht3.2, z1, u_bvS]
          · rw [List.length_append]
            exact hb
    · refine ⟨.inr (τ2, c2, w2), s1, ?_, ?_, x3⟩
      · rw [hun, if_neg (show ¬ f_ti (f_k τ2) = 4 from h4)]
      · have hno : ∀ a : Nat, a < 300 → f_ti a = 4 → ¬ s1.1 27 4 = Int32.ofInt (a : Int) := by
          intro a ha h q
          have := (hkk a ha).mp q
          exact h4 (by rw [this]; exact h)
        rw [e0, if_neg (show ¬ s1.1 27 4 = Int32.ofInt 60 from hno 60 (by omega) rfl), if_neg (show ¬ s1.1 27 4 = Int32.ofInt 62 from hno 62 (by omega) rfl), if_neg (show ¬ s1.1 27 4 = Int32.ofInt 61 from hno 61 (by omega) rfl)]
theorem clX120 (hW : W = 5 ∨ W = 17) (hT : tx_T ch n) : ∀ d, d ≤ 7 → clX ch n W 120 (f_one (tx_A ch n) 1601 d) d := by
  have hn := hT.1
  intro d
  induction d with
  | zero =>
    intro hd τ c w s ht hcn hk hD hc hu
    have hsum : clX ch n W 124 (f_sum (tx_A ch n) (fun _ _ _ => none) 0 1601) 0 := clX124 hW hT hd (clX125 hW hT hd (clX126 hW hT hd (Or.inl rfl)))
    have hV5 := hcn.1.2.2.2.2.1
    have hq := hcn.1.1
    by_cases h272 : τ.2.1 = 272
    · obtain ⟨s2, r1, r2, r3⟩ := c_ref hW ht hcn hk hD (by omega) (x := 2) (by omega) (by omega)
      have r1' : u_c 127 [.inr (.inr 29), .inl (Int32.ofInt 2)] s = some (none, s2) := r1
      refine ⟨.inl (2, τ.1), s2, ?_, ?_, r2, r3, by show τ.1 ≤ 1600; omega⟩
      · unfold f_one
        rw [if_pos (show f_k τ = 272 from h272)]
        rfl
      · rw [b_120 hW, if_pos (by rw [hcn.2.2.1, h272]; exact (u_kz 272).symm), if_neg (by decide), r1', u_bvS]
    · obtain ⟨r, s2, z1, z2, z3⟩ := clRel hW hT hd hsum τ c w s ht hcn hk h272 hD hc hu
      refine ⟨r, s2, ?_, z2, z3⟩
      unfold f_one
      rw [if_neg (show ¬ f_k τ = 272 from h272)]
      exact z1
  | succ d ih =>
    intro hd τ c w s ht hcn hk hD hc hu
    have ihd := ih (by omega)
    have hform : clX ch n W 114 (f_bin (tx_A ch n) 1 (f_bin (tx_A ch n) 2 (f_one (tx_A ch n) 1601 d) 1601) 1601) d := clX114 hW hT (by omega) (clX113 hW hT (by omega) ihd)
    have hsum : clX ch n W 124 (f_sum (tx_A ch n) (f_bin (tx_A ch n) 1 (f_bin (tx_A ch n) 2 (f_one (tx_A ch n) 1601 d) 1601) 1601) (d + 1) 1601) (d + 1) := clX124 hW hT hd (clX125 hW hT hd (clX126 hW hT hd (Or.inr hform)))
    have hV5 := hcn.1.2.2.2.2.1
    by_cases h272 : τ.2.1 = 272
    · have hun : f_one (tx_A ch n) 1601 (d + 1) τ c w = f_bd (f_ad (tx_A ch n) τ c w) fun τ c u => f_bd (f_one (tx_A ch n) 1601 d τ c u) fun τ c u => some (.inr (τ, c ++ [10272], u)) := by
        show (if f_k τ = 272 then _ else _) = _
        rw [if_pos (show f_k τ = 272 from h272)]
      obtain ⟨s2, a1, a2, a3⟩ := c_ad hW hT ht hcn hk (by omega) hD (by omega)
      have e1 : u_c 120 [.inr (.inr 29), .inl (zi (7 - (d + 1)))] s = u_bv (u_c 120 [.inr (.inr 29), .inl (zi (7 - d))] s2) fun s2 => if s2.2.2.2.2.1 = W then u_bv (u_c 84 [.inr (.inr (W + 8)), .inl (zi 10272)] s2) fun s3 => some (none, s3) else u g_t120 37 ((u_l1 u_z1 1 (zi (7 - (d + 1)))), u_z2, [(0, 29)]) [.inr (.inr s2.2.2.2.2.1)] s2 := by
        rw [b_120 hW, if_pos (by rw [hcn.2.2.1, h272]; exact (u_kz 272).symm), if_pos (by rw [show Int32.ofInt 7 = zi 7 from rfl, zi_lt (by omega) (by omega)]; omega), a1, u_bvS, zi_one, show 7 - (d + 1) + 1 = 7 - d by omega, show u_k 10272 = zi 10272 from u_kz 10272]
      rcases a3 with ⟨b1, b2, b3⟩ | ⟨b1, b2, b3, b4, b5, b6⟩
      · obtain ⟨s3, v1, v2, v3⟩ := clF120 hW _ _ s2 (zi (7 - d)) b2
        obtain ⟨s4, z1, z2, z3⟩ := cX_add hW v2 (zi 10272)
        refine ⟨.inl (1, (tx_A ch n τ).1), s4, ?_, ?_, ((fr_CC a2).tr v3).tr z3, z2, b3⟩
        · rw [hun, b1]
          rfl
        · rw [e1, v1, u_bvS, if_pos v2.2.2.2.2.2.1, z1, u_bvS]
      · obtain ⟨r, s3, v1, v2, v3⟩ := ihd (tx_A ch n τ) c w s2 b2 b3 b4 b5 hc hu
        rcases r with ⟨fc, fq⟩ | ⟨τ3, c3, w3⟩
        · obtain ⟨q1, q2, q3⟩ := v3
          obtain ⟨s4, z1, z2, z3⟩ := cX_add hW q2 (zi 10272)
          refine ⟨.inl (fc, fq), s4, ?_, ?_, ((fr_CC a2).tr q1).tr z3, z2, q3⟩
          · rw [hun, b1]
            show f_bd (f_one (tx_A ch n) 1601 d (tx_A ch n τ) c w) _ = _
            rw [v1]
            rfl
          · rw [e1, v2, u_bvS, if_pos q2.2.2.2.2.2.1, z1, u_bvS]
        · obtain ⟨q1, q2, q3, q4, q5, q6, q7, q8⟩ := v3
          have hmul : (w3 - w) * (2 + d) + 1 ≤ (w3 - w) * (2 + (d + 1)) := by
            have : (w3 - w) * (2 + (d + 1)) = (w3 - w) * (2 + d) + (w3 - w) := by
              rw [show 2 + (d + 1) = (2 + d) + 1 by omega, Nat.mul_succ]
            omega
          have hb9 := bd_9 (e := 2 + (d + 1)) (c := c3.length + 1) (by omega) (show w ≤ w3 by omega) hc (by omega)
          obtain ⟨s4, z1, z2, z3⟩ := c_add (x := (10272 : Int)) (y := zi 10272) hW q4 (by omega) rfl (by
            rw [k6n, Int32.lt_iff_toInt_lt, zi_int (by omega)]
            have : (Int32.ofInt (-6)).toInt = -6 := by decide
            omega)
          have ht3 := cT_f hW b2 q1
          refine ⟨.inr (τ3, c3 ++ [10272], w3), s4, ?_, ?_, ((fr_CC a2).tr q1).tr (fr_CF z2), cN_f hW q2 z2, q3, z3, q5, q6, ?_, by omega⟩
          · rw [hun, b1]
            show f_bd (f_one (tx_A ch n) 1601 d (tx_A ch n τ) c w) _ = _
            rw [v1]
            rfl
          · rw [e1, v2, u_bvS, if_pos ht3.2, z1, u_bvS]
          · rw [List.length_append]
            show c3.length + 1 + 1 ≤ _
            omega
    · obtain ⟨r, s2, z1, z2, z3⟩ := clRel hW hT hd hsum τ c w s ht hcn hk h272 hD hc hu
      refine ⟨r, s2, ?_, z2, z3⟩
      show (if f_k τ = 272 then _ else _) = _
      rw [if_neg (show ¬ f_k τ = 272 from h272)]
      exact z1
/-- the class's formula is the pure descent -/
theorem c_formula (hW : W = 5 ∨ W = 17) (hT : tx_T ch n) : clX ch n W 114 (f_form (tx_A ch n) 1601 7) 7 := clX114 hW hT (by omega) (clX113 hW hT (by omega) (clX120 hW hT 7 (by omega)))
end FO
