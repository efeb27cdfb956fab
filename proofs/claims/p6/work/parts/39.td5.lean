/-! the class's formula: units, nots and relations, the whole -/
section FU
variable {ch : Nat → Int32} {n W : Nat}
theorem c_isv {k : Nat} {s : u_H} (hk : k ≤ 276) : u_c 111 [.inl (zi k)] s = some (some (.inl (zb (decide (262 ≤ k ∧ k ≤ 267)))), s) := by
  rw [b_111, show u_k 262 = zi 262 from u_kz 262, show u_k 267 = zi 267 from u_kz 267]
  by_cases h1 : k < 262
  · rw [if_pos (by rw [zi_lt (by omega) (by omega)]; exact h1), decide_eq_false (by omega)]
    rfl
  · rw [if_neg (by rw [zi_lt (by omega) (by omega)]; exact h1)]
    by_cases h2 : 267 < k
    · rw [if_pos (by rw [zi_lt (by omega) (by omega)]; exact h2), decide_eq_false (by omega)]
      rfl
    · rw [if_neg (by rw [zi_lt (by omega) (by omega)]; exact h2), decide_eq_true (by omega)]
      rfl
theorem c_valw {k : Nat} (h1 : 262 ≤ k) (h2 : k ≤ 267) : u_k (-1) - (zi k - u_k 262) = Int32.ofInt (-1 - ((k : Int) - 262)) ∧ ¬ u_k (-1) - (zi k - u_k 262) < u_k (-6) := by
  rw [t_m1, show u_k 262 = zi 262 from u_kz 262, k6n]
  have h : k = 262 ∨ k = 263 ∨ k = 264 ∨ k = 265 ∨ k = 266 ∨ k = 267 := by omega
  rcases h with rfl | rfl | rfl | rfl | rfl | rfl <;> exact ⟨by decide, by decide⟩
theorem cD_u {c : List Int} {u : Nat} {s : u_H} (hD : cD W c u s) : cD W c (u + 1) (y_u s.1 (W + 6) 4 (zi (u + 1)), s.2) := by
  refine ⟨?_, y_uE _ _ _ _, fun k x h => ?_⟩
  · exact (show y_u s.1 (W + 6) 4 (zi (u + 1)) (W + 6) 3 = s.1 (W + 6) 3 from y_uN (by omega)).trans hD.1
  · exact (show y_u s.1 (W + 6) 4 (zi (u + 1)) (W + 7) k = s.1 (W + 7) k from y_uN (by omega)).trans (hD.2.2 k x h)
theorem clX126 (hW : W = 5 ∨ W = 17) (hT : tx_T ch n) {d : Nat} {F : f_X} (hd : d ≤ 7) (hF : d = 0 ∨ clX ch n W 114 F (d - 1)) : clX ch n W 126 (f_unit (tx_A ch n) F d) d := by
  intro τ c w s ht hcn hk hD hc hu
  have hn := hT.1
  have hV := hcn.1
  have hV5 := hV.2.2.2.2.1
  have k4 := hcn.2.2.1
  have hq := hV.1
  obtain ⟨sR, r1, r2, r3⟩ := c_ref hW ht hcn hk hD (by omega) (x := 2) (by omega) (by omega)
  have r1' : u_c 127 [.inr (.inr 29), .inl (Int32.ofInt 2)] s = some (none, sR) := r1
  have no : f_no τ = some (.inl (2, τ.1)) := rfl
  have hw7 : zi (7 - d) < Int32.ofInt 7 ↔ 0 < d := by
    rw [show Int32.ofInt 7 = zi 7 from rfl, zi_lt (by omega) (by omega)]
    omega
  have hu30 : zi w < Int32.ofInt 30 ↔ w < 30 := by rw [show Int32.ofInt 30 = zi 30 from rfl, zi_lt (by omega) (by omega)]
  -- a unit more
  have frU : u_fr (fun o _ => o = W + 6 ∨ o = W + 7) s (y_u s.1 (W + 6) 4 (zi (w + 1)), s.2) := u_fr.wi (f := s.1) (r := s.2) u_fr.rf (Or.inl rfl)
  have htU := cT_f hW ht (fr_CF frU)
  have hcU := cN_f hW hcn frU
  have hDU := cD_u hD
  by_cases h40 : τ.2.1 = 40
  · have e14 : u_c 126 [.inr (.inr 29), .inl (zi (7 - d))] s = u g_t126 44 (u_l1 (u_l1 u_z1 1 (zi (7 - d))) 2 (Int32.ofInt 1), u_z2, [(0, 29)]) [.inl (Int32.ofInt 1)] s := by
      rw [b_126, if_pos (by rw [k4, h40]; rfl), b_126_14, if_neg (by decide)]
    by_cases hbad : 30 ≤ w ∨ d = 0
    · refine ⟨.inl (2, τ.1), sR, ?_, ?_, r2, r3, by show τ.1 ≤ 1600; omega⟩
      · unfold f_unit
        rw [if_pos (show f_k τ = 40 from h40), if_pos hbad, no]
      · rw [e14, b_126_44 hW, if_neg (by decide), if_pos ht.2, hD.2.1]
        by_cases h30 : w < 30
        · rw [if_pos (hu30.mpr h30), u_l1E, if_neg (by decide), u_l1N (by omega), u_l1E, if_neg (fun q => by have := hw7.mp q; omega), r1', u_bvS]
        · rw [if_neg (fun q => h30 (hu30.mp q)), r1', u_bvS]
    · have hu30' : w < 30 := by omega
      have hd0 : 0 < d := by omega
      obtain ⟨s2, a1, a2, a3⟩ := c_ad hW hT htU hcU hk (by omega) hDU (by omega)
      have hun : f_unit (tx_A ch n) F d τ c w = f_bd (f_ad (tx_A ch n) τ c (w + 1)) fun τ c w => f_bd (F τ c w) fun τ c w => if f_k τ = 41 then f_ad (tx_A ch n) τ c w else f_no τ := by
        unfold f_unit
        rw [if_pos (show f_k τ = 40 from h40), if_neg hbad]
      have e80 : u_c 126 [.inr (.inr 29), .inl (zi (7 - d))] s = u_bv (u_c 114 [.inr (.inr 29), .inl (zi (7 - (d - 1)))] s2) fun s6 => if s6.1 27 4 = Int32.ofInt 41 then u_bv (u_c 105 [.inr (.inr 29)] s6) fun s7 => some (none, s7) else u_bv (u_c 127 [.inr (.inr 29), .inl (Int32.ofInt 2)] s6) fun s8 => some (none, s8) := by
        rw [e14, b_126_44 hW, if_neg (by decide), if_pos ht.2, hD.2.1, if_pos (hu30.mpr hu30'), u_l1E, if_neg (by decide), u_l1N (by omega), u_l1E, if_pos (hw7.mpr hd0), b_126_80 hW, if_pos ht.2, u_l1N (by omega), u_l1E, if_neg (by decide), hD.2.1, zi_one, a1, u_bvS, u_l1N (by omega), u_l1N (by omega), u_l1E, zi_one, show 7 - d + 1 = 7 - (d - 1) by omega]
      rcases a3 with ⟨b1, b2, b3⟩ | ⟨b1, b2, b3, b4, b5, b6⟩
      · obtain ⟨s3, x1, x2, x3⟩ := clF114 hW _ _ s2 (zi (7 - (d - 1))) b2
        obtain ⟨s4, y1, y2, y3⟩ := cX_refuse hW x2 (Int32.ofInt 2)
        refine ⟨.inl (1, (tx_A ch n τ).1), s4, ?_, ?_, (((fr_CF frU).tr (fr_CC a2)).tr x3).tr y3, y2, b3⟩
        · rw [hun, b1]
          rfl
        · rw [e80, x1, u_bvS, if_neg (show ¬ s3.1 27 4 = Int32.ofInt 41 from cX_k (a := 41) x2 (by omega)), y1, u_bvS]
      · have hF1 := hF.resolve_left (by omega)
        obtain ⟨r, s3, x1, x2, x3⟩ := hF1 (tx_A ch n τ) c (w + 1) s2 b2 b3 b4 b5 (by omega) (by omega)
        rcases r with ⟨fc, fq⟩ | ⟨τ3, c3, u3⟩
        · obtain ⟨y1, y2, y3⟩ := x3
          obtain ⟨s4, z1, z2, z3⟩ := cX_refuse hW y2 (Int32.ofInt 2)
          refine ⟨.inl (fc, fq), s4, ?_, ?_, (((fr_CF frU).tr (fr_CC a2)).tr y1).tr z3, z2, y3⟩
          · rw [hun, b1]
            show f_bd (F (tx_A ch n τ) c (w + 1)) _ = _
            rw [x1]
            rfl
          · rw [e80, x2, u_bvS, if_neg (show ¬ s3.1 27 4 = Int32.ofInt 41 from cX_k (a := 41) y2 (by omega)), z1, u_bvS]
        · obtain ⟨y1, y2, y3, y4, y5, y6, y7, y8⟩ := x3
          have ht3 := cT_f hW b2 y1
          have hlen : c3.length + 1 ≤ c.length + (u3 - w) * (2 + d) := by
            have h1 : (u3 - (w + 1)) * (2 + (d - 1)) ≤ (u3 - w) * (2 + d) := Nat.mul_le_mul (by omega) (by omega)
            omega
          have hl9 := bd_9 (e := 2 + d) (by omega) (show w ≤ u3 by omega) hc hlen
          have hun2 : f_unit (tx_A ch n) F d τ c w = if f_k τ3 = 41 then f_ad (tx_A ch n) τ3 c3 u3 else f_no τ3 := by
            rw [hun, b1]
            show f_bd (F (tx_A ch n τ) c (w + 1)) _ = _
            rw [x1]
            rfl
          by_cases h41 : τ3.2.1 = 41
          · obtain ⟨s4, z1, z2, z3⟩ := c_ad hW hT ht3 y2 y3 (by omega) y4 (by omega)
            have frA := (((fr_CF frU).tr (fr_CC a2)).tr y1).tr (fr_CC (W := W) z2)
            have e9 : u_c 126 [.inr (.inr 29), .inl (zi (7 - d))] s = some (none, s4) := by
              rw [e80, x2, u_bvS, if_pos (by rw [y2.2.2.1, h41]; rfl), z1, u_bvS]
            rcases z3 with ⟨v1, v2, v3⟩ | ⟨v1, v2, v3, v4, v5, v6⟩
            · exact ⟨.inl (1, (tx_A ch n τ3).1), s4, by rw [hun2, if_pos (show f_k τ3 = 41 from h41), v1], e9, frA, v2, v3⟩
            · exact ⟨.inr (tx_A ch n τ3, c3, u3), s4, by rw [hun2, if_pos (show f_k τ3 = 41 from h41), v1], e9, frA, v3, v4, v5, by omega, y6, hlen, by omega⟩
          · obtain ⟨s4, z1, z2, z3⟩ := c_ref hW ht3 y2 y3 y4 (by omega) (x := 2) (by omega) (by omega)
            have z1' : u_c 127 [.inr (.inr 29), .inl (Int32.ofInt 2)] s3 = some (none, s4) := z1
            have hq3 := y2.1.1
            refine ⟨.inl (2, τ3.1), s4, ?_, ?_, (((fr_CF frU).tr (fr_CC a2)).tr y1).tr z2, z3, by show τ3.1 ≤ 1600; omega⟩
            · rw [hun2, if_neg (show ¬ f_k τ3 = 41 from h41)]
              rfl
            · have hV3 := y2.1.2.2.2.2.1
              rw [e80, x2, u_bvS, if_neg (show ¬ s3.1 27 4 = Int32.ofInt 41 by rw [y2.2.2.1, show Int32.ofInt 41 = zi 41 from rfl, zk_iff (by omega) (by omega)]; exact h41), z1', u_bvS]
  · have e126 : u_c 126 [.inr (.inr 29), .inl (zi (7 - d))] s = u g_t126 44 (u_l1 (u_l1 u_z1 1 (zi (7 - d))) 2 (Int32.ofInt 0), u_z2, [(0, 29)]) [.inl (zb (decide (f_kn τ.2.1)))] s := by
      rw [b_126, if_neg (by rw [k4, show Int32.ofInt 40 = zi 40 from rfl, zk_iff (by omega) (by omega)]; exact h40), b_126_14, if_pos z00]
      by_cases h274 : τ.2.1 = 274
      · rw [if_pos (by rw [k4, h274]; exact (u_kz 274).symm), decide_eq_true (show f_kn τ.2.1 from Or.inl h274)]
        rfl
      · rw [if_neg (by rw [k4, show u_k 274 = zi 274 from u_kz 274, zk_iff (by omega) (by omega)]; exact h274), k4, c_isv hV5, u_biS]
        by_cases hv : 262 ≤ τ.2.1 ∧ τ.2.1 ≤ 267
        · rw [decide_eq_true hv, if_neg zb_yes, decide_eq_true (show f_kn τ.2.1 from Or.inr hv)]
          rfl
        · rw [decide_eq_false hv, if_pos zb_no, decide_eq_false (show ¬ f_kn τ.2.1 from fun q => q.elim h274 hv)]
          rfl
    by_cases hok : f_kn τ.2.1 ∧ w < 30
    · obtain ⟨hkn, hu30'⟩ := hok
      have hun : f_unit (tx_A ch n) F d τ c w = f_ad (tx_A ch n) τ (c ++ [f_val τ]) (w + 1) := by
        unfold f_unit
        rw [if_neg (show ¬ f_k τ = 40 from h40), if_pos ⟨hkn, hu30'⟩]
      have e44 : u_c 126 [.inr (.inr 29), .inl (zi (7 - d))] s = u g_t126 80 (u_l1 (u_l1 (u_l1 u_z1 1 (zi (7 - d))) 2 (Int32.ofInt 0)) 3 (zb true), u_z2, [(0, 29)]) [] s := by
        rw [e126, decide_eq_true hkn, b_126_44 hW, if_neg zb_yes, if_pos ht.2, hD.2.1, if_pos (hu30.mpr hu30'), u_l1E, if_pos z00]
      -- the value is added
      have add : ∃ y : Int32, y = Int32.ofInt (f_val τ) ∧ ¬ y < u_k (-6) ∧ u_c 126 [.inr (.inr 29), .inl (zi (7 - d))] s = u_bv (u_c 84 [.inr (.inr (W + 8)), .inl y] (y_u s.1 (W + 6) 4 (zi (w + 1)), s.2)) fun s1 => u_bv (u_c 105 [.inr (.inr 29)] s1) fun s2 => some (none, s2) := by
        by_cases h274 : τ.2.1 = 274
        · refine ⟨zi τ.2.2.1, ?_, ?_, ?_⟩
          · unfold f_val
            rw [if_pos (show f_k τ = 274 from h274)]
            rfl
          · have hnum := hV.2.2.2.1
            rw [k6n, Int32.lt_iff_toInt_lt, zi_int (by omega)]
            have : (Int32.ofInt (-6)).toInt = -6 := by decide
            omega
          · rw [e44, b_126_80 hW, if_pos ht.2, u_l1N (by omega), u_l1E, if_pos z00, if_pos ht.2, if_pos (by rw [k4, h274]; exact (u_kz 274).symm), hD.2.1, zi_one, hcn.2.2.2.2.1 h274]
        · have hv := hkn.resolve_left h274
          obtain ⟨v1, v2⟩ := c_valw hv.1 hv.2
          refine ⟨u_k (-1) - (zi τ.2.1 - u_k 262), ?_, v2, ?_⟩
          · rw [v1]
            unfold f_val
            rw [if_neg (show ¬ f_k τ = 274 from h274)]
            rfl
          · rw [e44, b_126_80 hW, if_pos ht.2, u_l1N (by omega), u_l1E, if_pos z00, if_pos ht.2, if_neg (by rw [k4, show u_k 274 = zi 274 from u_kz 274, zk_iff (by omega) (by omega)]; exact h274), hD.2.1, zi_one, k4]
      obtain ⟨y, hy1, hy2, hy3⟩ := add
      obtain ⟨s2, a1, a2, a3⟩ := c_add hW hDU (by omega) hy1 hy2
      have ht2 := cT_f hW htU (fr_CF a2)
      obtain ⟨s3, z1, z2, z3⟩ := c_ad hW hT ht2 (cN_f hW hcU a2) hk (by rcases hkn with q | q <;> omega) a3 (by rw [List.length_append]; show c.length + 1 ≤ 270; omega)
      have frA := ((fr_CF frU).tr (fr_CF a2)).tr (fr_CC (W := W) z2)
      have e9 : u_c 126 [.inr (.inr 29), .inl (zi (7 - d))] s = some (none, s3) := by rw [hy3, a1, u_bvS, z1, u_bvS]
      rcases z3 with ⟨v1, v2, v3⟩ | ⟨v1, v2, v3, v4, v5, v6⟩
      · exact ⟨.inl (1, (tx_A ch n τ).1), s3, by rw [hun, v1], e9, frA, v2, v3⟩
      · refine ⟨.inr (tx_A ch n τ, c ++ [f_val τ], w + 1), s3, by rw [hun, v1], e9, frA, v3, v4, v5, by omega, by omega, ?_, v6⟩
        rw [List.length_append, show w + 1 - w = 1 by omega]
        show c.length + 1 + 1 ≤ _
        omega
    · refine ⟨.inl (2, τ.1), sR, ?_, ?_, r2, r3, by show τ.1 ≤ 1600; omega⟩
      · unfold f_unit
        rw [if_neg (show ¬ f_k τ = 40 from h40), if_neg (show ¬ (f_kn (f_k τ) ∧ w < 30) from hok), no]
      · rw [e126, b_126_44 hW]
        by_cases hkn : f_kn τ.2.1
        · rw [decide_eq_true hkn, if_neg zb_yes, if_pos ht.2, hD.2.1, if_neg (fun q => hok ⟨hkn, hu30.mp q⟩), r1', u_bvS]
        · rw [decide_eq_false hkn, if_pos zb_no, r1', u_bvS]
end FU
