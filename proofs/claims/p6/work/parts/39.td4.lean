/-! the class's formula: its parts -/
theorem bd_tr {c0 c c2 u0 u u2 e : Nat} (h0 : u0 ≤ u) (h1 : u ≤ u2) (h : c + 1 ≤ c0 + (u - u0) * e) (h2 : c2 + 1 ≤ c + (u2 - u) * e) : c2 + 1 + 1 ≤ c0 + (u2 - u0) * e := by
  have : (u2 - u0) * e = (u - u0) * e + (u2 - u) * e := by
    rw [← Nat.add_mul]
    congr 1
    omega
  omega
theorem bd_9 {c c0 u0 u e : Nat} (he : e ≤ 9) (h0 : u0 ≤ u) (hc : c0 ≤ 9 * u0) (h : c + 1 ≤ c0 + (u - u0) * e) : c + 1 ≤ 9 * u := by
  have : (u - u0) * e ≤ (u - u0) * 9 := Nat.mul_le_mul_left _ he
  omega
section FP
variable {ch : Nat → Int32} {n W : Nat}
theorem fr_CC {s s2 : u_H} (h : u_fr tx_C s s2) : u_fr (fCf W) s s2 := h.mono (fun o k q => Or.inl q)
theorem fr_CF {s s2 : u_H} (h : u_fr (fun o _ => o = W + 6 ∨ o = W + 7) s s2) : u_fr (fCf W) s s2 := h.mono (fun o k q => Or.inr q)
theorem cT_f (hW : W = 5 ∨ W = 17) {s s2 : u_H} (h : cT ch n W s) (hf : u_fr (fCf W) s s2) : cT ch n W s2 := cT_fr h hf (fCf_n hW).1 (fCf_n hW).2
theorem cN_f {s s2 : u_H} {τ : f_T} (hW : W = 5 ∨ W = 17) (h : cN ch n τ s) (hf : u_fr (fun o _ => o = W + 6 ∨ o = W + 7) s s2) : cN ch n τ s2 := by
  obtain ⟨hV, c1, c2, c3, c4, c5, c6⟩ := h
  have e : ∀ k, s2.1 27 k = s.1 27 k := fun k => hf.i (fun q => by omega)
  have el : ∀ k, s2.2.1 27 k = s.2.1 27 k := fun k => hf.l (fun q => by omega)
  refine ⟨hV, (e 3).trans c1, (e 4).trans c2, fun a => ?_, fun a => (e 5).trans (c4 a), fun a b => (el 6).trans (c5 a b), fun a => ?_⟩
  · obtain ⟨x1, x2, x3⟩ := c3 a
    exact ⟨(e 2).trans x1, (e 8).trans x2, (e 9).trans x3⟩
  · obtain ⟨x1, x2⟩ := c6 a
    exact ⟨(e 8).trans x1, (e 9).trans x2⟩
/-- a part of the formula, read at the depth d -/
def clX (ch : Nat → Int32) (n W k : Nat) (X : f_X) (d : Nat) : Prop := ∀ (τ : f_T) (c : List Int) (u : Nat) (s : u_H), cT ch n W s → cN ch n τ s → τ.2.1 ≠ 276 → cD W c u s → c.length ≤ 9 * u → u ≤ 30 → ∃ r s2, X τ c u = some r ∧ u_c k [.inr (.inr 29), .inl (zi (7 - d))] s = some (none, s2) ∧ cR ch n W d τ c u s s2 r
/-- the next token -/
theorem c_ad (hW : W = 5 ∨ W = 17) (hT : tx_T ch n) {s : u_H} (ht : cT ch n W s) {τ : f_T} (h : cN ch n τ s) (hk : τ.2.1 ≠ 276) (hk2 : τ.2.1 ≠ 275) {c : List Int} {u : Nat} (hD : cD W c u s) (hc : c.length ≤ 270) : ∃ s2, u_c 105 [.inr (.inr 29)] s = some (none, s2) ∧ u_fr tx_C s s2 ∧ ((f_ad (tx_A ch n) τ c u = some (.inl (1, (tx_A ch n τ).1)) ∧ cX W 1 (tx_A ch n τ).1 s2 ∧ (tx_A ch n τ).1 ≤ 1600) ∨ (f_ad (tx_A ch n) τ c u = some (.inr (tx_A ch n τ, c, u)) ∧ cT ch n W s2 ∧ cN ch n (tx_A ch n τ) s2 ∧ (tx_A ch n τ).2.1 ≠ 276 ∧ cD W c u s2 ∧ τ.1 < (tx_A ch n τ).1)) := by
  obtain ⟨s2, e1, e2, e3, e4, e5, e6, e7⟩ := c_next hW hT ht h hk hk2 hD hc
  refine ⟨s2, e1, e2, ?_⟩
  have hV := e4.1.1
  have hn := hT.1
  by_cases hb : (tx_A ch n τ).2.1 = 276
  · refine Or.inl ⟨?_, e7 hb, by omega⟩
    unfold f_ad
    rw [if_pos (show f_k (tx_A ch n τ) = 276 from hb)]
    rfl
  · refine Or.inr ⟨?_, e3, e4, hb, e5, e6⟩
    unfold f_ad
    rw [if_neg (show ¬ f_k (tx_A ch n τ) = 276 from hb)]
theorem f_ti_le (k : Nat) (h : f_ti k ≠ 0) : k < 273 ∧ 30 < k := by
  unfold f_ti at h
  repeat' split at h
  all_goals omega
/-- a row of operands with signs of one tightness between them -/
theorem c_loop (hW : W = 5 ∨ W = 17) (hT : tx_T ch n) {kX m d : Nat} {X : f_X} (hm : m ≠ 0) (hd : d ≤ 7) (hX : clX ch n W kX X d) (hXF : clF W kX) (lp : (Nat → Int32) → (Nat → Int64) → u_H → u_R) (hN : ∀ (li : Nat → Int32) (ll : Nat → Int64) (s : u_H) (k : Nat), k ≤ 276 → f_ti k ≠ m → s.1 27 4 = zi k → lp li ll s = some (none, s)) (hS : ∀ (li : Nat → Int32) (ll : Nat → Int64) (s : u_H) (k i : Nat), i < 1600 → li 2 = zi i → li 1 = zi (7 - d) → f_ti k = m → s.1 27 4 = zi k → ∃ (li2 : Nat → Int32) (J : u_H → u_R), li2 2 = zi (i + 1) ∧ li2 1 = zi (7 - d) ∧ lp li ll s = u_bv (u_c 105 [.inr (.inr 29)] s) fun s1 => u_bv (u_c kX [.inr (.inr 29), .inl (zi (7 - d))] s1) fun s2 => if s2.2.2.2.2.1 = W then u_bv (u_c 84 [.inr (.inr (W + 8)), .inl (zi (10000 + k))] s2) fun s3 => lp li2 ll s3 else J s2) {τ0 : f_T} {c0 : List Int} {u0 : Nat} {s0 : u_H} (hc0 : c0.length ≤ 9 * u0) : ∀ (f : Nat) (τ : f_T) (c : List Int) (u i : Nat) (s : u_H) (li : Nat → Int32) (ll : Nat → Int64), n - τ.1 ≤ f → i ≤ τ.1 → li 2 = zi i → li 1 = zi (7 - d) → cT ch n W s → cR ch n W d τ0 c0 u0 s0 s (.inr (τ, c, u)) → ∃ r s2, f_lp (tx_A ch n) m X (f + 1) τ c u = some r ∧ lp li ll s = some (none, s2) ∧ cR ch n W d τ0 c0 u0 s0 s2 r := by
  have hn := hT.1
  have stop : ∀ (f : Nat) (τ : f_T) (c : List Int) (u : Nat) (s : u_H) (li : Nat → Int32) (ll : Nat → Int64), f_ti τ.2.1 ≠ m → cR ch n W d τ0 c0 u0 s0 s (.inr (τ, c, u)) → ∃ r s2, f_lp (tx_A ch n) m X (f + 1) τ c u = some r ∧ lp li ll s = some (none, s2) ∧ cR ch n W d τ0 c0 u0 s0 s2 r := by
    intro f τ c u s li ll ht hR
    have hV5 := hR.2.1.1.2.2.2.2.1
    refine ⟨.inr (τ, c, u), s, ?_, hN li ll s τ.2.1 hV5 ht hR.2.1.2.2.1, hR⟩
    unfold f_lp
    rw [if_neg (show ¬ f_ti (f_k τ) = m from ht)]
  intro f
  induction f with
  | zero =>
    intro τ c u i s li ll hf hi h2 h1 ht hR
    refine stop 0 τ c u s li ll ?_ hR
    intro e
    have hk := f_ti_le τ.2.1 (by omega)
    have := hR.2.1.1.2.2.2.2.2.2.1 (by omega)
    omega
  | succ f ih =>
    intro τ c u i s li ll hf hi h2 h1 ht hR
    by_cases hti : f_ti τ.2.1 = m
    · obtain ⟨fr0, hcn, hk, hD, hu, hu30, hlen, hlt⟩ := hR
      have hkk := f_ti_le τ.2.1 (by omega)
      have hτn := hcn.1.2.2.2.2.2.2.1 (by omega)
      have hc9 := bd_9 (e := 2 + d) (by omega) (Nat.le_of_lt hu) hc0 hlen
      obtain ⟨li2, J, l2, l1, hlp⟩ := hS li ll s τ.2.1 i (by omega) h2 h1 hti hcn.2.2.1
      obtain ⟨s1, e1, e2, e3⟩ := c_ad hW hT ht hcn hk (by omega) hD (by omega)
      have hun : f_lp (tx_A ch n) m X (f + 1 + 1) τ c u = f_bd (f_ad (tx_A ch n) τ c u) fun τ1 c u => f_bd (X τ1 c u) fun τ2 c u => f_lp (tx_A ch n) m X (f + 1) τ2 (c ++ [(10000 + f_k τ : Int)]) u := by
        show (if f_ti (f_k τ) = m then _ else _) = _
        rw [if_pos (show f_ti (f_k τ) = m from hti)]
      rcases e3 with ⟨e4, e5, e6⟩ | ⟨e4, e5, e6, e7, e8, e9⟩
      · obtain ⟨sX, x1, x2, x3⟩ := hXF _ _ s1 (zi (7 - d)) e5
        obtain ⟨sA, a1, a2, a3⟩ := cX_add hW x2 (zi (10000 + τ.2.1))
        refine ⟨.inl (1, (tx_A ch n τ).1), sA, ?_, ?_, ((fr0.tr (fr_CC e2)).tr x3).tr a3, a2, e6⟩
        · rw [hun, e4]
          rfl
        · rw [hlp, e1, u_bvS, x1, u_bvS, if_pos x2.2.2.2.2.2.1, a1, u_bvS]
          exact hN li2 ll sA 276 (by omega) (by show f_ti 276 ≠ m; intro q; have : f_ti 276 = 0 := rfl; omega) a2.2.2.2.2.1
      · obtain ⟨r, sX, x1, x2, x3⟩ := hX (tx_A ch n τ) c u s1 e5 e6 e7 e8 (by omega) hu30
        rcases r with ⟨fc, fq⟩ | ⟨τ2, c2, u2⟩
        · obtain ⟨y1, y2, y3⟩ := x3
          obtain ⟨sA, a1, a2, a3⟩ := cX_add hW y2 (zi (10000 + τ.2.1))
          refine ⟨.inl (fc, fq), sA, ?_, ?_, ((fr0.tr (fr_CC e2)).tr y1).tr a3, a2, y3⟩
          · rw [hun, e4]
            show f_bd (X (tx_A ch n τ) c u) _ = _
            rw [x1]
            rfl
          · rw [hlp, e1, u_bvS, x2, u_bvS, if_pos y2.2.2.2.2.2.1, a1, u_bvS]
            exact hN li2 ll sA 276 (by omega) (by show f_ti 276 ≠ m; intro q; have : f_ti 276 = 0 := rfl; omega) a2.2.2.2.2.1
        · obtain ⟨y1, y2, y3, y4, y5, y6, y7, y8⟩ := x3
          have hb := bd_tr (e := 2 + d) (Nat.le_of_lt hu) (Nat.le_of_lt y5) hlen y7
          have hb9 := bd_9 (c := c2.length + 1) (e := 2 + d) (by omega) (show u0 ≤ u2 by omega) hc0 hb
          obtain ⟨sA, a1, a2, a3⟩ := c_add (x := (10000 + (τ.2.1 : Int))) (y := zi (10000 + τ.2.1)) hW y4 (by omega) (by
            show Int32.ofInt ((10000 + τ.2.1 : Nat) : Int) = _
            rw [Int.natCast_add]
            rfl) (by
            rw [k6n, Int32.lt_iff_toInt_lt, zi_int (by omega)]
            have : (Int32.ofInt (-6)).toInt = -6 := by decide
            omega)
          have htX := cT_f hW e5 y1
          have hRA : cR ch n W d τ0 c0 u0 s0 sA (.inr (τ2, c2 ++ [(10000 + (τ.2.1 : Int))], u2)) := by
            refine ⟨((fr0.tr (fr_CC e2)).tr y1).tr (fr_CF a2), cN_f hW y2 a2, y3, a3, by omega, y6, ?_, by omega⟩
            rw [List.length_append]
            exact hb
          have hv2 := hcn.1.1
          obtain ⟨r, sE, z1, z2, z3⟩ := ih τ2 (c2 ++ [(10000 + (τ.2.1 : Int))]) u2 (i + 1) sA li2 ll (by omega) (by omega) l2 l1 (cT_f hW htX (fr_CF a2)) hRA
          refine ⟨r, sE, ?_, ?_, z3⟩
          · rw [hun, e4]
            show f_bd (X (tx_A ch n τ) c u) _ = _
            rw [x1]
            exact z1
          · rw [hlp, e1, u_bvS, x2, u_bvS, if_pos htX.2, a1, u_bvS]
            exact z2
    · exact stop (f + 1) τ c u s li ll hti hR
/-- a row, from its first operand on -/
theorem c_bin (hW : W = 5 ∨ W = 17) (hT : tx_T ch n) {kB kX m d : Nat} {X : f_X} (hm : m ≠ 0) (hd : d ≤ 7) (hX : clX ch n W kX X d) (hXF : clF W kX) (lp : (Nat → Int32) → (Nat → Int64) → u_H → u_R) (hB : ∀ s : u_H, u_c kB [.inr (.inr 29), .inl (zi (7 - d))] s = u_bv (u_c kX [.inr (.inr 29), .inl (zi (7 - d))] s) fun s1 => lp (u_l1 (u_l1 u_z1 1 (zi (7 - d))) 2 (Int32.ofInt 0)) u_z2 s1) (hN : ∀ (li : Nat → Int32) (ll : Nat → Int64) (s : u_H) (k : Nat), k ≤ 276 → f_ti k ≠ m → s.1 27 4 = zi k → lp li ll s = some (none, s)) (hS : ∀ (li : Nat → Int32) (ll : Nat → Int64) (s : u_H) (k i : Nat), i < 1600 → li 2 = zi i → li 1 = zi (7 - d) → f_ti k = m → s.1 27 4 = zi k → ∃ (li2 : Nat → Int32) (J : u_H → u_R), li2 2 = zi (i + 1) ∧ li2 1 = zi (7 - d) ∧ lp li ll s = u_bv (u_c 105 [.inr (.inr 29)] s) fun s1 => u_bv (u_c kX [.inr (.inr 29), .inl (zi (7 - d))] s1) fun s2 => if s2.2.2.2.2.1 = W then u_bv (u_c 84 [.inr (.inr (W + 8)), .inl (zi (10000 + k))] s2) fun s3 => lp li2 ll s3 else J s2) : clX ch n W kB (f_bin (tx_A ch n) m X 1601) d := by
  intro τ c u s ht hcn hk hD hc hu
  have hn := hT.1
  obtain ⟨r, s1, x1, x2, x3⟩ := hX τ c u s ht hcn hk hD hc hu
  rcases r with ⟨fc, fq⟩ | ⟨τ2, c2, u2⟩
  · obtain ⟨y1, y2, y3⟩ := x3
    refine ⟨.inl (fc, fq), s1, ?_, ?_, y1, y2, y3⟩
    · unfold f_bin
      rw [x1]
      rfl
    · rw [hB, x2, u_bvS]
      exact hN _ _ s1 276 (by omega) (by show f_ti 276 ≠ m; intro q; have : f_ti 276 = 0 := rfl; omega) y2.2.2.2.2.1
  · have hV := x3.2.1.1.1
    obtain ⟨r, s2, z1, z2, z3⟩ := c_loop hW hT hm hd hX hXF lp hN hS hc 1600 τ2 c2 u2 0 s1 (u_l1 (u_l1 u_z1 1 (zi (7 - d))) 2 (Int32.ofInt 0)) u_z2 (by omega) (by omega) (u_l1E _ _ _) ((u_l1N (by omega)).trans (u_l1E _ _ _)) (cT_f hW ht x3.1) x3
    refine ⟨r, s2, ?_, ?_, z3⟩
    · unfold f_bin
      rw [x1]
      exact z1
    · rw [hB, x2, u_bvS]
      exact z2
theorem zk10 (k : Nat) : u_k 10000 + zi k = zi (10000 + k) := by rw [show u_k 10000 = zi 10000 from u_kz 10000, zi_add]
theorem lim_i {li : Nat → Int32} {i : Nat} (h : li 2 = zi i) (hi : i < 1600) : li 2 < u_k 1600 := by
  rw [h, show u_k 1600 = zi 1600 from u_kz 1600, zi_lt (by omega) (by omega)]
  exact hi
theorem clX125 (hW : W = 5 ∨ W = 17) (hT : tx_T ch n) {d : Nat} {X : f_X} (hd : d ≤ 7) (hX : clX ch n W 126 X d) : clX ch n W 125 (f_bin (tx_A ch n) 6 X 1601) d := by
  refine c_bin hW hT (by omega) hd hX (clF126 hW) (fun li ll s => u g_t125 7 (li, ll, [(0, 29)]) [] s) (fun s => b_125 _ s) ?_ ?_
  · intro li ll s k hk ht hs
    have e : ∀ a : Nat, a < 300 → f_ti a = 6 → ¬ s.1 27 4 = zi a := by
      intro a ha hta q
      rw [hs, zk_iff (by omega) (by omega)] at q
      subst q
      exact ht hta
    show u g_t125 7 (li, ll, [(0, 29)]) [] s = _
    rw [b_125_7]
    by_cases c : li 2 < u_k 1600
    · rw [if_pos c, if_neg (show ¬ s.1 27 4 = Int32.ofInt 42 from e 42 (by omega) rfl), if_neg (show ¬ s.1 27 4 = Int32.ofInt 47 from e 47 (by omega) rfl), if_neg (show ¬ s.1 27 4 = Int32.ofInt 37 from e 37 (by omega) rfl)]
    · rw [if_neg c]
  · intro li ll s k i hi h2 h1 ht hs
    have hk : k = 42 ∨ k = 47 ∨ k = 37 := by
      unfold f_ti at ht
      repeat' split at ht
      all_goals omega
    refine ⟨u_l1 (u_l1 li 3 (s.1 27 4)) 2 (li 2 + Int32.ofInt 1), fun s2 => u g_t125 59 ((u_l1 li 3 (s.1 27 4)), ll, [(0, 29)]) [.inr (.inr s2.2.2.2.2.1)] s2, ?_, ?_, ?_⟩
    · rw [u_l1E, h2, zi_one]
    · rw [u_l1N (by omega), u_l1N (by omega)]
      exact h1
    · have e41 : u g_t125 7 (li, ll, [(0, 29)]) [] s = u g_t125 41 (li, ll, [(0, 29)]) [] s := by
        rw [b_125_7, if_pos (lim_i h2 hi), hs]
        rcases hk with rfl | rfl | rfl
        · rw [if_pos (show zi 42 = Int32.ofInt 42 from rfl)]
        · rw [if_neg (by decide), if_pos (show zi 47 = Int32.ofInt 47 from rfl)]
        · rw [if_neg (by decide), if_neg (by decide), if_pos (show zi 37 = Int32.ofInt 37 from rfl)]
      show u g_t125 7 (li, ll, [(0, 29)]) [] s = _
      rw [e41, b_125_41 hW, hs, h1, zk10]
theorem clX124 (hW : W = 5 ∨ W = 17) (hT : tx_T ch n) {d : Nat} {X : f_X} (hd : d ≤ 7) (hX : clX ch n W 125 X d) : clX ch n W 124 (f_bin (tx_A ch n) 5 X 1601) d := by
  refine c_bin hW hT (by omega) hd hX (clF125 hW) (fun li ll s => u g_t124 7 (li, ll, [(0, 29)]) [] s) (fun s => b_124 _ s) ?_ ?_
  · intro li ll s k hk ht hs
    have e : ∀ a : Nat, a < 300 → f_ti a = 5 → ¬ s.1 27 4 = zi a := by
      intro a ha hta q
      rw [hs, zk_iff (by omega) (by omega)] at q
      subst q
      exact ht hta
    show u g_t124 7 (li, ll, [(0, 29)]) [] s = _
    rw [b_124_7]
    by_cases c : li 2 < u_k 1600
    · rw [if_pos c, if_neg (show ¬ s.1 27 4 = Int32.ofInt 43 from e 43 (by omega) rfl), if_neg (show ¬ s.1 27 4 = Int32.ofInt 45 from e 45 (by omega) rfl)]
    · rw [if_neg c]
  · intro li ll s k i hi h2 h1 ht hs
    have hk : k = 43 ∨ k = 45 := by
      unfold f_ti at ht
      repeat' split at ht
      all_goals omega
    refine ⟨u_l1 (u_l1 li 3 (s.1 27 4)) 2 (li 2 + Int32.ofInt 1), fun s2 => u g_t124 50 ((u_l1 li 3 (s.1 27 4)), ll, [(0, 29)]) [.inr (.inr s2.2.2.2.2.1)] s2, ?_, ?_, ?_⟩
    · rw [u_l1E, h2, zi_one]
    · rw [u_l1N (by omega), u_l1N (by omega)]
      exact h1
    · have e41 : u g_t124 7 (li, ll, [(0, 29)]) [] s = u g_t124 32 (li, ll, [(0, 29)]) [] s := by
        rw [b_124_7, if_pos (lim_i h2 hi), hs]
        rcases hk with rfl | rfl
        · rw [if_pos (show zi 43 = Int32.ofInt 43 from rfl)]
        · rw [if_neg (by decide), if_pos (show zi 45 = Int32.ofInt 45 from rfl)]
      show u g_t124 7 (li, ll, [(0, 29)]) [] s = _
      rw [e41, b_124_32 hW, hs, h1, zk10]
theorem clX113 (hW : W = 5 ∨ W = 17) (hT : tx_T ch n) {d : Nat} {X : f_X} (hd : d ≤ 7) (hX : clX ch n W 120 X d) : clX ch n W 113 (f_bin (tx_A ch n) 2 X 1601) d := by
  refine c_bin hW hT (by omega) hd hX (clF120 hW) (fun li ll s => u g_t113 7 (li, ll, [(0, 29)]) [] s) (fun s => b_113 _ s) ?_ ?_
  · intro li ll s k hk ht hs
    have e : ¬ s.1 27 4 = u_k 271 := by
      intro q
      rw [hs, show u_k 271 = zi 271 from u_kz 271, zk_iff (by omega) (by omega)] at q
      subst q
      exact ht rfl
    show u g_t113 7 (li, ll, [(0, 29)]) [] s = _
    rw [b_113_7 hW]
    by_cases c : li 2 < u_k 1600
    · rw [if_pos c, if_neg e]
    · rw [if_neg c]
  · intro li ll s k i hi h2 h1 ht hs
    have hk : k = 271 := by
      unfold f_ti at ht
      repeat' split at ht
      all_goals omega
    subst hk
    refine ⟨u_l1 li 2 (li 2 + Int32.ofInt 1), fun s2 => u g_t113 37 (li, ll, [(0, 29)]) [.inr (.inr s2.2.2.2.2.1)] s2, ?_, ?_, ?_⟩
    · rw [u_l1E, h2, zi_one]
    · rw [u_l1N (by omega)]
      exact h1
    · show u g_t113 7 (li, ll, [(0, 29)]) [] s = _
      rw [b_113_7 hW, if_pos (lim_i h2 hi), if_pos (by rw [hs]; exact (u_kz 271).symm), h1, show u_k 10271 = zi (10000 + 271) from u_kz 10271]
theorem clX114 (hW : W = 5 ∨ W = 17) (hT : tx_T ch n) {d : Nat} {X : f_X} (hd : d ≤ 7) (hX : clX ch n W 113 X d) : clX ch n W 114 (f_bin (tx_A ch n) 1 X 1601) d := by
  refine c_bin hW hT (by omega) hd hX (clF113 hW) (fun li ll s => u g_t114 7 (li, ll, [(0, 29)]) [] s) (fun s => b_114 _ s) ?_ ?_
  · intro li ll s k hk ht hs
    have e : ¬ s.1 27 4 = u_k 270 := by
      intro q
      rw [hs, show u_k 270 = zi 270 from u_kz 270, zk_iff (by omega) (by omega)] at q
      subst q
      exact ht rfl
    show u g_t114 7 (li, ll, [(0, 29)]) [] s = _
    rw [b_114_7 hW]
    by_cases c : li 2 < u_k 1600
    · rw [if_pos c, if_neg e]
    · rw [if_neg c]
  · intro li ll s k i hi h2 h1 ht hs
    have hk : k = 270 := by
      unfold f_ti at ht
      repeat' split at ht
      all_goals omega
    subst hk
    refine ⟨u_l1 li 2 (li 2 + Int32.ofInt 1), fun s2 => u g_t114 37 (li, ll, [(0, 29)]) [.inr (.inr s2.2.2.2.2.1)] s2, ?_, ?_, ?_⟩
    · rw [u_l1E, h2, zi_one]
    · rw [u_l1N (by omega)]
      exact h1
    · show u g_t114 7 (li, ll, [(0, 29)]) [] s = _
      rw [b_114_7 hW, if_pos (lim_i h2 hi), if_pos (by rw [hs]; exact (u_kz 270).symm), h1, show u_k 10270 = zi (10000 + 270) from u_kz 10270]
end FP
