/-! the class's formula: where a fault is told already -/
def fCf (W o k : Nat) : Prop := tx_C o k ∨ o = W + 6 ∨ o = W + 7
section FX
variable {ch : Nat → Int32} {n W : Nat}
def cX (W f q : Nat) (s : u_H) : Prop := 1 ≤ f ∧ f ≤ 5 ∧ s.1 27 8 = zi f ∧ s.1 27 9 = zi q ∧ s.1 27 4 = zi 276 ∧ s.2.2.2.2.1 = W ∧ ∃ m, m ≤ 270 ∧ s.1 (W + 6) 3 = zi m
theorem cX_refuse {f q : Nat} {s : u_H} (hW : W = 5 ∨ W = 17) (h : cX W f q s) (x : Int32) : ∃ s2, u_c 127 [.inr (.inr 29), .inl x] s = some (none, s2) ∧ cX W f q s2 ∧ u_fr (fCf W) s s2 := by
  obtain ⟨f1, f5, h1, h2, h3, h4, m, hm, h5⟩ := h
  have fr : u_fr (fCf W) s (y_u s.1 27 4 (u_k 276), s.2) := u_fr.wi (f := s.1) (r := s.2) u_fr.rf (Or.inl ⟨rfl, by omega⟩)
  refine ⟨(y_u s.1 27 4 (u_k 276), s.2), ?_, ⟨f1, f5, ?_, ?_, ?_, h4, m, hm, ?_⟩, fr⟩
  · rw [b_127, h1, if_neg (zf_ne f1 f5)]
  · exact (show y_u s.1 27 4 (u_k 276) 27 8 = s.1 27 8 from y_uN (by omega)).trans h1
  · exact (show y_u s.1 27 4 (u_k 276) 27 9 = s.1 27 9 from y_uN (by omega)).trans h2
  · exact (y_uE s.1 27 4 (u_k 276)).trans (u_kz 276)
  · exact (show y_u s.1 27 4 (u_k 276) (W + 6) 3 = s.1 (W + 6) 3 from y_uN (by omega)).trans h5
theorem k6n : u_k (-6) = Int32.ofInt (-6) := u_k_eq _
theorem cX_add {f q : Nat} {s : u_H} (hW : W = 5 ∨ W = 17) (h : cX W f q s) (x : Int32) : ∃ s2, u_c 84 [.inr (.inr (W + 8)), .inl x] s = some (none, s2) ∧ cX W f q s2 ∧ u_fr (fCf W) s s2 := by
  obtain ⟨f1, f5, h1, h2, h3, h4, m, hm, h5⟩ := h
  have h270 : u_k 270 = zi 270 := u_kz 270
  by_cases hlt : m < 270
  · by_cases hx : x < u_k (-6)
    · refine ⟨s, ?_, ⟨f1, f5, h1, h2, h3, h4, m, hm, h5⟩, u_fr.rf⟩
      rw [b_84 hW, h5, h270, if_pos (by rw [zi_lt (by omega) (by omega)]; exact hlt), if_pos hx]
    · have fr : u_fr (fCf W) s (y_u (y_u s.1 (W + 7) m x) (W + 6) 3 (zi (m + 1)), s.2) := u_fr.wi (u_fr.wi (f := s.1) (r := s.2) u_fr.rf (Or.inr (Or.inr rfl))) (Or.inr (Or.inl rfl))
      have e : ∀ k, (y_u (y_u s.1 (W + 7) m x) (W + 6) 3 (zi (m + 1)) : Nat → Nat → Int32) 27 k = s.1 27 k := fun k => by rw [y_uN (by omega), y_uN (by omega)]
      refine ⟨(y_u (y_u s.1 (W + 7) m x) (W + 6) 3 (zi (m + 1)), s.2), ?_, ⟨f1, f5, (e 8).trans h1, (e 9).trans h2, (e 4).trans h3, h4, m + 1, by omega, y_uE (y_u s.1 (W + 7) m x) (W + 6) 3 _⟩, fr⟩
      rw [b_84 hW, h5, h270, if_pos (by rw [zi_lt (by omega) (by omega)]; exact hlt), if_neg hx, if_pos ((u_inz (by omega)).mpr hlt), zi_clamp (by omega), zi_one]
  · refine ⟨s, ?_, ⟨f1, f5, h1, h2, h3, h4, m, hm, h5⟩, u_fr.rf⟩
    rw [b_84 hW, h5, h270, if_neg (by rw [zi_lt (by omega) (by omega)]; exact hlt)]
/-- a reader's method that keeps to the fault -/
def clF (W k : Nat) : Prop := ∀ (f q : Nat) (s : u_H) (w : Int32), cX W f q s → ∃ s2, u_c k [.inr (.inr 29), .inl w] s = some (none, s2) ∧ cX W f q s2 ∧ u_fr (fCf W) s s2
theorem cX_k {f q : Nat} {s : u_H} (h : cX W f q s) {a : Nat} (ha : a < 276) : ¬ s.1 27 4 = zi a := by
  rw [h.2.2.2.2.1, zk_iff (by omega) (by omega)]
  omega
theorem cX_k' {f q : Nat} {s : u_H} (h : cX W f q s) {a : Nat} (ha : a < 276) : ¬ s.1 27 4 = u_k (a : Int) := by
  rw [u_kz]
  exact cX_k h ha
theorem z00 : Int32.ofInt 0 = 0 := rfl
theorem clF126 (hW : W = 5 ∨ W = 17) : clF W 126 := by
  intro f q s w h
  obtain ⟨s2, e, h2, fr⟩ := cX_refuse hW h (Int32.ofInt 2)
  have hv : u_c 111 [.inl (s.1 27 4)] s = some (some (.inl (Int32.ofInt 0)), s) := by
    rw [b_111, h.2.2.2.2.1, show u_k 262 = zi 262 from u_kz 262, show u_k 267 = zi 267 from u_kz 267, if_neg (by rw [zi_lt (by omega) (by omega)]; omega), if_pos (by rw [zi_lt (by omega) (by omega)]; omega)]
  refine ⟨s2, ?_, h2, fr⟩
  rw [b_126, if_neg (show ¬ s.1 27 4 = Int32.ofInt 40 from cX_k (a := 40) h (by omega)), b_126_14, if_pos z00, if_neg (show ¬ s.1 27 4 = u_k 274 from cX_k' (a := 274) h (by omega)), hv, u_biS, if_pos z00, b_126_44 hW, if_pos z00, e, u_bvS]
theorem clF125 (hW : W = 5 ∨ W = 17) : clF W 125 := by
  intro f q s w h
  obtain ⟨s2, e, h2, fr⟩ := clF126 hW f q s w h
  refine ⟨s2, ?_, h2, fr⟩
  rw [b_125, e, u_bvS, b_125_7]
  by_cases c : (u_l1 (u_l1 u_z1 1 w) 2 (Int32.ofInt 0)) 2 < u_k 1600
  · rw [if_pos c, if_neg (show ¬ s2.1 27 4 = Int32.ofInt 42 from cX_k (a := 42) h2 (by omega)), if_neg (show ¬ s2.1 27 4 = Int32.ofInt 47 from cX_k (a := 47) h2 (by omega)), if_neg (show ¬ s2.1 27 4 = Int32.ofInt 37 from cX_k (a := 37) h2 (by omega))]
  · rw [if_neg c]
theorem clF124 (hW : W = 5 ∨ W = 17) : clF W 124 := by
  intro f q s w h
  obtain ⟨s2, e, h2, fr⟩ := clF125 hW f q s w h
  refine ⟨s2, ?_, h2, fr⟩
  rw [b_124, e, u_bvS, b_124_7]
  by_cases c : (u_l1 (u_l1 u_z1 1 w) 2 (Int32.ofInt 0)) 2 < u_k 1600
  · rw [if_pos c, if_neg (show ¬ s2.1 27 4 = Int32.ofInt 43 from cX_k (a := 43) h2 (by omega)), if_neg (show ¬ s2.1 27 4 = Int32.ofInt 45 from cX_k (a := 45) h2 (by omega))]
  · rw [if_neg c]
theorem clF120 (hW : W = 5 ∨ W = 17) : clF W 120 := by
  intro f q s w h
  obtain ⟨s2, e, h2, fr⟩ := clF124 hW f q s w h
  refine ⟨s2, ?_, h2, fr⟩
  rw [b_120 hW, if_neg (show ¬ s.1 27 4 = u_k 272 from cX_k' (a := 272) h (by omega)), e, u_bvS, if_neg (show ¬ s2.1 27 4 = Int32.ofInt 60 from cX_k (a := 60) h2 (by omega)), if_neg (show ¬ s2.1 27 4 = Int32.ofInt 62 from cX_k (a := 62) h2 (by omega)), if_neg (show ¬ s2.1 27 4 = Int32.ofInt 61 from cX_k (a := 61) h2 (by omega))]
theorem clF113 (hW : W = 5 ∨ W = 17) : clF W 113 := by
  intro f q s w h
  obtain ⟨s2, e, h2, fr⟩ := clF120 hW f q s w h
  refine ⟨s2, ?_, h2, fr⟩
  rw [b_113, e, u_bvS, b_113_7 hW]
  by_cases c : (u_l1 (u_l1 u_z1 1 w) 2 (Int32.ofInt 0)) 2 < u_k 1600
  · rw [if_pos c, if_neg (show ¬ s2.1 27 4 = u_k 271 from cX_k' (a := 271) h2 (by omega))]
  · rw [if_neg c]
theorem clF114 (hW : W = 5 ∨ W = 17) : clF W 114 := by
  intro f q s w h
  obtain ⟨s2, e, h2, fr⟩ := clF113 hW f q s w h
  refine ⟨s2, ?_, h2, fr⟩
  rw [b_114, e, u_bvS, b_114_7 hW]
  by_cases c : (u_l1 (u_l1 u_z1 1 w) 2 (Int32.ofInt 0)) 2 < u_k 1600
  · rw [if_pos c, if_neg (show ¬ s2.1 27 4 = u_k 270 from cX_k' (a := 270) h2 (by omega))]
  · rw [if_neg c]
end FX
/-! where none is told -/
def cN (ch : Nat → Int32) (n : Nat) (τ : f_T) (s : u_H) : Prop := tx_V ch n τ ∧ s.1 27 3 = zi τ.1 ∧ s.1 27 4 = zi τ.2.1 ∧ (τ.2.1 ≠ 276 → s.1 27 2 = zi τ.2.2.2 ∧ s.1 27 8 = 0 ∧ s.1 27 9 = u_k (-1)) ∧ (τ.2.1 = 274 → s.1 27 5 = zi τ.2.2.1) ∧ (256 ≤ τ.2.1 → τ.2.1 ≤ 273 → s.2.1 27 6 = zl (tx_nN (tx_let ch τ.1 (τ.2.2.2 - τ.1)))) ∧ (τ.2.1 = 276 → s.1 27 8 = Int32.ofInt 1 ∧ s.1 27 9 = zi τ.1)
def cD (W : Nat) (c : List Int) (u : Nat) (s : u_H) : Prop := s.1 (W + 6) 3 = zi c.length ∧ s.1 (W + 6) 4 = zi u ∧ ∀ k x, c[k]? = some x → s.1 (W + 7) k = Int32.ofInt x
def cT (ch : Nat → Int32) (n W : Nat) (s : u_H) : Prop := tC ch n s ∧ s.2.2.2.2.1 = W
/-- the next token, as the pure reader has it -/
def tx_A (ch : Nat → Int32) (n : Nat) (τ : f_T) : f_T := tx_tk ch n τ.2.2.2
section FC
variable {ch : Nat → Int32} {n W : Nat}
theorem cD_fr {P : Nat → Nat → Prop} {c : List Int} {u : Nat} {s s2 : u_H} (h : cD W c u s) (hf : u_fr P s s2) (p1 : ∀ k, ¬ P (W + 6) k) (p2 : ∀ k, ¬ P (W + 7) k) : cD W c u s2 := ⟨(hf.i (p1 3)).trans h.1, (hf.i (p1 4)).trans h.2.1, fun k x e => (hf.i (p2 k)).trans (h.2.2 k x e)⟩
theorem cT_fr {P : Nat → Nat → Prop} {s s2 : u_H} (h : cT ch n W s) (hf : u_fr P s s2) (p1 : ¬ P 1 1) (p2 : ∀ k, ¬ P 2 k) : cT ch n W s2 := ⟨tC_fr h.1 hf p1 p2, by rw [hf.2]; exact h.2⟩
theorem fCf_n (hW : W = 5 ∨ W = 17) : ¬ fCf W 1 1 ∧ ∀ k, ¬ fCf W 2 k := by
  refine ⟨fun q => ?_, fun k q => ?_⟩
  · rcases q with q | q | q
    · exact absurd q.1 (by omega)
    all_goals omega
  · rcases q with q | q | q
    · exact absurd q.1 (by omega)
    all_goals omega
/-- what a part of the formula comes to -/
def cR (ch : Nat → Int32) (n W d : Nat) (τ : f_T) (c : List Int) (u : Nat) (s s2 : u_H) (r : f_R) : Prop := u_fr (fCf W) s s2 ∧ match r with
  | .inl f => cX W f.1 f.2 s2 ∧ f.2 ≤ 1600
  | .inr (τ2, c2, u2) => cN ch n τ2 s2 ∧ τ2.2.1 ≠ 276 ∧ cD W c2 u2 s2 ∧ u < u2 ∧ u2 ≤ 30 ∧ c2.length + 1 ≤ c.length + (u2 - u) * (2 + d) ∧ τ.1 < τ2.1
theorem cD_m {c : List Int} {u : Nat} {s : u_H} (h : cD W c u s) (hc : c.length ≤ 270) : ∃ m, m ≤ 270 ∧ s.1 (W + 6) 3 = zi m := ⟨_, hc, h.1⟩
/-- a step on: the next token, or the fault -/
theorem c_next (hW : W = 5 ∨ W = 17) (hT : tx_T ch n) {s : u_H} (ht : cT ch n W s) {τ : f_T} (h : cN ch n τ s) (hk : τ.2.1 ≠ 276) (hk2 : τ.2.1 ≠ 275) {c : List Int} {u : Nat} (hD : cD W c u s) (hc : c.length ≤ 270) : ∃ s2, u_c 105 [.inr (.inr 29)] s = some (none, s2) ∧ u_fr tx_C s s2 ∧ cT ch n W s2 ∧ cN ch n (tx_A ch n τ) s2 ∧ cD W c u s2 ∧ τ.1 < (tx_A ch n τ).1 ∧ ((tx_A ch n τ).2.1 = 276 → cX W 1 (tx_A ch n τ).1 s2) := by
  obtain ⟨hV, c1, c2, c3, c4, c5, c6⟩ := h
  obtain ⟨c31, c32, c33⟩ := c3 hk
  obtain ⟨s2, eC, kC⟩ := c_advance hT ht.1 c31 hV.2.1 c32
  obtain ⟨a1, a2, a3, a4, a5, a6, a7, a8⟩ := kC
  have hV2 := tx_Vat hT (tx_q_le (ch := ch) hV.2.1)
  have hD2 := cD_fr hD a7 (fun k => tx_Cnn (by omega)) (fun k => tx_Cnn (by omega))
  have hcn : cN ch n (tx_A ch n τ) s2 := ⟨hV2, a1, a2, fun h => by obtain ⟨x1, x2, x3⟩ := a3 h; exact ⟨x1, x2, x3.trans c33⟩, a4, a5, a6⟩
  have ht2 := cT_fr ht a7 (tx_Cnn (by omega)) (fun k => tx_Cnn (by omega))
  have hst : (tx_A ch n τ).1 = tx_q ch n τ.2.2.2 := by
    show (tx_at ch n (tx_q ch n τ.2.2.2)).1 = _
    unfold tx_at
    repeat' (first | rfl | split)
  have hlt : τ.1 < (tx_A ch n τ).1 := by
    rw [hst]
    have := hV.2.2.2.2.2.2.2.1 hk2 hk
    unfold tx_q
    omega
  refine ⟨s2, eC, a7, ht2, hcn, hD2, hlt, fun h => ?_⟩
  obtain ⟨x1, x2⟩ := a6 h
  exact ⟨by omega, by omega, x1, x2, by rw [a2]; exact congrArg zi h, ht2.2, cD_m hD2 hc⟩
/-- a refusal -/
theorem c_ref (hW : W = 5 ∨ W = 17) {s : u_H} (ht : cT ch n W s) {τ : f_T} (h : cN ch n τ s) (hk : τ.2.1 ≠ 276) {c : List Int} {u x : Nat} (hD : cD W c u s) (hc : c.length ≤ 270) (h1 : 1 ≤ x) (h5 : x ≤ 5) : ∃ s2, u_c 127 [.inr (.inr 29), .inl (zi x)] s = some (none, s2) ∧ u_fr (fCf W) s s2 ∧ cX W x τ.1 s2 := by
  obtain ⟨hV, c1, c2, c3, c4, c5, c6⟩ := h
  obtain ⟨c31, c32, c33⟩ := c3 hk
  have fr : u_fr (fCf W) s (y_u (y_u (y_u s.1 27 8 (zi x)) 27 9 (s.1 27 3)) 27 4 (u_k 276), s.2) := u_fr.wi (u_fr.wi (u_fr.wi (f := s.1) (r := s.2) u_fr.rf (Or.inl ⟨rfl, by omega⟩)) (Or.inl ⟨rfl, by omega⟩)) (Or.inl ⟨rfl, by omega⟩)
  refine ⟨_, c_refuse c32, fr, h1, h5, ?_, ?_, ?_, ht.2, c.length, hc, ?_⟩
  · simp [y_u]
  · simp [y_u, c1]
  · exact (y_uE (y_u (y_u s.1 27 8 (zi x)) 27 9 (s.1 27 3)) 27 4 (u_k 276)).trans (u_kz 276)
  · show y_u (y_u (y_u s.1 27 8 (zi x)) 27 9 (s.1 27 3)) 27 4 (u_k 276) (W + 6) 3 = _
    rw [y_uN (by omega), y_uN (by omega), y_uN (by omega)]
    exact hD.1
/-- a step of the code -/
theorem c_add (hW : W = 5 ∨ W = 17) {s : u_H} {c : List Int} {u : Nat} {x : Int} {y : Int32} (hD : cD W c u s) (hc : c.length < 270) (hy : y = Int32.ofInt x) (hx : ¬ y < u_k (-6)) : ∃ s2, u_c 84 [.inr (.inr (W + 8)), .inl y] s = some (none, s2) ∧ u_fr (fun o _ => o = W + 6 ∨ o = W + 7) s s2 ∧ cD W (c ++ [x]) u s2 := by
  refine ⟨(y_u (y_u s.1 (W + 7) c.length y) (W + 6) 3 (zi (c.length + 1)), s.2), ?_, ?_, ?_, ?_, ?_⟩
  · rw [b_84 hW, hD.1, show u_k 270 = zi 270 from u_kz 270, if_pos (by rw [zi_lt (by omega) (by omega)]; exact hc), if_neg hx, if_pos ((u_inz (by omega)).mpr hc), zi_clamp (by omega), zi_one]
  · exact u_fr.wi (u_fr.wi (f := s.1) (r := s.2) u_fr.rf (Or.inr rfl)) (Or.inl rfl)
  · show y_u (y_u s.1 (W + 7) c.length y) (W + 6) 3 (zi (c.length + 1)) (W + 6) 3 = zi (c ++ [x]).length
    rw [y_uE, List.length_append]
    rfl
  · show y_u (y_u s.1 (W + 7) c.length y) (W + 6) 3 (zi (c.length + 1)) (W + 6) 4 = zi u
    rw [y_uN (by omega), y_uN (by omega)]
    exact hD.2.1
  · intro k z hk
    show y_u (y_u s.1 (W + 7) c.length y) (W + 6) 3 (zi (c.length + 1)) (W + 7) k = Int32.ofInt z
    rw [y_uN (by omega)]
    by_cases e : k = c.length
    · subst e
      rw [y_uE, hy]
      rw [List.getElem?_append_right (Nat.le_refl _), Nat.sub_self] at hk
      have e2 : x = z := Option.some.inj hk
      rw [e2]
    · rw [y_uN (by omega)]
      have hlt : k < c.length := by
        have h1 : k < (c ++ [x]).length := by
          rcases Nat.lt_or_ge k (c ++ [x]).length with q | q
          · exact q
          · rw [List.getElem?_eq_none q] at hk
            cases hk
        rw [List.length_append] at h1
        have h2 : [x].length = 1 := rfl
        omega
      rw [List.getElem?_append_left hlt] at hk
      exact hD.2.2 k z hk
end FC
