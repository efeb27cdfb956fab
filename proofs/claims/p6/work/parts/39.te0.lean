/-! the model's formula: a unit -/
theorem tx_A1 (ch : Nat → Int32) (n : Nat) (τ : f_T) : (tx_A ch n τ).1 = tx_q ch n τ.2.2.2 := by
  unfold tx_A tx_tk tx_at
  repeat' split
  all_goals rfl
theorem tx_Alt {ch : Nat → Int32} {n : Nat} {τ : f_T} (h : tx_V ch n τ) (h1 : τ.2.1 ≠ 275) (h2 : τ.2.1 ≠ 276) : τ.1 + 1 ≤ (tx_A ch n τ).1 := by
  have h3 := h.2.2.2.2.2.2.2.1 h1 h2
  rw [tx_A1]
  unfold tx_q
  omega
theorem mN_w {ch : Nat → Int32} {n : Nat} {τ : f_T} {s : u_H} {o k : Nat} {x : Int32} (h : mN ch n τ s) (h1 : ¬ (o = 65 ∧ (k = 2 ∨ k = 3 ∨ k = 4 ∨ k = 6 ∨ k = 7 ∨ k = 8))) : mN ch n τ (y_u s.1 o k x, s.2) := by
  obtain ⟨hV, m1, m2, m3, m4, m5, m6, m7⟩ := h
  exact ⟨hV, (y_uN (by omega)).trans m1, (y_uN (by omega)).trans m2, (y_uN (by omega)).trans m3, fun q => (y_uN (by omega)).trans (m4 q), m5, (y_uN (by omega)).trans m6, (y_uN (by omega)).trans m7⟩
theorem mO_fr {O : List Nat} {s s2 : u_H} (h : mO O s) (h1 : s2.1 65 19 = s.1 65 19) (h2 : ∀ j, s2.1 72 j = s.1 72 j) : mO O s2 := ⟨h1.trans h.1, h.2.1, fun j x hj => (h2 j).trans (h.2.2 j x hj)⟩
theorem mQ_fr {out : List Int} {s s2 : u_H} (h : mQ out s) (h1 : s2.1 65 17 = s.1 65 17) (h2 : ∀ j, s2.1 68 j = s.1 68 j) (h3 : ∀ j, s2.1 69 j = s.1 69 j) : mQ out s2 := ⟨h1.trans h.1, fun j x hj => ⟨(h2 j).trans (h.2 j x hj).1, (h3 j).trans (h.2 j x hj).2⟩⟩
def tx_O (o k : Nat) : Prop := (o = 65 ∧ (k = 2 ∨ k = 3 ∨ k = 4 ∨ (6 ≤ k ∧ k ≤ 9) ∨ k = 19 ∨ k = 23)) ∨ o = 72
def tx_G (o k : Nat) : Prop := (o = 65 ∧ (k = 2 ∨ k = 3 ∨ k = 4 ∨ (6 ≤ k ∧ k ≤ 9) ∨ k = 17 ∨ k = 19 ∨ k = 20 ∨ k = 22 ∨ k = 23)) ∨ o = 68 ∨ o = 69 ∨ o = 72
theorem tx_MO {o k : Nat} (h : tx_M o k) : tx_O o k := by
  unfold tx_M at h
  unfold tx_O
  omega
theorem tx_OG {o k : Nat} (h : tx_O o k) : tx_G o k := by
  unfold tx_O at h
  unfold tx_G
  omega
theorem tx_MG {o k : Nat} (h : tx_M o k) : tx_G o k := tx_OG (tx_MO h)
theorem tx_XG {o k : Nat} (h : tx_X o k) : tx_G o k := by
  unfold tx_X at h
  unfold tx_G
  omega
theorem tx_QG {o k : Nat} (h : tx_Q o k) : tx_G o k := by
  unfold tx_Q at h
  unfold tx_G
  omega
theorem tx_FG {o k : Nat} (h : tx_F o k) : tx_G o k := by
  unfold tx_F at h
  unfold tx_G
  omega
section MU
variable {ch : Nat → Int32} {n : Nat}
/-- an open sign more -/
theorem m_open (hT : tx_T ch n) {τ : f_T} {O : List Nat} {x dp : Nat} {s : u_H} {r : Option (q_V Int32) × u_H} (h : mN ch n τ s) (hM : tM ch n s) (hO : mO O s) (hx : fv x) (hd : s.1 65 23 = zi dp) (hl : O.length < 4000) (hr : u_c 267 [.inr (.inr 67), .inl (zi (fe x))] s = some r) : r.1 = none ∧ mN ch n (tx_A ch n τ) r.2 ∧ tM ch n r.2 ∧ mO (x :: O) r.2 ∧ r.2.1 65 23 = zi (dp + 1) ∧ u_fr tx_O s r.2 := by
  rw [b_267, hO.1] at hr
  by_cases hi : u_in (zi O.length) 160 = true
  · rw [if_pos hi, if_pos h.2.2.2.2.2.2.1, zi_clamp (by omega), zi_one, hd, zi_one] at hr
    have hN1 : mN ch n τ (y_u (y_u (y_u s.1 72 O.length (zi (fe x))) 65 19 (zi (O.length + 1))) 65 23 (zi (dp + 1)), s.2) := mN_w (s := (y_u (y_u s.1 72 O.length (zi (fe x))) 65 19 (zi (O.length + 1)), s.2)) (mN_w (s := (y_u s.1 72 O.length (zi (fe x)), s.2)) (mN_w h (by omega)) (by omega)) (by omega)
    have hM1 : tM ch n (y_u (y_u (y_u s.1 72 O.length (zi (fe x))) 65 19 (zi (O.length + 1))) 65 23 (zi (dp + 1)), s.2) := tM_w (s := (y_u (y_u s.1 72 O.length (zi (fe x))) 65 19 (zi (O.length + 1)), s.2)) (tM_w (s := (y_u s.1 72 O.length (zi (fe x)), s.2)) (tM_w hM (by omega) (by omega)) (by omega) (by omega)) (by omega) (by omega)
    obtain ⟨s2, e1, e2, e3, e4⟩ := m_next hT hN1 hM1
    rw [e1, u_bvS] at hr
    cases hr
    refine ⟨rfl, e2, e3, ?_, ?_, ?_⟩
    · refine mO_push hO hx ?_ ?_ (fun j hj => ?_)
      · rw [e4.i (fun q => by have := q.2; omega)]
        show y_u (y_u (y_u s.1 72 O.length (zi (fe x))) 65 19 (zi (O.length + 1))) 65 23 (zi (dp + 1)) 65 19 = _
        rw [y_uN (by omega), y_uE]
      · rw [e4.i (fun q => by have := q.1; omega)]
        show y_u (y_u (y_u s.1 72 O.length (zi (fe x))) 65 19 (zi (O.length + 1))) 65 23 (zi (dp + 1)) 72 O.length = _
        rw [y_uN (by omega), y_uN (by omega), y_uE]
      · rw [e4.i (fun q => by have := q.1; omega)]
        show y_u (y_u (y_u s.1 72 O.length (zi (fe x))) 65 19 (zi (O.length + 1))) 65 23 (zi (dp + 1)) 72 j = _
        rw [y_uN (by omega), y_uN (by omega), y_uN (by omega)]
    · rw [e4.i (fun q => by have := q.2; omega)]
      exact y_uE (y_u (y_u s.1 72 O.length (zi (fe x))) 65 19 (zi (O.length + 1))) 65 23 _
    · refine u_fr.tr ?_ (e4.mono (fun o k q => tx_MO q))
      exact u_fr.wi (u_fr.wi (u_fr.wi (f := s.1) (r := s.2) u_fr.rf (Or.inr rfl)) (Or.inl ⟨rfl, by omega⟩)) (Or.inl ⟨rfl, by omega⟩)
  · rw [if_neg hi] at hr
    cases hr
def tx_Y (o k : Nat) : Prop := (o = 65 ∧ (k = 19 ∨ k = 23)) ∨ o = 72
/-- after a fault -/
theorem m_openE {O : List Nat} {p : Int32} {s : u_H} {r : Option (q_V Int32) × u_H} (h : ¬ s.1 65 2 = 0) (hO : mO O s) (hl : O.length < 4000) (hr : u_c 267 [.inr (.inr 67), .inl p] s = some r) : r.1 = none ∧ u_fr tx_Y s r.2 := by
  rw [b_267, hO.1] at hr
  by_cases hi : u_in (zi O.length) 160 = true
  · rw [if_pos hi, if_neg h, zi_clamp (by omega)] at hr
    cases hr
    exact ⟨rfl, u_fr.wi (u_fr.wi (u_fr.wi (f := s.1) (r := s.2) u_fr.rf (Or.inr rfl)) (Or.inl ⟨rfl, by omega⟩)) (Or.inl ⟨rfl, by omega⟩)⟩
  · rw [if_neg hi] at hr
    cases hr
/-- isFull -/
theorem m_full {b0 w : Nat} {s : u_H} (h1 : s.1 65 20 = zi (b0 + w)) (h2 : s.1 65 22 = zi w) (hb : b0 ≤ 30) (hw : w ≤ 30) : u_c 228 [.inr (.inr 67)] s = some (some (.inl (zb (decide (w = 30)))), s) := by
  have c1 : zi (b0 + w) = Int32.ofInt 60 ↔ b0 + w = 60 := zk_iff (b := 60) (by omega) (by omega)
  have c2 : zi w = Int32.ofInt 30 ↔ w = 30 := zk_iff (b := 30) (by omega) (by omega)
  rw [b_228, h1, h2]
  by_cases e : w = 30
  · rw [decide_eq_true e]
    by_cases e2 : b0 + w = 60
    · rw [if_pos (c1.mpr e2)]
      rfl
    · rw [if_neg (fun q => e2 (c1.mp q)), if_pos (c2.mpr e)]
      rfl
  · rw [decide_eq_false e, if_neg (fun q => by have := c1.mp q; omega), if_neg (fun q => e (c2.mp q))]
    rfl
def mS (ch : Nat → Int32) (n b0 : Nat) (τ : f_T) (O : List Nat) (out : List Int) (w dp : Nat) (s : u_H) : Prop := mN ch n τ s ∧ tM ch n s ∧ mO O s ∧ mQ out s ∧ s.1 65 20 = zi (b0 + w) ∧ s.1 65 22 = zi w ∧ s.1 65 23 = zi dp ∧ w ≤ 30 ∧ b0 ≤ 30 ∧ f_dc O = dp ∧ O.length + out.length ≤ τ.1
def mE (τ : f_T) (s : u_H) : Prop := s.1 65 2 = zi (if τ.2.1 = 276 then 1 else 2) ∧ s.1 65 3 = zi τ.1
theorem mE_pos {τ : f_T} {s : u_H} (h : mE τ s) : 0 < s.1 65 2 ∧ ¬ s.1 65 2 = 0 := by
  rw [h.1]
  by_cases e : τ.2.1 = 276
  · rw [if_pos e]
    decide
  · rw [if_neg e]
    decide
/-- an open sign, in a sound state -/
theorem m_push (hT : tx_T ch n) {b0 : Nat} {τ : f_T} {O : List Nat} {out : List Int} {w dp x : Nat} {s : u_H} {r : Option (q_V Int32) × u_H} (h : mS ch n b0 τ O out w dp s) (hx : x = 40 ∨ x = 272) (h1 : τ.2.1 ≠ 275) (h2 : τ.2.1 ≠ 276) (hr : u_c 267 [.inr (.inr 67), .inl (zi (fe x))] s = some r) : r.1 = none ∧ mS ch n b0 (tx_A ch n τ) (x :: O) out w (dp + 1) r.2 ∧ u_fr tx_O s r.2 := by
  obtain ⟨hN, hM, hO, hQ, h20, h22, hd, hw, hb, hdc, hlen⟩ := h
  have hn := hT.1
  have hv1 := hN.1.1
  have hfv : fv x := by
    rcases hx with q | q
    · exact Or.inl q
    · rw [q]
      exact Or.inr (by decide)
  obtain ⟨g1, g2, g3, g4, g5, g6⟩ := m_open hT hN hM hO hfv hd (by omega) hr
  have hlt := tx_Alt hN.1 h1 h2
  have nO : ∀ o k, (o = 65 ∧ (k = 17 ∨ k = 20 ∨ k = 22)) ∨ o = 68 ∨ o = 69 → ¬ tx_O o k := fun o k q q2 => by
    unfold tx_O at q2
    omega
  refine ⟨g1, ⟨g2, g3, g4, mQ_fr hQ (g6.i (nO _ _ (by omega))) (fun j => g6.i (nO _ _ (by omega))) (fun j => g6.i (nO _ _ (by omega))), (g6.i (nO _ _ (by omega))).trans h20, (g6.i (nO _ _ (by omega))).trans h22, g5, hw, hb, ?_, ?_⟩, g6⟩
  · show f_dc O + (if x = 40 ∨ x = 272 then 1 else 0) = dp + 1
    rw [if_pos hx, hdc]
  · show O.length + 1 + out.length ≤ _
    omega
/-- one unit more -/
theorem m_count {b0 : Nat} {τ : f_T} {O : List Nat} {out : List Int} {w dp : Nat} {s : u_H} (h : mS ch n b0 τ O out w dp s) (hw : w ≠ 30) : u_c 191 [.inr (.inr 67)] s = some (none, (y_u (y_u s.1 65 20 (zi (b0 + (w + 1)))) 65 22 (zi (w + 1)), s.2)) ∧ mS ch n b0 τ O out (w + 1) dp (y_u (y_u s.1 65 20 (zi (b0 + (w + 1)))) 65 22 (zi (w + 1)), s.2) := by
  obtain ⟨hN, hM, hO, hQ, h20, h22, hd, hw3, hb, hdc, hlen⟩ := h
  refine ⟨?_, mN_w (s := (y_u s.1 65 20 (zi (b0 + (w + 1))), s.2)) (mN_w hN (by omega)) (by omega), tM_w (s := (y_u s.1 65 20 (zi (b0 + (w + 1))), s.2)) (tM_w hM (by omega) (by omega)) (by omega) (by omega), mO_fr hO ?_ (fun j => ?_), mQ_w (s := (y_u s.1 65 20 (zi (b0 + (w + 1))), s.2)) (mQ_w hQ (by omega) (by omega) (by omega)) (by omega) (by omega) (by omega), ?_, ?_, ?_, by omega, hb, hdc, hlen⟩
  · rw [b_191, h20, h22, zi_one, zi_one]
    rfl
  · show y_u (y_u s.1 65 20 (zi (b0 + (w + 1)))) 65 22 (zi (w + 1)) 65 19 = _
    rw [y_uN (by omega), y_uN (by omega)]
  · show y_u (y_u s.1 65 20 (zi (b0 + (w + 1)))) 65 22 (zi (w + 1)) 72 j = _
    rw [y_uN (by omega), y_uN (by omega)]
  · show y_u (y_u s.1 65 20 (zi (b0 + (w + 1)))) 65 22 (zi (w + 1)) 65 20 = _
    rw [y_uN (by omega), y_uE]
  · exact y_uE (y_u s.1 65 20 (zi (b0 + (w + 1)))) 65 22 _
  · show y_u (y_u s.1 65 20 (zi (b0 + (w + 1)))) 65 22 (zi (w + 1)) 65 23 = _
    rw [y_uN (by omega), y_uN (by omega)]
    exact hd
end MU
