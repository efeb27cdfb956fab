/-! a line's head, in the class; a line that is refused -/
section HEAD
variable {ch : Nat → Int32} {n W : Nat} {sC sM : u_H} {τ : f_T}
theorem z_ne {a b : Nat} (ha : a < 4000) (hb : b < 4000) (h : a ≠ b) : ¬ zi a = zi b := fun q => h ((zk_iff ha hb).mp q)
theorem zO256 : Int32.ofInt 256 = zi 256 := rfl
theorem zO257 : Int32.ofInt 257 = zi 257 := rfl
theorem zO258 : Int32.ofInt 258 = zi 258 := rfl
theorem zO259 : Int32.ofInt 259 = zi 259 := rfl
theorem zO260 : Int32.ofInt 260 = zi 260 := rfl
theorem zO261 : Int32.ofInt 261 = zi 261 := rfl
theorem zO262 : Int32.ofInt 262 = zi 262 := rfl
theorem c116_s {s : u_H} (e : s.1 27 4 = zi 256) : u_c 116 [.inr (.inr 29)] s = u_bv (u_c 122 [.inr (.inr 29)] s) fun s1 => u_bv (u_c 106 [.inr (.inr 29), .inl (Int32.ofInt 59)] s1) fun s2 => some (none, s2) := by
  rw [b_116, e, zO256, if_pos rfl]
theorem c116_p {s : u_H} (e : s.1 27 4 = zi 257) : u_c 116 [.inr (.inr 29)] s = u_bv (u_c 121 [.inr (.inr 29)] s) fun s1 => u_bv (u_c 106 [.inr (.inr 29), .inl (Int32.ofInt 59)] s1) fun s2 => some (none, s2) := by
  rw [b_116, e, zO256, zO257, if_neg (z_ne (a := 257) (b := 256) (by omega) (by omega) (by omega)), if_pos rfl]
theorem c116_k {s : u_H} {j : Nat} (hj : j < 5) (e : s.1 27 4 = zi (258 + j)) : u_c 116 [.inr (.inr 29)] s = u_bv (u_c 119 [.inr (.inr 29), .inl (zi (258 + j))] s) fun s1 => u_bv (u_c 106 [.inr (.inr 29), .inl (Int32.ofInt 59)] s1) fun s2 => some (none, s2) := by
  rw [b_116, e, zO256, zO257, zO258, zO259, zO260, zO261, zO262, if_neg (z_ne (a := 258 + j) (b := 256) (by omega) (by omega) (by omega)), if_neg (z_ne (a := 258 + j) (b := 257) (by omega) (by omega) (by omega))]
  by_cases h0 : j = 0
  · subst h0
    rw [if_pos rfl]
  rw [if_neg (z_ne (a := 258 + j) (b := 258) (by omega) (by omega) (by omega))]
  by_cases h1 : j = 1
  · subst h1
    rw [if_pos rfl]
  rw [if_neg (z_ne (a := 258 + j) (b := 259) (by omega) (by omega) (by omega))]
  by_cases h2 : j = 2
  · subst h2
    rw [if_pos rfl]
  rw [if_neg (z_ne (a := 258 + j) (b := 260) (by omega) (by omega) (by omega))]
  by_cases h3 : j = 3
  · subst h3
    rw [if_pos rfl]
  rw [if_neg (z_ne (a := 258 + j) (b := 261) (by omega) (by omega) (by omega))]
  have h4 : j = 4 := by omega
  subst h4
  rw [if_pos rfl]
theorem c116_n {s : u_H} {k : Nat} (hk : k < 4000) (hn : k < 256 ∨ 262 < k) (e : s.1 27 4 = zi k) : u_c 116 [.inr (.inr 29)] s = u_bv (u_c 127 [.inr (.inr 29), .inl (Int32.ofInt 2)] s) fun s1 => u_bv (u_c 106 [.inr (.inr 29), .inl (Int32.ofInt 59)] s1) fun s2 => some (none, s2) := by
  rw [b_116, e, zO256, zO257, zO258, zO259, zO260, zO261, zO262, if_neg (z_ne (b := 256) hk (by omega) (by omega)), if_neg (z_ne (b := 257) hk (by omega) (by omega)), if_neg (z_ne (b := 258) hk (by omega) (by omega)), if_neg (z_ne (b := 259) hk (by omega) (by omega)), if_neg (z_ne (b := 260) hk (by omega) (by omega)), if_neg (z_ne (b := 261) hk (by omega) (by omega)), if_neg (z_ne (b := 262) hk (by omega) (by omega))]
/-- the bit that tells it -/
theorem fb_c {m j : Nat} (hm : m < 32) (hj : j < 5) : ((zi (4 * m) &&& (Int32.ofInt 1 <<< ((zi (258 + j) - u_k 256) &&& 31))) = 0 ↔ fB m j = false) ∧ zi (4 * m) ||| (Int32.ofInt 1 <<< ((zi (258 + j) - u_k 256) &&& 31)) = zi (4 * fU m j) := by
  rw [show u_k 256 = zi 256 from u_kz 256]
  exact fb_all ⟨m, hm⟩ ⟨j, hj⟩
/-- what makes a line's head wrong -/
def pW (a b m : Nat) (τ : f_T) : Prop := (τ.2.1 = 256 → a = 5) ∧ (τ.2.1 = 257 → b = 7) ∧ ∀ j, j < 5 → τ.2.1 = 258 + j → fB m j = true
theorem c116_w (hW : W = 5 ∨ W = 17) {a b m : Nat} {s s1 : u_H} {k : Nat} (hk : k < 4000) (e : s.1 27 4 = zi k) (hi : s.2.2.2.2.1 = W) (h0 : s.1 (W - 2) 0 = zi a) (h4 : s.1 (W - 2) 4 = zi b) (h7 : s.1 27 7 = zi (4 * m)) (hm : m < 32) (w1 : k = 256 → a = 5) (w2 : k = 257 → b = 7) (w3 : ∀ j, j < 5 → k = 258 + j → fB m j = true) (e1 : u_c 127 [.inr (.inr 29), .inl (Int32.ofInt 2)] s = some (none, s1)) : u_c 116 [.inr (.inr 29)] s = u_bv (u_c 106 [.inr (.inr 29), .inl (Int32.ofInt 59)] s1) fun s => some (none, s) := by
  by_cases k0 : k = 256
  · subst k0
    rw [c116_s e, b_122 hW, if_pos hi, h0, w1 rfl, if_neg (show ¬ zi 5 < Int32.ofInt 5 by decide), e1, u_bvS, u_bvS]
  by_cases k1 : k = 257
  · subst k1
    rw [c116_p e, b_121 hW, if_pos hi, h4, w2 rfl, if_neg (show ¬ zi 7 < Int32.ofInt 7 by decide), e1, u_bvS, u_bvS]
  by_cases k2 : 258 ≤ k ∧ k ≤ 262
  · obtain ⟨j, rfl⟩ : ∃ j, k = 258 + j := ⟨k - 258, by omega⟩
    have hj : j < 5 := by omega
    have hb : ¬ (s.1 27 7 &&& (Int32.ofInt 1 <<< ((zi (258 + j) - u_k 256) &&& 31))) = 0 := by
      rw [h7, (fb_c hm hj).1, w3 j hj rfl]
      decide
    rw [c116_k hj e, b_119 hW, if_neg hb, e1, u_bvS, u_bvS]
  · rw [c116_n hk (by omega) e, e1, u_bvS]
theorem m282_w (h : jN ch n τ sC sM) {a b m : Nat} (h41 : sM.1 65 41 = zi a) (h42 : sM.1 65 42 = zi b) (hf : ∀ j, j < 5 → sM.1 65 (fg j) = zb (fB m j)) (hw : pW a b m τ) : u_c 282 [.inr (.inr 67)] sM = u_bv (u_c 324 [.inr (.inr 67), .inl (zi 2)] sM) fun s3 => u g_t282 236 (u_z1, u_z2, [(0, 67)]) [] s3 := by
  obtain ⟨w1, w2, w3⟩ := hw
  have hz : ∀ j, j < 5 → τ.2.1 = 258 + j → ¬ sM.1 65 (fg j) = 0 := fun j hj e => by
    rw [hf j hj, w3 j hj e]
    exact zb_yes
  rw [m_0N h (fun e => by rw [h41, w1 e]; decide) (fun e => by rw [h42, w2 e]; decide), m_51N h (hz 4 (by omega)), m_90N h (hz 0 (by omega)) (hz 1 (by omega)), m_152N h (hz 2 (by omega)), m_191W h (hz 3 (by omega))]
/-- a line that begins wrong -/
theorem p_lineW (hW : W = 5 ∨ W = 17) (hT : tx_T ch n) (hj : jT ch n W sC sM) (h : jN ch n τ sC sM) {a b m : Nat} (hD : jD W a b m sC sM) (hw : pW a b m τ) {r : Option (q_V Int32) × u_H} (hr : u_c 282 [.inr (.inr 67)] sM = some r) : pL ch n W (a + b + fc m + 1) sC sM r := by
  obtain ⟨⟨NS, NP, x1, x2⟩, x3, x4, x5⟩ := hD
  obtain ⟨s1, s2, f, q, e1, e2, e3, e4, e5, e6⟩ := p_wrong (p_nJ hj h) hT (x := 2) (by omega) (by omega)
  have hV := h.1
  have hV5 := hV.2.2.2.2.1
  refine p_close hW hT (sC1 := s1) (sM1 := s2) (li := u_z1) (ll := u_z2) (p_wJ e3 e4) (e5.mono (fun o k q => fC_L hW q)) (e6.mono (fun o k q => fM_L q)) (fun h0 => absurd h0 (jC_ne e4)) ?_ ?_ hr
  · exact c116_w hW (a := a) (b := b) (m := m) (by omega) h.2.1.2.1 hj.2.2 x1.2.1 x2.2.1 x3.2.1 x3.1 hw.1 hw.2.1 hw.2.2 e1
  · rw [m282_w h x1.2.2.1 x2.2.2.1 x3.2.2 hw, e2, u_bvS]
/-- the text's fault at a line's head: the class has it already -/
theorem p_lineX (hT : tx_T ch n) (hj : jT ch n W sC sM) (h : jN ch n τ sC sM) (hk : τ.2.1 = 276) {a b m : Nat} (hD : jD W a b m sC sM) : ∃ sM2, u_c 282 [.inr (.inr 67)] sM = some (none, sM2) ∧ jT ch n W sC sM2 ∧ jC 1 τ.1 sC sM2 ∧ u_fr tx_M sM sM2 := by
  obtain ⟨⟨NS, NP, x1, x2⟩, x3, x4, x5⟩ := hD
  obtain ⟨s1, s2, f, q, e1, e2, e3, e4, e5, e6⟩ := p_wrong (p_nJ hj h) hT (x := 2) (by omega) (by omega)
  have h' := h
  obtain ⟨hV, ⟨c1, c2, c3, c4, c5, c6⟩, m1, m2, m3, m4, m5, m6, m7⟩ := h'
  obtain ⟨y1, y2⟩ := c6 hk
  have hn := hT.1
  have hV1 := hV.1
  have e9 : u_c 324 [.inr (.inr 67), .inl (zi 2)] sM = some (none, (y_u (y_u sM.1 65 2 (Int32.ofInt 1)) 65 3 (sM.1 65 7), sM.2)) := by
    rw [b_324, m6, if_neg z_lt00, m2, hk, if_pos (show tx_so 276 = Int32.ofInt 3 from rfl)]
  rw [e2] at e9
  have e9 : s2 = (y_u (y_u sM.1 65 2 (Int32.ofInt 1)) 65 3 (sM.1 65 7), sM.2) := congrArg Prod.snd (Option.some.inj e9)
  refine ⟨s2, ?_, ⟨hj.1, e3.2.1, hj.2.2⟩, ⟨by omega, by omega, by omega, y1, y2, by rw [c2, hk], ?_, ?_⟩, e6⟩
  · rw [m282_w h (a := a) (b := b) (m := m) x1.2.2.1 x2.2.2.1 x3.2.2 ⟨fun e => absurd e (by omega), fun e => absurd e (by omega), fun j hj e => absurd e (by omega)⟩, e2, u_bvS, b_282_236, if_neg (jC_ne e4), if_neg (jC_ne e4)]
  · rw [e9]
    show y_u (y_u sM.1 65 2 (Int32.ofInt 1)) 65 3 (sM.1 65 7) 65 2 = _
    rw [y_uN (by omega), y_uE]
    rfl
  · rw [e9]
    show y_u (y_u sM.1 65 2 (Int32.ofInt 1)) 65 3 (sM.1 65 7) 65 3 = _
    rw [y_uE, m1]
end HEAD
