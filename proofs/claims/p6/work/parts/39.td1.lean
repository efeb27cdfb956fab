/-! what was told of ships -/
section DATA
variable {ch : Nat → Int32} {n W : Nat} {sC sM : u_H}
theorem jN_fr {P Q : Nat → Nat → Prop} {sC2 sM2 : u_H} {τ : f_T} (h : jN ch n τ sC sM) (h1 : u_fr P sC sC2) (h2 : u_fr Q sM sM2) (hP : ∀ k, 2 ≤ k → k ≠ 7 → ¬ P 27 k) (hQ : ∀ k, 2 ≤ k → k ≤ 9 → k ≠ 5 → ¬ Q 65 k) : jN ch n τ sC2 sM2 := by
  obtain ⟨hV, ⟨c1, c2, c3, c4, c5, c6⟩, m1, m2, m3, m4, m5, m6, m7⟩ := h
  have ci : ∀ k, 2 ≤ k → k ≠ 7 → sC2.1 27 k = sC.1 27 k := fun k a b => h1.i (hP k a b)
  have mi : ∀ k, 2 ≤ k → k ≤ 9 → k ≠ 5 → sM2.1 65 k = sM.1 65 k := fun k a b c => h2.i (hQ k a b c)
  refine ⟨hV, ⟨?_, ?_, fun a => ?_, fun a => ?_, fun a b => ?_, fun a => ?_⟩, ?_, ?_, ?_, fun a => ?_, fun a b => ?_, ?_, ?_⟩
  · rw [ci 3 (by omega) (by omega)]; exact c1
  · rw [ci 4 (by omega) (by omega)]; exact c2
  · rw [ci 2 (by omega) (by omega), ci 8 (by omega) (by omega), ci 9 (by omega) (by omega)]; exact c3 a
  · rw [ci 5 (by omega) (by omega)]; exact c4 a
  · rw [h1.l (hP 6 (by omega) (by omega))]; exact c5 a b
  · rw [ci 8 (by omega) (by omega), ci 9 (by omega) (by omega)]; exact c6 a
  · rw [mi 7 (by omega) (by omega) (by omega)]; exact m1
  · rw [mi 6 (by omega) (by omega) (by omega)]; exact m2
  · rw [mi 4 (by omega) (by omega) (by omega)]; exact m3
  · rw [mi 8 (by omega) (by omega) (by omega)]; exact m4 a
  · rw [h2.l (hQ 9 (by omega) (by omega) (by omega))]; exact m5 a b
  · rw [mi 2 (by omega) (by omega) (by omega)]; exact m6
  · rw [mi 3 (by omega) (by omega) (by omega)]; exact m7
theorem jC_fr {P Q : Nat → Nat → Prop} {sC2 sM2 : u_H} {f q : Nat} (h : jC f q sC sM) (h1 : u_fr P sC sC2) (h2 : u_fr Q sM sM2) (hP : ∀ k, 2 ≤ k → k ≠ 7 → ¬ P 27 k) (hQ : ∀ k, 2 ≤ k → k ≤ 9 → k ≠ 5 → ¬ Q 65 k) : jC f q sC2 sM2 := by
  obtain ⟨f1, f5, hq, k1, k2, k3, k4, k5⟩ := h
  refine ⟨f1, f5, hq, ?_, ?_, ?_, ?_, ?_⟩
  · rw [h1.i (hP 8 (by omega) (by omega))]; exact k1
  · rw [h1.i (hP 9 (by omega) (by omega))]; exact k2
  · rw [h1.i (hP 4 (by omega) (by omega))]; exact k3
  · rw [h2.i (hQ 2 (by omega) (by omega) (by omega))]; exact k4
  · rw [h2.i (hQ 3 (by omega) (by omega) (by omega))]; exact k5
theorem jJ_fr {P Q : Nat → Nat → Prop} {sC2 sM2 : u_H} (h : jJ ch n W sC sM) (h1 : u_fr P sC sC2) (h2 : u_fr Q sM sM2) (hP : ∀ k, 2 ≤ k → k ≠ 7 → ¬ P 27 k) (hP1 : ¬ P 1 1) (hP2 : ∀ k, ¬ P 2 k) (hQ : ∀ k, 2 ≤ k → k ≤ 9 → ¬ Q 65 k) (hQ2 : ∀ k, ¬ Q 66 k) : jJ ch n W sC2 sM2 := by
  refine ⟨jT_fr h.1 h1 h2 hP1 hP2 (hQ 5 (by omega) (by omega)) hQ2, ?_⟩
  rcases h.2 with ⟨τ, h⟩ | ⟨f, q, h⟩
  · exact Or.inl ⟨τ, jN_fr h h1 h2 hP (fun k a b _ => hQ k a b)⟩
  · exact Or.inr ⟨f, q, jC_fr h h1 h2 hP (fun k a b _ => hQ k a b)⟩
abbrev pO (o : Nat) : Nat → Nat → Prop := fun o2 _ => o2 = o
/-- a write of the class's elsewhere -/
theorem jJ_Ci (h : jJ ch n W sC sM) {o k : Nat} {x : Int32} (h27 : o ≠ 27) (h1 : o ≠ 1) (h2 : o ≠ 2) : jJ ch n W (y_u sC.1 o k x, sC.2) sM := jJ_fr (P := pO o) (Q := fun _ _ => False) h (u_fr.wi (f := sC.1) (r := sC.2) u_fr.rf rfl) u_fr.rf (fun k _ _ e => h27 e.symm) (fun e => h1 e.symm) (fun k e => h2 e.symm) (fun _ _ _ e => e) (fun _ e => e)
theorem jJ_Cl (h : jJ ch n W sC sM) {o k : Nat} {x : Int64} (h27 : o ≠ 27) (h1 : o ≠ 1) (h2 : o ≠ 2) : jJ ch n W (sC.1, y_u sC.2.1 o k x, sC.2.2) sM := jJ_fr (P := pO o) (Q := fun _ _ => False) h (u_fr.wl (f := sC.1) (g := sC.2.1) (r := sC.2.2) u_fr.rf rfl) u_fr.rf (fun k _ _ e => h27 e.symm) (fun e => h1 e.symm) (fun k e => h2 e.symm) (fun _ _ _ e => e) (fun _ e => e)
theorem jJ_Mi (h : jJ ch n W sC sM) {o k : Nat} {x : Int32} (h1 : o ≠ 65 ∨ 9 < k) (h2 : o ≠ 66) : jJ ch n W sC (y_u sM.1 o k x, sM.2) := jJ_fr (P := fun _ _ => False) (Q := fun o2 k2 => o2 = o ∧ k2 = k) h u_fr.rf (u_fr.wi (f := sM.1) (r := sM.2) u_fr.rf ⟨rfl, rfl⟩) (fun _ _ _ e => e) (fun e => e) (fun _ e => e) (fun k2 a b e => by omega) (fun _ e => h2 e.1.symm)
def dS (W a : Nat) (NS : Nat → List Nat) (sC sM : u_H) : Prop := a ≤ 5 ∧ sC.1 (W - 2) 0 = zi a ∧ sM.1 65 41 = zi a ∧ nmC (W - 1) a NS sC ∧ nmM 0 a NS sM ∧ (∀ j k, j < a → k < a → NS j = NS k → j = k) ∧ ∀ k, k < a → sC.1 W k = sM.1 75 k ∧ sC.1 (W + 1) k = sM.1 76 k
/-- what a ship's line writes -/
def fCs (W o k : Nat) : Prop := tx_C o k ∨ (o = W - 2 ∧ k = 0) ∨ o = W - 1 ∨ o = W ∨ o = W + 1
def fMs (o k : Nat) : Prop := tx_M o k ∨ (o = 65 ∧ k = 41) ∨ (o = 67 ∧ k < 5) ∨ o = 75 ∨ o = 76
theorem k268 : u_k 268 = zi (256 + 12) := u_kz 268
theorem k269 : u_k 269 = zi 269 := u_kz 269
theorem p_readShip (hW : W = 5 ∨ W = 17) (hT : tx_T ch n) (hj : jT ch n W sC sM) {τ : f_T} (h : jN ch n τ sC sM) (hk : τ.2.1 ≠ 276) {a : Nat} {NS : Nat → List Nat} (ha : a < 5) (hD : dS W a NS sC sM) : ∃ sC2 sM2, u_c 122 [.inr (.inr 29)] sC = some (none, sC2) ∧ u_c 284 [.inr (.inr 67)] sM = some (none, sM2) ∧ jJ ch n W sC2 sM2 ∧ u_fr (fCs W) sC sC2 ∧ u_fr fMs sM sM2 ∧ (sM2.1 65 2 = 0 → ∃ NS2, dS W (a + 1) NS2 sC2 sM2) := by
  obtain ⟨d1, d2, d3, d4, d5, d6, d7⟩ := hD
  have hW27 : W - 1 ≠ 27 ∧ W ≠ 27 ∧ W + 1 ≠ 27 ∧ W - 2 ≠ 27 ∧ W - 1 ≠ 1 ∧ W - 1 ≠ 2 ∧ W ≠ 1 ∧ W ≠ 2 ∧ W + 1 ≠ 1 ∧ W + 1 ≠ 2 ∧ W - 2 ≠ 1 ∧ W - 2 ≠ 2 ∧ 3 ≤ W := by omega
  obtain ⟨w1, w2, w3, w4, w5, w6, w7, w8, w9, w10, w11, w12, w13⟩ := hW27
  obtain ⟨sC1, nm, sC2, sM2, e1, e2, e3, e4, e5, e6, e7, e8⟩ := p_newName (ref := W + 1) (o := W - 1) (fr := 0) (cnt := a) (NM := NS) hT hj h hk w1 (by omega) (by omega) (fun s => b_117s hW (zi a) s) (fun s l x y => c_find_s hW (by omega) x y) d4 d5
  rw [Nat.zero_add] at e7 e8
  have hin : u_in (zi a) 5 = true := (u_inz (by omega)).mpr (by omega)
  have hcl : (zi a).toNatClampNeg = a := zi_clamp (by omega)
  -- the name is stored
  have j2 : jJ ch n W (sC2.1, y_u sC2.2.1 (W - 1) a nm, sC2.2.2) sM2 := jJ_Cl e5 w1 w5 w6
  obtain ⟨sC4, sM4, g1, g2, ⟨g3, g4, g5⟩, g6⟩ := p_expect hT j2 (i := 12) (N := 495555538035) (w := [19, 1, 9, 12, 19]) rfl rfl
  obtain ⟨vC, vM, sC5, sM5, h1, h2, ⟨h3, h4, h5⟩, h6⟩ := p_number hT g3 (lo := 0) (hi := 240) (by omega) (by omega)
  have frC2 : u_fr (fun o k => tx_C o k ∨ o = W - 1) sC (sC2.1, y_u sC2.2.1 (W - 1) a nm, sC2.2.2) := u_fr.wl (f := sC2.1) (g := sC2.2.1) (r := sC2.2.2) (e6.mono (fun o k q => Or.inl q)) (Or.inr rfl)
  have frC5 : u_fr (fun o k => tx_C o k ∨ o = W - 1) sC sC5 := frC2.tr ((g4.tr h4).mono (fun o k q => Or.inl q))
  have frM5 : u_fr (tx_MN a) sM sM5 := e7.tr ((g5.tr h5).mono (fun o k q => Or.inl q))
  have hs1 : sM2.1 65 41 = zi a := by rw [e7.i (fun q => by rcases q with q | q <;> (have := q.2; omega))]; exact d3
  have hs4 : sM5.1 65 41 = zi a := by rw [frM5.i (fun q => by rcases q with q | q <;> (have := q.2; omega))]; exact d3
  have hc5 : sC5.1 (W - 2) 0 = zi a := by rw [frC5.i (fun q => by rcases q with q | q; exact tx_Cnn w4 q; omega)]; exact d2
  have hinto5 : sC5.2.2.2.2.1 = W := h3.1.2.2
  -- waits: none at first
  have mtold : ∀ s s2 : u_H, s = sM2 → u_c 310 [.inr (.inr 67), .inr (.inl (u_k6 495555538035)), .inl (Int32.ofInt 0), .inl (u_k 240)] s = some (some (.inl vM), sM5) := by
    intro s s2 hs
    subst hs
    rw [b_310, g2, u_bvS, show (Int32.ofInt 0) = zi 0 from rfl, show u_k 240 = zi 240 from u_kz 240, h2, u_biS]
  have j5 : jJ ch n W (y_u (y_u sC5.1 W a vC) (W + 1) a (Int32.ofInt 0), sC5.2) (y_u sM5.1 75 a vM, sM5.2) := jJ_Mi (jJ_Ci (sC := (y_u sC5.1 W a vC, sC5.2)) (jJ_Ci h3 w2 w7 w8) w3 w9 w10) (Or.inl (by omega)) (by omega)
  have frC6 : u_fr (fCs W) sC (y_u (y_u sC5.1 W a vC) (W + 1) a (Int32.ofInt 0), sC5.2) := u_fr.wi (u_fr.wi (f := sC5.1) (r := sC5.2) (frC5.mono (fun o k q => by rcases q with q | q; exact Or.inl q; exact Or.inr (Or.inr (Or.inl q)))) (Or.inr (Or.inr (Or.inr (Or.inl rfl))))) (Or.inr (Or.inr (Or.inr (Or.inr rfl))))
  have frM6 : u_fr fMs sM (y_u sM5.1 75 a vM, sM5.2) := u_fr.wi (f := sM5.1) (r := sM5.2) (frM5.mono (fun o k q => by rcases q with q | q; exact Or.inl q; exact Or.inr (Or.inr (Or.inl ⟨q.1, by omega⟩)))) (Or.inr (Or.inr (Or.inr (Or.inl rfl))))
  -- what holds if there is no fault behind it
  have fin : ∀ (sCx sMx : u_H) (xC xM : Int32), u_fr tx_C (y_u (y_u sC5.1 W a vC) (W + 1) a (Int32.ofInt 0), sC5.2) sCx → u_fr tx_M (y_u sM5.1 75 a vM, sM5.2) sMx → (sMx.1 65 2 = 0 → sM5.1 65 2 = 0 ∧ xC = xM) → (sMx.1 65 2 = 0 → ∃ NS2, dS W (a + 1) NS2 (y_u (y_u sCx.1 (W + 1) a xC) (W - 2) 0 (zi (a + 1)), sCx.2) (y_u (y_u sMx.1 76 a xM) 65 41 (zi (a + 1)), sMx.2)) := by
    intro sCx sMx xC xM fC fM hf h0
    obtain ⟨q5, qx⟩ := hf h0
    obtain ⟨τ4, n4, k4, l4, u4, v4, v5, n5⟩ := h6 q5
    have q4 : sM4.1 65 2 = 0 := n4.2.2.2.2.2.2.2.1
    obtain ⟨τ2, n2, k2, n4'⟩ := g6 q4
    obtain ⟨l, l8, lC, lM, lN⟩ := e8 n2.2.2.2.2.2.2.2.1
    have lMx : sMx.2.1 67 a = zl (tx_nW l) := by
      rw [fM.l (tx_Mn 67 _ (by omega))]
      show sM5.2.1 67 a = _
      rw [(g5.tr h5).l (tx_Mn 67 _ (by omega))]
      exact lM
    have lCx : sCx.2.1 (W - 1) a = zl (tx_nN l) := by
      rw [fC.l (tx_Cnn w1)]
      show sC5.2.1 (W - 1) a = _
      rw [(g4.tr h4).l (tx_Cnn w1)]
      exact (y_uE _ _ _ _).trans lC
    have oC : ∀ k, k < a → sCx.2.1 (W - 1) k = sC.2.1 (W - 1) k := by
      intro k hk
      rw [fC.l (tx_Cnn w1)]
      show sC5.2.1 (W - 1) k = _
      rw [(g4.tr h4).l (tx_Cnn w1)]
      exact (y_uN (by omega)).trans (e6.l (tx_Cnn w1))
    have oM : ∀ k, k < a → sMx.2.1 67 k = sM.2.1 67 k := by
      intro k hk
      rw [fM.l (tx_Mn 67 _ (by omega))]
      show sM5.2.1 67 k = _
      rw [frM5.l (fun q => by rcases q with q | q; exact absurd q.1 (by omega); omega)]
    refine ⟨fun k => if k = a then l else NS k, by omega, ?_, ?_, ?_, ?_, ?_, ?_⟩
    · exact y_uE _ _ _ _
    · exact y_uE (y_u sMx.1 76 a xM) 65 41 _
    · intro k hk
      by_cases e : k = a
      · subst e
        show tx_n8 (if k = k then l else NS k) ∧ sCx.2.1 (W - 1) k = zl (tx_nN (if k = k then l else NS k))
        rw [if_pos rfl]
        exact ⟨l8, lCx⟩
      · show tx_n8 (if k = a then l else NS k) ∧ sCx.2.1 (W - 1) k = zl (tx_nN (if k = a then l else NS k))
        rw [if_neg e, oC k (by omega)]
        exact d4 k (by omega)
    · intro k hk
      rw [Nat.zero_add]
      by_cases e : k = a
      · subst e
        show sMx.2.1 67 k = zl (tx_nW (if k = k then l else NS k))
        rw [if_pos rfl]
        exact lMx
      · show sMx.2.1 67 k = zl (tx_nW (if k = a then l else NS k))
        rw [if_neg e, oM k (by omega)]
        have := d5 k (by omega)
        rwa [Nat.zero_add] at this
    · intro j k hj hk
      dsimp only
      by_cases e : j = a
      · by_cases e2 : k = a
        · intro _
          omega
        · rw [if_pos e, if_neg e2]
          intro q
          exact absurd q.symm (tx_lasN a k lN (by omega))
      · by_cases e2 : k = a
        · rw [if_neg e, if_pos e2]
          intro q
          exact absurd q (tx_lasN a j lN (by omega))
        · rw [if_neg e, if_neg e2]
          exact d6 j k (by omega) (by omega)
    · intro k hk
      have xW : sCx.1 W k = (y_u sC5.1 W a vC) W k := by
        rw [fC.i (tx_Cnn w2)]
        exact y_uN (by omega)
      have xW1 : sCx.1 (W + 1) k = (y_u (y_u sC5.1 W a vC) (W + 1) a (Int32.ofInt 0)) (W + 1) k := fC.i (tx_Cnn w3)
      have x75 : sMx.1 75 k = (y_u sM5.1 75 a vM) 75 k := fM.i (tx_Mn 75 _ (by omega))
      have x76 : sMx.1 76 k = sM5.1 76 k := (fM.i (tx_Mn 76 _ (by omega))).trans (show y_u sM5.1 75 a vM 76 k = sM5.1 76 k from y_uN (by omega))
      show y_u (y_u sCx.1 (W + 1) a xC) (W - 2) 0 (zi (a + 1)) W k = y_u (y_u sMx.1 76 a xM) 65 41 (zi (a + 1)) 75 k ∧ y_u (y_u sCx.1 (W + 1) a xC) (W - 2) 0 (zi (a + 1)) (W + 1) k = y_u (y_u sMx.1 76 a xM) 65 41 (zi (a + 1)) 76 k
      have l1 : y_u (y_u sCx.1 (W + 1) a xC) (W - 2) 0 (zi (a + 1)) W k = sCx.1 W k := by rw [y_uN (by omega), y_uN (by omega)]
      have l2 : y_u (y_u sMx.1 76 a xM) 65 41 (zi (a + 1)) 75 k = sMx.1 75 k := by rw [y_uN (by omega), y_uN (by omega)]
      have l3 : y_u (y_u sCx.1 (W + 1) a xC) (W - 2) 0 (zi (a + 1)) (W + 1) k = y_u sCx.1 (W + 1) a xC (W + 1) k := y_uN (by omega)
      have l4 : y_u (y_u sMx.1 76 a xM) 65 41 (zi (a + 1)) 76 k = y_u sMx.1 76 a xM 76 k := y_uN (by omega)
      rw [l1, l2, l3, l4, xW, x75]
      by_cases e : k = a
      · subst e
        rw [y_uE, y_uE, y_uE, y_uE, v4, v5]
        exact ⟨rfl, qx⟩
      · have l5 : y_u sC5.1 W a vC W k = sC5.1 W k := y_uN (by omega)
        have l6 : y_u sM5.1 75 a vM 75 k = sM5.1 75 k := y_uN (by omega)
        have l7 : y_u sCx.1 (W + 1) a xC (W + 1) k = sCx.1 (W + 1) k := y_uN (by omega)
        have l8 : y_u sMx.1 76 a xM 76 k = sMx.1 76 k := y_uN (by omega)
        have l9 : y_u (y_u sC5.1 W a vC) (W + 1) a (Int32.ofInt 0) (W + 1) k = sC5.1 (W + 1) k := by rw [y_uN (by omega), y_uN (by omega)]
        rw [l5, l6, l7, l8, xW1, x76, l9]
        rw [frC5.i (fun q => by rcases q with q | q; exact tx_Cnn w2 q; omega), frC5.i (fun q => by rcases q with q | q; exact tx_Cnn w3 q; omega), frM5.i (fun q => by rcases q with q | q; exact absurd q.1 (by omega); omega), frM5.i (fun q => by rcases q with q | q; exact absurd q.1 (by omega); omega)]
        exact d7 k (by omega)
  -- the class up to the test of waits
  have cls : ∀ r : u_R, (if sC5.1 27 4 = u_k 269 then
      u_bv (u_c 105 [.inr (.inr 29)] (y_u (y_u sC5.1 W a vC) (W + 1) a (Int32.ofInt 0), sC5.2)) fun s7 =>
        if s7.2.2.2.2.1 = W then
          u_bi (u_c 118 [.inr (.inr 29), .inl (Int32.ofInt 0), .inl (Int32.ofInt 60)] s7) fun x9 s8 =>
            if s8.2.2.2.2.1 = W then
              some (none, (y_u (y_u s8.1 (W + 1) a x9) (W - 2) 0 (s8.1 (W - 2) 0 + Int32.ofInt 1), s8.2))
            else u g_t122 112 (u_l1 u_z1 1 (zi a), u_z2, [(0, 29)]) [.inr (.inr s8.2.2.2.2.1)] (y_u s8.1 (W + 1) a x9, s8.2)
        else u g_t122 96 (u_l1 u_z1 1 (zi a), u_z2, [(0, 29)]) [.inr (.inr s7.2.2.2.2.1)] s7
    else some (none, (y_u (y_u (y_u sC5.1 W a vC) (W + 1) a (Int32.ofInt 0)) (W - 2) 0 (zi a + Int32.ofInt 1), sC5.2))) = r → u_c 122 [.inr (.inr 29)] sC = r := by
    intro r hr
    rw [← hr, b_122 hW, if_pos hj.2.2, d2, if_pos (by rw [show Int32.ofInt 5 = zi 5 from rfl, zi_lt (by omega) (by omega)]; omega), e1, u_bvS, if_pos e2, if_pos e2, e3, u_blS, if_pos hin, hcl, k268, g1, u_bvS, if_pos g3.1.2.2, show (Int32.ofInt 0) = zi 0 from rfl, show u_k 240 = zi 240 from u_kz 240, h1, u_biS, if_pos hin, if_pos hinto5, if_pos hin, hc5]
    simp only [if_pos hin, if_pos hinto5]
  have mdl : ∀ (r : u_R) (x5 : Int32) (s4 : u_H), u_c 258 [.inr (.inr 67), .inr (.inl (u_k6 512735409267)), .inl (Int32.ofInt 60), .inl (Int32.ofInt 0)] (y_u sM5.1 75 a vM, sM5.2) = some (some (.inl x5), s4) → (if s4.1 65 2 = 0 then some (none, (y_u (y_u s4.1 76 a x5) 65 41 (s4.1 65 41 + Int32.ofInt 1), s4.2)) else some (none, (y_u s4.1 76 a x5, s4.2))) = r → u_c 284 [.inr (.inr 67)] sM = r := by
    intro r x5 s4 h258 hr
    rw [← hr, b_284, d3, show (Int32.ofInt 0) = zi 0 from rfl, e4, u_bvS, ← show (Int32.ofInt 0) = zi 0 from rfl, mtold sM2 sM2 rfl, u_biS, hs1, if_pos hin, hcl, h258, u_biS, hs4, if_pos hin, hcl]
  have e413 : ∀ s : u_H, u_fr tx_M (y_u sM5.1 75 a vM, sM5.2) s → s.1 65 41 = zi a := fun s f => by
    rw [f.i (fun q => by have := q.2; omega)]
    exact (show y_u sM5.1 75 a vM 65 41 = sM5.1 65 41 from y_uN (by omega)).trans hs4
  have e20 : ∀ s : u_H, u_fr tx_C (y_u (y_u sC5.1 W a vC) (W + 1) a (Int32.ofInt 0), sC5.2) s → s.1 (W - 2) 0 = zi a := fun s f => by
    rw [f.i (tx_Cnn w4)]
    show y_u (y_u sC5.1 W a vC) (W + 1) a (Int32.ofInt 0) (W - 2) 0 = _
    rw [y_uN (by omega), y_uN (by omega)]
    exact hc5
  have k64 : (y_u (y_u sC5.1 W a vC) (W + 1) a (Int32.ofInt 0) : Nat → Nat → Int32) 27 4 = sC5.1 27 4 := by rw [y_uN (by omega), y_uN (by omega)]
  have q62 : (y_u sM5.1 75 a vM : Nat → Nat → Int32) 65 2 = sM5.1 65 2 := y_uN (by omega)
  have j5' := j5
  obtain ⟨t5, h | h⟩ := j5'
  · obtain ⟨τ5, h⟩ := h
    have hisw := m_isw h (i := 13) (N := 512735409267) (w := [23, 1, 9, 20, 19]) rfl rfl
    have h' := h
    obtain ⟨hV, ⟨c1, c2, c3, c4, c5, c6⟩, m1, m2, m3, m4, m5, m6, m7⟩ := h'
    have hV5 := hV.2.2.2.2.1
    have c2' : sC5.1 27 4 = zi τ5.2.1 := k64.symm.trans c2
    by_cases hwt : τ5.2.1 = 269
    · obtain ⟨sC7, sM7, r1, r2, r3, r4, r5, r6⟩ := p_next hT t5 h (by omega)
      obtain ⟨vC2, vM2, sC8, sM8, s1, s2, ⟨s3, s4, s5⟩, s6⟩ := p_number hT (p_nJ r3 r4) (lo := 0) (hi := 60) (by omega) (by omega)
      have fC8 := r5.tr s4
      have fM8 := r6.tr s5
      have h258 : u_c 258 [.inr (.inr 67), .inr (.inl (u_k6 512735409267)), .inl (Int32.ofInt 60), .inl (Int32.ofInt 0)] (y_u sM5.1 75 a vM, sM5.2) = some (some (.inl vM2), sM8) := by
        rw [b_258, if_pos m6, hisw, u_biS, decide_eq_true hwt, if_neg zb_yes, b_310, b_318, m6, if_neg z_lt00, hisw, u_biS, decide_eq_true hwt, if_neg zb_yes, r2, u_bvS, u_bvS, show (Int32.ofInt 0) = zi 0 from rfl, show (Int32.ofInt 60) = zi 60 from rfl, s2, u_biS, u_biS]
      have hcls : u_c 122 [.inr (.inr 29)] sC = some (none, (y_u (y_u sC8.1 (W + 1) a vC2) (W - 2) 0 (zi (a + 1)), sC8.2)) := by
        apply cls
        rw [if_pos (by rw [c2', hwt, k269]), r1, u_bvS, if_pos r3.2.2, show (Int32.ofInt 0) = zi 0 from rfl, show (Int32.ofInt 60) = zi 60 from rfl, s1, u_biS, if_pos s3.1.2.2, e20 sC8 fC8, zi_one]
      have jf : jJ ch n W (y_u (y_u sC8.1 (W + 1) a vC2) (W - 2) 0 (zi (a + 1)), sC8.2) (y_u sM8.1 76 a vM2, sM8.2) := jJ_Mi (jJ_Ci (sC := (y_u sC8.1 (W + 1) a vC2, sC8.2)) (jJ_Ci s3 w3 w9 w10) w4 w11 w12) (Or.inl (by omega)) (by omega)
      have frC9 : u_fr (fCs W) sC (y_u (y_u sC8.1 (W + 1) a vC2) (W - 2) 0 (zi (a + 1)), sC8.2) := u_fr.wi (u_fr.wi (f := sC8.1) (r := sC8.2) (frC6.tr (fC8.mono (fun o k q => Or.inl q))) (Or.inr (Or.inr (Or.inr (Or.inr rfl))))) (Or.inr (Or.inl ⟨rfl, rfl⟩))
      have frM9 : u_fr fMs sM (y_u sM8.1 76 a vM2, sM8.2) := u_fr.wi (f := sM8.1) (r := sM8.2) (frM6.tr (fM8.mono (fun o k q => Or.inl q))) (Or.inr (Or.inr (Or.inr (Or.inr rfl))))
      have F := fin sC8 sM8 vC2 vM2 fC8 fM8 (fun z => ⟨q62.symm.trans m6, by obtain ⟨τ7, _, _, _, _, x1, x2, _⟩ := s6 z; rw [x1, x2]⟩)
      by_cases z : sM8.1 65 2 = 0
      · refine ⟨_, _, hcls, mdl _ vM2 sM8 h258 (if_pos z), ?_, frC9, ?_, fun _ => ?_⟩
        · rw [e413 sM8 fM8, zi_one]
          exact jJ_Mi (sM := (y_u sM8.1 76 a vM2, sM8.2)) jf (Or.inr (by omega)) (by omega)
        · exact u_fr.wi frM9 (Or.inr (Or.inl ⟨rfl, rfl⟩))
        · rw [e413 sM8 fM8, zi_one]
          exact F z
      · refine ⟨_, _, hcls, mdl _ vM2 sM8 h258 (if_neg z), jf, frC9, frM9, fun y => ?_⟩
        have y2 : y_u sM8.1 76 a vM2 65 2 = 0 := y
        rw [y_uN (by omega)] at y2
        exact absurd y2 z
    · have h258 : u_c 258 [.inr (.inr 67), .inr (.inl (u_k6 512735409267)), .inl (Int32.ofInt 60), .inl (Int32.ofInt 0)] (y_u sM5.1 75 a vM, sM5.2) = some (some (.inl (Int32.ofInt 0)), (y_u sM5.1 75 a vM, sM5.2)) := by
        rw [b_258, if_pos m6, hisw, u_biS, decide_eq_false (show ¬ τ5.2.1 = 256 + 13 from hwt), if_pos zb_no]
      have hcls : u_c 122 [.inr (.inr 29)] sC = some (none, (y_u (y_u (y_u sC5.1 W a vC) (W + 1) a (Int32.ofInt 0)) (W - 2) 0 (zi (a + 1)), sC5.2)) := by
        apply cls
        rw [if_neg (by rw [c2', k269, zk_iff (by omega) (by omega)]; exact hwt), zi_one]
      have F := fin _ _ (Int32.ofInt 0) (Int32.ofInt 0) u_fr.rf u_fr.rf (fun z => ⟨q62.symm.trans m6, rfl⟩) m6
      dsimp only at F
      rw [y_uu] at F
      refine ⟨_, _, hcls, mdl _ (Int32.ofInt 0) _ h258 (if_pos m6), ?_, u_fr.wi frC6 (Or.inr (Or.inl ⟨rfl, rfl⟩)), ?_, fun _ => ?_⟩
      · exact jJ_Mi (sM := (y_u (y_u sM5.1 75 a vM) 76 a (Int32.ofInt 0), sM5.2)) (jJ_Mi (sM := (y_u sM5.1 75 a vM, sM5.2)) (jJ_Ci (sC := (y_u (y_u sC5.1 W a vC) (W + 1) a (Int32.ofInt 0), sC5.2)) j5 w4 w11 w12) (Or.inl (by omega)) (by omega)) (Or.inr (by omega)) (by omega)
      · exact u_fr.wi (u_fr.wi frM6 (Or.inr (Or.inr (Or.inr (Or.inr rfl))))) (Or.inr (Or.inl ⟨rfl, rfl⟩))
      · rw [e413 _ u_fr.rf, zi_one]
        exact F
  · obtain ⟨f, q, h⟩ := h
    have h' := h
    obtain ⟨f1, f5, hq, k1, k2, k3, k4, k5⟩ := h'
    have hne := jC_ne h
    have c2' : sC5.1 27 4 = zi 276 := k64.symm.trans k3
    have h258 : u_c 258 [.inr (.inr 67), .inr (.inl (u_k6 512735409267)), .inl (Int32.ofInt 60), .inl (Int32.ofInt 0)] (y_u sM5.1 75 a vM, sM5.2) = some (some (.inl (Int32.ofInt 0)), (y_u sM5.1 75 a vM, sM5.2)) := by
      rw [b_258, if_neg hne]
    have hcls : u_c 122 [.inr (.inr 29)] sC = some (none, (y_u (y_u (y_u sC5.1 W a vC) (W + 1) a (Int32.ofInt 0)) (W - 2) 0 (zi (a + 1)), sC5.2)) := by
      apply cls
      rw [if_neg (by rw [c2', k269, zk_iff (by omega) (by omega)]; omega), zi_one]
    refine ⟨_, _, hcls, mdl _ (Int32.ofInt 0) _ h258 (if_neg hne), ?_, u_fr.wi frC6 (Or.inr (Or.inl ⟨rfl, rfl⟩)), ?_, fun y => ?_⟩
    · exact jJ_Mi (sM := (y_u sM5.1 75 a vM, sM5.2)) (jJ_Ci (sC := (y_u (y_u sC5.1 W a vC) (W + 1) a (Int32.ofInt 0), sC5.2)) j5 w4 w11 w12) (Or.inl (by omega)) (by omega)
    · exact u_fr.wi frM6 (Or.inr (Or.inr (Or.inr (Or.inr rfl))))
    · have y2 : y_u (y_u sM5.1 75 a vM) 76 a (Int32.ofInt 0) 65 2 = 0 := y
      rw [y_uN (by omega)] at y2
      exact absurd y2 hne
end DATA
