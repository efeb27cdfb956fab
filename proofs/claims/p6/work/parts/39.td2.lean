/-! what was told of pairs -/
section PAIRS
variable {ch : Nat → Int32} {n W : Nat} {sC sM : u_H}
def dP (W a b : Nat) (NP : Nat → List Nat) (sC sM : u_H) : Prop := b ≤ 7 ∧ sC.1 (W - 2) 4 = zi b ∧ sM.1 65 42 = zi b ∧ nmC (W + 2) b NP sC ∧ nmM 5 b NP sM ∧ ∀ k, k < b → (∃ v, v < a ∧ sC.1 (W + 3) k = zi v ∧ sM.1 77 k = zi v) ∧ sC.1 (W + 4) k = sM.1 78 k ∧ sC.1 (W + 5) k = sM.1 79 k
def fCp (W o k : Nat) : Prop := tx_C o k ∨ (o = W - 2 ∧ k = 4) ∨ o = W + 2 ∨ o = W + 3 ∨ o = W + 4 ∨ o = W + 5
def fMp (o k : Nat) : Prop := tx_M o k ∨ (o = 65 ∧ k = 42) ∨ (o = 67 ∧ 5 ≤ k) ∨ o = 77 ∨ o = 78 ∨ o = 79
theorem dS_fr {P Q : Nat → Nat → Prop} {a : Nat} {NS : Nat → List Nat} {sC2 sM2 : u_H} (h : dS W a NS sC sM) (h1 : u_fr P sC sC2) (h2 : u_fr Q sM sM2) (p1 : ¬ P (W - 2) 0) (p2 : ∀ k, ¬ P (W - 1) k) (p3 : ∀ k, ¬ P W k) (p4 : ∀ k, ¬ P (W + 1) k) (q1 : ¬ Q 65 41) (q2 : ∀ k, k < 5 → ¬ Q 67 k) (q3 : ∀ k, ¬ Q 75 k) (q4 : ∀ k, ¬ Q 76 k) : dS W a NS sC2 sM2 := by
  obtain ⟨d1, d2, d3, d4, d5, d6, d7⟩ := h
  refine ⟨d1, (h1.i p1).trans d2, (h2.i q1).trans d3, fun k hk => ⟨(d4 k hk).1, (h1.l (p2 k)).trans (d4 k hk).2⟩, fun k hk => (h2.l (q2 (0 + k) (by omega))).trans (d5 k hk), d6, fun k hk => ?_⟩
  rw [h1.i (p3 k), h1.i (p4 k), h2.i (q3 k), h2.i (q4 k)]
  exact d7 k hk
theorem k256 : u_k 256 = zi (256 + 0) := u_kz 256
theorem k263 : u_k 263 = zi (256 + 7) := u_kz 263
theorem k264 : u_k 264 = zi 264 := u_kz 264
theorem p_readPair (hW : W = 5 ∨ W = 17) (hT : tx_T ch n) (hj : jT ch n W sC sM) {τ : f_T} (h : jN ch n τ sC sM) (hk : τ.2.1 ≠ 276) {a b : Nat} {NS NP : Nat → List Nat} (hb : b < 7) (hS : dS W a NS sC sM) (hD : dP W a b NP sC sM) : ∃ sC2 sM2, u_c 121 [.inr (.inr 29)] sC = some (none, sC2) ∧ u_c 283 [.inr (.inr 67)] sM = some (none, sM2) ∧ jJ ch n W sC2 sM2 ∧ u_fr (fCp W) sC sC2 ∧ u_fr fMp sM sM2 ∧ (sM2.1 65 2 = 0 → ∃ NP2, dP W a (b + 1) NP2 sC2 sM2) := by
  obtain ⟨d1, d2, d3, d4, d5, d7⟩ := hD
  have hWx : W - 2 ≠ 27 ∧ W + 2 ≠ 27 ∧ W + 3 ≠ 27 ∧ W + 4 ≠ 27 ∧ W + 5 ≠ 27 ∧ 5 ≤ W ∧ W - 2 ≠ 1 ∧ W - 2 ≠ 2 ∧ W - 1 ≠ 27 ∧ W ≠ 27 ∧ W + 1 ≠ 27 := by omega
  obtain ⟨w1, w2, w3, w4, w5, w6, w7, w8, w9, w10, w11⟩ := hWx
  obtain ⟨sC1, nm, sC2, sM2, e1, e2, e3, e4, e5, e6, e7, e8⟩ := p_newName (ref := W + 4) (o := W + 2) (fr := 5) (cnt := b) (NM := NP) hT hj h hk w2 (by omega) (by omega) (fun s => b_117q hW (zi b) s) (fun s l x y => c_find_q hW (by omega) x y) d4 d5
  have hin : u_in (zi b) 7 = true := (u_inz (by omega)).mpr (by omega)
  have hcl : (zi b).toNatClampNeg = b := zi_clamp (by omega)
  have j2 : jJ ch n W (sC2.1, y_u sC2.2.1 (W + 2) b nm, sC2.2.2) sM2 := jJ_Cl e5 w2 (by omega) (by omega)
  obtain ⟨sC4, sM4, g1, g2, ⟨g3, g4, g5⟩, g6⟩ := p_expect hT j2 (i := 0) (N := 1936222576) (w := [19, 8, 9, 16]) rfl rfl
  have frC2 : u_fr (fCp W) sC (sC2.1, y_u sC2.2.1 (W + 2) b nm, sC2.2.2) := u_fr.wl (f := sC2.1) (g := sC2.2.1) (r := sC2.2.2) (e6.mono (fun o k q => Or.inl q)) (Or.inr (Or.inr (Or.inl rfl)))
  have frC4 : u_fr (fCp W) sC sC4 := frC2.tr (g4.mono (fun o k q => Or.inl q))
  have frM4 : u_fr fMp sM sM4 := (e7.mono (fun o k q => by rcases q with q | q; exact Or.inl q; exact Or.inr (Or.inr (Or.inl ⟨q.1, by omega⟩)))).tr (g5.mono (fun o k q => Or.inl q))
  have nC : ∀ o k, o ≠ 27 → o ≠ W - 2 → o ≠ W + 2 → o ≠ W + 3 → o ≠ W + 4 → o ≠ W + 5 → ¬ fCp W o k := by
    intro o k a1 a2 a3 a4 a5 a6 q
    rcases q with q | q | q | q | q | q
    · exact a1 q.1
    · exact a2 q.1
    · exact a3 q
    · exact a4 q
    · exact a5 q
    · exact a6 q
  have nC0 : ∀ k, k ≠ 4 → ¬ fCp W (W - 2) k := by
    intro k a1 q
    rcases q with q | q | q | q | q | q
    · exact w1 q.1
    · exact a1 q.2
    all_goals omega
  have nM : ∀ o k, o ≠ 65 → o ≠ 67 → o ≠ 77 → o ≠ 78 → o ≠ 79 → ¬ fMp o k := by
    intro o k a1 a2 a3 a4 a5 q
    rcases q with q | q | q | q | q | q
    · exact a1 q.1
    · exact a1 q.1
    · exact a2 q.1
    · exact a3 q
    · exact a4 q
    · exact a5 q
  have nM65 : ∀ k, k ≠ 42 → 9 < k → ¬ fMp 65 k := by
    intro k a1 a2 q
    rcases q with q | q | q | q | q | q
    · have := q.2
      omega
    · exact a1 q.2
    all_goals omega
  have nM67 : ∀ k, k < 5 → ¬ fMp 67 k := by
    intro k a1 q
    rcases q with q | q | q | q | q | q
    · exact absurd q.1 (by omega)
    · exact absurd q.1 (by omega)
    · have := q.2
      omega
    all_goals omega
  have dSf : ∀ {sCx sMx : u_H}, u_fr (fCp W) sC sCx → u_fr fMp sM sMx → dS W a NS sCx sMx := fun f1 f2 => dS_fr hS f1 f2 (nC0 0 (by omega)) (fun k => nC _ k (by omega) (by omega) (by omega) (by omega) (by omega) (by omega)) (fun k => nC _ k (by omega) (by omega) (by omega) (by omega) (by omega) (by omega)) (fun k => nC _ k (by omega) (by omega) (by omega) (by omega) (by omega) (by omega)) (nM65 41 (by omega) (by omega)) nM67 (fun k => nM _ k (by omega) (by omega) (by omega) (by omega) (by omega)) (fun k => nM _ k (by omega) (by omega) (by omega) (by omega) (by omega))
  obtain ⟨s1, s2, s3, s4, s5, s6, s7⟩ := dSf frC4 frM4
  obtain ⟨vS1, vS2, sC5, sM5, h1, h2, ⟨h3, h4, h5⟩, h6⟩ := p_oldShip hW hT g3 s1 s6 s2 s3 s4 s5
  -- the ship is stored
  have j5 : jJ ch n W (y_u sC5.1 (W + 3) b vS1, sC5.2) (y_u sM5.1 77 b vS2, sM5.2) := jJ_Mi (jJ_Ci h3 w3 (by omega) (by omega)) (Or.inl (by omega)) (by omega)
  obtain ⟨sC6, sM6, p1, p2, ⟨p3, p4, p5⟩, p6⟩ := p_expect hT j5 (i := 7) (N := 474147546227) (w := [14, 5, 5, 4, 19]) rfl rfl
  obtain ⟨vN1, vN2, sC7, sM7, r1, r2, ⟨r3, r4, r5⟩, r6⟩ := p_number hT p3 (lo := 1) (hi := 30) (by omega) (by omega)
  have j8 : jJ ch n W (y_u (y_u sC7.1 (W + 4) b vN1) (W + 5) b (Int32.ofInt 1), sC7.2) (y_u sM7.1 78 b vN2, sM7.2) := jJ_Mi (jJ_Ci (sC := (y_u sC7.1 (W + 4) b vN1, sC7.2)) (jJ_Ci r3 w4 (by omega) (by omega)) w5 (by omega) (by omega)) (Or.inl (by omega)) (by omega)
  have frC5 : u_fr (fCp W) sC (y_u sC5.1 (W + 3) b vS1, sC5.2) := u_fr.wi (f := sC5.1) (r := sC5.2) (frC4.tr (h4.mono (fun o k q => Or.inl q))) (Or.inr (Or.inr (Or.inr (Or.inl rfl))))
  have frM5 : u_fr fMp sM (y_u sM5.1 77 b vS2, sM5.2) := u_fr.wi (f := sM5.1) (r := sM5.2) (frM4.tr (h5.mono (fun o k q => Or.inl q))) (Or.inr (Or.inr (Or.inr (Or.inl rfl))))
  have f57C : u_fr tx_C (y_u sC5.1 (W + 3) b vS1, sC5.2) sC7 := p4.tr r4
  have f57M : u_fr tx_M (y_u sM5.1 77 b vS2, sM5.2) sM7 := p5.tr r5
  have frC8 : u_fr (fCp W) sC (y_u (y_u sC7.1 (W + 4) b vN1) (W + 5) b (Int32.ofInt 1), sC7.2) := u_fr.wi (u_fr.wi (f := sC7.1) (r := sC7.2) (frC5.tr (f57C.mono (fun o k q => Or.inl q))) (Or.inr (Or.inr (Or.inr (Or.inr (Or.inl rfl)))))) (Or.inr (Or.inr (Or.inr (Or.inr (Or.inr rfl)))))
  have frM8 : u_fr fMp sM (y_u sM7.1 78 b vN2, sM7.2) := u_fr.wi (f := sM7.1) (r := sM7.2) (frM5.tr (f57M.mono (fun o k q => Or.inl q))) (Or.inr (Or.inr (Or.inr (Or.inr (Or.inl rfl)))))
  have M42 : ∀ {s : u_H}, s.1 65 42 = zi b → ∀ {s' : u_H}, u_fr tx_M s s' → s'.1 65 42 = zi b := fun hz s' f => (f.i (fun q => by have := q.2; omega)).trans hz
  have m2 : sM2.1 65 42 = zi b := by rw [e7.i (fun q => by rcases q with q | q; have := q.2; omega; exact absurd q.1 (by omega))]; exact d3
  have m4 : sM4.1 65 42 = zi b := M42 m2 g5
  have m5 : sM5.1 65 42 = zi b := M42 m4 h5
  have m5' : (y_u sM5.1 77 b vS2, sM5.2).1 65 42 = zi b := (show y_u sM5.1 77 b vS2 65 42 = sM5.1 65 42 from y_uN (by omega)).trans m5
  have m7 : sM7.1 65 42 = zi b := M42 m5' f57M
  have m8 : (y_u sM7.1 78 b vN2, sM7.2).1 65 42 = zi b := (show y_u sM7.1 78 b vN2 65 42 = sM7.1 65 42 from y_uN (by omega)).trans m7
  have C4 : ∀ {s : u_H}, s.1 (W - 2) 4 = zi b → ∀ {s' : u_H}, u_fr tx_C s s' → s'.1 (W - 2) 4 = zi b := fun hz s' f => (f.i (tx_Cnn w1)).trans hz
  have c2 : (sC2.1, y_u sC2.2.1 (W + 2) b nm, sC2.2.2).1 (W - 2) 4 = zi b := (show sC2.1 (W - 2) 4 = zi b from C4 d2 e6)
  have c5 : sC5.1 (W - 2) 4 = zi b := C4 (C4 c2 g4) h4
  have c5' : (y_u sC5.1 (W + 3) b vS1, sC5.2).1 (W - 2) 4 = zi b := (show y_u sC5.1 (W + 3) b vS1 (W - 2) 4 = sC5.1 (W - 2) 4 from y_uN (by omega)).trans c5
  have c7 : sC7.1 (W - 2) 4 = zi b := C4 c5' f57C
  have c8 : (y_u (y_u sC7.1 (W + 4) b vN1) (W + 5) b (Int32.ofInt 1), sC7.2).1 (W - 2) 4 = zi b := by
    show y_u (y_u sC7.1 (W + 4) b vN1) (W + 5) b (Int32.ofInt 1) (W - 2) 4 = _
    rw [y_uN (by omega), y_uN (by omega)]
    exact c7
  have F0C2 : u_fr (fun o k => tx_C o k ∨ o = W + 2) sC (sC2.1, y_u sC2.2.1 (W + 2) b nm, sC2.2.2) := u_fr.wl (f := sC2.1) (g := sC2.2.1) (r := sC2.2.2) (e6.mono (fun o k q => Or.inl q)) (Or.inr rfl)
  have F0C : u_fr (fun o k => tx_C o k ∨ o = W + 2) sC sC5 := F0C2.tr ((g4.tr h4).mono (fun o k q => Or.inl q))
  have F0M : u_fr (tx_MN (5 + b)) sM sM5 := e7.tr ((g5.tr h5).mono (fun o k q => Or.inl q))
  have fin : ∀ (sCx sMx : u_H) (xC xM : Int32), u_fr tx_C (y_u (y_u sC7.1 (W + 4) b vN1) (W + 5) b (Int32.ofInt 1), sC7.2) sCx → u_fr tx_M (y_u sM7.1 78 b vN2, sM7.2) sMx → (sMx.1 65 2 = 0 → sM7.1 65 2 = 0 ∧ xC = xM) → (sMx.1 65 2 = 0 → ∃ NP2, dP W a (b + 1) NP2 (y_u (y_u sCx.1 (W + 5) b xC) (W - 2) 4 (zi (b + 1)), sCx.2) (y_u (y_u sMx.1 79 b xM) 65 42 (zi (b + 1)), sMx.2)) := by
    intro sCx sMx xC xM fC fM hf h0
    obtain ⟨q7, qx⟩ := hf h0
    obtain ⟨τ6, n6, k6, l6, u6, v6, v7, n7⟩ := r6 q7
    obtain ⟨τ5, n5, k5, n6'⟩ := p6 n6.2.2.2.2.2.2.2.1
    have q5 : sM5.1 65 2 = 0 := (show y_u sM5.1 77 b vS2 65 2 = sM5.1 65 2 from y_uN (by omega)).symm.trans n5.2.2.2.2.2.2.2.1
    obtain ⟨⟨τ4, n4⟩, v, hv, vv1, vv2⟩ := h6 q5
    obtain ⟨τ2, n2, k2, n4'⟩ := g6 n4.2.2.2.2.2.2.2.1
    obtain ⟨l, l8, lC, lM, lN⟩ := e8 n2.2.2.2.2.2.2.2.1
    have xl : ∀ k, sCx.2.1 (W + 2) k = y_u sC2.2.1 (W + 2) b nm (W + 2) k := fun k => (fC.l (tx_Cnn w2)).trans ((f57C.l (tx_Cnn w2)).trans (((g4.tr h4).l (tx_Cnn w2))))
    have yl : ∀ k, sMx.2.1 67 k = sM2.2.1 67 k := fun k => (fM.l (tx_Mn 67 _ (by omega))).trans ((f57M.l (tx_Mn 67 _ (by omega))).trans ((g5.tr h5).l (tx_Mn 67 _ (by omega))))
    refine ⟨fun k => if k = b then l else NP k, by omega, ?_, ?_, ?_, ?_, ?_⟩
    · exact y_uE _ _ _ _
    · exact y_uE (y_u sMx.1 79 b xM) 65 42 _
    · intro k hk
      by_cases e : k = b
      · subst e
        show tx_n8 (if k = k then l else NP k) ∧ sCx.2.1 (W + 2) k = zl (tx_nN (if k = k then l else NP k))
        rw [if_pos rfl, xl, y_uE]
        exact ⟨l8, lC⟩
      · show tx_n8 (if k = b then l else NP k) ∧ sCx.2.1 (W + 2) k = zl (tx_nN (if k = b then l else NP k))
        rw [if_neg e, xl, y_uN (by omega), e6.l (tx_Cnn w2)]
        exact d4 k (by omega)
    · intro k hk
      by_cases e : k = b
      · subst e
        show sMx.2.1 67 (5 + k) = zl (tx_nW (if k = k then l else NP k))
        rw [if_pos rfl, yl]
        exact lM
      · show sMx.2.1 67 (5 + k) = zl (tx_nW (if k = b then l else NP k))
        rw [if_neg e, yl, e7.l (fun q => by rcases q with q | q; exact absurd q.1 (by omega); omega)]
        exact d5 k (by omega)
    · intro k hk
      have l1 : y_u (y_u sCx.1 (W + 5) b xC) (W - 2) 4 (zi (b + 1)) (W + 3) k = sCx.1 (W + 3) k := by rw [y_uN (by omega), y_uN (by omega)]
      have l2 : y_u (y_u sMx.1 79 b xM) 65 42 (zi (b + 1)) 77 k = sMx.1 77 k := by rw [y_uN (by omega), y_uN (by omega)]
      have l3 : y_u (y_u sCx.1 (W + 5) b xC) (W - 2) 4 (zi (b + 1)) (W + 4) k = sCx.1 (W + 4) k := by rw [y_uN (by omega), y_uN (by omega)]
      have l4 : y_u (y_u sMx.1 79 b xM) 65 42 (zi (b + 1)) 78 k = sMx.1 78 k := by rw [y_uN (by omega), y_uN (by omega)]
      have l5 : y_u (y_u sCx.1 (W + 5) b xC) (W - 2) 4 (zi (b + 1)) (W + 5) k = y_u sCx.1 (W + 5) b xC (W + 5) k := y_uN (by omega)
      have l6 : y_u (y_u sMx.1 79 b xM) 65 42 (zi (b + 1)) 79 k = y_u sMx.1 79 b xM 79 k := y_uN (by omega)
      show (∃ v, v < a ∧ y_u (y_u sCx.1 (W + 5) b xC) (W - 2) 4 (zi (b + 1)) (W + 3) k = zi v ∧ y_u (y_u sMx.1 79 b xM) 65 42 (zi (b + 1)) 77 k = zi v) ∧ y_u (y_u sCx.1 (W + 5) b xC) (W - 2) 4 (zi (b + 1)) (W + 4) k = y_u (y_u sMx.1 79 b xM) 65 42 (zi (b + 1)) 78 k ∧ y_u (y_u sCx.1 (W + 5) b xC) (W - 2) 4 (zi (b + 1)) (W + 5) k = y_u (y_u sMx.1 79 b xM) 65 42 (zi (b + 1)) 79 k
      rw [l1, l2, l3, l4, l5, l6]
      have x3 : sCx.1 (W + 3) k = y_u sC5.1 (W + 3) b vS1 (W + 3) k := by
        rw [fC.i (tx_Cnn w3)]
        show y_u (y_u sC7.1 (W + 4) b vN1) (W + 5) b (Int32.ofInt 1) (W + 3) k = _
        rw [y_uN (by omega), y_uN (by omega)]
        exact f57C.i (tx_Cnn w3)
      have x4 : sCx.1 (W + 4) k = y_u sC7.1 (W + 4) b vN1 (W + 4) k := by
        rw [fC.i (tx_Cnn w4)]
        show y_u (y_u sC7.1 (W + 4) b vN1) (W + 5) b (Int32.ofInt 1) (W + 4) k = _
        rw [y_uN (by omega)]
      have x5 : sCx.1 (W + 5) k = y_u (y_u sC7.1 (W + 4) b vN1) (W + 5) b (Int32.ofInt 1) (W + 5) k := fC.i (tx_Cnn w5)
      have y7 : sMx.1 77 k = y_u sM5.1 77 b vS2 77 k := by
        rw [fM.i (tx_Mn 77 _ (by omega))]
        show y_u sM7.1 78 b vN2 77 k = _
        rw [y_uN (by omega)]
        exact f57M.i (tx_Mn 77 _ (by omega))
      have y8 : sMx.1 78 k = y_u sM7.1 78 b vN2 78 k := fM.i (tx_Mn 78 _ (by omega))
      have y9 : sMx.1 79 k = sM7.1 79 k := by
        rw [fM.i (tx_Mn 79 _ (by omega))]
        show y_u sM7.1 78 b vN2 79 k = _
        rw [y_uN (by omega)]
      by_cases e : k = b
      · subst e
        rw [x3, x4, y7, y8, y_uE, y_uE, y_uE, y_uE, y_uE, y_uE]
        exact ⟨⟨v, hv, vv1, vv2⟩, by rw [v6, v7], qx⟩
      · have z1 : y_u sC5.1 (W + 3) b vS1 (W + 3) k = sC.1 (W + 3) k := (y_uN (by omega)).trans (F0C.i (fun q => by rcases q with q | q; exact tx_Cnn w3 q; omega))
        have z2 : y_u sC7.1 (W + 4) b vN1 (W + 4) k = sC.1 (W + 4) k := (y_uN (by omega)).trans ((f57C.i (tx_Cnn w4)).trans ((show y_u sC5.1 (W + 3) b vS1 (W + 4) k = sC5.1 (W + 4) k from y_uN (by omega)).trans (F0C.i (fun q => by rcases q with q | q; exact tx_Cnn w4 q; omega))))
        have z3 : y_u sCx.1 (W + 5) b xC (W + 5) k = sC.1 (W + 5) k := (y_uN (by omega)).trans (x5.trans ((y_uN (by omega)).trans ((show y_u sC7.1 (W + 4) b vN1 (W + 5) k = sC7.1 (W + 5) k from y_uN (by omega)).trans ((f57C.i (tx_Cnn w5)).trans ((show y_u sC5.1 (W + 3) b vS1 (W + 5) k = sC5.1 (W + 5) k from y_uN (by omega)).trans (F0C.i (fun q => by rcases q with q | q; exact tx_Cnn w5 q; omega)))))))
        have nmn : ∀ o, o ≠ 65 → o ≠ 67 → ¬ tx_MN (5 + b) o k := fun o a1 a2 q => by
          rcases q with q | q
          · exact a1 q.1
          · exact a2 q.1
        have z4 : y_u sM5.1 77 b vS2 77 k = sM.1 77 k := (y_uN (by omega)).trans (F0M.i (nmn 77 (by omega) (by omega)))
        have z5 : y_u sM7.1 78 b vN2 78 k = sM.1 78 k := (y_uN (by omega)).trans ((f57M.i (tx_Mn 78 _ (by omega))).trans ((show y_u sM5.1 77 b vS2 78 k = sM5.1 78 k from y_uN (by omega)).trans (F0M.i (nmn 78 (by omega) (by omega)))))
        have z6 : y_u sMx.1 79 b xM 79 k = sM.1 79 k := (y_uN (by omega)).trans (y9.trans ((f57M.i (tx_Mn 79 _ (by omega))).trans ((show y_u sM5.1 77 b vS2 79 k = sM5.1 79 k from y_uN (by omega)).trans (F0M.i (nmn 79 (by omega) (by omega))))))
        rw [x3, x4, y7, y8, z1, z2, z3, z4, z5, z6]
        exact d7 k (by omega)
  -- the class up to the test of love
  have cls : ∀ r : u_R, (if sC7.1 27 4 = u_k 264 then
      u_bv (u_c 105 [.inr (.inr 29)] (y_u (y_u sC7.1 (W + 4) b vN1) (W + 5) b (Int32.ofInt 1), sC7.2)) fun s7 =>
        if s7.2.2.2.2.1 = W then
          u_bi (u_c 118 [.inr (.inr 29), .inl (Int32.ofInt 0), .inl (Int32.ofInt 20)] s7) fun x9 s8 =>
            if s8.2.2.2.2.1 = W then
              some (none, (y_u (y_u s8.1 (W + 5) b x9) (W - 2) 4 (s8.1 (W - 2) 4 + Int32.ofInt 1), s8.2))
            else u g_t121 132 (u_l1 u_z1 1 (zi b), u_z2, [(0, 29)]) [.inr (.inr s8.2.2.2.2.1)] (y_u s8.1 (W + 5) b x9, s8.2)
        else u g_t121 116 (u_l1 u_z1 1 (zi b), u_z2, [(0, 29)]) [.inr (.inr s7.2.2.2.2.1)] s7
    else some (none, (y_u (y_u (y_u sC7.1 (W + 4) b vN1) (W + 5) b (Int32.ofInt 1)) (W - 2) 4 (zi b + Int32.ofInt 1), sC7.2))) = r → u_c 121 [.inr (.inr 29)] sC = r := by
    intro r hr
    rw [← hr, b_121 hW, if_pos hj.2.2, d2, if_pos (by rw [show Int32.ofInt 7 = zi 7 from rfl, zi_lt (by omega) (by omega)]; omega), e1, u_bvS, if_pos e2, if_pos e2, e3, u_blS, if_pos hin, hcl, k256, g1, u_bvS, if_pos g3.1.2.2, h1, u_biS, if_pos hin, k263, p1, u_bvS, if_pos p3.1.2.2, show (Int32.ofInt 1) = zi 1 from rfl, show (Int32.ofInt 30) = zi 30 from rfl, r1, u_biS, if_pos hin, if_pos r3.1.2.2, if_pos hin, c7]
    simp only [if_pos hin, if_pos r3.1.2.2]
  have mdl : ∀ (r : u_R) (x5 : Int32) (s4 : u_H), u_c 258 [.inr (.inr 67), .inr (.inl (u_k6 1819244133)), .inl (Int32.ofInt 20), .inl (Int32.ofInt 1)] (y_u sM7.1 78 b vN2, sM7.2) = some (some (.inl x5), s4) → (if s4.1 65 2 = 0 then some (none, (y_u (y_u s4.1 79 b x5) 65 42 (s4.1 65 42 + Int32.ofInt 1), s4.2)) else some (none, (y_u s4.1 79 b x5, s4.2))) = r → u_c 283 [.inr (.inr 67)] sM = r := by
    intro r x5 s4 h258 hr
    rw [← hr, b_283, d3, show (Int32.ofInt 5) = zi 5 from rfl, e4, u_bvS, g2, u_bvS, h2, u_biS, m4, if_pos hin, hcl, b_310, p2, u_bvS, show (Int32.ofInt 1) = zi 1 from rfl, show (Int32.ofInt 30) = zi 30 from rfl, r2, u_biS, u_biS, m5, if_pos hin, hcl]
    rw [show (Int32.ofInt 1) = zi 1 from rfl] at h258
    rw [h258, u_biS, m7, if_pos hin, hcl]
  have e413 : ∀ s : u_H, u_fr tx_M (y_u sM7.1 78 b vN2, sM7.2) s → s.1 65 42 = zi b := fun s f => M42 m8 f
  have e20 : ∀ s : u_H, u_fr tx_C (y_u (y_u sC7.1 (W + 4) b vN1) (W + 5) b (Int32.ofInt 1), sC7.2) s → s.1 (W - 2) 4 = zi b := fun s f => C4 c8 f
  have k64 : (y_u (y_u sC7.1 (W + 4) b vN1) (W + 5) b (Int32.ofInt 1) : Nat → Nat → Int32) 27 4 = sC7.1 27 4 := by rw [y_uN (by omega), y_uN (by omega)]
  have q62 : (y_u sM7.1 78 b vN2 : Nat → Nat → Int32) 65 2 = sM7.1 65 2 := y_uN (by omega)
  have j8' := j8
  obtain ⟨t8, hh | hh⟩ := j8'
  · obtain ⟨τ5, hh⟩ := hh
    have hisw := m_isw hh (i := 8) (N := 1819244133) (w := [12, 15, 22, 5]) rfl rfl
    have h' := hh
    obtain ⟨hV, ⟨x1, x2, x3, x4, x5, x6⟩, y1, y2, y3, y4, y5, y6, y7⟩ := h'
    have hV5 := hV.2.2.2.2.1
    have c2' : sC7.1 27 4 = zi τ5.2.1 := k64.symm.trans x2
    by_cases hwt : τ5.2.1 = 264
    · obtain ⟨sC9, sM9, t1, t2, t3, t4, t5, t6⟩ := p_next hT t8 hh (by omega)
      obtain ⟨vC2, vM2, sCa, sMa, u1, u2, ⟨u3, u4, u5⟩, u6⟩ := p_number hT (p_nJ t3 t4) (lo := 0) (hi := 20) (by omega) (by omega)
      have fCa := t5.tr u4
      have fMa := t6.tr u5
      have h258 : u_c 258 [.inr (.inr 67), .inr (.inl (u_k6 1819244133)), .inl (Int32.ofInt 20), .inl (Int32.ofInt 1)] (y_u sM7.1 78 b vN2, sM7.2) = some (some (.inl vM2), sMa) := by
        rw [b_258, if_pos y6, hisw, u_biS, decide_eq_true hwt, if_neg zb_yes, b_310, b_318, y6, if_neg z_lt00, hisw, u_biS, decide_eq_true hwt, if_neg zb_yes, t2, u_bvS, u_bvS, show (Int32.ofInt 0) = zi 0 from rfl, show (Int32.ofInt 20) = zi 20 from rfl, u2, u_biS, u_biS]
      have hcls : u_c 121 [.inr (.inr 29)] sC = some (none, (y_u (y_u sCa.1 (W + 5) b vC2) (W - 2) 4 (zi (b + 1)), sCa.2)) := by
        apply cls
        rw [if_pos (by rw [c2', hwt, k264]), t1, u_bvS, if_pos t3.2.2, show (Int32.ofInt 0) = zi 0 from rfl, show (Int32.ofInt 20) = zi 20 from rfl, u1, u_biS, if_pos u3.1.2.2, e20 sCa fCa, zi_one]
      have jf : jJ ch n W (y_u (y_u sCa.1 (W + 5) b vC2) (W - 2) 4 (zi (b + 1)), sCa.2) (y_u sMa.1 79 b vM2, sMa.2) := jJ_Mi (jJ_Ci (sC := (y_u sCa.1 (W + 5) b vC2, sCa.2)) (jJ_Ci u3 w5 (by omega) (by omega)) w1 (by omega) (by omega)) (Or.inl (by omega)) (by omega)
      have frC9 : u_fr (fCp W) sC (y_u (y_u sCa.1 (W + 5) b vC2) (W - 2) 4 (zi (b + 1)), sCa.2) := u_fr.wi (u_fr.wi (f := sCa.1) (r := sCa.2) (frC8.tr (fCa.mono (fun o k q => Or.inl q))) (Or.inr (Or.inr (Or.inr (Or.inr (Or.inr rfl)))))) (Or.inr (Or.inl ⟨rfl, rfl⟩))
      have frM9 : u_fr fMp sM (y_u sMa.1 79 b vM2, sMa.2) := u_fr.wi (f := sMa.1) (r := sMa.2) (frM8.tr (fMa.mono (fun o k q => Or.inl q))) (Or.inr (Or.inr (Or.inr (Or.inr (Or.inr rfl)))))
      have F := fin sCa sMa vC2 vM2 fCa fMa (fun z => ⟨q62.symm.trans y6, by obtain ⟨τ7, _, _, _, _, z1, z2, _⟩ := u6 z; rw [z1, z2]⟩)
      by_cases z : sMa.1 65 2 = 0
      · refine ⟨_, _, hcls, mdl _ vM2 sMa h258 (if_pos z), ?_, frC9, ?_, fun _ => ?_⟩
        · rw [e413 sMa fMa, zi_one]
          exact jJ_Mi (sM := (y_u sMa.1 79 b vM2, sMa.2)) jf (Or.inr (by omega)) (by omega)
        · exact u_fr.wi frM9 (Or.inr (Or.inl ⟨rfl, rfl⟩))
        · rw [e413 sMa fMa, zi_one]
          exact F z
      · refine ⟨_, _, hcls, mdl _ vM2 sMa h258 (if_neg z), jf, frC9, frM9, fun y => ?_⟩
        have y2 : y_u sMa.1 79 b vM2 65 2 = 0 := y
        rw [y_uN (by omega)] at y2
        exact absurd y2 z
    · have h258 : u_c 258 [.inr (.inr 67), .inr (.inl (u_k6 1819244133)), .inl (Int32.ofInt 20), .inl (Int32.ofInt 1)] (y_u sM7.1 78 b vN2, sM7.2) = some (some (.inl (Int32.ofInt 1)), (y_u sM7.1 78 b vN2, sM7.2)) := by
        rw [b_258, if_pos y6, hisw, u_biS, decide_eq_false (show ¬ τ5.2.1 = 256 + 8 from hwt), if_pos zb_no]
      have hcls : u_c 121 [.inr (.inr 29)] sC = some (none, (y_u (y_u (y_u sC7.1 (W + 4) b vN1) (W + 5) b (Int32.ofInt 1)) (W - 2) 4 (zi (b + 1)), sC7.2)) := by
        apply cls
        rw [if_neg (by rw [c2', k264, zk_iff (by omega) (by omega)]; exact hwt), zi_one]
      have F := fin _ _ (Int32.ofInt 1) (Int32.ofInt 1) u_fr.rf u_fr.rf (fun z => ⟨q62.symm.trans y6, rfl⟩) y6
      dsimp only at F
      rw [y_uu] at F
      refine ⟨_, _, hcls, mdl _ (Int32.ofInt 1) _ h258 (if_pos y6), ?_, u_fr.wi frC8 (Or.inr (Or.inl ⟨rfl, rfl⟩)), ?_, fun _ => ?_⟩
      · exact jJ_Mi (sM := (y_u (y_u sM7.1 78 b vN2) 79 b (Int32.ofInt 1), sM7.2)) (jJ_Mi (sM := (y_u sM7.1 78 b vN2, sM7.2)) (jJ_Ci (sC := (y_u (y_u sC7.1 (W + 4) b vN1) (W + 5) b (Int32.ofInt 1), sC7.2)) j8 w1 (by omega) (by omega)) (Or.inl (by omega)) (by omega)) (Or.inr (by omega)) (by omega)
      · exact u_fr.wi (u_fr.wi frM8 (Or.inr (Or.inr (Or.inr (Or.inr (Or.inr rfl)))))) (Or.inr (Or.inl ⟨rfl, rfl⟩))
      · rw [e413 _ u_fr.rf, zi_one]
        exact F
  · obtain ⟨f, q, hh⟩ := hh
    have h' := hh
    obtain ⟨f1, f5, hq, k1, k2, k3, k4, k5⟩ := h'
    have hne := jC_ne hh
    have c2' : sC7.1 27 4 = zi 276 := k64.symm.trans k3
    have h258 : u_c 258 [.inr (.inr 67), .inr (.inl (u_k6 1819244133)), .inl (Int32.ofInt 20), .inl (Int32.ofInt 1)] (y_u sM7.1 78 b vN2, sM7.2) = some (some (.inl (Int32.ofInt 1)), (y_u sM7.1 78 b vN2, sM7.2)) := by
      rw [b_258, if_neg hne]
    have hcls : u_c 121 [.inr (.inr 29)] sC = some (none, (y_u (y_u (y_u sC7.1 (W + 4) b vN1) (W + 5) b (Int32.ofInt 1)) (W - 2) 4 (zi (b + 1)), sC7.2)) := by
      apply cls
      rw [if_neg (by rw [c2', k264, zk_iff (by omega) (by omega)]; omega), zi_one]
    refine ⟨_, _, hcls, mdl _ (Int32.ofInt 1) _ h258 (if_neg hne), ?_, u_fr.wi frC8 (Or.inr (Or.inl ⟨rfl, rfl⟩)), ?_, fun y => ?_⟩
    · exact jJ_Mi (sM := (y_u sM7.1 78 b vN2, sM7.2)) (jJ_Ci (sC := (y_u (y_u sC7.1 (W + 4) b vN1) (W + 5) b (Int32.ofInt 1), sC7.2)) j8 w1 (by omega) (by omega)) (Or.inl (by omega)) (by omega)
    · exact u_fr.wi frM8 (Or.inr (Or.inr (Or.inr (Or.inr (Or.inr rfl)))))
    · have y2 : y_u (y_u sM7.1 78 b vN2) 79 b (Int32.ofInt 1) 65 2 = 0 := y
      rw [y_uN (by omega)] at y2
      exact absurd y2 hne
end PAIRS
