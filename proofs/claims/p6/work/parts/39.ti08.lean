/-! HOW LONG A PAIR TAKES: both sides, at any state where it has not gone -/
section LEN2
variable {W : Nat}
/-- the end of it: cut, and halved if SHORT -/
theorem len_end (x f : Int32) (p : Nat) : ∃ k, 1 ≤ k ∧ k ≤ 60 ∧ (∀ (li : Nat → Int32) (ll : Nat → Int64) (s : u_H), li 4 = x → li 1 = zi p → s.1 36 6 = f → u g_t162 90 (li, ll, [(0, 38)]) [] s = some (some (.inl (zi k)), s)) ∧ ∀ (lj : Nat → Int32) (lm : Nat → Int64) (s : u_H), lj 3 = x → lj 1 = zi p → s.1 86 17 = f → u g_t250 274 (lj, lm, [(0, 67)]) [] s = some (some (.inl (zi k)), s) := by
  obtain ⟨t, t1, t2, e1, e2⟩ := i_cut x
  by_cases q : bN f p
  · refine ⟨t, t1, t2, fun li ll s h4 h1 hf => ?_, fun lj lm s h3 h1 hf => ?_⟩
    · rw [b_162_90, h1, hf, c_h0 q, u_biS, if_pos (show Int32.ofInt 0 = 0 by decide), h4, e1]
    · rw [b_250_274, h3, e2 s, u_biS, hf, h1, m_h0 q, u_biS, if_pos (show Int32.ofInt 0 = 0 by decide)]
  · obtain ⟨k, k1, k2, g1, g2⟩ := i_half t1 t2
    refine ⟨k, k1, k2, fun li ll s h4 h1 hf => ?_, fun lj lm s h3 h1 hf => ?_⟩
    · rw [b_162_90, h1, hf, c_h1 q, u_biS, if_neg (show ¬ Int32.ofInt 1 = 0 by decide), h4, e1, g1]
    · rw [b_250_274, h3, e2 s, u_biS, hf, h1, m_h1 q, u_biS, if_neg (show ¬ Int32.ofInt 1 = 0 by decide), g2 s, u_biS]
/-- the lesser of two, as each side says it -/
theorem i_less (x y : Int32) : ∀ s : u_H, u_c 251 [.inl x, .inl y] s = some (some (.inl (if y < x then y else x)), s) := fun s => by
  rw [b_251]
  by_cases a : x < y
  · have a1 := Int32.lt_iff_toInt_lt.mp a
    rw [if_pos a, if_neg (fun q => by have := Int32.lt_iff_toInt_lt.mp q; omega)]
  · have a1 : ¬ x.toInt < y.toInt := fun q => a (Int32.lt_iff_toInt_lt.mpr q)
    rw [if_neg a]
    by_cases b : y < x
    · rw [if_pos b]
    · have b1 : ¬ y.toInt < x.toInt := fun q => b (Int32.lt_iff_toInt_lt.mpr q)
      rw [if_neg b, show y = x from Int32.toInt_inj.mp (by omega)]
/-- what the model asks for, laid -/
noncomputable def m6 (g : Nat → Nat → Int32) (p v t : Nat) (bh : Int32) : Nat → Nat → Int32 := y_u (y_u (y_u (y_u (y_u (y_u g 74 0 (g 83 p)) 74 1 (g 84 p)) 74 2 (g 65 27)) 74 3 bh) 74 4 (sLm g v - zi t)) 74 5 (zi t)
theorem m6_N {g : Nat → Nat → Int32} {p v t o k : Nat} {bh : Int32} (h : o ≠ 74) : m6 g p v t bh o k = g o k := by
  unfold m6
  rw [y_uN (by omega), y_uN (by omega), y_uN (by omega), y_uN (by omega), y_uN (by omega), y_uN (by omega)]
theorem m_len1 {p v t : Nat} {sM : u_H} {bh : Int32} (hp : p < 7) (hv : v < 5) (e2 : sM.1 82 p = zi v) (m1 : sM.1 86 26 = zi t) (hl : sM.1 65 29 = u_k (-1)) : u_c 250 [.inr (.inr 67), .inl (zi p), .inl bh] sM = u g_t250 98 (u_l1 (u_l1 (u_l1 (u_l1 (u_l1 u_z1 1 (zi p)) 2 bh) 3 (if sM.1 65 27 < sM.1 83 p then sM.1 65 27 else sM.1 83 p)) 4 (Int32.ofInt 0)) 5 (Int32.ofInt 0), u_z2, [(0, 67)]) [] (m6 sM.1 p v t bh, sM.2) := by
  have hi : u_in (zi p) 8 = true := (u_inz (by omega)).mpr (by omega)
  have hc : (zi p).toNatClampNeg = p := zi_clamp (by omega)
  rw [b_250, if_pos hi, if_pos hi, if_pos hi, hc, e2, m_sail hv (s := (y_u (y_u (y_u (y_u sM.1 74 0 (sM.1 83 p)) 74 1 (sM.1 84 p)) 74 2 (sM.1 65 27)) 74 3 bh, sM.2)) (by dsimp only; rw [y_uN (by omega), y_uN (by omega), y_uN (by omega), y_uN (by omega)]; exact hl), u_biS, if_pos hi, i_less, u_biS]
  unfold m6
  rw [← m1]
  rfl
/-- both sides, each with what is left till the SHIP sails (the class: no less than 0) -/
theorem len_two (hW : W = 5 ∨ W = 17) {p v t w : Nat} {c : List Int} {l : Bool} {sC sM : u_H} {bh : Int32} (h36 : sC.2.2.2.2.2 = W) (hp : p < 7) (hv : v < 5) (ht : t ≤ 999) (e1 : sC.1 (W + 3) p = zi v) (e2 : sM.1 82 p = zi v) (n1 : sC.1 38 p = sM.1 83 p) (n2 : sC.1 (W + 5) p = sM.1 84 p) (n3 : sC.1 36 7 = sM.1 65 27) (m1 : sM.1 86 26 = zi t) (hl : sM.1 65 29 = u_k (-1)) (hb : sC.1 36 6 = sM.1 86 17) (hcl : c.length ≤ 270) (hC : prC W c sC.1) (hM : prM c sM.1) (h25 : sM.1 65 25 = zb l) (hl0 : l = false → c = []) (hl1 : l = true → fV c w) : ∃ k s2 t2, 1 ≤ k ∧ k ≤ 60 ∧ ((if Int32.ofInt 0 < sC.1 39 v - zi t then sC.1 39 v - zi t else Int32.ofInt 0) = sLm sM.1 v - zi t → u_c 162 [.inr (.inr 38), .inl (zi p), .inl bh, .inl (zi t)] sC = some (some (.inl (zi k)), s2)) ∧ u_c 250 [.inr (.inr 67), .inl (zi p), .inl bh] sM = some (some (.inl (zi k)), t2) ∧ u_fr (fun o _ => o = W + 8 ∨ o = W + 9) sC s2 ∧ u_fr (fun o _ => o = 73 ∨ o = 74) sM t2 := by
  have hi : u_in (zi p) 8 = true := (u_inz (by omega)).mpr (by omega)
  have hi7 : u_in (zi p) 7 = true := (u_inz (by omega)).mpr hp
  have hc : (zi p).toNatClampNeg = p := zi_clamp (by omega)
  have hp7 : ¬ zi p = Int32.ofInt 7 := fun q => by
    have := (zi_inj (b := 7) (by omega) (by omega)).mp q
    omega
  have f6 : u_fr (fun o _ => o = 73 ∨ o = 74) sM (m6 sM.1 p v t bh, sM.2) := by
    unfold m6
    iterate 6 refine u_fr.wi ?_ (Or.inr rfl)
    exact u_fr.rf
  have n6 : ∀ o k, o ≠ 74 → ((m6 sM.1 p v t bh, sM.2) : u_H).1 o k = sM.1 o k := fun o k h => m6_N h
  cases l with
  | false =>
    have hc0 := hl0 rfl
    subst hc0
    obtain ⟨k, k1, k2, g1, g2⟩ := len_end (if sM.1 65 27 < sM.1 83 p then sM.1 65 27 else sM.1 83 p) (sM.1 86 17) p
    refine ⟨k, sC, (m6 sM.1 p v t bh, sM.2), k1, k2, ?_, ?_, u_fr.rf, f6⟩
    · intro _
      rw [b_162 hW, if_pos hi, if_pos h36, hC.1, if_neg (show ¬ 0 < zi ([] : List Int).length by decide), hc, n1, n3]
      exact g1 _ _ _ (u_l1E _ _ _) rfl hb
    · rw [m_len1 hp hv e2 m1 hl, b_250_98, u_l1E, n6 65 18 (by omega), hM.1, if_neg (show ¬ Int32.ofInt 0 < zi ([] : List Int).length by decide), n6 65 25 (by omega), h25, if_pos zb_no]
      exact g2 _ _ _ rfl rfl (n6 86 17 (by omega))
  | true =>
    obtain ⟨v1, v2, v3, v4⟩ := hl1 rfl
    have hne : 0 < c.length := by
      cases c with
      | nil =>
        have := v3 0
        injection this with this
        omega
      | cons x c => exact Nat.succ_pos _
    -- the class's way to its formula
    have hvi : u_in (zi v) 5 = true := (u_inz (by omega)).mpr hv
    have hvc : (zi v).toNatClampNeg = v := zi_clamp (by omega)
    have hm1 : u_k (-1) = zi 0 + u_k (-1) := by rw [u_k_eq]; decide
    obtain ⟨x, s2, t2, lj2, a1, a2, a3, a4, a5, a6, a7⟩ := ev hW c [] 0 (u_l1 (u_l1 (u_l1 (u_l1 (u_l1 (u_l1 (u_l1 (u_l1 u_z1 1 (sM.1 83 p)) 2 (sM.1 84 p)) 3 (sM.1 65 27)) 4 bh) 5 (sLm sM.1 v - zi t)) 6 (zi t)) 7 (u_k (-1))) 8 (Int32.ofInt 0)) (u_l1 (u_l1 (u_l1 (u_l1 (u_l1 u_z1 1 (zi p)) 2 bh) 3 (if sM.1 65 27 < sM.1 83 p then sM.1 65 27 else sM.1 83 p)) 4 (Int32.ofInt 0)) 5 (Int32.ofInt 0)) u_z2 u_z2 (y_u (y_u (y_u (y_u (y_u (y_u sC.1 (W + 9) 0 (sM.1 65 27)) (W + 9) 1 (sM.1 83 p)) (W + 9) 2 (sM.1 84 p)) (W + 9) 3 bh) (W + 9) 4 (sLm sM.1 v - zi t)) (W + 9) 5 (zi t), sC.2) (m6 sM.1 p v t bh, sM.2) hcl (by
        refine ⟨?_, fun j z hz => ?_⟩
        · show y_u (y_u (y_u (y_u (y_u (y_u sC.1 (W + 9) 0 (sM.1 65 27)) (W + 9) 1 (sM.1 83 p)) (W + 9) 2 (sM.1 84 p)) (W + 9) 3 bh) (W + 9) 4 (sLm sM.1 v - zi t)) (W + 9) 5 (zi t) (W + 6) 3 = _
          rw [y_uN (by omega), y_uN (by omega), y_uN (by omega), y_uN (by omega), y_uN (by omega), y_uN (by omega)]
          exact hC.1
        · show y_u (y_u (y_u (y_u (y_u (y_u sC.1 (W + 9) 0 (sM.1 65 27)) (W + 9) 1 (sM.1 83 p)) (W + 9) 2 (sM.1 84 p)) (W + 9) 3 bh) (W + 9) 4 (sLm sM.1 v - zi t)) (W + 9) 5 (zi t) (W + 7) j = _
          rw [y_uN (by omega), y_uN (by omega), y_uN (by omega), y_uN (by omega), y_uN (by omega), y_uN (by omega)]
          exact hC.2 j z hz) (by
        refine ⟨?_, fun j z hz => ?_⟩
        · show m6 sM.1 p v t bh 65 18 = _
          rw [m6_N (by omega)]
          exact hM.1
        · show m6 sM.1 p v t bh 70 j = _ ∧ m6 sM.1 p v t bh 71 j = _
          rw [m6_N (by omega), m6_N (by omega)]
          exact hM.2 j z hz) (by
        have eC : ∀ j, j < 6 → y_u (y_u (y_u (y_u (y_u (y_u sC.1 (W + 9) 0 (sM.1 65 27)) (W + 9) 1 (sM.1 83 p)) (W + 9) 2 (sM.1 84 p)) (W + 9) 3 bh) (W + 9) 4 (sLm sM.1 v - zi t)) (W + 9) 5 (zi t) (W + 9) j = if j = 0 then sM.1 65 27 else if j = 1 then sM.1 83 p else if j = 2 then sM.1 84 p else if j = 3 then bh else if j = 4 then sLm sM.1 v - zi t else zi t := by
          intro j hj
          rcases (show j = 0 ∨ j = 1 ∨ j = 2 ∨ j = 3 ∨ j = 4 ∨ j = 5 by omega) with rfl | rfl | rfl | rfl | rfl | rfl
          · rw [y_uN (by omega), y_uN (by omega), y_uN (by omega), y_uN (by omega), y_uN (by omega), y_uE]
            rfl
          · rw [y_uN (by omega), y_uN (by omega), y_uN (by omega), y_uN (by omega), y_uE]
            rfl
          · rw [y_uN (by omega), y_uN (by omega), y_uN (by omega), y_uE]
            rfl
          · rw [y_uN (by omega), y_uN (by omega), y_uE]
            rfl
          · rw [y_uN (by omega), y_uE]
            rfl
          · rw [y_uE]
            rfl
        exact ⟨⟨eC 0 (by omega), eC 1 (by omega), eC 2 (by omega)⟩, eC 3 (by omega), eC 4 (by omega), eC 5 (by omega)⟩) (by omega) (v3 0) v4 (u_l1E _ _ _) hm1 (u_l1E _ _ _) rfl (fun j hj => absurd hj (Nat.not_lt_zero j))
    obtain ⟨k, k1, k2, g1, g2⟩ := len_end x (sM.1 86 17) p
    refine ⟨k, s2, t2, k1, k2, ?_, ?_, ?_, ?_⟩
    · have h8 : s2.1 36 6 = sM.1 86 17 := by
        rw [a6.i (o := 36) (k := 6) (fun q => by have q : 36 = W + 8 := q; omega)]
        show y_u (y_u (y_u (y_u (y_u (y_u sC.1 (W + 9) 0 (sM.1 65 27)) (W + 9) 1 (sM.1 83 p)) (W + 9) 2 (sM.1 84 p)) (W + 9) 3 bh) (W + 9) 4 (sLm sM.1 v - zi t)) (W + 9) 5 (zi t) 36 6 = _
        rw [y_uN (by omega), y_uN (by omega), y_uN (by omega), y_uN (by omega), y_uN (by omega), y_uN (by omega)]
        exact hb
      intro hleft
      rw [b_162 hW, if_pos hi, if_pos h36, hC.1, if_pos (show 0 < zi c.length from (zi_lt (a := 0) (by omega) (by omega)).mpr hne), if_neg hp7, if_pos h36, if_pos hi7, hc, n1, n2, n3, b_162_47 hW, show (u_l1 (u_l1 (u_l1 (u_l1 u_z1 1 (zi p)) 2 bh) 3 (zi t)) 4 (if sM.1 65 27 < sM.1 83 p then sM.1 65 27 else sM.1 83 p)) 1 = zi p from rfl, b_167 hW, if_neg hp7, if_pos h36, if_pos hi7, hc, e1, if_pos hvi, hvc, u_biS, if_pos h36, if_pos hi, n1, n3, show (u_l1 (u_l1 (u_l1 (u_l1 u_z1 1 (zi p)) 2 bh) 3 (zi t)) 4 (if sM.1 65 27 < sM.1 83 p then sM.1 65 27 else sM.1 83 p)) 3 = zi t from rfl, show (u_l1 (u_l1 (u_l1 (u_l1 u_z1 1 (zi p)) 2 bh) 3 (zi t)) 4 (if sM.1 65 27 < sM.1 83 p then sM.1 65 27 else sM.1 83 p)) 2 = bh from rfl, hleft, b_86 hW, a1, u_biS]
      exact g1 _ _ _ (u_l1E _ _ _) rfl h8
    · rw [m_len1 hp hv e2 m1 hl, a2, b_250_98, a4, a7.i (o := 65) (k := 18) (fun q => by have q : 65 = 73 := q; omega), a7.i (o := 65) (k := 25) (fun q => by have q : 65 = 73 := q; omega)]
      rw [show (m6 sM.1 p v t bh, sM.2).1 65 18 = zi c.length from (n6 65 18 (by omega)).trans hM.1, if_neg (fun q => by have := (zi_lt (by rw [List.nil_append]; omega) (by omega)).mp q; rw [List.nil_append] at this; omega), show (m6 sM.1 p v t bh, sM.2).1 65 25 = zb true from (n6 65 25 (by omega)).trans h25, if_neg zb_yes]
      refine g2 _ _ _ ((u_l1E _ _ _).trans a3) ((u_l1N (by omega)).trans (a5 1 (by omega) (by omega))) ?_
      rw [a7.i (o := 86) (k := 17) (fun q => by have q : 86 = 73 := q; omega)]
      exact n6 86 17 (by omega)
    · refine u_fr.tr ?_ (a6.mono (fun o k q => Or.inl q))
      iterate 6 refine u_fr.wi ?_ (Or.inr rfl)
      exact u_fr.rf
    · exact f6.tr (a7.mono (fun o k q => Or.inl q))
theorem len_alike (hW : W = 5 ∨ W = 17) {p v t w : Nat} {c : List Int} {l : Bool} {sC sM : u_H} {bh : Int32} (h36 : sC.2.2.2.2.2 = W) (hp : p < 7) (hv : v < 5) (ht : t ≤ 999) (e1 : sC.1 (W + 3) p = zi v) (e2 : sM.1 82 p = zi v) (n1 : sC.1 38 p = sM.1 83 p) (n2 : sC.1 (W + 5) p = sM.1 84 p) (n3 : sC.1 36 7 = sM.1 65 27) (m1 : sM.1 86 26 = zi t) (hl : sM.1 65 29 = u_k (-1)) (hs : sC.1 39 v = sLm sM.1 v) (hg : zi t < sLm sM.1 v) (hb : sC.1 36 6 = sM.1 86 17) (hcl : c.length ≤ 270) (hC : prC W c sC.1) (hM : prM c sM.1) (h25 : sM.1 65 25 = zb l) (hl0 : l = false → c = []) (hl1 : l = true → fV c w) : ∃ k s2 t2, 1 ≤ k ∧ k ≤ 60 ∧ u_c 162 [.inr (.inr 38), .inl (zi p), .inl bh, .inl (zi t)] sC = some (some (.inl (zi k)), s2) ∧ u_c 250 [.inr (.inr 67), .inl (zi p), .inl bh] sM = some (some (.inl (zi k)), t2) ∧ u_fr (fun o _ => o = W + 8 ∨ o = W + 9) sC s2 ∧ u_fr (fun o _ => o = 73 ∨ o = 74) sM t2 := by
  obtain ⟨k, s2, t2, k1, k2, a1, a2, a3, a4⟩ := len_two hW h36 hp hv ht e1 e2 n1 n2 n3 m1 hl hb hcl hC hM h25 hl0 hl1 (bh := bh)
  exact ⟨k, s2, t2, k1, k2, a1 (by rw [hs]; exact if_pos (i_left ht hg)), a2, a3, a4⟩
end LEN2
