/-! THE FORMULA DONE: both sides, step by step -/
section EV
variable {W : Nat}
theorem zm1 (n : Nat) : zi n + u_k (-1) = zi n - zi 1 := by
  rw [u_k_eq, Int32.sub_eq_add_neg]
  exact congrArg (zi n + ·) (show Int32.ofInt (-1) = -zi 1 by decide)
theorem zh1 (h : Nat) : zi (h + 1) + u_k (-1) = zi h := by
  rw [zm1, zi_sub (by omega), Nat.add_sub_cancel]
theorem zh0 (h : Nat) : zi h + u_k (-1) + Int32.ofInt 1 = zi h := by
  cases h with
  | zero => rw [u_k_eq]; decide
  | succ h => rw [zh1, zi_one]
theorem zix {x : Int} (h : 0 ≤ x) : Int32.ofInt x = zi x.toNat := by
  obtain ⟨n, rfl⟩ := Int.eq_ofNat_of_zero_le h
  rfl
/-- the class's program, the model's -/
def prC (W : Nat) (c : List Int) (g : Nat → Nat → Int32) : Prop := g (W + 6) 3 = zi c.length ∧ ∀ k x, c[k]? = some x → g (W + 7) k = Int32.ofInt x
def prM (c : List Int) (g : Nat → Nat → Int32) : Prop := g 65 18 = zi c.length ∧ ∀ k x, c[k]? = some x → g 70 k = (ms x).1 ∧ g 71 k = (ms x).2
/-- what is asked for, alike -/
def evA (W : Nat) (f g : Nat → Nat → Int32) : Prop := (f (W + 9) 0 = g 74 2 ∧ f (W + 9) 1 = g 74 0 ∧ f (W + 9) 2 = g 74 1) ∧ f (W + 9) 3 = g 74 3 ∧ f (W + 9) 4 = g 74 4 ∧ f (W + 9) 5 = g 74 5
theorem prC_s {c : List Int} {g : Nat → Nat → Int32} {k : Nat} {x : Int32} (h : prC W c g) : prC W c (y_u g (W + 8) k x) := by
  refine ⟨?_, fun j z hz => ?_⟩
  · rw [y_uN (by omega)]
    exact h.1
  · rw [y_uN (by omega)]
    exact h.2 j z hz
theorem prM_s {c : List Int} {g : Nat → Nat → Int32} {k : Nat} {x : Int32} (h : prM c g) : prM c (y_u g 73 k x) := by
  refine ⟨?_, fun j z hz => ?_⟩
  · rw [y_uN (by omega)]
    exact h.1
  · rw [y_uN (by omega), y_uN (by omega)]
    exact h.2 j z hz
theorem evA_s {f g : Nat → Nat → Int32} {k j : Nat} {x y : Int32} (h : evA W f g) : evA W (y_u f (W + 8) k x) (y_u g 73 j y) := by
  obtain ⟨⟨h0, h1, h2⟩, h3, h4, h5⟩ := h
  have e : ∀ i, y_u f (W + 8) k x (W + 9) i = f (W + 9) i := fun i => y_uN (by omega)
  have e2 : ∀ i, y_u g 73 j y 74 i = g 74 i := fun i => y_uN (by omega)
  exact ⟨⟨by rw [e, e2]; exact h0, by rw [e, e2]; exact h1, by rw [e, e2]; exact h2⟩, by rw [e, e2]; exact h3, by rw [e, e2]; exact h4, by rw [e, e2]; exact h5⟩
/-- one value is put there -/
theorem ev_put {f g : Nat → Nat → Int32} {h : Nat} {x y : Int32} (e : x = y) (hs : ∀ j, j < h → f (W + 8) j = g 73 j) : ∀ j, j < h + 1 → y_u f (W + 8) h x (W + 8) j = y_u g 73 h y 73 j := fun j hj => by
  by_cases q : j = h
  · subst q
    rw [y_uE, y_uE, e]
  · rw [y_uN (by omega), y_uN (by omega)]
    exact hs j (by omega)
/-- what holds behind a program done from here -/
def evR (W : Nat) (N : Nat) (li lj : Nat → Int32) (ll lm : Nat → Int64) (sC sM : u_H) : Prop := ∃ v s2 t2 lj2, u g_t86 51 (li, ll, [(0, W + 8)]) [] sC = some (some (.inl v), s2) ∧ u g_t250 98 (lj, lm, [(0, 67)]) [] sM = u g_t250 98 (lj2, lm, [(0, 67)]) [] t2 ∧ t2.1 73 0 = v ∧ lj2 5 = zi N ∧ (∀ k, k ≠ 4 → k ≠ 5 → lj2 k = lj k) ∧ u_fr (fun o _ => o = W + 8) sC s2 ∧ u_fr (fun o _ => o = 73) sM t2
theorem ev (hW : W = 5 ∨ W = 17) : ∀ (c p : List Int) (h : Nat) (li lj : Nat → Int32) (ll lm : Nat → Int64) (sC sM : u_H), (p ++ c).length ≤ 270 → prC W (p ++ c) sC.1 → prM (p ++ c) sM.1 → evA W sC.1 sM.1 → h + fN c ≤ 30 → fH c h = some 1 → (∀ x ∈ c, fSt x) → li 8 = zi p.length → li 7 = zi h + u_k (-1) → lj 5 = zi p.length → lj 4 = zi h → (∀ j, j < h → sC.1 (W + 8) j = sM.1 73 j) → evR W (p ++ c).length li lj ll lm sC sM
  | [], p, h, li, lj, ll, lm, sC, sM, hl, hC, hM, hA, hn, hf, hx, h8, h7, h5, h4, hs => by
    have hf : some h = some 1 := hf
    injection hf with hf
    subst hf
    rw [List.append_nil] at hl hC hM ⊢
    refine ⟨sC.1 (W + 8) 0, sC, sM, lj, ?_, rfl, (hs 0 (by omega)).symm, h5, fun k _ _ => rfl, u_fr.rf, u_fr.rf⟩
    rw [b_86_51 hW, h8, hC.1, if_neg (by rw [zi_lt (by omega) (by omega)]; omega)]
  | x :: c, p, h, li, lj, ll, lm, sC, sM, hl, hC, hM, hA, hn, hf, hx, h8, h7, h5, h4, hs => by
    have hap : p ++ x :: c = (p ++ [x]) ++ c := by rw [List.append_assoc]; rfl
    have hlen : (p ++ x :: c).length = p.length + (c.length + 1) := by rw [List.length_append]; rfl
    have hp1 : (p ++ [x]).length = p.length + 1 := by rw [List.length_append]; rfl
    have hget : (p ++ x :: c)[p.length]? = some x := by
      rw [List.getElem?_append_right (Nat.le_refl _), Nat.sub_self]
      rfl
    have eC := hC.2 _ _ hget
    have eM := hM.2 _ _ hget
    have hin : u_in (zi p.length) 270 = true := (u_inz (by omega)).mpr (by omega)
    have hin2 : u_in (zi p.length) 320 = true := (u_inz (by omega)).mpr (by omega)
    have hcl : (zi p.length).toNatClampNeg = p.length := zi_clamp (by omega)
    have hlt : zi p.length < zi (p ++ x :: c).length := (zi_lt (by omega) (by omega)).mpr (by omega)
    rw [fN_cons] at hn
    rw [fH_cons] at hf
    have hx1 := hx x List.mem_cons_self
    have hxc : ∀ y ∈ c, fSt y := fun y hy => hx y (List.mem_cons_of_mem _ hy)
    -- behind one value more
    have push : ∀ (v : Int32) (z : Int32), h ≤ 29 → fH c (h + 1) = some 1 → h + 1 + fN c ≤ 30 → u g_t86 51 (li, ll, [(0, W + 8)]) [] sC = u g_t86 51 (u_l1 (u_l1 (u_l1 li 9 z) 7 (zi h)) 8 (zi (p.length + 1)), ll, [(0, W + 8)]) [] (y_u sC.1 (W + 8) h v, sC.2) → u g_t250 98 (lj, lm, [(0, 67)]) [] sM = u g_t250 98 (u_l1 (u_l1 lj 4 (zi (h + 1))) 5 (zi (p.length + 1)), lm, [(0, 67)]) [] (y_u sM.1 73 h v, sM.2) → evR W (p ++ x :: c).length li lj ll lm sC sM := by
      intro v z h29 g1 g2 r1 r2
      obtain ⟨w, s2, t2, lj2, a1, a2, a3, a4, a5, a6, a7⟩ := ev hW c (p ++ [x]) (h + 1) (u_l1 (u_l1 (u_l1 li 9 z) 7 (zi h)) 8 (zi (p.length + 1))) (u_l1 (u_l1 lj 4 (zi (h + 1))) 5 (zi (p.length + 1))) ll lm (y_u sC.1 (W + 8) h v, sC.2) (y_u sM.1 73 h v, sM.2) (by rw [← hap]; exact hl) (by rw [← hap]; exact prC_s hC) (by rw [← hap]; exact prM_s hM) (evA_s hA) g2 g1 hxc (by rw [u_l1E, hp1]) (by rw [u_l1N (by omega), u_l1E, zh1]) (by rw [u_l1E, hp1]) (by rw [u_l1N (by omega), u_l1E]) (ev_put rfl hs)
      rw [← hap] at a4
      refine ⟨w, s2, t2, lj2, r1.trans a1, r2.trans a2, a3, a4, fun k k4 k5 => ?_, (u_fr.wi (P := fun o _ => o = W + 8) (f := sC.1) (r := sC.2) u_fr.rf rfl).tr a6, (u_fr.wi (P := fun o _ => o = 73) (f := sM.1) (r := sM.2) u_fr.rf rfl).tr a7⟩
      rw [a5 k k4 k5, u_l1N k5, u_l1N k4]
    have top : h ≤ 29 → (if Int32.ofInt 29 < li 7 + Int32.ofInt 1 then Int32.ofInt 29 else li 7 + Int32.ofInt 1) = zi h := fun h29 => by
      rw [h7, zh0, if_neg (show ¬ Int32.ofInt 29 < zi h from fun e => by have := (zi_lt (a := 29) (by omega) (by omega)).mp e; omega)]
    by_cases a : x < 10000
    · rw [if_pos a] at hn hf
      have h29 : h ≤ 29 := by omega
      have hinh : u_in (zi h) 30 = true := (u_inz (by omega)).mpr (by omega)
      have hinh2 : u_in (zi h) 64 = true := (u_inz (by omega)).mpr (by omega)
      have hclh : (zi h).toNatClampNeg = h := zi_clamp (by omega)
      by_cases b : x < 0
      · have hx6 : x = -1 ∨ x = -2 ∨ x = -3 ∨ x = -4 ∨ x = -5 ∨ x = -6 := by
          rcases hx1 with q | ⟨k, -, q⟩
          · omega
          · omega
        -- the value asked for, by its place on both sides
        have ask : ∀ j j2 : Nat, j < 6 → j2 < 6 → sC.1 (W + 9) j = sM.1 74 j2 → Int32.ofInt x < u_k 10000 → Int32.ofInt x < 0 → u_k (-1) - Int32.ofInt x = zi j → ms x = (Int32.ofInt 1, zi j2) → evR W (p ++ x :: c).length li lj ll lm sC sM := by
          intro j j2 hj hj2 e1 e2 e3 e4 e5
          have i6 : u_in (zi j) 6 = true := (u_inz (by omega)).mpr hj
          have i62 : u_in (zi j2) 6 = true := (u_inz (by omega)).mpr hj2
          have c6 : (zi j).toNatClampNeg = j := zi_clamp (by omega)
          have c62 : (zi j2).toNatClampNeg = j2 := zi_clamp (by omega)
          rw [e5] at eM
          refine push (sC.1 (W + 9) j) (Int32.ofInt x) h29 hf (by omega) ?_ ?_
          · rw [b_86_51 hW, h8, hC.1, if_pos hlt, if_pos hin, hcl, eC, if_pos e2, if_pos e3, e4, if_pos i6, top h29, if_pos hinh, hclh, c6, zi_one]
          · rw [b_250_98, h5, hM.1, if_pos hlt, if_pos hin2, hcl, eM.1, if_neg (show ¬ Int32.ofInt 1 = 0 by decide), if_pos hin2, if_pos rfl, b_250_128, h5, if_pos hin2, hcl, eM.1, if_neg (show ¬ Int32.ofInt 1 = 0 by decide), if_pos hin2, eM.2, if_pos i62, h4, if_pos hinh2, hclh, c62, zi_one, zi_one, ← e1]
        obtain ⟨⟨A0, A1, A2⟩, A3, A4, A5⟩ := hA
        have k1 : ∀ z : Int32, z < Int32.ofInt 10000 → z < u_k 10000 := fun z e => by rw [u_k_eq]; exact e
        have k2 : ∀ (z w : Int32), Int32.ofInt (-1) - z = w → u_k (-1) - z = w := fun z w e => by rw [u_k_eq]; exact e
        rcases hx6 with rfl | rfl | rfl | rfl | rfl | rfl
        · exact ask 0 2 (by omega) (by omega) A0 (k1 _ (by decide)) (by decide) (k2 _ _ (by decide)) rfl
        · exact ask 1 0 (by omega) (by omega) A1 (k1 _ (by decide)) (by decide) (k2 _ _ (by decide)) rfl
        · exact ask 2 1 (by omega) (by omega) A2 (k1 _ (by decide)) (by decide) (k2 _ _ (by decide)) rfl
        · exact ask 3 3 (by omega) (by omega) A3 (k1 _ (by decide)) (by decide) (k2 _ _ (by decide)) rfl
        · exact ask 4 4 (by omega) (by omega) A4 (k1 _ (by decide)) (by decide) (k2 _ _ (by decide)) rfl
        · exact ask 5 5 (by omega) (by omega) A5 (k1 _ (by decide)) (by decide) (k2 _ _ (by decide)) rfl
      · obtain ⟨n, rfl⟩ := Int.eq_ofNat_of_zero_le (show 0 ≤ x by omega)
        have hn4 : n < 10000 := by omega
        have e5 : ms (n : Int) = (Int32.ofInt 0, zi n) := by
          unfold ms
          rw [if_neg b, if_pos a]
          rfl
        rw [e5] at eM
        have eC : sC.1 (W + 7) p.length = zi n := eC
        refine push (zi n) (zi n) h29 hf (by omega) ?_ ?_
        · rw [b_86_51 hW, h8, hC.1, if_pos hlt, if_pos hin, hcl, eC, if_pos (show zi n < u_k 10000 by rw [show u_k 10000 = zi 10000 from u_kz 10000, zi_lt (by omega) (by omega)]; exact hn4), if_neg (zi_nonneg (by omega)), top h29, if_pos hinh, hclh, zi_one]
        · rw [b_250_98, h5, hM.1, if_pos hlt, if_pos hin2, hcl, eM.1, if_pos (show Int32.ofInt 0 = 0 by decide), b_250_128, h5, if_pos hin2, hcl, eM.1, if_pos (show Int32.ofInt 0 = 0 by decide), if_pos hin2, eM.2, h4, if_pos hinh2, hclh, zi_one, zi_one]
    · rw [if_neg a] at hn hf
      by_cases b : x = 10272
      · subst b
        rw [if_pos rfl] at hf
        by_cases g : 0 < h
        · rw [if_pos g] at hf
          obtain ⟨h', rfl⟩ : ∃ h', h = h' + 1 := ⟨h - 1, by omega⟩
          have e7 : li 7 = zi h' := by rw [h7, zh1]
          have e4 : lj 4 - Int32.ofInt 1 = zi h' := by rw [h4, show Int32.ofInt 1 = zi 1 from rfl, zi_sub (by omega), Nat.add_sub_cancel]
          have hinh : u_in (zi h') 30 = true := (u_inz (by omega)).mpr (by omega)
          have hinh2 : u_in (zi h') 64 = true := (u_inz (by omega)).mpr (by omega)
          have hclh : (zi h').toNatClampNeg = h' := zi_clamp (by omega)
          have eM1 : sM.1 70 p.length = Int32.ofInt 2 := eM.1
          have hk : ¬ Int32.ofInt 10272 < u_k 10000 := by rw [u_k_eq]; decide
          have fin : ∀ v : Int32, u g_t86 51 (li, ll, [(0, W + 8)]) [] sC = u g_t86 51 (u_l1 (u_l1 li 9 (Int32.ofInt 10272)) 8 (zi (p.length + 1)), ll, [(0, W + 8)]) [] (y_u sC.1 (W + 8) h' v, sC.2) → u g_t250 98 (lj, lm, [(0, 67)]) [] sM = u g_t250 98 (u_l1 lj 5 (zi (p.length + 1)), lm, [(0, 67)]) [] (y_u sM.1 73 h' v, sM.2) → evR W (p ++ 10272 :: c).length li lj ll lm sC sM := by
            intro v r1 r2
            obtain ⟨w, s2, t2, lj2, a1, a2, a3, a4, a5, a6, a7⟩ := ev hW c (p ++ [10272]) (h' + 1) (u_l1 (u_l1 li 9 (Int32.ofInt 10272)) 8 (zi (p.length + 1))) (u_l1 lj 5 (zi (p.length + 1))) ll lm (y_u sC.1 (W + 8) h' v, sC.2) (y_u sM.1 73 h' v, sM.2) (by rw [← hap]; exact hl) (by rw [← hap]; exact prC_s hC) (by rw [← hap]; exact prM_s hM) (evA_s hA) (by omega) hf hxc (by rw [u_l1E, hp1]) (by rw [u_l1N (by omega), u_l1N (by omega)]; exact h7) (by rw [u_l1E, hp1]) (by rw [u_l1N (by omega)]; exact h4) (ev_put rfl (fun j hj => hs j (by omega)))
            rw [← hap] at a4
            refine ⟨w, s2, t2, lj2, r1.trans a1, r2.trans a2, a3, a4, fun k k4 k5 => ?_, (u_fr.wi (P := fun o _ => o = W + 8) (f := sC.1) (r := sC.2) u_fr.rf rfl).tr a6, (u_fr.wi (P := fun o _ => o = 73) (f := sM.1) (r := sM.2) u_fr.rf rfl).tr a7⟩
            rw [a5 k k4 k5, u_l1N k5]
          by_cases z : sC.1 (W + 8) h' = 0
          · have z2 : sM.1 73 h' = 0 := (hs h' (by omega)).symm.trans z
            refine fin (Int32.ofInt 1) ?_ ?_
            · rw [b_86_51 hW, h8, hC.1, if_pos hlt, if_pos hin, hcl, eC, if_neg hk, if_pos (u_k_eq 10272).symm, e7, if_neg (zi_nonneg (by omega)), if_pos hinh, hclh, if_pos z, if_pos hinh, zi_one]
            · rw [b_250_98, h5, hM.1, if_pos hlt, if_pos hin2, hcl, eM1, if_neg (show ¬ Int32.ofInt 2 = 0 by decide), if_pos hin2, if_neg (show ¬ Int32.ofInt 2 = Int32.ofInt 1 by decide), if_pos hin2, if_pos rfl, e4, if_pos hinh2, hclh, if_pos z2, m_tr1, u_biS, if_pos hinh2, zi_one]
          · have z2 : ¬ sM.1 73 h' = 0 := fun e => z ((hs h' (by omega)).trans e)
            refine fin (Int32.ofInt 0) ?_ ?_
            · rw [b_86_51 hW, h8, hC.1, if_pos hlt, if_pos hin, hcl, eC, if_neg hk, if_pos (u_k_eq 10272).symm, e7, if_neg (zi_nonneg (by omega)), if_pos hinh, hclh, if_neg z, if_pos hinh, zi_one]
            · rw [b_250_98, h5, hM.1, if_pos hlt, if_pos hin2, hcl, eM1, if_neg (show ¬ Int32.ofInt 2 = 0 by decide), if_pos hin2, if_neg (show ¬ Int32.ofInt 2 = Int32.ofInt 1 by decide), if_pos hin2, if_pos rfl, e4, if_pos hinh2, hclh, if_neg z2, m_tr0, u_biS, if_pos hinh2, zi_one]
        · rw [if_neg g] at hf
          cases hf
      · rw [if_neg b] at hf
        by_cases g : 1 < h
        · rw [if_pos g] at hf
          obtain ⟨h', rfl⟩ : ∃ h', h = h' + 1 + 1 := ⟨h - 2, by omega⟩
          rw [show h' + 1 + 1 - 1 = h' + 1 by omega] at hf
          obtain ⟨k, hk, rfl⟩ : ∃ k : Nat, f_ti k ≠ 0 ∧ x = (10000 + k : Int) := by
            rcases hx1 with q | q
            · exact absurd q.2 a
            · exact q
          have hk2 : k ≠ 272 := fun q => b (by omega)
          have hk3 : k ≤ 300 := by
            rcases fv_l (Or.inr hk) with q | q | q | q | q | q | q | q | q | q | q | q <;> omega
          have hk40 : k ≠ 40 := fun q => by
            subst q
            exact hk rfl
          have eCk : sC.1 (W + 7) p.length = zi (10000 + k) := eC
          have eMk := eM
          rw [ms_op (Or.inr hk) hk40 hk2] at eMk
          have e7 : li 7 = zi (h' + 1) := by rw [h7, zh1]
          have e71 : li 7 + u_k (-1) = zi h' := by rw [e7, zh1]
          have e4 : lj 4 + u_k (-1) = zi (h' + 1) := by rw [h4, zh1]
          have e41 : lj 4 + u_k (-1) - Int32.ofInt 1 = zi h' := by rw [e4, show Int32.ofInt 1 = zi 1 from rfl, zi_sub (by omega), Nat.add_sub_cancel]
          have hinh : u_in (zi h') 30 = true := (u_inz (by omega)).mpr (by omega)
          have hinh1 : u_in (zi (h' + 1)) 30 = true := (u_inz (by omega)).mpr (by omega)
          have hinh2 : u_in (zi h') 64 = true := (u_inz (by omega)).mpr (by omega)
          have hinh3 : u_in (zi (h' + 1)) 64 = true := (u_inz (by omega)).mpr (by omega)
          have hclh : (zi h').toNatClampNeg = h' := zi_clamp (by omega)
          have hclh1 : (zi (h' + 1)).toNatClampNeg = h' + 1 := zi_clamp (by omega)
          obtain ⟨v, o1, o2⟩ := opA_all hk hk2 (sC.1 (W + 8) h') (sC.1 (W + 8) (h' + 1)) sC sM
          have ez : zi (10000 + k) - u_k 10000 = zi k := by
            rw [show u_k 10000 = zi 10000 from u_kz 10000, zi_sub (by omega), Nat.add_sub_cancel_left]
          have n1 : ¬ zi (10000 + k) < u_k 10000 := by
            rw [show u_k 10000 = zi 10000 from u_kz 10000, zi_lt (by omega) (by omega)]
            omega
          have n2 : ¬ zi (10000 + k) = u_k 10272 := by
            rw [show u_k 10272 = zi 10272 from u_kz 10272, zi_inj (by omega) (by omega)]
            omega
          have r1 : u g_t86 51 (li, ll, [(0, W + 8)]) [] sC = u g_t86 51 (u_l1 (u_l1 (u_l1 li 9 (zi (10000 + k))) 7 (zi h')) 8 (zi (p.length + 1)), ll, [(0, W + 8)]) [] (y_u sC.1 (W + 8) h' v, sC.2) := by
            rw [b_86_51 hW, h8, hC.1, if_pos hlt, if_pos hin, hcl, eCk, if_neg n1, if_neg n2, b_86_155 hW, show u_l1 li 9 (zi (10000 + k)) 7 = li 7 from u_l1N (by omega), show u_l1 li 9 (zi (10000 + k)) 8 = li 8 from u_l1N (by omega), show u_l1 li 9 (zi (10000 + k)) 9 = zi (10000 + k) from u_l1E _ _ _, e71, if_pos (show 0 < li 7 by rw [e7]; exact (zi_lt (a := 0) (by omega) (by omega)).mpr (by omega)), if_pos hinh, zi_one, if_pos hinh1, hclh, hclh1, ez, o1, u_biS, if_pos hinh, h8, zi_one]
          have r2 : u g_t250 98 (lj, lm, [(0, 67)]) [] sM = u g_t250 98 (u_l1 (u_l1 lj 4 (zi (h' + 1))) 5 (zi (p.length + 1)), lm, [(0, 67)]) [] (y_u sM.1 73 h' v, sM.2) := by
            rw [b_250_98, h5, hM.1, if_pos hlt, if_pos hin2, hcl, eMk.1, if_neg (show ¬ Int32.ofInt 3 = 0 by decide), if_pos hin2, if_neg (show ¬ Int32.ofInt 3 = Int32.ofInt 1 by decide), if_pos hin2, if_neg (show ¬ Int32.ofInt 3 = Int32.ofInt 2 by decide), if_pos hin2, e41, if_pos hinh2, e4, if_pos hinh3, hclh, hclh1, eMk.2, ← hs h' (by omega), ← hs (h' + 1) (by omega), o2, u_biS, if_pos hinh2, zi_one]
          obtain ⟨w, s2, t2, lj2, a1, a2, a3, a4, a5, a6, a7⟩ := ev hW c (p ++ [(10000 + k : Int)]) (h' + 1) (u_l1 (u_l1 (u_l1 li 9 (zi (10000 + k))) 7 (zi h')) 8 (zi (p.length + 1))) (u_l1 (u_l1 lj 4 (zi (h' + 1))) 5 (zi (p.length + 1))) ll lm (y_u sC.1 (W + 8) h' v, sC.2) (y_u sM.1 73 h' v, sM.2) (by rw [← hap]; exact hl) (by rw [← hap]; exact prC_s hC) (by rw [← hap]; exact prM_s hM) (evA_s hA) (by omega) hf hxc (by rw [u_l1E, hp1]) (by rw [u_l1N (by omega), u_l1E, zh1]) (by rw [u_l1E, hp1]) (by rw [u_l1N (by omega), u_l1E]) (ev_put rfl (fun j hj => hs j (by omega)))
          rw [← hap] at a4
          refine ⟨w, s2, t2, lj2, r1.trans a1, r2.trans a2, a3, a4, fun k k4 k5 => ?_, (u_fr.wi (P := fun o _ => o = W + 8) (f := sC.1) (r := sC.2) u_fr.rf rfl).tr a6, (u_fr.wi (P := fun o _ => o = 73) (f := sM.1) (r := sM.2) u_fr.rf rfl).tr a7⟩
          rw [a5 k k4 k5, u_l1N k5, u_l1N k4]
        · rw [if_neg g] at hf
          cases hf
end EV
