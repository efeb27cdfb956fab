/-! THE LAW'S LOOP, over its cases -/
theorem l_ix {i : Int32} {I j : Nat} (hi : i.toInt = (I : Int)) (hI : I ≤ 100000) (hj : j < 10) : (i + Int32.ofInt (j : Int)).toInt = ((I + j : Nat) : Int) := by
  have e : (Int32.ofInt (j : Int)).toInt = (j : Int) := by
    rcases (show j = 0 ∨ j = 1 ∨ j = 2 ∨ j = 3 ∨ j = 4 ∨ j = 5 ∨ j = 6 ∨ j = 7 ∨ j = 8 ∨ j = 9 by omega) with rfl | rfl | rfl | rfl | rfl | rfl | rfl | rfl | rfl | rfl <;> decide
  rw [y_add (x := i) (y := Int32.ofInt (j : Int)) (by rw [e]; omega) (by rw [e]; omega), e, hi]
  omega
theorem l_and63 (x : Int32) : 0 ≤ (x &&& Int32.ofInt 63).toInt ∧ (x &&& Int32.ofInt 63).toInt < 64 := by
  have h := q_jand_ok (a := q_jall) (b := (2147483711, 2147483711)) (x := x) (y := Int32.ofInt 63) (q_jall_ok x) ⟨by decide, by decide⟩
  have e := q_pc_int (x &&& Int32.ofInt 63)
  have h1 : 2147483648 ≤ q_pc (x &&& Int32.ofInt 63) := h.1
  have h2 : q_pc (x &&& Int32.ofInt 63) ≤ 2147483711 := h.2
  omega
abbrev l_ls (i : Int32) : q_U Int32 := [(3, .inl i), (2, .inr (.inr 67)), (1, .inr (.inr 2)), (0, .inr (.inr 1))]
def l_Case (tg : Nat) : Prop := ∀ (xs : List Int32) (n : Nat) (s : y_H) (i : Int32) (I : Nat), xs.length ≤ 3072 → i.toInt = (I : Int) → I + 6 ≤ xs.length → LInv n s → jS s → (∀ m s2, LInv m s2 → jS s2 → l_W xs 1613 (l_ls i) [] s2) → l_W xs tg (l_ls i) [] s
theorem l_loop (hc : ∀ v tg : Nat, l_tg[v]? = some tg → l_Case tg) {xs : List Int32} (hL : xs.length ≤ 3072) : ∀ (c n : Nat) (s : y_H) (i : Int32) (I : Nat), i.toInt = (I : Int) → I ≤ xs.length → xs.length - I ≤ c → LInv n s → jS s → l_W xs 18 (l_ls i) [] s := by
  have eL : (Int32.ofNat xs.length).toInt = (xs.length : Int) := Int32.toInt_ofNat_of_lt (by omega)
  have e6 : (Int32.ofNat xs.length - Int32.ofInt 6).toInt = (xs.length : Int) - 6 := by
    rw [y_sb (x := Int32.ofNat xs.length) (y := Int32.ofInt 6) (by rw [eL]; show _ ≤ _ - (6 : Int); omega) (by rw [eL]; show _ - (6 : Int) ≤ _; omega), eL]
    rfl
  intro c
  induction c with
  | zero =>
    intro n s i I hi hI hcc hv hg
    refine l_run 2 rfl ?_
    refine l_slen rfl ?_
    refine l_run 2 rfl ?_
    refine l_ic rfl (fun _ => ?_) (fun h => ?_)
    · refine l_run 1 rfl ?_
      exact l_end
    · have h2 : ¬ (Int32.ofNat xs.length - Int32.ofInt 6).toInt < i.toInt := h
      omega
  | succ c ih =>
    intro n s i I hi hI hcc hv hg
    refine l_run 2 rfl ?_
    refine l_slen rfl ?_
    refine l_run 2 rfl ?_
    refine l_ic rfl (fun _ => ?_) (fun h => ?_)
    · refine l_run 1 rfl ?_
      exact l_end
    have h2 : ¬ (Int32.ofNat xs.length - Int32.ofInt 6).toInt < i.toInt := h
    have hI6 : I + 6 ≤ xs.length := by omega
    have next : ∀ m s2, LInv m s2 → jS s2 → l_W xs 1613 (l_ls i) [] s2 := by
      intro m s2 hv2 hg2
      refine l_run 2 rfl ?_
      exact ih m s2 (i + Int32.ofInt 6) (I + 6) (l_ix (j := 6) hi (by omega) (by omega)) hI6 (by omega) hv2 hg2
    refine l_run 2 rfl ?_
    refine l_sld (j := I) (e := xs[I]) rfl hi (List.getElem?_eq_getElem (by omega)) ?_
    refine l_run 2 rfl ?_
    have hm := l_and63 xs[I]
    obtain ⟨v, hvv⟩ : ∃ v : Nat, (xs[I] &&& Int32.ofInt 63).toInt = (v : Int) := ⟨(xs[I] &&& Int32.ofInt 63).toInt.toNat, by omega⟩
    refine l_tsw hvv (by omega) (fun tg t1 t2 => ?_)
    rcases Nat.lt_or_ge v 57 with q | q
    · exact hc v tg (t1 q) xs n s i I hL hi hI6 hv hg next
    · rw [t2 q]
      exact next n s hv hg
theorem l_all (hc : ∀ v tg : Nat, l_tg[v]? = some tg → l_Case tg) {xs : List Int32} (hL : xs.length ≤ 3072) : ∃ (n i : Nat) (ls : q_U Int32) (h : q_H Int32) (ns : Nat), q_iter q_O32 (some xs) g_ts n 100 g_tl i ((0, [(0, .inr (.inr 1))], []), [], 0) = some ((1620, ls, [.inl 1]), h, ns) ∧ h.length ≤ 600000 ∧ ns ≤ 7302250 := by
  refine l_start (fun s hv hg => ?_)
  refine l_run 2 rfl ?_
  exact l_loop hc hL xs.length 0 s (Int32.ofInt 0) 0 rfl (Nat.zero_le _) (Nat.sub_le _ _) hv hg
/-! end, quay, feed -/
theorem l_Tdup {n : Nat} {s : y_H} {o k : Nat} {x : Int32} (h1 : ¬ (o = 3 ∧ k = 4)) (h2 : ¬ (o = 15 ∧ k = 4)) (hD : y_Td n s) : y_Td n (y_up s o k (.inl x)) := by
  rcases hD with ⟨a, b⟩ | ⟨a, b⟩
  · exact Or.inl ⟨a, by rw [y_up_ne (fun q => h1 ⟨q.1.symm, q.2.symm⟩)]; exact b⟩
  · exact Or.inr ⟨a, by rw [y_up_ne (fun q => h2 ⟨q.1.symm, q.2.symm⟩)]; exact b⟩
theorem l_ou {K : List (Nat × Nat)} {r : Nat × Nat} {g : Nat} (hK : K.all (fun q => Nat.blt q.2 r.1 || Nat.blt r.2 q.1) = true) (h1 : r.1 ≤ g) (h2 : g ≤ r.2) : w_inm K g = false := by
  rw [List.all_eq_true] at hK
  unfold w_inm
  cases hc : K.any (fun q => Nat.ble q.1 g && Nat.ble g q.2) with
  | false => rfl
  | true =>
    rw [List.any_eq_true] at hc
    obtain ⟨q, hq, hq2⟩ := hc
    rw [Bool.and_eq_true] at hq2
    have a1 := Nat.le_of_ble_eq_true hq2.1
    have a2 := Nat.le_of_ble_eq_true hq2.2
    have h3 := hK q hq
    rw [Bool.or_eq_true] at h3
    rcases h3 with h3 | h3
    · have := q_blt h3
      omega
    · have := q_blt h3
      omega
/-- a case that leaves the state alone -/
def l_CaseA (tg : Nat) : Prop := ∀ (xs : List Int32) (n : Nat) (s : y_H) (i : Int32) (I : Nat), xs.length ≤ 3072 → i.toInt = (I : Int) → I + 6 ≤ xs.length → LInv n s → jA s → (∀ m s2, LInv m s2 → jA s2 → (∀ o k, (mD o k ∨ sS o k) → s2.1 o k = s.1 o k) → l_W xs 1613 (l_ls i) [] s2) → l_W xs tg (l_ls i) [] s
theorem l_CA {tg : Nat} (h : l_CaseA tg) : l_Case tg := fun xs n s i I hL hi hI hv hg next => h xs n s i I hL hi hI hv hg.1 (fun m s2 v2 a2 e => next m s2 v2 (jS_of hg a2 (fun o k q => e o k (Or.inl q)) (fun o k q => e o k (Or.inr q))))
theorem l_cEndA : l_CaseA 339 := by
  intro xs n s i I hL hi hI hv hg next
  refine l_run 5 rfl ?_
  refine l_sld (j := I + 1) (e := xs[I + 1]) rfl (l_ix (j := 1) hi (by omega) (by omega)) (List.getElem?_eq_getElem (by omega)) ?_
  generalize hx : xs[I + 1] = x
  refine l_call (y_endC (V := y_Vn n)) rfl (a := [.inr (.inr 2), .inl x]) rfl rfl (fun h hR => y_mayV (o := 0) (sz := 15) rfl hR) (by decide) ⟨hv.1, x, rfl⟩ (fun v s2 hQ => ?_)
  obtain ⟨x2, ha, hT2, hc2⟩ := hQ
  have ex : x = x2 := by
    injection ha with _ ha
    injection ha with ha _
    injection ha
  subst ex
  have hg0 := hg.1
  obtain ⟨⟨N, n1, n2, n3, n4⟩, n5, n6⟩ := hg0
  have eN : (s.1 1 1).toInt = (N : Int) := by
    rw [n2]
    exact zi_int (by omega)
  have hI2 : s2.2.2 = s.2.2 ∧ LInv n s2 ∧ (∀ o k, ¬ (o = 1 ∧ k = 1) → s2.1 o k = s.1 o k) ∧ ((0 ≤ x.toInt ∧ x.toInt ≤ (N : Int) ∧ s2.1 1 1 = x) ∨ (¬ (0 ≤ x.toInt ∧ x.toInt ≤ (N : Int)) ∧ s2.1 1 1 = s.1 1 1)) ∧ ∃ z : Int32, v = some (.inl z) := by
    rcases hc2 with ⟨a1, a2, rfl, rfl⟩ | ⟨a1, rfl, rfl⟩
    · exact ⟨rfl, ⟨hT2, l_Tdup (by omega) (by omega) hv.2.1, hv.2.2⟩, fun o k h => y_up_ne h, Or.inl ⟨a1, by rw [← eN]; exact a2, y_up_self⟩, _, rfl⟩
    · exact ⟨rfl, hv, fun o k h => rfl, Or.inr ⟨by rw [← eN]; exact a1, rfl⟩, _, rfl⟩
  obtain ⟨er2, v2, g2, g3, z, rfl⟩ := hI2
  have eM : (s2.1 65 1).toInt = (N : Int) := by
    rw [g2 65 1 (by omega), n3]
    exact zi_int (by omega)
  refine l_run 6 rfl ?_
  refine l_sld (j := I + 1) (e := xs[I + 1]) rfl (l_ix (j := 1) hi (by omega) (by omega)) (List.getElem?_eq_getElem (by omega)) ?_
  rw [hx]
  refine l_call (y_endM (V := y_Vn n)) rfl (a := [.inr (.inr 67), .inl x]) rfl rfl (fun h hR => y_mayV (o := 65) (sz := 85) rfl hR) (by decide) ⟨v2.1, x, rfl⟩ (fun v s3 hQ => ?_)
  obtain ⟨x3, ha, hT3, hc3⟩ := hQ
  have ex : x = x3 := by
    injection ha with _ ha
    injection ha with ha _
    injection ha
  subst ex
  have hI3 : s3.2.2 = s2.2.2 ∧ LInv n s3 ∧ (∀ o k, ¬ (o = 65 ∧ k = 1) → s3.1 o k = s2.1 o k) ∧ ((0 ≤ x.toInt ∧ x.toInt ≤ (N : Int) ∧ s3.1 65 1 = x) ∨ (¬ (0 ≤ x.toInt ∧ x.toInt ≤ (N : Int)) ∧ s3.1 65 1 = s2.1 65 1)) ∧ ∃ z : Int32, v = some (.inl z) := by
    rcases hc3 with ⟨a1, a2, rfl, rfl⟩ | ⟨a1, rfl, rfl⟩
    · exact ⟨rfl, ⟨hT3, l_Tdup (by omega) (by omega) v2.2.1, v2.2.2⟩, fun o k h => y_up_ne h, Or.inl ⟨a1, by rw [← eM]; exact a2, y_up_self⟩, _, rfl⟩
    · exact ⟨rfl, v2, fun o k h => rfl, Or.inr ⟨by rw [← eM]; exact a1, rfl⟩, _, rfl⟩
  obtain ⟨er3, v3, g4, g5, z3, rfl⟩ := hI3
  refine l_run 2 rfl ?_
  have e : ∀ o k, ¬ (o = 1 ∧ k = 1) → ¬ (o = 65 ∧ k = 1) → s3.1 o k = s.1 o k := fun o k a b => (g4 o k b).trans (g2 o k a)
  refine next n s3 v3 ?_ (fun o k q => e o k (by unfold mD sS stC sbC smA sbM qS at q; omega) (by unfold mD sS stC sbC smA sbM qS at q; omega))
  refine jA_of hv.2.2 hg ?_ (fun o k q => e o k (by unfold tv qD mD vS qV at q; omega) (by unfold tv qD mD vS qV at q; omega)) (by rw [er3, er2])
  refine ⟨?_, by rw [e 27 8 (by omega) (by omega), e 65 2 (by omega) (by omega)]; exact n5, by rw [e 27 9 (by omega) (by omega), e 65 3 (by omega) (by omega)]; exact n6⟩
  rcases g3 with ⟨b1, b2, b3⟩ | ⟨b1, b3⟩
  · rcases g5 with ⟨d1, d2, d3⟩ | ⟨d1, d3⟩
    · obtain ⟨m, hm⟩ : ∃ m : Nat, x.toInt = (m : Int) := ⟨x.toInt.toNat, by omega⟩
      have hxm : x = zi m := by
        refine Int32.toInt_inj.mp ?_
        rw [hm, zi_int (by omega)]
      refine ⟨m, by omega, by rw [g4 1 1 (by omega), b3, hxm], by rw [d3, hxm], fun k hk => ?_⟩
      rw [e 2 k (by omega) (by omega), e 66 k (by omega) (by omega)]
      exact n4 k (by omega)
    · exact absurd ⟨b1, b2⟩ d1
  · rcases g5 with ⟨d1, d2, d3⟩ | ⟨d1, d3⟩
    · exact absurd ⟨d1, d2⟩ b1
    · refine ⟨N, n1, by rw [g4 1 1 (by omega), b3, n2], by rw [d3, g2 65 1 (by omega), n3], fun k hk => ?_⟩
      rw [e 2 k (by omega) (by omega), e 66 k (by omega) (by omega)]
      exact n4 k hk
theorem l_cFeedA : l_CaseA 276 := by
  intro xs n s i I hL hi hI hv hg next
  have el : ∀ j : Nat, j < 10 → (i + Int32.ofInt (j : Int)).toInt = ((I + j : Nat) : Int) := fun j hj => l_ix hi (by omega) hj
  refine l_run 5 rfl ?_
  refine l_sld (j := I + 1) (e := xs[I + 1]) rfl (el 1 (by omega)) (List.getElem?_eq_getElem (by omega)) ?_
  refine l_run 4 rfl ?_
  refine l_sld (j := I + 2) (e := xs[I + 2]) rfl (el 2 (by omega)) (List.getElem?_eq_getElem (by omega)) ?_
  refine l_run 4 rfl ?_
  refine l_sld (j := I + 3) (e := xs[I + 3]) rfl (el 3 (by omega)) (List.getElem?_eq_getElem (by omega)) ?_
  refine l_run 4 rfl ?_
  refine l_sld (j := I + 4) (e := xs[I + 4]) rfl (el 4 (by omega)) (List.getElem?_eq_getElem (by omega)) ?_
  refine l_run 4 rfl ?_
  refine l_sld (j := I + 5) (e := xs[I + 5]) rfl (el 5 (by omega)) (List.getElem?_eq_getElem (by omega)) ?_
  refine l_call (y_C.u (by decide) (y_feedC (V := y_Vn n))) rfl (a := [.inr (.inr 2), .inl ((xs[I + 1])), .inl ((xs[I + 2])), .inl ((xs[I + 3])), .inl ((xs[I + 4])), .inl ((xs[I + 5]))]) rfl rfl (fun h hR => y_mayV (o := 0) (sz := 15) rfl hR) (by decide) ⟨hv.1, _, _, _, _, _, rfl⟩ (fun v s2 hQ => ?_)
  obtain ⟨⟨hT2, hf2, c, rfl, hc2⟩, t2, ht2, hz2⟩ := hQ
  have v2 : LInv n s2 := by
    refine ⟨hT2, y_Td_fr hf2 (by decide +kernel) (by decide +kernel) (by decide +kernel) hv.2.1, ?_⟩
    unfold y_Un
    rw [y_fr66 hf2 (by decide +kernel), y_fr67 hf2 (by decide +kernel)]
    exact hv.2.2
  have g2 : s2.1 65 1 = s.1 65 1 ∧ s2.1 65 2 = s.1 65 2 ∧ s2.1 65 3 = s.1 65 3 ∧ s2.1 27 8 = s.1 27 8 ∧ s2.1 27 9 = s.1 27 9 := ⟨hf2.at (o := 65) (k := 1) rfl rfl (by decide +kernel), hf2.at (o := 65) (k := 2) rfl rfl (by decide +kernel), hf2.at (o := 65) (k := 3) rfl rfl (by decide +kernel), hf2.at (o := 27) (k := 8) rfl rfl (by decide +kernel), hf2.at (o := 27) (k := 9) rfl rfl (by decide +kernel)⟩
  have g266 : ∀ k, k < 1600 → s2.1 66 k = s.1 66 k := fun k hk => by
    obtain ⟨⟨A, hA⟩, h0⟩ := lX_ty (o := 66) (k := k) (by unfold lX; omega)
    refine hf2.at hA h0 ?_
    exact l_ou (r := (270400, 271999)) (by decide +kernel) (by unfold w_key; show 270400 ≤ _; omega) (by unfold w_key; show _ ≤ 271999; omega)
  refine l_run 6 rfl ?_
  refine l_sld (j := I + 1) (e := xs[I + 1]) rfl (el 1 (by omega)) (List.getElem?_eq_getElem (by omega)) ?_
  refine l_run 4 rfl ?_
  refine l_sld (j := I + 2) (e := xs[I + 2]) rfl (el 2 (by omega)) (List.getElem?_eq_getElem (by omega)) ?_
  refine l_run 4 rfl ?_
  refine l_sld (j := I + 3) (e := xs[I + 3]) rfl (el 3 (by omega)) (List.getElem?_eq_getElem (by omega)) ?_
  refine l_run 4 rfl ?_
  refine l_sld (j := I + 4) (e := xs[I + 4]) rfl (el 4 (by omega)) (List.getElem?_eq_getElem (by omega)) ?_
  refine l_run 4 rfl ?_
  refine l_sld (j := I + 5) (e := xs[I + 5]) rfl (el 5 (by omega)) (List.getElem?_eq_getElem (by omega)) ?_
  refine l_call (y_C.u (by decide) (y_feedM (V := y_Vn n))) rfl (a := [.inr (.inr 67), .inl ((xs[I + 1])), .inl ((xs[I + 2])), .inl ((xs[I + 3])), .inl ((xs[I + 4])), .inl ((xs[I + 5]))]) rfl rfl (fun h hR => y_mayV (o := 65) (sz := 85) rfl hR) (by decide) ⟨v2.1, _, _, _, _, _, rfl⟩ (fun v s3 hQ => ?_)
  obtain ⟨⟨hT3, hf3, c3, rfl, hc3⟩, t3, ht3, hz3⟩ := hQ
  have v3 : LInv n s3 := by
    refine ⟨hT3, y_Td_fr hf3 (by decide +kernel) (by decide +kernel) (by decide +kernel) v2.2.1, ?_⟩
    unfold y_Un
    rw [y_fr66 hf3 (by decide +kernel), y_fr67 hf3 (by decide +kernel)]
    exact v2.2.2
  have g3 : s3.1 1 1 = s2.1 1 1 ∧ s3.1 65 2 = s2.1 65 2 ∧ s3.1 65 3 = s2.1 65 3 ∧ s3.1 27 8 = s2.1 27 8 ∧ s3.1 27 9 = s2.1 27 9 := ⟨hf3.at (o := 1) (k := 1) rfl rfl (by decide +kernel), hf3.at (o := 65) (k := 2) rfl rfl (by decide +kernel), hf3.at (o := 65) (k := 3) rfl rfl (by decide +kernel), hf3.at (o := 27) (k := 8) rfl rfl (by decide +kernel), hf3.at (o := 27) (k := 9) rfl rfl (by decide +kernel)⟩
  have g32 : ∀ k, k < 1600 → s3.1 2 k = s2.1 2 k := fun k hk => by
    obtain ⟨⟨A, hA⟩, h0⟩ := lX_ty (o := 2) (k := k) (by unfold lX; omega)
    refine hf3.at hA h0 ?_
    exact l_ou (r := (8256, 9855)) (by decide +kernel) (by unfold w_key; show 8256 ≤ _; omega) (by unfold w_key; show _ ≤ 9855; omega)
  refine l_run 2 rfl ?_
  have etv : ∀ o k, tv o k → s3.1 o k = s.1 o k := by
    intro o k h
    rcases h with h | h | h | h
    · exact (t_at hf3 (by decide +kernel) (Or.inl h)).trans (t_at hf2 (by decide +kernel) (Or.inl h))
    · exact (t_at hf3 (by decide +kernel) (Or.inr (Or.inl h))).trans (t_at hf2 (by decide +kernel) (Or.inr (Or.inl h)))
    · exact (t_at hf3 (by decide +kernel) (Or.inr (Or.inr h))).trans (t_at hf2 (by decide +kernel) (Or.inr (Or.inr h)))
    · exact (v_at hf3 (by decide +kernel) h).trans (v_at hf2 (by decide +kernel) h)
  refine next n s3 v3 (jA_of hv.2.2 hg ⟨?_, by rw [g3.2.2.2.1, g3.2.1, g2.2.2.2.1, g2.2.1]; exact hg.1.2.1, by rw [g3.2.2.2.2, g3.2.2.1, g2.2.2.2.2, g2.2.2.1]; exact hg.1.2.2⟩ etv ((y_fr66 hf3 (by decide +kernel)).trans (y_fr66 hf2 (by decide +kernel)))) (fun o k q => by rcases q with q | q; exact (t_at hf3 (by decide +kernel) (Or.inr (Or.inr q))).trans (t_at hf2 (by decide +kernel) (Or.inr (Or.inr q))); exact (s_at hf3 (by decide +kernel) q).trans (s_at hf2 (by decide +kernel) q))
  obtain ⟨⟨⟨N, hX⟩, -, -⟩, -⟩ := hg
  have hX0 := hX
  obtain ⟨n1, n2, n3, n4⟩ := hX0
  have z2 : ∀ k, k < 1600 → t2.1 2 k = s2.1 2 k := fun k hk => hz2.i (o := 2) rfl hk (lX_ty (by unfold lX; omega)).2
  have z21 : t2.1 1 1 = s2.1 1 1 := hz2.i (o := 1) (k := 1) rfl (by decide) rfl
  have z3 : ∀ k, k < 1600 → t3.1 66 k = s3.1 66 k := fun k hk => hz3.i (o := 66) rfl hk (lX_ty (by unfold lX; omega)).2
  have z31 : t3.1 65 1 = s3.1 65 1 := hz3.i (o := 65) (k := 1) rfl (by decide) rfl
  obtain ⟨vx, w2, e2, d2⟩ := c_feed (n := N) (s := uP s) (xs[I + 1]) (xs[I + 2]) (xs[I + 3]) (xs[I + 4]) (xs[I + 5]) n2 n1
  rw [e2] at ht2
  have ht2 : w2 = t2 := congrArg Prod.snd (Option.some.inj ht2)
  subst ht2
  obtain ⟨vy, w3, e3, d3⟩ := m_feed (n := N) (s := uP s2) (xs[I + 1]) (xs[I + 2]) (xs[I + 3]) (xs[I + 4]) (xs[I + 5]) (g2.1.trans n3) n1
  rw [e3] at ht3
  have ht3 : w3 = t3 := congrArg Prod.snd (Option.some.inj ht3)
  subst ht3
  rcases d2 with ⟨d2, rfl⟩ | ⟨d2, d4⟩
  · rcases d3 with ⟨d3, rfl⟩ | ⟨d3, d5⟩
    · refine ⟨N, n1, ?_, ?_, fun k hk => ?_⟩
      · rw [g3.1, ← z21]
        exact n2
      · rw [← z31]
        exact g2.1.trans n3
      · rw [g32 k (by omega), ← z2 k (by omega), ← z3 k (by omega)]
        show s.1 2 k &&& u_k 255 = s2.1 66 k ∧ 0 ≤ (s2.1 66 k).toInt ∧ (s2.1 66 k).toInt ≤ 255
        rw [g266 k (by omega)]
        exact n4 k hk
    · omega
  · rcases d3 with ⟨d3, rfl⟩ | ⟨d3, d5⟩
    · omega
    · refine ⟨N + 20, jX_feed (g := s.1) (g2 := s3.1) hX d2 (p1 := xs[I + 1]) (p2 := xs[I + 2]) (p3 := xs[I + 3]) (p4 := xs[I + 4]) (p5 := xs[I + 5]) ?_ ?_⟩
      · obtain ⟨q1, q2, q3⟩ := d4
        have hl : (wd5 (xs[I + 1]) (xs[I + 2]) (xs[I + 3]) (xs[I + 4]) (xs[I + 5])).length = 20 := rfl
        refine ⟨?_, fun k hk => ?_, fun i x hx => ?_⟩
        · rw [g3.1, ← z21]
          exact q1
        · rw [g32 k (by omega), ← z2 k (by omega)]
          exact q2 k hk
        · have hlt : i < 20 := by
            rcases Nat.lt_or_ge i 20 with q | q
            · exact q
            · rw [List.getElem?_eq_none (by omega)] at hx
              cases hx
          rw [g32 _ (by omega), ← z2 _ (by omega)]
          exact q3 i x hx
      · obtain ⟨q1, q2, q3⟩ := d5
        have hl : (wd5 (xs[I + 1]) (xs[I + 2]) (xs[I + 3]) (xs[I + 4]) (xs[I + 5])).length = 20 := rfl
        refine ⟨?_, fun k hk => ?_, fun i x hx => ?_⟩
        · rw [← z31]
          exact q1
        · rw [← z3 k (by omega)]
          exact (q2 k hk).trans (g266 k (by omega))
        · have hlt : i < 20 := by
            rcases Nat.lt_or_ge i 20 with q | q
            · exact q
            · rw [List.getElem?_eq_none (by omega)] at hx
              cases hx
          rw [← z3 _ (by omega)]
          exact q3 i x hx
/-! later -/
def y_laQ (V : w_V) (o k : Nat) (x : Int32) (s : y_H) (v : Option (q_V Int32)) (s2 : y_H) : Prop := w_T V g_sh (y_mk g_sh s2) ∧ (((0 ≤ x.toInt ∧ x.toInt ≤ 1000 ∧ (s.1 o k + x).toInt ≤ 100000) ∧ v = some (.inl (s.1 o k + x)) ∧ s2 = y_up s o k (.inl (s.1 o k + x))) ∨ (¬ (0 ≤ x.toInt ∧ x.toInt ≤ 1000 ∧ (s.1 o k + x).toInt ≤ 100000) ∧ v = some (.inl (Int32.ofInt (-1))) ∧ s2 = s))
theorem y_laterC {V : w_V} : y_C g_sh g_ts 38 1 (fun a s => w_T V g_sh (y_mk g_sh s) ∧ ∃ x : Int32, a = [.inr (.inr 2), .inl x]) (fun a s v s2 => ∃ x : Int32, a = [.inr (.inr 2), .inl x] ∧ y_laQ V 55 0 x s v s2) := by
  refine y_C.of (t := g_t38) rfl (by decide) ?_
  rintro d a s hd ⟨hT, x, rfl⟩
  have bx := y_b32 (s.1 55 0 + x)
  refine y_run 1 rfl ?_
  refine y_if rfl (fun h => ?_) (fun h => ?_)
  · have h2 : x.toInt < 0 := h
    refine y_run 1 rfl ?_
    exact y_iret rfl ⟨x, rfl, hT, Or.inr ⟨by omega, rfl, rfl⟩⟩
  have h2 : ¬ x.toInt < 0 := h
  refine y_run 2 rfl ?_
  refine y_ic rfl (fun h => ?_) (fun h => ?_)
  · have h3 : (1000 : Int) < x.toInt := h
    refine y_run 1 rfl ?_
    exact y_iret rfl ⟨x, rfl, hT, Or.inr ⟨by omega, rfl, rfl⟩⟩
  have h3 : ¬ (1000 : Int) < x.toInt := h
  refine y_run 6 rfl ?_
  refine y_ic rfl (fun h => ?_) (fun h => ?_)
  · have h4 : (s.1 55 0 + x).toInt ≤ 100000 := h
    refine y_run 10 rfl ?_
    exact y_iret rfl ⟨x, rfl, y_Tup (lo := 0) (hi := 4294967295) (g := 0) (o := 55) (k := 0) (x := s.1 55 0 + x) hT rfl rfl (by decide +kernel) (by omega) (by omega), Or.inl ⟨⟨by omega, by omega, h4⟩, rfl, rfl⟩⟩
  · have h4 : ¬ (s.1 55 0 + x).toInt ≤ 100000 := h
    refine y_run 1 rfl ?_
    exact y_iret rfl ⟨x, rfl, hT, Or.inr ⟨fun q => h4 q.2.2, rfl, rfl⟩⟩
theorem y_laterM {V : w_V} : y_C g_sh g_ts 242 1 (fun a s => w_T V g_sh (y_mk g_sh s) ∧ ∃ x : Int32, a = [.inr (.inr 67), .inl x]) (fun a s v s2 => ∃ x : Int32, a = [.inr (.inr 67), .inl x] ∧ y_laQ V 65 79 x s v s2) := by
  refine y_C.of (t := g_t242) rfl (by decide) ?_
  rintro d a s hd ⟨hT, x, rfl⟩
  have bx := y_b32 (s.1 65 79 + x)
  refine y_run 1 rfl ?_
  refine y_if rfl (fun h => ?_) (fun h => ?_)
  · have h2 : x.toInt < 0 := h
    refine y_run 1 rfl ?_
    exact y_iret rfl ⟨x, rfl, hT, Or.inr ⟨by omega, rfl, rfl⟩⟩
  have h2 : ¬ x.toInt < 0 := h
  refine y_run 2 rfl ?_
  refine y_ic rfl (fun h => ?_) (fun h => ?_)
  · have h3 : (1000 : Int) < x.toInt := h
    refine y_run 1 rfl ?_
    exact y_iret rfl ⟨x, rfl, hT, Or.inr ⟨by omega, rfl, rfl⟩⟩
  have h3 : ¬ (1000 : Int) < x.toInt := h
  refine y_run 5 rfl ?_
  refine y_ic rfl (fun h => ?_) (fun h => ?_)
  · have h4 : (s.1 65 79 + x).toInt ≤ 100000 := h
    refine y_run 8 rfl ?_
    exact y_iret rfl ⟨x, rfl, y_Tup (lo := 0) (hi := 4294967295) (g := 0) (o := 65) (k := 79) (x := s.1 65 79 + x) hT rfl rfl (by decide +kernel) (by omega) (by omega), Or.inl ⟨⟨by omega, by omega, h4⟩, rfl, rfl⟩⟩
  · have h4 : ¬ (s.1 65 79 + x).toInt ≤ 100000 := h
    refine y_run 1 rfl ?_
    exact y_iret rfl ⟨x, rfl, hT, Or.inr ⟨fun q => h4 q.2.2, rfl, rfl⟩⟩
theorem l_cLaterA : l_CaseA 1432 := by
  intro xs n s i I hL hi hI hv hg next
  refine l_run 5 rfl ?_
  refine l_sld (j := I + 1) (e := xs[I + 1]) rfl (l_ix (j := 1) hi (by omega) (by omega)) (List.getElem?_eq_getElem (by omega)) ?_
  generalize hx : xs[I + 1] = x
  refine l_call (y_laterC (V := y_Vn n)) rfl (a := [.inr (.inr 2), .inl x]) rfl rfl (fun h hR => y_mayV (o := 0) (sz := 15) rfl hR) (by decide) ⟨hv.1, x, rfl⟩ (fun v s2 hQ => ?_)
  obtain ⟨x2, ha, hT2, hc2⟩ := hQ
  have ex : x = x2 := by
    injection ha with _ ha
    injection ha with ha _
    injection ha
  subst ex
  have hg0 := hg
  obtain ⟨-, -, m, t, hV⟩ := hg0
  obtain ⟨V1, V2, ⟨V3, V4, V5, V6⟩, V7⟩ := hV
  have hI2 : ∃ z : Int32, v = some (.inl z) ∧ LInv n s2 ∧ s2.2.2 = s.2.2 ∧ (∀ o k, ¬ (o = 55 ∧ k = 0) → s2.1 o k = s.1 o k) ∧ (((0 ≤ x.toInt ∧ x.toInt ≤ 1000 ∧ (s.1 55 0 + x).toInt ≤ 100000) ∧ s2.1 55 0 = s.1 55 0 + x) ∨ (¬ (0 ≤ x.toInt ∧ x.toInt ≤ 1000 ∧ (s.1 55 0 + x).toInt ≤ 100000) ∧ s2.1 55 0 = s.1 55 0)) := by
    rcases hc2 with ⟨a1, rfl, rfl⟩ | ⟨a1, rfl, rfl⟩
    · exact ⟨_, rfl, ⟨hT2, l_Tdup (by omega) (by omega) hv.2.1, hv.2.2⟩, rfl, fun o k h => y_up_ne h, Or.inl ⟨a1, y_up_self⟩⟩
    · exact ⟨_, rfl, hv, rfl, fun o k h => rfl, Or.inr ⟨a1, rfl⟩⟩
  obtain ⟨z, rfl, v2, er2, g2, g3⟩ := hI2
  refine l_run 6 rfl ?_
  refine l_sld (j := I + 1) (e := xs[I + 1]) rfl (l_ix (j := 1) hi (by omega) (by omega)) (List.getElem?_eq_getElem (by omega)) ?_
  rw [hx]
  refine l_call (y_laterM (V := y_Vn n)) rfl (a := [.inr (.inr 67), .inl x]) rfl rfl (fun h hR => y_mayV (o := 65) (sz := 85) rfl hR) (by decide) ⟨v2.1, x, rfl⟩ (fun v s3 hQ => ?_)
  obtain ⟨x3, ha, hT3, hc3⟩ := hQ
  have ex : x = x3 := by
    injection ha with _ ha
    injection ha with ha _
    injection ha
  subst ex
  have e79 : s2.1 65 79 = s.1 55 0 := by rw [g2 65 79 (by omega), V6, V5]
  rw [e79] at hc3
  have hI3 : ∃ z3 : Int32, v = some (.inl z3) ∧ LInv n s3 ∧ s3.2.2 = s2.2.2 ∧ (∀ o k, ¬ (o = 65 ∧ k = 79) → s3.1 o k = s2.1 o k) ∧ (((0 ≤ x.toInt ∧ x.toInt ≤ 1000 ∧ (s.1 55 0 + x).toInt ≤ 100000) ∧ s3.1 65 79 = s.1 55 0 + x) ∨ (¬ (0 ≤ x.toInt ∧ x.toInt ≤ 1000 ∧ (s.1 55 0 + x).toInt ≤ 100000) ∧ s3.1 65 79 = s.1 55 0)) := by
    rcases hc3 with ⟨a1, rfl, rfl⟩ | ⟨a1, rfl, rfl⟩
    · exact ⟨_, rfl, ⟨hT3, l_Tdup (by omega) (by omega) v2.2.1, v2.2.2⟩, rfl, fun o k h => y_up_ne h, Or.inl ⟨a1, y_up_self⟩⟩
    · exact ⟨_, rfl, v2, rfl, fun o k h => rfl, Or.inr ⟨a1, e79⟩⟩
  obtain ⟨z3, rfl, v3, er3, g4, g5⟩ := hI3
  refine l_run 2 rfl ?_
  have e : ∀ o k, ¬ (o = 55 ∧ k = 0) → ¬ (o = 65 ∧ k = 79) → s3.1 o k = s.1 o k := fun o k a b => (g4 o k b).trans (g2 o k a)
  obtain ⟨hX, ⟨a0, b0, hT0⟩, -⟩ := hg
  refine next n s3 v3 ⟨jX_fr hX (fun o k q => e o k (by unfold lX at q; omega) (by unfold lX at q; omega)), ⟨a0, b0, ?_⟩, ?_⟩ (fun o k q => e o k (by unfold mD sS stC sbC smA sbM qS at q; omega) (by unfold mD sS stC sbC smA sbM qS at q; omega))
  · rw [er3, er2]
    exact aT_fr hT0 (fun o k q => by
      have hT := (y_Un_T hv.2.2).1
      refine e o k ?_ ?_
      · unfold qD mD at q
        omega
      · unfold qD mD at q
        omega)
  · have fin : ∀ t2, t2 ≤ 100000 → s3.1 55 0 = zi t2 → s3.1 65 79 = zi t2 → ∃ m t, aV s3.1 m t := by
      intro t2 h1 h2 h3
      refine ⟨m, t2, V1, h1, ⟨?_, ?_, h2, h3⟩, fun j hj => aVj_fr (V7 j hj) (fun o ho => e o j (by omega) (by omega))⟩
      · rw [e 55 1 (by omega) (by omega)]; exact V3
      · rw [e 65 78 (by omega) (by omega)]; exact V4
    have e50 : s3.1 55 0 = s2.1 55 0 := g4 55 0 (by omega)
    rcases g3 with ⟨b1, b2⟩ | ⟨b1, b2⟩
    · rcases g5 with ⟨c1, c2⟩ | ⟨c1, c2⟩
      · obtain ⟨x4, hx4⟩ : ∃ x4 : Nat, x.toInt = (x4 : Int) := ⟨x.toInt.toNat, by omega⟩
        have hxz : x = zi x4 := Int32.toInt_inj.mp (by rw [hx4, zi_int (by omega)])
        have hs : s.1 55 0 + x = zi (t + x4) := by rw [V5, hxz, zi_add]
        have hb := b1.2.2
        rw [hs, zi_int (by omega)] at hb
        exact fin (t + x4) (by omega) (by rw [e50, b2, hs]) (by rw [c2, hs])
      · exact absurd b1 c1
    · rcases g5 with ⟨c1, c2⟩ | ⟨c1, c2⟩
      · exact absurd c1 b1
      · exact fin t V2 (by rw [e50, b2, V5]) (by rw [c2, V5])
theorem l_cEnd : l_Case 339 := l_CA l_cEndA
theorem l_cFeed : l_Case 276 := l_CA l_cFeedA
theorem l_cLater : l_Case 1432 := l_CA l_cLaterA
