/-! THE LAW'S CASES (printed by wip/gen/genlaw.py) -/
theorem lz_x_quay (n : Nat) : y_C g_sh g_ts 57 73 (fun a s => w_T (y_Vn n) g_sh (y_mk g_sh s) ∧ y_Td n s ∧ y_Un s ∧ a = [.inr (.inr 2)]) (fun _ s v s2 => z_quQ (s.2.2 0 3) s v s2) := z_quayC (n := n) (⟨(by decide +kernel), (by decide +kernel), K_95⟩) (⟨(by decide +kernel), (by decide +kernel), K_177⟩) (fun n => ⟨(by decide +kernel), ⟨(by decide +kernel), K_115⟩⟩) (fun n => ⟨(by decide +kernel), ⟨(by decide +kernel), K_188⟩⟩)
theorem lz_m_quay (n : Nat) : y_C g_sh g_ts 275 9 (fun a s => w_T (y_Vn n) g_sh (y_mk g_sh s) ∧ a = [.inr (.inr 67)]) (fun _ s v s2 => z_qyQ n s v s2) := z_quayM (n := n) ((by unfold y_RE; exact ⟨K_416, K_440, K_444, K_1, K_439, K_451, K_419, K_3, K_418, K_427, K_421, K_430, K_424, K_433⟩)) (⟨(by decide +kernel), k_459⟩)
/-- both have read: their answers are alike -/
theorem l_quay_eq {R : Nat} {s s2 s3 : y_H} {v v3 : Option (q_V Int32)} (hR : R = 5 ∨ R = 17) (hg : jX s.1) (hx : ∃ (x1 : Int32) (tq : u_H), u_c 115 [.inr (.inr 29), .inr (.inr R)] (uP s) = some (some (.inl x1), tq) ∧ v = some (.inl (if x1 = 0 then Int32.ofInt (-1) else tq.1 (R - 2) 4)) ∧ s2.1 27 8 = tq.1 27 8 ∧ s2.1 27 9 = tq.1 27 9) (h2 : ∀ o k, 64 ≤ o → lX o k → s2.1 o k = s.1 o k) (hm : z_qyR s2 v3 s3) : v = v3 ∧ s2.1 27 8 = s3.1 65 2 ∧ s2.1 27 9 = s3.1 65 3 := by
  obtain ⟨x1, tq, e1, e2, e3, e4⟩ := hx
  obtain ⟨tm, m1, m2, m3, m4⟩ := hm
  obtain ⟨⟨N, hX⟩, -, -⟩ := hg
  have hT := jX_T hX
  obtain ⟨n1, n2, n3, n4⟩ := hX
  have hM6 : ∀ k, k < N → (uP s2).1 66 k = jch s.1 N k := fun k hk => by
    show s2.1 66 k = _
    rw [h2 66 k (by omega) (by unfold lX; omega)]
    unfold jch
    rw [if_pos hk]
  obtain ⟨v5, s5, r1, r2, r3, r4, r5, r6, r7⟩ := p_read hR hT (sC := uP s) (sM := uP s2) (jX_C (s := uP s) ⟨n1, n2, n3, n4⟩) ((h2 65 1 (by omega) (by unfold lX; omega)).trans n3) hM6 m1
  rw [r1] at e1
  have e1 := Option.some.inj e1
  have e5 : v5 = x1 := by
    have := congrArg Prod.fst e1
    injection this with this
    injection this
  have e6 : s5 = tq := congrArg Prod.snd e1
  subst e5 e6
  rcases r7 with ⟨f, q, q1, q2⟩ | ⟨q1, q2, q3, q4, q5, a, b, m, ⟨NS, NP, q6, q7⟩, -, -⟩
  · obtain ⟨f1, f5, hq, k1, k2, k3, k4, k5⟩ := q2
    have k4 : tm.1 65 2 = zi f := k4
    have k5 : tm.1 65 3 = zi q := k5
    refine ⟨?_, ?_, ?_⟩
    · rw [e2, m2, q1, if_pos (show Int32.ofInt 0 = 0 from rfl), if_pos (by rw [k4]; exact zf_pos f1 f5)]
    · rw [e3, m3, k1, k4]
    · rw [e4, m4, k2, k5]
  · have q4 : tm.1 65 2 = 0 := q4
    have q5 : tm.1 65 3 = u_k (-1) := q5
    refine ⟨?_, ?_, ?_⟩
    · rw [e2, m2, q1, if_neg (by decide), if_neg (by rw [q4]; decide), q7.2.1]
      exact congrArg (fun z => some (Sum.inl z)) q7.2.2.1.symm
    · rw [e3, m3, q2, q4]
    · rw [e4, m4, q3, q5]
theorem l_c362 : l_Case 362 := by
  intro xs n s i I hL hi hI hv hg next
  have hR : s.2.2 0 3 = 5 ∨ s.2.2 0 3 = 17 := by
    rcases hv.2.2 with ⟨-, h⟩ | ⟨-, h⟩
    · exact Or.inr h
    · exact Or.inl h
  refine l_run 1 rfl ?_
  refine l_call (lz_x_quay n) rfl (a := [.inr (.inr 2)]) rfl rfl (fun h hR => y_mayV (o := 0) (sz := 15) rfl hR) (by decide) ⟨hv.1, hv.2.1, hv.2.2, rfl⟩ (fun v s2 hQ => ?_)
  obtain ⟨⟨m, t2, d2, u2, fq, z2, x, rfl⟩, hz⟩ := hQ
  have h2 : ∀ o k, 64 ≤ o → lX o k → s2.1 o k = s.1 o k := fun o k ho h => by
    obtain ⟨⟨A, hA⟩, h0⟩ := lX_ty h
    refine fq.at hA h0 (l_ou (r := (260001, 99999999)) (by decide +kernel) ?_ ?_)
    · unfold w_key
      show 260001 ≤ _
      omega
    · unfold lX at h
      unfold w_key
      show _ ≤ 99999999
      omega
  refine l_run 2 rfl ?_
  refine l_call (lz_m_quay m) rfl (a := [.inr (.inr 67)]) rfl rfl (fun h hR => y_mayV (o := 65) (sz := 85) rfl hR) (by decide) ⟨t2, rfl⟩ (fun v s3 hQ => ?_)
  obtain ⟨⟨⟨t3, f3, x3, rfl⟩, z3⟩, hzm⟩ := hQ
  obtain ⟨w1, w2, w3⟩ := l_quay_eq hR hg hz h2 hzm
  have fin : l_W xs 1613 (l_ls i) [] s3 := by
    refine next m s3 ⟨t3, y_Td_fr f3 (by decide +kernel) (by decide +kernel) (by decide +kernel) d2, ?_⟩ ⟨⟨0, Nat.zero_le _, ?_, ?_, fun k hk => absurd hk (Nat.not_lt_zero k)⟩, ?_, ?_⟩
    · unfold y_Un
      rw [y_fr66 f3 (by decide +kernel), y_fr67 f3 (by decide +kernel)]
      exact u2
    · have e : s3.1 1 1 = s2.1 1 1 := f3.at (o := 1) (k := 1) (A := w_n 0 1600 0) rfl rfl (by decide +kernel)
      exact Int32.toInt_inj.mp (by rw [e, z2]; rfl)
    · exact Int32.toInt_inj.mp (by rw [z3]; rfl)
    · rw [f3.at (o := 27) (k := 8) rfl rfl (by decide +kernel)]
      exact w2
    · rw [f3.at (o := 27) (k := 9) rfl rfl (by decide +kernel)]
      exact w3
  refine l_run 2 rfl ?_
  exact fin
theorem l_x_fault : l_Pub 2 20 1 1 := l_pubN (fun n => K_190) rfl (by decide +kernel) (by decide +kernel) (by decide)
theorem l_m_fault : l_Pub 67 201 1 1 := l_pubN (fun n => K_463) rfl (by decide +kernel) (by decide +kernel) (by decide)
theorem l_c375 : l_Case 375 := by
  intro xs n s i I hL hi hI hv hg next
  have h1 : (i + Int32.ofInt 1).toInt = ((I + 1 : Nat) : Int) := l_ix (j := 1) hi (by omega) (by omega)
  obtain ⟨e1, he1⟩ : ∃ e, xs[I + 1]? = some e := ⟨_, List.getElem?_eq_getElem (by omega)⟩
  refine l_run 5 rfl ?_
  refine l_sld rfl h1 he1 ?_
  refine l_call (y_C.u (by decide) (l_x_fault n)) rfl (a := [.inr (.inr 2), .inl e1]) rfl rfl (fun h hR => y_mayV (o := 0) (sz := 15) rfl hR) (by decide) ⟨hv, [e1], rfl, rfl⟩ (fun v s2 hQ => ?_)
  obtain ⟨⟨v2, g1, x, rfl⟩, t2, ht2, -⟩ := hQ
  refine l_run 5 rfl ?_
  refine l_sld rfl h1 he1 ?_
  refine l_call (y_C.u (by decide) (l_m_fault n)) rfl (a := [.inr (.inr 67), .inl e1]) rfl rfl (fun h hR => y_mayV (o := 65) (sz := 85) rfl hR) (by decide) ⟨v2, [e1], rfl, rfl⟩ (fun v s3 hQ => ?_)
  obtain ⟨⟨v3, g3, x3, rfl⟩, t3, ht3, -⟩ := hQ
  have a2 : (uP s2).1 65 2 = s.1 65 2 := g1 65 2 (by unfold lX; omega)
  have a3 : (uP s2).1 65 3 = s.1 65 3 := g1 65 3 (by unfold lX; omega)
  have ex : x = x3 := by
    rw [b_20] at ht2
    rw [b_201, a2, a3] at ht3
    have b8 : (uP s).1 27 8 = s.1 65 2 := hg.2.1
    have b9 : (uP s).1 27 9 = s.1 65 3 := hg.2.2
    rw [b8, b9] at ht2
    by_cases q0 : e1 = 0
    · rw [if_pos q0] at ht2 ht3
      have c2 := congrArg Prod.fst (Option.some.inj ht2)
      have c3 := congrArg Prod.fst (Option.some.inj ht3)
      have c2 : s.1 65 2 = x := by
        injection c2 with c2
        injection c2
      have c3 : s.1 65 2 = x3 := by
        injection c3 with c3
        injection c3
      exact c2.symm.trans c3
    · rw [if_neg q0] at ht2 ht3
      by_cases q1 : e1 = Int32.ofInt 1
      · rw [if_pos q1] at ht2 ht3
        have c2 := congrArg Prod.fst (Option.some.inj ht2)
        have c3 := congrArg Prod.fst (Option.some.inj ht3)
        have c2 : s.1 65 3 = x := by
          injection c2 with c2
          injection c2
        have c3 : s.1 65 3 = x3 := by
          injection c3 with c3
          injection c3
        exact c2.symm.trans c3
      · rw [if_neg q1] at ht2 ht3
        have c2 := congrArg Prod.fst (Option.some.inj ht2)
        have c3 := congrArg Prod.fst (Option.some.inj ht3)
        have c2 : u_k (-1) = x := by
          injection c2 with c2
          injection c2
        have c3 : u_k (-1) = x3 := by
          injection c3 with c3
          injection c3
        exact c2.symm.trans c3
  subst ex
  refine l_ic rfl (fun _ => ?_) (fun h => absurd rfl h)
  exact next n s3 v3 (jX_fr (jX_fr hg g1) g3)
theorem l_x_ship : l_Pub 2 67 2 5 := l_pubC (fun n => K_194) (fun n => K_198) rfl rfl (by decide +kernel) (by decide +kernel) (by decide)
theorem l_m_ship : l_Pub 67 297 2 4 := l_pubN (fun n => K_470) rfl (by decide +kernel) (by decide +kernel) (by decide)
theorem l_c398 : l_Case 398 := by
  intro xs n s i I hL hi hI hv hg next
  have h1 : (i + Int32.ofInt 1).toInt = ((I + 1 : Nat) : Int) := l_ix (j := 1) hi (by omega) (by omega)
  obtain ⟨e1, he1⟩ : ∃ e, xs[I + 1]? = some e := ⟨_, List.getElem?_eq_getElem (by omega)⟩
  have h2 : (i + Int32.ofInt 2).toInt = ((I + 2 : Nat) : Int) := l_ix (j := 2) hi (by omega) (by omega)
  obtain ⟨e2, he2⟩ : ∃ e, xs[I + 2]? = some e := ⟨_, List.getElem?_eq_getElem (by omega)⟩
  refine l_run 5 rfl ?_
  refine l_sld rfl h1 he1 ?_
  refine l_run 4 rfl ?_
  refine l_sld rfl h2 he2 ?_
  refine l_call (l_x_ship n) rfl (a := [.inr (.inr 2), .inl e1, .inl e2]) rfl rfl (fun h hR => y_mayV (o := 0) (sz := 15) rfl hR) (by decide) ⟨hv, [e1, e2], rfl, rfl⟩ (fun v s2 hQ => ?_)
  obtain ⟨v2, g1, x, rfl⟩ := hQ
  refine l_run 6 rfl ?_
  refine l_sld rfl h1 he1 ?_
  refine l_run 4 rfl ?_
  refine l_sld rfl h2 he2 ?_
  refine l_call (l_m_ship n) rfl (a := [.inr (.inr 67), .inl e1, .inl e2]) rfl rfl (fun h hR => y_mayV (o := 65) (sz := 85) rfl hR) (by decide) ⟨v2, [e1, e2], rfl, rfl⟩ (fun v s3 hQ => ?_)
  obtain ⟨v3, g3, x3, rfl⟩ := hQ
  refine l_run 2 rfl ?_
  exact next n s3 v3 (jX_fr (jX_fr hg g1) g3)
theorem l_x_pair : l_Pub 2 54 2 3 := l_pubC (fun n => K_203) (fun n => K_205) rfl rfl (by decide +kernel) (by decide +kernel) (by decide)
theorem l_m_pair : l_Pub 67 271 2 3 := l_pubN (fun n => K_476) rfl (by decide +kernel) (by decide +kernel) (by decide)
theorem l_c431 : l_Case 431 := by
  intro xs n s i I hL hi hI hv hg next
  have h1 : (i + Int32.ofInt 1).toInt = ((I + 1 : Nat) : Int) := l_ix (j := 1) hi (by omega) (by omega)
  obtain ⟨e1, he1⟩ : ∃ e, xs[I + 1]? = some e := ⟨_, List.getElem?_eq_getElem (by omega)⟩
  have h2 : (i + Int32.ofInt 2).toInt = ((I + 2 : Nat) : Int) := l_ix (j := 2) hi (by omega) (by omega)
  obtain ⟨e2, he2⟩ : ∃ e, xs[I + 2]? = some e := ⟨_, List.getElem?_eq_getElem (by omega)⟩
  refine l_run 5 rfl ?_
  refine l_sld rfl h1 he1 ?_
  refine l_run 4 rfl ?_
  refine l_sld rfl h2 he2 ?_
  refine l_call (l_x_pair n) rfl (a := [.inr (.inr 2), .inl e1, .inl e2]) rfl rfl (fun h hR => y_mayV (o := 0) (sz := 15) rfl hR) (by decide) ⟨hv, [e1, e2], rfl, rfl⟩ (fun v s2 hQ => ?_)
  obtain ⟨v2, g1, x, rfl⟩ := hQ
  refine l_run 6 rfl ?_
  refine l_sld rfl h1 he1 ?_
  refine l_run 4 rfl ?_
  refine l_sld rfl h2 he2 ?_
  refine l_call (l_m_pair n) rfl (a := [.inr (.inr 67), .inl e1, .inl e2]) rfl rfl (fun h hR => y_mayV (o := 65) (sz := 85) rfl hR) (by decide) ⟨v2, [e1, e2], rfl, rfl⟩ (fun v s3 hQ => ?_)
  obtain ⟨v3, g3, x3, rfl⟩ := hQ
  refine l_run 2 rfl ?_
  exact next n s3 v3 (jX_fr (jX_fr hg g1) g3)
theorem l_x_queue : l_Pub 2 58 1 1 := l_pubN (fun n => K_206) rfl (by decide +kernel) (by decide +kernel) (by decide)
theorem l_m_queue : l_Pub 67 276 1 2 := l_pubN (fun n => K_477) rfl (by decide +kernel) (by decide +kernel) (by decide)
theorem l_c464 : l_Case 464 := by
  intro xs n s i I hL hi hI hv hg next
  have h1 : (i + Int32.ofInt 1).toInt = ((I + 1 : Nat) : Int) := l_ix (j := 1) hi (by omega) (by omega)
  obtain ⟨e1, he1⟩ : ∃ e, xs[I + 1]? = some e := ⟨_, List.getElem?_eq_getElem (by omega)⟩
  refine l_run 5 rfl ?_
  refine l_sld rfl h1 he1 ?_
  refine l_call (l_x_queue n) rfl (a := [.inr (.inr 2), .inl e1]) rfl rfl (fun h hR => y_mayV (o := 0) (sz := 15) rfl hR) (by decide) ⟨hv, [e1], rfl, rfl⟩ (fun v s2 hQ => ?_)
  obtain ⟨v2, g1, x, rfl⟩ := hQ
  refine l_run 6 rfl ?_
  refine l_sld rfl h1 he1 ?_
  refine l_call (l_m_queue n) rfl (a := [.inr (.inr 67), .inl e1]) rfl rfl (fun h hR => y_mayV (o := 65) (sz := 85) rfl hR) (by decide) ⟨v2, [e1], rfl, rfl⟩ (fun v s3 hQ => ?_)
  obtain ⟨v3, g3, x3, rfl⟩ := hQ
  refine l_run 2 rfl ?_
  exact next n s3 v3 (jX_fr (jX_fr hg g1) g3)
theorem l_x_rail : l_Pub 2 59 2 1 := l_pubC (fun n => K_207) (fun n => K_208) rfl rfl (by decide +kernel) (by decide +kernel) (by decide)
theorem l_m_rail : l_Pub 67 279 2 2 := l_pubN (fun n => K_479) rfl (by decide +kernel) (by decide +kernel) (by decide)
theorem l_c487 : l_Case 487 := by
  intro xs n s i I hL hi hI hv hg next
  have h1 : (i + Int32.ofInt 1).toInt = ((I + 1 : Nat) : Int) := l_ix (j := 1) hi (by omega) (by omega)
  obtain ⟨e1, he1⟩ : ∃ e, xs[I + 1]? = some e := ⟨_, List.getElem?_eq_getElem (by omega)⟩
  have h2 : (i + Int32.ofInt 2).toInt = ((I + 2 : Nat) : Int) := l_ix (j := 2) hi (by omega) (by omega)
  obtain ⟨e2, he2⟩ : ∃ e, xs[I + 2]? = some e := ⟨_, List.getElem?_eq_getElem (by omega)⟩
  refine l_run 5 rfl ?_
  refine l_sld rfl h1 he1 ?_
  refine l_run 4 rfl ?_
  refine l_sld rfl h2 he2 ?_
  refine l_call (l_x_rail n) rfl (a := [.inr (.inr 2), .inl e1, .inl e2]) rfl rfl (fun h hR => y_mayV (o := 0) (sz := 15) rfl hR) (by decide) ⟨hv, [e1, e2], rfl, rfl⟩ (fun v s2 hQ => ?_)
  obtain ⟨v2, g1, x, rfl⟩ := hQ
  refine l_run 6 rfl ?_
  refine l_sld rfl h1 he1 ?_
  refine l_run 4 rfl ?_
  refine l_sld rfl h2 he2 ?_
  refine l_call (l_m_rail n) rfl (a := [.inr (.inr 67), .inl e1, .inl e2]) rfl rfl (fun h hR => y_mayV (o := 65) (sz := 85) rfl hR) (by decide) ⟨v2, [e1, e2], rfl, rfl⟩ (fun v s3 hQ => ?_)
  obtain ⟨v3, g3, x3, rfl⟩ := hQ
  refine l_run 2 rfl ?_
  exact next n s3 v3 (jX_fr (jX_fr hg g1) g3)
theorem l_x_length : l_Pub 2 41 1 7 := l_pubC (fun n => K_212) (fun n => K_216) rfl rfl (by decide +kernel) (by decide +kernel) (by decide)
theorem l_m_length : l_Pub 67 248 1 5 := l_pubN (fun n => K_483) rfl (by decide +kernel) (by decide +kernel) (by decide)
theorem l_c520 : l_Case 520 := by
  intro xs n s i I hL hi hI hv hg next
  have h1 : (i + Int32.ofInt 1).toInt = ((I + 1 : Nat) : Int) := l_ix (j := 1) hi (by omega) (by omega)
  obtain ⟨e1, he1⟩ : ∃ e, xs[I + 1]? = some e := ⟨_, List.getElem?_eq_getElem (by omega)⟩
  refine l_run 5 rfl ?_
  refine l_sld rfl h1 he1 ?_
  refine l_call (l_x_length n) rfl (a := [.inr (.inr 2), .inl e1]) rfl rfl (fun h hR => y_mayV (o := 0) (sz := 15) rfl hR) (by decide) ⟨hv, [e1], rfl, rfl⟩ (fun v s2 hQ => ?_)
  obtain ⟨v2, g1, x, rfl⟩ := hQ
  refine l_run 6 rfl ?_
  refine l_sld rfl h1 he1 ?_
  refine l_call (l_m_length n) rfl (a := [.inr (.inr 67), .inl e1]) rfl rfl (fun h hR => y_mayV (o := 65) (sz := 85) rfl hR) (by decide) ⟨v2, [e1], rfl, rfl⟩ (fun v s3 hQ => ?_)
  obtain ⟨v3, g3, x3, rfl⟩ := hQ
  refine l_run 2 rfl ?_
  exact next n s3 v3 (jX_fr (jX_fr hg g1) g3)
theorem l_x_minute : l_Pub 2 48 0 21 := l_pubC (fun n => K_239) (fun n => K_244) rfl rfl (by decide +kernel) (by decide +kernel) (by decide)
theorem l_m_minute : l_Pub 67 260 0 6 := l_pubH (K := y_miK) (fun n => y_minuteM (n := n) (⟨(by decide +kernel), K_459⟩) (K_468) (K_481) (⟨K_504, K_503, K_502⟩)) (fun n a s h hA => ⟨h.1, l_a0 hA⟩) (fun n a s v s2 hQ => hQ) (by decide +kernel)
theorem l_c543 : l_Case 543 := by
  intro xs n s i I hL hi hI hv hg next
  refine l_run 1 rfl ?_
  refine l_call (l_x_minute n) rfl (a := [.inr (.inr 2)]) rfl rfl (fun h hR => y_mayV (o := 0) (sz := 15) rfl hR) (by decide) ⟨hv, [], rfl, rfl⟩ (fun v s2 hQ => ?_)
  obtain ⟨v2, g1, x, rfl⟩ := hQ
  refine l_run 2 rfl ?_
  refine l_call (l_m_minute n) rfl (a := [.inr (.inr 67)]) rfl rfl (fun h hR => y_mayV (o := 65) (sz := 85) rfl hR) (by decide) ⟨v2, [], rfl, rfl⟩ (fun v s3 hQ => ?_)
  obtain ⟨v3, g3, x3, rfl⟩ := hQ
  refine l_run 2 rfl ?_
  exact next n s3 v3 (jX_fr (jX_fr hg g1) g3)
theorem l_x_change : l_Pub 2 10 2 8 := l_pubH (K := y_chK) (fun n => y_changeC (n := n) (⟨⟨(by decide +kernel), (by decide +kernel)⟩, K_247⟩) (⟨⟨(by decide +kernel), (by decide +kernel)⟩, K_250⟩)) (fun n a s h hA => ⟨h.1, h.2.1, l_a2 hA⟩) (fun n a s v s2 hQ => hQ) (by decide +kernel)
theorem l_m_change : l_Pub 67 185 2 9 := l_pubH (K := y_miK) (fun n => y_changeM (n := n) (⟨(by decide +kernel), K_459⟩) (⟨(by decide +kernel), K_526⟩)) (fun n a s h hA => ⟨h.1, l_a2 hA⟩) (fun n a s v s2 hQ => hQ) (by decide +kernel)
theorem l_c556 : l_Case 556 := by
  intro xs n s i I hL hi hI hv hg next
  have h1 : (i + Int32.ofInt 1).toInt = ((I + 1 : Nat) : Int) := l_ix (j := 1) hi (by omega) (by omega)
  obtain ⟨e1, he1⟩ : ∃ e, xs[I + 1]? = some e := ⟨_, List.getElem?_eq_getElem (by omega)⟩
  have h2 : (i + Int32.ofInt 2).toInt = ((I + 2 : Nat) : Int) := l_ix (j := 2) hi (by omega) (by omega)
  obtain ⟨e2, he2⟩ : ∃ e, xs[I + 2]? = some e := ⟨_, List.getElem?_eq_getElem (by omega)⟩
  refine l_run 5 rfl ?_
  refine l_sld rfl h1 he1 ?_
  refine l_run 4 rfl ?_
  refine l_sld rfl h2 he2 ?_
  refine l_call (l_x_change n) rfl (a := [.inr (.inr 2), .inl e1, .inl e2]) rfl rfl (fun h hR => y_mayV (o := 0) (sz := 15) rfl hR) (by decide) ⟨hv, [e1, e2], rfl, rfl⟩ (fun v s2 hQ => ?_)
  obtain ⟨v2, g1, x, rfl⟩ := hQ
  refine l_run 6 rfl ?_
  refine l_sld rfl h1 he1 ?_
  refine l_run 4 rfl ?_
  refine l_sld rfl h2 he2 ?_
  refine l_call (l_m_change n) rfl (a := [.inr (.inr 67), .inl e1, .inl e2]) rfl rfl (fun h hR => y_mayV (o := 65) (sz := 85) rfl hR) (by decide) ⟨v2, [e1, e2], rfl, rfl⟩ (fun v s3 hQ => ?_)
  obtain ⟨v3, g3, x3, rfl⟩ := hQ
  refine l_run 2 rfl ?_
  exact next n s3 v3 (jX_fr (jX_fr hg g1) g3)
theorem l_x_shorten : l_Pub 2 68 1 22 := l_pubC (fun n => K_253) (fun n => K_255) rfl rfl (by decide +kernel) (by decide +kernel) (by decide)
theorem l_m_shorten : l_Pub 67 298 1 6 := l_pubN (fun n => K_488) rfl (by decide +kernel) (by decide +kernel) (by decide)
theorem l_c589 : l_Case 589 := by
  intro xs n s i I hL hi hI hv hg next
  have h1 : (i + Int32.ofInt 1).toInt = ((I + 1 : Nat) : Int) := l_ix (j := 1) hi (by omega) (by omega)
  obtain ⟨e1, he1⟩ : ∃ e, xs[I + 1]? = some e := ⟨_, List.getElem?_eq_getElem (by omega)⟩
  refine l_run 5 rfl ?_
  refine l_sld rfl h1 he1 ?_
  refine l_call (l_x_shorten n) rfl (a := [.inr (.inr 2), .inl e1]) rfl rfl (fun h hR => y_mayV (o := 0) (sz := 15) rfl hR) (by decide) ⟨hv, [e1], rfl, rfl⟩ (fun v s2 hQ => ?_)
  obtain ⟨v2, g1, x, rfl⟩ := hQ
  refine l_run 6 rfl ?_
  refine l_sld rfl h1 he1 ?_
  refine l_call (l_m_shorten n) rfl (a := [.inr (.inr 67), .inl e1]) rfl rfl (fun h hR => y_mayV (o := 65) (sz := 85) rfl hR) (by decide) ⟨v2, [e1], rfl, rfl⟩ (fun v s3 hQ => ?_)
  obtain ⟨v3, g3, x3, rfl⟩ := hQ
  refine l_run 2 rfl ?_
  exact next n s3 v3 (jX_fr (jX_fr hg g1) g3)
theorem l_x_insist : l_Pub 2 31 1 22 := l_pubC (fun n => K_256) (fun n => K_257) rfl rfl (by decide +kernel) (by decide +kernel) (by decide)
theorem l_m_insist : l_Pub 67 223 1 6 := l_pubN (fun n => K_489) rfl (by decide +kernel) (by decide +kernel) (by decide)
theorem l_c612 : l_Case 612 := by
  intro xs n s i I hL hi hI hv hg next
  have h1 : (i + Int32.ofInt 1).toInt = ((I + 1 : Nat) : Int) := l_ix (j := 1) hi (by omega) (by omega)
  obtain ⟨e1, he1⟩ : ∃ e, xs[I + 1]? = some e := ⟨_, List.getElem?_eq_getElem (by omega)⟩
  refine l_run 5 rfl ?_
  refine l_sld rfl h1 he1 ?_
  refine l_call (l_x_insist n) rfl (a := [.inr (.inr 2), .inl e1]) rfl rfl (fun h hR => y_mayV (o := 0) (sz := 15) rfl hR) (by decide) ⟨hv, [e1], rfl, rfl⟩ (fun v s2 hQ => ?_)
  obtain ⟨v2, g1, x, rfl⟩ := hQ
  refine l_run 6 rfl ?_
  refine l_sld rfl h1 he1 ?_
  refine l_call (l_m_insist n) rfl (a := [.inr (.inr 67), .inl e1]) rfl rfl (fun h hR => y_mayV (o := 65) (sz := 85) rfl hR) (by decide) ⟨v2, [e1], rfl, rfl⟩ (fun v s3 hQ => ?_)
  obtain ⟨v3, g3, x3, rfl⟩ := hQ
  refine l_run 2 rfl ?_
  exact next n s3 v3 (jX_fr (jX_fr hg g1) g3)
theorem l_x_giveUp : l_Pub 2 25 1 3 := l_pubH (K := y_guK) (fun n => y_giveUpC (n := n) ) (fun n a s h hA => ⟨h.1, h.2.1, l_a1 hA⟩) (fun n a s v s2 hQ => hQ) (by decide +kernel)
theorem l_m_giveUp : l_Pub 67 211 1 4 := l_pubH (K := y_miK) (fun n => y_giveUpM (n := n) (⟨(by decide +kernel), K_459⟩)) (fun n a s h hA => ⟨h.1, l_a1 hA⟩) (fun n a s v s2 hQ => hQ) (by decide +kernel)
theorem l_c635 : l_Case 635 := by
  intro xs n s i I hL hi hI hv hg next
  have h1 : (i + Int32.ofInt 1).toInt = ((I + 1 : Nat) : Int) := l_ix (j := 1) hi (by omega) (by omega)
  obtain ⟨e1, he1⟩ : ∃ e, xs[I + 1]? = some e := ⟨_, List.getElem?_eq_getElem (by omega)⟩
  refine l_run 5 rfl ?_
  refine l_sld rfl h1 he1 ?_
  refine l_call (l_x_giveUp n) rfl (a := [.inr (.inr 2), .inl e1]) rfl rfl (fun h hR => y_mayV (o := 0) (sz := 15) rfl hR) (by decide) ⟨hv, [e1], rfl, rfl⟩ (fun v s2 hQ => ?_)
  obtain ⟨v2, g1, x, rfl⟩ := hQ
  refine l_run 6 rfl ?_
  refine l_sld rfl h1 he1 ?_
  refine l_call (l_m_giveUp n) rfl (a := [.inr (.inr 67), .inl e1]) rfl rfl (fun h hR => y_mayV (o := 65) (sz := 85) rfl hR) (by decide) ⟨v2, [e1], rfl, rfl⟩ (fun v s3 hQ => ?_)
  obtain ⟨v3, g3, x3, rfl⟩ := hQ
  refine l_run 2 rfl ?_
  exact next n s3 v3 (jX_fr (jX_fr hg g1) g3)
theorem l_x_join : l_Pub 2 36 1 5 := l_pubH (K := y_guK) (fun n => y_joinC (n := n) (K_192) (K_196)) (fun n a s h hA => ⟨h.1, h.2.1, l_a1 hA⟩) (fun n a s v s2 hQ => hQ) (by decide +kernel)
theorem l_m_join : l_Pub 67 239 1 4 := l_pubH (K := y_miK) (fun n => y_joinM (n := n) (⟨(by decide +kernel), K_459⟩) (K_468)) (fun n a s h hA => ⟨h.1, l_a1 hA⟩) (fun n a s v s2 hQ => hQ) (by decide +kernel)
theorem l_c658 : l_Case 658 := by
  intro xs n s i I hL hi hI hv hg next
  have h1 : (i + Int32.ofInt 1).toInt = ((I + 1 : Nat) : Int) := l_ix (j := 1) hi (by omega) (by omega)
  obtain ⟨e1, he1⟩ : ∃ e, xs[I + 1]? = some e := ⟨_, List.getElem?_eq_getElem (by omega)⟩
  refine l_run 5 rfl ?_
  refine l_sld rfl h1 he1 ?_
  refine l_call (l_x_join n) rfl (a := [.inr (.inr 2), .inl e1]) rfl rfl (fun h hR => y_mayV (o := 0) (sz := 15) rfl hR) (by decide) ⟨hv, [e1], rfl, rfl⟩ (fun v s2 hQ => ?_)
  obtain ⟨v2, g1, x, rfl⟩ := hQ
  refine l_run 6 rfl ?_
  refine l_sld rfl h1 he1 ?_
  refine l_call (l_m_join n) rfl (a := [.inr (.inr 67), .inl e1]) rfl rfl (fun h hR => y_mayV (o := 65) (sz := 85) rfl hR) (by decide) ⟨v2, [e1], rfl, rfl⟩ (fun v s3 hQ => ?_)
  obtain ⟨v3, g3, x3, rfl⟩ := hQ
  refine l_run 2 rfl ?_
  exact next n s3 v3 (jX_fr (jX_fr hg g1) g3)
theorem l_x_await : l_Pub 2 6 1 21 := l_pubC (fun n => K_262) (fun n => K_263) rfl rfl (by decide +kernel) (by decide +kernel) (by decide)
theorem l_m_await : l_Pub 67 181 1 4 := l_pubN (fun n => K_492) rfl (by decide +kernel) (by decide +kernel) (by decide)
theorem l_c681 : l_Case 681 := by
  intro xs n s i I hL hi hI hv hg next
  have h1 : (i + Int32.ofInt 1).toInt = ((I + 1 : Nat) : Int) := l_ix (j := 1) hi (by omega) (by omega)
  obtain ⟨e1, he1⟩ : ∃ e, xs[I + 1]? = some e := ⟨_, List.getElem?_eq_getElem (by omega)⟩
  refine l_run 5 rfl ?_
  refine l_sld rfl h1 he1 ?_
  refine l_call (l_x_await n) rfl (a := [.inr (.inr 2), .inl e1]) rfl rfl (fun h hR => y_mayV (o := 0) (sz := 15) rfl hR) (by decide) ⟨hv, [e1], rfl, rfl⟩ (fun v s2 hQ => ?_)
  obtain ⟨v2, g1, x, rfl⟩ := hQ
  refine l_run 6 rfl ?_
  refine l_sld rfl h1 he1 ?_
  refine l_call (l_m_await n) rfl (a := [.inr (.inr 67), .inl e1]) rfl rfl (fun h hR => y_mayV (o := 65) (sz := 85) rfl hR) (by decide) ⟨v2, [e1], rfl, rfl⟩ (fun v s3 hQ => ?_)
  obtain ⟨v3, g3, x3, rfl⟩ := hQ
  refine l_run 2 rfl ?_
  exact next n s3 v3 (jX_fr (jX_fr hg g1) g3)
theorem l_x_undo : l_Pub 2 77 0 21 := l_pubN (fun n => K_265) rfl (by decide +kernel) (by decide +kernel) (by decide)
theorem l_m_undo : l_Pub 67 315 0 2 := l_pubH (K := y_unK) (fun n => y_undoM (n := n) ) (fun n a s h hA => ⟨h.1, l_a0 hA⟩) (fun n a s v s2 hQ => hQ) (by decide +kernel)
theorem l_c704 : l_Case 704 := by
  intro xs n s i I hL hi hI hv hg next
  refine l_run 1 rfl ?_
  refine l_call (l_x_undo n) rfl (a := [.inr (.inr 2)]) rfl rfl (fun h hR => y_mayV (o := 0) (sz := 15) rfl hR) (by decide) ⟨hv, [], rfl, rfl⟩ (fun v s2 hQ => ?_)
  obtain ⟨v2, g1, x, rfl⟩ := hQ
  refine l_run 2 rfl ?_
  refine l_call (l_m_undo n) rfl (a := [.inr (.inr 67)]) rfl rfl (fun h hR => y_mayV (o := 65) (sz := 85) rfl hR) (by decide) ⟨v2, [], rfl, rfl⟩ (fun v s3 hQ => ?_)
  obtain ⟨v3, g3, x3, rfl⟩ := hQ
  refine l_run 2 rfl ?_
  exact next n s3 v3 (jX_fr (jX_fr hg g1) g3)
theorem l_x_redo : l_Pub 2 60 0 21 := l_pubN (fun n => K_267) rfl (by decide +kernel) (by decide +kernel) (by decide)
theorem l_m_redo : l_Pub 67 285 0 2 := l_pubH (K := y_unK) (fun n => y_redoM (n := n) ) (fun n a s h hA => ⟨h.1, l_a0 hA⟩) (fun n a s v s2 hQ => hQ) (by decide +kernel)
theorem l_c717 : l_Case 717 := by
  intro xs n s i I hL hi hI hv hg next
  refine l_run 1 rfl ?_
  refine l_call (l_x_redo n) rfl (a := [.inr (.inr 2)]) rfl rfl (fun h hR => y_mayV (o := 0) (sz := 15) rfl hR) (by decide) ⟨hv, [], rfl, rfl⟩ (fun v s2 hQ => ?_)
  obtain ⟨v2, g1, x, rfl⟩ := hQ
  refine l_run 2 rfl ?_
  refine l_call (l_m_redo n) rfl (a := [.inr (.inr 67)]) rfl rfl (fun h hR => y_mayV (o := 65) (sz := 85) rfl hR) (by decide) ⟨v2, [], rfl, rfl⟩ (fun v s3 hQ => ?_)
  obtain ⟨v3, g3, x3, rfl⟩ := hQ
  refine l_run 2 rfl ?_
  exact next n s3 v3 (jX_fr (jX_fr hg g1) g3)
theorem l_x_will : l_Pub 2 80 3 6 := l_pubC (fun n => K_272) (fun n => K_273) rfl rfl (by decide +kernel) (by decide +kernel) (by decide)
theorem l_m_will : l_Pub 67 320 3 6 := l_pubN (fun n => K_510) rfl (by decide +kernel) (by decide +kernel) (by decide)
theorem l_c730 : l_Case 730 := by
  intro xs n s i I hL hi hI hv hg next
  have h1 : (i + Int32.ofInt 1).toInt = ((I + 1 : Nat) : Int) := l_ix (j := 1) hi (by omega) (by omega)
  obtain ⟨e1, he1⟩ : ∃ e, xs[I + 1]? = some e := ⟨_, List.getElem?_eq_getElem (by omega)⟩
  have h2 : (i + Int32.ofInt 2).toInt = ((I + 2 : Nat) : Int) := l_ix (j := 2) hi (by omega) (by omega)
  obtain ⟨e2, he2⟩ : ∃ e, xs[I + 2]? = some e := ⟨_, List.getElem?_eq_getElem (by omega)⟩
  have h3 : (i + Int32.ofInt 3).toInt = ((I + 3 : Nat) : Int) := l_ix (j := 3) hi (by omega) (by omega)
  obtain ⟨e3, he3⟩ : ∃ e, xs[I + 3]? = some e := ⟨_, List.getElem?_eq_getElem (by omega)⟩
  refine l_run 5 rfl ?_
  refine l_sld rfl h1 he1 ?_
  refine l_run 4 rfl ?_
  refine l_sld rfl h2 he2 ?_
  refine l_run 4 rfl ?_
  refine l_sld rfl h3 he3 ?_
  refine l_call (l_x_will n) rfl (a := [.inr (.inr 2), .inl e1, .inl e2, .inl e3]) rfl rfl (fun h hR => y_mayV (o := 0) (sz := 15) rfl hR) (by decide) ⟨hv, [e1, e2, e3], rfl, rfl⟩ (fun v s2 hQ => ?_)
  obtain ⟨v2, g1, x, rfl⟩ := hQ
  refine l_run 6 rfl ?_
  refine l_sld rfl h1 he1 ?_
  refine l_run 4 rfl ?_
  refine l_sld rfl h2 he2 ?_
  refine l_run 4 rfl ?_
  refine l_sld rfl h3 he3 ?_
  refine l_call (l_m_will n) rfl (a := [.inr (.inr 67), .inl e1, .inl e2, .inl e3]) rfl rfl (fun h hR => y_mayV (o := 65) (sz := 85) rfl hR) (by decide) ⟨v2, [e1, e2, e3], rfl, rfl⟩ (fun v s3 hQ => ?_)
  obtain ⟨v3, g3, x3, rfl⟩ := hQ
  refine l_run 2 rfl ?_
  exact next n s3 v3 (jX_fr (jX_fr hg g1) g3)
theorem l_x_says : l_Pub 2 63 1 6 := l_pubC (fun n => K_276) (fun n => K_277) rfl rfl (by decide +kernel) (by decide +kernel) (by decide)
theorem l_m_says : l_Pub 67 292 1 7 := l_pubN (fun n => K_519) rfl (by decide +kernel) (by decide +kernel) (by decide)
theorem l_c773 : l_Case 773 := by
  intro xs n s i I hL hi hI hv hg next
  have h1 : (i + Int32.ofInt 1).toInt = ((I + 1 : Nat) : Int) := l_ix (j := 1) hi (by omega) (by omega)
  obtain ⟨e1, he1⟩ : ∃ e, xs[I + 1]? = some e := ⟨_, List.getElem?_eq_getElem (by omega)⟩
  refine l_run 5 rfl ?_
  refine l_sld rfl h1 he1 ?_
  refine l_call (l_x_says n) rfl (a := [.inr (.inr 2), .inl e1]) rfl rfl (fun h hR => y_mayV (o := 0) (sz := 15) rfl hR) (by decide) ⟨hv, [e1], rfl, rfl⟩ (fun v s2 hQ => ?_)
  obtain ⟨v2, g1, x, rfl⟩ := hQ
  refine l_run 6 rfl ?_
  refine l_sld rfl h1 he1 ?_
  refine l_call (l_m_says n) rfl (a := [.inr (.inr 67), .inl e1]) rfl rfl (fun h hR => y_mayV (o := 65) (sz := 85) rfl hR) (by decide) ⟨v2, [e1], rfl, rfl⟩ (fun v s3 hQ => ?_)
  obtain ⟨v3, g3, x3, rfl⟩ := hQ
  refine l_run 2 rfl ?_
  exact next n s3 v3 (jX_fr (jX_fr hg g1) g3)
theorem l_x_steps : l_Pub 2 72 1 6 := l_pubC (fun n => K_279) (fun n => K_280) rfl rfl (by decide +kernel) (by decide +kernel) (by decide)
theorem l_m_steps : l_Pub 67 303 1 7 := l_pubN (fun n => K_520) rfl (by decide +kernel) (by decide +kernel) (by decide)
theorem l_c796 : l_Case 796 := by
  intro xs n s i I hL hi hI hv hg next
  have h1 : (i + Int32.ofInt 1).toInt = ((I + 1 : Nat) : Int) := l_ix (j := 1) hi (by omega) (by omega)
  obtain ⟨e1, he1⟩ : ∃ e, xs[I + 1]? = some e := ⟨_, List.getElem?_eq_getElem (by omega)⟩
  refine l_run 5 rfl ?_
  refine l_sld rfl h1 he1 ?_
  refine l_call (l_x_steps n) rfl (a := [.inr (.inr 2), .inl e1]) rfl rfl (fun h hR => y_mayV (o := 0) (sz := 15) rfl hR) (by decide) ⟨hv, [e1], rfl, rfl⟩ (fun v s2 hQ => ?_)
  obtain ⟨v2, g1, x, rfl⟩ := hQ
  refine l_run 6 rfl ?_
  refine l_sld rfl h1 he1 ?_
  refine l_call (l_m_steps n) rfl (a := [.inr (.inr 67), .inl e1]) rfl rfl (fun h hR => y_mayV (o := 65) (sz := 85) rfl hR) (by decide) ⟨v2, [e1], rfl, rfl⟩ (fun v s3 hQ => ?_)
  obtain ⟨v3, g3, x3, rfl⟩ := hQ
  refine l_run 2 rfl ?_
  exact next n s3 v3 (jX_fr (jX_fr hg g1) g3)
theorem l_x_missing : l_Pub 2 49 0 6 := l_pubC (fun n => K_281) (fun n => K_282) rfl rfl (by decide +kernel) (by decide +kernel) (by decide)
theorem l_m_missing : l_Pub 67 262 0 7 := l_pubN (fun n => K_521) rfl (by decide +kernel) (by decide +kernel) (by decide)
theorem l_c819 : l_Case 819 := by
  intro xs n s i I hL hi hI hv hg next
  refine l_run 1 rfl ?_
  refine l_call (l_x_missing n) rfl (a := [.inr (.inr 2)]) rfl rfl (fun h hR => y_mayV (o := 0) (sz := 15) rfl hR) (by decide) ⟨hv, [], rfl, rfl⟩ (fun v s2 hQ => ?_)
  obtain ⟨v2, g1, x, rfl⟩ := hQ
  refine l_run 2 rfl ?_
  refine l_call (l_m_missing n) rfl (a := [.inr (.inr 67)]) rfl rfl (fun h hR => y_mayV (o := 65) (sz := 85) rfl hR) (by decide) ⟨v2, [], rfl, rfl⟩ (fun v s3 hQ => ?_)
  obtain ⟨v3, g3, x3, rfl⟩ := hQ
  refine l_run 2 rfl ?_
  exact next n s3 v3 (jX_fr (jX_fr hg g1) g3)
theorem l_x_empty : l_Pub 2 18 0 6 := l_pubC (fun n => K_284) (fun n => K_285) rfl rfl (by decide +kernel) (by decide +kernel) (by decide)
theorem l_m_empty : l_Pub 67 197 0 7 := l_pubN (fun n => K_522) rfl (by decide +kernel) (by decide +kernel) (by decide)
theorem l_c832 : l_Case 832 := by
  intro xs n s i I hL hi hI hv hg next
  refine l_run 1 rfl ?_
  refine l_call (l_x_empty n) rfl (a := [.inr (.inr 2)]) rfl rfl (fun h hR => y_mayV (o := 0) (sz := 15) rfl hR) (by decide) ⟨hv, [], rfl, rfl⟩ (fun v s2 hQ => ?_)
  obtain ⟨v2, g1, x, rfl⟩ := hQ
  refine l_run 2 rfl ?_
  refine l_call (l_m_empty n) rfl (a := [.inr (.inr 67)]) rfl rfl (fun h hR => y_mayV (o := 65) (sz := 85) rfl hR) (by decide) ⟨v2, [], rfl, rfl⟩ (fun v s3 hQ => ?_)
  obtain ⟨v3, g3, x3, rfl⟩ := hQ
  refine l_run 2 rfl ?_
  exact next n s3 v3 (jX_fr (jX_fr hg g1) g3)
theorem l_x_count : l_Pub 2 12 0 8 := l_pubC (fun n => K_286) (fun n => K_287) rfl rfl (by decide +kernel) (by decide +kernel) (by decide)
theorem l_m_count : l_Pub 67 188 0 8 := l_pubN (fun n => K_526) rfl (by decide +kernel) (by decide +kernel) (by decide)
theorem l_c845 : l_Case 845 := by
  intro xs n s i I hL hi hI hv hg next
  refine l_run 1 rfl ?_
  refine l_call (l_x_count n) rfl (a := [.inr (.inr 2)]) rfl rfl (fun h hR => y_mayV (o := 0) (sz := 15) rfl hR) (by decide) ⟨hv, [], rfl, rfl⟩ (fun v s2 hQ => ?_)
  obtain ⟨v2, g1, x, rfl⟩ := hQ
  refine l_run 2 rfl ?_
  refine l_call (l_m_count n) rfl (a := [.inr (.inr 67)]) rfl rfl (fun h hR => y_mayV (o := 65) (sz := 85) rfl hR) (by decide) ⟨v2, [], rfl, rfl⟩ (fun v s3 hQ => ?_)
  obtain ⟨v3, g3, x3, rfl⟩ := hQ
  refine l_run 2 rfl ?_
  exact next n s3 v3 (jX_fr (jX_fr hg g1) g3)
theorem l_x_love : l_Pub 2 46 0 6 := l_pubC (fun n => K_290) (fun n => K_292) rfl rfl (by decide +kernel) (by decide +kernel) (by decide)
theorem l_m_love : l_Pub 67 255 0 8 := l_pubN (fun n => K_528) rfl (by decide +kernel) (by decide +kernel) (by decide)
theorem l_c858 : l_Case 858 := by
  intro xs n s i I hL hi hI hv hg next
  refine l_run 1 rfl ?_
  refine l_call (l_x_love n) rfl (a := [.inr (.inr 2)]) rfl rfl (fun h hR => y_mayV (o := 0) (sz := 15) rfl hR) (by decide) ⟨hv, [], rfl, rfl⟩ (fun v s2 hQ => ?_)
  obtain ⟨v2, g1, x, rfl⟩ := hQ
  refine l_run 2 rfl ?_
  refine l_call (l_m_love n) rfl (a := [.inr (.inr 67)]) rfl rfl (fun h hR => y_mayV (o := 65) (sz := 85) rfl hR) (by decide) ⟨v2, [], rfl, rfl⟩ (fun v s3 hQ => ?_)
  obtain ⟨v3, g3, x3, rfl⟩ := hQ
  refine l_run 2 rfl ?_
  exact next n s3 v3 (jX_fr (jX_fr hg g1) g3)
theorem l_x_order : l_Pub 2 53 0 14 := l_pubC (fun n => K_323) (fun n => K_335) rfl rfl (by decide +kernel) (by decide +kernel) (by decide)
theorem l_m_order : l_Pub 67 269 0 9 := l_pubN (fun n => K_530) rfl (by decide +kernel) (by decide +kernel) (by decide)
theorem l_c871 : l_Case 871 := by
  intro xs n s i I hL hi hI hv hg next
  refine l_run 1 rfl ?_
  refine l_call (l_x_order n) rfl (a := [.inr (.inr 2)]) rfl rfl (fun h hR => y_mayV (o := 0) (sz := 15) rfl hR) (by decide) ⟨hv, [], rfl, rfl⟩ (fun v s2 hQ => ?_)
  obtain ⟨v2, g1, x, rfl⟩ := hQ
  refine l_run 2 rfl ?_
  refine l_call (l_m_order n) rfl (a := [.inr (.inr 67)]) rfl rfl (fun h hR => y_mayV (o := 65) (sz := 85) rfl hR) (by decide) ⟨v2, [], rfl, rfl⟩ (fun v s3 hQ => ?_)
  obtain ⟨v3, g3, x3, rfl⟩ := hQ
  refine l_run 2 rfl ?_
  exact next n s3 v3 (jX_fr (jX_fr hg g1) g3)
theorem l_x_dearest : l_Pub 2 16 0 14 := l_pubC (fun n => K_336) (fun n => K_337) rfl rfl (by decide +kernel) (by decide +kernel) (by decide)
theorem l_m_dearest : l_Pub 67 192 0 9 := l_pubN (fun n => K_531) rfl (by decide +kernel) (by decide +kernel) (by decide)
theorem l_c884 : l_Case 884 := by
  intro xs n s i I hL hi hI hv hg next
  refine l_run 1 rfl ?_
  refine l_call (l_x_dearest n) rfl (a := [.inr (.inr 2)]) rfl rfl (fun h hR => y_mayV (o := 0) (sz := 15) rfl hR) (by decide) ⟨hv, [], rfl, rfl⟩ (fun v s2 hQ => ?_)
  obtain ⟨v2, g1, x, rfl⟩ := hQ
  refine l_run 2 rfl ?_
  refine l_call (l_m_dearest n) rfl (a := [.inr (.inr 67)]) rfl rfl (fun h hR => y_mayV (o := 65) (sz := 85) rfl hR) (by decide) ⟨v2, [], rfl, rfl⟩ (fun v s3 hQ => ?_)
  obtain ⟨v3, g3, x3, rfl⟩ := hQ
  refine l_run 2 rfl ?_
  exact next n s3 v3 (jX_fr (jX_fr hg g1) g3)
theorem l_x_shortest : l_Pub 2 69 1 6 := l_pubC (fun n => K_340) (fun n => K_341) rfl rfl (by decide +kernel) (by decide +kernel) (by decide)
theorem l_m_shortest : l_Pub 67 299 1 8 := l_pubN (fun n => K_541) rfl (by decide +kernel) (by decide +kernel) (by decide)
theorem l_c897 : l_Case 897 := by
  intro xs n s i I hL hi hI hv hg next
  have h1 : (i + Int32.ofInt 1).toInt = ((I + 1 : Nat) : Int) := l_ix (j := 1) hi (by omega) (by omega)
  obtain ⟨e1, he1⟩ : ∃ e, xs[I + 1]? = some e := ⟨_, List.getElem?_eq_getElem (by omega)⟩
  refine l_run 5 rfl ?_
  refine l_sld rfl h1 he1 ?_
  refine l_call (l_x_shortest n) rfl (a := [.inr (.inr 2), .inl e1]) rfl rfl (fun h hR => y_mayV (o := 0) (sz := 15) rfl hR) (by decide) ⟨hv, [e1], rfl, rfl⟩ (fun v s2 hQ => ?_)
  obtain ⟨v2, g1, x, rfl⟩ := hQ
  refine l_run 6 rfl ?_
  refine l_sld rfl h1 he1 ?_
  refine l_call (l_m_shortest n) rfl (a := [.inr (.inr 67), .inl e1]) rfl rfl (fun h hR => y_mayV (o := 65) (sz := 85) rfl hR) (by decide) ⟨v2, [e1], rfl, rfl⟩ (fun v s3 hQ => ?_)
  obtain ⟨v3, g3, x3, rfl⟩ := hQ
  refine l_run 2 rfl ?_
  exact next n s3 v3 (jX_fr (jX_fr hg g1) g3)
theorem l_x_spare : l_Pub 2 71 1 7 := l_pubC (fun n => K_344) (fun n => K_346) rfl rfl (by decide +kernel) (by decide +kernel) (by decide)
theorem l_m_spare : l_Pub 67 302 1 8 := l_pubH (K := y_arK) (fun n => y_spareM (n := n) (⟨(by decide +kernel), K_459⟩) (K_475) (K_524) (K_539) (K_538) (K_540)) (fun n a s h hA => ⟨h.1, l_a1 hA⟩) (fun n a s v s2 hQ => hQ) (by decide +kernel)
theorem l_c920 : l_Case 920 := by
  intro xs n s i I hL hi hI hv hg next
  have h1 : (i + Int32.ofInt 1).toInt = ((I + 1 : Nat) : Int) := l_ix (j := 1) hi (by omega) (by omega)
  obtain ⟨e1, he1⟩ : ∃ e, xs[I + 1]? = some e := ⟨_, List.getElem?_eq_getElem (by omega)⟩
  refine l_run 5 rfl ?_
  refine l_sld rfl h1 he1 ?_
  refine l_call (l_x_spare n) rfl (a := [.inr (.inr 2), .inl e1]) rfl rfl (fun h hR => y_mayV (o := 0) (sz := 15) rfl hR) (by decide) ⟨hv, [e1], rfl, rfl⟩ (fun v s2 hQ => ?_)
  obtain ⟨v2, g1, x, rfl⟩ := hQ
  refine l_run 6 rfl ?_
  refine l_sld rfl h1 he1 ?_
  refine l_call (l_m_spare n) rfl (a := [.inr (.inr 67), .inl e1]) rfl rfl (fun h hR => y_mayV (o := 65) (sz := 85) rfl hR) (by decide) ⟨v2, [e1], rfl, rfl⟩ (fun v s3 hQ => ?_)
  obtain ⟨v3, g3, x3, rfl⟩ := hQ
  refine l_run 2 rfl ?_
  exact next n s3 v3 (jX_fr (jX_fr hg g1) g3)
theorem l_x_hold : l_Pub 2 27 1 6 := l_pubC (fun n => K_307) (fun n => K_308) rfl rfl (by decide +kernel) (by decide +kernel) (by decide)
theorem l_m_hold : l_Pub 67 220 1 8 := l_pubN (fun n => K_545) rfl (by decide +kernel) (by decide +kernel) (by decide)
theorem l_c943 : l_Case 943 := by
  intro xs n s i I hL hi hI hv hg next
  have h1 : (i + Int32.ofInt 1).toInt = ((I + 1 : Nat) : Int) := l_ix (j := 1) hi (by omega) (by omega)
  obtain ⟨e1, he1⟩ : ∃ e, xs[I + 1]? = some e := ⟨_, List.getElem?_eq_getElem (by omega)⟩
  refine l_run 5 rfl ?_
  refine l_sld rfl h1 he1 ?_
  refine l_call (l_x_hold n) rfl (a := [.inr (.inr 2), .inl e1]) rfl rfl (fun h hR => y_mayV (o := 0) (sz := 15) rfl hR) (by decide) ⟨hv, [e1], rfl, rfl⟩ (fun v s2 hQ => ?_)
  obtain ⟨v2, g1, x, rfl⟩ := hQ
  refine l_run 6 rfl ?_
  refine l_sld rfl h1 he1 ?_
  refine l_call (l_m_hold n) rfl (a := [.inr (.inr 67), .inl e1]) rfl rfl (fun h hR => y_mayV (o := 65) (sz := 85) rfl hR) (by decide) ⟨v2, [e1], rfl, rfl⟩ (fun v s3 hQ => ?_)
  obtain ⟨v3, g3, x3, rfl⟩ := hQ
  refine l_run 2 rfl ?_
  exact next n s3 v3 (jX_fr (jX_fr hg g1) g3)
theorem l_x_swap : l_Pub 2 74 1 8 := l_pubC (fun n => K_354) (fun n => K_362) rfl rfl (by decide +kernel) (by decide +kernel) (by decide)
theorem l_m_swap : l_Pub 67 306 1 9 := l_pubH (K := y_arK) (fun n => y_swapM (n := n) (⟨(by decide +kernel), K_459⟩) (K_525) (⟨(by decide +kernel), K_526⟩)) (fun n a s h hA => ⟨h.1, l_a1 hA⟩) (fun n a s v s2 hQ => hQ) (by decide +kernel)
theorem l_c966 : l_Case 966 := by
  intro xs n s i I hL hi hI hv hg next
  have h1 : (i + Int32.ofInt 1).toInt = ((I + 1 : Nat) : Int) := l_ix (j := 1) hi (by omega) (by omega)
  obtain ⟨e1, he1⟩ : ∃ e, xs[I + 1]? = some e := ⟨_, List.getElem?_eq_getElem (by omega)⟩
  refine l_run 5 rfl ?_
  refine l_sld rfl h1 he1 ?_
  refine l_call (l_x_swap n) rfl (a := [.inr (.inr 2), .inl e1]) rfl rfl (fun h hR => y_mayV (o := 0) (sz := 15) rfl hR) (by decide) ⟨hv, [e1], rfl, rfl⟩ (fun v s2 hQ => ?_)
  obtain ⟨v2, g1, x, rfl⟩ := hQ
  refine l_run 6 rfl ?_
  refine l_sld rfl h1 he1 ?_
  refine l_call (l_m_swap n) rfl (a := [.inr (.inr 67), .inl e1]) rfl rfl (fun h hR => y_mayV (o := 65) (sz := 85) rfl hR) (by decide) ⟨v2, [e1], rfl, rfl⟩ (fun v s3 hQ => ?_)
  obtain ⟨v3, g3, x3, rfl⟩ := hQ
  refine l_run 2 rfl ?_
  exact next n s3 v3 (jX_fr (jX_fr hg g1) g3)
theorem l_x_wish : l_Pub 2 81 1 7 := l_pubH (K := y_wiK) (fun n => y_wishC (n := n) (⟨(by decide +kernel), ⟨(by decide +kernel), K_368⟩⟩) (⟨(by decide +kernel), ⟨(by decide +kernel), K_377⟩⟩) (⟨(by decide +kernel), K_371⟩)) (fun n a s h hA => ⟨h.1, h.2.1, l_a1 hA⟩) (fun n a s v s2 hQ => hQ) (by decide +kernel)
theorem l_m_wish : l_Pub 67 321 1 8 := l_pubH (K := y_arK) (fun n => y_wishM (n := n) (⟨(by decide +kernel), K_459⟩) (K_515) (K_517)) (fun n a s h hA => ⟨h.1, l_a1 hA⟩) (fun n a s v s2 hQ => hQ) (by decide +kernel)
theorem l_c989 : l_Case 989 := by
  intro xs n s i I hL hi hI hv hg next
  have h1 : (i + Int32.ofInt 1).toInt = ((I + 1 : Nat) : Int) := l_ix (j := 1) hi (by omega) (by omega)
  obtain ⟨e1, he1⟩ : ∃ e, xs[I + 1]? = some e := ⟨_, List.getElem?_eq_getElem (by omega)⟩
  refine l_run 5 rfl ?_
  refine l_sld rfl h1 he1 ?_
  refine l_call (l_x_wish n) rfl (a := [.inr (.inr 2), .inl e1]) rfl rfl (fun h hR => y_mayV (o := 0) (sz := 15) rfl hR) (by decide) ⟨hv, [e1], rfl, rfl⟩ (fun v s2 hQ => ?_)
  obtain ⟨v2, g1, x, rfl⟩ := hQ
  refine l_run 6 rfl ?_
  refine l_sld rfl h1 he1 ?_
  refine l_call (l_m_wish n) rfl (a := [.inr (.inr 67), .inl e1]) rfl rfl (fun h hR => y_mayV (o := 65) (sz := 85) rfl hR) (by decide) ⟨v2, [e1], rfl, rfl⟩ (fun v s3 hQ => ?_)
  obtain ⟨v3, g3, x3, rfl⟩ := hQ
  refine l_run 2 rfl ?_
  exact next n s3 v3 (jX_fr (jX_fr hg g1) g3)
theorem l_x_trade : l_Pub 2 75 0 7 := l_pubC (fun n => K_376) (fun n => K_378) rfl rfl (by decide +kernel) (by decide +kernel) (by decide)
theorem l_m_trade : l_Pub 67 312 0 8 := l_pubH (K := y_trK) (fun n => y_tradeM (n := n) (⟨(by decide +kernel), K_459⟩) (K_515) (K_517) (K_524)) (fun n a s h hA => ⟨h.1, l_a0 hA⟩) (fun n a s v s2 hQ => hQ) (by decide +kernel)
theorem l_c1012 : l_Case 1012 := by
  intro xs n s i I hL hi hI hv hg next
  refine l_run 1 rfl ?_
  refine l_call (l_x_trade n) rfl (a := [.inr (.inr 2)]) rfl rfl (fun h hR => y_mayV (o := 0) (sz := 15) rfl hR) (by decide) ⟨hv, [], rfl, rfl⟩ (fun v s2 hQ => ?_)
  obtain ⟨v2, g1, x, rfl⟩ := hQ
  refine l_run 2 rfl ?_
  refine l_call (l_m_trade n) rfl (a := [.inr (.inr 67)]) rfl rfl (fun h hR => y_mayV (o := 65) (sz := 85) rfl hR) (by decide) ⟨v2, [], rfl, rfl⟩ (fun v s3 hQ => ?_)
  obtain ⟨v3, g3, x3, rfl⟩ := hQ
  refine l_run 2 rfl ?_
  exact next n s3 v3 (jX_fr (jX_fr hg g1) g3)
theorem l_x_delay : l_Pub 2 17 2 7 := l_pubC (fun n => K_380) (fun n => K_382) rfl rfl (by decide +kernel) (by decide +kernel) (by decide)
theorem l_m_delay : l_Pub 67 193 2 8 := l_pubH (K := y_arK) (fun n => y_delayM (n := n) (⟨(by decide +kernel), K_459⟩) (K_515) (K_517)) (fun n a s h hA => ⟨h.1, l_a2 hA⟩) (fun n a s v s2 hQ => hQ) (by decide +kernel)
theorem l_c1025 : l_Case 1025 := by
  intro xs n s i I hL hi hI hv hg next
  have h1 : (i + Int32.ofInt 1).toInt = ((I + 1 : Nat) : Int) := l_ix (j := 1) hi (by omega) (by omega)
  obtain ⟨e1, he1⟩ : ∃ e, xs[I + 1]? = some e := ⟨_, List.getElem?_eq_getElem (by omega)⟩
  have h2 : (i + Int32.ofInt 2).toInt = ((I + 2 : Nat) : Int) := l_ix (j := 2) hi (by omega) (by omega)
  obtain ⟨e2, he2⟩ : ∃ e, xs[I + 2]? = some e := ⟨_, List.getElem?_eq_getElem (by omega)⟩
  refine l_run 5 rfl ?_
  refine l_sld rfl h1 he1 ?_
  refine l_run 4 rfl ?_
  refine l_sld rfl h2 he2 ?_
  refine l_call (l_x_delay n) rfl (a := [.inr (.inr 2), .inl e1, .inl e2]) rfl rfl (fun h hR => y_mayV (o := 0) (sz := 15) rfl hR) (by decide) ⟨hv, [e1, e2], rfl, rfl⟩ (fun v s2 hQ => ?_)
  obtain ⟨v2, g1, x, rfl⟩ := hQ
  refine l_run 6 rfl ?_
  refine l_sld rfl h1 he1 ?_
  refine l_run 4 rfl ?_
  refine l_sld rfl h2 he2 ?_
  refine l_call (l_m_delay n) rfl (a := [.inr (.inr 67), .inl e1, .inl e2]) rfl rfl (fun h hR => y_mayV (o := 65) (sz := 85) rfl hR) (by decide) ⟨v2, [e1, e2], rfl, rfl⟩ (fun v s3 hQ => ?_)
  obtain ⟨v3, g3, x3, rfl⟩ := hQ
  refine l_run 2 rfl ?_
  exact next n s3 v3 (jX_fr (jX_fr hg g1) g3)
theorem l_x_grudge : l_Pub 2 26 1 7 := l_pubC (fun n => K_383) (fun n => K_384) rfl rfl (by decide +kernel) (by decide +kernel) (by decide)
theorem l_m_grudge : l_Pub 67 215 1 8 := l_pubH (K := y_arK) (fun n => y_grudgeM (n := n) (⟨(by decide +kernel), K_459⟩) (K_515) (K_517) (K_583)) (fun n a s h hA => ⟨h.1, l_a1 hA⟩) (fun n a s v s2 hQ => hQ) (by decide +kernel)
theorem l_c1058 : l_Case 1058 := by
  intro xs n s i I hL hi hI hv hg next
  have h1 : (i + Int32.ofInt 1).toInt = ((I + 1 : Nat) : Int) := l_ix (j := 1) hi (by omega) (by omega)
  obtain ⟨e1, he1⟩ : ∃ e, xs[I + 1]? = some e := ⟨_, List.getElem?_eq_getElem (by omega)⟩
  refine l_run 5 rfl ?_
  refine l_sld rfl h1 he1 ?_
  refine l_call (l_x_grudge n) rfl (a := [.inr (.inr 2), .inl e1]) rfl rfl (fun h hR => y_mayV (o := 0) (sz := 15) rfl hR) (by decide) ⟨hv, [e1], rfl, rfl⟩ (fun v s2 hQ => ?_)
  obtain ⟨v2, g1, x, rfl⟩ := hQ
  refine l_run 6 rfl ?_
  refine l_sld rfl h1 he1 ?_
  refine l_call (l_m_grudge n) rfl (a := [.inr (.inr 67), .inl e1]) rfl rfl (fun h hR => y_mayV (o := 65) (sz := 85) rfl hR) (by decide) ⟨v2, [e1], rfl, rfl⟩ (fun v s3 hQ => ?_)
  obtain ⟨v3, g3, x3, rfl⟩ := hQ
  refine l_run 2 rfl ?_
  exact next n s3 v3 (jX_fr (jX_fr hg g1) g3)
theorem l_x_blame : l_Pub 2 9 2 7 := l_pubH (K := y_blK) (fun n => y_blameC (n := n) (⟨(by decide +kernel), (by decide +kernel), K_343⟩) (⟨(by decide +kernel), (by decide +kernel), K_345⟩) (⟨(by decide +kernel), K_388⟩)) (fun n a s h hA => ⟨h.1, h.2.1, l_a2 hA⟩) (fun n a s v s2 hQ => hQ) (by decide +kernel)
theorem l_m_blame : l_Pub 67 184 2 9 := l_pubN (fun n => K_554) rfl (by decide +kernel) (by decide +kernel) (by decide)
theorem l_c1081 : l_Case 1081 := by
  intro xs n s i I hL hi hI hv hg next
  have h1 : (i + Int32.ofInt 1).toInt = ((I + 1 : Nat) : Int) := l_ix (j := 1) hi (by omega) (by omega)
  obtain ⟨e1, he1⟩ : ∃ e, xs[I + 1]? = some e := ⟨_, List.getElem?_eq_getElem (by omega)⟩
  have h2 : (i + Int32.ofInt 2).toInt = ((I + 2 : Nat) : Int) := l_ix (j := 2) hi (by omega) (by omega)
  obtain ⟨e2, he2⟩ : ∃ e, xs[I + 2]? = some e := ⟨_, List.getElem?_eq_getElem (by omega)⟩
  refine l_run 5 rfl ?_
  refine l_sld rfl h1 he1 ?_
  refine l_run 4 rfl ?_
  refine l_sld rfl h2 he2 ?_
  refine l_call (l_x_blame n) rfl (a := [.inr (.inr 2), .inl e1, .inl e2]) rfl rfl (fun h hR => y_mayV (o := 0) (sz := 15) rfl hR) (by decide) ⟨hv, [e1, e2], rfl, rfl⟩ (fun v s2 hQ => ?_)
  obtain ⟨v2, g1, x, rfl⟩ := hQ
  refine l_run 6 rfl ?_
  refine l_sld rfl h1 he1 ?_
  refine l_run 4 rfl ?_
  refine l_sld rfl h2 he2 ?_
  refine l_call (l_m_blame n) rfl (a := [.inr (.inr 67), .inl e1, .inl e2]) rfl rfl (fun h hR => y_mayV (o := 65) (sz := 85) rfl hR) (by decide) ⟨v2, [e1, e2], rfl, rfl⟩ (fun v s3 hQ => ?_)
  obtain ⟨v3, g3, x3, rfl⟩ := hQ
  refine l_run 2 rfl ?_
  exact next n s3 v3 (jX_fr (jX_fr hg g1) g3)
theorem l_x_room : l_Pub 2 61 0 6 := l_pubC (fun n => K_303) (fun n => K_304) rfl rfl (by decide +kernel) (by decide +kernel) (by decide)
theorem l_m_room : l_Pub 67 286 0 8 := l_pubN (fun n => K_559) rfl (by decide +kernel) (by decide +kernel) (by decide)
theorem l_c1114 : l_Case 1114 := by
  intro xs n s i I hL hi hI hv hg next
  refine l_run 1 rfl ?_
  refine l_call (l_x_room n) rfl (a := [.inr (.inr 2)]) rfl rfl (fun h hR => y_mayV (o := 0) (sz := 15) rfl hR) (by decide) ⟨hv, [], rfl, rfl⟩ (fun v s2 hQ => ?_)
  obtain ⟨v2, g1, x, rfl⟩ := hQ
  refine l_run 2 rfl ?_
  refine l_call (l_m_room n) rfl (a := [.inr (.inr 67)]) rfl rfl (fun h hR => y_mayV (o := 65) (sz := 85) rfl hR) (by decide) ⟨v2, [], rfl, rfl⟩ (fun v s3 hQ => ?_)
  obtain ⟨v3, g3, x3, rfl⟩ := hQ
  refine l_run 2 rfl ?_
  exact next n s3 v3 (jX_fr (jX_fr hg g1) g3)
theorem l_x_lets : l_Pub 2 43 1 6 := l_pubC (fun n => K_305) (fun n => K_306) rfl rfl (by decide +kernel) (by decide +kernel) (by decide)
theorem l_m_lets : l_Pub 67 252 1 8 := l_pubN (fun n => K_558) rfl (by decide +kernel) (by decide +kernel) (by decide)
theorem l_c1127 : l_Case 1127 := by
  intro xs n s i I hL hi hI hv hg next
  have h1 : (i + Int32.ofInt 1).toInt = ((I + 1 : Nat) : Int) := l_ix (j := 1) hi (by omega) (by omega)
  obtain ⟨e1, he1⟩ : ∃ e, xs[I + 1]? = some e := ⟨_, List.getElem?_eq_getElem (by omega)⟩
  refine l_run 5 rfl ?_
  refine l_sld rfl h1 he1 ?_
  refine l_call (l_x_lets n) rfl (a := [.inr (.inr 2), .inl e1]) rfl rfl (fun h hR => y_mayV (o := 0) (sz := 15) rfl hR) (by decide) ⟨hv, [e1], rfl, rfl⟩ (fun v s2 hQ => ?_)
  obtain ⟨v2, g1, x, rfl⟩ := hQ
  refine l_run 6 rfl ?_
  refine l_sld rfl h1 he1 ?_
  refine l_call (l_m_lets n) rfl (a := [.inr (.inr 67), .inl e1]) rfl rfl (fun h hR => y_mayV (o := 65) (sz := 85) rfl hR) (by decide) ⟨v2, [e1], rfl, rfl⟩ (fun v s3 hQ => ?_)
  obtain ⟨v3, g3, x3, rfl⟩ := hQ
  refine l_run 2 rfl ?_
  exact next n s3 v3 (jX_fr (jX_fr hg g1) g3)
theorem l_x_last : l_Pub 2 37 2 6 := l_pubC (fun n => K_300) (fun n => K_302) rfl rfl (by decide +kernel) (by decide +kernel) (by decide)
theorem l_m_last : l_Pub 67 241 2 7 := l_pubN (fun n => K_562) rfl (by decide +kernel) (by decide +kernel) (by decide)
theorem l_c1150 : l_Case 1150 := by
  intro xs n s i I hL hi hI hv hg next
  have h1 : (i + Int32.ofInt 1).toInt = ((I + 1 : Nat) : Int) := l_ix (j := 1) hi (by omega) (by omega)
  obtain ⟨e1, he1⟩ : ∃ e, xs[I + 1]? = some e := ⟨_, List.getElem?_eq_getElem (by omega)⟩
  have h2 : (i + Int32.ofInt 2).toInt = ((I + 2 : Nat) : Int) := l_ix (j := 2) hi (by omega) (by omega)
  obtain ⟨e2, he2⟩ : ∃ e, xs[I + 2]? = some e := ⟨_, List.getElem?_eq_getElem (by omega)⟩
  refine l_run 5 rfl ?_
  refine l_sld rfl h1 he1 ?_
  refine l_run 4 rfl ?_
  refine l_sld rfl h2 he2 ?_
  refine l_call (l_x_last n) rfl (a := [.inr (.inr 2), .inl e1, .inl e2]) rfl rfl (fun h hR => y_mayV (o := 0) (sz := 15) rfl hR) (by decide) ⟨hv, [e1, e2], rfl, rfl⟩ (fun v s2 hQ => ?_)
  obtain ⟨v2, g1, x, rfl⟩ := hQ
  refine l_run 6 rfl ?_
  refine l_sld rfl h1 he1 ?_
  refine l_run 4 rfl ?_
  refine l_sld rfl h2 he2 ?_
  refine l_call (l_m_last n) rfl (a := [.inr (.inr 67), .inl e1, .inl e2]) rfl rfl (fun h hR => y_mayV (o := 65) (sz := 85) rfl hR) (by decide) ⟨v2, [e1, e2], rfl, rfl⟩ (fun v s3 hQ => ?_)
  obtain ⟨v3, g3, x3, rfl⟩ := hQ
  refine l_run 2 rfl ?_
  exact next n s3 v3 (jX_fr (jX_fr hg g1) g3)
theorem l_x_second : l_Pub 2 64 0 7 := l_pubC (fun n => K_297) (fun n => K_298) rfl rfl (by decide +kernel) (by decide +kernel) (by decide)
theorem l_m_second : l_Pub 67 295 0 8 := l_pubN (fun n => K_564) rfl (by decide +kernel) (by decide +kernel) (by decide)
theorem l_c1183 : l_Case 1183 := by
  intro xs n s i I hL hi hI hv hg next
  refine l_run 1 rfl ?_
  refine l_call (l_x_second n) rfl (a := [.inr (.inr 2)]) rfl rfl (fun h hR => y_mayV (o := 0) (sz := 15) rfl hR) (by decide) ⟨hv, [], rfl, rfl⟩ (fun v s2 hQ => ?_)
  obtain ⟨v2, g1, x, rfl⟩ := hQ
  refine l_run 2 rfl ?_
  refine l_call (l_m_second n) rfl (a := [.inr (.inr 67)]) rfl rfl (fun h hR => y_mayV (o := 65) (sz := 85) rfl hR) (by decide) ⟨v2, [], rfl, rfl⟩ (fun v s3 hQ => ?_)
  obtain ⟨v3, g3, x3, rfl⟩ := hQ
  refine l_run 2 rfl ?_
  exact next n s3 v3 (jX_fr (jX_fr hg g1) g3)
theorem l_x_aside : l_Pub 2 4 1 7 := l_pubC (fun n => K_364) (fun n => K_365) rfl rfl (by decide +kernel) (by decide +kernel) (by decide)
theorem l_m_aside : l_Pub 67 178 1 8 := l_pubH (K := y_arK) (fun n => y_asideM (n := n) (⟨(by decide +kernel), K_459⟩) (K_525)) (fun n a s h hA => ⟨h.1, l_a1 hA⟩) (fun n a s v s2 hQ => hQ) (by decide +kernel)
theorem l_c1196 : l_Case 1196 := by
  intro xs n s i I hL hi hI hv hg next
  have h1 : (i + Int32.ofInt 1).toInt = ((I + 1 : Nat) : Int) := l_ix (j := 1) hi (by omega) (by omega)
  obtain ⟨e1, he1⟩ : ∃ e, xs[I + 1]? = some e := ⟨_, List.getElem?_eq_getElem (by omega)⟩
  refine l_run 5 rfl ?_
  refine l_sld rfl h1 he1 ?_
  refine l_call (l_x_aside n) rfl (a := [.inr (.inr 2), .inl e1]) rfl rfl (fun h hR => y_mayV (o := 0) (sz := 15) rfl hR) (by decide) ⟨hv, [e1], rfl, rfl⟩ (fun v s2 hQ => ?_)
  obtain ⟨v2, g1, x, rfl⟩ := hQ
  refine l_run 6 rfl ?_
  refine l_sld rfl h1 he1 ?_
  refine l_call (l_m_aside n) rfl (a := [.inr (.inr 67), .inl e1]) rfl rfl (fun h hR => y_mayV (o := 65) (sz := 85) rfl hR) (by decide) ⟨v2, [e1], rfl, rfl⟩ (fun v s3 hQ => ?_)
  obtain ⟨v3, g3, x3, rfl⟩ := hQ
  refine l_run 2 rfl ?_
  exact next n s3 v3 (jX_fr (jX_fr hg g1) g3)
theorem l_x_soonest : l_Pub 2 70 0 5 := l_pubC (fun n => K_218) (fun n => K_219) rfl rfl (by decide +kernel) (by decide +kernel) (by decide)
theorem l_m_soonest : l_Pub 67 301 0 4 := l_pubN (fun n => K_566) rfl (by decide +kernel) (by decide +kernel) (by decide)
theorem l_c1219 : l_Case 1219 := by
  intro xs n s i I hL hi hI hv hg next
  refine l_run 1 rfl ?_
  refine l_call (l_x_soonest n) rfl (a := [.inr (.inr 2)]) rfl rfl (fun h hR => y_mayV (o := 0) (sz := 15) rfl hR) (by decide) ⟨hv, [], rfl, rfl⟩ (fun v s2 hQ => ?_)
  obtain ⟨v2, g1, x, rfl⟩ := hQ
  refine l_run 2 rfl ?_
  refine l_call (l_m_soonest n) rfl (a := [.inr (.inr 67)]) rfl rfl (fun h hR => y_mayV (o := 65) (sz := 85) rfl hR) (by decide) ⟨v2, [], rfl, rfl⟩ (fun v s3 hQ => ?_)
  obtain ⟨v3, g3, x3, rfl⟩ := hQ
  refine l_run 2 rfl ?_
  exact next n s3 v3 (jX_fr (jX_fr hg g1) g3)
theorem l_x_fondest : l_Pub 2 24 0 1 := l_pubC (fun n => K_220) (fun n => K_221) rfl rfl (by decide +kernel) (by decide +kernel) (by decide)
theorem l_m_fondest : l_Pub 67 207 0 1 := l_pubN (fun n => K_567) rfl (by decide +kernel) (by decide +kernel) (by decide)
theorem l_c1232 : l_Case 1232 := by
  intro xs n s i I hL hi hI hv hg next
  refine l_run 1 rfl ?_
  refine l_call (l_x_fondest n) rfl (a := [.inr (.inr 2)]) rfl rfl (fun h hR => y_mayV (o := 0) (sz := 15) rfl hR) (by decide) ⟨hv, [], rfl, rfl⟩ (fun v s2 hQ => ?_)
  obtain ⟨v2, g1, x, rfl⟩ := hQ
  refine l_run 2 rfl ?_
  refine l_call (l_m_fondest n) rfl (a := [.inr (.inr 67)]) rfl rfl (fun h hR => y_mayV (o := 65) (sz := 85) rfl hR) (by decide) ⟨v2, [], rfl, rfl⟩ (fun v s3 hQ => ?_)
  obtain ⟨v3, g3, x3, rfl⟩ := hQ
  refine l_run 2 rfl ?_
  exact next n s3 v3 (jX_fr (jX_fr hg g1) g3)
theorem l_x_waves : l_Pub 2 79 0 1 := l_pubN (fun n => K_217) rfl (by decide +kernel) (by decide +kernel) (by decide)
theorem l_m_waves : l_Pub 67 319 0 1 := l_pubN (fun n => K_568) rfl (by decide +kernel) (by decide +kernel) (by decide)
theorem l_c1245 : l_Case 1245 := by
  intro xs n s i I hL hi hI hv hg next
  refine l_run 1 rfl ?_
  refine l_call (l_x_waves n) rfl (a := [.inr (.inr 2)]) rfl rfl (fun h hR => y_mayV (o := 0) (sz := 15) rfl hR) (by decide) ⟨hv, [], rfl, rfl⟩ (fun v s2 hQ => ?_)
  obtain ⟨v2, g1, x, rfl⟩ := hQ
  refine l_run 2 rfl ?_
  refine l_call (l_m_waves n) rfl (a := [.inr (.inr 67)]) rfl rfl (fun h hR => y_mayV (o := 65) (sz := 85) rfl hR) (by decide) ⟨v2, [], rfl, rfl⟩ (fun v s3 hQ => ?_)
  obtain ⟨v3, g3, x3, rfl⟩ := hQ
  refine l_run 2 rfl ?_
  exact next n s3 v3 (jX_fr (jX_fr hg g1) g3)
theorem l_x_litter : l_Pub 2 45 0 6 := l_pubC (fun n => K_293) (fun n => K_294) rfl rfl (by decide +kernel) (by decide +kernel) (by decide)
theorem l_m_litter : l_Pub 67 254 0 7 := l_pubN (fun n => K_569) rfl (by decide +kernel) (by decide +kernel) (by decide)
theorem l_c1258 : l_Case 1258 := by
  intro xs n s i I hL hi hI hv hg next
  refine l_run 1 rfl ?_
  refine l_call (l_x_litter n) rfl (a := [.inr (.inr 2)]) rfl rfl (fun h hR => y_mayV (o := 0) (sz := 15) rfl hR) (by decide) ⟨hv, [], rfl, rfl⟩ (fun v s2 hQ => ?_)
  obtain ⟨v2, g1, x, rfl⟩ := hQ
  refine l_run 2 rfl ?_
  refine l_call (l_m_litter n) rfl (a := [.inr (.inr 67)]) rfl rfl (fun h hR => y_mayV (o := 65) (sz := 85) rfl hR) (by decide) ⟨v2, [], rfl, rfl⟩ (fun v s3 hQ => ?_)
  obtain ⟨v3, g3, x3, rfl⟩ := hQ
  refine l_run 2 rfl ?_
  exact next n s3 v3 (jX_fr (jX_fr hg g1) g3)
theorem l_x_law : l_Pub 2 39 1 7 := l_pubC (fun n => K_295) (fun n => K_296) rfl rfl (by decide +kernel) (by decide +kernel) (by decide)
theorem l_m_law : l_Pub 67 243 1 8 := l_pubN (fun n => K_571) rfl (by decide +kernel) (by decide +kernel) (by decide)
theorem l_c1271 : l_Case 1271 := by
  intro xs n s i I hL hi hI hv hg next
  have h1 : (i + Int32.ofInt 1).toInt = ((I + 1 : Nat) : Int) := l_ix (j := 1) hi (by omega) (by omega)
  obtain ⟨e1, he1⟩ : ∃ e, xs[I + 1]? = some e := ⟨_, List.getElem?_eq_getElem (by omega)⟩
  refine l_run 5 rfl ?_
  refine l_sld rfl h1 he1 ?_
  refine l_call (l_x_law n) rfl (a := [.inr (.inr 2), .inl e1]) rfl rfl (fun h hR => y_mayV (o := 0) (sz := 15) rfl hR) (by decide) ⟨hv, [e1], rfl, rfl⟩ (fun v s2 hQ => ?_)
  obtain ⟨v2, g1, x, rfl⟩ := hQ
  refine l_run 6 rfl ?_
  refine l_sld rfl h1 he1 ?_
  refine l_call (l_m_law n) rfl (a := [.inr (.inr 67), .inl e1]) rfl rfl (fun h hR => y_mayV (o := 65) (sz := 85) rfl hR) (by decide) ⟨v2, [e1], rfl, rfl⟩ (fun v s3 hQ => ?_)
  obtain ⟨v3, g3, x3, rfl⟩ := hQ
  refine l_run 2 rfl ?_
  exact next n s3 v3 (jX_fr (jX_fr hg g1) g3)
theorem l_x_odds : l_Pub 2 51 2 3 := l_pubC (fun n => K_389) (fun n => K_390) rfl rfl (by decide +kernel) (by decide +kernel) (by decide)
theorem l_m_odds : l_Pub 67 265 2 2 := l_pubN (fun n => K_575) rfl (by decide +kernel) (by decide +kernel) (by decide)
theorem l_c1294 : l_Case 1294 := by
  intro xs n s i I hL hi hI hv hg next
  have h1 : (i + Int32.ofInt 1).toInt = ((I + 1 : Nat) : Int) := l_ix (j := 1) hi (by omega) (by omega)
  obtain ⟨e1, he1⟩ : ∃ e, xs[I + 1]? = some e := ⟨_, List.getElem?_eq_getElem (by omega)⟩
  have h2 : (i + Int32.ofInt 2).toInt = ((I + 2 : Nat) : Int) := l_ix (j := 2) hi (by omega) (by omega)
  obtain ⟨e2, he2⟩ : ∃ e, xs[I + 2]? = some e := ⟨_, List.getElem?_eq_getElem (by omega)⟩
  refine l_run 5 rfl ?_
  refine l_sld rfl h1 he1 ?_
  refine l_run 4 rfl ?_
  refine l_sld rfl h2 he2 ?_
  refine l_call (l_x_odds n) rfl (a := [.inr (.inr 2), .inl e1, .inl e2]) rfl rfl (fun h hR => y_mayV (o := 0) (sz := 15) rfl hR) (by decide) ⟨hv, [e1, e2], rfl, rfl⟩ (fun v s2 hQ => ?_)
  obtain ⟨v2, g1, x, rfl⟩ := hQ
  refine l_run 6 rfl ?_
  refine l_sld rfl h1 he1 ?_
  refine l_run 4 rfl ?_
  refine l_sld rfl h2 he2 ?_
  refine l_call (l_m_odds n) rfl (a := [.inr (.inr 67), .inl e1, .inl e2]) rfl rfl (fun h hR => y_mayV (o := 65) (sz := 85) rfl hR) (by decide) ⟨v2, [e1, e2], rfl, rfl⟩ (fun v s3 hQ => ?_)
  obtain ⟨v3, g3, x3, rfl⟩ := hQ
  refine l_run 2 rfl ?_
  exact next n s3 v3 (jX_fr (jX_fr hg g1) g3)
theorem l_x_lies : l_Pub 2 44 1 1 := l_pubN (fun n => K_391) rfl (by decide +kernel) (by decide +kernel) (by decide)
theorem l_m_lies : l_Pub 67 253 1 2 := l_pubN (fun n => K_576) rfl (by decide +kernel) (by decide +kernel) (by decide)
theorem l_c1327 : l_Case 1327 := by
  intro xs n s i I hL hi hI hv hg next
  have h1 : (i + Int32.ofInt 1).toInt = ((I + 1 : Nat) : Int) := l_ix (j := 1) hi (by omega) (by omega)
  obtain ⟨e1, he1⟩ : ∃ e, xs[I + 1]? = some e := ⟨_, List.getElem?_eq_getElem (by omega)⟩
  refine l_run 5 rfl ?_
  refine l_sld rfl h1 he1 ?_
  refine l_call (l_x_lies n) rfl (a := [.inr (.inr 2), .inl e1]) rfl rfl (fun h hR => y_mayV (o := 0) (sz := 15) rfl hR) (by decide) ⟨hv, [e1], rfl, rfl⟩ (fun v s2 hQ => ?_)
  obtain ⟨v2, g1, x, rfl⟩ := hQ
  refine l_run 6 rfl ?_
  refine l_sld rfl h1 he1 ?_
  refine l_call (l_m_lies n) rfl (a := [.inr (.inr 67), .inl e1]) rfl rfl (fun h hR => y_mayV (o := 65) (sz := 85) rfl hR) (by decide) ⟨v2, [e1], rfl, rfl⟩ (fun v s3 hQ => ?_)
  obtain ⟨v3, g3, x3, rfl⟩ := hQ
  refine l_run 2 rfl ?_
  exact next n s3 v3 (jX_fr (jX_fr hg g1) g3)
theorem l_x_seen : l_PubP 65 2 (fun a => ∃ x y z : Int32, 0 ≤ z.toInt ∧ z.toInt ≤ 1 ∧ a = [.inr (.inr 2), .inl x, .inl y, .inl z]) := l_pubCP (fun n => K_393) (fun n => K_394) (fun σ a h => by
    obtain ⟨x, y, z, z0, z1, rfl⟩ := h
    exact ⟨⟨2, rfl, List.mem_cons_self⟩, y_ivall, y_ivall, y_iv (by omega) (by omega), True.intro⟩) (fun σ a h => by
    obtain ⟨x, y, z, z0, z1, rfl⟩ := h
    exact ⟨⟨2, rfl, List.mem_cons_self⟩, y_ivall, y_ivall, y_iv (by omega) (by omega), True.intro⟩) (by decide +kernel) (by decide +kernel) (by decide)
theorem l_m_seen : l_PubP 296 2 (fun a => ∃ x y z : Int32, 0 ≤ z.toInt ∧ z.toInt ≤ 1 ∧ a = [.inr (.inr 67), .inl x, .inl y, .inl z]) := l_pubNP (fun n => K_578) (fun σ a h => by
    obtain ⟨x, y, z, z0, z1, rfl⟩ := h
    exact ⟨⟨67, rfl, List.mem_cons_self⟩, y_ivall, y_ivall, y_iv (by omega) (by omega), True.intro⟩) (by decide +kernel) (by decide +kernel) (by decide)
theorem l_c1350 : l_Case 1350 := by
  intro xs n s i I hL hi hI hv hg next
  have h1 : (i + Int32.ofInt 1).toInt = ((I + 1 : Nat) : Int) := l_ix (j := 1) hi (by omega) (by omega)
  have h2 : (i + Int32.ofInt 2).toInt = ((I + 2 : Nat) : Int) := l_ix (j := 2) hi (by omega) (by omega)
  have h3 : (i + Int32.ofInt 3).toInt = ((I + 3 : Nat) : Int) := l_ix (j := 3) hi (by omega) (by omega)
  obtain ⟨e1, he1⟩ : ∃ e, xs[I + 1]? = some e := ⟨_, List.getElem?_eq_getElem (by omega)⟩
  obtain ⟨e2, he2⟩ : ∃ e, xs[I + 2]? = some e := ⟨_, List.getElem?_eq_getElem (by omega)⟩
  obtain ⟨e3, he3⟩ : ∃ e, xs[I + 3]? = some e := ⟨_, List.getElem?_eq_getElem (by omega)⟩
  have cm : ∀ (z : Int32) (s2 : y_H), 0 ≤ z.toInt → z.toInt ≤ 1 → LInv n s2 → jX s2.1 → l_W xs 1402 (l_ls i) [.inl z, .inl e2, .inl e1, .inr (.inr 67)] s2 := by
    intro z s2 z0 z1 hv2 hg2
    refine l_call (l_m_seen n) rfl (a := [.inr (.inr 67), .inl e1, .inl e2, .inl z]) rfl rfl (fun h hR => y_mayV (o := 65) (sz := 85) rfl hR) (by decide) ⟨hv2, e1, e2, z, z0, z1, rfl⟩ (fun v s3 hQ => ?_)
    obtain ⟨v3, g3, x3, rfl⟩ := hQ
    refine l_run 2 rfl ?_
    exact next n s3 v3 (jX_fr hg2 g3)
  have cx : ∀ (z : Int32) (s2 : y_H), 0 ≤ z.toInt → z.toInt ≤ 1 → LInv n s2 → jX s2.1 → l_W xs 1374 (l_ls i) [.inl z, .inl e2, .inl e1, .inr (.inr 2)] s2 := by
    intro z s2 z0 z1 hv2 hg2
    refine l_call (l_x_seen n) rfl (a := [.inr (.inr 2), .inl e1, .inl e2, .inl z]) rfl rfl (fun h hR => y_mayV (o := 0) (sz := 15) rfl hR) (by decide) ⟨hv2, e1, e2, z, z0, z1, rfl⟩ (fun v s3 hQ => ?_)
    obtain ⟨v3, g3, x3, rfl⟩ := hQ
    have hg3 : jX s3.1 := jX_fr hg2 g3
    refine l_run 6 rfl ?_
    refine l_sld rfl h1 he1 ?_
    refine l_run 4 rfl ?_
    refine l_sld rfl h2 he2 ?_
    refine l_run 4 rfl ?_
    refine l_sld rfl h3 he3 ?_
    refine l_if rfl (fun _ => ?_) (fun _ => ?_)
    · refine l_run 1 rfl ?_
      exact cm _ s3 (show (0 : Int) ≤ 0 by omega) (show (0 : Int) ≤ 1 by omega) v3 hg3
    · refine l_run 2 rfl ?_
      exact cm _ s3 (show (0 : Int) ≤ 1 by omega) (show (1 : Int) ≤ 1 by omega) v3 hg3
  refine l_run 5 rfl ?_
  refine l_sld rfl h1 he1 ?_
  refine l_run 4 rfl ?_
  refine l_sld rfl h2 he2 ?_
  refine l_run 4 rfl ?_
  refine l_sld rfl h3 he3 ?_
  refine l_if rfl (fun _ => ?_) (fun _ => ?_)
  · refine l_run 1 rfl ?_
    exact cx _ s (show (0 : Int) ≤ 0 by omega) (show (0 : Int) ≤ 1 by omega) hv hg
  · refine l_run 2 rfl ?_
    exact cx _ s (show (0 : Int) ≤ 1 by omega) (show (1 : Int) ≤ 1 by omega) hv hg
theorem l_x_untell : l_Pub 2 78 1 2 := l_pubN (fun n => K_396) rfl (by decide +kernel) (by decide +kernel) (by decide)
theorem l_m_untell : l_Pub 67 317 1 2 := l_pubN (fun n => K_580) rfl (by decide +kernel) (by decide +kernel) (by decide)
theorem l_c1409 : l_Case 1409 := by
  intro xs n s i I hL hi hI hv hg next
  have h1 : (i + Int32.ofInt 1).toInt = ((I + 1 : Nat) : Int) := l_ix (j := 1) hi (by omega) (by omega)
  obtain ⟨e1, he1⟩ : ∃ e, xs[I + 1]? = some e := ⟨_, List.getElem?_eq_getElem (by omega)⟩
  refine l_run 5 rfl ?_
  refine l_sld rfl h1 he1 ?_
  refine l_call (l_x_untell n) rfl (a := [.inr (.inr 2), .inl e1]) rfl rfl (fun h hR => y_mayV (o := 0) (sz := 15) rfl hR) (by decide) ⟨hv, [e1], rfl, rfl⟩ (fun v s2 hQ => ?_)
  obtain ⟨v2, g1, x, rfl⟩ := hQ
  refine l_run 6 rfl ?_
  refine l_sld rfl h1 he1 ?_
  refine l_call (l_m_untell n) rfl (a := [.inr (.inr 67), .inl e1]) rfl rfl (fun h hR => y_mayV (o := 65) (sz := 85) rfl hR) (by decide) ⟨v2, [e1], rfl, rfl⟩ (fun v s3 hQ => ?_)
  obtain ⟨v3, g3, x3, rfl⟩ := hQ
  refine l_run 2 rfl ?_
  exact next n s3 v3 (jX_fr (jX_fr hg g1) g3)
theorem l_x_later : l_Pub 2 38 1 1 := l_pubN (fun n => K_397) rfl (by decide +kernel) (by decide +kernel) (by decide)
theorem l_m_later : l_Pub 67 242 1 1 := l_pubN (fun n => K_581) rfl (by decide +kernel) (by decide +kernel) (by decide)
theorem l_c1432 : l_Case 1432 := by
  intro xs n s i I hL hi hI hv hg next
  have h1 : (i + Int32.ofInt 1).toInt = ((I + 1 : Nat) : Int) := l_ix (j := 1) hi (by omega) (by omega)
  obtain ⟨e1, he1⟩ : ∃ e, xs[I + 1]? = some e := ⟨_, List.getElem?_eq_getElem (by omega)⟩
  refine l_run 5 rfl ?_
  refine l_sld rfl h1 he1 ?_
  refine l_call (l_x_later n) rfl (a := [.inr (.inr 2), .inl e1]) rfl rfl (fun h hR => y_mayV (o := 0) (sz := 15) rfl hR) (by decide) ⟨hv, [e1], rfl, rfl⟩ (fun v s2 hQ => ?_)
  obtain ⟨v2, g1, x, rfl⟩ := hQ
  refine l_run 6 rfl ?_
  refine l_sld rfl h1 he1 ?_
  refine l_call (l_m_later n) rfl (a := [.inr (.inr 67), .inl e1]) rfl rfl (fun h hR => y_mayV (o := 65) (sz := 85) rfl hR) (by decide) ⟨v2, [e1], rfl, rfl⟩ (fun v s3 hQ => ?_)
  obtain ⟨v3, g3, x3, rfl⟩ := hQ
  refine l_run 2 rfl ?_
  exact next n s3 v3 (jX_fr (jX_fr hg g1) g3)
theorem l_x_fits : l_Pub 2 23 1 4 := l_pubN (fun n => K_402) rfl (by decide +kernel) (by decide +kernel) (by decide)
theorem l_m_fits : l_Pub 67 205 1 7 := l_pubN (fun n => K_585) rfl (by decide +kernel) (by decide +kernel) (by decide)
theorem l_c1455 : l_Case 1455 := by
  intro xs n s i I hL hi hI hv hg next
  have h1 : (i + Int32.ofInt 1).toInt = ((I + 1 : Nat) : Int) := l_ix (j := 1) hi (by omega) (by omega)
  obtain ⟨e1, he1⟩ : ∃ e, xs[I + 1]? = some e := ⟨_, List.getElem?_eq_getElem (by omega)⟩
  refine l_run 5 rfl ?_
  refine l_sld rfl h1 he1 ?_
  refine l_call (l_x_fits n) rfl (a := [.inr (.inr 2), .inl e1]) rfl rfl (fun h hR => y_mayV (o := 0) (sz := 15) rfl hR) (by decide) ⟨hv, [e1], rfl, rfl⟩ (fun v s2 hQ => ?_)
  obtain ⟨v2, g1, x, rfl⟩ := hQ
  refine l_run 6 rfl ?_
  refine l_sld rfl h1 he1 ?_
  refine l_call (l_m_fits n) rfl (a := [.inr (.inr 67), .inl e1]) rfl rfl (fun h hR => y_mayV (o := 65) (sz := 85) rfl hR) (by decide) ⟨v2, [e1], rfl, rfl⟩ (fun v s3 hQ => ?_)
  obtain ⟨v3, g3, x3, rfl⟩ := hQ
  refine l_run 2 rfl ?_
  exact next n s3 v3 (jX_fr (jX_fr hg g1) g3)
theorem l_x_sure : l_Pub 2 73 2 4 := l_pubN (fun n => K_405) rfl (by decide +kernel) (by decide +kernel) (by decide)
theorem l_m_sure : l_Pub 67 305 2 7 := l_pubN (fun n => K_586) rfl (by decide +kernel) (by decide +kernel) (by decide)
theorem l_c1478 : l_Case 1478 := by
  intro xs n s i I hL hi hI hv hg next
  have h1 : (i + Int32.ofInt 1).toInt = ((I + 1 : Nat) : Int) := l_ix (j := 1) hi (by omega) (by omega)
  obtain ⟨e1, he1⟩ : ∃ e, xs[I + 1]? = some e := ⟨_, List.getElem?_eq_getElem (by omega)⟩
  have h2 : (i + Int32.ofInt 2).toInt = ((I + 2 : Nat) : Int) := l_ix (j := 2) hi (by omega) (by omega)
  obtain ⟨e2, he2⟩ : ∃ e, xs[I + 2]? = some e := ⟨_, List.getElem?_eq_getElem (by omega)⟩
  refine l_run 5 rfl ?_
  refine l_sld rfl h1 he1 ?_
  refine l_run 4 rfl ?_
  refine l_sld rfl h2 he2 ?_
  refine l_call (l_x_sure n) rfl (a := [.inr (.inr 2), .inl e1, .inl e2]) rfl rfl (fun h hR => y_mayV (o := 0) (sz := 15) rfl hR) (by decide) ⟨hv, [e1, e2], rfl, rfl⟩ (fun v s2 hQ => ?_)
  obtain ⟨v2, g1, x, rfl⟩ := hQ
  refine l_run 6 rfl ?_
  refine l_sld rfl h1 he1 ?_
  refine l_run 4 rfl ?_
  refine l_sld rfl h2 he2 ?_
  refine l_call (l_m_sure n) rfl (a := [.inr (.inr 67), .inl e1, .inl e2]) rfl rfl (fun h hR => y_mayV (o := 65) (sz := 85) rfl hR) (by decide) ⟨v2, [e1, e2], rfl, rfl⟩ (fun v s3 hQ => ?_)
  obtain ⟨v3, g3, x3, rfl⟩ := hQ
  refine l_run 2 rfl ?_
  exact next n s3 v3 (jX_fr (jX_fr hg g1) g3)
theorem l_x_ask : l_Pub 2 5 2 4 := l_pubN (fun n => K_407) rfl (by decide +kernel) (by decide +kernel) (by decide)
theorem l_m_ask : l_Pub 67 179 2 7 := l_pubN (fun n => K_589) rfl (by decide +kernel) (by decide +kernel) (by decide)
theorem l_c1511 : l_Case 1511 := by
  intro xs n s i I hL hi hI hv hg next
  have h1 : (i + Int32.ofInt 1).toInt = ((I + 1 : Nat) : Int) := l_ix (j := 1) hi (by omega) (by omega)
  obtain ⟨e1, he1⟩ : ∃ e, xs[I + 1]? = some e := ⟨_, List.getElem?_eq_getElem (by omega)⟩
  have h2 : (i + Int32.ofInt 2).toInt = ((I + 2 : Nat) : Int) := l_ix (j := 2) hi (by omega) (by omega)
  obtain ⟨e2, he2⟩ : ∃ e, xs[I + 2]? = some e := ⟨_, List.getElem?_eq_getElem (by omega)⟩
  refine l_run 5 rfl ?_
  refine l_sld rfl h1 he1 ?_
  refine l_run 4 rfl ?_
  refine l_sld rfl h2 he2 ?_
  refine l_call (l_x_ask n) rfl (a := [.inr (.inr 2), .inl e1, .inl e2]) rfl rfl (fun h hR => y_mayV (o := 0) (sz := 15) rfl hR) (by decide) ⟨hv, [e1, e2], rfl, rfl⟩ (fun v s2 hQ => ?_)
  obtain ⟨v2, g1, x, rfl⟩ := hQ
  refine l_run 6 rfl ?_
  refine l_sld rfl h1 he1 ?_
  refine l_run 4 rfl ?_
  refine l_sld rfl h2 he2 ?_
  refine l_call (l_m_ask n) rfl (a := [.inr (.inr 67), .inl e1, .inl e2]) rfl rfl (fun h hR => y_mayV (o := 65) (sz := 85) rfl hR) (by decide) ⟨v2, [e1, e2], rfl, rfl⟩ (fun v s3 hQ => ?_)
  obtain ⟨v3, g3, x3, rfl⟩ := hQ
  refine l_run 2 rfl ?_
  exact next n s3 v3 (jX_fr (jX_fr hg g1) g3)
theorem l_x_image : l_Pub 2 29 1 2 := l_pubH (K := y_bxK) (fun n => y_imageC (n := n) ) (fun n a s h hA => ⟨h.1, l_a1 hA⟩) (fun n a s v s2 hQ => hQ) (by decide +kernel)
theorem l_m_image : l_Pub 67 222 1 2 := l_pubH (K := y_imK) (fun n => y_imageM (n := n) ) (fun n a s h hA => ⟨h.1, l_a1 hA⟩) (fun n a s v s2 hQ => hQ) (by decide +kernel)
theorem l_c1544 : l_Case 1544 := by
  intro xs n s i I hL hi hI hv hg next
  have h1 : (i + Int32.ofInt 1).toInt = ((I + 1 : Nat) : Int) := l_ix (j := 1) hi (by omega) (by omega)
  obtain ⟨e1, he1⟩ : ∃ e, xs[I + 1]? = some e := ⟨_, List.getElem?_eq_getElem (by omega)⟩
  refine l_run 5 rfl ?_
  refine l_sld rfl h1 he1 ?_
  refine l_call (l_x_image n) rfl (a := [.inr (.inr 2), .inl e1]) rfl rfl (fun h hR => y_mayV (o := 0) (sz := 15) rfl hR) (by decide) ⟨hv, [e1], rfl, rfl⟩ (fun v s2 hQ => ?_)
  obtain ⟨v2, g1, x, rfl⟩ := hQ
  refine l_run 6 rfl ?_
  refine l_sld rfl h1 he1 ?_
  refine l_call (l_m_image n) rfl (a := [.inr (.inr 67), .inl e1]) rfl rfl (fun h hR => y_mayV (o := 65) (sz := 85) rfl hR) (by decide) ⟨v2, [e1], rfl, rfl⟩ (fun v s3 hQ => ?_)
  obtain ⟨v3, g3, x3, rfl⟩ := hQ
  refine l_run 2 rfl ?_
  exact next n s3 v3 (jX_fr (jX_fr hg g1) g3)
theorem l_x_back : l_Pub 2 7 1 3 := l_pubH (K := y_bkK) (fun n => y_backC (n := n) ) (fun n a s h hA => ⟨h.1, l_a1 hA⟩) (fun n a s v s2 hQ => hQ) (by decide +kernel)
theorem l_m_back : l_Pub 67 182 1 2 := l_pubH (K := y_unK) (fun n => y_backM (n := n) ) (fun n a s h hA => ⟨h.1, l_a1 hA⟩) (fun n a s v s2 hQ => hQ) (by decide +kernel)
theorem l_c1567 : l_Case 1567 := by
  intro xs n s i I hL hi hI hv hg next
  have h1 : (i + Int32.ofInt 1).toInt = ((I + 1 : Nat) : Int) := l_ix (j := 1) hi (by omega) (by omega)
  obtain ⟨e1, he1⟩ : ∃ e, xs[I + 1]? = some e := ⟨_, List.getElem?_eq_getElem (by omega)⟩
  refine l_run 5 rfl ?_
  refine l_sld rfl h1 he1 ?_
  refine l_call (l_x_back n) rfl (a := [.inr (.inr 2), .inl e1]) rfl rfl (fun h hR => y_mayV (o := 0) (sz := 15) rfl hR) (by decide) ⟨hv, [e1], rfl, rfl⟩ (fun v s2 hQ => ?_)
  obtain ⟨v2, g1, x, rfl⟩ := hQ
  refine l_run 6 rfl ?_
  refine l_sld rfl h1 he1 ?_
  refine l_call (l_m_back n) rfl (a := [.inr (.inr 67), .inl e1]) rfl rfl (fun h hR => y_mayV (o := 65) (sz := 85) rfl hR) (by decide) ⟨v2, [e1], rfl, rfl⟩ (fun v s3 hQ => ?_)
  obtain ⟨v3, g3, x3, rfl⟩ := hQ
  refine l_run 2 rfl ?_
  exact next n s3 v3 (jX_fr (jX_fr hg g1) g3)
theorem l_x_about : l_Pub 2 1 1 3 := l_pubC (fun n => K_224) (fun n => K_227) rfl rfl (by decide +kernel) (by decide +kernel) (by decide)
theorem l_m_about : l_Pub 67 174 1 3 := l_pubN (fun n => K_593) rfl (by decide +kernel) (by decide +kernel) (by decide)
theorem l_c1590 : l_Case 1590 := by
  intro xs n s i I hL hi hI hv hg next
  have h1 : (i + Int32.ofInt 1).toInt = ((I + 1 : Nat) : Int) := l_ix (j := 1) hi (by omega) (by omega)
  obtain ⟨e1, he1⟩ : ∃ e, xs[I + 1]? = some e := ⟨_, List.getElem?_eq_getElem (by omega)⟩
  refine l_run 5 rfl ?_
  refine l_sld rfl h1 he1 ?_
  refine l_call (l_x_about n) rfl (a := [.inr (.inr 2), .inl e1]) rfl rfl (fun h hR => y_mayV (o := 0) (sz := 15) rfl hR) (by decide) ⟨hv, [e1], rfl, rfl⟩ (fun v s2 hQ => ?_)
  obtain ⟨v2, g1, x, rfl⟩ := hQ
  refine l_run 6 rfl ?_
  refine l_sld rfl h1 he1 ?_
  refine l_call (l_m_about n) rfl (a := [.inr (.inr 67), .inl e1]) rfl rfl (fun h hR => y_mayV (o := 65) (sz := 85) rfl hR) (by decide) ⟨v2, [e1], rfl, rfl⟩ (fun v s3 hQ => ?_)
  obtain ⟨v3, g3, x3, rfl⟩ := hQ
  refine l_run 2 rfl ?_
  exact next n s3 v3 (jX_fr (jX_fr hg g1) g3)
theorem l_cases : ∀ v tg : Nat, l_tg[v]? = some tg → l_Case tg := by
  intro v tg h
  match v, h with
  | 0, h => cases h; exact l_cFeed
  | 1, h => cases h; exact l_cEnd
  | 2, h => cases h; exact l_c362
  | 3, h => cases h; exact l_c375
  | 4, h => cases h; exact l_c398
  | 5, h => cases h; exact l_c431
  | 6, h => cases h; exact l_c464
  | 7, h => cases h; exact l_c487
  | 8, h => cases h; exact l_c520
  | 9, h => cases h; exact l_c543
  | 10, h => cases h; exact l_c556
  | 11, h => cases h; exact l_c589
  | 12, h => cases h; exact l_c612
  | 13, h => cases h; exact l_c635
  | 14, h => cases h; exact l_c658
  | 15, h => cases h; exact l_c681
  | 16, h => cases h; exact l_c704
  | 17, h => cases h; exact l_c717
  | 18, h => cases h; exact l_c730
  | 19, h => cases h; exact l_c773
  | 20, h => cases h; exact l_c796
  | 21, h => cases h; exact l_c819
  | 22, h => cases h; exact l_c832
  | 23, h => cases h; exact l_c845
  | 24, h => cases h; exact l_c858
  | 25, h => cases h; exact l_c871
  | 26, h => cases h; exact l_c884
  | 27, h => cases h; exact l_c897
  | 28, h => cases h; exact l_c920
  | 29, h => cases h; exact l_c943
  | 30, h => cases h; exact l_c966
  | 31, h => cases h; exact l_c989
  | 32, h => cases h; exact l_c1012
  | 33, h => cases h; exact l_c1025
  | 34, h => cases h; exact l_c1058
  | 35, h => cases h; exact l_c1081
  | 36, h => cases h; exact l_c1114
  | 37, h => cases h; exact l_c1127
  | 38, h => cases h; exact l_c1150
  | 39, h => cases h; exact l_c1183
  | 40, h => cases h; exact l_c1196
  | 41, h => cases h; exact l_c1219
  | 42, h => cases h; exact l_c1232
  | 43, h => cases h; exact l_c1245
  | 44, h => cases h; exact l_c1258
  | 45, h => cases h; exact l_c1271
  | 46, h => cases h; exact l_c1294
  | 47, h => cases h; exact l_c1327
  | 48, h => cases h; exact l_c1350
  | 49, h => cases h; exact l_c1409
  | 50, h => cases h; exact l_c1432
  | 51, h => cases h; exact l_c1455
  | 52, h => cases h; exact l_c1478
  | 53, h => cases h; exact l_c1511
  | 54, h => cases h; exact l_c1544
  | 55, h => cases h; exact l_c1567
  | 56, h => cases h; exact l_c1590
  | v + 57, h => simp [l_tg] at h
