/-! THE LAW'S CASES (printed by wip/gen/genlaw.py) -/
theorem lz_x_quay (n : Nat) : y_C g_sh g_ts 57 73 (fun a s => w_T (y_Vn n) g_sh (y_mk g_sh s) ∧ y_Td n s ∧ y_Un s ∧ a = [.inr (.inr 2)]) (fun _ s v s2 => z3_Q (s.2.2 0 3) s v s2) := z3_quayC (n := n) (⟨(by decide +kernel), (by decide +kernel), K_95⟩) (⟨(by decide +kernel), (by decide +kernel), K_177⟩) (fun n => ⟨(by decide +kernel), ⟨(by decide +kernel), K_115⟩⟩) (fun n => ⟨(by decide +kernel), ⟨(by decide +kernel), K_188⟩⟩) (fun _ => rfl) (fun _ => rfl)
theorem lz_m_quay (n : Nat) : y_C g_sh g_ts 275 9 (fun a s => w_T (y_Vn n) g_sh (y_mk g_sh s) ∧ a = [.inr (.inr 67)]) (fun _ s v s2 => y_qyQ n s v s2) := y_quayM (n := n) ((by unfold y_RE; exact ⟨K_416, K_440, K_444, K_1, K_439, K_451, K_419, K_3, K_418, K_427, K_421, K_430, K_424, K_433⟩)) (⟨(by decide +kernel), k_459⟩)
theorem l_c362 : l_Case 362 := by
  intro xs n s i I hL hi hI hv hg next
  refine l_run 1 rfl ?_
  refine l_call (lz_x_quay n) rfl (a := [.inr (.inr 2)]) rfl rfl (fun h hR => y_mayV (o := 0) (sz := 15) rfl hR) (by decide) ⟨hv.1, hv.2.1, hv.2.2, rfl⟩ (fun v s2 hQ => ?_)
  have hQ0 := hQ
  obtain ⟨⟨m, t2, d2, u2, fq, z2, x, rfl⟩, hz⟩ := hQ
  have h2 : ∀ o k, 65 ≤ o → zT o k → s2.1 o k = s.1 o k := fun o k ho h => by
    have hk : o < 1000 ∧ k < 4096 := by
      obtain ⟨⟨q, hs, hk⟩, -⟩ := h
      refine ⟨?_, Nat.lt_of_lt_of_le hk (y_shok_l g_shok o q hs).2⟩
      rcases Nat.lt_or_ge o 1000 with p | p
      · exact p
      · rw [List.getElem?_eq_none (Nat.le_trans (show g_sh.length ≤ 1000 by decide) p)] at hs
        cases hs
    refine zT_fr h fq (l_ou (r := (266304, 99999999)) (by decide +kernel) ?_ ?_)
    · unfold w_key
      show 266304 ≤ _
      omega
    · unfold w_key
      show _ ≤ 99999999
      omega
  refine l_run 2 rfl ?_
  refine l_call (y_C.u (by decide) (lz_m_quay m)) rfl (a := [.inr (.inr 67)]) rfl rfl (fun h hR => y_mayV (o := 65) (sz := 85) rfl hR) (by decide) ⟨t2, rfl⟩ (fun v s3 hQ => ?_)
  obtain ⟨⟨⟨t3, f3, x3, rfl⟩, z3⟩, hm⟩ := hQ
  have h3 : ∀ o k, o ≤ 64 → zT o k → s3.1 o k = s2.1 o k := fun o k ho h => by
    have hk : k < 4096 := by
      obtain ⟨⟨q, hs, hk⟩, -⟩ := h
      exact Nat.lt_of_lt_of_le hk (y_shok_l g_shok o q hs).2
    refine zT_fr h f3 (l_ou (r := (0, 266303)) (by decide +kernel) (Nat.zero_le _) ?_)
    unfold w_key
    show _ ≤ 266303
    omega
  have e11 : s3.1 1 1 = 0 := by
    have e : s3.1 1 1 = s2.1 1 1 := f3.at (o := 1) (k := 1) (A := w_n 0 1600 0) rfl rfl (by decide +kernel)
    exact Int32.toInt_inj.mp (by rw [e, z2]; rfl)
  have e651 : s3.1 65 1 = 0 := Int32.toInt_inj.mp (by rw [z3]; rfl)
  obtain ⟨w1, w2⟩ := jS_quay hv.2.2 hg hQ0 h2 h3 (y_fr66 f3 (by decide +kernel)) e11 e651 hm
  refine l_run 2 rfl ?_
  refine next m s3 ⟨t3, y_Td_fr f3 (by decide +kernel) (by decide +kernel) (by decide +kernel) d2, ?_⟩ w2
  unfold y_Un
  rw [y_fr66 f3 (by decide +kernel), y_fr67 f3 (by decide +kernel)]
  exact u2
theorem l_x_fault : l_Pub 2 20 1 1 := l_pubN (fun n => K_190) rfl (by decide +kernel) (by decide +kernel) (by decide)
theorem l_m_fault : l_Pub 67 201 1 1 := l_pubN (fun n => K_463) rfl (by decide +kernel) (by decide +kernel) (by decide)
theorem l_c375 : l_Case 375 := by
  intro xs n s i I hL hi hI hv hg next
  have h1 : (i + Int32.ofInt 1).toInt = ((I + 1 : Nat) : Int) := l_ix (j := 1) hi (by omega) (by omega)
  obtain ⟨e1, he1⟩ : ∃ e, xs[I + 1]? = some e := ⟨_, List.getElem?_eq_getElem (by omega)⟩
  refine l_run 5 rfl ?_
  refine l_sld rfl h1 he1 ?_
  refine l_call (l_x_fault n) rfl (a := [.inr (.inr 2), .inl e1]) rfl rfl (fun h hR => y_mayV (o := 0) (sz := 15) rfl hR) (by decide) ⟨hv, [e1], rfl, rfl⟩ (fun v s2 hQ => ?_)
  obtain ⟨v2, g1, x, rfl⟩ := hQ
  refine l_run 6 rfl ?_
  refine l_sld rfl h1 he1 ?_
  refine l_call (l_m_fault n) rfl (a := [.inr (.inr 67), .inl e1]) rfl rfl (fun h hR => y_mayV (o := 65) (sz := 85) rfl hR) (by decide) ⟨v2, [e1], rfl, rfl⟩ (fun v s3 hQ => ?_)
  obtain ⟨v3, g3, x3, rfl⟩ := hQ
  refine l_run 2 rfl ?_
  exact next n s3 v3 (jS_G v2.2.2 (jS_G hv.2.2 hg g1) g3)
theorem l_x_ship : l_Pub 2 67 2 5 := l_pubC (fun n => K_194) (fun n => K_198) rfl rfl (by decide +kernel) (by decide +kernel) (by decide)
theorem l_m_ship : l_Pub 67 297 2 4 := l_pubN (fun n => K_470) rfl (by decide +kernel) (by decide +kernel) (by decide)
theorem l_c398 : l_Case 398 := by
  intro xs n s i I hL hi hI hv hg next
  have h1 : (i + Int32.ofInt 1).toInt = ((I + 1 : Nat) : Int) := l_ix (j := 1) hi (by omega) (by omega)
  obtain ⟨e1, he1⟩ : ∃ e, xs[I + 1]? = some e := ⟨_, List.getElem?_eq_getElem (by omega)⟩
  have h2 : (i + Int32.ofInt 2).toInt = ((I + 2 : Nat) : Int) := l_ix (j := 2) hi (by omega) (by omega)
  obtain ⟨e2, he2⟩ : ∃ e, xs[I + 2]? = some e := ⟨_, List.getElem?_eq_getElem (by omega)⟩
  refine l_run 5 rfl ?_
  refine l_sld rfl h1 he1 ?_
  refine l_run 4 rfl ?_
  refine l_sld rfl h2 he2 ?_
  refine l_call (y_C.u (by decide) (l_x_ship n)) rfl (a := [.inr (.inr 2), .inl e1, .inl e2]) rfl rfl (fun h hR => y_mayV (o := 0) (sz := 15) rfl hR) (by decide) ⟨hv, [e1, e2], rfl, rfl⟩ (fun v s2 hQ => ?_)
  obtain ⟨⟨v2, g1, x, rfl⟩, tx, htx, -⟩ := hQ
  refine l_run 5 rfl ?_
  refine l_sld rfl h1 he1 ?_
  refine l_run 4 rfl ?_
  refine l_sld rfl h2 he2 ?_
  refine l_call (y_C.u (by decide) (l_m_ship n)) rfl (a := [.inr (.inr 67), .inl e1, .inl e2]) rfl rfl (fun h hR => y_mayV (o := 65) (sz := 85) rfl hR) (by decide) ⟨v2, [e1, e2], rfl, rfl⟩ (fun v s3 hQ => ?_)
  obtain ⟨⟨v3, g3, x3, rfl⟩, tm, htm, -⟩ := hQ
  obtain ⟨_, _, _, _, _, _, J⟩ := jV_of hv hg g1
  obtain ⟨y, s4, t4, q1, q2⟩ := ship_alike (y_Un_T hv.2.2).1 J e1 e2
  have ex : x = x3 := a_eq htx htm q1 q2
  subst ex
  refine l_ic rfl (fun _ => next n s3 v3 (jS_G v2.2.2 (jS_G hv.2.2 hg g1) g3)) (fun h => absurd rfl h)
theorem l_x_pair : l_Pub 2 54 2 3 := l_pubC (fun n => K_203) (fun n => K_205) rfl rfl (by decide +kernel) (by decide +kernel) (by decide)
theorem l_m_pair : l_Pub 67 271 2 3 := l_pubN (fun n => K_476) rfl (by decide +kernel) (by decide +kernel) (by decide)
theorem l_c431 : l_Case 431 := by
  intro xs n s i I hL hi hI hv hg next
  have h1 : (i + Int32.ofInt 1).toInt = ((I + 1 : Nat) : Int) := l_ix (j := 1) hi (by omega) (by omega)
  obtain ⟨e1, he1⟩ : ∃ e, xs[I + 1]? = some e := ⟨_, List.getElem?_eq_getElem (by omega)⟩
  have h2 : (i + Int32.ofInt 2).toInt = ((I + 2 : Nat) : Int) := l_ix (j := 2) hi (by omega) (by omega)
  obtain ⟨e2, he2⟩ : ∃ e, xs[I + 2]? = some e := ⟨_, List.getElem?_eq_getElem (by omega)⟩
  refine l_run 5 rfl ?_
  refine l_sld rfl h1 he1 ?_
  refine l_run 4 rfl ?_
  refine l_sld rfl h2 he2 ?_
  refine l_call (l_x_pair n) rfl (a := [.inr (.inr 2), .inl e1, .inl e2]) rfl rfl (fun h hR => y_mayV (o := 0) (sz := 15) rfl hR) (by decide) ⟨hv, [e1, e2], rfl, rfl⟩ (fun v s2 hQ => ?_)
  obtain ⟨v2, g1, x, rfl⟩ := hQ
  refine l_run 6 rfl ?_
  refine l_sld rfl h1 he1 ?_
  refine l_run 4 rfl ?_
  refine l_sld rfl h2 he2 ?_
  refine l_call (l_m_pair n) rfl (a := [.inr (.inr 67), .inl e1, .inl e2]) rfl rfl (fun h hR => y_mayV (o := 65) (sz := 85) rfl hR) (by decide) ⟨v2, [e1, e2], rfl, rfl⟩ (fun v s3 hQ => ?_)
  obtain ⟨v3, g3, x3, rfl⟩ := hQ
  refine l_run 2 rfl ?_
  exact next n s3 v3 (jS_G v2.2.2 (jS_G hv.2.2 hg g1) g3)
theorem l_x_queue : l_Pub 2 58 1 1 := l_pubN (fun n => K_206) rfl (by decide +kernel) (by decide +kernel) (by decide)
theorem l_m_queue : l_Pub 67 276 1 2 := l_pubN (fun n => K_477) rfl (by decide +kernel) (by decide +kernel) (by decide)
theorem l_c464 : l_Case 464 := by
  intro xs n s i I hL hi hI hv hg next
  have h1 : (i + Int32.ofInt 1).toInt = ((I + 1 : Nat) : Int) := l_ix (j := 1) hi (by omega) (by omega)
  obtain ⟨e1, he1⟩ : ∃ e, xs[I + 1]? = some e := ⟨_, List.getElem?_eq_getElem (by omega)⟩
  refine l_run 5 rfl ?_
  refine l_sld rfl h1 he1 ?_
  refine l_call (l_x_queue n) rfl (a := [.inr (.inr 2), .inl e1]) rfl rfl (fun h hR => y_mayV (o := 0) (sz := 15) rfl hR) (by decide) ⟨hv, [e1], rfl, rfl⟩ (fun v s2 hQ => ?_)
  obtain ⟨v2, g1, x, rfl⟩ := hQ
  refine l_run 6 rfl ?_
  refine l_sld rfl h1 he1 ?_
  refine l_call (l_m_queue n) rfl (a := [.inr (.inr 67), .inl e1]) rfl rfl (fun h hR => y_mayV (o := 65) (sz := 85) rfl hR) (by decide) ⟨v2, [e1], rfl, rfl⟩ (fun v s3 hQ => ?_)
  obtain ⟨v3, g3, x3, rfl⟩ := hQ
  refine l_run 2 rfl ?_
  exact next n s3 v3 (jS_G v2.2.2 (jS_G hv.2.2 hg g1) g3)
theorem l_x_rail : l_Pub 2 59 2 1 := l_pubC (fun n => K_207) (fun n => K_208) rfl rfl (by decide +kernel) (by decide +kernel) (by decide)
theorem l_m_rail : l_Pub 67 279 2 2 := l_pubN (fun n => K_479) rfl (by decide +kernel) (by decide +kernel) (by decide)
theorem l_c487 : l_Case 487 := by
  intro xs n s i I hL hi hI hv hg next
  have h1 : (i + Int32.ofInt 1).toInt = ((I + 1 : Nat) : Int) := l_ix (j := 1) hi (by omega) (by omega)
  obtain ⟨e1, he1⟩ : ∃ e, xs[I + 1]? = some e := ⟨_, List.getElem?_eq_getElem (by omega)⟩
  have h2 : (i + Int32.ofInt 2).toInt = ((I + 2 : Nat) : Int) := l_ix (j := 2) hi (by omega) (by omega)
  obtain ⟨e2, he2⟩ : ∃ e, xs[I + 2]? = some e := ⟨_, List.getElem?_eq_getElem (by omega)⟩
  refine l_run 5 rfl ?_
  refine l_sld rfl h1 he1 ?_
  refine l_run 4 rfl ?_
  refine l_sld rfl h2 he2 ?_
  refine l_call (l_x_rail n) rfl (a := [.inr (.inr 2), .inl e1, .inl e2]) rfl rfl (fun h hR => y_mayV (o := 0) (sz := 15) rfl hR) (by decide) ⟨hv, [e1, e2], rfl, rfl⟩ (fun v s2 hQ => ?_)
  obtain ⟨v2, g1, x, rfl⟩ := hQ
  refine l_run 6 rfl ?_
  refine l_sld rfl h1 he1 ?_
  refine l_run 4 rfl ?_
  refine l_sld rfl h2 he2 ?_
  refine l_call (l_m_rail n) rfl (a := [.inr (.inr 67), .inl e1, .inl e2]) rfl rfl (fun h hR => y_mayV (o := 65) (sz := 85) rfl hR) (by decide) ⟨v2, [e1, e2], rfl, rfl⟩ (fun v s3 hQ => ?_)
  obtain ⟨v3, g3, x3, rfl⟩ := hQ
  refine l_run 2 rfl ?_
  exact next n s3 v3 (jS_G v2.2.2 (jS_G hv.2.2 hg g1) g3)
theorem l_x_length : l_Pub 2 41 1 7 := l_pubC (fun n => K_212) (fun n => K_216) rfl rfl (by decide +kernel) (by decide +kernel) (by decide)
theorem l_m_length : l_Pub 67 248 1 5 := l_pubN (fun n => K_483) rfl (by decide +kernel) (by decide +kernel) (by decide)
theorem l_c520 : l_Case 520 := by
  intro xs n s i I hL hi hI hv hg next
  have h1 : (i + Int32.ofInt 1).toInt = ((I + 1 : Nat) : Int) := l_ix (j := 1) hi (by omega) (by omega)
  obtain ⟨e1, he1⟩ : ∃ e, xs[I + 1]? = some e := ⟨_, List.getElem?_eq_getElem (by omega)⟩
  refine l_run 5 rfl ?_
  refine l_sld rfl h1 he1 ?_
  refine l_call (l_x_length n) rfl (a := [.inr (.inr 2), .inl e1]) rfl rfl (fun h hR => y_mayV (o := 0) (sz := 15) rfl hR) (by decide) ⟨hv, [e1], rfl, rfl⟩ (fun v s2 hQ => ?_)
  obtain ⟨v2, g1, x, rfl⟩ := hQ
  refine l_run 6 rfl ?_
  refine l_sld rfl h1 he1 ?_
  refine l_call (l_m_length n) rfl (a := [.inr (.inr 67), .inl e1]) rfl rfl (fun h hR => y_mayV (o := 65) (sz := 85) rfl hR) (by decide) ⟨v2, [e1], rfl, rfl⟩ (fun v s3 hQ => ?_)
  obtain ⟨v3, g3, x3, rfl⟩ := hQ
  refine l_run 2 rfl ?_
  exact next n s3 v3 (jS_G v2.2.2 (jS_G hv.2.2 hg g1) g3)
theorem l_x_minute : ∀ n, y_C g_sh g_ts 48 21 (fun a s => LInv n s ∧ l_A 2 0 a) (fun _ s v s2 => w_T (y_Vn n) g_sh (y_mk g_sh s2) ∧ y_fr g_sh (e_239.2.2.2.1 ++ e_244.2.2.2.1) s s2 ∧ ∃ x : Int32, v = some (.inl x)) := l_frCP (KK := (e_239.2.2.2.1 ++ e_244.2.2.2.1)) (fun n => K_239) (fun n => K_244) (l_stA rfl) (l_stA rfl) (by decide +kernel) (by decide +kernel) (by decide)
theorem l_m_minute : ∀ n, y_C g_sh g_ts 260 6 (fun a s => LInv n s ∧ l_A 67 0 a) (fun _ s v s2 => w_T (y_Vn n) g_sh (y_mk g_sh s2) ∧ y_fr g_sh y_miK s s2 ∧ ∃ x : Int32, v = some (.inl x)) := l_frH (K := y_miK) (fun n => y_minuteM (n := n) (⟨(by decide +kernel), K_459⟩) (K_468) (K_481) (⟨K_504, K_503, K_502⟩)) (fun n a s h hA => ⟨h.1, l_a0 hA⟩) (fun n a s v s2 hQ => hQ)
theorem l_c543 : l_Case 543 := by
  intro xs n s i I hL hi hI hv hg next
  refine l_run 1 rfl ?_
  refine l_call (y_C.u (by decide) (l_x_minute n)) rfl (a := [.inr (.inr 2)]) rfl rfl (fun h hR => y_mayV (o := 0) (sz := 15) rfl hR) (by decide) ⟨hv, [], rfl, rfl⟩ (fun v s2 hQ => ?_)
  obtain ⟨⟨w2, f2, x, rfl⟩, ht2⟩ := hQ
  have v2 := (l_keepA (by decide +kernel) hv w2 f2).1
  refine l_run 2 rfl ?_
  refine l_call (y_C.u (by decide) (l_m_minute n)) rfl (a := [.inr (.inr 67)]) rfl rfl (fun h hR => y_mayV (o := 65) (sz := 85) rfl hR) (by decide) ⟨v2, [], rfl, rfl⟩ (fun v s3 hQ => ?_)
  obtain ⟨⟨w3, f3, x3, rfl⟩, ht3⟩ := hQ
  have v3 := (l_keepA (by decide +kernel) v2 w3 f3).1
  obtain ⟨-, jg⟩ := jS_act hv v2 hg w2 f2 (by decide +kernel) w3 f3 (by decide +kernel) ht2 ht3 x_minute
  refine l_run 2 rfl ?_
  exact next n s3 v3 jg
theorem l_x_change : ∀ n, y_C g_sh g_ts 10 8 (fun a s => LInv n s ∧ l_A 2 2 a) (fun a s v s2 => (w_T (y_Vn n) g_sh (y_mk g_sh s2) ∧ y_fr g_sh y_chK s s2 ∧ ∃ x : Int32, v = some (.inl x)) ∧ chC a s s2) := l_frX (K := y_chK) (fun n => y_changeC2 (n := n) (⟨⟨(by decide +kernel), (by decide +kernel)⟩, K_247⟩) (⟨⟨(by decide +kernel), (by decide +kernel)⟩, K_250⟩) (by decide +kernel) (by decide +kernel)) (fun n a s h hA => ⟨h.1, h.2.1, l_a2 hA⟩)
theorem l_m_change : ∀ n, y_C g_sh g_ts 185 9 (fun a s => LInv n s ∧ l_A 67 2 a) (fun a s v s2 => (w_T (y_Vn n) g_sh (y_mk g_sh s2) ∧ y_fr g_sh y_miK s s2 ∧ ∃ x : Int32, v = some (.inl x)) ∧ chM a s s2) := l_frX (K := y_miK) (fun n => y_changeM2 (n := n) (⟨(by decide +kernel), K_459⟩) (⟨(by decide +kernel), K_526⟩)) (fun n a s h hA => ⟨h.1, l_a2 hA⟩)
theorem l_c556 : l_Case 556 := by
  intro xs n s i I hL hi hI hv hg next
  have h1 : (i + Int32.ofInt 1).toInt = ((I + 1 : Nat) : Int) := l_ix (j := 1) hi (by omega) (by omega)
  obtain ⟨e1, he1⟩ : ∃ e, xs[I + 1]? = some e := ⟨_, List.getElem?_eq_getElem (by omega)⟩
  have h2 : (i + Int32.ofInt 2).toInt = ((I + 2 : Nat) : Int) := l_ix (j := 2) hi (by omega) (by omega)
  obtain ⟨e2, he2⟩ : ∃ e, xs[I + 2]? = some e := ⟨_, List.getElem?_eq_getElem (by omega)⟩
  refine l_run 5 rfl ?_
  refine l_sld rfl h1 he1 ?_
  refine l_run 4 rfl ?_
  refine l_sld rfl h2 he2 ?_
  refine l_call (l_x_change n) rfl (a := [.inr (.inr 2), .inl e1, .inl e2]) rfl rfl (fun h hR => y_mayV (o := 0) (sz := 15) rfl hR) (by decide) ⟨hv, [e1, e2], rfl, rfl⟩ (fun v s2 hQ => ?_)
  obtain ⟨⟨w2, f2, x, rfl⟩, ht2⟩ := hQ
  have v2 := (l_keepA (by decide +kernel) hv w2 f2).1
  refine l_run 6 rfl ?_
  refine l_sld rfl h1 he1 ?_
  refine l_run 4 rfl ?_
  refine l_sld rfl h2 he2 ?_
  refine l_call (l_m_change n) rfl (a := [.inr (.inr 67), .inl e1, .inl e2]) rfl rfl (fun h hR => y_mayV (o := 65) (sz := 85) rfl hR) (by decide) ⟨v2, [e1, e2], rfl, rfl⟩ (fun v s3 hQ => ?_)
  obtain ⟨⟨w3, f3, x3, rfl⟩, ht3⟩ := hQ
  have v3 := (l_keepA (by decide +kernel) v2 w3 f3).1
  obtain ⟨-, jg⟩ := (⟨trivial, jS_change hv v2 hg w2 f2 (by decide +kernel) w3 f3 (by decide +kernel) ht2 ht3⟩ : True ∧ jS s3)
  refine l_run 2 rfl ?_
  exact next n s3 v3 jg
theorem l_x_shorten : ∀ n, y_C g_sh g_ts 68 22 (fun a s => LInv n s ∧ l_A 2 1 a) (fun _ s v s2 => w_T (y_Vn n) g_sh (y_mk g_sh s2) ∧ y_fr g_sh (e_253.2.2.2.1 ++ e_255.2.2.2.1) s s2 ∧ ∃ x : Int32, v = some (.inl x)) := l_frCP (KK := (e_253.2.2.2.1 ++ e_255.2.2.2.1)) (fun n => K_253) (fun n => K_255) (l_stA rfl) (l_stA rfl) (by decide +kernel) (by decide +kernel) (by decide)
theorem l_m_shorten : ∀ n, y_C g_sh g_ts 298 6 (fun a s => LInv n s ∧ l_A 67 1 a) (fun _ s v s2 => w_T (y_Vn n) g_sh (y_mk g_sh s2) ∧ y_fr g_sh (e_488.2.2.2.1) s s2 ∧ ∃ x : Int32, v = some (.inl x)) := l_frNP (KK := (e_488.2.2.2.1)) (fun n => K_488) (l_stA rfl) (by decide +kernel) (by decide +kernel) (by decide)
theorem l_c589 : l_Case 589 := by
  intro xs n s i I hL hi hI hv hg next
  have h1 : (i + Int32.ofInt 1).toInt = ((I + 1 : Nat) : Int) := l_ix (j := 1) hi (by omega) (by omega)
  obtain ⟨e1, he1⟩ : ∃ e, xs[I + 1]? = some e := ⟨_, List.getElem?_eq_getElem (by omega)⟩
  refine l_run 5 rfl ?_
  refine l_sld rfl h1 he1 ?_
  refine l_call (y_C.u (by decide) (l_x_shorten n)) rfl (a := [.inr (.inr 2), .inl e1]) rfl rfl (fun h hR => y_mayV (o := 0) (sz := 15) rfl hR) (by decide) ⟨hv, [e1], rfl, rfl⟩ (fun v s2 hQ => ?_)
  obtain ⟨⟨w2, f2, x, rfl⟩, ht2⟩ := hQ
  have v2 := (l_keepA (by decide +kernel) hv w2 f2).1
  refine l_run 6 rfl ?_
  refine l_sld rfl h1 he1 ?_
  refine l_call (y_C.u (by decide) (l_m_shorten n)) rfl (a := [.inr (.inr 67), .inl e1]) rfl rfl (fun h hR => y_mayV (o := 65) (sz := 85) rfl hR) (by decide) ⟨v2, [e1], rfl, rfl⟩ (fun v s3 hQ => ?_)
  obtain ⟨⟨w3, f3, x3, rfl⟩, ht3⟩ := hQ
  have v3 := (l_keepA (by decide +kernel) v2 w3 f3).1
  obtain ⟨-, jg⟩ := jS_act hv v2 hg w2 f2 (by decide +kernel) w3 f3 (by decide +kernel) ht2 ht3 (x_shorten e1)
  refine l_run 2 rfl ?_
  exact next n s3 v3 jg
theorem l_x_insist : ∀ n, y_C g_sh g_ts 31 22 (fun a s => LInv n s ∧ l_A 2 1 a) (fun _ s v s2 => w_T (y_Vn n) g_sh (y_mk g_sh s2) ∧ y_fr g_sh (e_256.2.2.2.1 ++ e_257.2.2.2.1) s s2 ∧ ∃ x : Int32, v = some (.inl x)) := l_frCP (KK := (e_256.2.2.2.1 ++ e_257.2.2.2.1)) (fun n => K_256) (fun n => K_257) (l_stA rfl) (l_stA rfl) (by decide +kernel) (by decide +kernel) (by decide)
theorem l_m_insist : ∀ n, y_C g_sh g_ts 223 6 (fun a s => LInv n s ∧ l_A 67 1 a) (fun _ s v s2 => w_T (y_Vn n) g_sh (y_mk g_sh s2) ∧ y_fr g_sh (e_489.2.2.2.1) s s2 ∧ ∃ x : Int32, v = some (.inl x)) := l_frNP (KK := (e_489.2.2.2.1)) (fun n => K_489) (l_stA rfl) (by decide +kernel) (by decide +kernel) (by decide)
theorem l_c612 : l_Case 612 := by
  intro xs n s i I hL hi hI hv hg next
  have h1 : (i + Int32.ofInt 1).toInt = ((I + 1 : Nat) : Int) := l_ix (j := 1) hi (by omega) (by omega)
  obtain ⟨e1, he1⟩ : ∃ e, xs[I + 1]? = some e := ⟨_, List.getElem?_eq_getElem (by omega)⟩
  refine l_run 5 rfl ?_
  refine l_sld rfl h1 he1 ?_
  refine l_call (y_C.u (by decide) (l_x_insist n)) rfl (a := [.inr (.inr 2), .inl e1]) rfl rfl (fun h hR => y_mayV (o := 0) (sz := 15) rfl hR) (by decide) ⟨hv, [e1], rfl, rfl⟩ (fun v s2 hQ => ?_)
  obtain ⟨⟨w2, f2, x, rfl⟩, ht2⟩ := hQ
  have v2 := (l_keepA (by decide +kernel) hv w2 f2).1
  refine l_run 6 rfl ?_
  refine l_sld rfl h1 he1 ?_
  refine l_call (y_C.u (by decide) (l_m_insist n)) rfl (a := [.inr (.inr 67), .inl e1]) rfl rfl (fun h hR => y_mayV (o := 65) (sz := 85) rfl hR) (by decide) ⟨v2, [e1], rfl, rfl⟩ (fun v s3 hQ => ?_)
  obtain ⟨⟨w3, f3, x3, rfl⟩, ht3⟩ := hQ
  have v3 := (l_keepA (by decide +kernel) v2 w3 f3).1
  obtain ⟨-, jg⟩ := jS_act hv v2 hg w2 f2 (by decide +kernel) w3 f3 (by decide +kernel) ht2 ht3 (x_insist e1)
  refine l_run 2 rfl ?_
  exact next n s3 v3 jg
theorem l_x_giveUp : ∀ n, y_C g_sh g_ts 25 3 (fun a s => LInv n s ∧ l_A 2 1 a) (fun _ s v s2 => w_T (y_Vn n) g_sh (y_mk g_sh s2) ∧ y_fr g_sh y_guK s s2 ∧ ∃ x : Int32, v = some (.inl x)) := l_frH (K := y_guK) (fun n => y_giveUpC (n := n) ) (fun n a s h hA => ⟨h.1, h.2.1, l_a1 hA⟩) (fun n a s v s2 hQ => hQ)
theorem l_m_giveUp : ∀ n, y_C g_sh g_ts 211 4 (fun a s => LInv n s ∧ l_A 67 1 a) (fun _ s v s2 => w_T (y_Vn n) g_sh (y_mk g_sh s2) ∧ y_fr g_sh y_miK s s2 ∧ ∃ x : Int32, v = some (.inl x)) := l_frH (K := y_miK) (fun n => y_giveUpM (n := n) (⟨(by decide +kernel), K_459⟩)) (fun n a s h hA => ⟨h.1, l_a1 hA⟩) (fun n a s v s2 hQ => hQ)
theorem l_c635 : l_Case 635 := by
  intro xs n s i I hL hi hI hv hg next
  have h1 : (i + Int32.ofInt 1).toInt = ((I + 1 : Nat) : Int) := l_ix (j := 1) hi (by omega) (by omega)
  obtain ⟨e1, he1⟩ : ∃ e, xs[I + 1]? = some e := ⟨_, List.getElem?_eq_getElem (by omega)⟩
  refine l_run 5 rfl ?_
  refine l_sld rfl h1 he1 ?_
  refine l_call (y_C.u (by decide) (l_x_giveUp n)) rfl (a := [.inr (.inr 2), .inl e1]) rfl rfl (fun h hR => y_mayV (o := 0) (sz := 15) rfl hR) (by decide) ⟨hv, [e1], rfl, rfl⟩ (fun v s2 hQ => ?_)
  obtain ⟨⟨w2, f2, x, rfl⟩, ht2⟩ := hQ
  have v2 := (l_keepA (by decide +kernel) hv w2 f2).1
  refine l_run 6 rfl ?_
  refine l_sld rfl h1 he1 ?_
  refine l_call (y_C.u (by decide) (l_m_giveUp n)) rfl (a := [.inr (.inr 67), .inl e1]) rfl rfl (fun h hR => y_mayV (o := 65) (sz := 85) rfl hR) (by decide) ⟨v2, [e1], rfl, rfl⟩ (fun v s3 hQ => ?_)
  obtain ⟨⟨w3, f3, x3, rfl⟩, ht3⟩ := hQ
  have v3 := (l_keepA (by decide +kernel) v2 w3 f3).1
  obtain ⟨-, jg⟩ := jS_act hv v2 hg w2 f2 (by decide +kernel) w3 f3 (by decide +kernel) ht2 ht3 (x_giveUp e1)
  refine l_run 2 rfl ?_
  exact next n s3 v3 jg
theorem l_x_join : ∀ n, y_C g_sh g_ts 36 5 (fun a s => LInv n s ∧ l_A 2 1 a) (fun _ s v s2 => w_T (y_Vn n) g_sh (y_mk g_sh s2) ∧ y_fr g_sh y_guK s s2 ∧ ∃ x : Int32, v = some (.inl x)) := l_frH (K := y_guK) (fun n => y_joinC (n := n) (K_192) (K_196)) (fun n a s h hA => ⟨h.1, h.2.1, l_a1 hA⟩) (fun n a s v s2 hQ => hQ)
theorem l_m_join : ∀ n, y_C g_sh g_ts 239 4 (fun a s => LInv n s ∧ l_A 67 1 a) (fun _ s v s2 => w_T (y_Vn n) g_sh (y_mk g_sh s2) ∧ y_fr g_sh y_miK s s2 ∧ ∃ x : Int32, v = some (.inl x)) := l_frH (K := y_miK) (fun n => y_joinM (n := n) (⟨(by decide +kernel), K_459⟩) (K_468)) (fun n a s h hA => ⟨h.1, l_a1 hA⟩) (fun n a s v s2 hQ => hQ)
theorem l_c658 : l_Case 658 := by
  intro xs n s i I hL hi hI hv hg next
  have h1 : (i + Int32.ofInt 1).toInt = ((I + 1 : Nat) : Int) := l_ix (j := 1) hi (by omega) (by omega)
  obtain ⟨e1, he1⟩ : ∃ e, xs[I + 1]? = some e := ⟨_, List.getElem?_eq_getElem (by omega)⟩
  refine l_run 5 rfl ?_
  refine l_sld rfl h1 he1 ?_
  refine l_call (y_C.u (by decide) (l_x_join n)) rfl (a := [.inr (.inr 2), .inl e1]) rfl rfl (fun h hR => y_mayV (o := 0) (sz := 15) rfl hR) (by decide) ⟨hv, [e1], rfl, rfl⟩ (fun v s2 hQ => ?_)
  obtain ⟨⟨w2, f2, x, rfl⟩, ht2⟩ := hQ
  have v2 := (l_keepA (by decide +kernel) hv w2 f2).1
  refine l_run 6 rfl ?_
  refine l_sld rfl h1 he1 ?_
  refine l_call (y_C.u (by decide) (l_m_join n)) rfl (a := [.inr (.inr 67), .inl e1]) rfl rfl (fun h hR => y_mayV (o := 65) (sz := 85) rfl hR) (by decide) ⟨v2, [e1], rfl, rfl⟩ (fun v s3 hQ => ?_)
  obtain ⟨⟨w3, f3, x3, rfl⟩, ht3⟩ := hQ
  have v3 := (l_keepA (by decide +kernel) v2 w3 f3).1
  obtain ⟨-, jg⟩ := jS_act hv v2 hg w2 f2 (by decide +kernel) w3 f3 (by decide +kernel) ht2 ht3 (x_join e1)
  refine l_run 2 rfl ?_
  exact next n s3 v3 jg
theorem l_x_await : ∀ n, y_C g_sh g_ts 6 21 (fun a s => LInv n s ∧ l_A 2 1 a) (fun _ s v s2 => w_T (y_Vn n) g_sh (y_mk g_sh s2) ∧ y_fr g_sh (e_262.2.2.2.1 ++ e_263.2.2.2.1) s s2 ∧ ∃ x : Int32, v = some (.inl x)) := l_frCP (KK := (e_262.2.2.2.1 ++ e_263.2.2.2.1)) (fun n => K_262) (fun n => K_263) (l_stA rfl) (l_stA rfl) (by decide +kernel) (by decide +kernel) (by decide)
theorem l_m_await : ∀ n, y_C g_sh g_ts 181 4 (fun a s => LInv n s ∧ l_A 67 1 a) (fun _ s v s2 => w_T (y_Vn n) g_sh (y_mk g_sh s2) ∧ y_fr g_sh (e_492.2.2.2.1) s s2 ∧ ∃ x : Int32, v = some (.inl x)) := l_frNP (KK := (e_492.2.2.2.1)) (fun n => K_492) (l_stA rfl) (by decide +kernel) (by decide +kernel) (by decide)
theorem l_c681 : l_Case 681 := by
  intro xs n s i I hL hi hI hv hg next
  have h1 : (i + Int32.ofInt 1).toInt = ((I + 1 : Nat) : Int) := l_ix (j := 1) hi (by omega) (by omega)
  obtain ⟨e1, he1⟩ : ∃ e, xs[I + 1]? = some e := ⟨_, List.getElem?_eq_getElem (by omega)⟩
  refine l_run 5 rfl ?_
  refine l_sld rfl h1 he1 ?_
  refine l_call (y_C.u (by decide) (l_x_await n)) rfl (a := [.inr (.inr 2), .inl e1]) rfl rfl (fun h hR => y_mayV (o := 0) (sz := 15) rfl hR) (by decide) ⟨hv, [e1], rfl, rfl⟩ (fun v s2 hQ => ?_)
  obtain ⟨⟨w2, f2, x, rfl⟩, ht2⟩ := hQ
  have v2 := (l_keepA (by decide +kernel) hv w2 f2).1
  refine l_run 6 rfl ?_
  refine l_sld rfl h1 he1 ?_
  refine l_call (y_C.u (by decide) (l_m_await n)) rfl (a := [.inr (.inr 67), .inl e1]) rfl rfl (fun h hR => y_mayV (o := 65) (sz := 85) rfl hR) (by decide) ⟨v2, [e1], rfl, rfl⟩ (fun v s3 hQ => ?_)
  obtain ⟨⟨w3, f3, x3, rfl⟩, ht3⟩ := hQ
  have v3 := (l_keepA (by decide +kernel) v2 w3 f3).1
  obtain ⟨-, jg⟩ := jS_act hv v2 hg w2 f2 (by decide +kernel) w3 f3 (by decide +kernel) ht2 ht3 (x_await e1)
  refine l_run 2 rfl ?_
  exact next n s3 v3 jg
theorem l_x_undo : ∀ n, y_C g_sh g_ts 77 21 (fun a s => LInv n s ∧ l_A 2 0 a) (fun _ s v s2 => w_T (y_Vn n) g_sh (y_mk g_sh s2) ∧ y_fr g_sh (e_265.2.2.2.1) s s2 ∧ ∃ x : Int32, v = some (.inl x)) := l_frNP (KK := (e_265.2.2.2.1)) (fun n => K_265) (l_stA rfl) (by decide +kernel) (by decide +kernel) (by decide)
theorem l_m_undo : ∀ n, y_C g_sh g_ts 315 2 (fun a s => LInv n s ∧ l_A 67 0 a) (fun _ s v s2 => w_T (y_Vn n) g_sh (y_mk g_sh s2) ∧ y_fr g_sh y_unK s s2 ∧ ∃ x : Int32, v = some (.inl x)) := l_frH (K := y_unK) (fun n => y_undoM (n := n) ) (fun n a s h hA => ⟨h.1, l_a0 hA⟩) (fun n a s v s2 hQ => hQ)
theorem l_c704 : l_Case 704 := by
  intro xs n s i I hL hi hI hv hg next
  refine l_run 1 rfl ?_
  refine l_call (y_C.u (by decide) (l_x_undo n)) rfl (a := [.inr (.inr 2)]) rfl rfl (fun h hR => y_mayV (o := 0) (sz := 15) rfl hR) (by decide) ⟨hv, [], rfl, rfl⟩ (fun v s2 hQ => ?_)
  obtain ⟨⟨w2, f2, x, rfl⟩, ht2⟩ := hQ
  have v2 := (l_keepA (by decide +kernel) hv w2 f2).1
  refine l_run 2 rfl ?_
  refine l_call (y_C.u (by decide) (l_m_undo n)) rfl (a := [.inr (.inr 67)]) rfl rfl (fun h hR => y_mayV (o := 65) (sz := 85) rfl hR) (by decide) ⟨v2, [], rfl, rfl⟩ (fun v s3 hQ => ?_)
  obtain ⟨⟨w3, f3, x3, rfl⟩, ht3⟩ := hQ
  have v3 := (l_keepA (by decide +kernel) v2 w3 f3).1
  obtain ⟨-, jg⟩ := jS_act hv v2 hg w2 f2 (by decide +kernel) w3 f3 (by decide +kernel) ht2 ht3 x_undo
  refine l_run 2 rfl ?_
  exact next n s3 v3 jg
theorem l_x_redo : ∀ n, y_C g_sh g_ts 60 21 (fun a s => LInv n s ∧ l_A 2 0 a) (fun _ s v s2 => w_T (y_Vn n) g_sh (y_mk g_sh s2) ∧ y_fr g_sh (e_267.2.2.2.1) s s2 ∧ ∃ x : Int32, v = some (.inl x)) := l_frNP (KK := (e_267.2.2.2.1)) (fun n => K_267) (l_stA rfl) (by decide +kernel) (by decide +kernel) (by decide)
theorem l_m_redo : ∀ n, y_C g_sh g_ts 285 2 (fun a s => LInv n s ∧ l_A 67 0 a) (fun _ s v s2 => w_T (y_Vn n) g_sh (y_mk g_sh s2) ∧ y_fr g_sh y_unK s s2 ∧ ∃ x : Int32, v = some (.inl x)) := l_frH (K := y_unK) (fun n => y_redoM (n := n) ) (fun n a s h hA => ⟨h.1, l_a0 hA⟩) (fun n a s v s2 hQ => hQ)
theorem l_c717 : l_Case 717 := by
  intro xs n s i I hL hi hI hv hg next
  refine l_run 1 rfl ?_
  refine l_call (y_C.u (by decide) (l_x_redo n)) rfl (a := [.inr (.inr 2)]) rfl rfl (fun h hR => y_mayV (o := 0) (sz := 15) rfl hR) (by decide) ⟨hv, [], rfl, rfl⟩ (fun v s2 hQ => ?_)
  obtain ⟨⟨w2, f2, x, rfl⟩, ht2⟩ := hQ
  have v2 := (l_keepA (by decide +kernel) hv w2 f2).1
  refine l_run 2 rfl ?_
  refine l_call (y_C.u (by decide) (l_m_redo n)) rfl (a := [.inr (.inr 67)]) rfl rfl (fun h hR => y_mayV (o := 65) (sz := 85) rfl hR) (by decide) ⟨v2, [], rfl, rfl⟩ (fun v s3 hQ => ?_)
  obtain ⟨⟨w3, f3, x3, rfl⟩, ht3⟩ := hQ
  have v3 := (l_keepA (by decide +kernel) v2 w3 f3).1
  obtain ⟨-, jg⟩ := jS_act hv v2 hg w2 f2 (by decide +kernel) w3 f3 (by decide +kernel) ht2 ht3 x_redo
  refine l_run 2 rfl ?_
  exact next n s3 v3 jg
theorem l_x_will : l_Pub 2 80 3 6 := l_pubC (fun n => K_272) (fun n => K_273) rfl rfl (by decide +kernel) (by decide +kernel) (by decide)
theorem l_m_will : l_Pub 67 320 3 6 := l_pubN (fun n => K_510) rfl (by decide +kernel) (by decide +kernel) (by decide)
theorem l_c730 : l_Case 730 := by
  intro xs n s i I hL hi hI hv hg next
  have h1 : (i + Int32.ofInt 1).toInt = ((I + 1 : Nat) : Int) := l_ix (j := 1) hi (by omega) (by omega)
  obtain ⟨e1, he1⟩ : ∃ e, xs[I + 1]? = some e := ⟨_, List.getElem?_eq_getElem (by omega)⟩
  have h2 : (i + Int32.ofInt 2).toInt = ((I + 2 : Nat) : Int) := l_ix (j := 2) hi (by omega) (by omega)
  obtain ⟨e2, he2⟩ : ∃ e, xs[I + 2]? = some e := ⟨_, List.getElem?_eq_getElem (by omega)⟩
  have h3 : (i + Int32.ofInt 3).toInt = ((I + 3 : Nat) : Int) := l_ix (j := 3) hi (by omega) (by omega)
  obtain ⟨e3, he3⟩ : ∃ e, xs[I + 3]? = some e := ⟨_, List.getElem?_eq_getElem (by omega)⟩
  refine l_run 5 rfl ?_
  refine l_sld rfl h1 he1 ?_
  refine l_run 4 rfl ?_
  refine l_sld rfl h2 he2 ?_
  refine l_run 4 rfl ?_
  refine l_sld rfl h3 he3 ?_
  refine l_call (l_x_will n) rfl (a := [.inr (.inr 2), .inl e1, .inl e2, .inl e3]) rfl rfl (fun h hR => y_mayV (o := 0) (sz := 15) rfl hR) (by decide) ⟨hv, [e1, e2, e3], rfl, rfl⟩ (fun v s2 hQ => ?_)
  obtain ⟨v2, g1, x, rfl⟩ := hQ
  refine l_run 6 rfl ?_
  refine l_sld rfl h1 he1 ?_
  refine l_run 4 rfl ?_
  refine l_sld rfl h2 he2 ?_
  refine l_run 4 rfl ?_
  refine l_sld rfl h3 he3 ?_
  refine l_call (l_m_will n) rfl (a := [.inr (.inr 67), .inl e1, .inl e2, .inl e3]) rfl rfl (fun h hR => y_mayV (o := 65) (sz := 85) rfl hR) (by decide) ⟨v2, [e1, e2, e3], rfl, rfl⟩ (fun v s3 hQ => ?_)
  obtain ⟨v3, g3, x3, rfl⟩ := hQ
  refine l_run 2 rfl ?_
  exact next n s3 v3 (jS_G v2.2.2 (jS_G hv.2.2 hg g1) g3)
theorem l_x_says : l_Pub 2 63 1 6 := l_pubC (fun n => K_276) (fun n => K_277) rfl rfl (by decide +kernel) (by decide +kernel) (by decide)
theorem l_m_says : l_Pub 67 292 1 7 := l_pubN (fun n => K_519) rfl (by decide +kernel) (by decide +kernel) (by decide)
theorem l_c773 : l_Case 773 := by
  intro xs n s i I hL hi hI hv hg next
  have h1 : (i + Int32.ofInt 1).toInt = ((I + 1 : Nat) : Int) := l_ix (j := 1) hi (by omega) (by omega)
  obtain ⟨e1, he1⟩ : ∃ e, xs[I + 1]? = some e := ⟨_, List.getElem?_eq_getElem (by omega)⟩
  refine l_run 5 rfl ?_
  refine l_sld rfl h1 he1 ?_
  refine l_call (l_x_says n) rfl (a := [.inr (.inr 2), .inl e1]) rfl rfl (fun h hR => y_mayV (o := 0) (sz := 15) rfl hR) (by decide) ⟨hv, [e1], rfl, rfl⟩ (fun v s2 hQ => ?_)
  obtain ⟨v2, g1, x, rfl⟩ := hQ
  refine l_run 6 rfl ?_
  refine l_sld rfl h1 he1 ?_
  refine l_call (l_m_says n) rfl (a := [.inr (.inr 67), .inl e1]) rfl rfl (fun h hR => y_mayV (o := 65) (sz := 85) rfl hR) (by decide) ⟨v2, [e1], rfl, rfl⟩ (fun v s3 hQ => ?_)
  obtain ⟨v3, g3, x3, rfl⟩ := hQ
  refine l_run 2 rfl ?_
  exact next n s3 v3 (jS_G v2.2.2 (jS_G hv.2.2 hg g1) g3)
theorem l_x_steps : l_Pub 2 72 1 6 := l_pubC (fun n => K_279) (fun n => K_280) rfl rfl (by decide +kernel) (by decide +kernel) (by decide)
theorem l_m_steps : l_Pub 67 303 1 7 := l_pubN (fun n => K_520) rfl (by decide +kernel) (by decide +kernel) (by decide)
theorem l_c796 : l_Case 796 := by
  intro xs n s i I hL hi hI hv hg next
  have h1 : (i + Int32.ofInt 1).toInt = ((I + 1 : Nat) : Int) := l_ix (j := 1) hi (by omega) (by omega)
  obtain ⟨e1, he1⟩ : ∃ e, xs[I + 1]? = some e := ⟨_, List.getElem?_eq_getElem (by omega)⟩
  refine l_run 5 rfl ?_
  refine l_sld rfl h1 he1 ?_
  refine l_call (l_x_steps n) rfl (a := [.inr (.inr 2), .inl e1]) rfl rfl (fun h hR => y_mayV (o := 0) (sz := 15) rfl hR) (by decide) ⟨hv, [e1], rfl, rfl⟩ (fun v s2 hQ => ?_)
  obtain ⟨v2, g1, x, rfl⟩ := hQ
  refine l_run 6 rfl ?_
  refine l_sld rfl h1 he1 ?_
  refine l_call (l_m_steps n) rfl (a := [.inr (.inr 67), .inl e1]) rfl rfl (fun h hR => y_mayV (o := 65) (sz := 85) rfl hR) (by decide) ⟨v2, [e1], rfl, rfl⟩ (fun v s3 hQ => ?_)
  obtain ⟨v3, g3, x3, rfl⟩ := hQ
  refine l_run 2 rfl ?_
  exact next n s3 v3 (jS_G v2.2.2 (jS_G hv.2.2 hg g1) g3)
theorem l_x_missing : l_Pub 2 49 0 6 := l_pubC (fun n => K_281) (fun n => K_282) rfl rfl (by decide +kernel) (by decide +kernel) (by decide)
theorem l_m_missing : l_Pub 67 262 0 7 := l_pubN (fun n => K_521) rfl (by decide +kernel) (by decide +kernel) (by decide)
theorem l_c819 : l_Case 819 := by
  intro xs n s i I hL hi hI hv hg next
  refine l_run 1 rfl ?_
  refine l_call (l_x_missing n) rfl (a := [.inr (.inr 2)]) rfl rfl (fun h hR => y_mayV (o := 0) (sz := 15) rfl hR) (by decide) ⟨hv, [], rfl, rfl⟩ (fun v s2 hQ => ?_)
  obtain ⟨v2, g1, x, rfl⟩ := hQ
  refine l_run 2 rfl ?_
  refine l_call (l_m_missing n) rfl (a := [.inr (.inr 67)]) rfl rfl (fun h hR => y_mayV (o := 65) (sz := 85) rfl hR) (by decide) ⟨v2, [], rfl, rfl⟩ (fun v s3 hQ => ?_)
  obtain ⟨v3, g3, x3, rfl⟩ := hQ
  refine l_run 2 rfl ?_
  exact next n s3 v3 (jS_G v2.2.2 (jS_G hv.2.2 hg g1) g3)
theorem l_x_empty : l_Pub 2 18 0 6 := l_pubC (fun n => K_284) (fun n => K_285) rfl rfl (by decide +kernel) (by decide +kernel) (by decide)
theorem l_m_empty : l_Pub 67 197 0 7 := l_pubN (fun n => K_522) rfl (by decide +kernel) (by decide +kernel) (by decide)
theorem l_c832 : l_Case 832 := by
  intro xs n s i I hL hi hI hv hg next
  refine l_run 1 rfl ?_
  refine l_call (l_x_empty n) rfl (a := [.inr (.inr 2)]) rfl rfl (fun h hR => y_mayV (o := 0) (sz := 15) rfl hR) (by decide) ⟨hv, [], rfl, rfl⟩ (fun v s2 hQ => ?_)
  obtain ⟨v2, g1, x, rfl⟩ := hQ
  refine l_run 2 rfl ?_
  refine l_call (l_m_empty n) rfl (a := [.inr (.inr 67)]) rfl rfl (fun h hR => y_mayV (o := 65) (sz := 85) rfl hR) (by decide) ⟨v2, [], rfl, rfl⟩ (fun v s3 hQ => ?_)
  obtain ⟨v3, g3, x3, rfl⟩ := hQ
  refine l_run 2 rfl ?_
  exact next n s3 v3 (jS_G v2.2.2 (jS_G hv.2.2 hg g1) g3)
theorem l_x_count : l_Pub 2 12 0 8 := l_pubC (fun n => K_286) (fun n => K_287) rfl rfl (by decide +kernel) (by decide +kernel) (by decide)
theorem l_m_count : l_Pub 67 188 0 8 := l_pubN (fun n => K_526) rfl (by decide +kernel) (by decide +kernel) (by decide)
theorem l_c845 : l_Case 845 := by
  intro xs n s i I hL hi hI hv hg next
  refine l_run 1 rfl ?_
  refine l_call (l_x_count n) rfl (a := [.inr (.inr 2)]) rfl rfl (fun h hR => y_mayV (o := 0) (sz := 15) rfl hR) (by decide) ⟨hv, [], rfl, rfl⟩ (fun v s2 hQ => ?_)
  obtain ⟨v2, g1, x, rfl⟩ := hQ
  refine l_run 2 rfl ?_
  refine l_call (l_m_count n) rfl (a := [.inr (.inr 67)]) rfl rfl (fun h hR => y_mayV (o := 65) (sz := 85) rfl hR) (by decide) ⟨v2, [], rfl, rfl⟩ (fun v s3 hQ => ?_)
  obtain ⟨v3, g3, x3, rfl⟩ := hQ
  refine l_run 2 rfl ?_
  exact next n s3 v3 (jS_G v2.2.2 (jS_G hv.2.2 hg g1) g3)
theorem l_x_love : l_Pub 2 46 0 6 := l_pubC (fun n => K_290) (fun n => K_292) rfl rfl (by decide +kernel) (by decide +kernel) (by decide)
theorem l_m_love : l_Pub 67 255 0 8 := l_pubN (fun n => K_528) rfl (by decide +kernel) (by decide +kernel) (by decide)
theorem l_c858 : l_Case 858 := by
  intro xs n s i I hL hi hI hv hg next
  refine l_run 1 rfl ?_
  refine l_call (l_x_love n) rfl (a := [.inr (.inr 2)]) rfl rfl (fun h hR => y_mayV (o := 0) (sz := 15) rfl hR) (by decide) ⟨hv, [], rfl, rfl⟩ (fun v s2 hQ => ?_)
  obtain ⟨v2, g1, x, rfl⟩ := hQ
  refine l_run 2 rfl ?_
  refine l_call (l_m_love n) rfl (a := [.inr (.inr 67)]) rfl rfl (fun h hR => y_mayV (o := 65) (sz := 85) rfl hR) (by decide) ⟨v2, [], rfl, rfl⟩ (fun v s3 hQ => ?_)
  obtain ⟨v3, g3, x3, rfl⟩ := hQ
  refine l_run 2 rfl ?_
  exact next n s3 v3 (jS_G v2.2.2 (jS_G hv.2.2 hg g1) g3)
theorem l_x_order : l_Pub 2 53 0 14 := l_pubC (fun n => K_323) (fun n => K_335) rfl rfl (by decide +kernel) (by decide +kernel) (by decide)
theorem l_m_order : l_Pub 67 269 0 9 := l_pubN (fun n => K_530) rfl (by decide +kernel) (by decide +kernel) (by decide)
theorem l_c871 : l_Case 871 := by
  intro xs n s i I hL hi hI hv hg next
  refine l_run 1 rfl ?_
  refine l_call (l_x_order n) rfl (a := [.inr (.inr 2)]) rfl rfl (fun h hR => y_mayV (o := 0) (sz := 15) rfl hR) (by decide) ⟨hv, [], rfl, rfl⟩ (fun v s2 hQ => ?_)
  obtain ⟨v2, g1, x, rfl⟩ := hQ
  refine l_run 2 rfl ?_
  refine l_call (l_m_order n) rfl (a := [.inr (.inr 67)]) rfl rfl (fun h hR => y_mayV (o := 65) (sz := 85) rfl hR) (by decide) ⟨v2, [], rfl, rfl⟩ (fun v s3 hQ => ?_)
  obtain ⟨v3, g3, x3, rfl⟩ := hQ
  refine l_run 2 rfl ?_
  exact next n s3 v3 (jS_G v2.2.2 (jS_G hv.2.2 hg g1) g3)
theorem l_x_dearest : l_Pub 2 16 0 14 := l_pubC (fun n => K_336) (fun n => K_337) rfl rfl (by decide +kernel) (by decide +kernel) (by decide)
theorem l_m_dearest : l_Pub 67 192 0 9 := l_pubN (fun n => K_531) rfl (by decide +kernel) (by decide +kernel) (by decide)
theorem l_c884 : l_Case 884 := by
  intro xs n s i I hL hi hI hv hg next
  refine l_run 1 rfl ?_
  refine l_call (l_x_dearest n) rfl (a := [.inr (.inr 2)]) rfl rfl (fun h hR => y_mayV (o := 0) (sz := 15) rfl hR) (by decide) ⟨hv, [], rfl, rfl⟩ (fun v s2 hQ => ?_)
  obtain ⟨v2, g1, x, rfl⟩ := hQ
  refine l_run 2 rfl ?_
  refine l_call (l_m_dearest n) rfl (a := [.inr (.inr 67)]) rfl rfl (fun h hR => y_mayV (o := 65) (sz := 85) rfl hR) (by decide) ⟨v2, [], rfl, rfl⟩ (fun v s3 hQ => ?_)
  obtain ⟨v3, g3, x3, rfl⟩ := hQ
  refine l_run 2 rfl ?_
  exact next n s3 v3 (jS_G v2.2.2 (jS_G hv.2.2 hg g1) g3)
theorem l_x_shortest : l_Pub 2 69 1 6 := l_pubC (fun n => K_340) (fun n => K_341) rfl rfl (by decide +kernel) (by decide +kernel) (by decide)
theorem l_m_shortest : l_Pub 67 299 1 8 := l_pubN (fun n => K_541) rfl (by decide +kernel) (by decide +kernel) (by decide)
theorem l_c897 : l_Case 897 := by
  intro xs n s i I hL hi hI hv hg next
  have h1 : (i + Int32.ofInt 1).toInt = ((I + 1 : Nat) : Int) := l_ix (j := 1) hi (by omega) (by omega)
  obtain ⟨e1, he1⟩ : ∃ e, xs[I + 1]? = some e := ⟨_, List.getElem?_eq_getElem (by omega)⟩
  refine l_run 5 rfl ?_
  refine l_sld rfl h1 he1 ?_
  refine l_call (l_x_shortest n) rfl (a := [.inr (.inr 2), .inl e1]) rfl rfl (fun h hR => y_mayV (o := 0) (sz := 15) rfl hR) (by decide) ⟨hv, [e1], rfl, rfl⟩ (fun v s2 hQ => ?_)
  obtain ⟨v2, g1, x, rfl⟩ := hQ
  refine l_run 6 rfl ?_
  refine l_sld rfl h1 he1 ?_
  refine l_call (l_m_shortest n) rfl (a := [.inr (.inr 67), .inl e1]) rfl rfl (fun h hR => y_mayV (o := 65) (sz := 85) rfl hR) (by decide) ⟨v2, [e1], rfl, rfl⟩ (fun v s3 hQ => ?_)
  obtain ⟨v3, g3, x3, rfl⟩ := hQ
  refine l_run 2 rfl ?_
  exact next n s3 v3 (jS_G v2.2.2 (jS_G hv.2.2 hg g1) g3)
theorem l_x_spare : l_Pub 2 71 1 7 := l_pubC (fun n => K_344) (fun n => K_346) rfl rfl (by decide +kernel) (by decide +kernel) (by decide)
theorem l_m_spare : l_Pub 67 302 1 8 := l_pubH (K := y_arK) (fun n => y_spareM (n := n) (⟨(by decide +kernel), K_459⟩) (K_475) (K_524) (K_539) (K_538) (K_540)) (fun n a s h hA => ⟨h.1, l_a1 hA⟩) (fun n a s v s2 hQ => hQ) (by decide +kernel)
theorem l_c920 : l_Case 920 := by
  intro xs n s i I hL hi hI hv hg next
  have h1 : (i + Int32.ofInt 1).toInt = ((I + 1 : Nat) : Int) := l_ix (j := 1) hi (by omega) (by omega)
  obtain ⟨e1, he1⟩ : ∃ e, xs[I + 1]? = some e := ⟨_, List.getElem?_eq_getElem (by omega)⟩
  refine l_run 5 rfl ?_
  refine l_sld rfl h1 he1 ?_
  refine l_call (l_x_spare n) rfl (a := [.inr (.inr 2), .inl e1]) rfl rfl (fun h hR => y_mayV (o := 0) (sz := 15) rfl hR) (by decide) ⟨hv, [e1], rfl, rfl⟩ (fun v s2 hQ => ?_)
  obtain ⟨v2, g1, x, rfl⟩ := hQ
  refine l_run 6 rfl ?_
  refine l_sld rfl h1 he1 ?_
  refine l_call (l_m_spare n) rfl (a := [.inr (.inr 67), .inl e1]) rfl rfl (fun h hR => y_mayV (o := 65) (sz := 85) rfl hR) (by decide) ⟨v2, [e1], rfl, rfl⟩ (fun v s3 hQ => ?_)
  obtain ⟨v3, g3, x3, rfl⟩ := hQ
  refine l_run 2 rfl ?_
  exact next n s3 v3 (jS_G v2.2.2 (jS_G hv.2.2 hg g1) g3)
theorem l_x_hold : l_Pub 2 27 1 6 := l_pubC (fun n => K_307) (fun n => K_308) rfl rfl (by decide +kernel) (by decide +kernel) (by decide)
theorem l_m_hold : l_Pub 67 220 1 8 := l_pubN (fun n => K_545) rfl (by decide +kernel) (by decide +kernel) (by decide)
theorem l_c943 : l_Case 943 := by
  intro xs n s i I hL hi hI hv hg next
  have h1 : (i + Int32.ofInt 1).toInt = ((I + 1 : Nat) : Int) := l_ix (j := 1) hi (by omega) (by omega)
  obtain ⟨e1, he1⟩ : ∃ e, xs[I + 1]? = some e := ⟨_, List.getElem?_eq_getElem (by omega)⟩
  refine l_run 5 rfl ?_
  refine l_sld rfl h1 he1 ?_
  refine l_call (l_x_hold n) rfl (a := [.inr (.inr 2), .inl e1]) rfl rfl (fun h hR => y_mayV (o := 0) (sz := 15) rfl hR) (by decide) ⟨hv, [e1], rfl, rfl⟩ (fun v s2 hQ => ?_)
  obtain ⟨v2, g1, x, rfl⟩ := hQ
  refine l_run 6 rfl ?_
  refine l_sld rfl h1 he1 ?_
  refine l_call (l_m_hold n) rfl (a := [.inr (.inr 67), .inl e1]) rfl rfl (fun h hR => y_mayV (o := 65) (sz := 85) rfl hR) (by decide) ⟨v2, [e1], rfl, rfl⟩ (fun v s3 hQ => ?_)
  obtain ⟨v3, g3, x3, rfl⟩ := hQ
  refine l_run 2 rfl ?_
  exact next n s3 v3 (jS_G v2.2.2 (jS_G hv.2.2 hg g1) g3)
theorem l_x_swap : l_Pub 2 74 1 8 := l_pubC (fun n => K_354) (fun n => K_362) rfl rfl (by decide +kernel) (by decide +kernel) (by decide)
theorem l_m_swap : l_Pub 67 306 1 9 := l_pubH (K := y_arK) (fun n => y_swapM (n := n) (⟨(by decide +kernel), K_459⟩) (K_525) (⟨(by decide +kernel), K_526⟩)) (fun n a s h hA => ⟨h.1, l_a1 hA⟩) (fun n a s v s2 hQ => hQ) (by decide +kernel)
theorem l_c966 : l_Case 966 := by
  intro xs n s i I hL hi hI hv hg next
  have h1 : (i + Int32.ofInt 1).toInt = ((I + 1 : Nat) : Int) := l_ix (j := 1) hi (by omega) (by omega)
  obtain ⟨e1, he1⟩ : ∃ e, xs[I + 1]? = some e := ⟨_, List.getElem?_eq_getElem (by omega)⟩
  refine l_run 5 rfl ?_
  refine l_sld rfl h1 he1 ?_
  refine l_call (l_x_swap n) rfl (a := [.inr (.inr 2), .inl e1]) rfl rfl (fun h hR => y_mayV (o := 0) (sz := 15) rfl hR) (by decide) ⟨hv, [e1], rfl, rfl⟩ (fun v s2 hQ => ?_)
  obtain ⟨v2, g1, x, rfl⟩ := hQ
  refine l_run 6 rfl ?_
  refine l_sld rfl h1 he1 ?_
  refine l_call (l_m_swap n) rfl (a := [.inr (.inr 67), .inl e1]) rfl rfl (fun h hR => y_mayV (o := 65) (sz := 85) rfl hR) (by decide) ⟨v2, [e1], rfl, rfl⟩ (fun v s3 hQ => ?_)
  obtain ⟨v3, g3, x3, rfl⟩ := hQ
  refine l_run 2 rfl ?_
  exact next n s3 v3 (jS_G v2.2.2 (jS_G hv.2.2 hg g1) g3)
theorem l_x_wish : l_Pub 2 81 1 7 := l_pubH (K := y_wiK) (fun n => y_wishC (n := n) (⟨(by decide +kernel), ⟨(by decide +kernel), K_368⟩⟩) (⟨(by decide +kernel), ⟨(by decide +kernel), K_377⟩⟩) (⟨(by decide +kernel), K_371⟩)) (fun n a s h hA => ⟨h.1, h.2.1, l_a1 hA⟩) (fun n a s v s2 hQ => hQ) (by decide +kernel)
theorem l_m_wish : l_Pub 67 321 1 8 := l_pubH (K := y_arK) (fun n => y_wishM (n := n) (⟨(by decide +kernel), K_459⟩) (K_515) (K_517)) (fun n a s h hA => ⟨h.1, l_a1 hA⟩) (fun n a s v s2 hQ => hQ) (by decide +kernel)
theorem l_c989 : l_Case 989 := by
  intro xs n s i I hL hi hI hv hg next
  have h1 : (i + Int32.ofInt 1).toInt = ((I + 1 : Nat) : Int) := l_ix (j := 1) hi (by omega) (by omega)
  obtain ⟨e1, he1⟩ : ∃ e, xs[I + 1]? = some e := ⟨_, List.getElem?_eq_getElem (by omega)⟩
  refine l_run 5 rfl ?_
  refine l_sld rfl h1 he1 ?_
  refine l_call (l_x_wish n) rfl (a := [.inr (.inr 2), .inl e1]) rfl rfl (fun h hR => y_mayV (o := 0) (sz := 15) rfl hR) (by decide) ⟨hv, [e1], rfl, rfl⟩ (fun v s2 hQ => ?_)
  obtain ⟨v2, g1, x, rfl⟩ := hQ
  refine l_run 6 rfl ?_
  refine l_sld rfl h1 he1 ?_
  refine l_call (l_m_wish n) rfl (a := [.inr (.inr 67), .inl e1]) rfl rfl (fun h hR => y_mayV (o := 65) (sz := 85) rfl hR) (by decide) ⟨v2, [e1], rfl, rfl⟩ (fun v s3 hQ => ?_)
  obtain ⟨v3, g3, x3, rfl⟩ := hQ
  refine l_run 2 rfl ?_
  exact next n s3 v3 (jS_G v2.2.2 (jS_G hv.2.2 hg g1) g3)
theorem l_x_trade : l_Pub 2 75 0 7 := l_pubC (fun n => K_376) (fun n => K_378) rfl rfl (by decide +kernel) (by decide +kernel) (by decide)
theorem l_m_trade : l_Pub 67 312 0 8 := l_pubH (K := y_trK) (fun n => y_tradeM (n := n) (⟨(by decide +kernel), K_459⟩) (K_515) (K_517) (K_524)) (fun n a s h hA => ⟨h.1, l_a0 hA⟩) (fun n a s v s2 hQ => hQ) (by decide +kernel)
theorem l_c1012 : l_Case 1012 := by
  intro xs n s i I hL hi hI hv hg next
  refine l_run 1 rfl ?_
  refine l_call (l_x_trade n) rfl (a := [.inr (.inr 2)]) rfl rfl (fun h hR => y_mayV (o := 0) (sz := 15) rfl hR) (by decide) ⟨hv, [], rfl, rfl⟩ (fun v s2 hQ => ?_)
  obtain ⟨v2, g1, x, rfl⟩ := hQ
  refine l_run 2 rfl ?_
  refine l_call (l_m_trade n) rfl (a := [.inr (.inr 67)]) rfl rfl (fun h hR => y_mayV (o := 65) (sz := 85) rfl hR) (by decide) ⟨v2, [], rfl, rfl⟩ (fun v s3 hQ => ?_)
  obtain ⟨v3, g3, x3, rfl⟩ := hQ
  refine l_run 2 rfl ?_
  exact next n s3 v3 (jS_G v2.2.2 (jS_G hv.2.2 hg g1) g3)
theorem l_x_delay : l_Pub 2 17 2 7 := l_pubC (fun n => K_380) (fun n => K_382) rfl rfl (by decide +kernel) (by decide +kernel) (by decide)
theorem l_m_delay : l_Pub 67 193 2 8 := l_pubH (K := y_arK) (fun n => y_delayM (n := n) (⟨(by decide +kernel), K_459⟩) (K_515) (K_517)) (fun n a s h hA => ⟨h.1, l_a2 hA⟩) (fun n a s v s2 hQ => hQ) (by decide +kernel)
theorem l_c1025 : l_Case 1025 := by
  intro xs n s i I hL hi hI hv hg next
  have h1 : (i + Int32.ofInt 1).toInt = ((I + 1 : Nat) : Int) := l_ix (j := 1) hi (by omega) (by omega)
  obtain ⟨e1, he1⟩ : ∃ e, xs[I + 1]? = some e := ⟨_, List.getElem?_eq_getElem (by omega)⟩
  have h2 : (i + Int32.ofInt 2).toInt = ((I + 2 : Nat) : Int) := l_ix (j := 2) hi (by omega) (by omega)
  obtain ⟨e2, he2⟩ : ∃ e, xs[I + 2]? = some e := ⟨_, List.getElem?_eq_getElem (by omega)⟩
  refine l_run 5 rfl ?_
  refine l_sld rfl h1 he1 ?_
  refine l_run 4 rfl ?_
  refine l_sld rfl h2 he2 ?_
  refine l_call (l_x_delay n) rfl (a := [.inr (.inr 2), .inl e1, .inl e2]) rfl rfl (fun h hR => y_mayV (o := 0) (sz := 15) rfl hR) (by decide) ⟨hv, [e1, e2], rfl, rfl⟩ (fun v s2 hQ => ?_)
  obtain ⟨v2, g1, x, rfl⟩ := hQ
  refine l_run 6 rfl ?_
  refine l_sld rfl h1 he1 ?_
  refine l_run 4 rfl ?_
  refine l_sld rfl h2 he2 ?_
  refine l_call (l_m_delay n) rfl (a := [.inr (.inr 67), .inl e1, .inl e2]) rfl rfl (fun h hR => y_mayV (o := 65) (sz := 85) rfl hR) (by decide) ⟨v2, [e1, e2], rfl, rfl⟩ (fun v s3 hQ => ?_)
  obtain ⟨v3, g3, x3, rfl⟩ := hQ
  refine l_run 2 rfl ?_
  exact next n s3 v3 (jS_G v2.2.2 (jS_G hv.2.2 hg g1) g3)
theorem l_x_grudge : l_Pub 2 26 1 7 := l_pubC (fun n => K_383) (fun n => K_384) rfl rfl (by decide +kernel) (by decide +kernel) (by decide)
theorem l_m_grudge : l_Pub 67 215 1 8 := l_pubH (K := y_arK) (fun n => y_grudgeM (n := n) (⟨(by decide +kernel), K_459⟩) (K_515) (K_517) (K_583)) (fun n a s h hA => ⟨h.1, l_a1 hA⟩) (fun n a s v s2 hQ => hQ) (by decide +kernel)
theorem l_c1058 : l_Case 1058 := by
  intro xs n s i I hL hi hI hv hg next
  have h1 : (i + Int32.ofInt 1).toInt = ((I + 1 : Nat) : Int) := l_ix (j := 1) hi (by omega) (by omega)
  obtain ⟨e1, he1⟩ : ∃ e, xs[I + 1]? = some e := ⟨_, List.getElem?_eq_getElem (by omega)⟩
  refine l_run 5 rfl ?_
  refine l_sld rfl h1 he1 ?_
  refine l_call (l_x_grudge n) rfl (a := [.inr (.inr 2), .inl e1]) rfl rfl (fun h hR => y_mayV (o := 0) (sz := 15) rfl hR) (by decide) ⟨hv, [e1], rfl, rfl⟩ (fun v s2 hQ => ?_)
  obtain ⟨v2, g1, x, rfl⟩ := hQ
  refine l_run 6 rfl ?_
  refine l_sld rfl h1 he1 ?_
  refine l_call (l_m_grudge n) rfl (a := [.inr (.inr 67), .inl e1]) rfl rfl (fun h hR => y_mayV (o := 65) (sz := 85) rfl hR) (by decide) ⟨v2, [e1], rfl, rfl⟩ (fun v s3 hQ => ?_)
  obtain ⟨v3, g3, x3, rfl⟩ := hQ
  refine l_run 2 rfl ?_
  exact next n s3 v3 (jS_G v2.2.2 (jS_G hv.2.2 hg g1) g3)
theorem l_x_blame : l_Pub 2 9 2 7 := l_pubH (K := y_blK) (fun n => y_blameC (n := n) (⟨(by decide +kernel), (by decide +kernel), K_343⟩) (⟨(by decide +kernel), (by decide +kernel), K_345⟩) (⟨(by decide +kernel), K_388⟩)) (fun n a s h hA => ⟨h.1, h.2.1, l_a2 hA⟩) (fun n a s v s2 hQ => hQ) (by decide +kernel)
theorem l_m_blame : l_Pub 67 184 2 9 := l_pubN (fun n => K_554) rfl (by decide +kernel) (by decide +kernel) (by decide)
theorem l_c1081 : l_Case 1081 := by
  intro xs n s i I hL hi hI hv hg next
  have h1 : (i + Int32.ofInt 1).toInt = ((I + 1 : Nat) : Int) := l_ix (j := 1) hi (by omega) (by omega)
  obtain ⟨e1, he1⟩ : ∃ e, xs[I + 1]? = some e := ⟨_, List.getElem?_eq_getElem (by omega)⟩
  have h2 : (i + Int32.ofInt 2).toInt = ((I + 2 : Nat) : Int) := l_ix (j := 2) hi (by omega) (by omega)
  obtain ⟨e2, he2⟩ : ∃ e, xs[I + 2]? = some e := ⟨_, List.getElem?_eq_getElem (by omega)⟩
  refine l_run 5 rfl ?_
  refine l_sld rfl h1 he1 ?_
  refine l_run 4 rfl ?_
  refine l_sld rfl h2 he2 ?_
  refine l_call (l_x_blame n) rfl (a := [.inr (.inr 2), .inl e1, .inl e2]) rfl rfl (fun h hR => y_mayV (o := 0) (sz := 15) rfl hR) (by decide) ⟨hv, [e1, e2], rfl, rfl⟩ (fun v s2 hQ => ?_)
  obtain ⟨v2, g1, x, rfl⟩ := hQ
  refine l_run 6 rfl ?_
  refine l_sld rfl h1 he1 ?_
  refine l_run 4 rfl ?_
  refine l_sld rfl h2 he2 ?_
  refine l_call (l_m_blame n) rfl (a := [.inr (.inr 67), .inl e1, .inl e2]) rfl rfl (fun h hR => y_mayV (o := 65) (sz := 85) rfl hR) (by decide) ⟨v2, [e1, e2], rfl, rfl⟩ (fun v s3 hQ => ?_)
  obtain ⟨v3, g3, x3, rfl⟩ := hQ
  refine l_run 2 rfl ?_
  exact next n s3 v3 (jS_G v2.2.2 (jS_G hv.2.2 hg g1) g3)
theorem l_x_room : l_Pub 2 61 0 6 := l_pubC (fun n => K_303) (fun n => K_304) rfl rfl (by decide +kernel) (by decide +kernel) (by decide)
theorem l_m_room : l_Pub 67 286 0 8 := l_pubN (fun n => K_559) rfl (by decide +kernel) (by decide +kernel) (by decide)
theorem l_c1114 : l_Case 1114 := by
  intro xs n s i I hL hi hI hv hg next
  refine l_run 1 rfl ?_
  refine l_call (l_x_room n) rfl (a := [.inr (.inr 2)]) rfl rfl (fun h hR => y_mayV (o := 0) (sz := 15) rfl hR) (by decide) ⟨hv, [], rfl, rfl⟩ (fun v s2 hQ => ?_)
  obtain ⟨v2, g1, x, rfl⟩ := hQ
  refine l_run 2 rfl ?_
  refine l_call (l_m_room n) rfl (a := [.inr (.inr 67)]) rfl rfl (fun h hR => y_mayV (o := 65) (sz := 85) rfl hR) (by decide) ⟨v2, [], rfl, rfl⟩ (fun v s3 hQ => ?_)
  obtain ⟨v3, g3, x3, rfl⟩ := hQ
  refine l_run 2 rfl ?_
  exact next n s3 v3 (jS_G v2.2.2 (jS_G hv.2.2 hg g1) g3)
theorem l_x_lets : l_Pub 2 43 1 6 := l_pubC (fun n => K_305) (fun n => K_306) rfl rfl (by decide +kernel) (by decide +kernel) (by decide)
theorem l_m_lets : l_Pub 67 252 1 8 := l_pubN (fun n => K_558) rfl (by decide +kernel) (by decide +kernel) (by decide)
theorem l_c1127 : l_Case 1127 := by
  intro xs n s i I hL hi hI hv hg next
  have h1 : (i + Int32.ofInt 1).toInt = ((I + 1 : Nat) : Int) := l_ix (j := 1) hi (by omega) (by omega)
  obtain ⟨e1, he1⟩ : ∃ e, xs[I + 1]? = some e := ⟨_, List.getElem?_eq_getElem (by omega)⟩
  refine l_run 5 rfl ?_
  refine l_sld rfl h1 he1 ?_
  refine l_call (l_x_lets n) rfl (a := [.inr (.inr 2), .inl e1]) rfl rfl (fun h hR => y_mayV (o := 0) (sz := 15) rfl hR) (by decide) ⟨hv, [e1], rfl, rfl⟩ (fun v s2 hQ => ?_)
  obtain ⟨v2, g1, x, rfl⟩ := hQ
  refine l_run 6 rfl ?_
  refine l_sld rfl h1 he1 ?_
  refine l_call (l_m_lets n) rfl (a := [.inr (.inr 67), .inl e1]) rfl rfl (fun h hR => y_mayV (o := 65) (sz := 85) rfl hR) (by decide) ⟨v2, [e1], rfl, rfl⟩ (fun v s3 hQ => ?_)
  obtain ⟨v3, g3, x3, rfl⟩ := hQ
  refine l_run 2 rfl ?_
  exact next n s3 v3 (jS_G v2.2.2 (jS_G hv.2.2 hg g1) g3)
theorem l_x_last : l_Pub 2 37 2 6 := l_pubC (fun n => K_300) (fun n => K_302) rfl rfl (by decide +kernel) (by decide +kernel) (by decide)
theorem l_m_last : l_Pub 67 241 2 7 := l_pubN (fun n => K_562) rfl (by decide +kernel) (by decide +kernel) (by decide)
theorem l_c1150 : l_Case 1150 := by
  intro xs n s i I hL hi hI hv hg next
  have h1 : (i + Int32.ofInt 1).toInt = ((I + 1 : Nat) : Int) := l_ix (j := 1) hi (by omega) (by omega)
  obtain ⟨e1, he1⟩ : ∃ e, xs[I + 1]? = some e := ⟨_, List.getElem?_eq_getElem (by omega)⟩
  have h2 : (i + Int32.ofInt 2).toInt = ((I + 2 : Nat) : Int) := l_ix (j := 2) hi (by omega) (by omega)
  obtain ⟨e2, he2⟩ : ∃ e, xs[I + 2]? = some e := ⟨_, List.getElem?_eq_getElem (by omega)⟩
  refine l_run 5 rfl ?_
  refine l_sld rfl h1 he1 ?_
  refine l_run 4 rfl ?_
  refine l_sld rfl h2 he2 ?_
  refine l_call (l_x_last n) rfl (a := [.inr (.inr 2), .inl e1, .inl e2]) rfl rfl (fun h hR => y_mayV (o := 0) (sz := 15) rfl hR) (by decide) ⟨hv, [e1, e2], rfl, rfl⟩ (fun v s2 hQ => ?_)
  obtain ⟨v2, g1, x, rfl⟩ := hQ
  refine l_run 6 rfl ?_
  refine l_sld rfl h1 he1 ?_
  refine l_run 4 rfl ?_
  refine l_sld rfl h2 he2 ?_
  refine l_call (l_m_last n) rfl (a := [.inr (.inr 67), .inl e1, .inl e2]) rfl rfl (fun h hR => y_mayV (o := 65) (sz := 85) rfl hR) (by decide) ⟨v2, [e1, e2], rfl, rfl⟩ (fun v s3 hQ => ?_)
  obtain ⟨v3, g3, x3, rfl⟩ := hQ
  refine l_run 2 rfl ?_
  exact next n s3 v3 (jS_G v2.2.2 (jS_G hv.2.2 hg g1) g3)
theorem l_x_second : l_Pub 2 64 0 7 := l_pubC (fun n => K_297) (fun n => K_298) rfl rfl (by decide +kernel) (by decide +kernel) (by decide)
theorem l_m_second : l_Pub 67 295 0 8 := l_pubN (fun n => K_564) rfl (by decide +kernel) (by decide +kernel) (by decide)
theorem l_c1183 : l_Case 1183 := by
  intro xs n s i I hL hi hI hv hg next
  refine l_run 1 rfl ?_
  refine l_call (l_x_second n) rfl (a := [.inr (.inr 2)]) rfl rfl (fun h hR => y_mayV (o := 0) (sz := 15) rfl hR) (by decide) ⟨hv, [], rfl, rfl⟩ (fun v s2 hQ => ?_)
  obtain ⟨v2, g1, x, rfl⟩ := hQ
  refine l_run 2 rfl ?_
  refine l_call (l_m_second n) rfl (a := [.inr (.inr 67)]) rfl rfl (fun h hR => y_mayV (o := 65) (sz := 85) rfl hR) (by decide) ⟨v2, [], rfl, rfl⟩ (fun v s3 hQ => ?_)
  obtain ⟨v3, g3, x3, rfl⟩ := hQ
  refine l_run 2 rfl ?_
  exact next n s3 v3 (jS_G v2.2.2 (jS_G hv.2.2 hg g1) g3)
theorem l_x_aside : l_Pub 2 4 1 7 := l_pubC (fun n => K_364) (fun n => K_365) rfl rfl (by decide +kernel) (by decide +kernel) (by decide)
theorem l_m_aside : l_Pub 67 178 1 8 := l_pubH (K := y_arK) (fun n => y_asideM (n := n) (⟨(by decide +kernel), K_459⟩) (K_525)) (fun n a s h hA => ⟨h.1, l_a1 hA⟩) (fun n a s v s2 hQ => hQ) (by decide +kernel)
theorem l_c1196 : l_Case 1196 := by
  intro xs n s i I hL hi hI hv hg next
  have h1 : (i + Int32.ofInt 1).toInt = ((I + 1 : Nat) : Int) := l_ix (j := 1) hi (by omega) (by omega)
  obtain ⟨e1, he1⟩ : ∃ e, xs[I + 1]? = some e := ⟨_, List.getElem?_eq_getElem (by omega)⟩
  refine l_run 5 rfl ?_
  refine l_sld rfl h1 he1 ?_
  refine l_call (l_x_aside n) rfl (a := [.inr (.inr 2), .inl e1]) rfl rfl (fun h hR => y_mayV (o := 0) (sz := 15) rfl hR) (by decide) ⟨hv, [e1], rfl, rfl⟩ (fun v s2 hQ => ?_)
  obtain ⟨v2, g1, x, rfl⟩ := hQ
  refine l_run 6 rfl ?_
  refine l_sld rfl h1 he1 ?_
  refine l_call (l_m_aside n) rfl (a := [.inr (.inr 67), .inl e1]) rfl rfl (fun h hR => y_mayV (o := 65) (sz := 85) rfl hR) (by decide) ⟨v2, [e1], rfl, rfl⟩ (fun v s3 hQ => ?_)
  obtain ⟨v3, g3, x3, rfl⟩ := hQ
  refine l_run 2 rfl ?_
  exact next n s3 v3 (jS_G v2.2.2 (jS_G hv.2.2 hg g1) g3)
theorem l_x_soonest : l_Pub 2 70 0 5 := l_pubC (fun n => K_218) (fun n => K_219) rfl rfl (by decide +kernel) (by decide +kernel) (by decide)
theorem l_m_soonest : l_Pub 67 301 0 4 := l_pubN (fun n => K_566) rfl (by decide +kernel) (by decide +kernel) (by decide)
theorem l_c1219 : l_Case 1219 := by
  intro xs n s i I hL hi hI hv hg next
  refine l_run 1 rfl ?_
  refine l_call (l_x_soonest n) rfl (a := [.inr (.inr 2)]) rfl rfl (fun h hR => y_mayV (o := 0) (sz := 15) rfl hR) (by decide) ⟨hv, [], rfl, rfl⟩ (fun v s2 hQ => ?_)
  obtain ⟨v2, g1, x, rfl⟩ := hQ
  refine l_run 2 rfl ?_
  refine l_call (l_m_soonest n) rfl (a := [.inr (.inr 67)]) rfl rfl (fun h hR => y_mayV (o := 65) (sz := 85) rfl hR) (by decide) ⟨v2, [], rfl, rfl⟩ (fun v s3 hQ => ?_)
  obtain ⟨v3, g3, x3, rfl⟩ := hQ
  refine l_run 2 rfl ?_
  exact next n s3 v3 (jS_G v2.2.2 (jS_G hv.2.2 hg g1) g3)
theorem l_x_fondest : l_Pub 2 24 0 1 := l_pubC (fun n => K_220) (fun n => K_221) rfl rfl (by decide +kernel) (by decide +kernel) (by decide)
theorem l_m_fondest : l_Pub 67 207 0 1 := l_pubN (fun n => K_567) rfl (by decide +kernel) (by decide +kernel) (by decide)
theorem l_c1232 : l_Case 1232 := by
  intro xs n s i I hL hi hI hv hg next
  refine l_run 1 rfl ?_
  refine l_call (l_x_fondest n) rfl (a := [.inr (.inr 2)]) rfl rfl (fun h hR => y_mayV (o := 0) (sz := 15) rfl hR) (by decide) ⟨hv, [], rfl, rfl⟩ (fun v s2 hQ => ?_)
  obtain ⟨v2, g1, x, rfl⟩ := hQ
  refine l_run 2 rfl ?_
  refine l_call (l_m_fondest n) rfl (a := [.inr (.inr 67)]) rfl rfl (fun h hR => y_mayV (o := 65) (sz := 85) rfl hR) (by decide) ⟨v2, [], rfl, rfl⟩ (fun v s3 hQ => ?_)
  obtain ⟨v3, g3, x3, rfl⟩ := hQ
  refine l_run 2 rfl ?_
  exact next n s3 v3 (jS_G v2.2.2 (jS_G hv.2.2 hg g1) g3)
theorem l_x_waves : l_Pub 2 79 0 1 := l_pubN (fun n => K_217) rfl (by decide +kernel) (by decide +kernel) (by decide)
theorem l_m_waves : l_Pub 67 319 0 1 := l_pubN (fun n => K_568) rfl (by decide +kernel) (by decide +kernel) (by decide)
theorem l_c1245 : l_Case 1245 := by
  intro xs n s i I hL hi hI hv hg next
  refine l_run 1 rfl ?_
  refine l_call (l_x_waves n) rfl (a := [.inr (.inr 2)]) rfl rfl (fun h hR => y_mayV (o := 0) (sz := 15) rfl hR) (by decide) ⟨hv, [], rfl, rfl⟩ (fun v s2 hQ => ?_)
  obtain ⟨v2, g1, x, rfl⟩ := hQ
  refine l_run 2 rfl ?_
  refine l_call (l_m_waves n) rfl (a := [.inr (.inr 67)]) rfl rfl (fun h hR => y_mayV (o := 65) (sz := 85) rfl hR) (by decide) ⟨v2, [], rfl, rfl⟩ (fun v s3 hQ => ?_)
  obtain ⟨v3, g3, x3, rfl⟩ := hQ
  refine l_run 2 rfl ?_
  exact next n s3 v3 (jS_G v2.2.2 (jS_G hv.2.2 hg g1) g3)
theorem l_x_litter : l_Pub 2 45 0 6 := l_pubC (fun n => K_293) (fun n => K_294) rfl rfl (by decide +kernel) (by decide +kernel) (by decide)
theorem l_m_litter : l_Pub 67 254 0 7 := l_pubN (fun n => K_569) rfl (by decide +kernel) (by decide +kernel) (by decide)
theorem l_c1258 : l_Case 1258 := by
  intro xs n s i I hL hi hI hv hg next
  refine l_run 1 rfl ?_
  refine l_call (l_x_litter n) rfl (a := [.inr (.inr 2)]) rfl rfl (fun h hR => y_mayV (o := 0) (sz := 15) rfl hR) (by decide) ⟨hv, [], rfl, rfl⟩ (fun v s2 hQ => ?_)
  obtain ⟨v2, g1, x, rfl⟩ := hQ
  refine l_run 2 rfl ?_
  refine l_call (l_m_litter n) rfl (a := [.inr (.inr 67)]) rfl rfl (fun h hR => y_mayV (o := 65) (sz := 85) rfl hR) (by decide) ⟨v2, [], rfl, rfl⟩ (fun v s3 hQ => ?_)
  obtain ⟨v3, g3, x3, rfl⟩ := hQ
  refine l_run 2 rfl ?_
  exact next n s3 v3 (jS_G v2.2.2 (jS_G hv.2.2 hg g1) g3)
theorem l_x_law : l_Pub 2 39 1 7 := l_pubC (fun n => K_295) (fun n => K_296) rfl rfl (by decide +kernel) (by decide +kernel) (by decide)
theorem l_m_law : l_Pub 67 243 1 8 := l_pubN (fun n => K_571) rfl (by decide +kernel) (by decide +kernel) (by decide)
theorem l_c1271 : l_Case 1271 := by
  intro xs n s i I hL hi hI hv hg next
  have h1 : (i + Int32.ofInt 1).toInt = ((I + 1 : Nat) : Int) := l_ix (j := 1) hi (by omega) (by omega)
  obtain ⟨e1, he1⟩ : ∃ e, xs[I + 1]? = some e := ⟨_, List.getElem?_eq_getElem (by omega)⟩
  refine l_run 5 rfl ?_
  refine l_sld rfl h1 he1 ?_
  refine l_call (l_x_law n) rfl (a := [.inr (.inr 2), .inl e1]) rfl rfl (fun h hR => y_mayV (o := 0) (sz := 15) rfl hR) (by decide) ⟨hv, [e1], rfl, rfl⟩ (fun v s2 hQ => ?_)
  obtain ⟨v2, g1, x, rfl⟩ := hQ
  refine l_run 6 rfl ?_
  refine l_sld rfl h1 he1 ?_
  refine l_call (l_m_law n) rfl (a := [.inr (.inr 67), .inl e1]) rfl rfl (fun h hR => y_mayV (o := 65) (sz := 85) rfl hR) (by decide) ⟨v2, [e1], rfl, rfl⟩ (fun v s3 hQ => ?_)
  obtain ⟨v3, g3, x3, rfl⟩ := hQ
  refine l_run 2 rfl ?_
  exact next n s3 v3 (jS_G v2.2.2 (jS_G hv.2.2 hg g1) g3)
theorem l_x_odds : l_Pub 2 51 2 3 := l_pubC (fun n => K_389) (fun n => K_390) rfl rfl (by decide +kernel) (by decide +kernel) (by decide)
theorem l_m_odds : l_Pub 67 265 2 2 := l_pubN (fun n => K_575) rfl (by decide +kernel) (by decide +kernel) (by decide)
theorem l_c1294 : l_Case 1294 := by
  intro xs n s i I hL hi hI hv hg next
  have h1 : (i + Int32.ofInt 1).toInt = ((I + 1 : Nat) : Int) := l_ix (j := 1) hi (by omega) (by omega)
  obtain ⟨e1, he1⟩ : ∃ e, xs[I + 1]? = some e := ⟨_, List.getElem?_eq_getElem (by omega)⟩
  have h2 : (i + Int32.ofInt 2).toInt = ((I + 2 : Nat) : Int) := l_ix (j := 2) hi (by omega) (by omega)
  obtain ⟨e2, he2⟩ : ∃ e, xs[I + 2]? = some e := ⟨_, List.getElem?_eq_getElem (by omega)⟩
  refine l_run 5 rfl ?_
  refine l_sld rfl h1 he1 ?_
  refine l_run 4 rfl ?_
  refine l_sld rfl h2 he2 ?_
  refine l_call (l_x_odds n) rfl (a := [.inr (.inr 2), .inl e1, .inl e2]) rfl rfl (fun h hR => y_mayV (o := 0) (sz := 15) rfl hR) (by decide) ⟨hv, [e1, e2], rfl, rfl⟩ (fun v s2 hQ => ?_)
  obtain ⟨v2, g1, x, rfl⟩ := hQ
  refine l_run 6 rfl ?_
  refine l_sld rfl h1 he1 ?_
  refine l_run 4 rfl ?_
  refine l_sld rfl h2 he2 ?_
  refine l_call (l_m_odds n) rfl (a := [.inr (.inr 67), .inl e1, .inl e2]) rfl rfl (fun h hR => y_mayV (o := 65) (sz := 85) rfl hR) (by decide) ⟨v2, [e1, e2], rfl, rfl⟩ (fun v s3 hQ => ?_)
  obtain ⟨v3, g3, x3, rfl⟩ := hQ
  refine l_run 2 rfl ?_
  exact next n s3 v3 (jS_G v2.2.2 (jS_G hv.2.2 hg g1) g3)
theorem l_x_lies : l_Pub 2 44 1 1 := l_pubN (fun n => K_391) rfl (by decide +kernel) (by decide +kernel) (by decide)
theorem l_m_lies : l_Pub 67 253 1 2 := l_pubN (fun n => K_576) rfl (by decide +kernel) (by decide +kernel) (by decide)
theorem l_c1327 : l_Case 1327 := by
  intro xs n s i I hL hi hI hv hg next
  have h1 : (i + Int32.ofInt 1).toInt = ((I + 1 : Nat) : Int) := l_ix (j := 1) hi (by omega) (by omega)
  obtain ⟨e1, he1⟩ : ∃ e, xs[I + 1]? = some e := ⟨_, List.getElem?_eq_getElem (by omega)⟩
  refine l_run 5 rfl ?_
  refine l_sld rfl h1 he1 ?_
  refine l_call (l_x_lies n) rfl (a := [.inr (.inr 2), .inl e1]) rfl rfl (fun h hR => y_mayV (o := 0) (sz := 15) rfl hR) (by decide) ⟨hv, [e1], rfl, rfl⟩ (fun v s2 hQ => ?_)
  obtain ⟨v2, g1, x, rfl⟩ := hQ
  refine l_run 6 rfl ?_
  refine l_sld rfl h1 he1 ?_
  refine l_call (l_m_lies n) rfl (a := [.inr (.inr 67), .inl e1]) rfl rfl (fun h hR => y_mayV (o := 65) (sz := 85) rfl hR) (by decide) ⟨v2, [e1], rfl, rfl⟩ (fun v s3 hQ => ?_)
  obtain ⟨v3, g3, x3, rfl⟩ := hQ
  refine l_run 2 rfl ?_
  exact next n s3 v3 (jS_G v2.2.2 (jS_G hv.2.2 hg g1) g3)
abbrev l_kSX : List (Nat × Nat) := [(225345, 225345), (229440, 229469), (233536, 233565), (237632, 237661), (241728, 241757), (245824, 245853)]
abbrev l_kSM : List (Nat × Nat) := [(266382, 266382), (393280, 393309), (397376, 397405), (401472, 401501), (405568, 405597), (409664, 409693)]
theorem l_x_seen : ∀ n, y_C g_sh g_ts 65 2 (fun a s => LInv n s ∧ ∃ x y z : Int32, 0 ≤ z.toInt ∧ z.toInt ≤ 1 ∧ a = [.inr (.inr 2), .inl x, .inl y, .inl z]) (fun _ s v s2 => w_T (y_Vn n) g_sh (y_mk g_sh s2) ∧ y_fr g_sh l_kSX s s2 ∧ ∃ x : Int32, v = some (.inl x)) := l_frCP (Pa := fun a => ∃ x y z : Int32, 0 ≤ z.toInt ∧ z.toInt ≤ 1 ∧ a = [.inr (.inr 2), .inl x, .inl y, .inl z]) (fun n => K_393) (fun n => K_394) (fun σ a h => by
    obtain ⟨x, y, z, z0, z1, rfl⟩ := h
    exact ⟨⟨2, rfl, List.mem_cons_self⟩, y_ivall, y_ivall, y_iv (by omega) (by omega), True.intro⟩) (fun σ a h => by
    obtain ⟨x, y, z, z0, z1, rfl⟩ := h
    exact ⟨⟨2, rfl, List.mem_cons_self⟩, y_ivall, y_ivall, y_iv (by omega) (by omega), True.intro⟩) (by decide +kernel) (by decide +kernel) (by decide)
theorem l_m_seen : ∀ n, y_C g_sh g_ts 296 2 (fun a s => LInv n s ∧ ∃ x y z : Int32, 0 ≤ z.toInt ∧ z.toInt ≤ 1 ∧ a = [.inr (.inr 67), .inl x, .inl y, .inl z]) (fun _ s v s2 => w_T (y_Vn n) g_sh (y_mk g_sh s2) ∧ y_fr g_sh l_kSM s s2 ∧ ∃ x : Int32, v = some (.inl x)) := l_frNP (Pa := fun a => ∃ x y z : Int32, 0 ≤ z.toInt ∧ z.toInt ≤ 1 ∧ a = [.inr (.inr 67), .inl x, .inl y, .inl z]) (fun n => K_578) (fun σ a h => by
    obtain ⟨x, y, z, z0, z1, rfl⟩ := h
    exact ⟨⟨67, rfl, List.mem_cons_self⟩, y_ivall, y_ivall, y_iv (by omega) (by omega), True.intro⟩) (by decide +kernel) (by decide +kernel) (by decide)
/-- what a SEEN leaves alone -/
theorem l_sX {s s2 : y_H} (hf : y_fr g_sh l_kSX s s2) : (∀ o k, lX o k → s2.1 o k = s.1 o k) ∧ (∀ o k, (qD 5 o k ∨ qD 17 o k ∨ mD o k) → s2.1 o k = s.1 o k) ∧ (∀ o k, vS o k → ¬ qV o k → s2.1 o k = s.1 o k) ∧ s2.1 55 0 = s.1 55 0 := by
  refine ⟨l_X_at hf (by decide +kernel), fun o k h => t_at hf (by decide +kernel) h, fun o k h h2 => ?_, hf.at (o := 55) (k := 0) rfl rfl (by decide +kernel)⟩
  refine zT_fr (vS_T h) hf (l_ou (r := (266304, 99999999)) (by decide +kernel) ?_ ?_)
  · unfold vS at h
    unfold w_key
    show 266304 ≤ _
    rcases h with h | h | h
    · exact absurd h h2
    · omega
    · omega
  · unfold vS at h
    unfold w_key
    show _ ≤ 99999999
    rcases h with h | h | h
    · exact absurd h h2
    · omega
    · omega
theorem l_sM {s s2 : y_H} (hf : y_fr g_sh l_kSM s s2) : (∀ o k, lX o k → s2.1 o k = s.1 o k) ∧ (∀ o k, (qD 5 o k ∨ qD 17 o k ∨ mD o k) → s2.1 o k = s.1 o k) ∧ (∀ o k, qV o k → s2.1 o k = s.1 o k) := by
  refine ⟨l_X_at hf (by decide +kernel), fun o k h => t_at hf (by decide +kernel) h, fun o k h => ?_⟩
  refine zT_fr (qV_T h) hf (l_ou (r := (0, 266303)) (by decide +kernel) (Nat.zero_le _) ?_)
  unfold qV at h
  unfold w_key
  show _ ≤ 266303
  omega
/-- both note a SEEN, or neither: alike -/
theorem l_seen_eq {s s2 s3 : y_H} {p1 p2 p3 x x3 : Int32} (hU : y_Un s) (hg : jA s) (hf : y_fr g_sh l_kSX s s2) (hT2 : s2.2.2 0 2 = s.2.2 0 2) (hx : ∃ t, u_c 65 [.inr (.inr 2), .inl p1, .inl p2, .inl p3] (uP s) = some (some (.inl x), t) ∧ zA t s2) (hf3 : y_fr g_sh l_kSM s2 s3) (hT3 : s3.2.2 0 2 = s2.2.2 0 2) (hm : ∃ t, u_c 296 [.inr (.inr 67), .inl p1, .inl p2, .inl p3] (uP s2) = some (some (.inl x3), t) ∧ zA t s3) : x = x3 ∧ jA s3 := by
  obtain ⟨a1, a2, a3, a4⟩ := l_sX hf
  obtain ⟨b1, b2, b3⟩ := l_sM hf3
  obtain ⟨hX, ⟨a, b, hT⟩, m, t, hV⟩ := hg
  have hT0 := (y_Un_T hU).1
  obtain ⟨t2, e1, z1⟩ := hx
  obtain ⟨t3, e2, z2⟩ := hm
  have hb := hT.2.1
  have hV0 := hV
  obtain ⟨V1, V2, ⟨V3, V4, V5, V6⟩, V7⟩ := hV0
  have h48 : (uP s2).1 65 48 = zi b := (a2 65 48 (by unfold mD; omega)).trans hT.2.2.1.2.2.2
  have h78 : (uP s2).1 65 78 = zi m := (a3 65 78 (by unfold vS; omega) (by unfold qV; omega)).trans V4
  have c := c_seen (T := s.2.2 0 2) hT0 (s := uP s) rfl hb V1 hT.2.2.1.2.2.1 V3 e1
  have d := m_seen (s := uP s2) hb V1 h48 h78 e2
  have jx : jX s3.1 := jX_fr (jX_fr hX a1) b1
  have jt : ∃ a b, aT s3.1 (s3.2.2 0 2) a b := by
    refine ⟨a, b, ?_⟩
    rw [hT3, hT2]
    have w : ∀ o k, (qD (s.2.2 0 2) o k ∨ mD o k) → (qD 5 o k ∨ qD 17 o k ∨ mD o k) := fun o k q => by
      rcases q with q | q
      · rcases hT0 with h | h
        · rw [h] at q
          exact Or.inl q
        · rw [h] at q
          exact Or.inr (Or.inl q)
      · exact Or.inr (Or.inr q)
    exact aT_fr hT (fun o k q => (b2 o k (w o k q)).trans (a2 o k (w o k q)))
  rcases c with ⟨c1, c2, c3⟩ | ⟨c1, c2, c3⟩
  · rcases d with ⟨d1, d2, d3⟩ | ⟨d1, d2, d3⟩
    · injection c2 with c2
      injection c2 with c2
      injection d2 with d2
      injection d2 with d2
      refine ⟨c2.trans d2.symm, jx, jt, m + 1, t, ?_⟩
      refine v_seen (g := s.1) (g2 := s2.1) (p1 := p1) (p2 := p2) (p3 := p3) hV c1.2.2.2.2.2 (fun o k q => ?_) a3 (fun o k q q2 => ?_) b3
      · rw [← zT_A (qV_T q) z1, c3]
        rfl
      · rw [← zT_A (vS_T q) z2, d3]
        rfl
    · exact absurd c1 d1
  · rcases d with ⟨d1, d2, d3⟩ | ⟨d1, d2, d3⟩
    · exact absurd d1 c1
    · injection c2 with c2
      injection c2 with c2
      injection d2 with d2
      injection d2 with d2
      refine ⟨c2.trans d2.symm, jx, jt, m, t, aV_fr hV (fun o k q => ?_)⟩
      by_cases q2 : qV o k
      · rw [b3 o k q2, ← zT_A (vS_T q) z1, c3]
        rfl
      · rw [← zT_A (vS_T q) z2, d3]
        exact a3 o k q q2
theorem l_sS {s s2 s3 : y_H} (hg : jS s) (jg : jA s3) (f2 : y_fr g_sh l_kSX s s2) (f3 : y_fr g_sh l_kSM s2 s3) : jS s3 := jS_of hg jg (fun o k q => (t_at f3 (by decide +kernel) (Or.inr (Or.inr q))).trans (t_at f2 (by decide +kernel) (Or.inr (Or.inr q)))) (fun o k q => (s_at f3 (by decide +kernel) q).trans (s_at f2 (by decide +kernel) q))
theorem l_c1350 : l_Case 1350 := by
  intro xs n s i I hL hi hI hv hg next
  have h1 : (i + Int32.ofInt 1).toInt = ((I + 1 : Nat) : Int) := l_ix (j := 1) hi (by omega) (by omega)
  have h2 : (i + Int32.ofInt 2).toInt = ((I + 2 : Nat) : Int) := l_ix (j := 2) hi (by omega) (by omega)
  have h3 : (i + Int32.ofInt 3).toInt = ((I + 3 : Nat) : Int) := l_ix (j := 3) hi (by omega) (by omega)
  obtain ⟨e1, he1⟩ : ∃ e, xs[I + 1]? = some e := ⟨_, List.getElem?_eq_getElem (by omega)⟩
  obtain ⟨e2, he2⟩ : ∃ e, xs[I + 2]? = some e := ⟨_, List.getElem?_eq_getElem (by omega)⟩
  obtain ⟨e3, he3⟩ : ∃ e, xs[I + 3]? = some e := ⟨_, List.getElem?_eq_getElem (by omega)⟩
  have cm : ∀ (z z2 x : Int32) (s2 : y_H), z = z2 → 0 ≤ z.toInt → z.toInt ≤ 1 → LInv n s2 → y_fr g_sh l_kSX s s2 → s2.2.2 0 2 = s.2.2 0 2 → (∃ t, u_c 65 [.inr (.inr 2), .inl e1, .inl e2, .inl z] (uP s) = some (some (.inl x), t) ∧ zA t s2) → l_W xs 1402 (l_ls i) [.inl z2, .inl e2, .inl e1, .inr (.inr 67)] s2 := by
    intro z z2 x s2 ez z0 z1 hv2 f2 hT2 ht2
    subst ez
    refine l_call (y_C.u (by decide) (l_m_seen n)) rfl (a := [.inr (.inr 67), .inl e1, .inl e2, .inl z]) rfl rfl (fun h hR => y_mayV (o := 65) (sz := 85) rfl hR) (by decide) ⟨hv2, e1, e2, z, z0, z1, rfl⟩ (fun v s3 hQ => ?_)
    obtain ⟨⟨w3, f3, x3, rfl⟩, ht3⟩ := hQ
    obtain ⟨v3, hT3⟩ := l_frI (by decide +kernel) hv2 w3 f3
    obtain ⟨ex, jg⟩ := l_seen_eq hv.2.2 hg.1 f2 hT2 ht2 f3 hT3 ht3
    refine l_run 2 rfl ?_
    exact next n s3 v3 (l_sS hg jg f2 f3)
  have go : ∀ (z : Int32), 0 ≤ z.toInt → z.toInt ≤ 1 → (∀ (x : Int32) (s2 : y_H), LInv n s2 → y_fr g_sh l_kSX s s2 → s2.2.2 0 2 = s.2.2 0 2 → (∃ t, u_c 65 [.inr (.inr 2), .inl e1, .inl e2, .inl z] (uP s) = some (some (.inl x), t) ∧ zA t s2) → l_W xs 1377 (l_ls i) [.inl x] s2) → l_W xs 1374 (l_ls i) [.inl z, .inl e2, .inl e1, .inr (.inr 2)] s := by
    intro z z0 z1 hk
    refine l_call (y_C.u (by decide) (l_x_seen n)) rfl (a := [.inr (.inr 2), .inl e1, .inl e2, .inl z]) rfl rfl (fun h hR => y_mayV (o := 0) (sz := 15) rfl hR) (by decide) ⟨hv, e1, e2, z, z0, z1, rfl⟩ (fun v s2 hQ => ?_)
    obtain ⟨⟨w2, f2, x, rfl⟩, ht2⟩ := hQ
    obtain ⟨v2, hT2⟩ := l_frI (by decide +kernel) hv w2 f2
    exact hk x s2 v2 f2 hT2 ht2
  refine l_run 5 rfl ?_
  refine l_sld rfl h1 he1 ?_
  refine l_run 4 rfl ?_
  refine l_sld rfl h2 he2 ?_
  refine l_run 4 rfl ?_
  refine l_sld rfl h3 he3 ?_
  refine l_if rfl (fun c0 => ?_) (fun c0 => ?_)
  · refine l_run 1 rfl ?_
    refine go _ (show (0 : Int) ≤ 0 by omega) (show (0 : Int) ≤ 1 by omega) (fun x s2 v2 f2 hT2 ht2 => ?_)
    refine l_run 6 rfl ?_
    refine l_sld rfl h1 he1 ?_
    refine l_run 4 rfl ?_
    refine l_sld rfl h2 he2 ?_
    refine l_run 4 rfl ?_
    refine l_sld rfl h3 he3 ?_
    refine l_if rfl (fun c1 => ?_) (fun c1 => ?_)
    · refine l_run 1 rfl ?_
      exact cm _ _ x s2 rfl (show (0 : Int) ≤ 0 by omega) (show (0 : Int) ≤ 1 by omega) v2 f2 hT2 ht2
    · exact absurd c0 c1
  · refine l_run 2 rfl ?_
    refine go _ (show (0 : Int) ≤ 1 by omega) (show (1 : Int) ≤ 1 by omega) (fun x s2 v2 f2 hT2 ht2 => ?_)
    refine l_run 6 rfl ?_
    refine l_sld rfl h1 he1 ?_
    refine l_run 4 rfl ?_
    refine l_sld rfl h2 he2 ?_
    refine l_run 4 rfl ?_
    refine l_sld rfl h3 he3 ?_
    refine l_if rfl (fun c1 => ?_) (fun c1 => ?_)
    · exact absurd c1 c0
    · refine l_run 2 rfl ?_
      exact cm _ _ x s2 rfl (show (0 : Int) ≤ 1 by omega) (show (1 : Int) ≤ 1 by omega) v2 f2 hT2 ht2
theorem l_x_untell : ∀ n, y_C g_sh g_ts 78 2 (fun a s => LInv n s ∧ l_A 2 1 a) (fun _ s v s2 => w_T (y_Vn n) g_sh (y_mk g_sh s2) ∧ y_fr g_sh l_kSX s s2 ∧ ∃ x : Int32, v = some (.inl x)) := l_frNP (fun n => K_396) (l_stA rfl) (by decide +kernel) (by decide +kernel) (by decide)
theorem l_m_untell : ∀ n, y_C g_sh g_ts 317 2 (fun a s => LInv n s ∧ l_A 67 1 a) (fun _ s v s2 => w_T (y_Vn n) g_sh (y_mk g_sh s2) ∧ y_fr g_sh l_kSM s s2 ∧ ∃ x : Int32, v = some (.inl x)) := l_frNP (fun n => K_580) (l_stA rfl) (by decide +kernel) (by decide +kernel) (by decide)
/-- both tell it no more, or neither -/
theorem l_unt_eq {s s2 s3 : y_H} {p x x3 : Int32} (hU : y_Un s) (hg : jA s) (hf : y_fr g_sh l_kSX s s2) (hT2 : s2.2.2 0 2 = s.2.2 0 2) (hx : ∃ t, u_c 78 [.inr (.inr 2), .inl p] (uP s) = some (some (.inl x), t) ∧ zA t s2) (hf3 : y_fr g_sh l_kSM s2 s3) (hT3 : s3.2.2 0 2 = s2.2.2 0 2) (hm : ∃ t, u_c 317 [.inr (.inr 67), .inl p] (uP s2) = some (some (.inl x3), t) ∧ zA t s3) : x = x3 ∧ jA s3 := by
  obtain ⟨a1, a2, a3, a4⟩ := l_sX hf
  obtain ⟨b1, b2, b3⟩ := l_sM hf3
  obtain ⟨hX, ⟨a, b, hT⟩, m, t, hV⟩ := hg
  have hT0 := (y_Un_T hU).1
  obtain ⟨t2, e1, z1⟩ := hx
  obtain ⟨t3, e2, z2⟩ := hm
  have hV0 := hV
  obtain ⟨V1, V2, ⟨V3, V4, V5, V6⟩, V7⟩ := hV0
  have h78 : (uP s2).1 65 78 = zi m := (a3 65 78 (by unfold vS; omega) (by unfold qV; omega)).trans V4
  have h79 : (uP s2).1 65 79 = zi t := (a3 65 79 (by unfold vS; omega) (by unfold qV; omega)).trans V6
  have h99 : ∀ j, j < m → (uP s2).1 99 j = s.1 99 j := fun j hj => a3 99 j (by unfold vS; omega) (by unfold qV; omega)
  have c := c_untell (s := uP s) V1 V3 e1
  have d := m_untell (s := uP s2) V1 h78 e2
  have jx : jX s3.1 := jX_fr (jX_fr hX a1) b1
  have jt : ∃ a b, aT s3.1 (s3.2.2 0 2) a b := by
    refine ⟨a, b, ?_⟩
    rw [hT3, hT2]
    have w : ∀ o k, (qD (s.2.2 0 2) o k ∨ mD o k) → (qD 5 o k ∨ qD 17 o k ∨ mD o k) := fun o k q => by
      rcases q with q | q
      · rcases hT0 with h | h
        · rw [h] at q
          exact Or.inl q
        · rw [h] at q
          exact Or.inr (Or.inl q)
      · exact Or.inr (Or.inr q)
    exact aT_fr hT (fun o k q => (b2 o k (w o k q)).trans (a2 o k (w o k q)))
  rcases c with ⟨j, hj, hp, c1, c2, c3⟩ | ⟨c1, c2, c3⟩
  · rcases d with ⟨j2, hj2, hp2, d1, d2, d3⟩ | ⟨d1, d2, d3⟩
    · have ej : j = j2 := (zi_inj (by omega) (by omega)).mp (hp.symm.trans hp2)
      subst ej
      injection c2 with c2
      injection c2 with c2
      injection d2 with d2
      injection d2 with d2
      refine ⟨c2.trans d2.symm, jx, jt, m, t, v_untell2 hV hj (fun o k q q2 => ?_) ?_ ?_⟩
      · by_cases q3 : qV o k
        · rw [b3 o k q3, ← zT_A (vS_T q) z1, c3]
          exact y_uN (by omega)
        · rw [← zT_A (vS_T q) z2, d3, y_uN (by omega)]
          exact a3 o k q q3
      · rw [b3 60 j (by unfold qV; omega), ← zT_A (qV_T (by unfold qV; omega)) z1, c3, y_uE]
        exact V5
      · rw [← zT_A (vS_T (by unfold vS; omega)) z2, d3, y_uE]
        exact h79
    · refine absurd ((v_untell hV hj).mp c1) ?_
      have := d1 j hj hp
      rw [h99 j hj] at this
      exact this
  · rcases d with ⟨j, hj, hp, d1, d2, d3⟩ | ⟨d1, d2, d3⟩
    · rw [h99 j hj] at d1
      exact absurd ((v_untell hV hj).mpr d1) (c1 j hj hp)
    · injection c2 with c2
      injection c2 with c2
      injection d2 with d2
      injection d2 with d2
      refine ⟨c2.trans d2.symm, jx, jt, m, t, aV_fr hV (fun o k q => ?_)⟩
      by_cases q2 : qV o k
      · rw [b3 o k q2, ← zT_A (vS_T q) z1, c3]
        rfl
      · rw [← zT_A (vS_T q) z2, d3]
        exact a3 o k q q2
theorem l_c1409 : l_Case 1409 := by
  intro xs n s i I hL hi hI hv hg next
  have h1 : (i + Int32.ofInt 1).toInt = ((I + 1 : Nat) : Int) := l_ix (j := 1) hi (by omega) (by omega)
  obtain ⟨e1, he1⟩ : ∃ e, xs[I + 1]? = some e := ⟨_, List.getElem?_eq_getElem (by omega)⟩
  refine l_run 5 rfl ?_
  refine l_sld rfl h1 he1 ?_
  refine l_call (y_C.u (by decide) (l_x_untell n)) rfl (a := [.inr (.inr 2), .inl e1]) rfl rfl (fun h hR => y_mayV (o := 0) (sz := 15) rfl hR) (by decide) ⟨hv, [e1], rfl, rfl⟩ (fun v s2 hQ => ?_)
  obtain ⟨⟨w2, f2, x, rfl⟩, ht2⟩ := hQ
  obtain ⟨v2, hT2⟩ := l_frI (by decide +kernel) hv w2 f2
  refine l_run 6 rfl ?_
  refine l_sld rfl h1 he1 ?_
  refine l_call (y_C.u (by decide) (l_m_untell n)) rfl (a := [.inr (.inr 67), .inl e1]) rfl rfl (fun h hR => y_mayV (o := 65) (sz := 85) rfl hR) (by decide) ⟨v2, [e1], rfl, rfl⟩ (fun v s3 hQ => ?_)
  obtain ⟨⟨w3, f3, x3, rfl⟩, ht3⟩ := hQ
  obtain ⟨v3, hT3⟩ := l_frI (by decide +kernel) v2 w3 f3
  obtain ⟨ex, jg⟩ := l_unt_eq hv.2.2 hg.1 f2 hT2 ht2 f3 hT3 ht3
  refine l_run 2 rfl ?_
  exact next n s3 v3 (l_sS hg jg f2 f3)
theorem l_x_fits : l_Pub 2 23 1 4 := l_pubN (fun n => K_402) rfl (by decide +kernel) (by decide +kernel) (by decide)
theorem l_lj : ∀ n, y_C g_sh g_ts 244 6 (fun a s => w_T (y_Vn n) g_sh (y_mk g_sh s) ∧ ∃ x : Int32, a = [.inr (.inr 67), .inl x]) (fun _ s v s2 => y_ljQ (y_Vn n) s v s2) := fun n => y_layFitsJ (V := y_Vn n) ⟨by decide +kernel, K_459⟩ K_582 K_583 K_468 K_501 K_481 ⟨K_504, K_503, K_502⟩
def l_f2 : List (q_V Int32) → List (q_V Int32)
  | [a, _, c] => [a, c]
  | l => l
theorem l_m_fits : l_Pub 67 205 1 7 := l_pubND (K := e_585.2.2.2.1) (l_nd (by decide) id (fun a h => l_a1 h) (fun a s t4 t v4 v h h4 h1 j hj => by
  obtain ⟨x, rfl⟩ := l_a1 h
  have := m_fits h4 h1
  exact Or.inr (by rw [← this])) (l_frNP (KK := e_585.2.2.2.1) (fun n => K_585) (l_stA rfl) (by decide +kernel) (by decide +kernel) (by decide)) l_lj) (by decide +kernel)
theorem l_c1455 : l_Case 1455 := by
  intro xs n s i I hL hi hI hv hg next
  have h1 : (i + Int32.ofInt 1).toInt = ((I + 1 : Nat) : Int) := l_ix (j := 1) hi (by omega) (by omega)
  obtain ⟨e1, he1⟩ : ∃ e, xs[I + 1]? = some e := ⟨_, List.getElem?_eq_getElem (by omega)⟩
  refine l_run 5 rfl ?_
  refine l_sld rfl h1 he1 ?_
  refine l_call (l_x_fits n) rfl (a := [.inr (.inr 2), .inl e1]) rfl rfl (fun h hR => y_mayV (o := 0) (sz := 15) rfl hR) (by decide) ⟨hv, [e1], rfl, rfl⟩ (fun v s2 hQ => ?_)
  obtain ⟨v2, g1, x, rfl⟩ := hQ
  refine l_run 6 rfl ?_
  refine l_sld rfl h1 he1 ?_
  refine l_call (l_m_fits n) rfl (a := [.inr (.inr 67), .inl e1]) rfl rfl (fun h hR => y_mayV (o := 65) (sz := 85) rfl hR) (by decide) ⟨v2, [e1], rfl, rfl⟩ (fun v s3 hQ => ?_)
  obtain ⟨v3, g3, x3, rfl⟩ := hQ
  refine l_run 2 rfl ?_
  exact next n s3 v3 (jS_G v2.2.2 (jS_G hv.2.2 hg g1) g3)
theorem l_x_sure : l_Pub 2 73 2 4 := l_pubN (fun n => K_405) rfl (by decide +kernel) (by decide +kernel) (by decide)
theorem l_m_sure : l_Pub 67 305 2 7 := l_pubND (K := e_586.2.2.2.1) (l_nd (by decide) l_f2 (fun a h => by
  obtain ⟨w, x, rfl⟩ := l_a2 h
  exact ⟨x, rfl⟩) (fun a s t4 t v4 v h h4 h1 j hj => by
  obtain ⟨w, x, rfl⟩ := l_a2 h
  rcases m_sure h4 h1 with q | q
  · exact Or.inl (by rw [← q])
  · exact Or.inr (by rw [← q])) (l_frNP (KK := e_586.2.2.2.1) (fun n => K_586) (l_stA rfl) (by decide +kernel) (by decide +kernel) (by decide)) l_lj) (by decide +kernel)
theorem l_c1478 : l_Case 1478 := by
  intro xs n s i I hL hi hI hv hg next
  have h1 : (i + Int32.ofInt 1).toInt = ((I + 1 : Nat) : Int) := l_ix (j := 1) hi (by omega) (by omega)
  obtain ⟨e1, he1⟩ : ∃ e, xs[I + 1]? = some e := ⟨_, List.getElem?_eq_getElem (by omega)⟩
  have h2 : (i + Int32.ofInt 2).toInt = ((I + 2 : Nat) : Int) := l_ix (j := 2) hi (by omega) (by omega)
  obtain ⟨e2, he2⟩ : ∃ e, xs[I + 2]? = some e := ⟨_, List.getElem?_eq_getElem (by omega)⟩
  refine l_run 5 rfl ?_
  refine l_sld rfl h1 he1 ?_
  refine l_run 4 rfl ?_
  refine l_sld rfl h2 he2 ?_
  refine l_call (l_x_sure n) rfl (a := [.inr (.inr 2), .inl e1, .inl e2]) rfl rfl (fun h hR => y_mayV (o := 0) (sz := 15) rfl hR) (by decide) ⟨hv, [e1, e2], rfl, rfl⟩ (fun v s2 hQ => ?_)
  obtain ⟨v2, g1, x, rfl⟩ := hQ
  refine l_run 6 rfl ?_
  refine l_sld rfl h1 he1 ?_
  refine l_run 4 rfl ?_
  refine l_sld rfl h2 he2 ?_
  refine l_call (l_m_sure n) rfl (a := [.inr (.inr 67), .inl e1, .inl e2]) rfl rfl (fun h hR => y_mayV (o := 65) (sz := 85) rfl hR) (by decide) ⟨v2, [e1, e2], rfl, rfl⟩ (fun v s3 hQ => ?_)
  obtain ⟨v3, g3, x3, rfl⟩ := hQ
  refine l_run 2 rfl ?_
  exact next n s3 v3 (jS_G v2.2.2 (jS_G hv.2.2 hg g1) g3)
theorem l_x_ask : l_Pub 2 5 2 4 := l_pubN (fun n => K_407) rfl (by decide +kernel) (by decide +kernel) (by decide)
theorem l_m_ask : l_Pub 67 179 2 7 := l_pubND (K := e_589.2.2.2.1) (l_nd (by decide) l_f2 (fun a h => by
  obtain ⟨w, x, rfl⟩ := l_a2 h
  exact ⟨x, rfl⟩) (fun a s t4 t v4 v h h4 h1 j hj => by
  obtain ⟨w, x, rfl⟩ := l_a2 h
  rcases m_ask h4 h1 with q | q
  · exact Or.inl (by rw [← q])
  · exact Or.inr (q.i (fun z => by have z : 83 = 102 := z; omega))) (l_frNP (KK := e_589.2.2.2.1) (fun n => K_589) (l_stA rfl) (by decide +kernel) (by decide +kernel) (by decide)) l_lj) (by decide +kernel)
theorem l_c1511 : l_Case 1511 := by
  intro xs n s i I hL hi hI hv hg next
  have h1 : (i + Int32.ofInt 1).toInt = ((I + 1 : Nat) : Int) := l_ix (j := 1) hi (by omega) (by omega)
  obtain ⟨e1, he1⟩ : ∃ e, xs[I + 1]? = some e := ⟨_, List.getElem?_eq_getElem (by omega)⟩
  have h2 : (i + Int32.ofInt 2).toInt = ((I + 2 : Nat) : Int) := l_ix (j := 2) hi (by omega) (by omega)
  obtain ⟨e2, he2⟩ : ∃ e, xs[I + 2]? = some e := ⟨_, List.getElem?_eq_getElem (by omega)⟩
  refine l_run 5 rfl ?_
  refine l_sld rfl h1 he1 ?_
  refine l_run 4 rfl ?_
  refine l_sld rfl h2 he2 ?_
  refine l_call (l_x_ask n) rfl (a := [.inr (.inr 2), .inl e1, .inl e2]) rfl rfl (fun h hR => y_mayV (o := 0) (sz := 15) rfl hR) (by decide) ⟨hv, [e1, e2], rfl, rfl⟩ (fun v s2 hQ => ?_)
  obtain ⟨v2, g1, x, rfl⟩ := hQ
  refine l_run 6 rfl ?_
  refine l_sld rfl h1 he1 ?_
  refine l_run 4 rfl ?_
  refine l_sld rfl h2 he2 ?_
  refine l_call (l_m_ask n) rfl (a := [.inr (.inr 67), .inl e1, .inl e2]) rfl rfl (fun h hR => y_mayV (o := 65) (sz := 85) rfl hR) (by decide) ⟨v2, [e1, e2], rfl, rfl⟩ (fun v s3 hQ => ?_)
  obtain ⟨v3, g3, x3, rfl⟩ := hQ
  refine l_run 2 rfl ?_
  exact next n s3 v3 (jS_G v2.2.2 (jS_G hv.2.2 hg g1) g3)
theorem l_x_image : ∀ n, y_C g_sh g_ts 29 2 (fun a s => LInv n s ∧ l_A 2 1 a) (fun _ s v s2 => w_T (y_Vn n) g_sh (y_mk g_sh s2) ∧ y_fr g_sh y_bxK s s2 ∧ ∃ x : Int32, v = some (.inl x)) := l_frH (K := y_bxK) (fun n => y_imageC (n := n) ) (fun n a s h hA => ⟨h.1, l_a1 hA⟩) (fun n a s v s2 hQ => hQ)
theorem l_m_image : ∀ n, y_C g_sh g_ts 222 2 (fun a s => LInv n s ∧ l_A 67 1 a) (fun _ s v s2 => w_T (y_Vn n) g_sh (y_mk g_sh s2) ∧ y_fr g_sh y_imK s s2 ∧ ∃ x : Int32, v = some (.inl x)) := l_frH (K := y_imK) (fun n => y_imageM (n := n) ) (fun n a s h hA => ⟨h.1, l_a1 hA⟩) (fun n a s v s2 hQ => hQ)
theorem l_c1544 : l_Case 1544 := by
  intro xs n s i I hL hi hI hv hg next
  have h1 : (i + Int32.ofInt 1).toInt = ((I + 1 : Nat) : Int) := l_ix (j := 1) hi (by omega) (by omega)
  obtain ⟨e1, he1⟩ : ∃ e, xs[I + 1]? = some e := ⟨_, List.getElem?_eq_getElem (by omega)⟩
  refine l_run 5 rfl ?_
  refine l_sld rfl h1 he1 ?_
  refine l_call (y_C.u (by decide) (l_x_image n)) rfl (a := [.inr (.inr 2), .inl e1]) rfl rfl (fun h hR => y_mayV (o := 0) (sz := 15) rfl hR) (by decide) ⟨hv, [e1], rfl, rfl⟩ (fun v s2 hQ => ?_)
  obtain ⟨⟨w2, f2, x, rfl⟩, ht2⟩ := hQ
  have v2 := (l_keepA (by decide +kernel) hv w2 f2).1
  refine l_run 6 rfl ?_
  refine l_sld rfl h1 he1 ?_
  refine l_call (y_C.u (by decide) (l_m_image n)) rfl (a := [.inr (.inr 67), .inl e1]) rfl rfl (fun h hR => y_mayV (o := 65) (sz := 85) rfl hR) (by decide) ⟨v2, [e1], rfl, rfl⟩ (fun v s3 hQ => ?_)
  obtain ⟨⟨w3, f3, x3, rfl⟩, ht3⟩ := hQ
  have v3 := (l_keepA (by decide +kernel) v2 w3 f3).1
  obtain ⟨-, jg⟩ := jS_image hv v2 hg w2 f2 (by decide +kernel) w3 f3 (by decide +kernel) ht2 ht3
  refine l_run 2 rfl ?_
  exact next n s3 v3 jg
theorem l_x_back : ∀ n, y_C g_sh g_ts 7 3 (fun a s => LInv n s ∧ l_A 2 1 a) (fun _ s v s2 => w_T (y_Vn n) g_sh (y_mk g_sh s2) ∧ y_fr g_sh y_bkK s s2 ∧ ∃ x : Int32, v = some (.inl x)) := l_frH (K := y_bkK) (fun n => y_backC (n := n) ) (fun n a s h hA => ⟨h.1, l_a1 hA⟩) (fun n a s v s2 hQ => hQ)
theorem l_m_back : ∀ n, y_C g_sh g_ts 182 2 (fun a s => LInv n s ∧ l_A 67 1 a) (fun _ s v s2 => w_T (y_Vn n) g_sh (y_mk g_sh s2) ∧ y_fr g_sh y_unK s s2 ∧ ∃ x : Int32, v = some (.inl x)) := l_frH (K := y_unK) (fun n => y_backM (n := n) ) (fun n a s h hA => ⟨h.1, l_a1 hA⟩) (fun n a s v s2 hQ => hQ)
theorem l_c1567 : l_Case 1567 := by
  intro xs n s i I hL hi hI hv hg next
  have h1 : (i + Int32.ofInt 1).toInt = ((I + 1 : Nat) : Int) := l_ix (j := 1) hi (by omega) (by omega)
  obtain ⟨e1, he1⟩ : ∃ e, xs[I + 1]? = some e := ⟨_, List.getElem?_eq_getElem (by omega)⟩
  refine l_run 5 rfl ?_
  refine l_sld rfl h1 he1 ?_
  refine l_call (y_C.u (by decide) (l_x_back n)) rfl (a := [.inr (.inr 2), .inl e1]) rfl rfl (fun h hR => y_mayV (o := 0) (sz := 15) rfl hR) (by decide) ⟨hv, [e1], rfl, rfl⟩ (fun v s2 hQ => ?_)
  obtain ⟨⟨w2, f2, x, rfl⟩, ht2⟩ := hQ
  have v2 := (l_keepA (by decide +kernel) hv w2 f2).1
  refine l_run 6 rfl ?_
  refine l_sld rfl h1 he1 ?_
  refine l_call (y_C.u (by decide) (l_m_back n)) rfl (a := [.inr (.inr 67), .inl e1]) rfl rfl (fun h hR => y_mayV (o := 65) (sz := 85) rfl hR) (by decide) ⟨v2, [e1], rfl, rfl⟩ (fun v s3 hQ => ?_)
  obtain ⟨⟨w3, f3, x3, rfl⟩, ht3⟩ := hQ
  have v3 := (l_keepA (by decide +kernel) v2 w3 f3).1
  obtain ⟨-, jg⟩ := jS_back hv v2 hg w2 f2 (by decide +kernel) w3 f3 (by decide +kernel) ht2 ht3
  refine l_run 2 rfl ?_
  exact next n s3 v3 jg
theorem l_x_about : l_Pub 2 1 1 3 := l_pubC (fun n => K_224) (fun n => K_227) rfl rfl (by decide +kernel) (by decide +kernel) (by decide)
theorem l_m_about : l_Pub 67 174 1 3 := l_pubN (fun n => K_593) rfl (by decide +kernel) (by decide +kernel) (by decide)
theorem l_c1590 : l_Case 1590 := by
  intro xs n s i I hL hi hI hv hg next
  have h1 : (i + Int32.ofInt 1).toInt = ((I + 1 : Nat) : Int) := l_ix (j := 1) hi (by omega) (by omega)
  obtain ⟨e1, he1⟩ : ∃ e, xs[I + 1]? = some e := ⟨_, List.getElem?_eq_getElem (by omega)⟩
  refine l_run 5 rfl ?_
  refine l_sld rfl h1 he1 ?_
  refine l_call (l_x_about n) rfl (a := [.inr (.inr 2), .inl e1]) rfl rfl (fun h hR => y_mayV (o := 0) (sz := 15) rfl hR) (by decide) ⟨hv, [e1], rfl, rfl⟩ (fun v s2 hQ => ?_)
  obtain ⟨v2, g1, x, rfl⟩ := hQ
  refine l_run 6 rfl ?_
  refine l_sld rfl h1 he1 ?_
  refine l_call (l_m_about n) rfl (a := [.inr (.inr 67), .inl e1]) rfl rfl (fun h hR => y_mayV (o := 65) (sz := 85) rfl hR) (by decide) ⟨v2, [e1], rfl, rfl⟩ (fun v s3 hQ => ?_)
  obtain ⟨v3, g3, x3, rfl⟩ := hQ
  refine l_run 2 rfl ?_
  exact next n s3 v3 (jS_G v2.2.2 (jS_G hv.2.2 hg g1) g3)
theorem l_cases : ∀ v tg : Nat, l_tg[v]? = some tg → l_Case tg := by
  intro v tg h
  match v, h with
  | 0, h => cases h; exact l_cFeed
  | 1, h => cases h; exact l_cEnd
  | 2, h => cases h; exact l_c362
  | 3, h => cases h; exact l_c375
  | 4, h => cases h; exact l_c398
  | 5, h => cases h; exact l_c431
  | 6, h => cases h; exact l_c464
  | 7, h => cases h; exact l_c487
  | 8, h => cases h; exact l_c520
  | 9, h => cases h; exact l_c543
  | 10, h => cases h; exact l_c556
  | 11, h => cases h; exact l_c589
  | 12, h => cases h; exact l_c612
  | 13, h => cases h; exact l_c635
  | 14, h => cases h; exact l_c658
  | 15, h => cases h; exact l_c681
  | 16, h => cases h; exact l_c704
  | 17, h => cases h; exact l_c717
  | 18, h => cases h; exact l_c730
  | 19, h => cases h; exact l_c773
  | 20, h => cases h; exact l_c796
  | 21, h => cases h; exact l_c819
  | 22, h => cases h; exact l_c832
  | 23, h => cases h; exact l_c845
  | 24, h => cases h; exact l_c858
  | 25, h => cases h; exact l_c871
  | 26, h => cases h; exact l_c884
  | 27, h => cases h; exact l_c897
  | 28, h => cases h; exact l_c920
  | 29, h => cases h; exact l_c943
  | 30, h => cases h; exact l_c966
  | 31, h => cases h; exact l_c989
  | 32, h => cases h; exact l_c1012
  | 33, h => cases h; exact l_c1025
  | 34, h => cases h; exact l_c1058
  | 35, h => cases h; exact l_c1081
  | 36, h => cases h; exact l_c1114
  | 37, h => cases h; exact l_c1127
  | 38, h => cases h; exact l_c1150
  | 39, h => cases h; exact l_c1183
  | 40, h => cases h; exact l_c1196
  | 41, h => cases h; exact l_c1219
  | 42, h => cases h; exact l_c1232
  | 43, h => cases h; exact l_c1245
  | 44, h => cases h; exact l_c1258
  | 45, h => cases h; exact l_c1271
  | 46, h => cases h; exact l_c1294
  | 47, h => cases h; exact l_c1327
  | 48, h => cases h; exact l_c1350
  | 49, h => cases h; exact l_c1409
  | 50, h => cases h; exact l_cLater
  | 51, h => cases h; exact l_c1455
  | 52, h => cases h; exact l_c1478
  | 53, h => cases h; exact l_c1511
  | 54, h => cases h; exact l_c1544
  | 55, h => cases h; exact l_c1567
  | 56, h => cases h; exact l_c1590
  | v + 57, h => simp [l_tg] at h
