/-! by hand: stepsUp keeps the model's state -/
section SUA
variable {V : w_V} {d : Nat} {R : Nat} {r b : Int32} {s0 : y_H} {m : Int}
theorem y_suA_end (hr : r.toInt = (R : Int)) (hR : R < 3) {s : y_H} {P : Nat} {p v : Int32} (hT : w_T V g_sh (y_mk g_sh s)) (hf : y_fr g_sh (y_suK R) s0 s) (hp : p.toInt = (P : Int)) (hP : P < 8) (hprop : ∀ f2 : Nat → Int32, (∀ k, k < 9 → f2 k = s.1 86 k) → (∀ j, j < 8 → j ≠ P → f2 (9 + j) = s.1 86 (9 + j)) → (f2 (9 + P)).toInt = 1 → (∀ q, q < 3 → q ≠ R → f2 (18 + q) = s.1 86 (18 + q)) → f2 (18 + R) = p → y_AI m f2) : y_W g_sh g_ts d g_t304 (y_suA V R m s0) 123 [(0, .inr (.inr 67)), (1, .inl r), (3, .inl v), (4, .inl p)] [] s := by
  have e9 : ((Int8.ofInt 9).toInt32 + p).toInt = ((9 + P : Nat) : Int) := y_adds (A := 9) rfl hp (by omega)
  have e18 : ((Int8.ofInt 18).toInt32 + r).toInt = ((18 + R : Nat) : Int) := y_adds (A := 18) rfl hr (by omega)
  have e21 : ((Int8.ofInt 21).toInt32 + r).toInt = ((21 + R : Nat) : Int) := y_adds (A := 21) rfl hr (by omega)
  have hv := y_toIntB v
  refine y_run 6 rfl ?_
  refine y_ast86 (lo := 2147483648) (hi := 2147483652) hT rfl e9 (by omega) (y_airs P hP) (show (_ : Int) ≤ 1 by omega) (show (1 : Int) ≤ _ by omega) (fun hT2 => ?_)
  have hf2 := hf.up (o := 86) (k := 9 + P) (v := .inl (Int32.ofInt 1)) (y_airk _ (by omega)) (y_suSt R hR P hP)
  refine y_run 6 rfl ?_
  refine y_ast86 (lo := 2147483647) (hi := 2147483655) hT2 rfl e18 (by omega) (y_airr R hR) (by omega) (by omega) (fun hT3 => ?_)
  have hf3 := hf2.up (o := 86) (k := 18 + R) (v := .inl p) (y_airk _ (by omega)) (y_suRl R hR).1
  refine y_run 6 rfl ?_
  refine y_ast86 (lo := 0) (hi := 4294967295) hT3 rfl e21 (by omega) (y_airy R hR) (by omega) (by omega) (fun hT4 => ?_)
  have hf4 := hf3.up (o := 86) (k := 21 + R) (v := .inl v) (y_airk _ (by omega)) (y_suRl R hR).2.1
  refine y_run 5 rfl ?_
  have hkd : y_kd g_sh 90 P = 0 := y_kdA (tag := 100) (sz := 8) (a := ((0, 4294967295), 0)) rfl
  refine y_ast (o := 90) (sz := 8) (j := P) rfl rfl hp hP hkd ?_
  have hg := y_toIntB (s.1 65 62)
  refine y_vret rfl ⟨rfl, y_Tup (lo := 0) (hi := 4294967295) (g := 0) hT4 (y_tyA (tag := 100) (sz := 8) (A := .inl ((0, 4294967295), 0)) rfl hP) hkd (y_pkA (sz := 8) (by decide +kernel) hP) (by show _ ≤ (s.1 65 62).toInt; omega) (by show (s.1 65 62).toInt ≤ _; omega), hf4.up hkd (y_suSb R hR P hP), hprop _ (fun k hk => ?_) (fun j hj hne => ?_) ?_ (fun q hq hne => ?_) ?_⟩
  · rw [y_up_ne (by omega), y_up_ne (by omega), y_up_ne (by omega), y_up_ne (by omega)]
  · rw [y_up_ne (by omega), y_up_ne (by omega), y_up_ne (by omega), y_up_ne (by omega)]
  · rw [y_up_ne (by omega), y_up_ne (by omega), y_up_ne (by omega), y_up_self]
    rfl
  · rw [y_up_ne (by omega), y_up_ne (by omega), y_up_ne (by omega), y_up_ne (by omega)]
  · rw [y_up_ne (by omega), y_up_ne (by omega), y_up_self]
theorem y_suA_exit (hlen : y_eLen V) (hd : 3 ≤ d) (hr : r.toInt = (R : Int)) (hR : R < 3) {s : y_H} (hT : w_T V g_sh (y_mk g_sh s)) (hf : y_fr g_sh y_su0 s0 s) (hA : y_AI m (s.1 86)) (hfree : (s.1 86 (18 + R)).toInt < 0) : y_W g_sh g_ts d g_t304 (y_suA V R m s0) 37 [(0, .inr (.inr 67)), (1, .inl r), (2, .inl b)] [] s := by
  have h8 := y_air8 hT
  refine y_run 1 rfl ?_
  refine y_call y_queueMany 1 rfl (fun _ _ _ => rfl) (a := [.inr (.inr 67)]) rfl rfl (fun h hR => y_mayV (o := 65) (sz := 85) rfl hR) (by omega) rfl (fun v s2 hQ => ?_)
  obtain ⟨rfl, rfl⟩ := hQ
  refine y_if rfl (fun h => ?_) (fun h => ?_)
  · have hne : (s2.1 86 8).toInt ≠ 0 := h
    refine y_run 4 rfl ?_
    refine y_ald86 (j := 0) rfl rfl (by omega) ?_
    have h0 := y_air0 hT (j := 0) (by omega)
    refine y_run 1 rfl ?_
    refine y_call y_queueMany 1 rfl (fun _ _ _ => rfl) (a := [.inr (.inr 67)]) rfl rfl (fun h hR => y_mayV (o := 65) (sz := 85) rfl hR) (by omega) rfl (fun v s3 hQ => ?_)
    obtain ⟨rfl, rfl⟩ := hQ
    refine y_run 2 rfl ?_
    refine y_callM hlen (by decide +kernel) 1 rfl (fun _ _ _ => rfl) (a := [.inr (.inr 67), .inl ((s3.1 86 0)), .inl ((s3.1 86 8 - (Int32.ofInt 1)))]) rfl rfl (fun h hR => y_mayV (o := 65) (sz := 85) rfl hR) hd hT ⟨⟨67, rfl, List.mem_cons_self⟩, y_iv (by omega) (by omega), y_ivall, True.intro⟩ (fun v s4 hT4 hf4 hv => ?_)
    obtain ⟨q, hq, ho⟩ := hv
    have eq : q = ([], some (w_n 1 60 0), []) := by simpa using hq
    subst eq
    obtain ⟨w, rfl, w1, w2⟩ := y_ans ho
    have e86 : ∀ k, k < 28 → s4.1 86 k = s3.1 86 k := fun k hk => y_at86 hf4 hk (by
      have : ∀ k, k < 28 → w_inm [(299072, 299135), (303168, 303173)] (w_key 86 k) = false := by decide +kernel
      exact this k hk)
    have hA4 : y_AI m (s4.1 86) := y_AI_eq (fun k hk _ => e86 k (by omega)) hA
    refine y_run 3 rfl ?_
    refine y_call (y_takeOut (V := V)) 1 rfl (fun _ _ _ => rfl) (a := [.inr (.inr 67), .inl ((Int32.ofInt 0))]) rfl rfl (fun h hR => y_mayV (o := 65) (sz := 85) rfl hR) (by omega) ⟨hT4, Int32.ofInt 0, 0, rfl, rfl, by omega, by rw [e86 8 (by omega)]; omega⟩ (fun v s5 hQ => ?_)
    obtain ⟨rfl, hT5, hf5, hm5, ha5, hb5, hle5⟩ := hQ _ 0 rfl rfl
    have hp := y_air0 hT4 (j := 0) (by omega)
    have hfr : y_fr g_sh (y_suK R) s0 s5 := ((hf.mono (y_suInc R hR)).tr (hf4.mono (y_suIncL R hR))).tr (hf5.mono (y_suIncT R hR))
    have e5 : ∀ k, 9 ≤ k → k < 28 → s5.1 86 k = s4.1 86 k := fun k h1 h2 => y_at86 hf5 h2 (y_toNo k h2 h1)
    have h48 : (s4.1 86 8).toInt = (s3.1 86 8).toInt := by rw [e86 8 (by omega)]
    have hp6 := hA4.2.1 0 (by omega)
    have hprop : ∀ f2 : Nat → Int32, (∀ k, k < 9 → f2 k = s5.1 86 k) → (∀ j, j < 8 → j ≠ (s4.1 86 0).toInt.toNat → f2 (9 + j) = s5.1 86 (9 + j)) → (f2 (9 + (s4.1 86 0).toInt.toNat)).toInt = 1 → (∀ q, q < 3 → q ≠ R → f2 (18 + q) = s5.1 86 (18 + q)) → f2 (18 + R) = s4.1 86 0 → y_AI m f2 := by
      intro f2 g1 g2 g3 g4 g5
      have hst : ∀ j, j < 8 → j ≠ (s4.1 86 0).toInt.toNat → f2 (9 + j) = s4.1 86 (9 + j) := fun j h1 h2 => (g2 j h1 h2).trans (e5 _ (by omega) (by omega))
      have hrl : ∀ q, q < 3 → q ≠ R → f2 (18 + q) = s4.1 86 (18 + q) := fun q h1 h2 => (g4 q h1 h2).trans (e5 _ (by omega) (by omega))
      have h8b := y_air8 hT4
      refine y_AI_out (X := 0) (P := (s4.1 86 0).toInt.toNat) hA4 (by omega) (by omega) (by rw [g1 8 (by omega)]; exact hm5) (fun k hk => by omega) (fun k h1 h2 => by rw [g1 k (by omega)]; exact hb5 k h1 h2) (fun k hk => by rw [g1 k (by omega)]; exact hle5 6 hA4.2.1 k hk) hst (by rw [g3]; omega) (fun q h1 => ?_) ?_
      · by_cases e : q = R
        · rw [e, g5]
          exact hp6
        · rw [hrl q h1 e]
          exact hA4.2.2 q h1
      · have h1 := y_sg_x (f := s4.1 86) (f2 := f2) (P := (s4.1 86 0).toInt.toNat) hst
        have h2 := y_sg_o (f := s4.1 86) (f2 := f2) hR hrl
        rw [y_occ_0 (v := s4.1 86 (18 + R)) (by rw [e86 _ (by omega)]; exact hfree)] at h2
        have h3 := y_occ_le (f2 (18 + R))
        rw [y_x34_0 (v := f2 (9 + (s4.1 86 0).toInt.toNat)) (by omega)] at h1
        unfold y_Sg
        omega
    refine y_run 2 rfl ?_
    refine y_if rfl (fun h => ?_) (fun h => ?_)
    · refine y_sub (ls1 := [(0, .inr (.inr 67)), (1, .inl r), (3, .inl w), (4, .inl ((s4.1 86 0)))]) (show ([0, 1, 3, 4] : List Nat).Nodup by decide) (y_R_cons rfl (y_R_cons rfl (y_R_cons rfl (y_R_cons rfl y_R_nil)))) ?_
      exact y_suA_end (P := (s4.1 86 0).toInt.toNat) hr hR hT5 hfr (by omega) (by omega) hprop
    · refine y_run 6 rfl ?_
      refine y_ald86 (j := 27) rfl rfl (by omega) ?_
      refine y_run 5 rfl ?_
      refine y_irem rfl (show (1000 : Int) ≠ 0 by omega) ?_
      generalize hz : (s5.1 86 27 * (Int16.ofInt 137).toInt32 + (Int8.ofInt 71).toInt32) - (s5.1 86 27 * (Int16.ofInt 137).toInt32 + (Int8.ofInt 71).toInt32) / (Int16.ofInt 1000).toInt32 * (Int16.ofInt 1000).toInt32 = z
      have hzb := y_toIntB z
      refine y_ast86 (lo := 0) (hi := 4294967295) hT5 rfl (j := 27) rfl (by omega) rfl (by omega) (by omega) (fun hT6 => ?_)
      have hf6 := hfr.up (o := 86) (k := 27) (v := .inl z) rfl (y_suRl R hR).2.2
      refine y_run 4 rfl ?_
      refine y_ald86 (j := 27) rfl rfl (by omega) ?_
      refine y_run 1 rfl ?_
      refine y_irem rfl (show (100 : Int) ≠ 0 by omega) ?_
      refine y_run 2 rfl ?_
      have fin : ∀ w2 : Int32, y_W g_sh g_ts d g_t304 (y_suA V R m s0) 121 [(4, .inl ((s4.1 86 0))), (3, .inl w), (0, .inr (.inr 67)), (1, .inl r), (2, .inl b)] [.inl w2, .inl w] (y_up s5 86 27 (.inl z)) := by
        intro w2
        refine y_run 2 rfl ?_
        refine y_sub (ls1 := [(0, .inr (.inr 67)), (1, .inl r), (3, .inl ((w + w2))), (4, .inl ((s4.1 86 0)))]) (show ([0, 1, 3, 4] : List Nat).Nodup by decide) (y_R_cons rfl (y_R_cons rfl (y_R_cons rfl (y_R_cons rfl y_R_nil)))) ?_
        refine y_suA_end (P := (s4.1 86 0).toInt.toNat) hr hR hT6 hf6 (by omega) (by omega) (fun f2 g1 g2 g3 g4 g5 => hprop f2 (fun k hk => ?_) (fun j hj hne => ?_) g3 (fun q hq hne => ?_) g5)
        · rw [g1 k hk, y_up_ne (by omega)]
        · rw [g2 j hj hne, y_up_ne (by omega)]
        · rw [g4 q hq hne, y_up_ne (by omega)]
      refine y_ic rfl (fun _ => ?_) (fun _ => ?_)
      · refine y_run 1 rfl ?_
        exact fin _
      · refine y_run 2 rfl ?_
        exact fin _
  · exact y_vret rfl ⟨rfl, hT, hf.mono (y_suInc R hR), hA⟩
theorem y_suA_loop (hsails : y_eSails V) (hlen : y_eLen V) (hd : 3 ≤ d) (hr : r.toInt = (R : Int)) (hR : R < 3) (hfree0 : (s0.1 86 (18 + R)).toInt < 0) : ∀ (n : Nat) (s : y_H), w_T V g_sh (y_mk g_sh s) → y_fr g_sh y_su0 s0 s → y_AI m (s.1 86) → (s.1 86 8).toInt ≤ (n : Int) → y_W g_sh g_ts d g_t304 (y_suA V R m s0) 0 [(0, .inr (.inr 67)), (1, .inl r), (2, .inl b)] [] s := by
  intro n
  induction n with
  | zero =>
    intro s hT hf hA hn
    have e18 : s.1 86 (18 + R) = s0.1 86 (18 + R) := hf.at (o := 86) (k := 18 + R) (y_airr R hR) (y_airk _ (by omega)) (y_su0r R hR)
    refine y_run 1 rfl ?_
    refine y_call y_queueMany 1 rfl (fun _ _ _ => rfl) (a := [.inr (.inr 67)]) rfl rfl (fun h hR => y_mayV (o := 65) (sz := 85) rfl hR) (by omega) rfl (fun v s2 hQ => ?_)
    obtain ⟨rfl, rfl⟩ := hQ
    refine y_if rfl (fun _ => ?_) (fun h => absurd (show (s2.1 86 8).toInt ≤ 0 by omega) h)
    exact y_suA_exit hlen hd hr hR hT hf hA (by rw [e18]; exact hfree0)
  | succ n ih =>
    intro s hT hf hA hn
    have e18 : s.1 86 (18 + R) = s0.1 86 (18 + R) := hf.at (o := 86) (k := 18 + R) (y_airr R hR) (y_airk _ (by omega)) (y_su0r R hR)
    refine y_run 1 rfl ?_
    refine y_call y_queueMany 1 rfl (fun _ _ _ => rfl) (a := [.inr (.inr 67)]) rfl rfl (fun h hR => y_mayV (o := 65) (sz := 85) rfl hR) (by omega) rfl (fun v s2 hQ => ?_)
    obtain ⟨rfl, rfl⟩ := hQ
    refine y_if rfl (fun h => ?_) (fun h => ?_)
    · exact y_suA_exit hlen hd hr hR hT hf hA (by rw [e18]; exact hfree0)
    have hpos : ¬ (s2.1 86 8).toInt ≤ 0 := h
    have h0 := y_air0 hT (j := 0) (by omega)
    refine y_run 6 rfl ?_
    refine y_ald86 (j := 0) rfl rfl (by omega) ?_
    refine y_ald82 (j := (s2.1 86 0).toInt.toNat) rfl (by omega) (by omega) ?_
    have hsh := y_shipOf hT (j := (s2.1 86 0).toInt.toNat) (by omega)
    refine y_call (y_isGone hsails) 1 rfl (fun _ _ _ => rfl) (a := [.inr (.inr 67), .inl ((s2.1 82 (s2.1 86 0).toInt.toNat))]) rfl rfl (fun h hR => y_mayV (o := 65) (sz := 85) rfl hR) (by omega) ⟨hT, _, rfl, hsh.1, hsh.2⟩ (fun v s3 hQ => ?_)
    obtain ⟨rfl, hg⟩ := hQ
    rcases hg with rfl | ⟨rfl, hlt⟩
    · refine y_if rfl (fun h => absurd (show (1 : Int) = 0 from h) (by omega)) (fun _ => ?_)
      refine y_run 3 rfl ?_
      refine y_call (y_takeOut (V := V)) 1 rfl (fun _ _ _ => rfl) (a := [.inr (.inr 67), .inl ((Int32.ofInt 0))]) rfl rfl (fun h hR => y_mayV (o := 65) (sz := 85) rfl hR) (by omega) ⟨hT, Int32.ofInt 0, 0, rfl, rfl, by omega, by omega⟩ (fun v s5 hQ => ?_)
      obtain ⟨rfl, hT5, hf5, hm5, ha5, hb5, hle5⟩ := hQ _ 0 rfl rfl
      refine y_call (y_missesF (V := V)) 1 rfl (fun _ _ _ => rfl) (a := [.inr (.inr 67), .inl ((s3.1 86 0))]) rfl rfl (fun h hR => y_mayV (o := 65) (sz := 85) rfl hR) (by omega) ⟨hT5, _, (s3.1 86 0).toInt.toNat, rfl, by omega, by omega⟩ (fun v s6 hQ => ?_)
      obtain ⟨rfl, hT6, hf6, h36, hs6⟩ := hQ _ (s3.1 86 0).toInt.toNat rfl (by omega)
      have q6 : ∀ k, k < 9 → s6.1 86 k = s5.1 86 k := fun k hk => y_at86 hf6 (by omega) (by
        have : ∀ k, k < 9 → w_inm y_msK (w_key 86 k) = false := by decide +kernel
        exact this k hk)
      have hA6 : y_AI m (s6.1 86) := y_AI_gone (X := 0) (P := (s3.1 86 0).toInt.toNat) hA (by omega) (by omega) hf5 hm5 ha5 hb5 hle5 q6 (fun q hq => y_at86 hf6 (by omega) (by
        have : ∀ k, k < 3 → w_inm y_msK (w_key 86 (18 + k)) = false := by decide +kernel
        exact this q hq)) (by omega) hs6
      refine y_run 1 rfl ?_
      exact ih s6 hT6 ((hf.tr (hf5.mono (by decide +kernel))).tr (hf6.mono (by decide +kernel))) hA6 (by rw [q6 8 (by omega), hm5]; omega)
    · refine y_if rfl (fun _ => ?_) (fun h => absurd rfl h)
      exact y_suA_exit hlen hd hr hR hT hf hA (by rw [e18]; exact hfree0)
theorem y_stepsUpA (hsails : y_eSails V) (hlen : y_eLen V) (m : Int) : y_C g_sh g_ts 304 4 (fun a s => w_T V g_sh (y_mk g_sh s) ∧ y_AI m (s.1 86) ∧ ∃ (r b : Int32) (R : Nat), a = [.inr (.inr 67), .inl r, .inl b] ∧ r.toInt = (R : Int) ∧ R < 3 ∧ (s.1 86 (18 + R)).toInt < 0) (fun a s v s2 => ∀ (r b : Int32) (R : Nat), a = [.inr (.inr 67), .inl r, .inl b] → r.toInt = (R : Int) → y_suA V R m s v s2) := by
  refine y_C.of (t := g_t304) rfl (by decide) ?_
  rintro d a s hd ⟨hT, hA, r, b, R, rfl, hr, hR, hfree⟩
  have h8 := y_air8 hT
  have key : y_W g_sh g_ts d g_t304 (y_suA V R m s) 0 [(0, .inr (.inr 67)), (1, .inl r), (2, .inl b)] [] s := y_suA_loop hsails hlen (by omega) hr hR hfree 8 s hT y_fr.rf hA (by omega)
  have key2 := y_sub (ls1 := [(0, .inr (.inr 67)), (1, .inl r), (2, .inl b)]) (ls2 := q_args 0 [.inr (.inr 67), .inl r, .inl b]) (show ([0, 1, 2] : List Nat).Nodup by decide) (y_R_cons rfl (y_R_cons rfl (y_R_cons rfl y_R_nil))) key
  intro h ns hRp
  obtain ⟨v, h2, s2, he, hR2, hQ⟩ := key2 h ns hRp
  refine ⟨v, h2, s2, he, hR2, fun r2 b2 R2 e hr2 => ?_⟩
  cases e
  have e3 : R2 = R := by omega
  subst e3
  exact hQ
end SUA
