/-! by hand: the model's feed -/
abbrev y_pm : List (Nat × Nat) := [(266305, 266305), (270400, 271999)]
theorem y_and255 (x : Int32) : 0 ≤ (x &&& 255).toInt ∧ (x &&& 255).toInt ≤ 255 := by
  have h := q_jand_ok (a := q_jall) (b := q_jc 255) (q_jall_ok x) (q_jc_ok 255)
  have e : q_jand q_jall (q_jc 255) = (2147483648, 2147483903) := by decide
  rw [e] at h
  have h1 := h.1
  have h2 := h.2
  have h3 := q_pc_int (x &&& 255)
  have h4 : (2147483648 : Nat) ≤ q_pc (x &&& 255) := h1
  have h5 : q_pc (x &&& 255) ≤ 2147483903 := h2
  omega
theorem y_four_loop {V : w_V} {d : Nat} {Q : Option (q_V Int32) → y_H → Prop} {v : Int32} : ∀ (k : Nat) (s : y_H) (x : Int32), w_T V g_sh (y_mk g_sh s) → x.toInt = 8 * (k : Int) - 8 → k ≤ 4 → (s.1 65 1).toInt + (k : Int) ≤ 1600 → (∀ s2, w_T V g_sh (y_mk g_sh s2) → y_fr g_sh y_pm s s2 → (s2.1 65 1).toInt = (s.1 65 1).toInt + (k : Int) → Q none s2) → y_W g_sh g_ts d g_t209 Q 3 [(0, .inr (.inr 67)), (1, .inl v), (2, .inl x)] [] s := by
  intro k
  induction k with
  | zero =>
    intro s x hT hx _ _ hexit
    refine y_run 1 rfl ?_
    refine y_if rfl (fun _ => y_vret rfl (hexit s hT y_fr.rf (by omega))) (fun h => ?_)
    have h2 : ¬ x.toInt < 0 := h
    omega
  | succ k ih =>
    intro s x hT hx hk hb hexit
    have hsz := y_rng (lo := 2147483648) (hi := 2147485248) (g := 0) hT (o := 65) (k := 1) rfl rfl
    refine y_run 1 rfl ?_
    refine y_if rfl (fun h => ?_) (fun _ => ?_)
    · have h2 : x.toInt < 0 := h
      omega
    refine y_run 9 rfl ?_
    have hj : (s.1 65 1).toInt.toNat < 1600 := by omega
    have hkd : y_kd g_sh 66 (s.1 65 1).toInt.toNat = 0 := y_kdA (tag := 100) (sz := 1600) (a := ((2147483648, 2147483903), 0)) rfl
    refine y_ast (o := 66) (sz := 1600) (j := (s.1 65 1).toInt.toNat) rfl rfl (show (s.1 65 1).toInt = _ by omega) hj hkd ?_
    obtain ⟨w, hw⟩ : ∃ w, w = (v >>> (x &&& 31)) &&& 255 := ⟨_, rfl⟩
    have hwr : 0 ≤ w.toInt ∧ w.toInt ≤ 255 := by
      rw [hw]
      exact y_and255 _
    have hadd : (s.1 65 1 + 1).toInt = (s.1 65 1).toInt + 1 := y_add (x := s.1 65 1) (y := 1) (by show _ ≤ _ + (1 : Int); omega) (by show _ + (1 : Int) ≤ _; omega)
    show y_W g_sh g_ts d g_t209 Q 23 [(0, .inr (.inr 67)), (1, .inl v), (2, .inl x)] [] (y_up s 66 (s.1 65 1).toInt.toNat (.inl ((v >>> (x &&& 31)) &&& 255)))
    rw [← hw]
    have hT1 := y_Tup (lo := 2147483648) (hi := 2147483903) (g := 0) hT (o := 66) (k := (s.1 65 1).toInt.toNat) (x := w) (y_tyA (tag := 100) (sz := 1600) (A := .inl ((2147483648, 2147483903), 0)) rfl hj) hkd (y_pkA (sz := 1600) (by decide +kernel) hj) (by omega) (by omega)
    have hf1 : y_fr g_sh y_pm s (y_up s 66 (s.1 65 1).toInt.toNat (.inl w)) := y_fr.rf.up hkd (y_msA (sz := 1600) (by decide +kernel) hj)
    have hT2 := y_Tup (lo := 2147483648) (hi := 2147485248) (g := 0) hT1 (o := 65) (k := 1) (x := s.1 65 1 + 1) rfl rfl (by decide +kernel) (by omega) (by omega)
    have hf2 : y_fr g_sh y_pm s (y_up (y_up s 66 (s.1 65 1).toInt.toNat (.inl w)) 65 1 (.inl (s.1 65 1 + 1))) := hf1.up rfl (by decide +kernel)
    refine y_run 8 rfl ?_
    refine y_sub (ls1 := [(0, .inr (.inr 67)), (1, .inl v), (2, .inl (x + Int32.ofInt (-8)))]) (show ([0, 1, 2] : List Nat).Nodup by decide) (y_R_cons rfl (y_R_cons rfl (y_R_cons rfl y_R_nil))) ?_
    have hx2 : (x + Int32.ofInt (-8)).toInt = x.toInt - 8 := by
      have e8 : (Int32.ofInt (-8)).toInt = -8 := by decide
      rw [y_add (by rw [e8]; omega) (by rw [e8]; omega), e8]
      omega
    refine ih _ _ hT2 (by rw [hx2]; omega) (by omega) ?_ (fun s2 hT3 hf3 e3 => hexit s2 hT3 (hf2.tr hf3) ?_)
    · show (s.1 65 1 + 1).toInt + (k : Int) ≤ 1600
      omega
    · have e4 : (s2.1 65 1).toInt = (s.1 65 1 + 1).toInt + (k : Int) := e3
      omega
theorem y_four {V : w_V} : y_C g_sh g_ts 209 1 (fun a s => w_T V g_sh (y_mk g_sh s) ∧ (s.1 65 1).toInt + 4 ≤ 1600 ∧ ∃ v : Int32, a = [.inr (.inr 67), .inl v]) (fun _ s v s2 => v = none ∧ w_T V g_sh (y_mk g_sh s2) ∧ y_fr g_sh y_pm s s2 ∧ (s2.1 65 1).toInt = (s.1 65 1).toInt + 4) := by
  refine y_C.of (t := g_t209) rfl (by decide) ?_
  rintro d a s - ⟨hT, hb, v, rfl⟩
  refine y_run 2 rfl ?_
  refine y_sub (ls1 := [(0, .inr (.inr 67)), (1, .inl v), (2, .inl 24)]) (show ([0, 1, 2] : List Nat).Nodup by decide) (y_R_cons rfl (y_R_cons rfl (y_R_cons rfl y_R_nil))) ?_
  exact y_four_loop (V := V) 4 s 24 hT (by decide) (by omega) hb (fun s2 hT2 hf2 e2 => ⟨rfl, hT2, hf2, e2⟩)
theorem y_callFour {V : w_V} {d : Nat} {t : q_T} {Q : Option (q_V Int32) → y_H → Prop} {p i : Nat} {ls : q_U Int32} {s : y_H} {k : Int32} (hq : q_get t p = some (.invokevirtual i, 3, [209, 2, 3, 11])) (hT : w_T V g_sh (y_mk g_sh s)) (hb : (s.1 65 1).toInt + 4 ≤ 1600) (hd : 1 ≤ d) (hw : ∀ s2, w_T V g_sh (y_mk g_sh s2) → y_fr g_sh y_pm s s2 → (s2.1 65 1).toInt = (s.1 65 1).toInt + 4 → y_W g_sh g_ts d t Q (p + 3) ls [] s2) : y_W g_sh g_ts d t Q p ls [.inl k, .inr (.inr 67)] s := by
  refine y_call (y_four (V := V)) 1 hq (fun _ _ _ => rfl) (a := [.inr (.inr 67), .inl k]) (st2 := []) rfl rfl (fun h hR => y_mayV (o := 65) (sz := 85) rfl hR) hd ⟨hT, hb, k, rfl⟩ (fun v s2 hQ => ?_)
  obtain ⟨rfl, hT2, hf2, e2⟩ := hQ
  exact hw s2 hT2 hf2 e2
theorem y_feedM {V : w_V} : y_C g_sh g_ts 202 2 (fun a s => w_T V g_sh (y_mk g_sh s) ∧ ∃ x1 x2 x3 x4 x5 : Int32, a = [.inr (.inr 67), .inl x1, .inl x2, .inl x3, .inl x4, .inl x5]) (fun _ s v s2 => y_feedQ V 65 y_pm s v s2) := by
  refine y_C.of (t := g_t202) rfl (by decide) ?_
  rintro d a s hd ⟨hT, x1, x2, x3, x4, x5, rfl⟩
  have hd1 : 1 ≤ d := by omega
  have hsz := y_rng (lo := 2147483648) (hi := 2147485248) (g := 0) hT (o := 65) (k := 1) rfl rfl
  have hadd : (s.1 65 1 + 20).toInt = (s.1 65 1).toInt + 20 := y_add (x := s.1 65 1) (y := 20) (by show _ ≤ _ + (20 : Int); omega) (by show _ + (20 : Int) ≤ _; omega)
  refine y_run 5 rfl ?_
  refine y_ic rfl (fun h => ?_) (fun h => ?_)
  · have h2 : (s.1 65 1 + 20).toInt ≤ 1600 := h
    refine y_run 2 rfl ?_
    refine y_callFour rfl hT (by omega) hd1 (fun s1 hT1 hf1 e1 => ?_)
    refine y_run 2 rfl ?_
    refine y_callFour rfl hT1 (by omega) hd1 (fun s2 hT2 hf2 e2 => ?_)
    refine y_run 2 rfl ?_
    refine y_callFour rfl hT2 (by omega) hd1 (fun s3 hT3 hf3 e3 => ?_)
    refine y_run 2 rfl ?_
    refine y_callFour rfl hT3 (by omega) hd1 (fun s4 hT4 hf4 e4 => ?_)
    refine y_run 2 rfl ?_
    refine y_callFour rfl hT4 (by omega) hd1 (fun s5 hT5 hf5 e5 => ?_)
    refine y_run 2 rfl ?_
    exact y_iret rfl ⟨hT5, (((hf1.tr hf2).tr hf3).tr hf4).tr hf5, _, rfl, Or.inl ⟨by omega, rfl, by omega⟩⟩
  · have h2 : ¬ (s.1 65 1 + 20).toInt ≤ 1600 := h
    refine y_run 1 rfl ?_
    exact y_iret rfl ⟨hT, y_fr.rf, -1, rfl, Or.inr ⟨by omega, rfl, rfl⟩⟩
