/-! by hand: readLine, readAll of the model -/
abbrev y_rlK : List (Nat × Nat) := [(266306, 266308), (266310, 266313), (266321, 266321), (266323, 266324), (266326, 266328), (266345, 266350), (266357, 266360), (274496, 274507), (278592, 278911), (282688, 283007), (294976, 295135), (307264, 307268), (311360, 311364), (315456, 315462), (319552, 319558), (323648, 323654)]
def y_fm (s : y_H) : Prop := (s.1 65 24).toInt ≠ 0 → ∃ M e : Nat, (s.1 65 17).toInt = (M : Int) ∧ M ≤ 320 ∧ ∃ D, y_ND D s.1 M e
def y_bs (s : y_H) : Prop := (1 ≤ (s.1 65 44).toInt ∧ (s.1 65 44).toInt ≤ 2) ∧ (s.1 65 20).toInt ≤ 60 ∧ y_fm s
def y_mu (s : y_H) : Int := (s.1 65 24).toInt + (s.1 65 41).toInt + (s.1 65 42).toInt + (s.1 65 53).toInt + (s.1 65 54).toInt + (s.1 65 55).toInt + (s.1 65 56).toInt
def y_gd (m : Int) (s : y_H) : Prop := (s.1 65 2).toInt = 0 → y_bs s ∧ m < y_mu s
theorem y_fm_eq {s s2 : y_H} (e24 : s2.1 65 24 = s.1 65 24) (e17 : s2.1 65 17 = s.1 65 17) (e68 : ∀ i, i < 320 → s2.1 68 i = s.1 68 i) (e69 : ∀ i, i < 320 → s2.1 69 i = s.1 69 i) (h : y_fm s) : y_fm s2 := by
  intro hne
  rw [e24] at hne
  obtain ⟨M, e, h1, h2, h3⟩ := h hne
  exact ⟨M, e, by rw [e17]; exact h1, h2, y_ND_eq (fun i hi => e68 i (by omega)) (fun i hi => e69 i (by omega)) h3⟩
def y_bsNo (ms : List (Nat × Nat)) : Bool := !(w_inm ms 266348) && (!(w_inm ms 266324) && (!(w_inm ms 266328) && (!(w_inm ms 266321) && (!(w_ovl ms 278592 278911) && !(w_ovl ms 282688 283007)))))
theorem y_fm_fr {ms : List (Nat × Nat)} {s s2 : y_H} (hf : y_fr g_sh ms s s2) (a3 : w_inm ms 266328 = false) (a4 : w_inm ms 266321 = false) (a6 : w_ovl ms 278592 278911 = false) (a7 : w_ovl ms 282688 283007 = false) (h : y_fm s) : y_fm s2 :=
  y_fm_eq (hf.at (o := 65) (k := 24) (A := w_n 0 1 0) rfl rfl a3) (hf.at (o := 65) (k := 17) (A := w_n 0 320 0) rfl rfl a4) (fun i hi => hf.at (o := 68) (k := i) (y_t68 hi) y_k68 (w_ovl_no a6 (by unfold w_key; omega) (by unfold w_key; omega))) (fun i hi => hf.at (o := 69) (k := i) (y_t69 hi) y_k69 (w_ovl_no a7 (by unfold w_key; omega) (by unfold w_key; omega))) h
theorem y_bs_fr {ms : List (Nat × Nat)} {s s2 : y_H} (hf : y_fr g_sh ms s s2) (hm : y_bsNo ms = true) (h : y_bs s) : y_bs s2 := by
  unfold y_bsNo at hm
  simp only [Bool.and_eq_true, Bool.not_eq_true'] at hm
  obtain ⟨a1, a2, a3, a4, a6, a7⟩ := hm
  refine ⟨?_, ?_, y_fm_fr hf a3 a4 a6 a7 h.2.2⟩
  · rw [hf.at (o := 65) (k := 44) (A := w_t 0) rfl rfl a1]
    exact h.1
  · rw [hf.at (o := 65) (k := 20) (A := w_n 0 61 0) rfl rfl a2]
    exact h.2.1
theorem y_bs_up {s : y_H} {k : Nat} {x : Int32} (h1 : k ≠ 44) (h2 : k ≠ 20) (h3 : k ≠ 24) (h4 : k ≠ 17) (h : y_bs s) : y_bs (y_up s 65 k (.inl x)) := by
  refine ⟨?_, ?_, y_fm_eq (y_up_ne (by omega)) (y_up_ne (by omega)) (fun i _ => y_up_ne (by omega)) (fun i _ => y_up_ne (by omega)) h.2.2⟩
  · rw [y_up_ne (show ¬ (65 = 65 ∧ 44 = k) by omega)]
    exact h.1
  · rw [y_up_ne (show ¬ (65 = 65 ∧ 20 = k) by omega)]
    exact h.2.1
def y_muNo (ms : List (Nat × Nat)) : Bool := !(w_inm ms 266328) && (!(w_inm ms 266345) && (!(w_inm ms 266346) && !(w_ovl ms 266357 266360)))
theorem y_mu_fr {ms : List (Nat × Nat)} {s s2 : y_H} (hf : y_fr g_sh ms s s2) (hm : y_muNo ms = true) : y_mu s2 = y_mu s := by
  unfold y_muNo at hm
  simp only [Bool.and_eq_true, Bool.not_eq_true'] at hm
  obtain ⟨a1, a2, a3, a4⟩ := hm
  unfold y_mu
  rw [hf.at (o := 65) (k := 24) (A := w_n 0 1 0) rfl rfl a1, hf.at (o := 65) (k := 41) (A := w_n 0 5 0) rfl rfl a2, hf.at (o := 65) (k := 42) (A := w_n 0 7 0) rfl rfl a3, hf.at (o := 65) (k := 53) (A := w_n 0 1 0) rfl rfl (w_ovl_no a4 (by decide) (by decide)), hf.at (o := 65) (k := 54) (A := w_n 0 1 0) rfl rfl (w_ovl_no a4 (by decide) (by decide)), hf.at (o := 65) (k := 55) (A := w_n 0 1 0) rfl rfl (w_ovl_no a4 (by decide) (by decide)), hf.at (o := 65) (k := 56) (A := w_n 0 1 0) rfl rfl (w_ovl_no a4 (by decide) (by decide))]
theorem y_mu_up {s : y_H} {k : Nat} {x : Int32} (h : k ≠ 24 ∧ k ≠ 41 ∧ k ≠ 42 ∧ k ≠ 53 ∧ k ≠ 54 ∧ k ≠ 55 ∧ k ≠ 56) : y_mu (y_up s 65 k (.inl x)) = y_mu s := by
  have n : ∀ j, j ≠ k → (y_up s 65 k (.inl x)).1 65 j = s.1 65 j := fun j h => y_up_ne (by omega)
  unfold y_mu
  rw [n 24 (by omega), n 41 (by omega), n 42 (by omega), n 53 (by omega), n 54 (by omega), n 55 (by omega), n 56 (by omega)]
theorem y_mu_flag {s : y_H} {k : Nat} (hk : k = 53 ∨ k = 54 ∨ k = 55 ∨ k = 56) (h0 : (s.1 65 k).toInt = 0) : y_mu (y_up s 65 k (.inl (Int32.ofInt 1))) = y_mu s + 1 := by
  have n : ∀ j, j ≠ k → (y_up s 65 k (.inl (Int32.ofInt 1))).1 65 j = s.1 65 j := fun j h => y_up_ne (by omega)
  have e1 : (Int32.ofInt 1).toInt = 1 := rfl
  unfold y_mu
  rcases hk with rfl | rfl | rfl | rfl
  · rw [n 24 (by omega), n 41 (by omega), n 42 (by omega), n 54 (by omega), n 55 (by omega), n 56 (by omega), y_up_self, e1]
    omega
  · rw [n 24 (by omega), n 41 (by omega), n 42 (by omega), n 53 (by omega), n 55 (by omega), n 56 (by omega), y_up_self, e1]
    omega
  · rw [n 24 (by omega), n 41 (by omega), n 42 (by omega), n 53 (by omega), n 54 (by omega), n 56 (by omega), y_up_self, e1]
    omega
  · rw [n 24 (by omega), n 41 (by omega), n 42 (by omega), n 53 (by omega), n 54 (by omega), n 55 (by omega), y_up_self, e1]
    omega
theorem y_mu_one {ms : List (Nat × Nat)} {s s2 : y_H} {k : Nat} (hk : k = 24 ∨ k = 41 ∨ k = 42) (hf : y_fr g_sh ms s s2) (hm : ∀ j, (j = 24 ∨ j = 41 ∨ j = 42 ∨ j = 53 ∨ j = 54 ∨ j = 55 ∨ j = 56) → j ≠ k → w_inm ms (w_key 65 j) = false) (h1 : (s2.1 65 k).toInt = (s.1 65 k).toInt + 1) : y_mu s2 = y_mu s + 1 := by
  have t : ∀ j, (j = 24 ∨ j = 41 ∨ j = 42 ∨ j = 53 ∨ j = 54 ∨ j = 55 ∨ j = 56) → ∃ A, w_ty g_sh 65 j = some A ∧ y_kd g_sh 65 j = 0 := by
    rintro j (rfl | rfl | rfl | rfl | rfl | rfl | rfl) <;> exact ⟨_, rfl, rfl⟩
  have n : ∀ j, (j = 24 ∨ j = 41 ∨ j = 42 ∨ j = 53 ∨ j = 54 ∨ j = 55 ∨ j = 56) → j ≠ k → s2.1 65 j = s.1 65 j := by
    intro j hj hne
    obtain ⟨A, hA, hkd⟩ := t j hj
    exact hf.at hA hkd (hm j hj hne)
  unfold y_mu
  rcases hk with rfl | rfl | rfl
  · rw [n 41 (by omega) (by omega), n 42 (by omega) (by omega), n 53 (by omega) (by omega), n 54 (by omega) (by omega), n 55 (by omega) (by omega), n 56 (by omega) (by omega), h1]
    omega
  · rw [n 24 (by omega) (by omega), n 42 (by omega) (by omega), n 53 (by omega) (by omega), n 54 (by omega) (by omega), n 55 (by omega) (by omega), n 56 (by omega) (by omega), h1]
    omega
  · rw [n 24 (by omega) (by omega), n 41 (by omega) (by omega), n 53 (by omega) (by omega), n 54 (by omega) (by omega), n 55 (by omega) (by omega), n 56 (by omega) (by omega), h1]
    omega
def y_rlQ (V : w_V) (s0 : y_H) (v : Option (q_V Int32)) (s : y_H) : Prop := v = none ∧ w_T V g_sh (y_mk g_sh s) ∧ y_fr g_sh y_rlK s0 s ∧ y_gd (y_mu s0) s
/-- all that the reading of a line takes from the checker -/
def y_RE (V : w_V) : Prop := y_eWord V ∧ y_eMayNot V ∧ y_eAsked V ∧ y_eWrong V ∧ y_eTight V ∧ y_eRel V ∧ y_eWant V ∧ y_eName V ∧ y_eNew0 V ∧ y_eNew5 V ∧ y_eTold V 0 240 ∧ y_eTold V 1 30 ∧ y_eMay V 60 0 ∧ y_eMay V 20 1
theorem y_readLineF {V : w_V} (H : y_RE V) : y_C g_sh g_ts 282 7 (fun a s => w_T V g_sh (y_mk g_sh s) ∧ a = [.inr (.inr 67)] ∧ y_bs s) (fun _ s v s2 => y_rlQ V s v s2) := by
  obtain ⟨hword, hmay, hasked, hwr, htight, hrel, hwant, hname, hn0, hn5, ht0, ht1, hm0, hm1⟩ := H
  refine y_C.of (t := g_t282) rfl (by decide) ?_
  rintro d a s hd ⟨hT, rfl, hB⟩
  have p257 : ∀ (s2 : y_H) (ls : q_U Int32), w_T V g_sh (y_mk g_sh s2) → y_fr g_sh y_rlK s s2 → y_gd (y_mu s) s2 → q_at ls 0 = some (.inr (.inr 67)) → y_W g_sh g_ts d g_t282 (y_rlQ V s) 257 ls [] s2 := by
    intro s2 ls hT2 hf2 hg l0
    refine y_sub (ls1 := [(0, .inr (.inr 67))]) (show ([0] : List Nat).Nodup by decide) (y_R_cons l0 y_R_nil) ?_
    refine y_run 2 rfl ?_
    refine y_if rfl (fun _ => y_vret rfl ⟨rfl, hT2, hf2, hg⟩) (fun _ => ?_)
    refine y_run 1 rfl ?_
    refine y_call (y_token (V := V)) 1 rfl (fun _ _ _ => rfl) (a := [.inr (.inr 67)]) rfl rfl (fun h hR => y_mayV (o := 65) (sz := 85) rfl hR) (by omega) ⟨hT2, rfl⟩ (fun v s3 hQ => ?_)
    obtain ⟨rfl, hT3, hf3, -, -⟩ := hQ
    refine y_vret rfl ⟨rfl, hT3, hf2.tr (hf3.mono (by decide +kernel)), fun q => ?_⟩
    rw [y_tkFault hf3] at q
    obtain ⟨g1, g2⟩ := hg q
    exact ⟨y_bs_fr hf3 (by decide +kernel) g1, by rw [y_mu_fr hf3 (by decide +kernel)]; exact g2⟩
  have p236 : ∀ (s2 : y_H) (ls : q_U Int32), w_T V g_sh (y_mk g_sh s2) → y_fr g_sh y_rlK s s2 → y_gd (y_mu s) s2 → q_at ls 0 = some (.inr (.inr 67)) → y_W g_sh g_ts d g_t282 (y_rlQ V s) 236 ls [] s2 := by
    intro s2 ls hT2 hf2 hg l0
    refine y_sub (ls1 := [(0, .inr (.inr 67))]) (show ([0] : List Nat).Nodup by decide) (y_R_cons l0 y_R_nil) ?_
    refine y_run 2 rfl ?_
    refine y_if rfl (fun _ => p257 s2 _ hT2 hf2 hg rfl) (fun _ => ?_)
    refine y_run 3 rfl ?_
    refine y_ic rfl (fun _ => p257 s2 _ hT2 hf2 hg rfl) (fun _ => ?_)
    refine y_run 2 rfl ?_
    refine y_callW hwr rfl rfl (by omega) hT2 (show (2 : Int) ≤ 2 by omega) (show (2 : Int) ≤ 5 by omega) (fun s3 hT3 hf3 h1 => ?_)
    exact p257 s3 _ hT3 (hf2.tr (hf3.mono (by decide +kernel))) (fun q => by omega) rfl
  have p231 : ∀ (ls : q_U Int32), q_at ls 0 = some (.inr (.inr 67)) → y_W g_sh g_ts d g_t282 (y_rlQ V s) 231 ls [] s := by
    intro ls l0
    refine y_sub (ls1 := [(0, .inr (.inr 67))]) (show ([0] : List Nat).Nodup by decide) (y_R_cons l0 y_R_nil) ?_
    refine y_run 2 rfl ?_
    refine y_callW hwr rfl rfl (by omega) hT (show (2 : Int) ≤ 2 by omega) (show (2 : Int) ≤ 5 by omega) (fun s3 hT3 hf3 h1 => ?_)
    exact p236 s3 _ hT3 (hf3.mono (by decide +kernel)) (fun q => by omega) rfl
  have p191 : ∀ (ls : q_U Int32), q_at ls 0 = some (.inr (.inr 67)) → y_W g_sh g_ts d g_t282 (y_rlQ V s) 191 ls [] s := by
    intro ls l0
    refine y_sub (ls1 := [(0, .inr (.inr 67))]) (show ([0] : List Nat).Nodup by decide) (y_R_cons l0 y_R_nil) ?_
    refine y_run 2 rfl ?_
    refine y_callB hword (Or.inl rfl) 1 rfl (fun _ _ _ => rfl) rfl rfl (fun h hR => y_mayV (o := 65) (sz := 85) rfl hR) (by omega) hT ⟨⟨67, rfl, List.mem_cons_self⟩, ⟨_, rfl⟩, True.intro⟩ (fun z hz => ?_) (fun z hz => ?_)
    · exact y_if rfl (fun _ => p231 _ rfl) (fun h => absurd hz h)
    · refine y_if rfl (fun h => absurd (show z.toInt = 0 from h) (by omega)) (fun _ => ?_)
      refine y_run 2 rfl ?_
      refine y_if rfl (fun _ => p231 _ rfl) (fun h => ?_)
      have h0 : (s.1 65 56).toInt = 0 := Classical.byContradiction fun q => h q
      have hT1 := y_Tup (lo := 2147483648) (hi := 2147483649) (g := 0) (o := 65) (k := 56) (x := Int32.ofInt 1) hT rfl rfl (by decide +kernel) (show _ ≤ (1 : Int) by omega) (show (1 : Int) ≤ _ by omega)
      have hf1 := (y_fr.rf (sh := g_sh) (ms := y_rlK) (s := s)).up (o := 65) (k := 56) (v := .inl (Int32.ofInt 1)) rfl (by decide +kernel)
      refine y_run 8 rfl ?_
      refine y_call (y_toldF (V := V) hwr hwant (x := Int64.ofNat 1685217655) (l := Int32.ofInt 0) (u := (Int16.ofInt 999).toInt32)) 1 rfl (fun _ _ _ => rfl) (a := [.inr (.inr 67), .inr (.inl ((Int64.ofNat 1685217655))), .inl ((Int32.ofInt 0)), .inl (((Int16.ofInt 999).toInt32))]) rfl rfl (fun h hR => y_mayV (o := 65) (sz := 85) rfl hR) (by omega) ⟨hT1, rfl⟩ (fun v s3 hQ => ?_)
      obtain ⟨hT3, hf3, z, rfl, hz⟩ := hQ
      have hzb := y_toIntB z
      have hT4 := y_Tup (lo := 0) (hi := 4294967295) (g := 0) (o := 65) (k := 46) (x := z) hT3 rfl rfl (by decide +kernel) (by omega) (by omega)
      have hf4 : y_fr g_sh y_rlK s (y_up s3 65 46 (.inl z)) := (hf1.tr (hf3.mono (by decide +kernel))).up (o := 65) (k := 46) rfl (by decide +kernel)
      have hg : y_gd (y_mu s) (y_up s3 65 46 (.inl z)) := by
        intro q
        have q2 : (s3.1 65 2).toInt = 0 := q
        refine ⟨y_bs_up (by omega) (by omega) (by omega) (by omega) (y_bs_fr hf3 (by decide +kernel) (y_bs_up (by omega) (by omega) (by omega) (by omega) hB)), ?_⟩
        rw [y_mu_up (by omega), y_mu_fr hf3 (by decide +kernel), y_mu_flag (by omega) h0]
        omega
      refine y_run 2 rfl ?_
      exact p236 _ _ hT4 hf4 hg rfl
  have p152 : ∀ (ls : q_U Int32), q_at ls 0 = some (.inr (.inr 67)) → y_W g_sh g_ts d g_t282 (y_rlQ V s) 152 ls [] s := by
    intro ls l0
    refine y_sub (ls1 := [(0, .inr (.inr 67))]) (show ([0] : List Nat).Nodup by decide) (y_R_cons l0 y_R_nil) ?_
    refine y_run 2 rfl ?_
    refine y_callB hword (Or.inl rfl) 1 rfl (fun _ _ _ => rfl) rfl rfl (fun h hR => y_mayV (o := 65) (sz := 85) rfl hR) (by omega) hT ⟨⟨67, rfl, List.mem_cons_self⟩, ⟨_, rfl⟩, True.intro⟩ (fun z hz => ?_) (fun z hz => ?_)
    · exact y_if rfl (fun _ => p191 _ rfl) (fun h => absurd hz h)
    · refine y_if rfl (fun h => absurd (show z.toInt = 0 from h) (by omega)) (fun _ => ?_)
      refine y_run 2 rfl ?_
      refine y_if rfl (fun _ => p191 _ rfl) (fun h => ?_)
      have h0 : (s.1 65 55).toInt = 0 := Classical.byContradiction fun q => h q
      have hT1 := y_Tup (lo := 2147483648) (hi := 2147483649) (g := 0) (o := 65) (k := 55) (x := Int32.ofInt 1) hT rfl rfl (by decide +kernel) (show _ ≤ (1 : Int) by omega) (show (1 : Int) ≤ _ by omega)
      have hf1 := (y_fr.rf (sh := g_sh) (ms := y_rlK) (s := s)).up (o := 65) (k := 55) (v := .inl (Int32.ofInt 1)) rfl (by decide +kernel)
      refine y_run 8 rfl ?_
      refine y_call (y_toldF (V := V) hwr hwant (x := Int64.ofNat 8175547842734419059) (l := Int32.ofInt 0) (u := (Int8.ofInt 100).toInt32)) 1 rfl (fun _ _ _ => rfl) (a := [.inr (.inr 67), .inr (.inl ((Int64.ofNat 8175547842734419059))), .inl ((Int32.ofInt 0)), .inl (((Int8.ofInt 100).toInt32))]) rfl rfl (fun h hR => y_mayV (o := 65) (sz := 85) rfl hR) (by omega) ⟨hT1, rfl⟩ (fun v s3 hQ => ?_)
      obtain ⟨hT3, hf3, z, rfl, hz⟩ := hQ
      have hzb := y_toIntB z
      have hT4 := y_Tup (lo := 0) (hi := 4294967295) (g := 0) (o := 65) (k := 45) (x := z) hT3 rfl rfl (by decide +kernel) (by omega) (by omega)
      have hf4 : y_fr g_sh y_rlK s (y_up s3 65 45 (.inl z)) := (hf1.tr (hf3.mono (by decide +kernel))).up (o := 65) (k := 45) rfl (by decide +kernel)
      have hg : y_gd (y_mu s) (y_up s3 65 45 (.inl z)) := by
        intro q
        have q2 : (s3.1 65 2).toInt = 0 := q
        refine ⟨y_bs_up (by omega) (by omega) (by omega) (by omega) (y_bs_fr hf3 (by decide +kernel) (y_bs_up (by omega) (by omega) (by omega) (by omega) hB)), ?_⟩
        rw [y_mu_up (by omega), y_mu_fr hf3 (by decide +kernel), y_mu_flag (by omega) h0]
        omega
      refine y_run 2 rfl ?_
      exact p236 _ _ hT4 hf4 hg rfl
  have p128 : ∀ (ls : q_U Int32), q_at ls 0 = some (.inr (.inr 67)) → y_W g_sh g_ts d g_t282 (y_rlQ V s) 128 ls [] s := by
    intro ls l0
    refine y_sub (ls1 := [(0, .inr (.inr 67))]) (show ([0] : List Nat).Nodup by decide) (y_R_cons l0 y_R_nil) ?_
    refine y_run 2 rfl ?_
    refine y_callB hword (Or.inl rfl) 1 rfl (fun _ _ _ => rfl) rfl rfl (fun h hR => y_mayV (o := 65) (sz := 85) rfl hR) (by omega) hT ⟨⟨67, rfl, List.mem_cons_self⟩, ⟨_, rfl⟩, True.intro⟩ (fun z hz => ?_) (fun z hz => ?_)
    · exact y_if rfl (fun _ => p152 _ rfl) (fun h => absurd hz h)
    · refine y_if rfl (fun h => absurd (show z.toInt = 0 from h) (by omega)) (fun _ => ?_)
      refine y_run 2 rfl ?_
      refine y_if rfl (fun _ => p152 _ rfl) (fun h => ?_)
      have h0 : (s.1 65 24).toInt = 0 := Classical.byContradiction fun q => h q
      refine y_run 1 rfl ?_
      refine y_call (y_formulaF (V := V) hword hmay hasked hwr htight hrel) 1 rfl (fun _ _ _ => rfl) (a := [.inr (.inr 67)]) rfl rfl (fun h hR => y_mayV (o := 65) (sz := 85) rfl hR) (by omega) ⟨hT, rfl, hB.2.1⟩ (fun v s3 hQ => ?_)
      obtain ⟨rfl, ⟨hT3, hf3, h24⟩, hwf⟩ := hQ
      refine y_run 1 rfl ?_
      refine p236 s3 _ hT3 (hf3.mono (by decide +kernel)) (fun q => ?_) rfl
      obtain ⟨w1, w2⟩ := hwf q
      refine ⟨⟨?_, w1, w2⟩, ?_⟩
      · rw [hf3.at (o := 65) (k := 44) (A := w_t 0) rfl rfl (by decide +kernel)]
        exact hB.1
      · rw [y_mu_one (k := 24) (by omega) hf3 (by rintro j (rfl | rfl | rfl | rfl | rfl | rfl | rfl) hne <;> first | exact absurd rfl hne | decide +kernel) (by rw [h24, h0]; rfl)]
        omega
  have p90 : ∀ (ls : q_U Int32), q_at ls 0 = some (.inr (.inr 67)) → y_W g_sh g_ts d g_t282 (y_rlQ V s) 90 ls [] s := by
    intro ls l0
    refine y_sub (ls1 := [(0, .inr (.inr 67))]) (show ([0] : List Nat).Nodup by decide) (y_R_cons l0 y_R_nil) ?_
    refine y_run 2 rfl ?_
    refine y_callB hword (Or.inl rfl) 1 rfl (fun _ _ _ => rfl) rfl rfl (fun h hR => y_mayV (o := 65) (sz := 85) rfl hR) (by omega) hT ⟨⟨67, rfl, List.mem_cons_self⟩, ⟨_, rfl⟩, True.intro⟩ (fun z hz => ?_) (fun z hz => ?_)
    · exact y_if rfl (fun _ => p128 _ rfl) (fun h => absurd hz h)
    · refine y_if rfl (fun h => absurd (show z.toInt = 0 from h) (by omega)) (fun _ => ?_)
      refine y_run 2 rfl ?_
      refine y_if rfl (fun _ => p128 _ rfl) (fun h => ?_)
      have h0 : (s.1 65 54).toInt = 0 := Classical.byContradiction fun q => h q
      have hT1 := y_Tup (lo := 2147483648) (hi := 2147483649) (g := 0) (o := 65) (k := 54) (x := Int32.ofInt 1) hT rfl rfl (by decide +kernel) (show _ ≤ (1 : Int) by omega) (show (1 : Int) ≤ _ by omega)
      have hf1 := (y_fr.rf (sh := g_sh) (ms := y_rlK) (s := s)).up (o := 65) (k := 54) (v := .inl (Int32.ofInt 1)) rfl (by decide +kernel)
      refine y_run 8 rfl ?_
      refine y_call (y_toldF (V := V) hwr hwant (x := Int64.ofNat 491260570739) (l := Int32.ofInt 1) (u := Int32.ofInt 2)) 1 rfl (fun _ _ _ => rfl) (a := [.inr (.inr 67), .inr (.inl ((Int64.ofNat 491260570739))), .inl ((Int32.ofInt 1)), .inl ((Int32.ofInt 2))]) rfl rfl (fun h hR => y_mayV (o := 65) (sz := 85) rfl hR) (by omega) ⟨hT1, rfl⟩ (fun v s3 hQ => ?_)
      obtain ⟨hT3, hf3, z, rfl, hz⟩ := hQ
      have hzb := y_toIntB z
      have hT4 := y_Tup (lo := 0) (hi := 4294967295) (g := 0) (o := 65) (k := 44) (x := z) hT3 rfl rfl (by decide +kernel) (by omega) (by omega)
      have hf4 : y_fr g_sh y_rlK s (y_up s3 65 44 (.inl z)) := (hf1.tr (hf3.mono (by decide +kernel))).up (o := 65) (k := 44) rfl (by decide +kernel)
      have hg : y_gd (y_mu s) (y_up s3 65 44 (.inl z)) := by
        intro q
        have q2 : (s3.1 65 2).toInt = 0 := q
        have hz2 := hz q2
        have b3 := y_bs_fr hf3 (by decide +kernel) (y_bs_up (k := 54) (x := Int32.ofInt 1) (by omega) (by omega) (by omega) (by omega) hB)
        refine ⟨⟨?_, ?_, y_fm_eq (y_up_ne (by omega)) (y_up_ne (by omega)) (fun i _ => y_up_ne (by omega)) (fun i _ => y_up_ne (by omega)) b3.2.2⟩, ?_⟩
        · rw [y_up_self]
          exact hz2
        · rw [y_up_ne (show ¬ (65 = 65 ∧ 20 = 44) by omega)]
          exact b3.2.1
        · rw [y_mu_up (by omega), y_mu_fr hf3 (by decide +kernel), y_mu_flag (by omega) h0]
          omega
      refine y_run 2 rfl ?_
      exact p236 _ _ hT4 hf4 hg rfl
  have p51 : ∀ (ls : q_U Int32), q_at ls 0 = some (.inr (.inr 67)) → y_W g_sh g_ts d g_t282 (y_rlQ V s) 51 ls [] s := by
    intro ls l0
    refine y_sub (ls1 := [(0, .inr (.inr 67))]) (show ([0] : List Nat).Nodup by decide) (y_R_cons l0 y_R_nil) ?_
    refine y_run 2 rfl ?_
    refine y_callB hword (Or.inl rfl) 1 rfl (fun _ _ _ => rfl) rfl rfl (fun h hR => y_mayV (o := 65) (sz := 85) rfl hR) (by omega) hT ⟨⟨67, rfl, List.mem_cons_self⟩, ⟨_, rfl⟩, True.intro⟩ (fun z hz => ?_) (fun z hz => ?_)
    · exact y_if rfl (fun _ => p90 _ rfl) (fun h => absurd hz h)
    · refine y_if rfl (fun h => absurd (show z.toInt = 0 from h) (by omega)) (fun _ => ?_)
      refine y_run 2 rfl ?_
      refine y_if rfl (fun _ => p90 _ rfl) (fun h => ?_)
      have h0 : (s.1 65 53).toInt = 0 := Classical.byContradiction fun q => h q
      have hT1 := y_Tup (lo := 2147483648) (hi := 2147483649) (g := 0) (o := 65) (k := 53) (x := Int32.ofInt 1) hT rfl rfl (by decide +kernel) (show _ ≤ (1 : Int) by omega) (show (1 : Int) ≤ _ by omega)
      have hf1 := (y_fr.rf (sh := g_sh) (ms := y_rlK) (s := s)).up (o := 65) (k := 53) (v := .inl (Int32.ofInt 1)) rfl (by decide +kernel)
      refine y_run 8 rfl ?_
      refine y_call (y_toldF (V := V) hwr hwant (x := Int64.ofNat 109356099333997) (l := Int32.ofInt 1) (u := (Int8.ofInt 60).toInt32)) 1 rfl (fun _ _ _ => rfl) (a := [.inr (.inr 67), .inr (.inl ((Int64.ofNat 109356099333997))), .inl ((Int32.ofInt 1)), .inl (((Int8.ofInt 60).toInt32))]) rfl rfl (fun h hR => y_mayV (o := 65) (sz := 85) rfl hR) (by omega) ⟨hT1, rfl⟩ (fun v s3 hQ => ?_)
      obtain ⟨hT3, hf3, z, rfl, hz⟩ := hQ
      have hzb := y_toIntB z
      have hT4 := y_Tup (lo := 0) (hi := 4294967295) (g := 0) (o := 65) (k := 43) (x := z) hT3 rfl rfl (by decide +kernel) (by omega) (by omega)
      have hf4 : y_fr g_sh y_rlK s (y_up s3 65 43 (.inl z)) := (hf1.tr (hf3.mono (by decide +kernel))).up (o := 65) (k := 43) rfl (by decide +kernel)
      have hg : y_gd (y_mu s) (y_up s3 65 43 (.inl z)) := by
        intro q
        have q2 : (s3.1 65 2).toInt = 0 := q
        refine ⟨y_bs_up (by omega) (by omega) (by omega) (by omega) (y_bs_fr hf3 (by decide +kernel) (y_bs_up (by omega) (by omega) (by omega) (by omega) hB)), ?_⟩
        rw [y_mu_up (by omega), y_mu_fr hf3 (by decide +kernel), y_mu_flag (by omega) h0]
        omega
      refine y_run 2 rfl ?_
      exact p236 _ _ hT4 hf4 hg rfl
  have p25 : ∀ (ls : q_U Int32), q_at ls 0 = some (.inr (.inr 67)) → y_W g_sh g_ts d g_t282 (y_rlQ V s) 25 ls [] s := by
    intro ls l0
    refine y_sub (ls1 := [(0, .inr (.inr 67))]) (show ([0] : List Nat).Nodup by decide) (y_R_cons l0 y_R_nil) ?_
    refine y_run 2 rfl ?_
    refine y_callB hword (Or.inl rfl) 1 rfl (fun _ _ _ => rfl) rfl rfl (fun h hR => y_mayV (o := 65) (sz := 85) rfl hR) (by omega) hT ⟨⟨67, rfl, List.mem_cons_self⟩, ⟨_, rfl⟩, True.intro⟩ (fun z hz => ?_) (fun z hz => ?_)
    · exact y_if rfl (fun _ => p51 _ rfl) (fun h => absurd hz h)
    · refine y_if rfl (fun h => absurd (show z.toInt = 0 from h) (by omega)) (fun _ => ?_)
      refine y_run 3 rfl ?_
      refine y_ic rfl (fun _ => p51 _ rfl) (fun h => ?_)
      have h7 : ¬ 7 ≤ (s.1 65 42).toInt := h
      refine y_run 1 rfl ?_
      refine y_call (y_readPairF (V := V) hn5 hwant hname hwr ht1 hm1) 1 rfl (fun _ _ _ => rfl) (a := [.inr (.inr 67)]) rfl rfl (fun h hR => y_mayV (o := 65) (sz := 85) rfl hR) (by omega) ⟨hT, rfl, by omega⟩ (fun v s3 hQ => ?_)
      obtain ⟨rfl, hT3, hf3, hn⟩ := hQ
      refine y_run 1 rfl ?_
      refine p236 s3 _ hT3 (hf3.mono (by decide +kernel)) (fun q => ⟨y_bs_fr hf3 (by decide +kernel) hB, ?_⟩) rfl
      rw [y_mu_one (k := 42) (by omega) hf3 (by rintro j (rfl | rfl | rfl | rfl | rfl | rfl | rfl) hne <;> first | exact absurd rfl hne | decide +kernel) (hn q)]
      omega
  refine y_run 2 rfl ?_
  refine y_callB hword (Or.inl rfl) 1 rfl (fun _ _ _ => rfl) rfl rfl (fun h hR => y_mayV (o := 65) (sz := 85) rfl hR) (by omega) hT ⟨⟨67, rfl, List.mem_cons_self⟩, ⟨_, rfl⟩, True.intro⟩ (fun z hz => ?_) (fun z hz => ?_)
  · exact y_if rfl (fun _ => p25 _ rfl) (fun h => absurd hz h)
  · refine y_if rfl (fun h => absurd (show z.toInt = 0 from h) (by omega)) (fun _ => ?_)
    refine y_run 3 rfl ?_
    refine y_ic rfl (fun _ => p25 _ rfl) (fun h => ?_)
    have h7 : ¬ 5 ≤ (s.1 65 41).toInt := h
    refine y_run 1 rfl ?_
    refine y_call (y_readShipF (V := V) hn0 ht0 hm0) 1 rfl (fun _ _ _ => rfl) (a := [.inr (.inr 67)]) rfl rfl (fun h hR => y_mayV (o := 65) (sz := 85) rfl hR) (by omega) ⟨hT, rfl, by omega⟩ (fun v s3 hQ => ?_)
    obtain ⟨rfl, hT3, hf3, hn⟩ := hQ
    refine y_run 1 rfl ?_
    refine p236 s3 _ hT3 (hf3.mono (by decide +kernel)) (fun q => ⟨y_bs_fr hf3 (by decide +kernel) hB, ?_⟩) rfl
    rw [y_mu_one (k := 41) (by omega) hf3 (by rintro j (rfl | rfl | rfl | rfl | rfl | rfl | rfl) hne <;> first | exact absurd rfl hne | decide +kernel) (hn q)]
    omega
abbrev y_raK : List (Nat × Nat) := [(266305, 266313), (266321, 266321), (266323, 266324), (266326, 266328), (266345, 266350), (266357, 266360), (274496, 274507), (278592, 278911), (282688, 283007), (294976, 295135), (307264, 307268), (311360, 311364), (315456, 315462), (319552, 319558), (323648, 323654)]
def y_raQ (V : w_V) (s0 : y_H) (v : Option (q_V Int32)) (s : y_H) : Prop := v = none ∧ w_T V g_sh (y_mk g_sh s) ∧ y_fr g_sh y_raK s0 s ∧ (s.1 65 1).toInt = 0 ∧ ((s.1 65 2).toInt = 0 → y_bs s)
theorem y_mu17 {V : w_V} {s : y_H} (hT : w_T V g_sh (y_mk g_sh s)) : y_mu s ≤ 17 := by
  have a := y_rng (lo := 2147483648) (hi := 2147483649) (g := 0) hT (o := 65) (k := 24) rfl rfl
  have b := y_rng (lo := 2147483648) (hi := 2147483653) (g := 0) hT (o := 65) (k := 41) rfl rfl
  have c := y_rng (lo := 2147483648) (hi := 2147483655) (g := 0) hT (o := 65) (k := 42) rfl rfl
  have d := y_rng (lo := 2147483648) (hi := 2147483649) (g := 0) hT (o := 65) (k := 53) rfl rfl
  have e := y_rng (lo := 2147483648) (hi := 2147483649) (g := 0) hT (o := 65) (k := 54) rfl rfl
  have f := y_rng (lo := 2147483648) (hi := 2147483649) (g := 0) hT (o := 65) (k := 55) rfl rfl
  have g := y_rng (lo := 2147483648) (hi := 2147483649) (g := 0) hT (o := 65) (k := 56) rfl rfl
  unfold y_mu
  omega
theorem y_ra_loop {V : w_V} {d : Nat} {s0 : y_H} (H : y_RE V) (hd : 7 ≤ d) : ∀ (c : Nat) (s : y_H), w_T V g_sh (y_mk g_sh s) → y_fr g_sh y_raK s0 s → (s.1 65 1).toInt = 0 → ((s.1 65 2).toInt = 0 → y_bs s ∧ 17 - y_mu s ≤ (c : Int)) → y_W g_sh g_ts d g_t281 (y_raQ V s0) 93 [(0, .inr (.inr 67))] [] s := by
  intro c
  induction c with
  | zero =>
    intro s hT hf h1 hb
    refine y_run 2 rfl ?_
    refine y_if rfl (fun h => y_vret rfl ⟨rfl, hT, hf, h1, fun q => (hb q).1⟩) (fun h => ?_)
    have h0 : (s.1 65 2).toInt = 0 := Classical.byContradiction fun q => h q
    refine y_run 2 rfl ?_
    refine y_if rfl (fun _ => y_vret rfl ⟨rfl, hT, hf, h1, fun q => (hb q).1⟩) (fun _ => ?_)
    refine y_run 1 rfl ?_
    refine y_call (y_readLineF (V := V) H) 1 rfl (fun _ _ _ => rfl) (a := [.inr (.inr 67)]) rfl rfl (fun h hR => y_mayV (o := 65) (sz := 85) rfl hR) hd ⟨hT, rfl, (hb h0).1⟩ (fun v s2 hQ => ?_)
    obtain ⟨rfl, hT2, hf2, hg⟩ := hQ
    have e1 : s2.1 65 1 = s.1 65 1 := hf2.at (o := 65) (k := 1) (A := w_n 0 1600 0) rfl rfl (by decide +kernel)
    refine y_run 1 rfl ?_
    refine y_run 2 rfl ?_
    refine y_if rfl (fun h => y_vret rfl ⟨rfl, hT2, hf.tr (hf2.mono (by decide +kernel)), by rw [e1]; exact h1, fun q => (hg q).1⟩) (fun h => ?_)
    have h02 : (s2.1 65 2).toInt = 0 := Classical.byContradiction fun q => h q
    have g1 := (hg h02).2
    have g2 := y_mu17 hT2
    have g3 := (hb h0).2
    omega
  | succ c ih =>
    intro s hT hf h1 hb
    refine y_run 2 rfl ?_
    refine y_if rfl (fun h => y_vret rfl ⟨rfl, hT, hf, h1, fun q => (hb q).1⟩) (fun h => ?_)
    have h0 : (s.1 65 2).toInt = 0 := Classical.byContradiction fun q => h q
    refine y_run 2 rfl ?_
    refine y_if rfl (fun _ => y_vret rfl ⟨rfl, hT, hf, h1, fun q => (hb q).1⟩) (fun _ => ?_)
    refine y_run 1 rfl ?_
    refine y_call (y_readLineF (V := V) H) 1 rfl (fun _ _ _ => rfl) (a := [.inr (.inr 67)]) rfl rfl (fun h hR => y_mayV (o := 65) (sz := 85) rfl hR) hd ⟨hT, rfl, (hb h0).1⟩ (fun v s2 hQ => ?_)
    obtain ⟨rfl, hT2, hf2, hg⟩ := hQ
    have e1 : s2.1 65 1 = s.1 65 1 := hf2.at (o := 65) (k := 1) (A := w_n 0 1600 0) rfl rfl (by decide +kernel)
    refine y_run 1 rfl ?_
    refine ih s2 hT2 (hf.tr (hf2.mono (by decide +kernel))) (by rw [e1]; exact h1) (fun q => ⟨(hg q).1, ?_⟩)
    have g1 := (hg q).2
    have g3 := (hb h0).2
    omega
theorem y_readAllF {V : w_V} (H : y_RE V) : y_C g_sh g_ts 281 8 (fun a s => w_T V g_sh (y_mk g_sh s) ∧ a = [.inr (.inr 67)]) (fun _ s v s2 => y_raQ V s v s2) := by
  refine y_C.of (t := g_t281) rfl (by decide) ?_
  rintro d a s hd ⟨hT, rfl⟩
  have htp := y_rng (lo := 2147483648) (hi := 2147485248) (g := 0) hT (o := 65) (k := 1) rfl rfl
  have hT0 := y_Tup (lo := 2147483648) (hi := 2147485248) (g := 0) (o := 65) (k := 5) (x := s.1 65 1) hT rfl rfl (by decide +kernel) (by omega) (by omega)
  have hT1 := y_Tup (lo := 2147483648) (hi := 2147485248) (g := 0) (o := 65) (k := 1) (x := (Int32.ofInt 0)) hT0 rfl rfl (by decide +kernel) (show _ ≤ (0 : Int) by omega) (show (0 : Int) ≤ _ by omega)
  have hT2 := y_Tup (lo := 2147483648) (hi := 2147485248) (g := 0) (o := 65) (k := 4) (x := (Int32.ofInt 0)) hT1 rfl rfl (by decide +kernel) (show _ ≤ (0 : Int) by omega) (show (0 : Int) ≤ _ by omega)
  have hT3 := y_Tup (lo := 2147483648) (hi := 2147483653) (g := 0) (o := 65) (k := 2) (x := (Int32.ofInt 0)) hT2 rfl rfl (by decide +kernel) (show _ ≤ (0 : Int) by omega) (show (0 : Int) ≤ _ by omega)
  have hT4 := y_Tup (lo := 0) (hi := 4294967295) (g := 0) (o := 65) (k := 3) (x := (Int32.ofInt (-1))) hT3 rfl rfl (by decide +kernel) (show _ ≤ (-1 : Int) by omega) (show (-1 : Int) ≤ _ by omega)
  have hT5 := y_Tup (lo := 2147483648) (hi := 2147483653) (g := 0) (o := 65) (k := 41) (x := (Int32.ofInt 0)) hT4 rfl rfl (by decide +kernel) (show _ ≤ (0 : Int) by omega) (show (0 : Int) ≤ _ by omega)
  have hT6 := y_Tup (lo := 2147483648) (hi := 2147483655) (g := 0) (o := 65) (k := 42) (x := (Int32.ofInt 0)) hT5 rfl rfl (by decide +kernel) (show _ ≤ (0 : Int) by omega) (show (0 : Int) ≤ _ by omega)
  have hT7 := y_Tup (lo := 0) (hi := 4294967295) (g := 0) (o := 65) (k := 43) (x := ((Int8.ofInt 11).toInt32)) hT6 rfl rfl (by decide +kernel) (show _ ≤ (11 : Int) by omega) (show (11 : Int) ≤ _ by omega)
  have hT8 := y_Tup (lo := 0) (hi := 4294967295) (g := 0) (o := 65) (k := 44) (x := (Int32.ofInt 1)) hT7 rfl rfl (by decide +kernel) (show _ ≤ (1 : Int) by omega) (show (1 : Int) ≤ _ by omega)
  have hT9 := y_Tup (lo := 0) (hi := 4294967295) (g := 0) (o := 65) (k := 45) (x := (Int32.ofInt 0)) hT8 rfl rfl (by decide +kernel) (show _ ≤ (0 : Int) by omega) (show (0 : Int) ≤ _ by omega)
  have hT10 := y_Tup (lo := 0) (hi := 4294967295) (g := 0) (o := 65) (k := 46) (x := (Int32.ofInt 0)) hT9 rfl rfl (by decide +kernel) (show _ ≤ (0 : Int) by omega) (show (0 : Int) ≤ _ by omega)
  have hT11 := y_Tup (lo := 2147483648) (hi := 2147483649) (g := 0) (o := 65) (k := 53) (x := (Int32.ofInt 0)) hT10 rfl rfl (by decide +kernel) (show _ ≤ (0 : Int) by omega) (show (0 : Int) ≤ _ by omega)
  have hT12 := y_Tup (lo := 2147483648) (hi := 2147483649) (g := 0) (o := 65) (k := 54) (x := (Int32.ofInt 0)) hT11 rfl rfl (by decide +kernel) (show _ ≤ (0 : Int) by omega) (show (0 : Int) ≤ _ by omega)
  have hT13 := y_Tup (lo := 2147483648) (hi := 2147483649) (g := 0) (o := 65) (k := 55) (x := (Int32.ofInt 0)) hT12 rfl rfl (by decide +kernel) (show _ ≤ (0 : Int) by omega) (show (0 : Int) ≤ _ by omega)
  have hT14 := y_Tup (lo := 2147483648) (hi := 2147483649) (g := 0) (o := 65) (k := 56) (x := (Int32.ofInt 0)) hT13 rfl rfl (by decide +kernel) (show _ ≤ (0 : Int) by omega) (show (0 : Int) ≤ _ by omega)
  have hT15 := y_Tup (lo := 2147483648) (hi := 2147483649) (g := 0) (o := 65) (k := 24) (x := (Int32.ofInt 0)) hT14 rfl rfl (by decide +kernel) (show _ ≤ (0 : Int) by omega) (show (0 : Int) ≤ _ by omega)
  have hT16 := y_Tup (lo := 2147483648) (hi := 2147483709) (g := 0) (o := 65) (k := 20) (x := (Int32.ofInt 0)) hT15 rfl rfl (by decide +kernel) (show _ ≤ (0 : Int) by omega) (show (0 : Int) ≤ _ by omega)
  have hf : y_fr g_sh y_raK s (y_up (y_up (y_up (y_up (y_up (y_up (y_up (y_up (y_up (y_up (y_up (y_up (y_up (y_up (y_up (y_up (y_up s 65 5 (.inl (s.1 65 1))) 65 1 (.inl (Int32.ofInt 0))) 65 4 (.inl (Int32.ofInt 0))) 65 2 (.inl (Int32.ofInt 0))) 65 3 (.inl (Int32.ofInt (-1)))) 65 41 (.inl (Int32.ofInt 0))) 65 42 (.inl (Int32.ofInt 0))) 65 43 (.inl ((Int8.ofInt 11).toInt32))) 65 44 (.inl (Int32.ofInt 1))) 65 45 (.inl (Int32.ofInt 0))) 65 46 (.inl (Int32.ofInt 0))) 65 53 (.inl (Int32.ofInt 0))) 65 54 (.inl (Int32.ofInt 0))) 65 55 (.inl (Int32.ofInt 0))) 65 56 (.inl (Int32.ofInt 0))) 65 24 (.inl (Int32.ofInt 0))) 65 20 (.inl (Int32.ofInt 0))) := ((((((((((((((((((y_fr.rf (sh := g_sh) (ms := y_raK) (s := s)).up (o := 65) (k := 5) (v := .inl (s.1 65 1)) rfl (by decide +kernel)).up (o := 65) (k := 1) (v := .inl (Int32.ofInt 0)) rfl (by decide +kernel)).up (o := 65) (k := 4) (v := .inl (Int32.ofInt 0)) rfl (by decide +kernel)).up (o := 65) (k := 2) (v := .inl (Int32.ofInt 0)) rfl (by decide +kernel)).up (o := 65) (k := 3) (v := .inl (Int32.ofInt (-1))) rfl (by decide +kernel)).up (o := 65) (k := 41) (v := .inl (Int32.ofInt 0)) rfl (by decide +kernel)).up (o := 65) (k := 42) (v := .inl (Int32.ofInt 0)) rfl (by decide +kernel)).up (o := 65) (k := 43) (v := .inl ((Int8.ofInt 11).toInt32)) rfl (by decide +kernel)).up (o := 65) (k := 44) (v := .inl (Int32.ofInt 1)) rfl (by decide +kernel)).up (o := 65) (k := 45) (v := .inl (Int32.ofInt 0)) rfl (by decide +kernel)).up (o := 65) (k := 46) (v := .inl (Int32.ofInt 0)) rfl (by decide +kernel)).up (o := 65) (k := 53) (v := .inl (Int32.ofInt 0)) rfl (by decide +kernel)).up (o := 65) (k := 54) (v := .inl (Int32.ofInt 0)) rfl (by decide +kernel)).up (o := 65) (k := 55) (v := .inl (Int32.ofInt 0)) rfl (by decide +kernel)).up (o := 65) (k := 56) (v := .inl (Int32.ofInt 0)) rfl (by decide +kernel)).up (o := 65) (k := 24) (v := .inl (Int32.ofInt 0)) rfl (by decide +kernel)).up (o := 65) (k := 20) (v := .inl (Int32.ofInt 0)) rfl (by decide +kernel))
  have b1 : ((y_up (y_up (y_up (y_up (y_up (y_up (y_up (y_up (y_up (y_up (y_up (y_up (y_up (y_up (y_up (y_up (y_up s 65 5 (.inl (s.1 65 1))) 65 1 (.inl (Int32.ofInt 0))) 65 4 (.inl (Int32.ofInt 0))) 65 2 (.inl (Int32.ofInt 0))) 65 3 (.inl (Int32.ofInt (-1)))) 65 41 (.inl (Int32.ofInt 0))) 65 42 (.inl (Int32.ofInt 0))) 65 43 (.inl ((Int8.ofInt 11).toInt32))) 65 44 (.inl (Int32.ofInt 1))) 65 45 (.inl (Int32.ofInt 0))) 65 46 (.inl (Int32.ofInt 0))) 65 53 (.inl (Int32.ofInt 0))) 65 54 (.inl (Int32.ofInt 0))) 65 55 (.inl (Int32.ofInt 0))) 65 56 (.inl (Int32.ofInt 0))) 65 24 (.inl (Int32.ofInt 0))) 65 20 (.inl (Int32.ofInt 0))).1 65 1).toInt = 0 := rfl
  have b2 : y_bs (y_up (y_up (y_up (y_up (y_up (y_up (y_up (y_up (y_up (y_up (y_up (y_up (y_up (y_up (y_up (y_up (y_up s 65 5 (.inl (s.1 65 1))) 65 1 (.inl (Int32.ofInt 0))) 65 4 (.inl (Int32.ofInt 0))) 65 2 (.inl (Int32.ofInt 0))) 65 3 (.inl (Int32.ofInt (-1)))) 65 41 (.inl (Int32.ofInt 0))) 65 42 (.inl (Int32.ofInt 0))) 65 43 (.inl ((Int8.ofInt 11).toInt32))) 65 44 (.inl (Int32.ofInt 1))) 65 45 (.inl (Int32.ofInt 0))) 65 46 (.inl (Int32.ofInt 0))) 65 53 (.inl (Int32.ofInt 0))) 65 54 (.inl (Int32.ofInt 0))) 65 55 (.inl (Int32.ofInt 0))) 65 56 (.inl (Int32.ofInt 0))) 65 24 (.inl (Int32.ofInt 0))) 65 20 (.inl (Int32.ofInt 0))) ∧ 17 - y_mu (y_up (y_up (y_up (y_up (y_up (y_up (y_up (y_up (y_up (y_up (y_up (y_up (y_up (y_up (y_up (y_up (y_up s 65 5 (.inl (s.1 65 1))) 65 1 (.inl (Int32.ofInt 0))) 65 4 (.inl (Int32.ofInt 0))) 65 2 (.inl (Int32.ofInt 0))) 65 3 (.inl (Int32.ofInt (-1)))) 65 41 (.inl (Int32.ofInt 0))) 65 42 (.inl (Int32.ofInt 0))) 65 43 (.inl ((Int8.ofInt 11).toInt32))) 65 44 (.inl (Int32.ofInt 1))) 65 45 (.inl (Int32.ofInt 0))) 65 46 (.inl (Int32.ofInt 0))) 65 53 (.inl (Int32.ofInt 0))) 65 54 (.inl (Int32.ofInt 0))) 65 55 (.inl (Int32.ofInt 0))) 65 56 (.inl (Int32.ofInt 0))) 65 24 (.inl (Int32.ofInt 0))) 65 20 (.inl (Int32.ofInt 0))) ≤ ((17 : Nat) : Int) := ⟨⟨⟨show (1 : Int) ≤ 1 by omega, show (1 : Int) ≤ 2 by omega⟩, show (0 : Int) ≤ 60 by omega, fun h => absurd rfl h⟩, show (17 : Int) - (0 + 0 + 0 + 0 + 0 + 0 + 0) ≤ 17 by omega⟩
  refine y_run 53 rfl ?_
  show y_W g_sh g_ts d g_t281 (y_raQ V s) 90 [(0, .inr (.inr 67))] [.inr (.inr 67)] (y_up (y_up (y_up (y_up (y_up (y_up (y_up (y_up (y_up (y_up (y_up (y_up (y_up (y_up (y_up (y_up (y_up s 65 5 (.inl (s.1 65 1))) 65 1 (.inl (Int32.ofInt 0))) 65 4 (.inl (Int32.ofInt 0))) 65 2 (.inl (Int32.ofInt 0))) 65 3 (.inl (Int32.ofInt (-1)))) 65 41 (.inl (Int32.ofInt 0))) 65 42 (.inl (Int32.ofInt 0))) 65 43 (.inl ((Int8.ofInt 11).toInt32))) 65 44 (.inl (Int32.ofInt 1))) 65 45 (.inl (Int32.ofInt 0))) 65 46 (.inl (Int32.ofInt 0))) 65 53 (.inl (Int32.ofInt 0))) 65 54 (.inl (Int32.ofInt 0))) 65 55 (.inl (Int32.ofInt 0))) 65 56 (.inl (Int32.ofInt 0))) 65 24 (.inl (Int32.ofInt 0))) 65 20 (.inl (Int32.ofInt 0)))
  revert hT16 hf b1 b2
  generalize y_up (y_up (y_up (y_up (y_up (y_up (y_up (y_up (y_up (y_up (y_up (y_up (y_up (y_up (y_up (y_up (y_up s 65 5 (.inl (s.1 65 1))) 65 1 (.inl (Int32.ofInt 0))) 65 4 (.inl (Int32.ofInt 0))) 65 2 (.inl (Int32.ofInt 0))) 65 3 (.inl (Int32.ofInt (-1)))) 65 41 (.inl (Int32.ofInt 0))) 65 42 (.inl (Int32.ofInt 0))) 65 43 (.inl ((Int8.ofInt 11).toInt32))) 65 44 (.inl (Int32.ofInt 1))) 65 45 (.inl (Int32.ofInt 0))) 65 46 (.inl (Int32.ofInt 0))) 65 53 (.inl (Int32.ofInt 0))) 65 54 (.inl (Int32.ofInt 0))) 65 55 (.inl (Int32.ofInt 0))) 65 56 (.inl (Int32.ofInt 0))) 65 24 (.inl (Int32.ofInt 0))) 65 20 (.inl (Int32.ofInt 0)) = s1
  intro hT1 hf b1 b2
  refine y_call (y_token (V := V)) 1 rfl (fun _ _ _ => rfl) (a := [.inr (.inr 67)]) rfl rfl (fun h hR => y_mayV (o := 65) (sz := 85) rfl hR) (by omega) ⟨hT1, rfl⟩ (fun v s3 hQ => ?_)
  obtain ⟨rfl, hT3, hf3, -, -⟩ := hQ
  refine y_sub (ls1 := [(0, .inr (.inr 67))]) (show ([0] : List Nat).Nodup by decide) (y_R_cons rfl y_R_nil) ?_
  exact y_ra_loop H (by omega) 17 s3 hT3 (hf.tr (hf3.mono (by decide +kernel))) (by rw [hf3.at (o := 65) (k := 1) (A := w_n 0 1600 0) rfl rfl (by decide +kernel)]; exact b1) (fun _ => ⟨y_bs_fr hf3 (by decide +kernel) b2.1, by rw [y_mu_fr hf3 (by decide +kernel)]; exact b2.2⟩)
