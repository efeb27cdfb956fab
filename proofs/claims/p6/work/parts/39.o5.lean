/-! by hand: toldNumber, told, readShip, readPair of the model -/
abbrev y_eWant (V : w_V) : Prop := w_Ent V g_sh g_ts (318, [w_r 67, w_l], [], [(266306, 266308), (266310, 266313)], [([], none, [])], 3)
def y_toldQ (V : w_V) (l u : Int32) (s : y_H) (v : Option (q_V Int32)) (s2 : y_H) : Prop := w_T V g_sh (y_mk g_sh s2) ∧ y_fr g_sh y_osK s s2 ∧ ∃ z : Int32, v = some (.inl z) ∧ ((s2.1 65 2).toInt = 0 → l.toInt ≤ z.toInt ∧ z.toInt ≤ u.toInt)
theorem y_toldNumberF {V : w_V} (hwr : y_eWrong V) {l u : Int32} : y_C g_sh g_ts 311 3 (fun a s => w_T V g_sh (y_mk g_sh s) ∧ a = [.inr (.inr 67), .inl l, .inl u]) (fun _ s v s2 => y_toldQ V l u s v s2) := by
  refine y_C.of (t := g_t311) rfl (by decide) ?_
  rintro d a s hd ⟨hT, rfl⟩
  have hfl := y_rng (lo := 2147483648) (hi := 2147483653) (g := 0) hT (o := 65) (k := 2) rfl rfl
  have p46 : ∀ (s2 : y_H) (ls : q_U Int32), w_T V g_sh (y_mk g_sh s2) → y_fr g_sh [(266306, 266307)] s s2 → ((s2.1 65 2).toInt = 0 → l.toInt ≤ (s2.1 65 8).toInt ∧ (s2.1 65 8).toInt ≤ u.toInt) → q_at ls 0 = some (.inr (.inr 67)) → y_W g_sh g_ts d g_t311 (y_toldQ V l u s) 46 ls [] s2 := by
    intro s2 ls hT2 hf2 hb l0
    refine y_sub (ls1 := [(0, .inr (.inr 67))]) (show ([0] : List Nat).Nodup by decide) (y_R_cons l0 y_R_nil) ?_
    refine y_run 5 rfl ?_
    refine y_if rfl (fun h => ?_) (fun _ => ?_)
    · have h1 : (s2.1 65 2).toInt ≠ 0 := h
      refine y_run 1 rfl ?_
      exact y_iret rfl ⟨hT2, hf2.mono (by decide +kernel), _, rfl, fun q => absurd q h1⟩
    · refine y_run 1 rfl ?_
      refine y_call (y_token (V := V)) 1 rfl (fun _ _ _ => rfl) (a := [.inr (.inr 67)]) rfl rfl (fun h hR => y_mayV (o := 65) (sz := 85) rfl hR) (by omega) ⟨hT2, rfl⟩ (fun v s3 hQ => ?_)
      obtain ⟨rfl, hT3, hf3, -, -⟩ := hQ
      refine y_run 1 rfl ?_
      exact y_iret rfl ⟨hT3, (hf2.mono (by decide +kernel)).tr (hf3.mono (by decide +kernel)), _, rfl, fun q => hb (by rw [← y_tkFault hf3]; exact q)⟩
  refine y_run 2 rfl ?_
  refine y_if rfl (fun _ => ?_) (fun h => ?_)
  · have p41 : ∀ ls : q_U Int32, q_at ls 0 = some (.inr (.inr 67)) → y_W g_sh g_ts d g_t311 (y_toldQ V l u s) 41 ls [] s := by
      intro ls l0
      refine y_sub (ls1 := [(0, .inr (.inr 67))]) (show ([0] : List Nat).Nodup by decide) (y_R_cons l0 y_R_nil) ?_
      refine y_run 2 rfl ?_
      refine y_callW hwr rfl rfl (by omega) hT (show (2 : Int) ≤ 4 by omega) (show (4 : Int) ≤ 5 by omega) (fun s2 hT2 hf2 h1 => ?_)
      exact p46 s2 _ hT2 hf2 (fun q => by omega) rfl
    refine y_run 3 rfl ?_
    refine y_ic rfl (fun _ => ?_) (fun _ => ?_)
    · refine y_run 3 rfl ?_
      refine y_ic rfl (fun _ => p41 _ rfl) (fun h1 => ?_)
      have h2 : ¬ (s.1 65 8).toInt < l.toInt := h1
      refine y_run 3 rfl ?_
      refine y_ic rfl (fun h3 => ?_) (fun _ => p41 _ rfl)
      have h4 : (s.1 65 8).toInt ≤ u.toInt := h3
      exact p46 s _ hT y_fr.rf (fun _ => ⟨by omega, h4⟩) rfl
    · refine y_run 2 rfl ?_
      refine y_callW hwr rfl rfl (by omega) hT (show (2 : Int) ≤ 2 by omega) (show (2 : Int) ≤ 5 by omega) (fun s2 hT2 hf2 h1 => ?_)
      refine y_run 1 rfl ?_
      exact p46 s2 _ hT2 hf2 (fun q => by omega) rfl
  · have h1 : ¬ (s.1 65 2).toInt ≤ 0 := h
    refine y_run 1 rfl ?_
    exact y_iret rfl ⟨hT, y_fr.rf, _, rfl, fun q => by omega⟩
theorem y_toldF {V : w_V} (hwr : y_eWrong V) (hwant : y_eWant V) {x : Int64} {l u : Int32} : y_C g_sh g_ts 310 4 (fun a s => w_T V g_sh (y_mk g_sh s) ∧ a = [.inr (.inr 67), .inr (.inl (x)), .inl l, .inl u]) (fun _ s v s2 => y_toldQ V l u s v s2) := by
  refine y_C.of (t := g_t310) rfl (by decide) ?_
  rintro d a s hd ⟨hT, rfl⟩
  refine y_run 2 rfl ?_
  refine y_callN ⟨rfl, hwant⟩ 1 rfl (fun _ _ _ => rfl) (a := [.inr (.inr 67), .inr (.inl (x))]) rfl rfl (fun h hR => y_mayV (o := 65) (sz := 85) rfl hR) (by omega) hT ⟨⟨67, rfl, List.mem_cons_self⟩, ⟨_, rfl⟩, True.intro⟩ (fun s2 hT2 hf2 => ?_)
  refine y_run 3 rfl ?_
  refine y_call (y_toldNumberF (V := V) hwr (l := l) (u := u)) 1 rfl (fun _ _ _ => rfl) (a := [.inr (.inr 67), .inl l, .inl u]) rfl rfl (fun h hR => y_mayV (o := 65) (sz := 85) rfl hR) (by omega) ⟨hT2, rfl⟩ (fun v s3 hQ => ?_)
  obtain ⟨hT3, hf3, z, rfl, hz⟩ := hQ
  exact y_iret rfl ⟨hT3, (hf2.mono (by decide +kernel)).tr hf3, z, rfl, hz⟩
abbrev y_eNew0 (V : w_V) : Prop := w_Ent V g_sh g_ts (263, [w_r 67, w_n 0 0 0, w_n 0 4 0], [], [(266306, 266308), (266310, 266313), (274496, 274500)], [([], none, [])], 3)
abbrev y_eNew5 (V : w_V) : Prop := w_Ent V g_sh g_ts (263, [w_r 67, w_n 5 5 0, w_n 0 6 0], [], [(266306, 266308), (266310, 266313), (274501, 274507)], [([], none, [])], 3)
abbrev y_eTold (V : w_V) (a b : Nat) : Prop := w_Ent V g_sh g_ts (310, [w_r 67, w_l, w_n a a 0, w_n b b 0], [], [(266306, 266308), (266310, 266313)], [([], some (w_n 0 9999 0), [])], 4)
abbrev y_eMay (V : w_V) (a b : Nat) : Prop := w_Ent V g_sh g_ts (258, [w_r 67, w_l, w_n a a 0, w_n b b 0], [], [(266306, 266308), (266310, 266313)], [([], some (w_n 0 9999 0), [])], 5)
abbrev y_rsK : List (Nat × Nat) := [(266306, 266308), (266310, 266313), (266345, 266345), (274496, 274500), (307264, 307268), (311360, 311364)]
theorem y_readShipF {V : w_V} (hnew : y_eNew0 V) (htold : y_eTold V 0 240) (hmay : y_eMay V 60 0) : y_C g_sh g_ts 284 6 (fun a s => w_T V g_sh (y_mk g_sh s) ∧ a = [.inr (.inr 67)] ∧ (s.1 65 41).toInt ≤ 4) (fun _ s v s2 => v = none ∧ w_T V g_sh (y_mk g_sh s2) ∧ y_fr g_sh y_rsK s s2 ∧ ((s2.1 65 2).toInt = 0 → (s2.1 65 41).toInt = (s.1 65 41).toInt + 1)) := by
  refine y_C.of (t := g_t284) rfl (by decide) ?_
  rintro d a s hd ⟨hT, rfl, h4⟩
  have hns := y_rng (lo := 2147483648) (hi := 2147483653) (g := 0) hT (o := 65) (k := 41) rfl rfl
  generalize hN : (s.1 65 41).toInt.toNat = N
  have k75 : ∀ j, y_kd g_sh 75 j = 0 := fun j => y_kdA (tag := 100) (sz := 5) (a := ((2147483648, 2147493647), 0)) rfl
  have k76 : ∀ j, y_kd g_sh 76 j = 0 := fun j => y_kdA (tag := 100) (sz := 5) (a := ((2147483648, 2147493647), 0)) rfl
  refine y_run 4 rfl ?_
  refine y_callN ⟨rfl, hnew⟩ 1 rfl (fun _ _ _ => rfl) (a := [.inr (.inr 67), .inl ((Int32.ofInt 0)), .inl ((s.1 65 41))]) rfl rfl (fun h hR => y_mayV (o := 65) (sz := 85) rfl hR) (by omega) hT ⟨⟨67, rfl, List.mem_cons_self⟩, y_iv (show _ ≤ (0 : Int) by omega) (show (0 : Int) ≤ _ by omega), y_iv (by omega) (by omega), True.intro⟩ (fun s1 hT1 hf1 => ?_)
  have e1 : s1.1 65 41 = s.1 65 41 := hf1.at (o := 65) (k := 41) (A := w_n 0 5 0) rfl rfl (by decide +kernel)
  refine y_run 8 rfl ?_
  refine y_callI ⟨rfl, htold⟩ 1 rfl (fun _ _ _ => rfl) (a := [.inr (.inr 67), .inr (.inl ((Int64.ofNat 495555538035))), .inl ((Int32.ofInt 0)), .inl (((Int16.ofInt 240).toInt32))]) rfl rfl (fun h hR => y_mayV (o := 65) (sz := 85) rfl hR) (by omega) hT1 ⟨⟨67, rfl, List.mem_cons_self⟩, ⟨_, rfl⟩, y_iv (show _ ≤ (0 : Int) by omega) (show (0 : Int) ≤ _ by omega), y_iv (show _ ≤ (240 : Int) by omega) (show (240 : Int) ≤ _ by omega), True.intro⟩ (fun z s2 hT2 hf2 z0 z1 => ?_)
  have e2 : s2.1 65 41 = s1.1 65 41 := hf2.at (o := 65) (k := 41) (A := w_n 0 5 0) rfl rfl (by decide +kernel)
  refine y_ast (o := 75) (sz := 5) (j := N) rfl rfl (by rw [e1]; omega) (by omega) (k75 _) ?_
  have hT3 := y_Tup (lo := 2147483648) (hi := 2147493647) (g := 0) (x := z) hT2 (y_tyA (o := 75) (k := N) (tag := 100) (sz := 5) (A := .inl ((2147483648, 2147493647), 0)) rfl (by omega)) (k75 _) (y_pkA (sz := 5) (by decide +kernel) (by omega)) (by omega) (by omega)
  have hf3 : y_fr g_sh y_rsK s (y_up s2 75 N (.inl z)) := ((hf1.mono (by decide +kernel)).tr (hf2.mono (by decide +kernel))).up (o := 75) (k := N) (k75 _) (y_msA (sz := 5) (by decide +kernel) (by omega))
  have e3 : (y_up s2 75 N (.inl z)).1 65 41 = s.1 65 41 := (y_up_ne (by omega)).trans (e2.trans e1)
  refine y_run 8 rfl ?_
  revert hT3 hf3 e3
  generalize y_up s2 75 N (.inl z) = s3
  intro hT3 hf3 e3
  refine y_callI ⟨rfl, hmay⟩ 1 rfl (fun _ _ _ => rfl) (a := [.inr (.inr 67), .inr (.inl ((Int64.ofNat 512735409267))), .inl (((Int8.ofInt 60).toInt32)), .inl ((Int32.ofInt 0))]) rfl rfl (fun h hR => y_mayV (o := 65) (sz := 85) rfl hR) (by omega) hT3 ⟨⟨67, rfl, List.mem_cons_self⟩, ⟨_, rfl⟩, y_iv (show _ ≤ (60 : Int) by omega) (show (60 : Int) ≤ _ by omega), y_iv (show _ ≤ (0 : Int) by omega) (show (0 : Int) ≤ _ by omega), True.intro⟩ (fun z4 s4 hT4 hf4 z40 z41 => ?_)
  have e4 : s4.1 65 41 = s3.1 65 41 := hf4.at (o := 65) (k := 41) (A := w_n 0 5 0) rfl rfl (by decide +kernel)
  refine y_ast (o := 76) (sz := 5) (j := N) rfl rfl (by rw [e3]; omega) (by omega) (k76 _) ?_
  have hT5 := y_Tup (lo := 2147483648) (hi := 2147493647) (g := 0) (x := z4) hT4 (y_tyA (o := 76) (k := N) (tag := 100) (sz := 5) (A := .inl ((2147483648, 2147493647), 0)) rfl (by omega)) (k76 _) (y_pkA (sz := 5) (by decide +kernel) (by omega)) (by omega) (by omega)
  have hf5 : y_fr g_sh y_rsK s (y_up s4 76 N (.inl z4)) := (hf3.tr (hf4.mono (by decide +kernel))).up (o := 76) (k := N) (k76 _) (y_msA (sz := 5) (by decide +kernel) (by omega))
  have e5 : (y_up s4 76 N (.inl z4)).1 65 41 = s.1 65 41 := (y_up_ne (by omega)).trans (e4.trans e3)
  refine y_run 2 rfl ?_
  revert hT5 hf5 e5
  generalize y_up s4 76 N (.inl z4) = s5
  intro hT5 hf5 e5
  refine y_if rfl (fun h => ?_) (fun _ => ?_)
  · have h1 : (s5.1 65 2).toInt ≠ 0 := h
    exact y_vret rfl ⟨rfl, hT5, hf5, fun q => absurd q h1⟩
  · have a1 : (s5.1 65 41 + (Int32.ofInt 1)).toInt = (s5.1 65 41).toInt + 1 := y_add (x := s5.1 65 41) (y := 1) (by rw [e5]; show _ ≤ _ + (1 : Int); omega) (by rw [e5]; show _ + (1 : Int) ≤ _; omega)
    have hT6 := y_Tup (lo := 2147483648) (hi := 2147483653) (g := 0) (o := 65) (k := 41) (x := s5.1 65 41 + (Int32.ofInt 1)) hT5 rfl rfl (by decide +kernel) (by rw [a1, e5]; omega) (by rw [a1, e5]; omega)
    refine y_run 6 rfl ?_
    exact y_vret rfl ⟨rfl, hT6, hf5.up (o := 65) (k := 41) rfl (by decide +kernel), fun _ => by rw [y_up_self, a1, e5]⟩
abbrev y_rpK : List (Nat × Nat) := [(266306, 266308), (266310, 266313), (266346, 266346), (274501, 274507), (315456, 315462), (319552, 319558), (323648, 323654)]
theorem y_readPairF {V : w_V} (hnew : y_eNew5 V) (hwant : y_eWant V) (hname : y_eName V) (hwr : y_eWrong V) (htold : y_eTold V 1 30) (hmay : y_eMay V 20 1) : y_C g_sh g_ts 283 6 (fun a s => w_T V g_sh (y_mk g_sh s) ∧ a = [.inr (.inr 67)] ∧ (s.1 65 42).toInt ≤ 6) (fun _ s v s2 => v = none ∧ w_T V g_sh (y_mk g_sh s2) ∧ y_fr g_sh y_rpK s s2 ∧ ((s2.1 65 2).toInt = 0 → (s2.1 65 42).toInt = (s.1 65 42).toInt + 1)) := by
  refine y_C.of (t := g_t283) rfl (by decide) ?_
  rintro d a s hd ⟨hT, rfl, h4⟩
  have hns := y_rng (lo := 2147483648) (hi := 2147483655) (g := 0) hT (o := 65) (k := 42) rfl rfl
  generalize hN : (s.1 65 42).toInt.toNat = N
  have k77 : ∀ j, y_kd g_sh 77 j = 0 := fun j => y_kdA (tag := 100) (sz := 7) (a := ((2147483648, 2147483652), 0)) rfl
  have k78 : ∀ j, y_kd g_sh 78 j = 0 := fun j => y_kdA (tag := 100) (sz := 7) (a := ((0, 4294967295), 0)) rfl
  have k79 : ∀ j, y_kd g_sh 79 j = 0 := fun j => y_kdA (tag := 100) (sz := 7) (a := ((0, 4294967295), 0)) rfl
  refine y_run 4 rfl ?_
  refine y_callN ⟨rfl, hnew⟩ 1 rfl (fun _ _ _ => rfl) (a := [.inr (.inr 67), .inl ((Int32.ofInt 5)), .inl ((s.1 65 42))]) rfl rfl (fun h hR => y_mayV (o := 65) (sz := 85) rfl hR) (by omega) hT ⟨⟨67, rfl, List.mem_cons_self⟩, y_iv (show _ ≤ (5 : Int) by omega) (show (5 : Int) ≤ _ by omega), y_iv (by omega) (by omega), True.intro⟩ (fun s1 hT1 hf1 => ?_)
  refine y_run 2 rfl ?_
  refine y_callN ⟨rfl, hwant⟩ 1 rfl (fun _ _ _ => rfl) (a := [.inr (.inr 67), .inr (.inl ((Int64.ofNat 1936222576)))]) rfl rfl (fun h hR => y_mayV (o := 65) (sz := 85) rfl hR) (by omega) hT1 ⟨⟨67, rfl, List.mem_cons_self⟩, ⟨_, rfl⟩, True.intro⟩ (fun s2 hT2 hf2 => ?_)
  have hf2b : y_fr g_sh y_rpK s s2 := (hf1.mono (by decide +kernel)).tr (hf2.mono (by decide +kernel))
  have e2 : s2.1 65 42 = s.1 65 42 := (hf2.at (o := 65) (k := 42) (A := w_n 0 7 0) rfl rfl (by decide +kernel)).trans (hf1.at (o := 65) (k := 42) (A := w_n 0 7 0) rfl rfl (by decide +kernel))
  refine y_run 5 rfl ?_
  refine y_call (y_oldShip (V := V) hname hwr) 1 rfl (fun _ _ _ => rfl) (a := [.inr (.inr 67)]) rfl rfl (fun h hR => y_mayV (o := 65) (sz := 85) rfl hR) (by omega) ⟨hT2, rfl⟩ (fun v s3 hQ => ?_)
  obtain ⟨hT3, hf3, -, z3, rfl, z30, z34⟩ := hQ
  have e3 : s3.1 65 42 = s2.1 65 42 := hf3.at (o := 65) (k := 42) (A := w_n 0 7 0) rfl rfl (by decide +kernel)
  refine y_ast (o := 77) (sz := 7) (j := N) rfl rfl (by rw [e2]; omega) (by omega) (k77 _) ?_
  have hT4 := y_Tup (lo := 2147483648) (hi := 2147483652) (g := 0) (x := z3) hT3 (y_tyA (o := 77) (k := N) (tag := 100) (sz := 7) (A := .inl ((2147483648, 2147483652), 0)) rfl (by omega)) (k77 _) (y_pkA (sz := 7) (by decide +kernel) (by omega)) (by omega) (by omega)
  have hf4 : y_fr g_sh y_rpK s (y_up s3 77 N (.inl z3)) := (hf2b.tr (hf3.mono (by decide +kernel))).up (o := 77) (k := N) (k77 _) (y_msA (sz := 7) (by decide +kernel) (by omega))
  have e4 : (y_up s3 77 N (.inl z3)).1 65 42 = s.1 65 42 := (y_up_ne (by omega)).trans (e3.trans e2)
  refine y_run 8 rfl ?_
  revert hT4 hf4 e4
  generalize y_up s3 77 N (.inl z3) = s4
  intro hT4 hf4 e4
  refine y_callI ⟨rfl, htold⟩ 1 rfl (fun _ _ _ => rfl) (a := [.inr (.inr 67), .inr (.inl ((Int64.ofNat 474147546227))), .inl ((Int32.ofInt 1)), .inl (((Int8.ofInt 30).toInt32))]) rfl rfl (fun h hR => y_mayV (o := 65) (sz := 85) rfl hR) (by omega) hT4 ⟨⟨67, rfl, List.mem_cons_self⟩, ⟨_, rfl⟩, y_iv (show _ ≤ (1 : Int) by omega) (show (1 : Int) ≤ _ by omega), y_iv (show _ ≤ (30 : Int) by omega) (show (30 : Int) ≤ _ by omega), True.intro⟩ (fun z5 s5 hT5 hf5 z50 z51 => ?_)
  have e5 : s5.1 65 42 = s4.1 65 42 := hf5.at (o := 65) (k := 42) (A := w_n 0 7 0) rfl rfl (by decide +kernel)
  refine y_ast (o := 78) (sz := 7) (j := N) rfl rfl (by rw [e4]; omega) (by omega) (k78 _) ?_
  have hT6 := y_Tup (lo := 0) (hi := 4294967295) (g := 0) (x := z5) hT5 (y_tyA (o := 78) (k := N) (tag := 100) (sz := 7) (A := .inl ((0, 4294967295), 0)) rfl (by omega)) (k78 _) (y_pkA (sz := 7) (by decide +kernel) (by omega)) (by omega) (by omega)
  have hf6 : y_fr g_sh y_rpK s (y_up s5 78 N (.inl z5)) := (hf4.tr (hf5.mono (by decide +kernel))).up (o := 78) (k := N) (k78 _) (y_msA (sz := 7) (by decide +kernel) (by omega))
  have e6 : (y_up s5 78 N (.inl z5)).1 65 42 = s.1 65 42 := (y_up_ne (by omega)).trans (e5.trans e4)
  refine y_run 8 rfl ?_
  revert hT6 hf6 e6
  generalize y_up s5 78 N (.inl z5) = s6
  intro hT6 hf6 e6
  refine y_callI ⟨rfl, hmay⟩ 1 rfl (fun _ _ _ => rfl) (a := [.inr (.inr 67), .inr (.inl ((Int64.ofNat 1819244133))), .inl (((Int8.ofInt 20).toInt32)), .inl ((Int32.ofInt 1))]) rfl rfl (fun h hR => y_mayV (o := 65) (sz := 85) rfl hR) (by omega) hT6 ⟨⟨67, rfl, List.mem_cons_self⟩, ⟨_, rfl⟩, y_iv (show _ ≤ (20 : Int) by omega) (show (20 : Int) ≤ _ by omega), y_iv (show _ ≤ (1 : Int) by omega) (show (1 : Int) ≤ _ by omega), True.intro⟩ (fun z7 s7 hT7 hf7 z70 z71 => ?_)
  have e7 : s7.1 65 42 = s6.1 65 42 := hf7.at (o := 65) (k := 42) (A := w_n 0 7 0) rfl rfl (by decide +kernel)
  refine y_ast (o := 79) (sz := 7) (j := N) rfl rfl (by rw [e6]; omega) (by omega) (k79 _) ?_
  have hT8 := y_Tup (lo := 0) (hi := 4294967295) (g := 0) (x := z7) hT7 (y_tyA (o := 79) (k := N) (tag := 100) (sz := 7) (A := .inl ((0, 4294967295), 0)) rfl (by omega)) (k79 _) (y_pkA (sz := 7) (by decide +kernel) (by omega)) (by omega) (by omega)
  have hf8 : y_fr g_sh y_rpK s (y_up s7 79 N (.inl z7)) := (hf6.tr (hf7.mono (by decide +kernel))).up (o := 79) (k := N) (k79 _) (y_msA (sz := 7) (by decide +kernel) (by omega))
  have e8 : (y_up s7 79 N (.inl z7)).1 65 42 = s.1 65 42 := (y_up_ne (by omega)).trans (e7.trans e6)
  refine y_run 2 rfl ?_
  revert hT8 hf8 e8
  generalize y_up s7 79 N (.inl z7) = s8
  intro hT8 hf8 e8
  refine y_if rfl (fun h => ?_) (fun _ => ?_)
  · have h1 : (s8.1 65 2).toInt ≠ 0 := h
    exact y_vret rfl ⟨rfl, hT8, hf8, fun q => absurd q h1⟩
  · have a1 : (s8.1 65 42 + (Int32.ofInt 1)).toInt = (s8.1 65 42).toInt + 1 := y_add (x := s8.1 65 42) (y := 1) (by rw [e8]; show _ ≤ _ + (1 : Int); omega) (by rw [e8]; show _ + (1 : Int) ≤ _; omega)
    have hT9 := y_Tup (lo := 2147483648) (hi := 2147483655) (g := 0) (o := 65) (k := 42) (x := s8.1 65 42 + (Int32.ofInt 1)) hT8 rfl rfl (by decide +kernel) (by rw [a1, e8]; omega) (by rw [a1, e8]; omega)
    refine y_run 6 rfl ?_
    exact y_vret rfl ⟨rfl, hT9, hf8.up (o := 65) (k := 42) rfl (by decide +kernel), fun _ => by rw [y_up_self, a1, e8]⟩
