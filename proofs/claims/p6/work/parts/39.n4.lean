/-! by hand: spare, swap, aside of the model -/
theorem y_and127 {x y : Int32} (h0 : 0 ≤ x.toInt) (h1 : x.toInt ≤ 127) : 0 ≤ (x &&& y).toInt ∧ (x &&& y).toInt ≤ 127 := by
  have hx := q_pc_int x
  have h := q_jand_ok (a := (2147483648, 2147483775)) (b := q_jall) (x := x) (y := y) ⟨by show 2147483648 ≤ q_pc x; omega, by show q_pc x ≤ 2147483775; omega⟩ (q_jall_ok y)
  have e : q_jand (2147483648, 2147483775) q_jall = (2147483648, 2147483775) := by decide
  rw [e] at h
  have h3 := q_pc_int (x &&& y)
  have h4 : (2147483648 : Nat) ≤ q_pc (x &&& y) := h.1
  have h5 : q_pc (x &&& y) ≤ 2147483775 := h.2
  omega
theorem y_or127 {x y : Int32} (h0 : 0 ≤ x.toInt) (h1 : x.toInt ≤ 127) (g0 : 0 ≤ y.toInt) (g1 : y.toInt ≤ 127) : 0 ≤ (x ||| y).toInt ∧ (x ||| y).toInt ≤ 127 := by
  have hx := q_pc_int x
  have hy := q_pc_int y
  have h := q_jor_or (a := (2147483648, 2147483775)) (b := (2147483648, 2147483775)) (x := x) (y := y) ⟨by show 2147483648 ≤ q_pc x; omega, by show q_pc x ≤ 2147483775; omega⟩ ⟨by show 2147483648 ≤ q_pc y; omega, by show q_pc y ≤ 2147483775; omega⟩
  have e : q_jor (2147483648, 2147483775) (2147483648, 2147483775) = (2147483648, 2147483775) := by decide
  rw [e] at h
  have h3 := q_pc_int (x ||| y)
  have h4 : (2147483648 : Nat) ≤ q_pc (x ||| y) := h.1
  have h5 : q_pc (x ||| y) ≤ 2147483775 := h.2
  omega
abbrev y_eMem (V : w_V) : Prop := w_Ent V g_sh g_ts (259, [w_n 0 255 0], [], [], [([], some (w_n 0 8 0), [])], 1)
abbrev y_eRld (V : w_V) : Prop := w_Ent V g_sh g_ts (280, [w_r 67], [], [], [([], some (w_n 0 127 0), [])], 2)
abbrev y_eQon (V : w_V) : Prop := w_Ent V g_sh g_ts (278, [w_r 67], [], [], [([], some (w_n 0 127 0), [])], 4)
abbrev y_eAll (V : w_V) : Prop := w_Ent V g_sh g_ts (195, [w_r 67, w_n 0 127 0], [], [(266366, 266366), (299072, 299135), (303168, 303173), (352320, 352326), (352328, 352336), (352338, 352343), (352345, 352346), (356416, 356418), (360512, 360514), (364608, 364615), (368704, 368711)], [([], some (w_n 0 0 0), []), ([], some (w_n 1 1 0), [])], 7)
theorem y_fl85 {s s2 : y_H} (hf : y_fr g_sh y_flK s s2) {k : Nat} (hk : k < 28) : s2.1 85 k = s.1 85 k := y_at85 hf hk (by
  have : ∀ k, k < 28 → w_inm y_flK (w_key 85 k) = false := by decide +kernel
  exact this k hk)
theorem y_sp_loop {n d : Nat} {FM : w_U} {w may : Int32} {s0 : y_H} (has : y_eAsTold (y_Vn n) FM) (hhas : y_eHas (y_Vn n)) (hmem : y_eMem (y_Vn n)) (hrld : y_eRld (y_Vn n)) (hall : y_eAll (y_Vn n)) (hd : 7 ≤ d) (m0 : 0 ≤ may.toInt) (m1 : may.toInt ≤ 127) : ∀ (c : Nat) (s : y_H) (best set : Int32) (N : Nat), w_T (y_Vn n) g_sh (y_mk g_sh s) → y_fr g_sh y_arK s0 s → -1 ≤ best.toInt → best.toInt ≤ 127 → set.toInt = (N : Int) → N ≤ 128 → 128 - N ≤ c → y_W g_sh g_ts d g_t302 (y_thQ n s0) 21 [(0, .inr (.inr 67)), (1, .inl w), (2, .inl may), (3, .inl best), (4, .inl set)] [] s := by
  have fin : ∀ (s : y_H) (best : Int32) (ls : q_U Int32), w_T (y_Vn n) g_sh (y_mk g_sh s) → y_fr g_sh y_arK s0 s → -1 ≤ best.toInt → best.toInt ≤ 127 → q_at ls 1 = some (.inl w) → q_at ls 3 = some (.inl best) → y_W g_sh g_ts d g_t302 (y_thQ n s0) 96 ls [] s := by
    intro s best ls hT hf b0 b1 l1 l3
    refine y_sub (ls1 := [(1, .inl w), (3, .inl best)]) (show ([1, 3] : List Nat).Nodup by decide) (y_R_cons l1 (y_R_cons l3 y_R_nil)) ?_
    refine y_run 1 rfl ?_
    refine y_if rfl (fun h => ?_) (fun _ => ?_)
    · have h2 : 0 ≤ best.toInt := h
      refine y_run 1 rfl ?_
      refine y_if rfl (fun _ => ?_) (fun _ => ?_)
      · refine y_run 1 rfl ?_
        exact y_iret rfl ⟨hT, hf, _, rfl⟩
      · refine y_run 1 rfl ?_
        refine y_callI ⟨rfl, hmem⟩ 0 rfl (fun _ _ _ => rfl) (a := [.inl best]) rfl rfl (fun h hR => rfl) (by omega) hT ⟨y_iv (by omega) (by omega), True.intro⟩ (fun z s3 hT3 hf3 _ _ => ?_)
        refine y_run 1 rfl ?_
        exact y_iret rfl ⟨hT3, hf.tr (hf3.mono rfl), _, rfl⟩
    · refine y_run 2 rfl ?_
      exact y_iret rfl ⟨hT, hf, _, rfl⟩
  intro c
  induction c with
  | zero =>
    intro s best set N hT hf b0 b1 hs hN hc
    refine y_run 2 rfl ?_
    refine y_ic rfl (fun _ => fin s best _ hT hf b0 b1 rfl rfl) (fun h => ?_)
    have h2 : ¬ may.toInt < set.toInt := h
    omega
  | succ c ih =>
    intro s best set N hT hf b0 b1 hs hN hc
    refine y_run 2 rfl ?_
    refine y_ic rfl (fun _ => fin s best _ hT hf b0 b1 rfl rfl) (fun h => ?_)
    have h2 : ¬ may.toInt < set.toInt := h
    have hi1 : (set + (Int32.ofInt 1)).toInt = set.toInt + 1 := y_add (x := set) (y := 1) (by show _ ≤ _ + (1 : Int); omega) (by show _ + (1 : Int) ≤ _; omega)
    have next : ∀ (s2 : y_H) (best2 : Int32) (ls : q_U Int32), w_T (y_Vn n) g_sh (y_mk g_sh s2) → y_fr g_sh y_arK s0 s2 → -1 ≤ best2.toInt → best2.toInt ≤ 127 → q_at ls 0 = some (.inr (.inr 67)) → q_at ls 1 = some (.inl w) → q_at ls 2 = some (.inl may) → q_at ls 3 = some (.inl best2) → q_at ls 4 = some (.inl set) → y_W g_sh g_ts d g_t302 (y_thQ n s0) 90 ls [] s2 := by
      intro s2 best2 ls hT2 hf2 c0 c1 l0 l1 l2 l3 l4
      refine y_sub (ls1 := [(0, .inr (.inr 67)), (1, .inl w), (2, .inl may), (3, .inl best2), (4, .inl set)]) (show ([0, 1, 2, 3, 4] : List Nat).Nodup by decide) (y_R_cons l0 (y_R_cons l1 (y_R_cons l2 (y_R_cons l3 (y_R_cons l4 y_R_nil))))) ?_
      refine y_run 2 rfl ?_
      refine y_sub (ls1 := [(0, .inr (.inr 67)), (1, .inl w), (2, .inl may), (3, .inl best2), (4, .inl ((set + (Int32.ofInt 1))))]) (show ([0, 1, 2, 3, 4] : List Nat).Nodup by decide) (y_R_cons rfl (y_R_cons rfl (y_R_cons rfl (y_R_cons rfl (y_R_cons rfl y_R_nil))))) ?_
      exact ih s2 best2 _ (N + 1) hT2 hf2 c0 c1 (by rw [hi1, hs]; omega) (by omega) (by omega)
    have p55 : ∀ (s2 : y_H) (ls : q_U Int32), w_T (y_Vn n) g_sh (y_mk g_sh s2) → y_fr g_sh y_arK s0 s2 → ls = [(0, .inr (.inr 67)), (1, .inl w), (2, .inl may), (3, .inl best), (4, .inl set)] → y_W g_sh g_ts d g_t302 (y_thQ n s0) 55 ls [] s2 := by
      rintro s2 ls hT2 hf2 rfl
      refine y_run 1 rfl ?_
      refine y_call (y_fillF has) 1 rfl (fun _ _ _ => rfl) (a := [.inr (.inr 67)]) rfl rfl (fun h hR => y_mayV (o := 65) (sz := 85) rfl hR) (by omega) ⟨hT2, rfl⟩ (fun v s3 hQ => ?_)
      obtain ⟨rfl, hT3, hf3, he3⟩ := hQ
      refine y_run 6 rfl ?_
      refine y_call (y_leavesOnly hhas) 1 rfl (fun _ _ _ => rfl) (a := [.inr (.inr 67), .inl ((may &&& (set ^^^ Int32.ofInt (-1))))]) rfl rfl (fun h hR => y_mayV (o := 65) (sz := 85) rfl hR) (by omega) ⟨hT3, ⟨_, rfl⟩, fun k hk => by rw [he3 k hk, y_fl85 hf3 hk]⟩ (fun v s4 hQ => ?_)
      obtain ⟨rfl, hT4, hf4⟩ := hQ
      have hf4b : y_fr g_sh y_arK s0 s4 := (hf2.tr (hf3.mono (by decide +kernel))).tr (hf4.mono (by decide +kernel))
      refine y_run 7 rfl ?_
      refine y_callI ⟨rfl, hrld⟩ 1 rfl (fun _ _ _ => rfl) (a := [.inr (.inr 67)]) rfl rfl (fun h hR => y_mayV (o := 65) (sz := 85) rfl hR) (by omega) hT4 ⟨⟨67, rfl, List.mem_cons_self⟩, True.intro⟩ (fun r s5 hT5 hf5 r0 r1 => ?_)
      have ha := y_and127 (x := may) (y := set ^^^ Int32.ofInt (-1)) m0 m1
      have ho := y_or127 (x := may &&& (set ^^^ Int32.ofInt (-1))) (y := r) ha.1 ha.2 (by omega) (by omega)
      refine y_run 1 rfl ?_
      refine y_callM hall (by decide +kernel) 1 rfl (fun _ _ _ => rfl) (a := [.inr (.inr 67), .inl (((may &&& (set ^^^ Int32.ofInt (-1))) ||| r))]) rfl rfl (fun h hR => y_mayV (o := 65) (sz := 85) rfl hR) hd hT5 ⟨⟨67, rfl, List.mem_cons_self⟩, y_iv (by omega) (by omega), True.intro⟩ (fun v s6 hT6 hf6 hv => ?_)
      have hf6b : y_fr g_sh y_arK s0 s6 := (hf4b.tr (hf5.mono rfl)).tr (hf6.mono (by decide +kernel))
      obtain ⟨q, hq, ho⟩ := hv
      have eq : q = ([], some (w_n 0 0 0), []) ∨ q = ([], some (w_n 1 1 0), []) := by simpa using hq
      rcases eq with rfl | rfl
      · obtain ⟨z, rfl, z1, z2⟩ := y_ans ho
        exact y_if rfl (fun _ => next s6 best _ hT6 hf6b b0 b1 rfl rfl rfl rfl rfl) (fun h => absurd (show z.toInt = 0 by omega) h)
      · obtain ⟨z, rfl, z1, z2⟩ := y_ans ho
        refine y_if rfl (fun h => absurd (show z.toInt = 0 from h) (by omega)) (fun _ => ?_)
        refine y_run 2 rfl ?_
        exact next s6 set _ hT6 hf6b (by omega) (by omega) rfl rfl rfl rfl rfl
    refine y_run 5 rfl ?_
    refine y_if rfl (fun _ => next s best _ hT hf b0 b1 rfl rfl rfl rfl rfl) (fun _ => ?_)
    refine y_run 1 rfl ?_
    refine y_if rfl (fun _ => p55 s _ hT hf rfl) (fun h => ?_)
    have hb : ¬ best.toInt < 0 := h
    refine y_run 1 rfl ?_
    refine y_callI ⟨rfl, hmem⟩ 0 rfl (fun _ _ _ => rfl) (a := [.inl set]) rfl rfl (fun h hR => rfl) (by omega) hT ⟨y_iv (by omega) (by omega), True.intro⟩ (fun z s3 hT3 hf3 _ _ => ?_)
    refine y_run 1 rfl ?_
    refine y_callI ⟨rfl, hmem⟩ 0 rfl (fun _ _ _ => rfl) (a := [.inl best]) rfl rfl (fun h hR => rfl) (by omega) hT3 ⟨y_iv (by omega) (by omega), True.intro⟩ (fun z2 s4 hT4 hf4 _ _ => ?_)
    have hf4b : y_fr g_sh y_arK s0 s4 := (hf.tr (hf3.mono rfl)).tr (hf4.mono rfl)
    refine y_ic rfl (fun _ => p55 s4 _ hT4 hf4b rfl) (fun _ => ?_)
    refine y_run 1 rfl ?_
    exact next s4 best _ hT4 hf4b b0 b1 rfl rfl rfl rfl rfl
theorem y_spareM {n : Nat} {FM : w_U} (has : y_eAsTold (y_Vn n) FM) (hhas : y_eHas (y_Vn n)) (hmem : y_eMem (y_Vn n)) (hrld : y_eRld (y_Vn n)) (hqon : y_eQon (y_Vn n)) (hall : y_eAll (y_Vn n)) : y_C g_sh g_ts 302 8 (fun a s => w_T (y_Vn n) g_sh (y_mk g_sh s) ∧ ∃ x : Int32, a = [.inr (.inr 67), .inl x]) (fun _ s v s2 => y_thQ n s v s2) := by
  refine y_C.of (t := g_t302) rfl (by decide) ?_
  rintro d a s hd ⟨hT, x, rfl⟩
  refine y_run 3 rfl ?_
  refine y_call y_isInF 0 rfl (fun _ _ _ => rfl) (a := [.inl x, .inl ((Int32.ofInt 0)), .inl ((Int32.ofInt 1))]) rfl rfl (fun h hR => rfl) (by omega) ⟨_, _, _, rfl⟩ (fun v s2 hQ => ?_)
  obtain ⟨rfl, hQ⟩ := hQ
  rcases hQ _ _ _ rfl with ⟨rfl, -, -⟩ | ⟨rfl, -⟩
  · refine y_if rfl (fun _ => ?_) (fun h => absurd (show (1 : Int) ≠ 0 by omega) h)
    refine y_run 1 rfl ?_
    refine y_callI ⟨rfl, hqon⟩ 1 rfl (fun _ _ _ => rfl) (a := [.inr (.inr 67)]) rfl rfl (fun h hR => y_mayV (o := 65) (sz := 85) rfl hR) (by omega) hT ⟨⟨67, rfl, List.mem_cons_self⟩, True.intro⟩ (fun may s3 hT3 hf3 m0 m1 => ?_)
    refine y_run 5 rfl ?_
    refine y_sub (ls1 := [(0, .inr (.inr 67)), (1, .inl x), (2, .inl may), (3, .inl ((Int32.ofInt (-1)))), (4, .inl ((Int32.ofInt 0)))]) (show ([0, 1, 2, 3, 4] : List Nat).Nodup by decide) (y_R_cons rfl (y_R_cons rfl (y_R_cons rfl (y_R_cons rfl (y_R_cons rfl y_R_nil))))) ?_
    exact y_sp_loop has hhas hmem hrld hall (by omega) (by omega) (by omega) 128 s3 _ _ 0 hT3 (hf3.mono rfl) (show (-1 : Int) ≤ -1 by omega) (show (-1 : Int) ≤ 127 by omega) rfl (by omega) (by omega)
  · refine y_if rfl (fun h => absurd rfl h) (fun _ => ?_)
    refine y_run 1 rfl ?_
    exact y_iret rfl ⟨hT, y_fr.rf, _, rfl⟩
theorem y_as_loop {n d : Nat} {FM : w_U} {w : Int32} {s0 : y_H} (has : y_eAsTold (y_Vn n) FM) (hcount : y_eCount (y_Vn n)) (hd : 7 ≤ d) : ∀ (c : Nat) (s : y_H) (best most i : Int32) (I : Nat), w_T (y_Vn n) g_sh (y_mk g_sh s) → y_fr g_sh y_arK s0 s → i.toInt = (I : Int) → I ≤ 7 → 7 - I ≤ c → y_W g_sh g_ts d g_t178 (y_thQ n s0) 18 [(0, .inr (.inr 67)), (1, .inl w), (2, .inl best), (3, .inl most), (4, .inl i)] [] s := by
  have fin : ∀ (s : y_H) (best most : Int32) (ls : q_U Int32), w_T (y_Vn n) g_sh (y_mk g_sh s) → y_fr g_sh y_arK s0 s → q_at ls 1 = some (.inl w) → q_at ls 2 = some (.inl best) → q_at ls 3 = some (.inl most) → y_W g_sh g_ts d g_t178 (y_thQ n s0) 84 ls [] s := by
    intro s best most ls hT hf l1 l2 l3
    refine y_sub (ls1 := [(1, .inl w), (2, .inl best), (3, .inl most)]) (show ([1, 2, 3] : List Nat).Nodup by decide) (y_R_cons l1 (y_R_cons l2 (y_R_cons l3 y_R_nil))) ?_
    refine y_run 1 rfl ?_
    refine y_if rfl (fun _ => ?_) (fun _ => ?_)
    · refine y_run 1 rfl ?_
      exact y_iret rfl ⟨hT, hf, _, rfl⟩
    · refine y_run 2 rfl ?_
      exact y_iret rfl ⟨hT, hf, _, rfl⟩
  intro c
  induction c with
  | zero =>
    intro s best most i I hT hf hi hI hc
    have hp := y_pairs hT
    refine y_run 3 rfl ?_
    refine y_ic rfl (fun _ => fin s best most _ hT hf rfl rfl rfl) (fun h => ?_)
    have h2 : ¬ (s.1 65 48).toInt ≤ i.toInt := h
    omega
  | succ c ih =>
    intro s best most i I hT hf hi hI hc
    have hp := y_pairs hT
    refine y_run 3 rfl ?_
    refine y_ic rfl (fun _ => fin s best most _ hT hf rfl rfl rfl) (fun h => ?_)
    have h2 : ¬ (s.1 65 48).toInt ≤ i.toInt := h
    have hi1 : (i + (Int32.ofInt 1)).toInt = i.toInt + 1 := y_add (x := i) (y := 1) (by show _ ≤ _ + (1 : Int); omega) (by show _ + (1 : Int) ≤ _; omega)
    have next : ∀ (s2 : y_H) (best2 most2 : Int32) (ls : q_U Int32), w_T (y_Vn n) g_sh (y_mk g_sh s2) → y_fr g_sh y_arK s0 s2 → q_at ls 0 = some (.inr (.inr 67)) → q_at ls 1 = some (.inl w) → q_at ls 2 = some (.inl best2) → q_at ls 3 = some (.inl most2) → q_at ls 4 = some (.inl i) → y_W g_sh g_ts d g_t178 (y_thQ n s0) 78 ls [] s2 := by
      intro s2 best2 most2 ls hT2 hf2 l0 l1 l2 l3 l4
      refine y_sub (ls1 := [(0, .inr (.inr 67)), (1, .inl w), (2, .inl best2), (3, .inl most2), (4, .inl i)]) (show ([0, 1, 2, 3, 4] : List Nat).Nodup by decide) (y_R_cons l0 (y_R_cons l1 (y_R_cons l2 (y_R_cons l3 (y_R_cons l4 y_R_nil))))) ?_
      refine y_run 2 rfl ?_
      refine y_sub (ls1 := [(0, .inr (.inr 67)), (1, .inl w), (2, .inl best2), (3, .inl most2), (4, .inl ((i + (Int32.ofInt 1))))]) (show ([0, 1, 2, 3, 4] : List Nat).Nodup by decide) (y_R_cons rfl (y_R_cons rfl (y_R_cons rfl (y_R_cons rfl (y_R_cons rfl y_R_nil))))) ?_
      exact ih s2 best2 most2 _ (I + 1) hT2 hf2 (by rw [hi1, hi]; omega) (by omega) (by omega)
    refine y_run 2 rfl ?_
    refine y_call (y_isQueuedF (V := y_Vn n)) 1 rfl (fun _ _ _ => rfl) (a := [.inr (.inr 67), .inl i]) rfl rfl (fun h hR => y_mayV (o := 65) (sz := 85) rfl hR) (by omega) ⟨hT, i, rfl⟩ (fun v s2 hQ => ?_)
    obtain ⟨rfl, hQ⟩ := hQ
    rcases hQ i rfl with ⟨rfl, i0, i1, is⟩ | rfl
    · refine y_if rfl (fun _ => ?_) (fun h => absurd (show (1 : Int) ≠ 0 by omega) h)
      refine y_run 1 rfl ?_
      refine y_call (y_fillF has) 1 rfl (fun _ _ _ => rfl) (a := [.inr (.inr 67)]) rfl rfl (fun h hR => y_mayV (o := 65) (sz := 85) rfl hR) (by omega) ⟨hT, rfl⟩ (fun v s3 hQ => ?_)
      obtain ⟨rfl, hT3, hf3, he3⟩ := hQ
      obtain ⟨e48, hA3⟩ := y_flAI hT hf3 he3
      obtain ⟨X0, X8, hX0, eX0⟩ := y_AI_in hA3 i0 (by rw [e48]; exact i1) (by omega) (by rw [he3 _ (by omega)]; exact is)
      refine y_run 4 rfl ?_
      refine y_call (y_placeOf (V := y_Vn n)) 1 rfl (fun _ _ _ => rfl) (a := [.inr (.inr 67), .inl i]) rfl rfl (fun h hR => y_mayV (o := 65) (sz := 85) rfl hR) (by omega) ⟨hT3, i, rfl⟩ (fun v s4 hQ => ?_)
      obtain ⟨rfl, hv⟩ := hQ i rfl
      rcases hv with ⟨-, hno⟩ | ⟨z, X, rfl, hz, hX, eX⟩
      · exact absurd eX0 (hno X0 hX0)
      have h8 := y_air8 hT3
      have hs3 := y_Rw_sg hA3.1
      refine y_call (y_takeOut (V := y_Vn n)) 1 rfl (fun _ _ _ => rfl) (a := [.inr (.inr 67), .inl z]) rfl rfl (fun h hR => y_mayV (o := 65) (sz := 85) rfl hR) (by omega) ⟨hT3, z, X, rfl, hz, by omega, by omega⟩ (fun v s5 hQ => ?_)
      obtain ⟨rfl, hT5, hf5, hm5, -⟩ := hQ _ X rfl hz
      rw [eX]
      refine y_call (y_putLast (V := y_Vn n)) 1 rfl (fun _ _ _ => rfl) (a := [.inr (.inr 67), .inl i]) rfl rfl (fun h hR => y_mayV (o := 65) (sz := 85) rfl hR) (by omega) ⟨hT5, i, I, rfl, hi, by omega, by omega⟩ (fun v s6 hQ => ?_)
      obtain ⟨rfl, hT6, hf6, -⟩ := hQ i I rfl hi
      refine y_run 1 rfl ?_
      refine y_callI ⟨rfl, hcount⟩ 1 rfl (fun _ _ _ => rfl) (a := [.inr (.inr 67)]) rfl rfl (fun h hR => y_mayV (o := 65) (sz := 85) rfl hR) (by omega) hT6 ⟨⟨67, rfl, List.mem_cons_self⟩, True.intro⟩ (fun own s7 hT7 hf7 _ _ => ?_)
      have hf7b : y_fr g_sh y_arK s0 s7 := (((hf.tr (hf3.mono (by decide +kernel))).tr (hf5.mono (by decide +kernel))).tr (hf6.mono (by decide +kernel))).tr (hf7.mono (by decide +kernel))
      refine y_run 3 rfl ?_
      refine y_ic rfl (fun _ => ?_) (fun _ => ?_)
      · refine y_run 4 rfl ?_
        exact next s7 i own _ hT7 hf7b rfl rfl rfl rfl rfl
      · refine y_run 1 rfl ?_
        exact next s7 best most _ hT7 hf7b rfl rfl rfl rfl rfl
    · refine y_if rfl (fun h => absurd rfl h) (fun _ => ?_)
      refine y_run 1 rfl ?_
      exact next s2 best most _ hT hf rfl rfl rfl rfl rfl
theorem y_asideM {n : Nat} {FM : w_U} (has : y_eAsTold (y_Vn n) FM) (hcount : y_eCount (y_Vn n)) : y_C g_sh g_ts 178 8 (fun a s => w_T (y_Vn n) g_sh (y_mk g_sh s) ∧ ∃ x : Int32, a = [.inr (.inr 67), .inl x]) (fun _ s v s2 => y_thQ n s v s2) := by
  refine y_C.of (t := g_t178) rfl (by decide) ?_
  rintro d a s hd ⟨hT, x, rfl⟩
  refine y_run 3 rfl ?_
  refine y_call y_isInF 0 rfl (fun _ _ _ => rfl) (a := [.inl x, .inl ((Int32.ofInt 0)), .inl ((Int32.ofInt 1))]) rfl rfl (fun h hR => rfl) (by omega) ⟨_, _, _, rfl⟩ (fun v s2 hQ => ?_)
  obtain ⟨rfl, hQ⟩ := hQ
  rcases hQ _ _ _ rfl with ⟨rfl, -, -⟩ | ⟨rfl, -⟩
  · refine y_if rfl (fun _ => ?_) (fun h => absurd (show (1 : Int) ≠ 0 by omega) h)
    refine y_run 6 rfl ?_
    refine y_sub (ls1 := [(0, .inr (.inr 67)), (1, .inl x), (2, .inl ((Int32.ofInt (-1)))), (3, .inl ((Int32.ofInt (-1)))), (4, .inl ((Int32.ofInt 0)))]) (show ([0, 1, 2, 3, 4] : List Nat).Nodup by decide) (y_R_cons rfl (y_R_cons rfl (y_R_cons rfl (y_R_cons rfl (y_R_cons rfl y_R_nil))))) ?_
    exact y_as_loop has hcount (by omega) 7 s2 _ _ _ 0 hT y_fr.rf rfl (by omega) (by omega)
  · refine y_if rfl (fun h => absurd rfl h) (fun _ => ?_)
    refine y_run 1 rfl ?_
    exact y_iret rfl ⟨hT, y_fr.rf, _, rfl⟩
