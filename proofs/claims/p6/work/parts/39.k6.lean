/-! by hand: find, oldShip -/
/-- the last name that is the word; none: -1 -/
def y_fF (s : y_H) : Nat → Int32
  | 0 => Int32.ofInt (-1)
  | n + 1 => if (lg_cmp (s.2.1 67 n) (s.2.1 65 9)).toInt = 0 then Int32.ofInt (n : Int) else y_fF s n
theorem y_ofIntN {n : Nat} (h : n < 1000000) : (Int32.ofInt (n : Int)).toInt = (n : Int) := w_ofInt (n := (n : Int)) (by omega) (by omega)
theorem y_fF_b {s : y_H} : ∀ n, n < 1000 → -1 ≤ (y_fF s n).toInt ∧ (y_fF s n).toInt < (n : Int) := by
  intro n
  induction n with
  | zero =>
    intro _
    show -1 ≤ (Int32.ofInt (-1)).toInt ∧ (Int32.ofInt (-1)).toInt < ((0 : Nat) : Int)
    decide
  | succ n ih =>
    intro h
    have h1 := ih (by omega)
    have h2 := y_ofIntN (n := n) (by omega)
    show -1 ≤ (if (lg_cmp (s.2.1 67 n) (s.2.1 65 9)).toInt = 0 then Int32.ofInt (n : Int) else y_fF s n).toInt ∧ (if (lg_cmp (s.2.1 67 n) (s.2.1 65 9)).toInt = 0 then Int32.ofInt (n : Int) else y_fF s n).toInt < ((n + 1 : Nat) : Int)
    split
    · omega
    · omega
theorem y_find_loop {d : Nat} {s : y_H} {n0 : Int32} {N : Nat} (hn0 : n0.toInt = (N : Int)) (hN : N ≤ 12) : ∀ (c : Nat) (k : Int32) (K : Nat), k.toInt = (K : Int) → K ≤ N → N - K ≤ c → y_W g_sh g_ts d g_t204 (fun v s2 => s2 = s ∧ v = some (.inl (y_fF s N))) 5 [(0, .inr (.inr 67)), (1, .inl (Int32.ofInt 0)), (2, .inl n0), (3, .inl (y_fF s K)), (4, .inl k)] [] s := by
  have fin : ∀ (K : Nat) (ls : q_U Int32), K = N → q_at ls 3 = some (.inl (y_fF s K)) → y_W g_sh g_ts d g_t204 (fun v s2 => s2 = s ∧ v = some (.inl (y_fF s N))) 41 ls [] s := by
    intro K ls e hl
    refine y_sub (ls1 := [(3, .inl (y_fF s K))]) (show ([3] : List Nat).Nodup by decide) (y_R_cons hl y_R_nil) ?_
    refine y_run 1 rfl ?_
    exact y_iret rfl ⟨rfl, by rw [e]⟩
  intro c
  induction c with
  | zero =>
    intro k K hk hK hc
    refine y_run 2 rfl ?_
    refine y_ic rfl (fun _ => fin K _ (by omega) rfl) (fun h => ?_)
    have h2 : ¬ n0.toInt ≤ k.toInt := h
    omega
  | succ c ih =>
    intro k K hk hK hc
    refine y_run 2 rfl ?_
    refine y_ic rfl (fun h => ?_) (fun h => ?_)
    · have h2 : n0.toInt ≤ k.toInt := h
      exact fin K _ (by omega) rfl
    have h2 : ¬ n0.toInt ≤ k.toInt := h
    have hk1 : (k + Int32.ofInt 1).toInt = k.toInt + 1 := y_add (x := k) (y := 1) (by show _ ≤ _ + (1 : Int); omega) (by show _ + (1 : Int) ≤ _; omega)
    have e0 : (Int32.ofInt 0 + k).toInt = ((0 + K : Nat) : Int) := y_adds (A := 0) rfl hk (by omega)
    have next : ∀ f2 : Int32, f2 = y_fF s (K + 1) → y_W g_sh g_ts d g_t204 (fun v s2 => s2 = s ∧ v = some (.inl (y_fF s N))) 34 [(0, .inr (.inr 67)), (1, .inl (Int32.ofInt 0)), (2, .inl n0), (3, .inl (y_fF s K)), (4, .inl k)] [.inl f2] s := by
      rintro f2 rfl
      refine y_run 3 rfl ?_
      refine y_sub (ls1 := [(0, .inr (.inr 67)), (1, .inl (Int32.ofInt 0)), (2, .inl n0), (3, .inl (y_fF s (K + 1))), (4, .inl (k + Int32.ofInt 1))]) (show ([0, 1, 2, 3, 4] : List Nat).Nodup by decide) (y_R_cons rfl (y_R_cons rfl (y_R_cons rfl (y_R_cons rfl (y_R_cons rfl y_R_nil))))) ?_
      exact ih _ (K + 1) (by rw [hk1, hk]; omega) (by omega) (by omega)
    refine y_run 5 rfl ?_
    refine y_lald (o := 67) (sz := 12) (j := K) rfl rfl (by rw [e0]; omega) (by omega) (by
      have : ∀ j, j < 12 → y_kd g_sh 67 j = 2 := by decide +kernel
      exact this K (by omega)) ?_
    refine y_run 3 rfl ?_
    refine y_if rfl (fun h3 => ?_) (fun h3 => ?_)
    · have h4 : (lg_cmp (s.2.1 67 K) (s.2.1 65 9)).toInt ≠ 0 := h3
      refine y_run 1 rfl ?_
      exact next _ (by show _ = ite _ _ _; rw [if_neg h4])
    · have h4 : (lg_cmp (s.2.1 67 K) (s.2.1 65 9)).toInt = 0 := Classical.byContradiction fun q => h3 q
      refine y_run 2 rfl ?_
      refine next k ?_
      show k = ite _ _ _
      rw [if_pos h4, ← Int32.toInt_inj, y_ofIntN (by omega), hk]
theorem y_find : y_C g_sh g_ts 204 1 (fun a _ => ∃ (x : Int32) (N : Nat), a = [.inr (.inr 67), .inl (Int32.ofInt 0), .inl x] ∧ x.toInt = (N : Int) ∧ N ≤ 5) (fun a s v s2 => ∀ (x : Int32) (N : Nat), a = [.inr (.inr 67), .inl (Int32.ofInt 0), .inl x] → x.toInt = (N : Int) → s2 = s ∧ v = some (.inl (y_fF s N))) := by
  refine y_C.of (t := g_t204) rfl (by decide) ?_
  rintro d a s - ⟨x, N, rfl, hx, hN⟩
  have key : y_W g_sh g_ts d g_t204 (fun v s2 => s2 = s ∧ v = some (.inl (y_fF s N))) 0 (q_args 0 [.inr (.inr 67), .inl (Int32.ofInt 0), .inl x]) [] s := by
    refine y_run 4 rfl ?_
    refine y_sub (ls1 := [(0, .inr (.inr 67)), (1, .inl (Int32.ofInt 0)), (2, .inl x), (3, .inl (y_fF s 0)), (4, .inl (Int32.ofInt 0))]) (show ([0, 1, 2, 3, 4] : List Nat).Nodup by decide) (y_R_cons rfl (y_R_cons rfl (y_R_cons rfl (y_R_cons rfl (y_R_cons rfl y_R_nil))))) ?_
    exact y_find_loop hx (by omega) N _ 0 rfl (by omega) (by omega)
  intro h ns hR
  obtain ⟨v, h2, s2, he, hR2, hQ⟩ := key h ns hR
  refine ⟨v, h2, s2, he, hR2, fun x2 N2 e hx2 => ?_⟩
  have e2 : x2 = x := by
    injection e with e3 e4
    injection e4 with e5 e6
    injection e6 with e7 e8
    injection e7 with e9
    exact e9.symm
  subst e2
  have e3 : N2 = N := by omega
  subst e3
  exact hQ
abbrev y_eName (V : w_V) : Prop := w_Ent V g_sh g_ts (232, [w_r 67], [], [], [([], some (w_n 0 0 0), []), ([], some (w_n 1 1 0), [])], 2)
abbrev y_eWrong (V : w_V) : Prop := w_Ent V g_sh g_ts (324, [w_r 67, w_n 2 5 0], [], [(266306, 266307)], [([], none, [(266306, w_n 1 5 0)])], 1)
abbrev y_osK : List (Nat × Nat) := [(266306, 266308), (266310, 266313)]
theorem y_oldShip {V : w_V} (hname : y_eName V) (hwr : y_eWrong V) : y_C g_sh g_ts 266 3 (fun a s => w_T V g_sh (y_mk g_sh s) ∧ a = [.inr (.inr 67)]) (fun _ s v s2 => w_T V g_sh (y_mk g_sh s2) ∧ y_fr g_sh y_osK s s2 ∧ (s.1 65 4).toInt ≤ (s2.1 65 4).toInt ∧ ∃ x : Int32, v = some (.inl x) ∧ 0 ≤ x.toInt ∧ x.toInt ≤ 4) := by
  refine y_C.of (t := g_t266) rfl (by decide) ?_
  rintro d a s hd ⟨hT, rfl⟩
  have hfl := y_rng (lo := 2147483648) (hi := 2147483653) (g := 0) hT (o := 65) (k := 2) rfl rfl
  have hns := y_rng (lo := 2147483648) (hi := 2147483653) (g := 0) hT (o := 65) (k := 41) rfl rfl
  generalize hQd : (fun (v : Option (q_V Int32)) (s2 : y_H) => w_T V g_sh (y_mk g_sh s2) ∧ y_fr g_sh y_osK s s2 ∧ (s.1 65 4).toInt ≤ (s2.1 65 4).toInt ∧ ∃ x : Int32, v = some (.inl x) ∧ 0 ≤ x.toInt ∧ x.toInt ≤ 4) = QQ
  have hQQ : ∀ v s2, w_T V g_sh (y_mk g_sh s2) → y_fr g_sh y_osK s s2 → (s.1 65 4).toInt ≤ (s2.1 65 4).toInt → (∃ x : Int32, v = some (.inl x) ∧ 0 ≤ x.toInt ∧ x.toInt ≤ 4) → QQ v s2 := by
    intro v s2 h1 h2 h3 h4
    rw [← hQd]
    exact ⟨h1, h2, h3, h4⟩
  -- the end: n is told
  have p61 : ∀ (s2 : y_H) (n : Int32) (ls : q_U Int32), w_T V g_sh (y_mk g_sh s2) → y_fr g_sh y_osK s s2 → (s.1 65 4).toInt ≤ (s2.1 65 4).toInt → 0 ≤ n.toInt → n.toInt ≤ 4 → q_at ls 0 = some (.inr (.inr 67)) → y_W g_sh g_ts d g_t266 QQ 61 ls [.inl n] s2 := by
    intro s2 n ls hT2 hf2 h4 h0 h1 l0
    refine y_sub (ls1 := [(0, .inr (.inr 67))]) (show ([0] : List Nat).Nodup by decide) (y_R_cons l0 y_R_nil) ?_
    refine y_run 3 rfl ?_
    refine y_if rfl (fun _ => ?_) (fun _ => ?_)
    · refine y_run 1 rfl ?_
      exact y_iret rfl (hQQ _ _ hT2 hf2 h4 ⟨n, rfl, h0, h1⟩)
    · refine y_run 1 rfl ?_
      refine y_call (y_token (V := V)) 1 rfl (fun _ _ _ => rfl) (a := [.inr (.inr 67)]) rfl rfl (fun h hR => y_mayV (o := 65) (sz := 85) rfl hR) (by omega) ⟨hT2, rfl⟩ (fun v s3 hQ => ?_)
      obtain ⟨rfl, hT3, hf3, hle3, -⟩ := hQ
      refine y_run 1 rfl ?_
      exact y_iret rfl (hQQ _ _ hT3 (hf2.tr (hf3.mono (by decide +kernel))) (by omega) ⟨n, rfl, h0, h1⟩)
  have p41 : ∀ (s2 : y_H), w_T V g_sh (y_mk g_sh s2) → y_fr g_sh y_osK s s2 → s2.1 65 4 = s.1 65 4 → (1 ≤ (s2.1 65 2).toInt ∨ (s2 = s ∧ 0 ≤ (y_fF s (s.1 65 41).toInt.toNat).toInt)) → y_W g_sh g_ts d g_t266 QQ 41 [(0, .inr (.inr 67))] [] s2 := by
    intro s2 hT2 hf2 e4 hor
    refine y_run 2 rfl ?_
    refine y_if rfl (fun h => ?_) (fun h => ?_)
    · have h2 : (s2.1 65 2).toInt ≤ 0 := h
      rcases hor with h3 | ⟨rfl, h3⟩
      · omega
      · refine y_run 4 rfl ?_
        refine y_call y_find 1 rfl (fun _ _ _ => rfl) (a := [.inr (.inr 67), .inl (Int32.ofInt 0), .inl (s2.1 65 41)]) rfl rfl (fun h hR => y_mayV (o := 65) (sz := 85) rfl hR) (by omega) ⟨s2.1 65 41, (s2.1 65 41).toInt.toNat, rfl, by omega, by omega⟩ (fun v s3 hQ => ?_)
        obtain ⟨rfl, rfl⟩ := hQ (s2.1 65 41) (s2.1 65 41).toInt.toNat rfl (by omega)
        have hb := y_fF_b (s := s3) (s3.1 65 41).toInt.toNat (by omega)
        exact p61 s3 _ _ hT2 hf2 (by omega) h3 (by omega) rfl
    · refine y_run 2 rfl ?_
      exact p61 s2 _ _ hT2 hf2 (by rw [e4]; omega) (show (0 : Int) ≤ 0 by omega) (show (0 : Int) ≤ 4 by omega) rfl
  have wrong : ∀ (w : Int32) (pc i : Nat), q_get g_t266 pc = some (.invokevirtual i, 3, [324, 2, 2, 11]) → 2 ≤ w.toInt → w.toInt ≤ 5 → (∀ s2, w_T V g_sh (y_mk g_sh s2) → y_fr g_sh y_osK s s2 → s2.1 65 4 = s.1 65 4 → 1 ≤ (s2.1 65 2).toInt → y_W g_sh g_ts d g_t266 QQ (pc + 3) [(0, .inr (.inr 67))] [] s2) → y_W g_sh g_ts d g_t266 QQ pc [(0, .inr (.inr 67))] [.inl w, .inr (.inr 67)] s := by
    intro w pc i hq hw1 hw2 hk
    refine y_callM hwr (by decide +kernel) 1 hq (fun _ _ _ => rfl) (a := [.inr (.inr 67), .inl w]) rfl rfl (fun h hR => y_mayV (o := 65) (sz := 85) rfl hR) (by omega) hT ⟨⟨67, rfl, List.mem_cons_self⟩, y_iv (by omega) (by omega), True.intro⟩ (fun v s2 hT2 hf2 hv => ?_)
    obtain ⟨q, hq2, ho⟩ := hv
    have eq : q = ([], none, [(266306, w_n 1 5 0)]) := by simpa using hq2
    subst eq
    have ev := y_ansV ho
    subst ev
    have hfa := y_outM (o := 65) (k := 2) (lo := 2147483649) (hi := 2147483653) ho List.mem_cons_self (by omega) rfl
    exact hk s2 hT2 (hf2.mono (by decide +kernel)) (hf2.at (o := 65) (k := 4) (A := w_n 0 1600 0) rfl rfl (by decide +kernel)) (by omega)
  refine y_run 2 rfl ?_
  refine y_if rfl (fun h => ?_) (fun h => ?_)
  · have h0 : (s.1 65 2).toInt ≤ 0 := h
    refine y_run 1 rfl ?_
    refine y_callE hname rfl 1 rfl (fun _ _ _ => rfl) (a := [.inr (.inr 67)]) rfl rfl (fun h hR => y_mayV (o := 65) (sz := 85) rfl hR) (by omega) hT ⟨⟨67, rfl, List.mem_cons_self⟩, True.intro⟩ (fun v hv => ?_)
    obtain ⟨q, hq, ho⟩ := hv
    have eq : q = ([], some (w_n 0 0 0), []) ∨ q = ([], some (w_n 1 1 0), []) := by simpa using hq
    rcases eq with rfl | rfl
    · obtain ⟨z, rfl, z1, z2⟩ := y_ans ho
      refine y_if rfl (fun h => absurd (show z.toInt = 0 by omega) h) (fun _ => ?_)
      refine y_run 2 rfl ?_
      refine wrong (Int32.ofInt 2) _ _ rfl (show (2 : Int) ≤ 2 by omega) (show (2 : Int) ≤ 5 by omega) (fun s2 hT2 hf2 e4 h1 => ?_)
      refine y_run 1 rfl ?_
      exact p41 s2 hT2 hf2 e4 (Or.inl h1)
    · obtain ⟨z, rfl, z1, z2⟩ := y_ans ho
      refine y_if rfl (fun _ => ?_) (fun h => absurd (show z.toInt ≠ 0 by omega) h)
      refine y_run 4 rfl ?_
      refine y_call y_find 1 rfl (fun _ _ _ => rfl) (a := [.inr (.inr 67), .inl (Int32.ofInt 0), .inl (s.1 65 41)]) rfl rfl (fun h hR => y_mayV (o := 65) (sz := 85) rfl hR) (by omega) ⟨s.1 65 41, (s.1 65 41).toInt.toNat, rfl, by omega, by omega⟩ (fun v s3 hQ => ?_)
      obtain ⟨rfl, rfl⟩ := hQ (s.1 65 41) (s.1 65 41).toInt.toNat rfl (by omega)
      refine y_if rfl (fun h3 => ?_) (fun _ => ?_)
      · have h4 : 0 ≤ (y_fF s3 (s3.1 65 41).toInt.toNat).toInt := h3
        exact p41 s3 hT y_fr.rf rfl (Or.inr ⟨rfl, h4⟩)
      · refine y_run 2 rfl ?_
        refine wrong (Int32.ofInt 5) _ _ rfl (show (2 : Int) ≤ 5 by omega) (show (5 : Int) ≤ 5 by omega) (fun s2 hT2 hf2 e4 h1 => ?_)
        exact p41 s2 hT2 hf2 e4 (Or.inl h1)
  · refine y_run 1 rfl ?_
    exact y_iret rfl (hQQ _ _ hT y_fr.rf (by omega) ⟨_, rfl, show (0 : Int) ≤ 0 by omega, show (0 : Int) ≤ 4 by omega⟩)
theorem y_oldShipE {V : w_V} (hname : y_eName V) (hwr : y_eWrong V) : w_Ent V g_sh g_ts (266, [w_r 67], [], [(266306, 266308), (266310, 266313)], [([], some (w_n 0 4 0), [])], 3) := by
  refine y_C.toE g_shok g_pkok rfl ?_
  refine y_C.weak (y_oldShip hname hwr) (Nat.le_refl 3) ?_ ?_
  · rintro a s ⟨hT, ha, -⟩
    rcases a with _ | ⟨v1, _ | ⟨v2, a⟩⟩
    · exact ha.elim
    · obtain ⟨⟨n, rfl, hn⟩, -⟩ := ha
      have hn2 : n = 67 := by simpa using hn
      subst hn2
      exact ⟨hT, rfl⟩
    · exact ha.2.elim
  · rintro a s v s2 - ⟨hT2, hf2, -, x, rfl, x0, x4⟩
    exact ⟨hT2, hf2, _, List.mem_cons_self, (fun z hz => by cases hz), y_iv (by omega) (by omega), (fun q hq => by cases hq)⟩
