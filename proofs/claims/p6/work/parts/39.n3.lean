/-! by hand: grudge, leavesOnly, countOnly, spare of the model -/
theorem y_thQ_tr {n : Nat} {s s2 s3 : y_H} {v : Option (q_V Int32)} (hf : y_fr g_sh y_arK s s2) (h : y_thQ n s2 v s3) : y_thQ n s v s3 := ⟨h.1, hf.tr h.2.1, h.2.2⟩
theorem y_gr_loop {n d : Nat} {FM : w_U} {x : Int32} {s0 : y_H} (has : y_eAsTold (y_Vn n) FM) (hgo : y_eGoOn (y_Vn n)) (hsaid : y_eSaid (y_Vn n)) (htr : y_eTruth (y_Vn n)) (hd : 7 ≤ d) (x0 : 0 ≤ x.toInt) (x6 : x.toInt ≤ 6) : ∀ (c : Nat) (s : y_H) (g i : Int32) (I : Nat), w_T (y_Vn n) g_sh (y_mk g_sh s) → y_fr g_sh y_arK s0 s → i.toInt = (I : Int) → I ≤ 7 → 7 - I ≤ c → y_W g_sh g_ts d g_t215 (y_thQ n s0) 25 [(0, .inr (.inr 67)), (1, .inl x), (2, .inl g), (3, .inl i)] [] s := by
  have fin : ∀ (s : y_H) (g : Int32) (ls : q_U Int32), w_T (y_Vn n) g_sh (y_mk g_sh s) → y_fr g_sh y_arK s0 s → q_at ls 2 = some (.inl g) → y_W g_sh g_ts d g_t215 (y_thQ n s0) 77 ls [] s := by
    intro s g ls hT hf l2
    refine y_sub (ls1 := [(2, .inl g)]) (show ([2] : List Nat).Nodup by decide) (y_R_cons l2 y_R_nil) ?_
    refine y_run 1 rfl ?_
    exact y_iret rfl ⟨hT, hf, _, rfl⟩
  intro c
  induction c with
  | zero =>
    intro s g i I hT hf hi hI hc
    have hp := y_pairs hT
    refine y_run 3 rfl ?_
    refine y_ic rfl (fun _ => fin s g _ hT hf rfl) (fun h => ?_)
    have h2 : ¬ (s.1 65 48).toInt ≤ i.toInt := h
    omega
  | succ c ih =>
    intro s g i I hT hf hi hI hc
    have hp := y_pairs hT
    refine y_run 3 rfl ?_
    refine y_ic rfl (fun _ => fin s g _ hT hf rfl) (fun h => ?_)
    have h2 : ¬ (s.1 65 48).toInt ≤ i.toInt := h
    have hi1 : (i + (Int32.ofInt 1)).toInt = i.toInt + 1 := y_add (x := i) (y := 1) (by show _ ≤ _ + (1 : Int); omega) (by show _ + (1 : Int) ≤ _; omega)
    have next : ∀ (s2 : y_H) (b : Int32) (ls : q_U Int32), w_T (y_Vn n) g_sh (y_mk g_sh s2) → y_fr g_sh y_arK s0 s2 → 0 ≤ b.toInt → b.toInt ≤ 1 → ls = [(0, .inr (.inr 67)), (1, .inl x), (2, .inl g), (3, .inl i)] → y_W g_sh g_ts d g_t215 (y_thQ n s0) 64 ls [.inl b, .inl g] s2 := by
      rintro s2 b ls hT2 hf2 b0 b1 rfl
      refine y_callI ⟨rfl, htr⟩ 0 rfl (fun _ _ _ => rfl) (a := [.inl b]) rfl rfl (fun h hR => rfl) (by omega) hT2 ⟨y_iv (by omega) (by omega), True.intro⟩ (fun z s3 hT3 hf3 _ _ => ?_)
      refine y_run 6 rfl ?_
      refine y_sub (ls1 := [(0, .inr (.inr 67)), (1, .inl x), (2, .inl ((g ||| (z <<< (i &&& 31))))), (3, .inl ((i + (Int32.ofInt 1))))]) (show ([0, 1, 2, 3] : List Nat).Nodup by decide) (y_R_cons rfl (y_R_cons rfl (y_R_cons rfl (y_R_cons rfl y_R_nil)))) ?_
      exact ih s3 _ _ (I + 1) hT3 (hf2.tr (hf3.mono rfl)) (by rw [hi1, hi]; omega) (by omega) (by omega)
    have p63 : ∀ (s2 : y_H) (ls : q_U Int32), w_T (y_Vn n) g_sh (y_mk g_sh s2) → y_fr g_sh y_arK s0 s2 → ls = [(0, .inr (.inr 67)), (1, .inl x), (2, .inl g), (3, .inl i)] → y_W g_sh g_ts d g_t215 (y_thQ n s0) 63 ls [.inl g] s2 := by
      rintro s2 ls hT2 hf2 rfl
      refine y_run 1 rfl ?_
      exact next s2 _ _ hT2 hf2 (show (0 : Int) ≤ 0 by omega) (show (0 : Int) ≤ 1 by omega) rfl
    refine y_run 3 rfl ?_
    refine y_ic rfl (fun _ => p63 s _ hT hf rfl) (fun _ => ?_)
    refine y_run 2 rfl ?_
    refine y_call (y_isQueuedF (V := y_Vn n)) 1 rfl (fun _ _ _ => rfl) (a := [.inr (.inr 67), .inl i]) rfl rfl (fun h hR => y_mayV (o := 65) (sz := 85) rfl hR) (by omega) ⟨hT, i, rfl⟩ (fun v s2 hQ => ?_)
    obtain ⟨rfl, hQ⟩ := hQ
    rcases hQ i rfl with ⟨rfl, i0, i1, is⟩ | rfl
    · refine y_if rfl (fun h => absurd (show (1 : Int) = 0 from h) (by omega)) (fun _ => ?_)
      refine y_run 3 rfl ?_
      refine y_call (y_saysWithout has hgo hsaid) 1 rfl (fun _ _ _ => rfl) (a := [.inr (.inr 67), .inl x, .inl i]) rfl rfl (fun h hR => y_mayV (o := 65) (sz := 85) rfl hR) (by omega) ⟨hT, x, i, rfl, x0, x6, i0, i1, is⟩ (fun v s3 hQ => ?_)
      obtain ⟨hT3, hf3, w, rfl⟩ := hQ
      refine y_run 1 rfl ?_
      refine y_ic rfl (fun _ => p63 s3 _ hT3 (hf.tr hf3) rfl) (fun _ => ?_)
      refine y_run 2 rfl ?_
      exact next s3 _ _ hT3 (hf.tr hf3) (show (0 : Int) ≤ 1 by omega) (show (1 : Int) ≤ 1 by omega) rfl
    · exact y_if rfl (fun _ => p63 s2 _ hT hf rfl) (fun h => absurd rfl h)
theorem y_grudgeM {n : Nat} {FM : w_U} (has : y_eAsTold (y_Vn n) FM) (hgo : y_eGoOn (y_Vn n)) (hsaid : y_eSaid (y_Vn n)) (htr : y_eTruth (y_Vn n)) : y_C g_sh g_ts 215 8 (fun a s => w_T (y_Vn n) g_sh (y_mk g_sh s) ∧ ∃ x : Int32, a = [.inr (.inr 67), .inl x]) (fun _ s v s2 => y_thQ n s v s2) := by
  refine y_C.of (t := g_t215) rfl (by decide) ?_
  rintro d a s hd ⟨hT, x, rfl⟩
  have hp := y_pairs hT
  have no : ∀ (s2 : y_H) (ls : q_U Int32), w_T (y_Vn n) g_sh (y_mk g_sh s2) → y_fr g_sh y_arK s s2 → y_W g_sh g_ts d g_t215 (y_thQ n s) 19 ls [] s2 := by
    intro s2 ls hT2 hf2
    refine y_run 1 rfl ?_
    exact y_iret rfl ⟨hT2, hf2, _, rfl⟩
  refine y_run 2 rfl ?_
  refine y_call (y_isQueuedF (V := y_Vn n)) 1 rfl (fun _ _ _ => rfl) (a := [.inr (.inr 67), .inl x]) rfl rfl (fun h hR => y_mayV (o := 65) (sz := 85) rfl hR) (by omega) ⟨hT, x, rfl⟩ (fun v s2 hQ => ?_)
  obtain ⟨rfl, hQ⟩ := hQ
  rcases hQ x rfl with ⟨rfl, x0, x1, xs⟩ | rfl
  · refine y_if rfl (fun h => absurd (show (1 : Int) = 0 from h) (by omega)) (fun _ => ?_)
    refine y_run 2 rfl ?_
    refine y_call (y_saysNow has hgo hsaid) 1 rfl (fun _ _ _ => rfl) (a := [.inr (.inr 67), .inl x]) rfl rfl (fun h hR => y_mayV (o := 65) (sz := 85) rfl hR) (by omega) ⟨hT, x, rfl, by omega, by omega⟩ (fun v s4 hQ => ?_)
    obtain ⟨hT4, hf4, u, rfl⟩ := hQ
    refine y_run 1 rfl ?_
    refine y_ic rfl (fun _ => ?_) (fun _ => no s4 _ hT4 hf4)
    refine y_run 4 rfl ?_
    refine y_sub (ls1 := [(0, .inr (.inr 67)), (1, .inl x), (2, .inl ((Int32.ofInt 0))), (3, .inl ((Int32.ofInt 0)))]) (show ([0, 1, 2, 3] : List Nat).Nodup by decide) (y_R_cons rfl (y_R_cons rfl (y_R_cons rfl (y_R_cons rfl y_R_nil)))) ?_
    exact y_gr_loop has hgo hsaid htr (by omega) x0 (by omega) 7 s4 _ _ 0 hT4 hf4 rfl (by omega) (by omega)
  · exact y_if rfl (fun _ => no s2 _ hT y_fr.rf) (fun h => absurd rfl h)
/-- who is not of some leaves: all others that queue are at hand still -/
def y_loI (n : Nat) (I : Nat) (s0 s : y_H) : Prop := w_T (y_Vn n) g_sh (y_mk g_sh s) ∧ y_fr g_sh [(352320, 352336)] s0 s ∧ ∀ p : Nat, I ≤ p → (p : Int) < (s.1 65 48).toInt → (s.1 85 (9 + p)).toInt = 0 → ∃ k : Nat, k < 8 ∧ (k : Int) < (s.1 86 8).toInt ∧ (s.1 86 k).toInt = (p : Int)
theorem y_loNo : ∀ k, k < 28 → w_inm [(352320, 352336)] (w_key 85 k) = false := by decide +kernel
abbrev y_eHas (V : w_V) : Prop := w_Ent V g_sh g_ts (216, [w_t 0, w_n 0 6 0], [], [], [([], some (w_n 0 0 0), []), ([], some (w_n 1 1 0), [])], 1)
theorem y_lo_loop {n d : Nat} {x : Int32} {s0 : y_H} {Q : Option (q_V Int32) → y_H → Prop} (hhas : y_eHas (y_Vn n)) (hd : 3 ≤ d) (hexit : ∀ s, w_T (y_Vn n) g_sh (y_mk g_sh s) → y_fr g_sh [(352320, 352336)] s0 s → Q none s) : ∀ (c : Nat) (s : y_H) (i : Int32) (I : Nat), y_loI n I s0 s → i.toInt = (I : Int) → I ≤ 7 → 7 - I ≤ c → y_W g_sh g_ts d g_t246 Q 2 [(0, .inr (.inr 67)), (1, .inl x), (2, .inl i)] [] s := by
  intro c
  induction c with
  | zero =>
    intro s i I hI hi hI7 hc
    have hp := y_pairs hI.1
    refine y_run 3 rfl ?_
    refine y_ic rfl (fun _ => y_vret rfl (hexit s hI.1 hI.2.1)) (fun h => ?_)
    have h2 : ¬ (s.1 65 48).toInt ≤ i.toInt := h
    omega
  | succ c ih =>
    intro s i I hI hi hI7 hc
    obtain ⟨hT, hf, hin⟩ := id hI
    have hp := y_pairs hT
    refine y_run 3 rfl ?_
    refine y_ic rfl (fun _ => y_vret rfl (hexit s hT hf)) (fun h => ?_)
    have h2 : ¬ (s.1 65 48).toInt ≤ i.toInt := h
    have hi1 : (i + (Int32.ofInt 1)).toInt = i.toInt + 1 := y_add (x := i) (y := 1) (by show _ ≤ _ + (1 : Int); omega) (by show _ + (1 : Int) ≤ _; omega)
    have next : ∀ (s2 : y_H) (ls : q_U Int32), y_loI n (I + 1) s0 s2 → ls = [(0, .inr (.inr 67)), (1, .inl x), (2, .inl i)] → y_W g_sh g_ts d g_t246 Q 44 ls [] s2 := by
      rintro s2 ls hI2 rfl
      refine y_run 2 rfl ?_
      refine y_sub (ls1 := [(0, .inr (.inr 67)), (1, .inl x), (2, .inl ((i + (Int32.ofInt 1))))]) (show ([0, 1, 2] : List Nat).Nodup by decide) (y_R_cons rfl (y_R_cons rfl (y_R_cons rfl y_R_nil))) ?_
      exact ih s2 _ (I + 1) hI2 (by rw [hi1, hi]; omega) (by omega) (by omega)
    have hsame : y_loI n (I + 1) s0 s := ⟨hT, hf, fun p h1 h3 h4 => hin p (by omega) h3 h4⟩
    refine y_run 2 rfl ?_
    refine y_call (y_isQueuedF (V := y_Vn n)) 1 rfl (fun _ _ _ => rfl) (a := [.inr (.inr 67), .inl i]) rfl rfl (fun h hR => y_mayV (o := 65) (sz := 85) rfl hR) (by omega) ⟨hT, i, rfl⟩ (fun v s2 hQ => ?_)
    obtain ⟨rfl, hQ⟩ := hQ
    rcases hQ i rfl with ⟨rfl, i0, i1, is⟩ | rfl
    · refine y_if rfl (fun h => absurd (show (1 : Int) = 0 from h) (by omega)) (fun _ => ?_)
      refine y_run 2 rfl ?_
      refine y_callE hhas rfl 0 rfl (fun _ _ _ => rfl) (a := [.inl x, .inl i]) rfl rfl (fun h hR => rfl) (by omega) hT ⟨y_ivall, y_iv (by omega) (by omega), True.intro⟩ (fun v hv => ?_)
      obtain ⟨q, hq2, ho⟩ := hv
      have eq : q = ([], some (w_n 0 0 0), []) ∨ q = ([], some (w_n 1 1 0), []) := by simpa using hq2
      rcases eq with rfl | rfl
      · obtain ⟨z, rfl, z1, z2⟩ := y_ans ho
        refine y_if rfl (fun h => absurd (show z.toInt = 0 by omega) h) (fun _ => ?_)
        obtain ⟨X0, X8, hX0, eX0⟩ := hin I (Nat.le_refl I) (by omega) (by rw [show I = i.toInt.toNat by omega]; exact is)
        have eX1 : s2.1 86 X0 = i := Int32.toInt_inj.mp (by omega)
        refine y_run 6 rfl ?_
        refine y_call (y_placeOf (V := y_Vn n)) 1 rfl (fun _ _ _ => rfl) (a := [.inr (.inr 67), .inl i]) rfl rfl (fun h hR => y_mayV (o := 65) (sz := 85) rfl hR) (by omega) ⟨hT, i, rfl⟩ (fun v s3 hQ => ?_)
        obtain ⟨rfl, hv⟩ := hQ i rfl
        rcases hv with ⟨-, hno⟩ | ⟨z, X, rfl, hz, hX, eX⟩
        · exact absurd eX1 (hno X0 hX0)
        have h8 := y_air8 hT
        refine y_call (y_takeOut (V := y_Vn n)) 1 rfl (fun _ _ _ => rfl) (a := [.inr (.inr 67), .inl z]) rfl rfl (fun h hR => y_mayV (o := 65) (sz := 85) rfl hR) (by omega) ⟨hT, z, X, rfl, hz, by omega, by omega⟩ (fun v s4 hQ => ?_)
        obtain ⟨rfl, hT4, hf4, hm4, ha4, hb4, -⟩ := hQ _ X rfl hz
        rw [eX]
        have e9 : ((Int8.ofInt 9).toInt32 + i).toInt = ((9 + I : Nat) : Int) := y_adds (A := 9) rfl hi (by omega)
        refine y_run 2 rfl ?_
        refine y_ast86 (lo := 2147483648) (hi := 2147483652) hT4 rfl e9 (by omega) (y_airs _ (by omega)) (show (_ : Int) ≤ 4 by omega) (show (4 : Int) ≤ _ by omega) (fun hT5 => ?_)
        refine next _ _ ⟨hT5, (hf.tr (hf4.mono (by decide +kernel))).up (y_airk _ (by omega)) (y_plSt _ (by omega)), fun p h1 h3 h4 => ?_⟩ rfl
        have f5 : y_fr g_sh [(352320, 352336)] s3 (y_up s4 86 (9 + I) (.inl (Int32.ofInt 4))) := (hf4.mono (by decide +kernel)).up (y_airk _ (by omega)) (y_plSt _ (by omega))
        rw [f5.at (o := 65) (k := 48) (A := w_n 0 7 0) rfl rfl (by decide +kernel)] at h3
        rw [y_at85 f5 (by omega) (y_loNo _ (by omega))] at h4
        obtain ⟨k, k8, k1, k2⟩ := hin p (by omega) h3 h4
        have hne : k ≠ X := by
          intro e
          rw [e, eX] at k2
          omega
        rcases Nat.lt_or_ge k X with q | q
        · refine ⟨k, k8, ?_, ?_⟩
          · rw [y_up_ne (by omega), hm4]
            omega
          · rw [y_up_ne (by omega), ha4 k q]
            exact k2
        · refine ⟨k - 1, by omega, ?_, ?_⟩
          · rw [y_up_ne (by omega), hm4]
            omega
          · rw [y_up_ne (by omega), hb4 (k - 1) (by omega) (by omega), show k - 1 + 1 = k by omega]
            exact k2
      · obtain ⟨z, rfl, z1, z2⟩ := y_ans ho
        exact y_if rfl (fun _ => next s2 _ hsame rfl) (fun h => absurd (show z.toInt ≠ 0 by omega) h)
    · exact y_if rfl (fun _ => next s2 _ hsame rfl) (fun h => absurd rfl h)
/-- leavesOnly, behind fill -/
theorem y_leavesOnly {n : Nat} (hhas : y_eHas (y_Vn n)) : y_C g_sh g_ts 246 4 (fun a s => w_T (y_Vn n) g_sh (y_mk g_sh s) ∧ (∃ x : Int32, a = [.inr (.inr 67), .inl x]) ∧ ∀ k, k < 28 → s.1 86 k = s.1 85 k) (fun _ s v s2 => v = none ∧ w_T (y_Vn n) g_sh (y_mk g_sh s2) ∧ y_fr g_sh [(352320, 352336)] s s2) := by
  refine y_C.of (t := g_t246) rfl (by decide) ?_
  rintro d a s hd ⟨hT, ⟨x, rfl⟩, he⟩
  have hp := y_pairs hT
  refine y_run 2 rfl ?_
  refine y_sub (ls1 := [(0, .inr (.inr 67)), (1, .inl x), (2, .inl ((Int32.ofInt 0)))]) (show ([0, 1, 2] : List Nat).Nodup by decide) (y_R_cons rfl (y_R_cons rfl (y_R_cons rfl y_R_nil))) ?_
  refine y_lo_loop hhas (by omega) (s0 := s) (fun s2 hT2 hf2 => ⟨rfl, hT2, hf2⟩) 7 s _ 0 ⟨hT, y_fr.rf, fun p h1 h2 h3 => ?_⟩ rfl (by omega) (by omega)
  obtain ⟨k, k8, k1, k2⟩ := (y_AI_now hT).1.1 p (by omega) h2 h3
  exact ⟨k, k8, by rw [he 8 (by omega)]; exact k1, by rw [he k (by omega)]; exact k2⟩
theorem y_countOnlyC {n : Nat} {FM : w_U} (has : y_eAsTold (y_Vn n) FM) (hhas : y_eHas (y_Vn n)) (hcount : y_eCount (y_Vn n)) : y_C g_sh g_ts 190 8 (fun a s => w_T (y_Vn n) g_sh (y_mk g_sh s) ∧ ∃ x : Int32, a = [.inr (.inr 67), .inl x]) (fun _ s v s2 => w_T (y_Vn n) g_sh (y_mk g_sh s2) ∧ y_fr g_sh y_arK s s2 ∧ ∃ z : Int32, v = some (.inl z) ∧ 0 ≤ z.toInt ∧ z.toInt ≤ 8) := by
  refine y_C.of (t := g_t190) rfl (by decide) ?_
  rintro d a s hd ⟨hT, x, rfl⟩
  refine y_run 1 rfl ?_
  refine y_call (y_fillF has) 1 rfl (fun _ _ _ => rfl) (a := [.inr (.inr 67)]) rfl rfl (fun h hR => y_mayV (o := 65) (sz := 85) rfl hR) (by omega) ⟨hT, rfl⟩ (fun v s1 hQ => ?_)
  obtain ⟨rfl, hT1, hf1, he1⟩ := hQ
  refine y_run 2 rfl ?_
  refine y_call (y_leavesOnly hhas) 1 rfl (fun _ _ _ => rfl) (a := [.inr (.inr 67), .inl x]) rfl rfl (fun h hR => y_mayV (o := 65) (sz := 85) rfl hR) (by omega) ⟨hT1, ⟨x, rfl⟩, fun k hk => by rw [he1 k hk, y_at85 hf1 hk (by
    have : ∀ k, k < 28 → w_inm y_flK (w_key 85 k) = false := by decide +kernel
    exact this k hk)]⟩ (fun v s2 hQ => ?_)
  obtain ⟨rfl, hT2, hf2⟩ := hQ
  refine y_run 1 rfl ?_
  refine y_callI ⟨rfl, hcount⟩ 1 rfl (fun _ _ _ => rfl) (a := [.inr (.inr 67)]) rfl rfl (fun h hR => y_mayV (o := 65) (sz := 85) rfl hR) (by omega) hT2 ⟨⟨67, rfl, List.mem_cons_self⟩, True.intro⟩ (fun z s3 hT3 hf3 z0 z8 => ?_)
  exact y_iret rfl ⟨hT3, ((hf1.mono (by decide +kernel)).tr (hf2.mono (by decide +kernel))).tr (hf3.mono (by decide +kernel)), z, rfl, by omega, by omega⟩
theorem y_countOnlyE {n : Nat} {FM : w_U} (has : y_eAsTold (y_Vn n) FM) (hhas : y_eHas (y_Vn n)) (hcount : y_eCount (y_Vn n)) : w_Ent (y_Vn n) g_sh g_ts (190, [w_r 67, w_n 0 127 0], [], [(266331, 266333), (266363, 266363), (266366, 266366), (299072, 299135), (303168, 303173), (352320, 352347), (356416, 356418), (360512, 360514), (364608, 364615), (368704, 368711)], [([], some (w_n 0 8 0), [])], 8) := by
  refine y_C.toE g_shok g_pkok rfl ?_
  refine y_C.weak (y_countOnlyC has hhas hcount) (Nat.le_refl 8) ?_ ?_
  · rintro a s ⟨hT, ha, -⟩
    rcases a with _ | ⟨v1, _ | ⟨v2, _ | ⟨v3, a⟩⟩⟩
    · exact ha.elim
    · exact ha.2.elim
    · obtain ⟨⟨n, rfl, hn⟩, ⟨x, rfl, -, -⟩, -⟩ := ha
      have hn2 : n = 67 := by simpa using hn
      subst hn2
      exact ⟨hT, x, rfl⟩
    · exact ha.2.2.elim
  · rintro a s v s2 - ⟨hT2, hf2, z, rfl, z0, z8⟩
    exact ⟨hT2, hf2, _, List.mem_cons_self, (fun z hz => by cases hz), y_iv (by omega) (by omega), (fun q hq => by cases hq)⟩
