/-! by hand, of the class: fillRail -/
theorem y_leaveG : y_C g_sh g_ts 145 1 (fun a s => w_T y_V0 g_sh (y_mk g_sh s) ∧ a = [.inr (.inr 30), .inl ((Int32.ofInt 0))] ∧ 0 < (s.1 28 1).toInt) (fun _ s v s2 => y_lvQ 0 s v s2 ∧ s2.1 29 6 = s.1 29 6) := by
  refine y_C.of (t := g_t145) rfl (by decide) ?_
  rintro d a s hd ⟨hT, rfl, h0⟩
  have hr := y_rng (lo := 2147483648) (hi := 2147483655) (g := 0) hT (o := 28) (k := 1) rfl rfl
  have hdec : (s.1 28 1 - (Int32.ofInt 1)).toInt = (s.1 28 1).toInt - 1 := y_sb (x := s.1 28 1) (y := 1) (by show _ ≤ _ - (1 : Int); omega) (by show _ - (1 : Int) ≤ _; omega)
  have t1 := y_Tup0 (lo := 2147483648) (hi := 2147483655) (o := 28) (k := 1) (x := s.1 28 1 - (Int32.ofInt 1)) hT rfl rfl (by omega) (by omega)
  have u : ∀ o k, ¬ (o = 28 ∧ k = 1) → (y_up s 28 1 (.inl (s.1 28 1 - (Int32.ofInt 1)))).1 o k = s.1 o k := fun o k h => y_up_ne h
  have uz : ((y_up s 28 1 (.inl (s.1 28 1 - (Int32.ofInt 1)))).1 28 1).toInt = (((s.1 28 1).toInt.toNat - 1 : Nat) : Int) := by
    rw [y_up_self, hdec]
    omega
  have u2 : (y_up s 28 1 (.inl (s.1 28 1 - (Int32.ofInt 1)))).2 = s.2 := rfl
  refine y_run 1 rfl ?_
  refine y_if rfl (fun h => absurd (show (0 : Int) < 0 from h) (by omega)) (fun h => ?_)
  refine y_run 3 rfl ?_
  refine y_ic rfl (fun h => ?_) (fun h => ?_)
  · refine y_run 8 rfl ?_
    refine y_sub (ls1 := [(0, .inr (.inr 30)), (1, .inl ((Int32.ofInt 0))), (2, .inl ((Int32.ofInt 0)))]) (show ([0, 1, 2] : List Nat).Nodup by decide) (y_R_cons rfl (y_R_cons rfl (y_R_cons rfl y_R_nil))) ?_
    show y_W g_sh g_ts d g_t145 _ 25 [(0, .inr (.inr 30)), (1, .inl ((Int32.ofInt 0))), (2, .inl ((Int32.ofInt 0)))] [] (y_up s 28 1 (.inl (s.1 28 1 - (Int32.ofInt 1))))
    revert t1 u uz u2
    generalize y_up s 28 1 (.inl (s.1 28 1 - (Int32.ofInt 1))) = s0
    intro t1 u uz u2
    refine y_lev_loop (s0 := s0) (X := 0) (Z := (s.1 28 1).toInt.toNat - 1) (by omega) uz (fun s2 hJ => ?_) 7 s0 (Int32.ofInt 0) 0 rfl (by omega) (by omega) (by omega) ⟨t1, rfl, fun _ _ _ => rfl, fun _ _ => rfl, fun k h1 h2 => by omega, fun _ _ => rfl⟩
    obtain ⟨j1, j2, j3, j4, j5, j6⟩ := hJ
    refine ⟨⟨rfl, j1, j2.trans u2, fun o k h1 h2 => (j3 o k h1).trans (u o k h2), ?_, fun k hk => (j4 k hk).trans (u 29 k (by omega)), fun k h1 h2 => (j5 k h1 (by omega)).trans (u 29 (k + 1) (by omega))⟩, (j6 6 (by omega)).trans (u 29 6 (by omega))⟩
    rw [j3 28 1 (by omega), uz]
    omega
  · have h2 : ¬ (0 : Int) < (s.1 28 1).toInt := h
    omega
theorem y_b32 (x : Int32) : -2147483648 ≤ x.toInt ∧ x.toInt ≤ 2147483647 := by
  have h1 := Int32.le_toInt x
  have h2 := Int32.toInt_lt x
  omega
section FIL
variable {n r : Nat}
/-- told.shipOf[line[0]] and isGone of it -/
theorem y_fl_gone {V : w_V} {d : Nat} {Q : Option (q_V Int32) → y_H → Prop} {s : y_H} {R i : Int32} (hE : y_eGone V r) (hr5 : r = 5 ∨ r = 17) (hd : 4 ≤ d) (hT : w_T V g_sh (y_mk g_sh s)) (hr : s.2.2 0 2 = r) (hw : ∀ z : Int32, y_W g_sh g_ts d g_t22 Q 39 [(0, .inr (.inr 2)), (1, .inl R), (2, .inl i)] [.inl z] s) : y_W g_sh g_ts d g_t22 Q 18 [(0, .inr (.inr 2)), (1, .inl R), (2, .inl i)] [] s := by
  have r0 := y_rng (lo := 2147483648) (hi := 2147483654) (g := 0) hT (o := 29) (k := 0) (y_t29 (by omega)) y_k29
  obtain ⟨P, hP⟩ : ∃ P : Nat, (s.1 29 0).toInt = (P : Int) := ⟨(s.1 29 0).toInt.toNat, by omega⟩
  refine y_run 3 rfl ?_
  show y_W g_sh g_ts d g_t22 Q 23 [(0, .inr (.inr 2)), (1, .inl R), (2, .inl i)] [.inr (.inr (s.2.2 0 2)), .inr (.inr 2)] s
  rw [hr]
  rcases hr5 with rfl | rfl
  · have r8 := y_rng (lo := 2147483648) (hi := 2147483652) (g := 0) hT (o := 8) (k := P) (y_tyA (tag := 100) (sz := 7) (A := w_n 0 4 0) rfl (by omega)) (y_kdA (tag := 100) (sz := 7) (a := ((2147483648, 2147483652), 0)) rfl)
    refine y_run 5 rfl ?_
    refine y_ald (o := 29) (sz := 7) (j := 0) rfl rfl rfl (by omega) y_k29 ?_
    refine y_ald (o := 8) (sz := 7) (j := P) rfl rfl hP (by omega) (y_kdA (tag := 100) (sz := 7) (a := ((2147483648, 2147483652), 0)) rfl) ?_
    exact y_goneK hE rfl rfl hd hT hr (by omega) (by omega) (fun z _ => hw z)
  · have r8 := y_rng (lo := 2147483648) (hi := 2147483652) (g := 0) hT (o := 20) (k := P) (y_tyA (tag := 100) (sz := 7) (A := w_n 0 4 0) rfl (by omega)) (y_kdA (tag := 100) (sz := 7) (a := ((2147483648, 2147483652), 0)) rfl)
    refine y_run 5 rfl ?_
    refine y_ald (o := 29) (sz := 7) (j := 0) rfl rfl rfl (by omega) y_k29 ?_
    refine y_ald (o := 20) (sz := 7) (j := P) rfl rfl hP (by omega) (y_kdA (tag := 100) (sz := 7) (a := ((2147483648, 2147483652), 0)) rfl) ?_
    exact y_goneK hE rfl rfl hd hT hr (by omega) (by omega) (fun z _ => hw z)
/-- the first leaves the queue, how it stands from now on -/
theorem y_fl_out {s s1 s2 : y_H} {P : Nat} {b : Int32} {v : Option (q_V Int32)} (hT : w_T (y_Vn n) g_sh (y_mk g_sh s)) (h0 : 0 < (s.1 28 1).toInt) (hP : (s.1 29 0).toInt = (P : Int)) (hb : b.toInt ≠ 0) (u1 : ∀ o k, ¬ (o = 30 ∧ k = P) → s1.1 o k = s.1 o k) (hL : y_lvQ 0 s1 v s2) (hp : s2.1 30 P = b) : y_V1 n s2.1 := by
  have hV := y_VT hT
  have hr := y_rng (lo := 2147483648) (hi := 2147483655) (g := 0) hT (o := 28) (k := 1) rfl rfl
  obtain ⟨-, -, -, u2, z2, -, b2⟩ := hL
  refine y_V1_now hV ?_ (fun o k h => (u2 o k (by omega) (by omega)).trans (u1 o k (by omega)))
  refine y_Rc_leave (X := 0) (q := (P : Int)) hV.2.2.1 (by omega) (by omega) hP ?_ (fun k hk => by omega) (fun k h1 h2 => ?_) (fun p hp7 hne hh => ?_) (fun p hp7 he hh => ?_)
  · rw [z2, u1 28 1 (by omega)]
  · rw [b2 k h1 (by rw [u1 28 1 (by omega)]; exact h2)]
    exact u1 29 (k + 1) (by omega)
  · rw [u2 30 p (by omega) (by omega), u1 30 p (by omega)] at hh
    exact hh
  · rw [show p = P by omega, hp] at hh
    exact hb hh
theorem y_fl_loop {d : Nat} {Q : Option (q_V Int32) → y_H → Prop} {s0 : y_H} {R : Int32} {K : List (Nat × Nat)} (hg : y_eGone (y_Vn n) r) (hr5 : r = 5 ∨ r = 17) (hd : 4 ≤ d) (k1 : y_inc [(114753, 114753), (114759, 114759), (118848, 118853), (122944, 122950)] K = true) (k66 : w_inm K 66 = false) (hexit : ∀ (s : y_H) (ls : q_U Int32), w_T (y_Vn n) g_sh (y_mk g_sh s) → y_fr g_sh K s0 s → s.2.2 0 2 = r → q_at ls 0 = some (.inr (.inr 2)) → q_at ls 1 = some (.inl R) → y_W g_sh g_ts d g_t22 Q 87 ls [] s) : ∀ (c : Nat) (s : y_H) (i : Int32) (I : Nat), i.toInt = (I : Int) → I ≤ 7 → 7 - I ≤ c → w_T (y_Vn n) g_sh (y_mk g_sh s) → y_fr g_sh K s0 s → s.2.2 0 2 = r → y_W g_sh g_ts d g_t22 Q 2 [(0, .inr (.inr 2)), (1, .inl R), (2, .inl i)] [] s := by
  intro c
  induction c with
  | zero =>
    intro s i I hi hI hc hT hf hr
    refine y_run 2 rfl ?_
    refine y_ic rfl (fun _ => hexit s _ hT hf hr rfl rfl) (fun h => ?_)
    have h2 : ¬ (7 : Int) ≤ i.toInt := h
    omega
  | succ c ih =>
    intro s i I hi hI hc hT hf hr
    have hi1 : (i + (Int32.ofInt 1)).toInt = i.toInt + 1 := y_add (x := i) (y := 1) (by show _ ≤ _ + (1 : Int); omega) (by show _ + (1 : Int) ≤ _; omega)
    refine y_run 2 rfl ?_
    refine y_ic rfl (fun _ => hexit s _ hT hf hr rfl rfl) (fun h => ?_)
    have h2 : ¬ (7 : Int) ≤ i.toInt := h
    refine y_run 3 rfl ?_
    refine y_if rfl (fun _ => hexit s _ hT hf hr rfl rfl) (fun h => ?_)
    have h0 : ¬ (s.1 28 1).toInt ≤ 0 := h
    refine y_fl_gone hg hr5 hd hT hr (fun z => ?_)
    refine y_if rfl (fun _ => hexit s _ hT hf hr rfl rfl) (fun _ => ?_)
    have r0 := y_rng (lo := 2147483648) (hi := 2147483654) (g := 0) hT (o := 29) (k := 0) (y_t29 (by omega)) y_k29
    obtain ⟨P, hP⟩ : ∃ P : Nat, (s.1 29 0).toInt = (P : Int) := ⟨(s.1 29 0).toInt.toNat, by omega⟩
    refine y_run 7 rfl ?_
    refine y_ald (o := 29) (sz := 7) (j := 0) rfl rfl rfl (by omega) y_k29 ?_
    refine y_run 1 rfl ?_
    refine y_ast (o := 30) (sz := 7) (j := P) rfl rfl hP (by omega) y_k30 ?_
    have t1 := y_Tup0 (lo := 2147483648) (hi := 2147483652) (o := 30) (k := P) (x := Int32.ofInt 3) (y_t0 hT) (y_t30 (by omega)) y_k30 (show _ ≤ (3 : Int) by omega) (show (3 : Int) ≤ _ by omega)
    have f1 : y_fr g_sh [(114753, 114753), (114759, 114759), (118848, 118853), (122944, 122950)] s (y_up s 30 P (.inl (Int32.ofInt 3))) := (y_fr.rf (sh := g_sh) (s := s)).up (o := 30) (k := P) (v := .inl (Int32.ofInt 3)) y_k30 (y_msA (sz := 7) (by decide +kernel) (by omega))
    have u1 : ∀ o k, ¬ (o = 30 ∧ k = P) → (y_up s 30 P (.inl (Int32.ofInt 3))).1 o k = s.1 o k := fun o k h => y_up_ne h
    have e1 : (y_up s 30 P (.inl (Int32.ofInt 3))).1 30 P = Int32.ofInt 3 := y_up_self
    revert t1 f1 u1 e1
    generalize y_up s 30 P (.inl (Int32.ofInt 3)) = s1
    intro t1 f1 u1 e1
    refine y_run 3 rfl ?_
    refine y_call y_leaveG 1 rfl (fun _ _ _ => rfl) (a := [.inr (.inr 30), .inl ((Int32.ofInt 0))]) rfl rfl (fun h hR => y_mayV (o := 28) (sz := 10) rfl hR) (by omega) ⟨t1, rfl, by rw [u1 28 1 (by omega)]; omega⟩ (fun v s2 hQ => ?_)
    obtain ⟨hL, h6⟩ := hQ
    have hV2 := y_fl_out hT (by omega) hP (b := Int32.ofInt 3) (show (3 : Int) ≠ 0 by omega) u1 hL ((hL.2.2.2.1 30 P (by omega) (by omega)).trans e1)
    have f2 := y_lvQ_fr hL h6
    have hv : v = none := hL.1
    subst hv
    have t2 := hL.2.1
    have bw := y_b32 (s2.1 28 7 + (Int32.ofInt 1))
    have t3 := y_Tup0 (lo := 0) (hi := 4294967295) (o := 28) (k := 7) (x := s2.1 28 7 + (Int32.ofInt 1)) t2 rfl rfl (by omega) (by omega)
    have f3 := (f1.tr (f2.mono (by decide +kernel))).up (o := 28) (k := 7) (v := .inl (s2.1 28 7 + (Int32.ofInt 1))) rfl (by decide +kernel)
    have hT3 : w_T (y_Vn n) g_sh (y_mk g_sh (y_up s2 28 7 (.inl (s2.1 28 7 + (Int32.ofInt 1))))) := y_TV t3 (y_V1_now hV2 (y_Rc_eq (fun k _ => y_up_ne (by omega)) (fun k _ => y_up_ne (by omega)) (y_up_ne (by omega)) hV2.2.2.1) (fun o k h => y_up_ne (by omega)))
    refine y_run 7 rfl ?_
    show y_W g_sh g_ts d g_t22 Q 81 [(0, .inr (.inr 2)), (1, .inl R), (2, .inl i)] [] (y_up s2 28 7 (.inl (s2.1 28 7 + (Int32.ofInt 1))))
    revert f3 hT3
    generalize y_up s2 28 7 (.inl (s2.1 28 7 + (Int32.ofInt 1))) = s3
    intro f3 hT3
    have f4 := f3.mono k1
    refine y_run 2 rfl ?_
    refine y_sub (ls1 := [(0, .inr (.inr 2)), (1, .inl R), (2, .inl ((i + (Int32.ofInt 1))))]) (show ([0, 1, 2] : List Nat).Nodup by decide) (y_R_cons rfl (y_R_cons rfl (y_R_cons rfl y_R_nil))) ?_
    exact ih s3 (i + (Int32.ofInt 1)) (I + 1) (by rw [hi1, hi]; omega) (by omega) (by omega) hT3 (hf.tr f4) ((y_fr66 f4 k66).trans hr)
abbrev y_lnK : List (Nat × Nat) := [(53312, 53341), (57408, 57413), (102464, 102493), (106560, 106565), (147520, 147539), (151616, 151622), (155712, 155719), (159808, 159812), (163904, 163906), (168000, 168002)]
abbrev y_eLenC (V : w_V) (r : Nat) (K : List (Nat × Nat)) (M : w_U) : Prop := (y_inc K y_lnK = true ∧ y_ex g_sh M = true) ∧ w_Ent V g_sh g_ts (42, [w_r 2, w_n 0 6 0], [(66, w_r r)], K, [([], some (w_n 1 60 0), M)], 6)
abbrev y_eSeedC (V : w_V) : Prop := w_Ent V g_sh g_ts (50, [w_t 0], [], [], [([], some (w_t 0), [])], 1)
abbrev y_eQuaC (V : w_V) : Prop := w_Ent V g_sh g_ts (56, [w_t 0, w_n 0 100 0], [], [], [([], some (w_n 0 3 0), [])], 1)
def y_firQ (n : Nat) (K : List (Nat × Nat)) (s : y_H) (v : Option (q_V Int32)) (s2 : y_H) : Prop := v = none ∧ w_T (y_Vn n) g_sh (y_mk g_sh s2) ∧ y_fr g_sh K s s2
theorem y_fillRailC {RN : Nat} {K KL : List (Nat × Nat)} {M : w_U} (hg : y_eGone (y_Vn n) r) (hl : y_eLenC (y_Vn n) r KL M) (hse : y_eSeedC (y_Vn n)) (hqu : y_eQuaC (y_Vn n)) (hr5 : r = 5 ∨ r = 17) (hRN : RN < 2) (k1 : y_inc [(114753, 114753), (114759, 114759), (118848, 118853), (122944, 122950)] K = true) (k2 : y_inc KL K = true) (k66 : w_inm K 66 = false) (k9 : w_inm K (w_key 28 9) = true) (k31 : w_inm K (w_key 31 RN) = true) (k32 : w_inm K (w_key 32 RN) = true) (k30 : w_inr K (w_key 30 0) (w_key 30 6) = true) : y_C g_sh g_ts 22 7 (fun a s => w_T (y_Vn n) g_sh (y_mk g_sh s) ∧ s.2.2 0 2 = r ∧ ∃ R : Int32, a = [.inr (.inr 2), .inl R] ∧ R.toInt = (RN : Int)) (fun _ s v s2 => y_firQ n K s v s2) := by
  refine y_C.of (t := g_t22) rfl (by decide) ?_
  rintro d a s hd ⟨hT, hr, R, rfl, hR⟩
  refine y_run 2 rfl ?_
  refine y_sub (ls1 := [(0, .inr (.inr 2)), (1, .inl R), (2, .inl ((Int32.ofInt 0)))]) (show ([0, 1, 2] : List Nat).Nodup by decide) (y_R_cons rfl (y_R_cons rfl (y_R_cons rfl y_R_nil))) ?_
  refine y_fl_loop (Q := y_firQ n K s) (s0 := s) hg hr5 (by omega) k1 k66 (fun s1 ls hT1 hf1 hr1 l0 l1 => ?_) 7 s (Int32.ofInt 0) 0 rfl (by omega) (by omega) hT y_fr.rf hr
  refine y_sub (ls1 := [(0, .inr (.inr 2)), (1, .inl R)]) (show ([0, 1] : List Nat).Nodup by decide) (y_R_cons l0 (y_R_cons l1 y_R_nil)) ?_
  have hr28 := y_rng (lo := 2147483648) (hi := 2147483655) (g := 0) hT1 (o := 28) (k := 1) rfl rfl
  refine y_run 3 rfl ?_
  refine y_if rfl (fun h => ?_) (fun _ => y_vret rfl ⟨rfl, hT1, hf1⟩)
  have h0 : (s1.1 28 1).toInt ≠ 0 := h
  have r0 := y_rng (lo := 2147483648) (hi := 2147483654) (g := 0) hT1 (o := 29) (k := 0) (y_t29 (by omega)) y_k29
  obtain ⟨P, hP⟩ : ∃ P : Nat, (s1.1 29 0).toInt = (P : Int) := ⟨(s1.1 29 0).toInt.toNat, by omega⟩
  refine y_run 4 rfl ?_
  refine y_ald (o := 29) (sz := 7) (j := 0) rfl rfl rfl (by omega) y_k29 ?_
  generalize hp0 : s1.1 29 0 = p
  rw [hp0] at hP r0
  refine y_run 1 rfl ?_
  refine y_sub (ls1 := [(0, .inr (.inr 2)), (1, .inl R), (2, .inl p)]) (show ([0, 1, 2] : List Nat).Nodup by decide) (y_R_cons rfl (y_R_cons rfl (y_R_cons rfl y_R_nil))) ?_
  refine y_run 2 rfl ?_
  obtain ⟨⟨i1, i2⟩, hE⟩ := hl
  refine y_callT hE (by simpa using i2) 1 rfl (fun _ _ _ => rfl) (a := [.inr (.inr 2), .inl p]) rfl rfl (fun h hR => y_mayV (o := 0) (sz := 15) rfl hR) (by omega) hT1 hr1 ⟨⟨2, rfl, List.mem_cons_self⟩, y_iv (by omega) (by omega), True.intro⟩ (fun v s2 hT2 hf2 hv => ?_)
  obtain ⟨q, hq2, ho⟩ := hv
  have eq : q = ([], some (w_n 1 60 0), M) := by simpa using hq2
  subst eq
  obtain ⟨tm, rfl, tm1, tm2⟩ := y_ans ho
  have g2 := hf2.mono i1
  have e28 : s2.1 28 1 = s1.1 28 1 := g2.at (o := 28) (k := 1) (A := w_n 0 7 0) rfl rfl (by decide +kernel)
  have e290 : s2.1 29 0 = p := (g2.at (o := 29) (k := 0) (A := w_n 0 6 0) (y_t29 (by omega)) y_k29 (by decide +kernel)).trans hp0
  have hr2 : s2.2.2 0 2 = r := (y_fr66 (hf2.mono k2) k66).trans hr1
  have F2 := hf1.tr (hf2.mono k2)
  refine y_run 4 rfl ?_
  refine y_call y_leaveG 1 rfl (fun _ _ _ => rfl) (a := [.inr (.inr 30), .inl ((Int32.ofInt 0))]) rfl rfl (fun h hR => y_mayV (o := 28) (sz := 10) rfl hR) (by omega) ⟨y_t0 hT2, rfl, by rw [e28]; omega⟩ (fun v s3 hQ => ?_)
  obtain ⟨hL, h6⟩ := hQ
  have F3 := F2.tr (((y_lvQ_fr hL h6).mono (by decide +kernel)).mono k1)
  have hv : v = none := hL.1
  subst hv
  have t3 := hL.2.1
  refine y_sub (ls1 := [(0, .inr (.inr 2)), (1, .inl R), (2, .inl p), (3, .inl tm)]) (show ([0, 1, 2, 3] : List Nat).Nodup by decide) (y_R_cons rfl (y_R_cons rfl (y_R_cons rfl (y_R_cons rfl y_R_nil)))) ?_
  refine y_run 5 rfl ?_
  refine y_ast (o := 30) (sz := 7) (j := P) rfl rfl hP (by omega) y_k30 ?_
  have t4 := y_Tup0 (lo := 2147483648) (hi := 2147483652) (o := 30) (k := P) (x := Int32.ofInt 1) t3 (y_t30 (by omega)) y_k30 (show _ ≤ (1 : Int) by omega) (show (1 : Int) ≤ _ by omega)
  have F4 := F3.up (o := 30) (k := P) (v := .inl (Int32.ofInt 1)) y_k30 (y_msA (sz := 7) k30 (by omega))
  have u4 : ∀ o k, ¬ (o = 30 ∧ k = P) → (y_up s3 30 P (.inl (Int32.ofInt 1))).1 o k = s3.1 o k := fun o k h => y_up_ne h
  have e4 : (y_up s3 30 P (.inl (Int32.ofInt 1))).1 30 P = Int32.ofInt 1 := y_up_self
  revert t4 F4 u4 e4
  generalize y_up s3 30 P (.inl (Int32.ofInt 1)) = s4
  intro t4 F4 u4 e4
  have hV4 : y_V1 n s4.1 := by
    have hV := y_VT hT2
    obtain ⟨-, -, -, u3, z3, -, b3⟩ := hL
    refine y_V1_now hV ?_ (fun o k h => (u4 o k (by omega)).trans (u3 o k (by omega) (by omega)))
    refine y_Rc_leave (X := 0) (q := (P : Int)) hV.2.2.1 (by rw [e28]; omega) (by rw [e28]; omega) (by rw [e290]; exact hP) ?_ (fun k hk => by omega) (fun k h1 h2 => ?_) (fun p2 hp7 hne hh => ?_) (fun p2 hp7 he hh => ?_)
    · rw [u4 28 1 (by omega), z3]
    · exact (u4 29 k (by omega)).trans (b3 k h1 h2)
    · rw [u4 30 p2 (by omega), u3 30 p2 (by omega) (by omega)] at hh
      exact hh
    · rw [show p2 = P by omega, e4] at hh
      exact absurd (show (1 : Int) = 0 from hh) (by omega)
  have hT4 := y_TV t4 hV4
  refine y_run 5 rfl ?_
  refine y_callE hse rfl 0 rfl (fun _ _ _ => rfl) (a := [.inl ((s4.1 28 9))]) rfl rfl (fun _ _ => rfl) (by omega) hT4 ⟨y_ivall, True.intro⟩ (fun v hv => ?_)
  obtain ⟨q, hq2, ho⟩ := hv
  have eq : q = ([], some (w_t 0), []) := by simpa using hq2
  subst eq
  obtain ⟨sd, rfl, -, -⟩ := y_ans ho
  have bs := y_b32 sd
  have t5 := y_Tup0 (lo := 0) (hi := 4294967295) (o := 28) (k := 9) (x := sd) t4 rfl rfl (by omega) (by omega)
  have F5 := F4.up (o := 28) (k := 9) (v := .inl sd) rfl k9
  have u5 : ∀ o k, ¬ (o = 28 ∧ k = 9) → (y_up s4 28 9 (.inl sd)).1 o k = s4.1 o k := fun o k h => y_up_ne h
  refine y_run 1 rfl ?_
  show y_W g_sh g_ts d g_t22 (y_firQ n K s) 149 [(0, .inr (.inr 2)), (1, .inl R), (2, .inl p), (3, .inl tm)] [] (y_up s4 28 9 (.inl sd))
  revert t5 F5 u5
  generalize y_up s4 28 9 (.inl sd) = s5
  intro t5 F5 u5
  refine y_run 5 rfl ?_
  refine y_ast (o := 31) (sz := 2) (j := RN) rfl rfl hR hRN y_k31c ?_
  have t6 := y_Tup0 (lo := 2147483647) (hi := 2147483654) (o := 31) (k := RN) (x := p) t5 (y_t31c hRN) y_k31c (by omega) (by omega)
  have F6 := F5.up (o := 31) (k := RN) (v := .inl p) y_k31c k31
  have u6 : ∀ o k, ¬ (o = 31 ∧ k = RN) → (y_up s5 31 RN (.inl p)).1 o k = s5.1 o k := fun o k h => y_up_ne h
  revert t6 F6 u6
  generalize y_up s5 31 RN (.inl p) = s6
  intro t6 F6 u6
  have hV6 : y_V1 n s6.1 := y_V1_now hV4 (y_Rc_eq (fun k _ => (u6 29 k (by omega)).trans (u5 29 k (by omega))) (fun k _ => (u6 30 k (by omega)).trans (u5 30 k (by omega))) ((u6 28 1 (by omega)).trans (u5 28 1 (by omega))) hV4.2.2.1) (fun o k h => (u6 o k (by omega)).trans (u5 o k (by omega)))
  have hT6 := y_TV t6 hV6
  have hr6 : s6.2.2 0 2 = r := by
    have := y_fr66 F6 k66
    rw [this]
    exact hr
  -- the last store
  have fin : ∀ z : Int32, y_W g_sh g_ts d g_t22 (y_firQ n K s) 185 [(0, .inr (.inr 2)), (1, .inl R), (2, .inl p), (3, .inl tm)] [.inl z, .inl tm, .inl R, .inr (.inr 34)] s6 := by
    intro z
    refine y_run 1 rfl ?_
    refine y_ast (o := 32) (sz := 2) (j := RN) rfl rfl hR hRN y_k32c ?_
    have bt := y_b32 (tm + z)
    have t7 := y_Tup0 (lo := 0) (hi := 4294967295) (o := 32) (k := RN) (x := tm + z) t6 (y_t32c hRN) y_k32c (by omega) (by omega)
    have u7 : ∀ o k, ¬ (o = 32 ∧ k = RN) → (y_up s6 32 RN (.inl (tm + z))).1 o k = s6.1 o k := fun o k h => y_up_ne h
    exact y_vret rfl ⟨rfl, y_TV t7 (y_V1_now hV6 (y_Rc_eq (fun k _ => u7 29 k (by omega)) (fun k _ => u7 30 k (by omega)) (u7 28 1 (by omega)) hV6.2.2.1) (fun o k h => u7 o k (by omega))), F6.up (o := 32) (k := RN) (v := .inl (tm + z)) y_k32c k32⟩
  refine y_run 10 rfl ?_
  show y_W g_sh g_ts d g_t22 (y_firQ n K s) 179 [(0, .inr (.inr 2)), (1, .inl R), (2, .inl p), (3, .inl tm)] [.inr (.inr (s6.2.2 0 2)), .inl ((s6.1 28 9)), .inl tm, .inl R, .inr (.inr 34)] s6
  rw [hr6]
  rcases hr5 with rfl | rfl
  · have rq := y_rng (lo := 2147483648) (hi := 2147483748) (g := 0) hT6 (o := 3) (k := 11) rfl rfl
    refine y_run 1 rfl ?_
    refine y_callE hqu rfl 0 rfl (fun _ _ _ => rfl) (a := [.inl ((s6.1 28 9)), .inl ((s6.1 3 11))]) rfl rfl (fun _ _ => rfl) (by omega) hT6 ⟨y_ivall, y_iv (by omega) (by omega), True.intro⟩ (fun v hv => ?_)
    obtain ⟨q, hq2, ho⟩ := hv
    have eq : q = ([], some (w_n 0 3 0), []) := by simpa using hq2
    subst eq
    obtain ⟨z, rfl, -, -⟩ := y_ans ho
    exact fin z
  · have rq := y_rng (lo := 2147483648) (hi := 2147483748) (g := 0) hT6 (o := 15) (k := 11) rfl rfl
    refine y_run 1 rfl ?_
    refine y_callE hqu rfl 0 rfl (fun _ _ _ => rfl) (a := [.inl ((s6.1 28 9)), .inl ((s6.1 15 11))]) rfl rfl (fun _ _ => rfl) (by omega) hT6 ⟨y_ivall, y_iv (by omega) (by omega), True.intro⟩ (fun v hv => ?_)
    obtain ⟨q, hq2, ho⟩ := hv
    have eq : q = ([], some (w_n 0 3 0), []) := by simpa using hq2
    subst eq
    obtain ⟨z, rfl, -, -⟩ := y_ans ho
    exact fin z
end FIL
