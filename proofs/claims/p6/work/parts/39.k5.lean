/-! by hand: rows of booleans and of longs; layFits -/
section BL
variable {sh : w_Sh} {ts : List q_T} {d : Nat} {t : q_T} {Q : Option (q_V Int32) → y_H → Prop} {p : Nat} {ls : q_U Int32} {st : List (q_V Int32)} {s : y_H}
theorem y_bald {len : Nat} {r : List Nat} {n o sz j : Nat} {x : Int32} (hq : q_get t p = some (.baload, len, r)) (hr : y_ref sh n = some (o, 102, sz)) (hx : x.toInt = (j : Int)) (hj : j < sz) (hk : y_kd sh o j = 0) (hw : y_W sh ts d t Q (p + len) ls (.inl (s.1 o j) :: st) s) : y_W sh ts d t Q p ls (.inl x :: .inr (.inr n) :: st) s := by
  refine y_W.step (fun h ns hR => ⟨0, h, ?_, hR⟩) hw
  obtain ⟨rfl, u, hu⟩ := y_ref_ok hR hr
  have hel := (hR.2 o _ hu j hj).2 (by show 100 ≤ 102; omega)
  have hv : y_mk sh s o j = .inl (s.1 o j) := by
    show y_v (y_kd sh o j) s o j = _
    rw [hk]
    rfl
  unfold q_step
  dsimp only
  rw [hq]
  show q_ald q_O32 none 101 0 len (p, ls, .inl x :: .inr (.inr (o + 2)) :: st) h ns = _
  unfold q_ald
  dsimp only
  rw [hu, show q_O32.2.2.2.2.1 x = some j from y_ix hx]
  dsimp only
  rw [hel, hv]
  rw [show ((Nat.beq 102 101 || (Nat.beq 101 101 && Nat.beq 102 102)) && (Nat.blt j sz && Nat.beq (q_kind (.inl (s.1 o j) : q_V Int32)) 0)) = true by
    rw [Bool.and_eq_true, Bool.and_eq_true, Nat.blt_eq]
    exact ⟨rfl, hj, rfl⟩, cond_true]
  rfl
theorem y_bast {len : Nat} {r : List Nat} {n o sz j : Nat} {x v : Int32} (hq : q_get t p = some (.bastore, len, r)) (hr : y_ref sh n = some (o, 102, sz)) (hx : x.toInt = (j : Int)) (hj : j < sz) (hk : y_kd sh o j = 0) (hv : v = 0 ∨ v = 1) (hw : y_W sh ts d t Q (p + len) ls st (y_up s o j (.inl v))) : y_W sh ts d t Q p ls (.inl v :: .inl x :: .inr (.inr n) :: st) s := by
  refine y_W.step (fun h ns hR => ?_) hw
  obtain ⟨rfl, u, hu⟩ := y_ref_ok hR hr
  refine ⟨0, h.set o (102, sz, (j, .inl v) :: u), ?_, ?_⟩
  · unfold q_step
    dsimp only
    rw [hq]
    show q_ast q_O32 101 len (p, ls, .inl v :: .inl x :: .inr (.inr (o + 2)) :: st) h ns = _
    unfold q_ast
    dsimp only
    rw [hu, show q_O32.2.2.2.2.1 x = some j from y_ix hx]
    dsimp only
    rw [show ((Nat.beq 102 101 || (Nat.beq 101 101 && Nat.beq 102 102)) && Nat.blt j sz) = true by
      rw [Bool.and_eq_true, Nat.blt_eq]
      exact ⟨rfl, hj⟩, cond_true]
    rcases hv with rfl | rfl <;> rfl
  · rw [y_up_mk (by rw [hk]; rfl)]
    exact w_Rep_set hR hu _
theorem y_lald {len : Nat} {r : List Nat} {n o sz j : Nat} {x : Int32} (hq : q_get t p = some (.laload, len, r)) (hr : y_ref sh n = some (o, 103, sz)) (hx : x.toInt = (j : Int)) (hj : j < sz) (hk : y_kd sh o j = 2) (hw : y_W sh ts d t Q (p + len) ls (.inr (.inl (s.2.1 o j)) :: st) s) : y_W sh ts d t Q p ls (.inl x :: .inr (.inr n) :: st) s := by
  refine y_W.step (fun h ns hR => ⟨0, h, ?_, hR⟩) hw
  obtain ⟨rfl, u, hu⟩ := y_ref_ok hR hr
  have hel := (hR.2 o _ hu j hj).2 (by show 100 ≤ 103; omega)
  have hv : y_mk sh s o j = .inr (.inl (s.2.1 o j)) := by
    show y_v (y_kd sh o j) s o j = _
    rw [hk]
    rfl
  unfold q_step
  dsimp only
  rw [hq]
  show q_ald q_O32 none 103 2 len (p, ls, .inl x :: .inr (.inr (o + 2)) :: st) h ns = _
  unfold q_ald
  dsimp only
  rw [hu, show q_O32.2.2.2.2.1 x = some j from y_ix hx]
  dsimp only
  rw [hel, hv]
  rw [show ((Nat.beq 103 103 || (Nat.beq 103 101 && Nat.beq 103 102)) && (Nat.blt j sz && Nat.beq (q_kind (.inr (.inl (s.2.1 o j)) : q_V Int32)) 2)) = true by
    rw [Bool.and_eq_true, Bool.and_eq_true, Nat.blt_eq]
    exact ⟨rfl, hj, rfl⟩, cond_true]
  rfl
end BL
abbrev y_lfK : List (Nat × Nat) := [(266331, 266333), (266363, 266363), (266366, 266366), (299072, 299135), (303168, 303173), (340032, 340038), (352320, 352347), (356416, 356418), (360512, 360514), (364608, 364615), (368704, 368711), (413821, 415650), (421953, 421982)]
abbrev y_eFitsN (V : w_V) : Prop := w_Ent V g_sh g_ts (206, [w_r 67, w_n 1 30 0, w_t 0], [], [], [([], some (w_n 1 1 0), []), ([], some (w_n 0 0 0), [])], 1)
abbrev y_eTruth (V : w_V) : Prop := w_Ent V g_sh g_ts (313, [w_n 0 1 0], [], [], [([], some (w_n 0 1 0), [])], 1)
theorem y_ndk {j : Nat} : y_kd g_sh 83 j = 0 := y_kdA (tag := 100) (sz := 8) (a := ((0, 4294967295), 0)) rfl
theorem y_wsk {j : Nat} : y_kd g_sh 101 j = 0 := y_kdA (tag := 100) (sz := 1891) (a := ((2147483648, 2147483655), 0)) rfl
theorem y_ifk {j : Nat} : y_kd g_sh 103 j = 0 := y_kdA (tag := 102) (sz := 31) (a := ((2147483648, 2147483649), 0)) rfl
theorem y_lfNd : ∀ j, j < 7 → w_inm y_lfK (w_key 83 j) = true := by decide +kernel
theorem y_lfIf : ∀ j, j < 31 → 1 ≤ j → w_inm y_lfK (w_key 103 j) = true := by decide +kernel
theorem y_lfWs {j : Nat} (h1 : 61 ≤ j) (h2 : j < 1891) : w_inm y_lfK (w_key 101 j) = true := by
  rw [y_inm_iff]
  refine ⟨(413821, 415650), by decide, ?_, ?_⟩
  · show 413821 ≤ 64 + (101 * 4096 + j)
    omega
  · show 64 + (101 * 4096 + j) ≤ 415650
    omega
section LF
variable {V : w_V} {d : Nat} {kk had : Int32} {s0 : y_H}
/-- what is kept; pairs are there -/
def y_lfI (V : w_V) (s0 s : y_H) : Prop := w_T V g_sh (y_mk g_sh s) ∧ y_fr g_sh y_lfK s0 s ∧ s.1 65 48 = s0.1 65 48
theorem y_lfI_of {s s2 : y_H} {ms : List (Nat × Nat)} (h : y_lfI V s0 s) (hT : w_T V g_sh (y_mk g_sh s2)) (hf : y_fr g_sh ms s s2) (hi : y_inc ms y_lfK = true) : y_lfI V s0 s2 := by
  refine ⟨hT, h.2.1.tr (hf.mono hi), ?_⟩
  rw [(hf.mono hi).at (o := 65) (k := 48) (A := w_n 0 7 0) rfl rfl (by decide +kernel)]
  exact h.2.2
def y_lfQ (V : w_V) (s0 : y_H) (v : Option (q_V Int32)) (s : y_H) : Prop := w_T V g_sh (y_mk g_sh s) ∧ y_fr g_sh y_lfK s0 s ∧ ∃ x : Int32, v = some (.inl x)
/-- the minutes, for one v -/
theorem y_lf2 (hsails : y_eSails V) (hmiss : y_eMiss V) (hlen : y_eLen V) (hfr : y_eFr3 V) (hd : 5 ≤ d) (hp7 : (s0.1 65 48).toInt ≤ 7) {vv n : Int32} {W : Nat} (hv : vv.toInt = (W : Int)) (hW1 : 1 ≤ W) (hW2 : W ≤ 30) {Q : Option (q_V Int32) → y_H → Prop} (hexit : ∀ (s : y_H) (ls : q_U Int32), y_lfI V s0 s → q_at ls 0 = some (.inr (.inr 67)) → q_at ls 1 = some (.inl kk) → q_at ls 2 = some (.inl n) → q_at ls 3 = some (.inl had) → q_at ls 4 = some (.inl vv) → y_W g_sh g_ts d g_t244 Q 101 ls [] s) : ∀ (c : Nat) (s : y_H) (m : Int32) (M : Nat), y_lfI V s0 s → (s.1 86 8).toInt ≤ (s0.1 65 48).toInt → m.toInt = (M : Int) → M ≤ 61 → 61 - M ≤ c → y_W g_sh g_ts d g_t244 Q 53 [(0, .inr (.inr 67)), (1, .inl kk), (2, .inl n), (3, .inl had), (4, .inl vv), (5, .inl m)] [] s := by
  intro c
  induction c with
  | zero =>
    intro s m M hI h8 hm hM hc
    refine y_run 2 rfl ?_
    refine y_ic rfl (fun _ => hexit s _ hI rfl rfl rfl rfl rfl) (fun h => ?_)
    have h2 : ¬ (60 : Int) < m.toInt := h
    omega
  | succ c ih =>
    intro s m M hI h8 hm hM hc
    refine y_run 2 rfl ?_
    refine y_ic rfl (fun _ => hexit s _ hI rfl rfl rfl rfl rfl) (fun h => ?_)
    have h2 : ¬ (60 : Int) < m.toInt := h
    have hm1 : (m + Int32.ofInt 1).toInt = m.toInt + 1 := y_add (x := m) (y := 1) (by show _ ≤ _ + (1 : Int); omega) (by show _ + (1 : Int) ≤ _; omega)
    have h80 := y_air8 hI.1
    have next : ∀ (s2 : y_H), y_lfI V s0 s2 → (s2.1 86 8).toInt ≤ (s0.1 65 48).toInt → y_W g_sh g_ts d g_t244 Q 95 [(0, .inr (.inr 67)), (1, .inl kk), (2, .inl n), (3, .inl had), (4, .inl vv), (5, .inl m)] [] s2 := by
      intro s2 hI2 h82
      refine y_run 2 rfl ?_
      refine y_sub (ls1 := [(0, .inr (.inr 67)), (1, .inl kk), (2, .inl n), (3, .inl had), (4, .inl vv), (5, .inl (m + Int32.ofInt 1))]) (show ([0, 1, 2, 3, 4, 5] : List Nat).Nodup by decide) (y_R_cons rfl (y_R_cons rfl (y_R_cons rfl (y_R_cons rfl (y_R_cons rfl (y_R_cons rfl y_R_nil)))))) ?_
      exact ih s2 _ (M + 1) hI2 h82 (by rw [hm1, hm]; omega) (by omega) (by omega)
    have e1 : ((Int8.ofInt 61).toInt32 * vv).toInt = ((61 * W : Nat) : Int) := by
      have : ((Int8.ofInt 61).toInt32 * vv).toInt = (61 : Int) * vv.toInt := y_ml (x := (Int8.ofInt 61).toInt32) (y := vv) (by show _ ≤ (61 : Int) * _; omega) (by show (61 : Int) * _ ≤ _; omega)
      rw [this, hv]
      omega
    have e2 : ((Int8.ofInt 61).toInt32 * vv + m).toInt = ((61 * W + M : Nat) : Int) := y_adds e1 hm (by omega)
    refine y_run 10 rfl ?_
    refine y_call y_queueMany 1 rfl (fun _ _ _ => rfl) (a := [.inr (.inr 67)]) rfl rfl (fun h hR => y_mayV (o := 65) (sz := 85) rfl hR) (by omega) rfl (fun v s2 hQ => ?_)
    obtain ⟨rfl, rfl⟩ := hQ
    have hsb : (s2.1 65 48 - s2.1 86 8).toInt = (s2.1 65 48).toInt - (s2.1 86 8).toInt := by
      rw [hI.2.2]
      exact y_sb (by omega) (by omega)
    rw [hI.2.2] at hsb
    refine y_run 1 rfl ?_
    refine y_ast (o := 101) (sz := 1891) (j := 61 * W + M) rfl rfl e2 (by omega) y_wsk ?_
    show y_W g_sh g_ts d g_t244 Q 82 [(0, .inr (.inr 67)), (1, .inl kk), (2, .inl n), (3, .inl had), (4, .inl vv), (5, .inl m)] [] (y_up s2 101 (61 * W + M) (.inl (s2.1 65 48 - s2.1 86 8)))
    have hT3 := y_Tup (lo := 2147483648) (hi := 2147483655) (g := 0) (x := s2.1 65 48 - s2.1 86 8) hI.1 (y_tyA (o := 101) (k := 61 * W + M) (tag := 100) (sz := 1891) (A := .inl ((2147483648, 2147483655), 0)) rfl (by omega)) y_wsk (y_pkA (sz := 1891) (by decide +kernel) (by omega)) (by rw [hI.2.2, hsb]; omega) (by rw [hI.2.2, hsb]; omega)
    have hI3 : y_lfI V s0 (y_up s2 101 (61 * W + M) (.inl (s2.1 65 48 - s2.1 86 8))) := ⟨hT3, hI.2.1.up y_wsk (y_lfWs (by omega) (by omega)), by rw [y_up_ne (by omega)]; exact hI.2.2⟩
    have h83 : ((y_up s2 101 (61 * W + M) (.inl (s2.1 65 48 - s2.1 86 8))).1 86 8).toInt ≤ (s0.1 65 48).toInt := by
      rw [y_up_ne (by omega)]
      exact h8
    revert hI3 h83
    generalize y_up s2 101 (61 * W + M) (.inl (s2.1 65 48 - s2.1 86 8)) = s3
    intro hI3 h83
    refine y_run 1 rfl ?_
    refine y_call (y_isEmpty (V := V)) 1 rfl (fun _ _ _ => rfl) (a := [.inr (.inr 67)]) rfl rfl (fun h hR => y_mayV (o := 65) (sz := 85) rfl hR) (by omega) ⟨hI3.1, rfl⟩ (fun v s4 hQ => ?_)
    obtain ⟨rfl, hv4⟩ := hQ
    rcases hv4 with rfl | ⟨rfl, -⟩
    · refine y_if rfl (fun _ => next s4 hI3 h83) (fun h4 => absurd (show (1 : Int) ≠ 0 by omega) h4)
    · refine y_if rfl (fun h4 => absurd rfl h4) (fun _ => ?_)
      refine y_run 2 rfl ?_
      refine y_call (y_goMinute hsails hmiss hlen hfr) 1 rfl (fun _ _ _ => rfl) (a := [.inr (.inr 67), .inl (Int32.ofInt 0)]) rfl rfl (fun h hR => y_mayV (o := 65) (sz := 85) rfl hR) hd ⟨hI3.1, Int32.ofInt 0, false, rfl, Or.inl ⟨rfl, rfl⟩⟩ (fun v s5 hQ => ?_)
      obtain ⟨⟨x, rfl⟩, hT5, hf5, hm5, -⟩ := hQ _ false rfl (Or.inl ⟨rfl, rfl⟩)
      refine y_run 1 rfl ?_
      exact next s5 (y_lfI_of hI3 hT5 hf5 (by decide +kernel)) (by omega)
theorem y_ndUp {s : y_H} {P : Nat} {v : Int32} (hI : y_lfI V s0 s) (hP : P < 7) : y_lfI V s0 (y_up s 83 P (.inl v)) := by
  have hb := y_toIntB v
  exact ⟨y_Tup (lo := 0) (hi := 4294967295) (g := 0) hI.1 (y_tyA (o := 83) (k := P) (tag := 100) (sz := 8) (A := .inl ((0, 4294967295), 0)) rfl (by omega)) y_ndk (y_pkA (sz := 8) (by decide +kernel) (by omega)) (by omega) (by omega), hI.2.1.up y_ndk (y_lfNd P hP), by rw [y_up_ne (by omega)]; exact hI.2.2⟩
/-- for every v -/
theorem y_lf1 {FM : w_U} (has : y_eAsTold V FM) (hfn : y_eFitsN V) (htr : y_eTruth V) (hsails : y_eSails V) (hmiss : y_eMiss V) (hlen : y_eLen V) (hfr : y_eFr3 V) (hd : 5 ≤ d) (hp1 : 1 ≤ (s0.1 65 48).toInt) (hp7 : (s0.1 65 48).toInt ≤ 7) : ∀ (c : Nat) (s : y_H) (n vv : Int32) (W : Nat), y_lfI V s0 s → vv.toInt = (W : Int) → 1 ≤ W → W ≤ 31 → 31 - W ≤ c → y_W g_sh g_ts d g_t244 (y_lfQ V s0) 26 [(0, .inr (.inr 67)), (1, .inl kk), (2, .inl n), (3, .inl had), (4, .inl vv)] [] s := by
  have ep : ∀ s, y_lfI V s0 s → (s.1 65 48 - Int32.ofInt 1).toInt = (((s0.1 65 48).toInt.toNat - 1 : Nat) : Int) := by
    intro s hI
    have : (s.1 65 48 - Int32.ofInt 1).toInt = (s.1 65 48).toInt - 1 := by
      rw [hI.2.2]
      exact y_sb (x := s0.1 65 48) (y := 1) (by show _ ≤ _ - (1 : Int); omega) (by show _ - (1 : Int) ≤ _; omega)
    rw [this, hI.2.2]
    omega
  have out : ∀ (s : y_H) (n : Int32) (ls : q_U Int32), y_lfI V s0 s → q_at ls 0 = some (.inr (.inr 67)) → q_at ls 2 = some (.inl n) → q_at ls 3 = some (.inl had) → y_W g_sh g_ts d g_t244 (y_lfQ V s0) 134 ls [] s := by
    intro s n ls hI l0 l2 l3
    refine y_sub (ls1 := [(0, .inr (.inr 67)), (2, .inl n), (3, .inl had)]) (show ([0, 2, 3] : List Nat).Nodup by decide) (y_R_cons l0 (y_R_cons l2 (y_R_cons l3 y_R_nil))) ?_
    refine y_run 7 rfl ?_
    refine y_ast (o := 83) (sz := 8) (j := (s0.1 65 48).toInt.toNat - 1) rfl rfl (ep s hI) (by omega) y_ndk ?_
    refine y_run 1 rfl ?_
    have hI2 := y_ndUp (v := had) (P := (s0.1 65 48).toInt.toNat - 1) hI (by omega)
    exact y_iret rfl ⟨hI2.1, hI2.2.1, _, rfl⟩
  intro c
  induction c with
  | zero =>
    intro s n vv W hI hv h1 h2 hc
    refine y_run 2 rfl ?_
    refine y_ic rfl (fun _ => out s n _ hI rfl rfl rfl) (fun h => ?_)
    have h3 : ¬ (30 : Int) < vv.toInt := h
    omega
  | succ c ih =>
    intro s n vv W hI hv h1 h2 hc
    refine y_run 2 rfl ?_
    refine y_ic rfl (fun _ => out s n _ hI rfl rfl rfl) (fun h => ?_)
    have h3 : ¬ (30 : Int) < vv.toInt := h
    have hv1 : (vv + Int32.ofInt 1).toInt = vv.toInt + 1 := y_add (x := vv) (y := 1) (by show _ ≤ _ + (1 : Int); omega) (by show _ + (1 : Int) ≤ _; omega)
    refine y_run 7 rfl ?_
    refine y_ast (o := 83) (sz := 8) (j := (s0.1 65 48).toInt.toNat - 1) rfl rfl (ep s hI) (by omega) y_ndk ?_
    have hI2 := y_ndUp (v := vv) (P := (s0.1 65 48).toInt.toNat - 1) hI (by omega)
    refine y_run 1 rfl ?_
    show y_W g_sh g_ts d g_t244 (y_lfQ V s0) 47 [(0, .inr (.inr 67)), (1, .inl kk), (2, .inl n), (3, .inl had), (4, .inl vv)] [.inr (.inr 67)] (y_up s 83 ((s0.1 65 48).toInt.toNat - 1) (.inl vv))
    revert hI2
    generalize y_up s 83 ((s0.1 65 48).toInt.toNat - 1) (.inl vv) = s2
    intro hI2
    refine y_call (y_layTold has) 1 rfl (fun _ _ _ => rfl) (a := [.inr (.inr 67)]) rfl rfl (fun h hR => y_mayV (o := 65) (sz := 85) rfl hR) (by omega) ⟨hI2.1, rfl⟩ (fun v s3 hQ => ?_)
    obtain ⟨rfl, hT3, hf3, e8, -, -, -⟩ := hQ
    have hI3 := y_lfI_of hI2 hT3 hf3 (by decide +kernel)
    refine y_run 2 rfl ?_
    refine y_sub (ls1 := [(0, .inr (.inr 67)), (1, .inl kk), (2, .inl n), (3, .inl had), (4, .inl vv), (5, .inl (Int32.ofInt 0))]) (show ([0, 1, 2, 3, 4, 5] : List Nat).Nodup by decide) (y_R_cons rfl (y_R_cons rfl (y_R_cons rfl (y_R_cons rfl (y_R_cons rfl (y_R_cons rfl y_R_nil)))))) ?_
    refine y_lf2 hsails hmiss hlen hfr hd hp7 hv h1 (by omega) (fun s4 ls hI4 l0 l1 l2 l3 l4 => ?_) 61 s3 _ 0 hI3 (by rw [e8, hI2.2.2]; omega) rfl (by omega) (by omega)
    refine y_sub (ls1 := [(0, .inr (.inr 67)), (1, .inl kk), (2, .inl n), (3, .inl had), (4, .inl vv)]) (show ([0, 1, 2, 3, 4] : List Nat).Nodup by decide) (y_R_cons l0 (y_R_cons l1 (y_R_cons l2 (y_R_cons l3 (y_R_cons l4 y_R_nil))))) ?_
    refine y_run 6 rfl ?_
    have go : ∀ z : Int32, (z = 0 ∨ z = 1) → y_W g_sh g_ts d g_t244 (y_lfQ V s0) 114 [(0, .inr (.inr 67)), (1, .inl kk), (2, .inl n), (3, .inl had), (4, .inl vv)] [.inl z, .inl vv, .inr (.inr 105)] s4 := by
      intro z hz
      refine y_bast (o := 103) (sz := 31) (j := W) rfl rfl hv (by omega) y_ifk hz ?_
      have hz2 : 0 ≤ z.toInt ∧ z.toInt ≤ 1 := by
        rcases hz with rfl | rfl
        · decide
        · decide
      have hI5 : y_lfI V s0 (y_up s4 103 W (.inl z)) := ⟨y_Tup (lo := 2147483648) (hi := 2147483649) (g := 0) hI4.1 (y_tyA (o := 103) (k := W) (tag := 102) (sz := 31) (A := .inl ((2147483648, 2147483649), 0)) rfl (by omega)) y_ifk (y_pkA (sz := 31) (by decide +kernel) (by omega)) (by omega) (by omega), hI4.2.1.up y_ifk (y_lfIf W (by omega) h1), by rw [y_up_ne (by omega)]; exact hI4.2.2⟩
      refine y_run 4 rfl ?_
      refine y_bald (o := 103) (sz := 31) (j := W) rfl rfl hv (by omega) y_ifk ?_
      rw [y_up_self]
      show y_W g_sh g_ts d g_t244 (y_lfQ V s0) 123 [(0, .inr (.inr 67)), (1, .inl kk), (2, .inl n), (3, .inl had), (4, .inl vv)] [.inl z, .inl n] (y_up s4 103 W (.inl z))
      revert hI5
      generalize y_up s4 103 W (.inl z) = s5
      intro hI5
      refine y_callE htr rfl 0 rfl (fun _ _ _ => rfl) (a := [.inl z]) rfl rfl (fun h hR => rfl) (by omega) hI5.1 ⟨y_iv (by omega) (by omega), True.intro⟩ (fun v hv9 => ?_)
      obtain ⟨q, hq, ho⟩ := hv9
      have eq : q = ([], some (w_n 0 1 0), []) := by simpa using hq
      subst eq
      obtain ⟨u, rfl, -, -⟩ := y_ans ho
      refine y_run 4 rfl ?_
      refine y_sub (ls1 := [(0, .inr (.inr 67)), (1, .inl kk), (2, .inl (n + u)), (3, .inl had), (4, .inl (vv + Int32.ofInt 1))]) (show ([0, 1, 2, 3, 4] : List Nat).Nodup by decide) (y_R_cons rfl (y_R_cons rfl (y_R_cons rfl (y_R_cons rfl (y_R_cons rfl y_R_nil))))) ?_
      exact ih s5 _ _ (W + 1) hI5 (by rw [hv1, hv]; omega) (by omega) (by omega) (by omega)
    refine y_callE hfn rfl 1 rfl (fun _ _ _ => rfl) (a := [.inr (.inr 67), .inl vv, .inl kk]) rfl rfl (fun h hR => y_mayV (o := 65) (sz := 85) rfl hR) (by omega) hI4.1 ⟨⟨67, rfl, List.mem_cons_self⟩, y_iv (by omega) (by omega), y_ivall, True.intro⟩ (fun v hv9 => ?_)
    obtain ⟨q, hq, ho⟩ := hv9
    have eq : q = ([], some (w_n 1 1 0), []) ∨ q = ([], some (w_n 0 0 0), []) := by simpa using hq
    rcases eq with rfl | rfl
    · obtain ⟨z, rfl, z1, z2⟩ := y_ans ho
      refine go z (Or.inr ?_)
      rw [← Int32.toInt_inj]
      show _ = (1 : Int)
      omega
    · obtain ⟨z, rfl, z1, z2⟩ := y_ans ho
      refine go z (Or.inl ?_)
      rw [← Int32.toInt_inj]
      show _ = (0 : Int)
      omega
end LF
theorem y_layFitsE {V : w_V} {FM : w_U} (has : y_eAsTold V FM) (hfn : y_eFitsN V) (htr : y_eTruth V) (hsails : y_eSails V) (hmiss : y_eMiss V) (hlen : y_eLen V) (hfr : y_eFr3 V) : w_Ent V g_sh g_ts (244, [w_r 67, w_t 0], [], [(266331, 266333), (266363, 266363), (266366, 266366), (299072, 299135), (303168, 303173), (340032, 340038), (352320, 352347), (356416, 356418), (360512, 360514), (364608, 364615), (368704, 368711), (413821, 415650), (421953, 421982)], [([], some (w_t 0), [])], 6) := by
  refine y_C.toE g_shok g_pkok rfl ?_
  have key : y_C g_sh g_ts 244 6 (fun a s => w_T V g_sh (y_mk g_sh s) ∧ ∃ x : Int32, a = [.inr (.inr 67), .inl x]) (fun _ s v s2 => y_lfQ V s v s2) := by
    refine y_C.of (t := g_t244) rfl (by decide) ?_
    rintro d a s hd ⟨hT, x, rfl⟩
    have hpr := y_rng (lo := 2147483648) (hi := 2147483655) (g := 0) hT (o := 65) (k := 48) rfl rfl
    refine y_run 2 rfl ?_
    refine y_if rfl (fun h => ?_) (fun h => ?_)
    · have h2 : (s.1 65 48).toInt ≠ 0 := h
      have ep : (s.1 65 48 - Int32.ofInt 1).toInt = (((s.1 65 48).toInt.toNat - 1 : Nat) : Int) := by
        have : (s.1 65 48 - Int32.ofInt 1).toInt = (s.1 65 48).toInt - 1 := y_sb (x := s.1 65 48) (y := 1) (by show _ ≤ _ - (1 : Int); omega) (by show _ - (1 : Int) ≤ _; omega)
        rw [this]
        omega
      refine y_run 8 rfl ?_
      refine y_ald (o := 83) (sz := 8) (j := (s.1 65 48).toInt.toNat - 1) rfl rfl ep (by omega) y_ndk ?_
      generalize s.1 83 ((s.1 65 48).toInt.toNat - 1) = had
      refine y_run 3 rfl ?_
      refine y_sub (ls1 := [(0, .inr (.inr 67)), (1, .inl x), (2, .inl (Int32.ofInt 0)), (3, .inl had), (4, .inl (Int32.ofInt 1))]) (show ([0, 1, 2, 3, 4] : List Nat).Nodup by decide) (y_R_cons rfl (y_R_cons rfl (y_R_cons rfl (y_R_cons rfl (y_R_cons rfl y_R_nil))))) ?_
      exact y_lf1 has hfn htr hsails hmiss hlen hfr (s0 := s) (by omega) (by omega) (by omega) 30 s _ _ 1 ⟨hT, y_fr.rf, rfl⟩ rfl (by omega) (by omega) (by omega)
    · refine y_run 1 rfl ?_
      exact y_iret rfl ⟨hT, y_fr.rf, _, rfl⟩
  refine y_C.weak key (Nat.le_refl 6) ?_ ?_
  · rintro a s ⟨hT, ha, -⟩
    rcases a with _ | ⟨v1, _ | ⟨v2, _ | ⟨v3, a⟩⟩⟩
    · exact ha.elim
    · exact ha.2.elim
    · obtain ⟨⟨n, rfl, hn⟩, ⟨x, rfl, -, -⟩, -⟩ := ha
      have hn2 : n = 67 := by simpa using hn
      subst hn2
      exact ⟨hT, x, rfl⟩
    · exact ha.2.2.elim
  · rintro a s v s2 - ⟨hT2, hf2, x, rfl⟩
    exact ⟨hT2, hf2, _, List.mem_cons_self, (fun z hz => by cases hz), y_ivall, (fun q hq => by cases hq)⟩
