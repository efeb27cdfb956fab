/-! THE NEEDS ARE PUT BACK: layFits, walked once more (printed by wip/gen/mkfits.py) -/
theorem nd_T {k : Nat} (h : k < 7) : zT 83 k := ⟨⟨_, rfl, (show k < 8 by omega)⟩, u_k0 (o := 83) rfl (by decide) (by decide) k⟩
theorem nd_fr {K : List (Nat × Nat)} {s s2 : y_H} {k : Nat} (h : k < 7) (hf : y_fr g_sh K s s2) (hK : l_kR [(340032, 340038)] K = true) : s2.1 83 k = s.1 83 k := zT_fr (nd_T h) hf (l_kR_ok hK List.mem_cons_self (by show 340032 ≤ 64 + (83 * 4096 + k); omega) (by show 64 + (83 * 4096 + k) ≤ 340038; omega))
section LF
variable {V : w_V} {d : Nat} {kk had : Int32} {s0 : y_H}
/-- what is kept; pairs are there -/
def y_ljI (V : w_V) (s0 s : y_H) : Prop := w_T V g_sh (y_mk g_sh s) ∧ y_fr g_sh y_lfK s0 s ∧ s.1 65 48 = s0.1 65 48 ∧ ∀ j, j < 7 → j ≠ (s0.1 65 48).toInt.toNat - 1 → s.1 83 j = s0.1 83 j
theorem y_ljI_of {s s2 : y_H} {ms : List (Nat × Nat)} (h : y_ljI V s0 s) (hT : w_T V g_sh (y_mk g_sh s2)) (hf : y_fr g_sh ms s s2) (hi : y_inc ms y_lfK = true) (hn : l_kR [(340032, 340038)] ms = true) : y_ljI V s0 s2 := by
  refine ⟨hT, h.2.1.tr (hf.mono hi), ?_, fun j a b => (nd_fr a hf hn).trans (h.2.2.2 j a b)⟩
  rw [(hf.mono hi).at (o := 65) (k := 48) (A := w_n 0 7 0) rfl rfl (by decide +kernel)]
  exact h.2.2.1
def y_ljQ (V : w_V) (s0 : y_H) (v : Option (q_V Int32)) (s : y_H) : Prop := w_T V g_sh (y_mk g_sh s) ∧ y_fr g_sh y_lfK s0 s ∧ (∃ x : Int32, v = some (.inl x)) ∧ ∀ j, j < 7 → s.1 83 j = s0.1 83 j
/-- the minutes, for one v -/
theorem y_lj2 (hsails : y_eSails V) (hmiss : y_eMiss V) (hlen : y_eLen V) (hfr : y_eFr3 V) (hd : 5 ≤ d) (hp7 : (s0.1 65 48).toInt ≤ 7) {vv n : Int32} {W : Nat} (hv : vv.toInt = (W : Int)) (hW1 : 1 ≤ W) (hW2 : W ≤ 30) {Q : Option (q_V Int32) → y_H → Prop} (hexit : ∀ (s : y_H) (ls : q_U Int32), y_ljI V s0 s → q_at ls 0 = some (.inr (.inr 67)) → q_at ls 1 = some (.inl kk) → q_at ls 2 = some (.inl n) → q_at ls 3 = some (.inl had) → q_at ls 4 = some (.inl vv) → y_W g_sh g_ts d g_t244 Q 101 ls [] s) : ∀ (c : Nat) (s : y_H) (m : Int32) (M : Nat), y_ljI V s0 s → (s.1 86 8).toInt ≤ (s0.1 65 48).toInt → m.toInt = (M : Int) → M ≤ 61 → 61 - M ≤ c → y_W g_sh g_ts d g_t244 Q 53 [(0, .inr (.inr 67)), (1, .inl kk), (2, .inl n), (3, .inl had), (4, .inl vv), (5, .inl m)] [] s := by
  intro c
  induction c with
  | zero =>
    intro s m M hI h8 hm hM hc
    refine y_run 2 rfl ?_
    refine y_ic rfl (fun _ => hexit s _ hI rfl rfl rfl rfl rfl) (fun h => ?_)
    have h2 : ¬ (60 : Int) < m.toInt := h
    omega
  | succ c ih =>
    intro s m M hI h8 hm hM hc
    refine y_run 2 rfl ?_
    refine y_ic rfl (fun _ => hexit s _ hI rfl rfl rfl rfl rfl) (fun h => ?_)
    have h2 : ¬ (60 : Int) < m.toInt := h
    have hm1 : (m + Int32.ofInt 1).toInt = m.toInt + 1 := y_add (x := m) (y := 1) (by show _ ≤ _ + (1 : Int); omega) (by show _ + (1 : Int) ≤ _; omega)
    have h80 := y_air8 hI.1
    have next : ∀ (s2 : y_H), y_ljI V s0 s2 → (s2.1 86 8).toInt ≤ (s0.1 65 48).toInt → y_W g_sh g_ts d g_t244 Q 95 [(0, .inr (.inr 67)), (1, .inl kk), (2, .inl n), (3, .inl had), (4, .inl vv), (5, .inl m)] [] s2 := by
      intro s2 hI2 h82
      refine y_run 2 rfl ?_
      refine y_sub (ls1 := [(0, .inr (.inr 67)), (1, .inl kk), (2, .inl n), (3, .inl had), (4, .inl vv), (5, .inl (m + Int32.ofInt 1))]) (show ([0, 1, 2, 3, 4, 5] : List Nat).Nodup by decide) (y_R_cons rfl (y_R_cons rfl (y_R_cons rfl (y_R_cons rfl (y_R_cons rfl (y_R_cons rfl y_R_nil)))))) ?_
      exact ih s2 _ (M + 1) hI2 h82 (by rw [hm1, hm]; omega) (by omega) (by omega)
    have e1 : ((Int8.ofInt 61).toInt32 * vv).toInt = ((61 * W : Nat) : Int) := by
      have : ((Int8.ofInt 61).toInt32 * vv).toInt = (61 : Int) * vv.toInt := y_ml (x := (Int8.ofInt 61).toInt32) (y := vv) (by show _ ≤ (61 : Int) * _; omega) (by show (61 : Int) * _ ≤ _; omega)
      rw [this, hv]
      omega
    have e2 : ((Int8.ofInt 61).toInt32 * vv + m).toInt = ((61 * W + M : Nat) : Int) := y_adds e1 hm (by omega)
    refine y_run 10 rfl ?_
    refine y_call y_queueMany 1 rfl (fun _ _ _ => rfl) (a := [.inr (.inr 67)]) rfl rfl (fun h hR => y_mayV (o := 65) (sz := 85) rfl hR) (by omega) rfl (fun v s2 hQ => ?_)
    obtain ⟨rfl, rfl⟩ := hQ
    have hsb : (s2.1 65 48 - s2.1 86 8).toInt = (s2.1 65 48).toInt - (s2.1 86 8).toInt := by
      rw [hI.2.2.1]
      exact y_sb (by omega) (by omega)
    rw [hI.2.2.1] at hsb
    refine y_run 1 rfl ?_
    refine y_ast (o := 101) (sz := 1891) (j := 61 * W + M) rfl rfl e2 (by omega) y_wsk ?_
    show y_W g_sh g_ts d g_t244 Q 82 [(0, .inr (.inr 67)), (1, .inl kk), (2, .inl n), (3, .inl had), (4, .inl vv), (5, .inl m)] [] (y_up s2 101 (61 * W + M) (.inl (s2.1 65 48 - s2.1 86 8)))
    have hT3 := y_Tup (lo := 2147483648) (hi := 2147483655) (g := 0) (x := s2.1 65 48 - s2.1 86 8) hI.1 (y_tyA (o := 101) (k := 61 * W + M) (tag := 100) (sz := 1891) (A := .inl ((2147483648, 2147483655), 0)) rfl (by omega)) y_wsk (y_pkA (sz := 1891) (by decide +kernel) (by omega)) (by rw [hI.2.2.1, hsb]; omega) (by rw [hI.2.2.1, hsb]; omega)
    have hI3 : y_ljI V s0 (y_up s2 101 (61 * W + M) (.inl (s2.1 65 48 - s2.1 86 8))) := ⟨hT3, hI.2.1.up y_wsk (y_lfWs (by omega) (by omega)), by rw [y_up_ne (by omega)]; exact hI.2.2.1, fun j a b => by rw [y_up_ne (by omega)]; exact hI.2.2.2 j a b⟩
    have h83 : ((y_up s2 101 (61 * W + M) (.inl (s2.1 65 48 - s2.1 86 8))).1 86 8).toInt ≤ (s0.1 65 48).toInt := by
      rw [y_up_ne (by omega)]
      exact h8
    revert hI3 h83
    generalize y_up s2 101 (61 * W + M) (.inl (s2.1 65 48 - s2.1 86 8)) = s3
    intro hI3 h83
    refine y_run 1 rfl ?_
    refine y_call (y_isEmpty (V := V)) 1 rfl (fun _ _ _ => rfl) (a := [.inr (.inr 67)]) rfl rfl (fun h hR => y_mayV (o := 65) (sz := 85) rfl hR) (by omega) ⟨hI3.1, rfl⟩ (fun v s4 hQ => ?_)
    obtain ⟨rfl, hv4⟩ := hQ
    rcases hv4 with rfl | ⟨rfl, -⟩
    · refine y_if rfl (fun _ => next s4 hI3 h83) (fun h4 => absurd (show (1 : Int) ≠ 0 by omega) h4)
    · refine y_if rfl (fun h4 => absurd rfl h4) (fun _ => ?_)
      refine y_run 2 rfl ?_
      refine y_call (y_goMinute hsails hmiss hlen hfr) 1 rfl (fun _ _ _ => rfl) (a := [.inr (.inr 67), .inl (Int32.ofInt 0)]) rfl rfl (fun h hR => y_mayV (o := 65) (sz := 85) rfl hR) hd ⟨hI3.1, Int32.ofInt 0, false, rfl, Or.inl ⟨rfl, rfl⟩⟩ (fun v s5 hQ => ?_)
      obtain ⟨⟨x, rfl⟩, hT5, hf5, hm5, -⟩ := hQ _ false rfl (Or.inl ⟨rfl, rfl⟩)
      refine y_run 1 rfl ?_
      exact next s5 (y_ljI_of hI3 hT5 hf5 (by decide +kernel) (by decide +kernel)) (by omega)
theorem y_njUp {s : y_H} {P : Nat} {v : Int32} (hI : y_ljI V s0 s) (hP : P < 7) (he : P = (s0.1 65 48).toInt.toNat - 1) : y_ljI V s0 (y_up s 83 P (.inl v)) := by
  have hb := y_toIntB v
  exact ⟨y_Tup (lo := 0) (hi := 4294967295) (g := 0) hI.1 (y_tyA (o := 83) (k := P) (tag := 100) (sz := 8) (A := .inl ((0, 4294967295), 0)) rfl (by omega)) y_ndk (y_pkA (sz := 8) (by decide +kernel) (by omega)) (by omega) (by omega), hI.2.1.up y_ndk (y_lfNd P hP), by rw [y_up_ne (by omega)]; exact hI.2.2.1, fun j a b => by rw [y_up_ne (by omega)]; exact hI.2.2.2 j a b⟩
/-- for every v -/
theorem y_lj1 {FM : w_U} (has : y_eAsTold V FM) (hfn : y_eFitsN V) (htr : y_eTruth V) (hsails : y_eSails V) (hmiss : y_eMiss V) (hlen : y_eLen V) (hfr : y_eFr3 V) (hd : 5 ≤ d) (hp1 : 1 ≤ (s0.1 65 48).toInt) (hp7 : (s0.1 65 48).toInt ≤ 7) (hhad : had = s0.1 83 ((s0.1 65 48).toInt.toNat - 1)) : ∀ (c : Nat) (s : y_H) (n vv : Int32) (W : Nat), y_ljI V s0 s → vv.toInt = (W : Int) → 1 ≤ W → W ≤ 31 → 31 - W ≤ c → y_W g_sh g_ts d g_t244 (y_ljQ V s0) 26 [(0, .inr (.inr 67)), (1, .inl kk), (2, .inl n), (3, .inl had), (4, .inl vv)] [] s := by
  have ep : ∀ s, y_ljI V s0 s → (s.1 65 48 - Int32.ofInt 1).toInt = (((s0.1 65 48).toInt.toNat - 1 : Nat) : Int) := by
    intro s hI
    have : (s.1 65 48 - Int32.ofInt 1).toInt = (s.1 65 48).toInt - 1 := by
      rw [hI.2.2.1]
      exact y_sb (x := s0.1 65 48) (y := 1) (by show _ ≤ _ - (1 : Int); omega) (by show _ - (1 : Int) ≤ _; omega)
    rw [this, hI.2.2.1]
    omega
  have out : ∀ (s : y_H) (n : Int32) (ls : q_U Int32), y_ljI V s0 s → q_at ls 0 = some (.inr (.inr 67)) → q_at ls 2 = some (.inl n) → q_at ls 3 = some (.inl had) → y_W g_sh g_ts d g_t244 (y_ljQ V s0) 134 ls [] s := by
    intro s n ls hI l0 l2 l3
    refine y_sub (ls1 := [(0, .inr (.inr 67)), (2, .inl n), (3, .inl had)]) (show ([0, 2, 3] : List Nat).Nodup by decide) (y_R_cons l0 (y_R_cons l2 (y_R_cons l3 y_R_nil))) ?_
    refine y_run 7 rfl ?_
    refine y_ast (o := 83) (sz := 8) (j := (s0.1 65 48).toInt.toNat - 1) rfl rfl (ep s hI) (by omega) y_ndk ?_
    refine y_run 1 rfl ?_
    have hI2 := y_njUp (v := had) (P := (s0.1 65 48).toInt.toNat - 1) hI (by omega) rfl
    refine y_iret rfl ⟨hI2.1, hI2.2.1, ⟨_, rfl⟩, fun j hj => ?_⟩
    by_cases e : j = (s0.1 65 48).toInt.toNat - 1
    · rw [e, y_up_self]
      exact hhad
    · rw [y_up_ne (by omega)]
      exact hI.2.2.2 j hj e
  intro c
  induction c with
  | zero =>
    intro s n vv W hI hv h1 h2 hc
    refine y_run 2 rfl ?_
    refine y_ic rfl (fun _ => out s n _ hI rfl rfl rfl) (fun h => ?_)
    have h3 : ¬ (30 : Int) < vv.toInt := h
    omega
  | succ c ih =>
    intro s n vv W hI hv h1 h2 hc
    refine y_run 2 rfl ?_
    refine y_ic rfl (fun _ => out s n _ hI rfl rfl rfl) (fun h => ?_)
    have h3 : ¬ (30 : Int) < vv.toInt := h
    have hv1 : (vv + Int32.ofInt 1).toInt = vv.toInt + 1 := y_add (x := vv) (y := 1) (by show _ ≤ _ + (1 : Int); omega) (by show _ + (1 : Int) ≤ _; omega)
    refine y_run 7 rfl ?_
    refine y_ast (o := 83) (sz := 8) (j := (s0.1 65 48).toInt.toNat - 1) rfl rfl (ep s hI) (by omega) y_ndk ?_
    have hI2 := y_njUp (v := vv) (P := (s0.1 65 48).toInt.toNat - 1) hI (by omega) rfl
    refine y_run 1 rfl ?_
    show y_W g_sh g_ts d g_t244 (y_ljQ V s0) 47 [(0, .inr (.inr 67)), (1, .inl kk), (2, .inl n), (3, .inl had), (4, .inl vv)] [.inr (.inr 67)] (y_up s 83 ((s0.1 65 48).toInt.toNat - 1) (.inl vv))
    revert hI2
    generalize y_up s 83 ((s0.1 65 48).toInt.toNat - 1) (.inl vv) = s2
    intro hI2
    refine y_call (y_layTold has) 1 rfl (fun _ _ _ => rfl) (a := [.inr (.inr 67)]) rfl rfl (fun h hR => y_mayV (o := 65) (sz := 85) rfl hR) (by omega) ⟨hI2.1, rfl⟩ (fun v s3 hQ => ?_)
    obtain ⟨rfl, hT3, hf3, e8, -, -, -⟩ := hQ
    have hI3 := y_ljI_of hI2 hT3 hf3 (by decide +kernel) (by decide +kernel)
    refine y_run 2 rfl ?_
    refine y_sub (ls1 := [(0, .inr (.inr 67)), (1, .inl kk), (2, .inl n), (3, .inl had), (4, .inl vv), (5, .inl (Int32.ofInt 0))]) (show ([0, 1, 2, 3, 4, 5] : List Nat).Nodup by decide) (y_R_cons rfl (y_R_cons rfl (y_R_cons rfl (y_R_cons rfl (y_R_cons rfl (y_R_cons rfl y_R_nil)))))) ?_
    refine y_lj2 hsails hmiss hlen hfr hd hp7 hv h1 (by omega) (fun s4 ls hI4 l0 l1 l2 l3 l4 => ?_) 61 s3 _ 0 hI3 (by rw [e8, hI2.2.2.1]; omega) rfl (by omega) (by omega)
    refine y_sub (ls1 := [(0, .inr (.inr 67)), (1, .inl kk), (2, .inl n), (3, .inl had), (4, .inl vv)]) (show ([0, 1, 2, 3, 4] : List Nat).Nodup by decide) (y_R_cons l0 (y_R_cons l1 (y_R_cons l2 (y_R_cons l3 (y_R_cons l4 y_R_nil))))) ?_
    refine y_run 6 rfl ?_
    have go : ∀ z : Int32, (z = 0 ∨ z = 1) → y_W g_sh g_ts d g_t244 (y_ljQ V s0) 114 [(0, .inr (.inr 67)), (1, .inl kk), (2, .inl n), (3, .inl had), (4, .inl vv)] [.inl z, .inl vv, .inr (.inr 105)] s4 := by
      intro z hz
      refine y_bast (o := 103) (sz := 31) (j := W) rfl rfl hv (by omega) y_ifk hz ?_
      have hz2 : 0 ≤ z.toInt ∧ z.toInt ≤ 1 := by
        rcases hz with rfl | rfl
        · decide
        · decide
      have hI5 : y_ljI V s0 (y_up s4 103 W (.inl z)) := ⟨y_Tup (lo := 2147483648) (hi := 2147483649) (g := 0) hI4.1 (y_tyA (o := 103) (k := W) (tag := 102) (sz := 31) (A := .inl ((2147483648, 2147483649), 0)) rfl (by omega)) y_ifk (y_pkA (sz := 31) (by decide +kernel) (by omega)) (by omega) (by omega), hI4.2.1.up y_ifk (y_lfIf W (by omega) h1), by rw [y_up_ne (by omega)]; exact hI4.2.2.1, fun j a b => by rw [y_up_ne (by omega)]; exact hI4.2.2.2 j a b⟩
      refine y_run 4 rfl ?_
      refine y_bald (o := 103) (sz := 31) (j := W) rfl rfl hv (by omega) y_ifk ?_
      rw [y_up_self]
      show y_W g_sh g_ts d g_t244 (y_ljQ V s0) 123 [(0, .inr (.inr 67)), (1, .inl kk), (2, .inl n), (3, .inl had), (4, .inl vv)] [.inl z, .inl n] (y_up s4 103 W (.inl z))
      revert hI5
      generalize y_up s4 103 W (.inl z) = s5
      intro hI5
      refine y_callE htr rfl 0 rfl (fun _ _ _ => rfl) (a := [.inl z]) rfl rfl (fun h hR => rfl) (by omega) hI5.1 ⟨y_iv (by omega) (by omega), True.intro⟩ (fun v hv9 => ?_)
      obtain ⟨q, hq, ho⟩ := hv9
      have eq : q = ([], some (w_n 0 1 0), []) := by simpa using hq
      subst eq
      obtain ⟨u, rfl, -, -⟩ := y_ans ho
      refine y_run 4 rfl ?_
      refine y_sub (ls1 := [(0, .inr (.inr 67)), (1, .inl kk), (2, .inl (n + u)), (3, .inl had), (4, .inl (vv + Int32.ofInt 1))]) (show ([0, 1, 2, 3, 4] : List Nat).Nodup by decide) (y_R_cons rfl (y_R_cons rfl (y_R_cons rfl (y_R_cons rfl (y_R_cons rfl y_R_nil))))) ?_
      exact ih s5 _ _ (W + 1) hI5 (by rw [hv1, hv]; omega) (by omega) (by omega) (by omega)
    refine y_callE hfn rfl 1 rfl (fun _ _ _ => rfl) (a := [.inr (.inr 67), .inl vv, .inl kk]) rfl rfl (fun h hR => y_mayV (o := 65) (sz := 85) rfl hR) (by omega) hI4.1 ⟨⟨67, rfl, List.mem_cons_self⟩, y_iv (by omega) (by omega), y_ivall, True.intro⟩ (fun v hv9 => ?_)
    obtain ⟨q, hq, ho⟩ := hv9
    have eq : q = ([], some (w_n 1 1 0), []) ∨ q = ([], some (w_n 0 0 0), []) := by simpa using hq
    rcases eq with rfl | rfl
    · obtain ⟨z, rfl, z1, z2⟩ := y_ans ho
      refine go z (Or.inr ?_)
      rw [← Int32.toInt_inj]
      show _ = (1 : Int)
      omega
    · obtain ⟨z, rfl, z1, z2⟩ := y_ans ho
      refine go z (Or.inl ?_)
      rw [← Int32.toInt_inj]
      show _ = (0 : Int)
      omega
end LF
theorem y_layFitsJ {V : w_V} {FM : w_U} (has : y_eAsTold V FM) (hfn : y_eFitsN V) (htr : y_eTruth V) (hsails : y_eSails V) (hmiss : y_eMiss V) (hlen : y_eLen V) (hfr : y_eFr3 V) : y_C g_sh g_ts 244 6 (fun a s => w_T V g_sh (y_mk g_sh s) ∧ ∃ x : Int32, a = [.inr (.inr 67), .inl x]) (fun _ s v s2 => y_ljQ V s v s2) := by
  refine y_C.of (t := g_t244) rfl (by decide) ?_
  rintro d a s hd ⟨hT, x, rfl⟩
  have hpr := y_rng (lo := 2147483648) (hi := 2147483655) (g := 0) hT (o := 65) (k := 48) rfl rfl
  refine y_run 2 rfl ?_
  refine y_if rfl (fun h => ?_) (fun h => ?_)
  · have h2 : (s.1 65 48).toInt ≠ 0 := h
    have ep : (s.1 65 48 - Int32.ofInt 1).toInt = (((s.1 65 48).toInt.toNat - 1 : Nat) : Int) := by
      have : (s.1 65 48 - Int32.ofInt 1).toInt = (s.1 65 48).toInt - 1 := y_sb (x := s.1 65 48) (y := 1) (by show _ ≤ _ - (1 : Int); omega) (by show _ - (1 : Int) ≤ _; omega)
      rw [this]
      omega
    refine y_run 8 rfl ?_
    refine y_ald (o := 83) (sz := 8) (j := (s.1 65 48).toInt.toNat - 1) rfl rfl ep (by omega) y_ndk ?_
    generalize hhad : s.1 83 ((s.1 65 48).toInt.toNat - 1) = had
    refine y_run 3 rfl ?_
    refine y_sub (ls1 := [(0, .inr (.inr 67)), (1, .inl x), (2, .inl (Int32.ofInt 0)), (3, .inl had), (4, .inl (Int32.ofInt 1))]) (show ([0, 1, 2, 3, 4] : List Nat).Nodup by decide) (y_R_cons rfl (y_R_cons rfl (y_R_cons rfl (y_R_cons rfl (y_R_cons rfl y_R_nil))))) ?_
    exact y_lj1 has hfn htr hsails hmiss hlen hfr (s0 := s) (by omega) (by omega) (by omega) hhad.symm 30 s _ _ 1 ⟨hT, y_fr.rf, rfl, fun _ _ _ => rfl⟩ rfl (by omega) (by omega) (by omega)
  · refine y_run 1 rfl ?_
    exact y_iret rfl ⟨hT, y_fr.rf, ⟨_, rfl⟩, fun _ _ => rfl⟩
