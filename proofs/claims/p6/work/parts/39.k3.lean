/-! by hand: the model's bestOrder ends -/
abbrev y_boK : List (Nat × Nat) := [(266331, 266333), (266363, 266363), (266366, 266366), (266374, 266374), (299072, 299135), (303168, 303173), (352320, 352347), (356416, 356418), (360512, 360514), (364608, 364615), (368704, 368711), (376896, 376902), (380992, 380998)]
abbrev y_flK : List (Nat × Nat) := [(266331, 266333), (266363, 266363), (266366, 266366), (352320, 352347), (356416, 356418), (360512, 360514), (364608, 364615), (368704, 368711)]
abbrev y_eFill (V : w_V) (M : w_U) : Prop := y_ex g_sh M = true ∧ w_Ent V g_sh g_ts (203, [w_r 67], [], [(266331, 266333), (266363, 266363), (266366, 266366), (352320, 352347), (356416, 356418), (360512, 360514), (364608, 364615), (368704, 368711)], [([], none, M)], 2)
abbrev y_eCount (V : w_V) : Prop := w_Ent V g_sh g_ts (189, [w_r 67], [], [(266366, 266366), (299072, 299135), (303168, 303173), (352320, 352326), (352328, 352336), (352338, 352343), (352345, 352346), (356416, 356418), (360512, 360514), (364608, 364615), (368704, 368711)], [([], some (w_n 0 8 0), [])], 7)
abbrev y_eLove (V : w_V) : Prop := w_Ent V g_sh g_ts (256, [w_r 67], [], [(266366, 266366), (299072, 299135), (303168, 303173), (352320, 352326), (352328, 352336), (352338, 352343), (352345, 352346), (356416, 356418), (360512, 360514), (364608, 364615), (368704, 368711)], [([], some (w_t 0), [])], 7)
abbrev y_eQueued (V : w_V) : Prop := w_Ent V g_sh g_ts (235, [w_r 67, w_n 0 6 0], [], [], [([], some (w_n 0 0 0), []), ([], some (w_n 1 1 0), [])], 3)
/-- the row is as it was -/
def y_sr (s s2 : y_H) : Prop := ∀ i, i < 7 → s2.1 93 i = s.1 93 i
theorem y_sr_of {ms : List (Nat × Nat)} {s s2 : y_H} (h : w_ovl ms (w_key 93 0) (w_key 93 6) = false) (hf : y_fr g_sh ms s s2) : y_sr s s2 := fun i hi => hf.at (o := 93) (k := i) (y_rwt hi) y_rwk (w_ovl_no h (w_key_le (Nat.zero_le i)) (w_key_le (by omega)))
theorem y_dst_sr {s s2 : y_H} {N : Nat} (h : y_sr s s2) (hN : N ≤ 7) (hD : y_dst (fun i => s.1 93 i) N) : y_dst (fun i => s2.1 93 i) N := by
  intro i j hi hj e
  have e2 : s2.1 93 i = s2.1 93 j := e
  rw [h i (by omega), h j (by omega)] at e2
  exact hD i j hi hj e2
theorem y_nm_sr {s s2 : y_H} {N : Nat} (h : y_sr s s2) (hN : N ≤ 7) : y_nm (fun i => s2.1 93 i) N = y_nm (fun i => s.1 93 i) N := y_nm_eq N (fun i hi => h i (by omega))
theorem y_boAir : ∀ j, j < 28 → w_inm y_boK (w_key 86 j) = true := by decide +kernel
theorem y_lik {j : Nat} : y_kd g_sh 92 j = 0 := y_kdA (tag := 100) (sz := 7) (a := ((2147483648, 2147483654), 0)) rfl
/-- what is kept -/
def y_boI (V : w_V) (s0 s : y_H) : Prop := w_T V g_sh (y_mk g_sh s) ∧ y_fr g_sh y_boK s0 s
section BO
variable {V : w_V} {d : Nat} {N : Nat} {w n0 : Int32} {s0 : y_H} {Q : Option (q_V Int32) → y_H → Prop}
/-- who queues, by numbers -/
theorem y_bo1 (hq : y_eQueued V) (hd : 3 ≤ d) (hexit : ∀ (s : y_H) (m : Int32) (M : Nat) (ls : q_U Int32), y_boI V s0 s → m.toInt = (M : Int) → M ≤ 7 → y_dst (fun i => s.1 93 i) M → q_at ls 0 = some (.inr (.inr 67)) → q_at ls 1 = some (.inl w) → q_at ls 2 = some (.inl m) → y_W g_sh g_ts d g_t183 Q 39 ls [] s) : ∀ (n : Nat) (s : y_H) (m p : Int32) (M P : Nat), y_boI V s0 s → m.toInt = (M : Int) → p.toInt = (P : Int) → M ≤ P → P ≤ 7 → 7 - P ≤ n → (∀ i, i < M → (s.1 93 i).toInt < (P : Int)) → y_dst (fun i => s.1 93 i) M → y_W g_sh g_ts d g_t183 Q 4 [(0, .inr (.inr 67)), (1, .inl w), (2, .inl m), (3, .inl p)] [] s := by
  intro n
  induction n with
  | zero =>
    intro s m p M P hI hm hp hMP hP hn hlt hD
    have hpr := y_rng (lo := 2147483648) (hi := 2147483655) (g := 0) hI.1 (o := 65) (k := 48) rfl rfl
    refine y_run 3 rfl ?_
    refine y_ic rfl (fun _ => hexit s m M _ hI hm (by omega) hD rfl rfl rfl) (fun h => ?_)
    have h2 : ¬ (s.1 65 48).toInt ≤ p.toInt := h
    omega
  | succ n ih =>
    intro s m p M P hI hm hp hMP hP hn hlt hD
    have hpr := y_rng (lo := 2147483648) (hi := 2147483655) (g := 0) hI.1 (o := 65) (k := 48) rfl rfl
    refine y_run 3 rfl ?_
    refine y_ic rfl (fun _ => hexit s m M _ hI hm (by omega) hD rfl rfl rfl) (fun h => ?_)
    have h2 : ¬ (s.1 65 48).toInt ≤ p.toInt := h
    have hp1 : (p + Int32.ofInt 1).toInt = p.toInt + 1 := y_add (x := p) (y := 1) (by show _ ≤ _ + (1 : Int); omega) (by show _ + (1 : Int) ≤ _; omega)
    have hm1 : (m + Int32.ofInt 1).toInt = m.toInt + 1 := y_add (x := m) (y := 1) (by show _ ≤ _ + (1 : Int); omega) (by show _ + (1 : Int) ≤ _; omega)
    have next : ∀ (s2 : y_H) (m2 : Int32) (M2 : Nat) (ls : q_U Int32), y_boI V s0 s2 → m2.toInt = (M2 : Int) → M2 ≤ P + 1 → (∀ i, i < M2 → (s2.1 93 i).toInt < ((P + 1 : Nat) : Int)) → y_dst (fun i => s2.1 93 i) M2 → q_at ls 0 = some (.inr (.inr 67)) → q_at ls 1 = some (.inl w) → q_at ls 2 = some (.inl m2) → q_at ls 3 = some (.inl p) → y_W g_sh g_ts d g_t183 Q 33 ls [] s2 := by
      intro s2 m2 M2 ls hI2 hm2 hM2 hl2 hD2 l0 l1 l2 l3
      refine y_sub (ls1 := [(0, .inr (.inr 67)), (1, .inl w), (2, .inl m2), (3, .inl p)]) (show ([0, 1, 2, 3] : List Nat).Nodup by decide) (y_R_cons l0 (y_R_cons l1 (y_R_cons l2 (y_R_cons l3 y_R_nil)))) ?_
      refine y_run 2 rfl ?_
      refine y_sub (ls1 := [(0, .inr (.inr 67)), (1, .inl w), (2, .inl m2), (3, .inl (p + Int32.ofInt 1))]) (show ([0, 1, 2, 3] : List Nat).Nodup by decide) (y_R_cons rfl (y_R_cons rfl (y_R_cons rfl (y_R_cons rfl y_R_nil)))) ?_
      exact ih s2 m2 _ M2 (P + 1) hI2 hm2 (by rw [hp1, hp]; omega) hM2 (by omega) (by omega) hl2 hD2
    refine y_run 2 rfl ?_
    refine y_callE hq rfl 1 rfl (fun _ _ _ => rfl) (a := [.inr (.inr 67), .inl p]) rfl rfl (fun h hR => y_mayV (o := 65) (sz := 85) rfl hR) hd hI.1 ⟨⟨67, rfl, List.mem_cons_self⟩, y_iv (by omega) (by omega), True.intro⟩ (fun v hv => ?_)
    obtain ⟨q, hq2, ho⟩ := hv
    have eq : q = ([], some (w_n 0 0 0), []) ∨ q = ([], some (w_n 1 1 0), []) := by simpa using hq2
    rcases eq with rfl | rfl
    · obtain ⟨z, rfl, z1, z2⟩ := y_ans ho
      refine y_if rfl (fun h => absurd (show z.toInt = 0 by omega) h) (fun _ => ?_)
      refine y_run 1 rfl ?_
      exact next s m M _ hI hm (by omega) (fun i hi => by have := hlt i hi; omega) hD rfl rfl rfl rfl
    · obtain ⟨z, rfl, z1, z2⟩ := y_ans ho
      refine y_if rfl (fun _ => ?_) (fun h => absurd (show z.toInt ≠ 0 by omega) h)
      refine y_run 4 rfl ?_
      refine y_ast93 (j := M) rfl hm (by omega) ?_
      refine y_run 1 rfl ?_
      refine next _ (m + Int32.ofInt 1) (M + 1) _ ⟨y_rwUp hI.1 (by omega) (by omega) (by omega), hI.2.up (o := 93) (k := M) (v := .inl p) y_rwk (y_msA (sz := 7) (by decide +kernel) (by omega))⟩ (by rw [hm1, hm]; omega) (by omega) (fun i hi => ?_) ?_ rfl rfl rfl rfl
      · by_cases e : i = M
        · subst e
          rw [y_up_self]
          omega
        · rw [y_up_ne (by omega)]
          have := hlt i (by omega)
          omega
      · intro i j hi hj e
        have e2 : (y_up s 93 M (.inl p)).1 93 i = (y_up s 93 M (.inl p)).1 93 j := e
        by_cases c1 : i = M
        · by_cases c2 : j = M
          · omega
          · rw [c1, y_up_self, y_up_ne (by omega)] at e2
            have := hlt j (by omega)
            rw [← e2] at this
            omega
        · by_cases c2 : j = M
          · rw [c2, y_up_self, y_up_ne (by omega)] at e2
            have := hlt i (by omega)
            rw [e2] at this
            omega
          · rw [y_up_ne (by omega), y_up_ne (by omega)] at e2
            exact hD i j (by omega) (by omega) e2
/-- the row into the queue -/
theorem y_bo2 (hN : N ≤ 7) (hn0 : n0.toInt = (N : Int)) {best : Int32} {sb : y_H} (hexit : ∀ (s : y_H) (ls : q_U Int32), y_boI V s0 s → y_sr sb s → q_at ls 0 = some (.inr (.inr 67)) → q_at ls 1 = some (.inl w) → q_at ls 2 = some (.inl n0) → q_at ls 3 = some (.inl best) → y_W g_sh g_ts d g_t183 Q 82 ls [] s) : ∀ (n : Nat) (s : y_H) (k : Int32) (K : Nat), y_boI V s0 s → y_sr sb s → k.toInt = (K : Int) → K ≤ N → N - K ≤ n → y_W g_sh g_ts d g_t183 Q 56 [(0, .inr (.inr 67)), (1, .inl w), (2, .inl n0), (3, .inl best), (5, .inl k)] [] s := by
  intro n
  induction n with
  | zero =>
    intro s k K hI hS hk hK hn
    refine y_run 2 rfl ?_
    refine y_ic rfl (fun _ => hexit s _ hI hS rfl rfl rfl rfl) (fun h => ?_)
    have h2 : ¬ n0.toInt ≤ k.toInt := h
    omega
  | succ n ih =>
    intro s k K hI hS hk hK hn
    refine y_run 2 rfl ?_
    refine y_ic rfl (fun _ => hexit s _ hI hS rfl rfl rfl rfl) (fun h => ?_)
    have h2 : ¬ n0.toInt ≤ k.toInt := h
    have hk1 : (k + Int32.ofInt 1).toInt = k.toInt + 1 := y_add (x := k) (y := 1) (by show _ ≤ _ + (1 : Int); omega) (by show _ + (1 : Int) ≤ _; omega)
    have hr := y_rwr hI.1 (j := K) (by omega)
    refine y_run 6 rfl ?_
    refine y_ald93 (j := K) rfl hk (by omega) ?_
    refine y_ast86 (lo := 2147483648) (hi := 2147483655) hI.1 rfl (j := K) hk (by omega) (y_airq K (by omega)) (by omega) (by omega) (fun hT2 => ?_)
    refine y_run 2 rfl ?_
    refine y_sub (ls1 := [(0, .inr (.inr 67)), (1, .inl w), (2, .inl n0), (3, .inl best), (5, .inl (k + Int32.ofInt 1))]) (show ([0, 1, 2, 3, 5] : List Nat).Nodup by decide) (y_R_cons rfl (y_R_cons rfl (y_R_cons rfl (y_R_cons rfl (y_R_cons rfl y_R_nil))))) ?_
    exact ih _ _ (K + 1) ⟨hT2, hI.2.up (o := 86) (k := K) (v := .inl (s.1 93 K)) (y_airk _ (by omega)) (y_boAir K (by omega))⟩ (fun i hi => by rw [y_up_ne (by omega)]; exact hS i hi) (by rw [hk1, hk]; omega) (by omega) (by omega)
/-- the row lies -/
theorem y_bo3 (hN : N ≤ 7) (hn0 : n0.toInt = (N : Int)) {best : Int32} {sb : y_H} (hexit : ∀ (s : y_H) (ls : q_U Int32), y_boI V s0 s → y_sr sb s → q_at ls 0 = some (.inr (.inr 67)) → q_at ls 1 = some (.inl w) → q_at ls 2 = some (.inl n0) → q_at ls 3 = some (.inl best) → y_W g_sh g_ts d g_t183 Q 137 ls [] s) : ∀ (n : Nat) (s : y_H) (k : Int32) (K : Nat), y_boI V s0 s → y_sr sb s → k.toInt = (K : Int) → K ≤ N → N - K ≤ n → y_W g_sh g_ts d g_t183 Q 111 [(0, .inr (.inr 67)), (1, .inl w), (2, .inl n0), (3, .inl best), (6, .inl k)] [] s := by
  intro n
  induction n with
  | zero =>
    intro s k K hI hS hk hK hn
    refine y_run 2 rfl ?_
    refine y_ic rfl (fun _ => hexit s _ hI hS rfl rfl rfl rfl) (fun h => ?_)
    have h2 : ¬ n0.toInt ≤ k.toInt := h
    omega
  | succ n ih =>
    intro s k K hI hS hk hK hn
    refine y_run 2 rfl ?_
    refine y_ic rfl (fun _ => hexit s _ hI hS rfl rfl rfl rfl) (fun h => ?_)
    have h2 : ¬ n0.toInt ≤ k.toInt := h
    have hk1 : (k + Int32.ofInt 1).toInt = k.toInt + 1 := y_add (x := k) (y := 1) (by show _ ≤ _ + (1 : Int); omega) (by show _ + (1 : Int) ≤ _; omega)
    have hr := y_rwr hI.1 (j := K) (by omega)
    refine y_run 6 rfl ?_
    refine y_ald93 (j := K) rfl hk (by omega) ?_
    refine y_ast (o := 92) (sz := 7) (j := K) rfl rfl hk (by omega) y_lik ?_
    have hT2 := y_Tup (lo := 2147483648) (hi := 2147483654) (g := 0) (x := s.1 93 K) hI.1 (y_tyA (o := 92) (tag := 100) (sz := 7) (k := K) (A := .inl ((2147483648, 2147483654), 0)) rfl (by omega)) y_lik (y_pkA (sz := 7) (by decide +kernel) (by omega)) (by omega) (by omega)
    refine y_run 2 rfl ?_
    refine y_sub (ls1 := [(0, .inr (.inr 67)), (1, .inl w), (2, .inl n0), (3, .inl best), (6, .inl (k + Int32.ofInt 1))]) (show ([0, 1, 2, 3, 6] : List Nat).Nodup by decide) (y_R_cons rfl (y_R_cons rfl (y_R_cons rfl (y_R_cons rfl (y_R_cons rfl y_R_nil))))) ?_
    exact ih _ _ (K + 1) ⟨hT2, hI.2.up (o := 92) (k := K) (v := .inl (s.1 93 K)) y_lik (y_msA (sz := 7) (by decide +kernel) (by omega))⟩ (fun i hi => by rw [y_up_ne (by omega)]; exact hS i hi) (by rw [hk1, hk]; omega) (by omega) (by omega)
/-- all orders, one after the other -/
theorem y_bo4 {FM : w_U} (hfill : y_eFill V FM) (hcount : y_eCount V) (hlove : y_eLove V) (hd : 7 ≤ d) (hN : N ≤ 7) (hn0 : n0.toInt = (N : Int)) (hexit : ∀ (s : y_H) (best : Int32), y_boI V s0 s → Q (some (.inl best)) s) : ∀ (n : Nat) (s : y_H) (best g : Int32), y_boI V s0 s → (g = 0 ∨ (g = 1 ∧ y_dst (fun i => s.1 93 i) N ∧ 8 ^ N ≤ y_nm (fun i => s.1 93 i) N + n)) → y_W g_sh g_ts d g_t183 Q 44 [(0, .inr (.inr 67)), (1, .inl w), (2, .inl n0), (3, .inl best), (4, .inl g)] [] s := by
  have out : ∀ (s : y_H) (best : Int32), y_boI V s0 s → y_W g_sh g_ts d g_t183 Q 44 [(0, .inr (.inr 67)), (1, .inl w), (2, .inl n0), (3, .inl best), (4, .inl 0)] [] s := by
    intro s best hI
    refine y_run 1 rfl ?_
    refine y_if rfl (fun _ => ?_) (fun h => absurd rfl h)
    refine y_run 4 rfl ?_
    refine y_iret rfl (hexit _ best ⟨y_Tup (lo := 2147483648) (hi := 2147483655) (g := 0) hI.1 (o := 65) (k := 70) (x := n0) rfl rfl (by decide +kernel) (by omega) (by omega), hI.2.up rfl (by decide +kernel)⟩)
  intro n
  induction n with
  | zero =>
    intro s best g hI hg
    rcases hg with rfl | ⟨rfl, hD, hm⟩
    · exact out s best hI
    · have hb := y_nm_b (f := fun i => s.1 93 i) N (fun i hi => by
        have := y_rwr hI.1 (j := i) (by omega)
        exact ⟨this.1, by omega⟩)
      omega
  | succ n ih =>
    intro s best g hI hg
    rcases hg with rfl | ⟨rfl, hD, hm⟩
    · exact out s best hI
    -- behind the counting
    have p137 : ∀ (s2 : y_H) (best2 : Int32) (ls : q_U Int32), y_boI V s0 s2 → y_sr s s2 → q_at ls 0 = some (.inr (.inr 67)) → q_at ls 1 = some (.inl w) → q_at ls 2 = some (.inl n0) → q_at ls 3 = some (.inl best2) → y_W g_sh g_ts d g_t183 Q 137 ls [] s2 := by
      intro s2 best2 ls hI2 hS l0 l1 l2 l3
      refine y_sub (ls1 := [(0, .inr (.inr 67)), (1, .inl w), (2, .inl n0), (3, .inl best2)]) (show ([0, 1, 2, 3] : List Nat).Nodup by decide) (y_R_cons l0 (y_R_cons l1 (y_R_cons l2 (y_R_cons l3 y_R_nil)))) ?_
      refine y_run 2 rfl ?_
      refine y_call (y_nextRow (V := V)) 1 rfl (fun _ _ _ => rfl) (a := [.inr (.inr 67), .inl n0]) rfl rfl (fun h hR => y_mayV (o := 65) (sz := 85) rfl hR) (by omega) ⟨hI2.1, n0, N, rfl, hn0, hN, y_dst_sr hS hN hD⟩ (fun v s3 hQ => ?_)
      obtain ⟨hT3, hf3, hv⟩ := hQ n0 N rfl hn0
      have hI3 : y_boI V s0 s3 := ⟨hT3, hI2.2.tr (hf3.mono (by decide +kernel))⟩
      rcases hv with rfl | ⟨rfl, hD3, hlt⟩
      · refine y_run 2 rfl ?_
        refine y_sub (ls1 := [(0, .inr (.inr 67)), (1, .inl w), (2, .inl n0), (3, .inl best2), (4, .inl 0)]) (show ([0, 1, 2, 3, 4] : List Nat).Nodup by decide) (y_R_cons rfl (y_R_cons rfl (y_R_cons rfl (y_R_cons rfl (y_R_cons rfl y_R_nil))))) ?_
        exact ih s3 best2 0 hI3 (Or.inl rfl)
      · refine y_run 2 rfl ?_
        refine y_sub (ls1 := [(0, .inr (.inr 67)), (1, .inl w), (2, .inl n0), (3, .inl best2), (4, .inl 1)]) (show ([0, 1, 2, 3, 4] : List Nat).Nodup by decide) (y_R_cons rfl (y_R_cons rfl (y_R_cons rfl (y_R_cons rfl (y_R_cons rfl y_R_nil))))) ?_
        refine ih s3 best2 1 hI3 (Or.inr ⟨rfl, hD3, ?_⟩)
        rw [y_nm_sr hS hN] at hlt
        omega
    have p97 : ∀ (s2 : y_H) (own : Int32) (ls : q_U Int32), y_boI V s0 s2 → y_sr s s2 → q_at ls 0 = some (.inr (.inr 67)) → q_at ls 1 = some (.inl w) → q_at ls 2 = some (.inl n0) → q_at ls 3 = some (.inl best) → y_W g_sh g_ts d g_t183 Q 97 ls [.inl own] s2 := by
      intro s2 own ls hI2 hS l0 l1 l2 l3
      refine y_sub (ls1 := [(0, .inr (.inr 67)), (1, .inl w), (2, .inl n0), (3, .inl best)]) (show ([0, 1, 2, 3] : List Nat).Nodup by decide) (y_R_cons l0 (y_R_cons l1 (y_R_cons l2 (y_R_cons l3 y_R_nil)))) ?_
      refine y_run 3 rfl ?_
      refine y_ic rfl (fun _ => p137 s2 best _ hI2 hS rfl rfl rfl rfl) (fun _ => ?_)
      refine y_run 4 rfl ?_
      refine y_sub (ls1 := [(0, .inr (.inr 67)), (1, .inl w), (2, .inl n0), (3, .inl own), (6, .inl (Int32.ofInt 0))]) (show ([0, 1, 2, 3, 6] : List Nat).Nodup by decide) (y_R_cons rfl (y_R_cons rfl (y_R_cons rfl (y_R_cons rfl (y_R_cons rfl y_R_nil))))) ?_
      exact y_bo3 hN hn0 (sb := s) (fun s3 ls hI3 hS3 l0 l1 l2 l3 => p137 s3 own ls hI3 hS3 l0 l1 l2 l3) 7 s2 _ 0 hI2 hS rfl (by omega) (by omega)
    refine y_run 1 rfl ?_
    refine y_if rfl (fun h => absurd (show (1 : Int) = 0 from h) (by omega)) (fun _ => ?_)
    refine y_run 1 rfl ?_
    refine y_callM hfill.2 (by rw [List.all_eq_true]; intro q hq; have e : q = ([], none, FM) := by simpa using hq
                               rw [e]; exact hfill.1) 1 rfl (fun _ _ _ => rfl) (a := [.inr (.inr 67)]) rfl rfl (fun h hR => y_mayV (o := 65) (sz := 85) rfl hR) (by omega) hI.1 ⟨⟨67, rfl, List.mem_cons_self⟩, True.intro⟩ (fun v s2 hT2 hf2 hv => ?_)
    obtain ⟨q, hq, ho⟩ := hv
    have eq : q = ([], none, FM) := by simpa using hq
    subst eq
    have ev := y_ansV ho
    subst ev
    have hI2 : y_boI V s0 s2 := ⟨hT2, hI.2.tr (hf2.mono (by decide +kernel))⟩
    have hS2 : y_sr s s2 := y_sr_of (by decide +kernel) hf2
    refine y_run 2 rfl ?_
    refine y_sub (ls1 := [(0, .inr (.inr 67)), (1, .inl w), (2, .inl n0), (3, .inl best), (5, .inl (Int32.ofInt 0))]) (show ([0, 1, 2, 3, 5] : List Nat).Nodup by decide) (y_R_cons rfl (y_R_cons rfl (y_R_cons rfl (y_R_cons rfl (y_R_cons rfl y_R_nil))))) ?_
    refine y_bo2 hN hn0 (sb := s) (fun s3 ls hI3 hS3 l0 l1 l2 l3 => ?_) 7 s2 _ 0 hI2 hS2 rfl (by omega) (by omega)
    refine y_sub (ls1 := [(0, .inr (.inr 67)), (1, .inl w), (2, .inl n0), (3, .inl best)]) (show ([0, 1, 2, 3] : List Nat).Nodup by decide) (y_R_cons l0 (y_R_cons l1 (y_R_cons l2 (y_R_cons l3 y_R_nil)))) ?_
    refine y_run 1 rfl ?_
    refine y_if rfl (fun _ => ?_) (fun _ => ?_)
    · refine y_run 1 rfl ?_
      refine y_callM hlove (by decide +kernel) 1 rfl (fun _ _ _ => rfl) (a := [.inr (.inr 67)]) rfl rfl (fun h hR => y_mayV (o := 65) (sz := 85) rfl hR) hd hI3.1 ⟨⟨67, rfl, List.mem_cons_self⟩, True.intro⟩ (fun v s4 hT4 hf4 hv => ?_)
      obtain ⟨q, hq, ho⟩ := hv
      have eq : q = ([], some (w_t 0), []) := by simpa using hq
      subst eq
      obtain ⟨z, rfl, -, -⟩ := y_ans ho
      exact p97 s4 z _ ⟨hT4, hI3.2.tr (hf4.mono (by decide +kernel))⟩ (fun i hi => (y_sr_of (by decide +kernel) hf4 i hi).trans (hS3 i hi)) rfl rfl rfl rfl
    · refine y_run 1 rfl ?_
      refine y_callM hcount (by decide +kernel) 1 rfl (fun _ _ _ => rfl) (a := [.inr (.inr 67)]) rfl rfl (fun h hR => y_mayV (o := 65) (sz := 85) rfl hR) hd hI3.1 ⟨⟨67, rfl, List.mem_cons_self⟩, True.intro⟩ (fun v s4 hT4 hf4 hv => ?_)
      obtain ⟨q, hq, ho⟩ := hv
      have eq : q = ([], some (w_n 0 8 0), []) := by simpa using hq
      subst eq
      obtain ⟨z, rfl, -, -⟩ := y_ans ho
      refine y_run 1 rfl ?_
      exact p97 s4 z _ ⟨hT4, hI3.2.tr (hf4.mono (by decide +kernel))⟩ (fun i hi => (y_sr_of (by decide +kernel) hf4 i hi).trans (hS3 i hi)) rfl rfl rfl rfl
end BO
theorem y_bestOrderE {V : w_V} {FM : w_U} (hfill : y_eFill V FM) (hq : y_eQueued V) (hcount : y_eCount V) (hlove : y_eLove V) : w_Ent V g_sh g_ts (183, [w_r 67, w_n 0 1 0], [], [(266331, 266333), (266363, 266363), (266366, 266366), (266374, 266374), (299072, 299135), (303168, 303173), (352320, 352347), (356416, 356418), (360512, 360514), (364608, 364615), (368704, 368711), (376896, 376902), (380992, 380998)], [([], some (w_t 0), [])], 8) := by
  refine y_C.toE g_shok g_pkok rfl ?_
  refine y_C.of (t := g_t183) rfl (by decide) ?_
  rintro d a s0 hd ⟨hT, ha, -⟩
  rcases a with _ | ⟨v1, _ | ⟨v2, _ | ⟨v3, a⟩⟩⟩
  · exact ha.elim
  · exact ha.2.elim
  · obtain ⟨⟨n, rfl, hn⟩, ⟨w, rfl, -, -⟩, -⟩ := ha
    have hn2 : n = 67 := by simpa using hn
    subst hn2
    have hd2 : 7 ≤ d := by
      have : 8 ≤ d + 1 := hd
      omega
    refine y_run 4 rfl ?_
    refine y_sub (ls1 := [(0, .inr (.inr 67)), (1, .inl w), (2, .inl (Int32.ofInt 0)), (3, .inl (Int32.ofInt 0))]) (show ([0, 1, 2, 3] : List Nat).Nodup by decide) (y_R_cons rfl (y_R_cons rfl (y_R_cons rfl (y_R_cons rfl y_R_nil)))) ?_
    refine y_bo1 hq (s0 := s0) (by omega) (fun s m M ls hI hm hM hD l0 l1 l2 => ?_) 7 s0 _ _ 0 0 ⟨hT, y_fr.rf⟩ rfl rfl (by omega) (by omega) (by omega) (fun i hi => by omega) (fun i j hi => by omega)
    refine y_sub (ls1 := [(0, .inr (.inr 67)), (1, .inl w), (2, .inl m)]) (show ([0, 1, 2] : List Nat).Nodup by decide) (y_R_cons l0 (y_R_cons l1 (y_R_cons l2 y_R_nil))) ?_
    refine y_run 4 rfl ?_
    refine y_sub (ls1 := [(0, .inr (.inr 67)), (1, .inl w), (2, .inl m), (3, .inl (Int32.ofInt (-1))), (4, .inl 1)]) (show ([0, 1, 2, 3, 4] : List Nat).Nodup by decide) (y_R_cons rfl (y_R_cons rfl (y_R_cons rfl (y_R_cons rfl (y_R_cons rfl y_R_nil))))) ?_
    refine y_bo4 hfill hcount hlove hd2 hM hm (s0 := s0) (fun s2 best hI2 => ?_) (8 ^ M) s _ 1 hI (Or.inr ⟨rfl, hD, by omega⟩)
    exact ⟨hI2.1, hI2.2, _, List.mem_cons_self, (fun z hz => by cases hz), y_ivall, (fun q hq => by cases hq)⟩
  · exact ha.2.2.elim
