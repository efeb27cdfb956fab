/-! by hand: formula of the model -/
abbrev y_foK : List (Nat × Nat) := [(266306, 266308), (266310, 266313), (266321, 266321), (266323, 266324), (266326, 266328), (278592, 278911), (282688, 283007), (294976, 295135)]
abbrev y_eRel (V : w_V) : Prop := w_Ent V g_sh g_ts (218, [w_r 67], [], [], [([], some (w_n 0 0 0), []), ([], some (w_n 1 1 0), [])], 2)
def y_foI (V : w_V) (s0 s : y_H) : Prop := w_T V g_sh (y_mk g_sh s) ∧ y_fr g_sh y_foK s0 s ∧ (s.1 65 24).toInt = 1
def y_foN (U K : Nat) (s : y_H) : Prop := ∃ M P B : Nat, y_FI s M P K U B (B + 1) ∧ B + 1 ≤ U ∧ U ≤ 30 ∧ K ≤ 7 ∧ M + P ≤ 9 * U
/-- the steps are well-formed, if there is no fault -/
def y_wf (s : y_H) : Prop := (s.1 65 2).toInt = 0 → (s.1 65 20).toInt ≤ 60 ∧ ((s.1 65 24).toInt ≠ 0 → ∃ M e : Nat, (s.1 65 17).toInt = (M : Int) ∧ M ≤ 320 ∧ ∃ D, y_ND D s.1 M e)
def y_foQ (V : w_V) (s0 : y_H) (v : Option (q_V Int32)) (s : y_H) : Prop := v = none ∧ y_foI V s0 s ∧ y_wf s
theorem y_fo24 {ms : List (Nat × Nat)} {s s2 : y_H} (hf : y_fr g_sh ms s s2) (hm : w_inm ms 266328 = false) : s2.1 65 24 = s.1 65 24 := hf.at (o := 65) (k := 24) (A := w_n 0 1 0) rfl rfl hm
section FO
variable {V : w_V} {d : Nat} {s0 : y_H}
theorem y_fo_end (htight : y_eTight V) (hwr : y_eWrong V) (hd : 2 ≤ d) {s : y_H} {U K : Nat} {ls : q_U Int32} (hI : y_foI V s0 s) (hN : (s.1 65 2).toInt = 0 → y_foN U K s) (l0 : q_at ls 0 = some (.inr (.inr 67))) : y_W g_sh g_ts d g_t208 (y_foQ V s0) 162 ls [] s := by
  obtain ⟨hT, hf, h24⟩ := id hI
  have bad : ∀ (s2 : y_H) (ls : q_U Int32), y_foI V s0 s2 → (s2.1 65 2).toInt ≠ 0 → q_at ls 0 = some (.inr (.inr 67)) → y_W g_sh g_ts d g_t208 (y_foQ V s0) 181 ls [] s2 := by
    intro s2 ls hI2 hne l0
    refine y_sub (ls1 := [(0, .inr (.inr 67))]) (show ([0] : List Nat).Nodup by decide) (y_R_cons l0 y_R_nil) ?_
    refine y_run 2 rfl ?_
    refine y_if rfl (fun _ => y_vret rfl ⟨rfl, hI2, fun q => absurd q hne⟩) (fun h => absurd hne h)
  refine y_sub (ls1 := [(0, .inr (.inr 67))]) (show ([0] : List Nat).Nodup by decide) (y_R_cons l0 y_R_nil) ?_
  refine y_run 2 rfl ?_
  refine y_if rfl (fun h => bad s _ hI h rfl) (fun h => ?_)
  have h0 : (s.1 65 2).toInt = 0 := Classical.byContradiction fun q => h q
  obtain ⟨M, P, B, hFI, hBU, hU30, hK7, hMP⟩ := hN h0
  have hPB := hFI.2.2.2.2.2.1
  refine y_run 1 rfl ?_
  refine y_call (y_hasBracketF (V := V)) 1 rfl (fun _ _ _ => rfl) (a := [.inr (.inr 67)]) rfl rfl (fun h hR => y_mayV (o := 65) (sz := 85) rfl hR) (by omega) ⟨hT, rfl⟩ (fun v s2 hQ => ?_)
  obtain ⟨rfl, hv⟩ := hQ
  rcases hv with rfl | ⟨rfl, -⟩
  · refine y_if rfl (fun _ => ?_) (fun h => absurd rfl h)
    refine y_run 2 rfl ?_
    refine y_if rfl (fun h => absurd h0 h) (fun _ => ?_)
    refine y_run 2 rfl ?_
    refine y_call (y_closeF (V := V) (l := Int32.ofInt 0) (M := M) (P := P) (K := K) (U := U) (B := B) htight (by omega) (by omega) (by omega)) 1 rfl (fun _ _ _ => rfl) (a := [.inr (.inr 67), .inl ((Int32.ofInt 0))]) rfl rfl (fun h hR => y_mayV (o := 65) (sz := 85) rfl hR) hd ⟨hT, rfl, hFI⟩ (fun v s3 hQ => ?_)
    obtain ⟨rfl, hT3, hf3, -, M2, P2, K2, B2, g1, g2, -⟩ := hQ
    refine y_vret rfl ⟨rfl, ⟨hT3, hf.tr (hf3.mono (by decide +kernel)), by rw [y_fo24 hf3 (by decide +kernel)]; exact h24⟩, fun _ => ⟨g1.2.2.2.2.2.2.2, fun _ => ⟨M2, B2 + 1, g1.1, by omega, g1.2.2.2.2.2.2.1⟩⟩⟩
  · refine y_if rfl (fun h => absurd (show (1 : Int) = 0 from h) (by omega)) (fun _ => ?_)
    refine y_run 2 rfl ?_
    refine y_callW hwr rfl rfl (by omega) hT (show (2 : Int) ≤ 2 by omega) (show (2 : Int) ≤ 5 by omega) (fun s3 hT3 hf3 h1 => ?_)
    exact bad s3 _ ⟨hT3, hf.tr (hf3.mono (by decide +kernel)), by rw [y_fo24 hf3 (by decide +kernel)]; exact h24⟩ (by omega) rfl
theorem y_fo_loop (hword : y_eWord V) (hmay : y_eMayNot V) (hasked : y_eAsked V) (hwr : y_eWrong V) (htight : y_eTight V) (hrel : y_eRel V) (hd : 4 ≤ d) : ∀ (c : Nat) (s : y_H) (U K : Nat), y_foI V s0 s → ((s.1 65 2).toInt = 0 → y_foN U K s ∧ 10 * (30 - U) + K ≤ c) → y_W g_sh g_ts d g_t208 (y_foQ V s0) 35 [(0, .inr (.inr 67)), (1, .inl ((Int32.ofInt 1)))] [] s := by
  have off : ∀ (s : y_H) (U K : Nat) (ls : q_U Int32), y_foI V s0 s → ((s.1 65 2).toInt = 0 → y_foN U K s) → q_at ls 0 = some (.inr (.inr 67)) → y_W g_sh g_ts d g_t208 (y_foQ V s0) 157 ls [] s := by
    intro s U K ls hI hN l0
    refine y_sub (ls1 := [(0, .inr (.inr 67))]) (show ([0] : List Nat).Nodup by decide) (y_R_cons l0 y_R_nil) ?_
    refine y_run 4 rfl ?_
    exact y_if rfl (fun _ => y_fo_end htight hwr (by omega) hI hN rfl) (fun h => absurd rfl h)
  have body : ∀ (s : y_H) (U K : Nat) (P : Prop), y_foI V s0 s → (s.1 65 2).toInt = 0 → y_foN U K s → (∀ (s2 : y_H) (U2 K2 : Nat) (ls : q_U Int32), y_foI V s0 s2 → ((s2.1 65 2).toInt = 0 → y_foN U2 K2 s2 ∧ 10 * (30 - U2) + K2 < 10 * (30 - U) + K) → q_at ls 0 = some (.inr (.inr 67)) → q_at ls 1 = some (.inl (Int32.ofInt 1)) → y_W g_sh g_ts d g_t208 (y_foQ V s0) 159 ls [] s2) → y_W g_sh g_ts d g_t208 (y_foQ V s0) 46 [(0, .inr (.inr 67)), (1, .inl ((Int32.ofInt 1)))] [] s := by
    intro s U K _ hI h0 hN next
    obtain ⟨hT, hf, h24⟩ := id hI
    obtain ⟨M, P, B, hFI, hBU, hU30, hK7, hMP⟩ := id hN
    have hPB := hFI.2.2.2.2.2.1
    refine y_run 1 rfl ?_
    refine y_call (y_signF (V := V) hword) 1 rfl (fun _ _ _ => rfl) (a := [.inr (.inr 67)]) rfl rfl (fun h hR => y_mayV (o := 65) (sz := 85) rfl hR) (by omega) ⟨hT, rfl⟩ (fun v s2 hQ => ?_)
    obtain ⟨rfl, sg, rfl, hsg⟩ := hQ
    -- a sign between two
    have p118 : ∀ ls : q_U Int32, (37 ≤ sg.toInt ∧ sg.toInt ≤ 124) → q_at ls 0 = some (.inr (.inr 67)) → q_at ls 1 = some (.inl (Int32.ofInt 1)) → q_at ls 2 = some (.inl sg) → y_W g_sh g_ts d g_t208 (y_foQ V s0) 118 ls [] s2 := by
      intro ls hs l0 l1 l2
      refine y_sub (ls1 := [(0, .inr (.inr 67)), (1, .inl ((Int32.ofInt 1))), (2, .inl sg)]) (show ([0, 1, 2] : List Nat).Nodup by decide) (y_R_cons l0 (y_R_cons l1 (y_R_cons l2 y_R_nil))) ?_
      refine y_run 2 rfl ?_
      refine y_callR htight 0 rfl (fun _ _ _ => rfl) (a := [.inl sg]) rfl rfl (fun h hR => rfl) (by omega) hT ⟨y_iv (by omega) (by omega), True.intro⟩ (fun tt t0 t1 => ?_)
      refine y_call (y_closeF (V := V) (l := tt) (M := M) (P := P) (K := K) (U := U) (B := B) htight (by omega) (by omega) (by omega)) 1 rfl (fun _ _ _ => rfl) (a := [.inr (.inr 67), .inl tt]) rfl rfl (fun h hR => y_mayV (o := 65) (sz := 85) rfl hR) (by omega) ⟨hT, rfl, hFI⟩ (fun v s3 hQ => ?_)
      obtain ⟨rfl, hT3, hf3, e72, M2, P2, K2, B2, g1, g2, g3, g4, g5, -, -⟩ := hQ
      have hPB2 := g1.2.2.2.2.2.1
      have hp3 := g1.2.1
      have a1 : (s3.1 65 19 + (Int32.ofInt 1)).toInt = (s3.1 65 19).toInt + 1 := y_add (x := s3.1 65 19) (y := 1) (by show _ ≤ _ + (1 : Int); omega) (by show _ + (1 : Int) ≤ _; omega)
      refine y_run 5 rfl ?_
      refine y_ast (o := 72) (sz := 160) (j := P2) rfl rfl hp3 (by omega) y_k72 ?_
      have hT4 := y_Tup (lo := 2147483648) (hi := 2147483903) (g := 0) (x := sg) hT3 (y_t72 (j := P2) (by omega)) y_k72 (y_pkA (sz := 160) (by decide +kernel) (by omega)) (by omega) (by omega)
      have hT5 := y_Tup (lo := 2147483648) (hi := 2147483808) (g := 0) (o := 65) (k := 19) (x := s3.1 65 19 + (Int32.ofInt 1)) hT4 rfl rfl (by decide +kernel) (by omega) (by omega)
      have hf5 : y_fr g_sh y_foK s0 (y_up (y_up s3 72 P2 (.inl sg)) 65 19 (.inl (s3.1 65 19 + (Int32.ofInt 1)))) := ((hf.tr (hf3.mono (by decide +kernel))).up (o := 72) (k := P2) y_k72 (y_msA (sz := 160) (by decide +kernel) (by omega))).up (o := 65) (k := 19) rfl (by decide +kernel)
      have u5 : ∀ o k, ¬ (o = 72 ∧ k = P2) → ¬ (o = 65 ∧ k = 19) → (y_up (y_up s3 72 P2 (.inl sg)) 65 19 (.inl (s3.1 65 19 + (Int32.ofInt 1)))).1 o k = s3.1 o k := fun o k q1 q2 => (y_up_ne q2).trans (y_up_ne q1)
      have v5 : (y_up (y_up s3 72 P2 (.inl sg)) 65 19 (.inl (s3.1 65 19 + (Int32.ofInt 1)))).1 65 19 = s3.1 65 19 + (Int32.ofInt 1) := y_up_self
      have w5 : ∀ i, (y_up (y_up s3 72 P2 (.inl sg)) 65 19 (.inl (s3.1 65 19 + (Int32.ofInt 1)))).1 72 i = if i = P2 then sg else s3.1 72 i := by
        intro i
        refine (y_up_ne (show ¬ (72 = 65 ∧ i = 19) by omega)).trans ?_
        by_cases q : i = P2
        · rw [if_pos q, q]
          exact y_up_self
        · rw [if_neg q]
          exact y_up_ne (by omega)
      refine y_run 7 rfl ?_
      rw [show (y_up s3 72 P2 (.inl sg)).1 65 19 = s3.1 65 19 from y_up_ne (by omega)]
      revert hT5 hf5 u5 v5 w5
      generalize y_up (y_up s3 72 P2 (.inl sg)) 65 19 (.inl (s3.1 65 19 + (Int32.ofInt 1))) = s5
      intro hT5 hf5 u5 v5 w5
      have hb1 : y_bin sg = 1 := if_neg (by omega)
      have hFI5 : y_FI s5 M2 (P2 + 1) K2 U (B2 + 1) (B2 + 1) := y_FI_push (x := sg) g1 (x19 := s3.1 65 19 + (Int32.ofInt 1)) (x23 := s3.1 65 23) (by rw [a1]; omega) g1.2.2.1 (by rw [hb1]) (by omega) (fun i => u5 68 i (by omega) (by omega)) (fun i => u5 69 i (by omega) (by omega)) w5 (u5 65 17 (by omega) (by omega)) v5 (u5 65 20 (by omega) (by omega)) (u5 65 22 (by omega) (by omega)) (u5 65 23 (by omega) (by omega))
      refine y_call (y_token (V := V)) 1 rfl (fun _ _ _ => rfl) (a := [.inr (.inr 67)]) rfl rfl (fun h hR => y_mayV (o := 65) (sz := 85) rfl hR) (by omega) ⟨hT5, rfl⟩ (fun v s6 hQ => ?_)
      obtain ⟨rfl, hT6, hf6, -, -⟩ := hQ
      have hFI6 := y_FI_fr hf6 (by decide +kernel) (by omega) (by omega) hFI5
      refine y_run 1 rfl ?_
      refine y_call (y_unitF (V := V) (U := U) (K := K2) hword hmay hasked hwr) 1 rfl (fun _ _ _ => rfl) (a := [.inr (.inr 67)]) rfl rfl (fun h hR => y_mayV (o := 65) (sz := 85) rfl hR) hd ⟨hT6, rfl, fun _ => ⟨M2, P2 + 1, U, B2 + 1, hFI6, by omega, hU30, by omega, by omega, Nat.le_refl U⟩⟩ (fun v s7 hQ => ?_)
      obtain ⟨rfl, hT7, hf7, hN7⟩ := hQ
      refine y_run 1 rfl ?_
      have e24 : s7.1 65 24 = s2.1 65 24 := ((y_fo24 hf7 (by decide +kernel)).trans (y_fo24 hf6 (by decide +kernel))).trans ((u5 65 24 (by omega) (by omega)).trans (y_fo24 hf3 (by decide +kernel)))
      by_cases q0 : (s7.1 65 2).toInt = 0
      · obtain ⟨M7, P7, K7, U7, B7, n1, n2, n3, n4, n5, n6⟩ := hN7 q0
        exact next s7 U7 K7 _ ⟨hT7, (hf5.tr (hf6.mono (by decide +kernel))).tr (hf7.mono (by decide +kernel)), by rw [e24]; exact h24⟩ (fun _ => ⟨⟨M7, P7, B7, n1, n2, n3, n4, n5⟩, by omega⟩) rfl rfl
      · exact next s7 U K _ ⟨hT7, (hf5.tr (hf6.mono (by decide +kernel))).tr (hf7.mono (by decide +kernel)), by rw [e24]; exact h24⟩ (fun q => absurd q q0) rfl rfl
    have p99 : ∀ ls : q_U Int32, q_at ls 0 = some (.inr (.inr 67)) → q_at ls 1 = some (.inl (Int32.ofInt 1)) → q_at ls 2 = some (.inl sg) → y_W g_sh g_ts d g_t208 (y_foQ V s0) 99 ls [] s2 := by
      intro ls l0 l1 l2
      refine y_sub (ls1 := [(0, .inr (.inr 67)), (1, .inl ((Int32.ofInt 1))), (2, .inl sg)]) (show ([0, 1, 2] : List Nat).Nodup by decide) (y_R_cons l0 (y_R_cons l1 (y_R_cons l2 y_R_nil))) ?_
      refine y_run 1 rfl ?_
      refine y_if rfl (fun _ => off s2 U K _ hI (fun _ => hN) rfl) (fun h => ?_)
      have hs : 37 ≤ sg.toInt ∧ sg.toInt ≤ 124 := by
        rcases hsg with q | q
        · exact absurd q h
        · exact q
      refine y_run 1 rfl ?_
      refine y_callR htight 0 rfl (fun _ _ _ => rfl) (a := [.inl sg]) rfl rfl (fun h hR => rfl) (by omega) hT ⟨y_iv (by omega) (by omega), True.intro⟩ (fun tt t0 t1 => ?_)
      refine y_run 1 rfl ?_
      refine y_ic rfl (fun _ => p118 _ hs rfl rfl rfl) (fun _ => ?_)
      refine y_run 1 rfl ?_
      refine y_callB hrel (Or.inl rfl) 1 rfl (fun _ _ _ => rfl) rfl rfl (fun h hR => y_mayV (o := 65) (sz := 85) rfl hR) (by omega) hT ⟨⟨67, rfl, List.mem_cons_self⟩, True.intro⟩ (fun z hz => ?_) (fun z hz => ?_)
      · exact y_if rfl (fun h => absurd hz h) (fun _ => p118 _ hs rfl rfl rfl)
      · exact y_if rfl (fun _ => off s2 U K _ hI (fun _ => hN) rfl) (fun h => absurd (show z.toInt ≠ 0 by omega) h)
    refine y_run 4 rfl ?_
    refine y_ic rfl (fun _ => p99 _ rfl rfl rfl) (fun _ => ?_)
    refine y_run 1 rfl ?_
    refine y_call (y_hasBracketF (V := V)) 1 rfl (fun _ _ _ => rfl) (a := [.inr (.inr 67)]) rfl rfl (fun h hR => y_mayV (o := 65) (sz := 85) rfl hR) (by omega) ⟨hT, rfl⟩ (fun v s3 hQ => ?_)
    obtain ⟨rfl, hv⟩ := hQ
    rcases hv with rfl | ⟨rfl, kb, kb1, kb2⟩
    · exact y_if rfl (fun _ => p99 _ rfl rfl rfl) (fun h => absurd rfl h)
    · refine y_if rfl (fun h => absurd (show (1 : Int) = 0 from h) (by omega)) (fun _ => ?_)
      have hkb : kb < P := by
        have := hFI.2.1
        omega
      refine y_run 2 rfl ?_
      refine y_call (y_closeF (V := V) (l := Int32.ofInt 0) (M := M) (P := P) (K := K) (U := U) (B := B) htight (by omega) (by omega) (by omega)) 1 rfl (fun _ _ _ => rfl) (a := [.inr (.inr 67), .inl ((Int32.ofInt 0))]) rfl rfl (fun h hR => y_mayV (o := 65) (sz := 85) rfl hR) (by omega) ⟨hT, rfl, hFI⟩ (fun v s4 hQ => ?_)
      obtain ⟨rfl, hT4, hf4, e72, M2, P2, K2, B2, g1, g2, g3, g4, g5, g6, g7⟩ := hQ
      have hkP := g7 kb hkb kb2
      have htop : (s4.1 72 (P2 - 1)).toInt = 20 := by
        rcases g6 (show (0 : Int) ≤ 0 by omega) with q | q
        · omega
        · exact q
      obtain ⟨f1, f2, f3, f4, f5, f6, f7, f8⟩ := id g1
      have hcnt : y_cn (fun k => y_bin (s4.1 72 k)) (P2 - 1) = B2 := by
        have e : y_cn (fun k => y_bin (s4.1 72 k)) (P2 - 1 + 1) = y_cn (fun k => y_bin (s4.1 72 k)) (P2 - 1) + y_bin (s4.1 72 (P2 - 1)) := rfl
        rw [show P2 - 1 + 1 = P2 by omega, f5, show y_bin (s4.1 72 (P2 - 1)) = 0 from if_pos (Or.inl htop)] at e
        omega
      have hcl : y_cn (fun k => y_bin (s4.1 72 k)) (P2 - 1) ≤ P2 - 1 := y_cn_bin _
      have a1 : (s4.1 65 19 - (Int32.ofInt 1)).toInt = ((P2 - 1 : Nat) : Int) := by
        rw [y_sb (x := s4.1 65 19) (y := (Int32.ofInt 1)) (by show _ ≤ _ - (1 : Int); omega) (by show _ - (1 : Int) ≤ _; omega)]
        show _ - (1 : Int) = _
        omega
      have a2 : (s4.1 65 23 - (Int32.ofInt 1)).toInt = ((K2 - 1 : Nat) : Int) := by
        rw [y_sb (x := s4.1 65 23) (y := (Int32.ofInt 1)) (by show _ ≤ _ - (1 : Int); omega) (by show _ - (1 : Int) ≤ _; omega)]
        show _ - (1 : Int) = _
        omega
      have hT5 := y_Tup (lo := 2147483648) (hi := 2147483808) (g := 0) (o := 65) (k := 19) (x := s4.1 65 19 - (Int32.ofInt 1)) hT4 rfl rfl (by decide +kernel) (by omega) (by omega)
      have hT6 := y_Tup (lo := 0) (hi := 4294967295) (g := 0) (o := 65) (k := 23) (x := s4.1 65 23 - (Int32.ofInt 1)) hT5 rfl rfl (by decide +kernel) (by omega) (by omega)
      have hf6 : y_fr g_sh y_foK s0 (y_up (y_up s4 65 19 (.inl (s4.1 65 19 - (Int32.ofInt 1)))) 65 23 (.inl (s4.1 65 23 - (Int32.ofInt 1)))) := ((hf.tr (hf4.mono (by decide +kernel))).up (o := 65) (k := 19) rfl (by decide +kernel)).up (o := 65) (k := 23) rfl (by decide +kernel)
      have u6 : ∀ o k, ¬ (o = 65 ∧ k = 19) → ¬ (o = 65 ∧ k = 23) → (y_up (y_up s4 65 19 (.inl (s4.1 65 19 - (Int32.ofInt 1)))) 65 23 (.inl (s4.1 65 23 - (Int32.ofInt 1)))).1 o k = s4.1 o k := fun o k q1 q2 => (y_up_ne q2).trans (y_up_ne q1)
      have v6 : (y_up (y_up s4 65 19 (.inl (s4.1 65 19 - (Int32.ofInt 1)))) 65 23 (.inl (s4.1 65 23 - (Int32.ofInt 1)))).1 65 19 = s4.1 65 19 - (Int32.ofInt 1) := (y_up_ne (show ¬ (65 = 65 ∧ 19 = 23) by omega)).trans y_up_self
      have w6 : (y_up (y_up s4 65 19 (.inl (s4.1 65 19 - (Int32.ofInt 1)))) 65 23 (.inl (s4.1 65 23 - (Int32.ofInt 1)))).1 65 23 = s4.1 65 23 - (Int32.ofInt 1) := y_up_self
      refine y_run 13 rfl ?_
      rw [show (y_up s4 65 19 (.inl (s4.1 65 19 - (Int32.ofInt 1)))).1 65 23 = s4.1 65 23 from y_up_ne (by omega)]
      revert hT6 hf6 u6 v6 w6
      generalize y_up (y_up s4 65 19 (.inl (s4.1 65 19 - (Int32.ofInt 1)))) 65 23 (.inl (s4.1 65 23 - (Int32.ofInt 1))) = s6
      intro hT6 hf6 u6 v6 w6
      have hFI6 : y_FI s6 M2 (P2 - 1) (K2 - 1) U B2 (B2 + 1) := by
        refine ⟨by rw [u6 65 17 (by omega) (by omega)]; exact f1, by rw [v6]; exact a1, by rw [w6]; exact a2, by rw [u6 65 22 (by omega) (by omega)]; exact f4, ?_, by omega, y_ND_eq (fun i _ => u6 68 i (by omega) (by omega)) (fun i _ => u6 69 i (by omega) (by omega)) f7, by rw [u6 65 20 (by omega) (by omega)]; exact f8⟩
        rw [← hcnt]
        exact y_cn_eq _ (fun i _ => by rw [u6 72 i (by omega) (by omega)])
      refine y_call (y_token (V := V)) 1 rfl (fun _ _ _ => rfl) (a := [.inr (.inr 67)]) rfl rfl (fun h hR => y_mayV (o := 65) (sz := 85) rfl hR) (by omega) ⟨hT6, rfl⟩ (fun v s7 hQ => ?_)
      obtain ⟨rfl, hT7, hf7, -, -⟩ := hQ
      have hFI7 := y_FI_fr hf7 (by decide +kernel) (by omega) (by omega) hFI6
      have e24 : s7.1 65 24 = s3.1 65 24 := (y_fo24 hf7 (by decide +kernel)).trans ((u6 65 24 (by omega) (by omega)).trans (y_fo24 hf4 (by decide +kernel)))
      refine y_run 1 rfl ?_
      exact next s7 U (K2 - 1) _ ⟨hT7, hf6.tr (hf7.mono (by decide +kernel)), by rw [e24]; exact h24⟩ (fun _ => ⟨⟨M2, P2 - 1, B2, hFI7, by omega, hU30, by omega, by omega⟩, by omega⟩) rfl rfl
  intro c
  induction c with
  | zero =>
    intro s U K hI hN
    refine y_run 1 rfl ?_
    refine y_if rfl (fun h => absurd (show (1 : Int) = 0 from h) (by omega)) (fun _ => ?_)
    refine y_run 2 rfl ?_
    refine y_if rfl (fun h => y_fo_end htight hwr (by omega) hI (fun q => (hN q).1) rfl) (fun h => ?_)
    have h0 : (s.1 65 2).toInt = 0 := Classical.byContradiction fun q => h q
    obtain ⟨hN1, hc⟩ := hN h0
    refine body s U K True hI h0 hN1 (fun s2 U2 K2 ls hI2 hN2 l0 l1 => ?_)
    refine y_sub (ls1 := [(0, .inr (.inr 67)), (1, .inl ((Int32.ofInt 1)))]) (show ([0, 1] : List Nat).Nodup by decide) (y_R_cons l0 (y_R_cons l1 y_R_nil)) ?_
    refine y_run 2 rfl ?_
    refine y_if rfl (fun h => absurd (show (1 : Int) = 0 from h) (by omega)) (fun _ => ?_)
    refine y_run 2 rfl ?_
    refine y_if rfl (fun h => y_fo_end htight hwr (by omega) (U := U2) (K := K2) hI2 (fun q => absurd q h) rfl) (fun h => ?_)
    have h02 : (s2.1 65 2).toInt = 0 := Classical.byContradiction fun q => h q
    have := (hN2 h02).2
    omega
  | succ c ih =>
    intro s U K hI hN
    refine y_run 1 rfl ?_
    refine y_if rfl (fun h => absurd (show (1 : Int) = 0 from h) (by omega)) (fun _ => ?_)
    refine y_run 2 rfl ?_
    refine y_if rfl (fun h => y_fo_end htight hwr (by omega) hI (fun q => (hN q).1) rfl) (fun h => ?_)
    have h0 : (s.1 65 2).toInt = 0 := Classical.byContradiction fun q => h q
    obtain ⟨hN1, hc⟩ := hN h0
    refine body s U K True hI h0 hN1 (fun s2 U2 K2 ls hI2 hN2 l0 l1 => ?_)
    refine y_sub (ls1 := [(0, .inr (.inr 67)), (1, .inl ((Int32.ofInt 1)))]) (show ([0, 1] : List Nat).Nodup by decide) (y_R_cons l0 (y_R_cons l1 y_R_nil)) ?_
    refine y_run 1 rfl ?_
    exact ih s2 U2 K2 hI2 (fun q => ⟨(hN2 q).1, by have := (hN2 q).2; omega⟩)
end FO
theorem y_formulaF {V : w_V} (hword : y_eWord V) (hmay : y_eMayNot V) (hasked : y_eAsked V) (hwr : y_eWrong V) (htight : y_eTight V) (hrel : y_eRel V) : y_C g_sh g_ts 208 5 (fun a s => w_T V g_sh (y_mk g_sh s) ∧ a = [.inr (.inr 67)] ∧ (s.1 65 20).toInt ≤ 60) (fun _ s v s2 => y_foQ V s v s2) := by
  refine y_C.of (t := g_t208) rfl (by decide) ?_
  rintro d a s0 hd ⟨hT0, rfl, h60⟩
  refine y_run 1 rfl ?_
  refine y_call (y_token (V := V)) 1 rfl (fun _ _ _ => rfl) (a := [.inr (.inr 67)]) rfl rfl (fun h hR => y_mayV (o := 65) (sz := 85) rfl hR) (by omega) ⟨hT0, rfl⟩ (fun v s hQ => ?_)
  obtain ⟨rfl, hT, hf, -, -⟩ := hQ
  have e20 : s.1 65 20 = s0.1 65 20 := hf.at (o := 65) (k := 20) (A := w_n 0 61 0) rfl rfl (by decide +kernel)
  have hT1 := y_Tup (lo := 2147483648) (hi := 2147483649) (g := 0) (o := 65) (k := 24) (x := Int32.ofInt 1) hT rfl rfl (by decide +kernel) (show _ ≤ (1 : Int) by omega) (show (1 : Int) ≤ _ by omega)
  have hT2 := y_Tup (lo := 2147483648) (hi := 2147483968) (g := 0) (o := 65) (k := 17) (x := Int32.ofInt 0) hT1 rfl rfl (by decide +kernel) (show _ ≤ (0 : Int) by omega) (show (0 : Int) ≤ _ by omega)
  have hT3 := y_Tup (lo := 2147483648) (hi := 2147483808) (g := 0) (o := 65) (k := 19) (x := Int32.ofInt 0) hT2 rfl rfl (by decide +kernel) (show _ ≤ (0 : Int) by omega) (show (0 : Int) ≤ _ by omega)
  have hT4 := y_Tup (lo := 0) (hi := 4294967295) (g := 0) (o := 65) (k := 23) (x := Int32.ofInt 0) hT3 rfl rfl (by decide +kernel) (show _ ≤ (0 : Int) by omega) (show (0 : Int) ≤ _ by omega)
  have hT5 := y_Tup (lo := 2147483648) (hi := 2147483679) (g := 0) (o := 65) (k := 22) (x := Int32.ofInt 0) hT4 rfl rfl (by decide +kernel) (show _ ≤ (0 : Int) by omega) (show (0 : Int) ≤ _ by omega)
  have hf5 : y_fr g_sh y_foK s0 (y_up (y_up (y_up (y_up (y_up s 65 24 (.inl (Int32.ofInt 1))) 65 17 (.inl (Int32.ofInt 0))) 65 19 (.inl (Int32.ofInt 0))) 65 23 (.inl (Int32.ofInt 0))) 65 22 (.inl (Int32.ofInt 0))) := (((((hf.mono (by decide +kernel)).up (o := 65) (k := 24) rfl (by decide +kernel)).up (o := 65) (k := 17) rfl (by decide +kernel)).up (o := 65) (k := 19) rfl (by decide +kernel)).up (o := 65) (k := 23) rfl (by decide +kernel)).up (o := 65) (k := 22) rfl (by decide +kernel)
  have hFI : y_FI (y_up (y_up (y_up (y_up (y_up s 65 24 (.inl (Int32.ofInt 1))) 65 17 (.inl (Int32.ofInt 0))) 65 19 (.inl (Int32.ofInt 0))) 65 23 (.inl (Int32.ofInt 0))) 65 22 (.inl (Int32.ofInt 0))) 0 0 0 0 0 0 := ⟨rfl, rfl, rfl, rfl, rfl, rfl, ⟨fun _ => 0, rfl, rfl, fun i hi => by omega⟩, by show (s.1 65 20).toInt ≤ 60; rw [e20]; exact h60⟩
  have h24 : ((y_up (y_up (y_up (y_up (y_up s 65 24 (.inl (Int32.ofInt 1))) 65 17 (.inl (Int32.ofInt 0))) 65 19 (.inl (Int32.ofInt 0))) 65 23 (.inl (Int32.ofInt 0))) 65 22 (.inl (Int32.ofInt 0))).1 65 24).toInt = 1 := rfl
  refine y_run 16 rfl ?_
  revert hT5 hf5 hFI h24
  generalize y_up (y_up (y_up (y_up (y_up s 65 24 (.inl (Int32.ofInt 1))) 65 17 (.inl (Int32.ofInt 0))) 65 19 (.inl (Int32.ofInt 0))) 65 23 (.inl (Int32.ofInt 0))) 65 22 (.inl (Int32.ofInt 0)) = s5
  intro hT5 hf5 hFI h24
  refine y_call (y_unitF (V := V) (U := 0) (K := 0) hword hmay hasked hwr) 1 rfl (fun _ _ _ => rfl) (a := [.inr (.inr 67)]) rfl rfl (fun h hR => y_mayV (o := 65) (sz := 85) rfl hR) (by omega) ⟨hT5, rfl, fun _ => ⟨0, 0, 0, 0, hFI, by omega, by omega, by omega, by omega, by omega⟩⟩ (fun v s7 hQ => ?_)
  obtain ⟨rfl, hT7, hf7, hN7⟩ := hQ
  have hI7 : y_foI V s0 s7 := ⟨hT7, hf5.tr (hf7.mono (by decide +kernel)), by rw [y_fo24 hf7 (by decide +kernel)]; exact h24⟩
  refine y_run 2 rfl ?_
  refine y_sub (ls1 := [(0, .inr (.inr 67)), (1, .inl ((Int32.ofInt 1)))]) (show ([0, 1] : List Nat).Nodup by decide) (y_R_cons rfl (y_R_cons rfl y_R_nil)) ?_
  by_cases q0 : (s7.1 65 2).toInt = 0
  · obtain ⟨M7, P7, K7, U7, B7, n1, n2, n3, n4, n5, n6⟩ := hN7 q0
    exact y_fo_loop hword hmay hasked hwr htight hrel (by omega) 307 s7 U7 K7 hI7 (fun _ => ⟨⟨M7, P7, B7, n1, n2, n3, n4, n5⟩, by omega⟩)
  · exact y_fo_loop hword hmay hasked hwr htight hrel (by omega) 0 s7 0 0 hI7 (fun q => absurd q q0)
