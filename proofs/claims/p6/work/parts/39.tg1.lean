/-! QUAY BY CONTRACT, WITH ITS ANSWER (printed by wip/gen/zq.py) -/
theorem z_callM {V : w_V} {d : Nat} {t : q_T} {Q0 : Option (q_V Int32) → y_H → Prop} {p : Nat} {ls : q_U Int32} {st st2 a : List (q_V Int32)} {s : y_H} {k D na ml len : Nat} {x : List Nat} {ins : Jvm.ClassFile.Instr} {as : List w_A} {ms : List (Nat × Nat)} {outs : List (List (Nat × q_J) × Option w_A × w_U)} (hk : u_ok k = true) (hE : w_Ent V g_sh g_ts (k, as, [], ms, outs, D)) (hx : outs.all (fun q => y_ex g_sh q.2.2) = true) (sv : Nat) (hq : q_get t p = some (ins, len, k :: na :: ml :: x)) (hins : ∀ cal h ns, q_act q_O32 none cal ins len (k :: na :: ml :: x) (p, ls, st) h ns = q_inv cal sv (k :: na :: ml :: x) len (p, ls, st) h ns) (htk : q_take na st [] = some (a, st2)) (hc : (Nat.ble (q_cats st2) 8 && Nat.ble (q_cats a) ml) = true) (hm : ∀ h, w_Rep g_sh h (y_mk g_sh s) → q_may sv x a h = true) (hd : D ≤ d) (hT : w_T V g_sh (y_mk g_sh s)) (ha : w_sts [] (y_mk g_sh s) (as.map w_kz) a) (hw : ∀ v s2, w_T V g_sh (y_mk g_sh s2) → y_fr g_sh ms s s2 → (∃ q ∈ outs, w_out a (y_mk g_sh s2) q v) → (∃ t, u_c k a (uP s) = some (v, t) ∧ zA t s2) → y_W g_sh g_ts d t Q0 (p + len) ls (v.toList ++ st2) s2) : y_W g_sh g_ts d t Q0 p ls st s := by
  have hxE : y_exE g_sh (k, as, [], ms, outs, D) = true := by
    unfold y_exE
    rw [Bool.and_eq_true]
    exact ⟨rfl, hx⟩
  refine y_call (y_C.u hk (y_C.ofE g_shok g_pkok hxE hE)) sv hq hins htk hc hm hd ⟨hT, ha, fun q hq => by cases hq⟩ (fun v s2 hQ => ?_)
  exact hw v s2 hQ.1.1 hQ.1.2.1 hQ.1.2.2 hQ.2
def z_quQ (R : Nat) (s : y_H) (v : Option (q_V Int32)) (s2 : y_H) : Prop := y_quQ s v s2 ∧ ∃ (x1 : Int32) (tq : u_H), u_c 115 [.inr (.inr 29), .inr (.inr R)] (uP s) = some (some (.inl x1), tq) ∧ v = some (.inl (if x1 = 0 then Int32.ofInt (-1) else tq.1 (R - 2) 4)) ∧ s2.1 27 8 = tq.1 27 8 ∧ s2.1 27 9 = tq.1 27 9
theorem z_quay5 {n : Nat} {Kr : List (Nat × Nat)} {M0 M1 : w_U} {Ks : Nat → List (Nat × Nat)} {Ms : Nat → w_U} (hrd : y_eRdI (y_Vn n) 17 Kr y_rdK17 M0 M1) (hsr : ∀ m, y_eSiR (y_Vn m) 17 (Ks m) y_srK17 (Ms m)) {d : Nat} {s : y_H} (hd : 72 ≤ d) (hT : w_T (y_Vn n) g_sh (y_mk g_sh s)) (hr2 : s.2.2 0 2 = 5) (hr3 : s.2.2 0 3 = 17) (hn : (s.1 3 4).toInt = (n : Int)) : y_W g_sh g_ts d g_t57 (z_quQ 17 s) 0 [(0, .inr (.inr 2))] [] s := by
  obtain ⟨i1, i2, hE⟩ := hrd
  refine y_run 4 rfl ?_
  show y_W g_sh g_ts d g_t57 (z_quQ 17 s) 8 [(0, .inr (.inr 2))] [.inr (.inr (s.2.2 0 3)), .inr (.inr 29)] s
  rw [hr3]
  refine z_callM (by decide) hE (by simpa [Bool.and_eq_true] using i2) 1 rfl (fun _ _ _ => rfl) (a := [.inr (.inr 29), .inr (.inr 17)]) rfl rfl (fun h hR => y_mayV (o := 27) (sz := 10) rfl hR) (by omega) hT ⟨⟨29, rfl, List.mem_cons_self⟩, ⟨17, rfl, List.mem_cons_self⟩, True.intro⟩ (fun v s1 hT1 hf1 hv ht1 => ?_)
  have g1 := hf1.mono i1
  have key : ∀ x : Int32, x.toInt = 0 ∨ x.toInt = 1 → (∃ t, u_c 115 [.inr (.inr 29), .inr (.inr 17)] (uP s) = some (some (.inl x), t) ∧ zA t s1) → y_W g_sh g_ts d g_t57 (z_quQ 17 s) 11 [(0, .inr (.inr 2))] [.inl x] s1 := by
    intro x hx hu
    obtain ⟨tq, hu1, hu2⟩ := hu
    have hu4 : tq.1 15 4 = s1.1 15 4 := hu2.i (o := 15) (k := 4) rfl (by decide) rfl
    have hu8 : tq.1 27 8 = s1.1 27 8 := hu2.i (o := 27) (k := 8) rfl (by decide) rfl
    have hu9 : tq.1 27 9 = s1.1 27 9 := hu2.i (o := 27) (k := 9) rfl (by decide) rfl
    have hT2 := y_Tup (lo := 2147483648) (hi := 2147485248) (g := 0) (o := 1) (k := 1) (x := Int32.ofInt 0) hT1 rfl rfl (by decide +kernel) (show _ ≤ (0 : Int) by omega) (show (0 : Int) ≤ _ by omega)
    have f2 := (g1.mono (m2 := y_quKC) (by decide +kernel)).up (o := 1) (k := 1) (v := .inl (Int32.ofInt 0)) rfl (by decide +kernel)
    have e15 : (y_up s1 1 1 (.inl (Int32.ofInt 0))).1 15 4 = s1.1 15 4 ∧ (y_up s1 1 1 (.inl (Int32.ofInt 0))).1 27 8 = s1.1 27 8 ∧ (y_up s1 1 1 (.inl (Int32.ofInt 0))).1 27 9 = s1.1 27 9 := ⟨y_up_ne (by omega), y_up_ne (by omega), y_up_ne (by omega)⟩
    have e11 : ((y_up s1 1 1 (.inl (Int32.ofInt 0))).1 1 1).toInt = 0 := rfl
    have a2 : (y_up s1 1 1 (.inl (Int32.ofInt 0))).2.2 0 2 = 5 := (y_fr66 g1 (by decide +kernel)).trans hr2
    have a3 : (y_up s1 1 1 (.inl (Int32.ofInt 0))).2.2 0 3 = 17 := (y_fr67 g1 (by decide +kernel)).trans hr3
    have an : ((y_up s1 1 1 (.inl (Int32.ofInt 0))).1 3 4).toInt = (n : Int) := by
      rw [y_up_ne (by omega), g1.at (o := 3) (k := 4) (A := w_n 0 7 0) rfl rfl (by decide +kernel)]
      exact hn
    refine y_run 5 rfl ?_
    show y_W g_sh g_ts d g_t57 (z_quQ 17 s) 20 ((1, .inl x) :: [(0, .inr (.inr 2))]) [] (y_up s1 1 1 (.inl (Int32.ofInt 0)))
    revert hT2 f2 e11 e15 a2 a3 an
    generalize y_up s1 1 1 (.inl (Int32.ofInt 0)) = s2
    intro hT2 f2 e15 e11 a2 a3 an
    refine y_run 1 rfl ?_
    refine y_if rfl (fun h => ?_) (fun h => ?_)
    rotate_left
    · refine y_run 1 rfl ?_
      have hx0 : x = 0 := by
        have h2 : ¬ x.toInt ≠ 0 := h
        have h3 : x.toInt = 0 := by omega
        exact Int32.toInt_inj.mp h3
      exact y_iret rfl ⟨⟨n, hT2, Or.inl ⟨a2, an⟩, Or.inl ⟨a2, a3⟩, f2, e11, _, rfl⟩, x, tq, hu1, by rw [if_pos hx0], e15.2.1.trans hu8.symm, e15.2.2.trans hu9.symm⟩
    have hV2 := y_VT hT2
    refine y_run 2 rfl ?_
    show y_W g_sh g_ts d g_t57 (z_quQ 17 s) 30 ((1, .inl x) :: [(0, .inr (.inr 2))]) [.inr (.inr (s2.2.2 0 3))] s2
    rw [a3]
    refine y_run 1 rfl ?_
    refine y_sub (ls1 := [(0, .inr (.inr 2)), (2, .inr (.inr 17))]) (show ([0, 2] : List Nat).Nodup by decide) (y_R_cons rfl (y_R_cons rfl y_R_nil)) ?_
    have t3 := y_Tupr (o := 0) (k := 2) (m := 17) (l := [5, 17]) (y_Tupr (o := 0) (k := 3) (m := 5) (l := [5, 17]) (y_t0 hT2) rfl rfl (by decide +kernel) (by decide)) rfl rfl (by decide +kernel) (by decide)
    have f3 := (f2.up (o := 0) (k := 3) (v := .inr (.inr 5)) rfl (by decide +kernel)).up (o := 0) (k := 2) (v := .inr (.inr 17)) rfl (by decide +kernel)
    have g3 : (y_up (y_up s2 0 3 (.inr (.inr 5))) 0 2 (.inr (.inr 17))).1 = s2.1 := rfl
    have b2 : (y_up (y_up s2 0 3 (.inr (.inr 5))) 0 2 (.inr (.inr 17))).2.2 0 2 = 17 := rfl
    have b3 : (y_up (y_up s2 0 3 (.inr (.inr 5))) 0 2 (.inr (.inr 17))).2.2 0 3 = 5 := rfl
    refine y_run 3 rfl ?_
    show y_W g_sh g_ts d g_t57 (z_quQ 17 s) 36 [(0, .inr (.inr 2)), (2, .inr (.inr 17))] [.inr (.inr (s2.2.2 0 2)), .inr (.inr 2)] s2
    rw [a2]
    refine y_run 4 rfl ?_
    show y_W g_sh g_ts d g_t57 (z_quQ 17 s) 44 [(0, .inr (.inr 2)), (2, .inr (.inr 17))] [] (y_up (y_up s2 0 3 (.inr (.inr 5))) 0 2 (.inr (.inr 17)))
    revert t3 f3 g3 b2 b3
    generalize y_up (y_up s2 0 3 (.inr (.inr 5))) 0 2 (.inr (.inr 17)) = s3
    intro t3 f3 g3 b2 b3
    refine y_run 4 rfl ?_
    show y_W g_sh g_ts d g_t57 (z_quQ 17 s) 52 [(0, .inr (.inr 2)), (2, .inr (.inr 17))] [.inr (.inr (s3.2.2 0 2)), .inr (.inr 30)] s3
    rw [b2]
    refine y_call y_beginF17 1 rfl (fun _ _ _ => rfl) (a := [.inr (.inr 30), .inr (.inr 17)]) rfl rfl (fun h hR => y_mayV (o := 28) (sz := 10) rfl hR) (by omega) ⟨t3, rfl⟩ (fun v s4 hQ => ?_)
    obtain ⟨rfl, t4, f4, e28, hln⟩ := hQ
    refine y_run 4 rfl ?_
    refine y_call y_restartF 1 rfl (fun _ _ _ => rfl) (a := [.inr (.inr 35), .inr (.inr 30)]) rfl rfl (fun h hR => y_mayV (o := 33) (sz := 4) rfl hR) (by omega) ⟨t4, rfl⟩ (fun v s5 hQ => ?_)
    obtain ⟨rfl, t5, f5, u5, ⟨r1, r2, r3⟩, hrow⟩ := hQ
    have t6 := y_Tup0 (lo := 2147483648) (hi := 2147483655) (o := 0) (k := 14) (x := Int32.ofInt 0) (y_Tup0 (lo := 2147483648) (hi := 2147483655) (o := 0) (k := 7) (x := Int32.ofInt 0) t5 rfl rfl (show _ ≤ (0 : Int) by omega) (show (0 : Int) ≤ _ by omega)) rfl rfl (show _ ≤ (0 : Int) by omega) (show (0 : Int) ≤ _ by omega)
    have F5 := (f3.tr (f4.mono (by decide +kernel))).tr (f5.mono (by decide +kernel))
    have f6 := ((y_fr.rf (sh := g_sh) (ms := y_quKC) (s := s5)).up (o := 0) (k := 7) (v := .inl (Int32.ofInt 0)) rfl (by decide +kernel)).up (o := 0) (k := 14) (v := .inl (Int32.ofInt 0)) rfl (by decide +kernel)
    have u6 : ∀ o k, ¬ (o = 0 ∧ k = 7) → ¬ (o = 0 ∧ k = 14) → (y_up (y_up s5 0 7 (.inl (Int32.ofInt 0))) 0 14 (.inl (Int32.ofInt 0))).1 o k = s5.1 o k := fun o k h1 h2 => (y_up_ne h2).trans (y_up_ne h1)
    have z6 : (y_up (y_up s5 0 7 (.inl (Int32.ofInt 0))) 0 14 (.inl (Int32.ofInt 0))).1 0 7 = Int32.ofInt 0 := rfl
    have z7 : (y_up (y_up s5 0 7 (.inl (Int32.ofInt 0))) 0 14 (.inl (Int32.ofInt 0))).1 0 14 = Int32.ofInt 0 := rfl
    have c2 : (y_up (y_up s5 0 7 (.inl (Int32.ofInt 0))) 0 14 (.inl (Int32.ofInt 0))).2.2 0 2 = 17 := ((y_fr66 f5 (by decide +kernel)).trans (y_fr66 f4 (by decide +kernel))).trans b2
    have c3 : (y_up (y_up s5 0 7 (.inl (Int32.ofInt 0))) 0 14 (.inl (Int32.ofInt 0))).2.2 0 3 = 5 := ((y_fr67 f5 (by decide +kernel)).trans (y_fr67 f4 (by decide +kernel))).trans b3
    refine y_run 6 rfl ?_
    show y_W g_sh g_ts d g_t57 (z_quQ 17 s) 76 [(0, .inr (.inr 2)), (2, .inr (.inr 17))] [] (y_up (y_up s5 0 7 (.inl (Int32.ofInt 0))) 0 14 (.inl (Int32.ofInt 0)))
    revert t6 f6 u6 z6 z7 c2 c3
    generalize y_up (y_up s5 0 7 (.inl (Int32.ofInt 0))) 0 14 (.inl (Int32.ofInt 0)) = s6
    intro t6 f6 u6 z6 z7 c2 c3
    have F6 := F5.tr f6
    have eT : s4.1 15 4 = s3.1 15 4 := f4.at (o := 15) (k := 4) (A := w_n 0 7 0) rfl rfl (by decide +kernel)
    have rT := y_rng (lo := 2147483648) (hi := 2147483655) (g := 0) t3 (o := 15) (k := 4) rfl rfl
    obtain ⟨m, hm⟩ : ∃ m : Nat, (s3.1 15 4).toInt = (m : Int) := ⟨(s3.1 15 4).toInt.toNat, by omega⟩
    have hC : y_VC m s6.1 := by
      refine y_rs_VC2 (s := y_up (y_up s4 0 7 (.inl (Int32.ofInt 0))) 0 14 (.inl (Int32.ofInt 0))) (fun o k h1 h2 => ?_) (by rw [u6 33 1 (by omega) (by omega)]; exact r1) (by rw [u6 33 2 (by omega) (by omega)]; exact r2) (by rw [u6 33 3 (by omega) (by omega)]; exact r3) (fun k hk => ?_) (fun p hp h7 _ => ⟨p, h7, ?_, ?_⟩) (fun b hb hbit => ?_)
      · by_cases q1 : o = 0 ∧ k = 14
        · obtain ⟨rfl, rfl⟩ := q1
          rw [z7]
          rfl
        · by_cases q2 : o = 0 ∧ k = 7
          · obtain ⟨rfl, rfl⟩ := q2
            rw [z6]
            rfl
          · rw [u6 o k q2 q1, u5 o k h1 h2, y_up_ne q1, y_up_ne q2]
      · rw [u6 34 k (by omega) (by omega), hrow k hk]
        have hs := y_so_le k hk
        exact ((y_up_ne (by omega)).trans (y_up_ne (by omega))).symm
      · rw [y_up_ne (by omega), y_up_ne (by omega), e28, hm]
        omega
      · rw [y_up_ne (by omega), y_up_ne (by omega)]
        exact hln p h7
      · have hbit2 : y_bit (Int32.ofInt 0) b := hbit
        have : ∀ b, b < 3 → ¬ (Int32.ofInt 0).toInt.toNat / 2 ^ b % 2 = 1 := by decide
        exact absurd hbit2 (this b hb)
    have F36 := ((f4.mono (m2 := y_quKC) (by decide +kernel)).tr (f5.mono (by decide +kernel))).tr f6
    have hV3 : y_V1 n s3.1 := by rw [g3]; exact hV2
    obtain ⟨hF6, hM6⟩ := y_MF_fr F36 (by decide +kernel) hV3
    have hT6 : w_T (y_Vn m) g_sh (y_mk g_sh s6) := y_TV t6 ⟨hF6, hM6, hC⟩
    refine y_run 8 rfl ?_
    show y_W g_sh g_ts d g_t57 (z_quQ 17 s) 92 [(0, .inr (.inr 2)), (2, .inr (.inr 17))] [.inr (.inr 30), .inr (.inr (s6.2.2 0 2)), .inr (.inr 38), .inr (.inr 57)] s6
    rw [c2]
    refine y_callN (hsr m).2 1 rfl (fun _ _ _ => rfl) (a := [.inr (.inr 57), .inr (.inr 38), .inr (.inr 17), .inr (.inr 30)]) rfl rfl (fun h hR => y_mayV (o := 55) (sz := 10) rfl hR) (by omega) hT6 ⟨⟨57, rfl, List.mem_cons_self⟩, ⟨38, rfl, List.mem_cons_self⟩, ⟨17, rfl, List.mem_cons_self⟩, ⟨30, rfl, List.mem_cons_self⟩, True.intro⟩ (fun s7 hT7 hf7 => ?_)
    have g7 := hf7.mono (hsr m).1
    have d2 : s7.2.2 0 2 = 17 := (y_fr66 g7 (by decide +kernel)).trans c2
    have d3 : s7.2.2 0 3 = 5 := (y_fr67 g7 (by decide +kernel)).trans c3
    have dn : (s7.1 15 4).toInt = (m : Int) := by
      rw [g7.at (o := 15) (k := 4) (A := w_n 0 7 0) rfl rfl (by decide +kernel), u6 15 4 (by omega) (by omega), u5 15 4 (by omega) (by omega), eT]
      exact hm
    have dz : (s7.1 1 1).toInt = 0 := by
      rw [g7.at (o := 1) (k := 1) (A := w_n 0 1600 0) rfl rfl (by decide +kernel), u6 1 1 (by omega) (by omega), u5 1 1 (by omega) (by omega), f4.at (o := 1) (k := 1) (A := w_n 0 1600 0) rfl rfl (by decide +kernel), g3]
      exact e11
    refine y_run 2 rfl ?_
    show y_W g_sh g_ts d g_t57 (z_quQ 17 s) 99 [(0, .inr (.inr 2)), (2, .inr (.inr 17))] [.inr (.inr (s7.2.2 0 2))] s7
    rw [d2]
    refine y_run 1 rfl ?_
    have hx0 : ¬ x = 0 := by
      intro e
      have h2 : x.toInt ≠ 0 := h
      exact h2 (by rw [e]; rfl)
    have e7 : s7.1 15 4 = tq.1 15 4 := by
      rw [g7.at (o := 15) (k := 4) (A := w_n 0 7 0) rfl rfl (by decide +kernel), u6 15 4 (by omega) (by omega), u5 15 4 (by omega) (by omega), eT, g3, e15.1, hu4]
    have e8 : s7.1 27 8 = tq.1 27 8 := by
      rw [g7.at (o := 27) (k := 8) rfl rfl (by decide +kernel), u6 27 8 (by omega) (by omega), u5 27 8 (by omega) (by omega), f4.at (o := 27) (k := 8) rfl rfl (by decide +kernel), g3, e15.2.1, hu8]
    have e9 : s7.1 27 9 = tq.1 27 9 := by
      rw [g7.at (o := 27) (k := 9) rfl rfl (by decide +kernel), u6 27 9 (by omega) (by omega), u5 27 9 (by omega) (by omega), f4.at (o := 27) (k := 9) rfl rfl (by decide +kernel), g3, e15.2.2, hu9]
    exact y_iret rfl ⟨⟨m, hT7, Or.inr ⟨d2, dn⟩, Or.inr ⟨d2, d3⟩, F6.tr (g7.mono (by decide +kernel)), dz, _, rfl⟩, x, tq, hu1, by rw [if_neg hx0]; exact congrArg (fun z => some (Sum.inl z)) e7, e8, e9⟩
  obtain ⟨q, hq2, ho⟩ := hv
  have eq : q = ([], some (w_n 0 0 0), M0) ∨ q = ([], some (w_n 1 1 0), M1) := by simpa using hq2
  rcases eq with rfl | rfl
  · obtain ⟨z, rfl, z1, z2⟩ := y_ans ho
    exact key z (Or.inl (by omega)) ht1
  · obtain ⟨z, rfl, z1, z2⟩ := y_ans ho
    exact key z (Or.inr (by omega)) ht1
theorem z_quay17 {n : Nat} {Kr : List (Nat × Nat)} {M0 M1 : w_U} {Ks : Nat → List (Nat × Nat)} {Ms : Nat → w_U} (hrd : y_eRdI (y_Vn n) 5 Kr y_rdK5 M0 M1) (hsr : ∀ m, y_eSiR (y_Vn m) 5 (Ks m) y_srK5 (Ms m)) {d : Nat} {s : y_H} (hd : 72 ≤ d) (hT : w_T (y_Vn n) g_sh (y_mk g_sh s)) (hr2 : s.2.2 0 2 = 17) (hr3 : s.2.2 0 3 = 5) (hn : (s.1 15 4).toInt = (n : Int)) : y_W g_sh g_ts d g_t57 (z_quQ 5 s) 0 [(0, .inr (.inr 2))] [] s := by
  obtain ⟨i1, i2, hE⟩ := hrd
  refine y_run 4 rfl ?_
  show y_W g_sh g_ts d g_t57 (z_quQ 5 s) 8 [(0, .inr (.inr 2))] [.inr (.inr (s.2.2 0 3)), .inr (.inr 29)] s
  rw [hr3]
  refine z_callM (by decide) hE (by simpa [Bool.and_eq_true] using i2) 1 rfl (fun _ _ _ => rfl) (a := [.inr (.inr 29), .inr (.inr 5)]) rfl rfl (fun h hR => y_mayV (o := 27) (sz := 10) rfl hR) (by omega) hT ⟨⟨29, rfl, List.mem_cons_self⟩, ⟨5, rfl, List.mem_cons_self⟩, True.intro⟩ (fun v s1 hT1 hf1 hv ht1 => ?_)
  have g1 := hf1.mono i1
  have key : ∀ x : Int32, x.toInt = 0 ∨ x.toInt = 1 → (∃ t, u_c 115 [.inr (.inr 29), .inr (.inr 5)] (uP s) = some (some (.inl x), t) ∧ zA t s1) → y_W g_sh g_ts d g_t57 (z_quQ 5 s) 11 [(0, .inr (.inr 2))] [.inl x] s1 := by
    intro x hx hu
    obtain ⟨tq, hu1, hu2⟩ := hu
    have hu4 : tq.1 3 4 = s1.1 3 4 := hu2.i (o := 3) (k := 4) rfl (by decide) rfl
    have hu8 : tq.1 27 8 = s1.1 27 8 := hu2.i (o := 27) (k := 8) rfl (by decide) rfl
    have hu9 : tq.1 27 9 = s1.1 27 9 := hu2.i (o := 27) (k := 9) rfl (by decide) rfl
    have hT2 := y_Tup (lo := 2147483648) (hi := 2147485248) (g := 0) (o := 1) (k := 1) (x := Int32.ofInt 0) hT1 rfl rfl (by decide +kernel) (show _ ≤ (0 : Int) by omega) (show (0 : Int) ≤ _ by omega)
    have f2 := (g1.mono (m2 := y_quKC) (by decide +kernel)).up (o := 1) (k := 1) (v := .inl (Int32.ofInt 0)) rfl (by decide +kernel)
    have e15 : (y_up s1 1 1 (.inl (Int32.ofInt 0))).1 3 4 = s1.1 3 4 ∧ (y_up s1 1 1 (.inl (Int32.ofInt 0))).1 27 8 = s1.1 27 8 ∧ (y_up s1 1 1 (.inl (Int32.ofInt 0))).1 27 9 = s1.1 27 9 := ⟨y_up_ne (by omega), y_up_ne (by omega), y_up_ne (by omega)⟩
    have e11 : ((y_up s1 1 1 (.inl (Int32.ofInt 0))).1 1 1).toInt = 0 := rfl
    have a2 : (y_up s1 1 1 (.inl (Int32.ofInt 0))).2.2 0 2 = 17 := (y_fr66 g1 (by decide +kernel)).trans hr2
    have a3 : (y_up s1 1 1 (.inl (Int32.ofInt 0))).2.2 0 3 = 5 := (y_fr67 g1 (by decide +kernel)).trans hr3
    have an : ((y_up s1 1 1 (.inl (Int32.ofInt 0))).1 15 4).toInt = (n : Int) := by
      rw [y_up_ne (by omega), g1.at (o := 15) (k := 4) (A := w_n 0 7 0) rfl rfl (by decide +kernel)]
      exact hn
    refine y_run 5 rfl ?_
    show y_W g_sh g_ts d g_t57 (z_quQ 5 s) 20 ((1, .inl x) :: [(0, .inr (.inr 2))]) [] (y_up s1 1 1 (.inl (Int32.ofInt 0)))
    revert hT2 f2 e11 e15 a2 a3 an
    generalize y_up s1 1 1 (.inl (Int32.ofInt 0)) = s2
    intro hT2 f2 e15 e11 a2 a3 an
    refine y_run 1 rfl ?_
    refine y_if rfl (fun h => ?_) (fun h => ?_)
    rotate_left
    · refine y_run 1 rfl ?_
      have hx0 : x = 0 := by
        have h2 : ¬ x.toInt ≠ 0 := h
        have h3 : x.toInt = 0 := by omega
        exact Int32.toInt_inj.mp h3
      exact y_iret rfl ⟨⟨n, hT2, Or.inr ⟨a2, an⟩, Or.inr ⟨a2, a3⟩, f2, e11, _, rfl⟩, x, tq, hu1, by rw [if_pos hx0], e15.2.1.trans hu8.symm, e15.2.2.trans hu9.symm⟩
    have hV2 := y_VT hT2
    refine y_run 2 rfl ?_
    show y_W g_sh g_ts d g_t57 (z_quQ 5 s) 30 ((1, .inl x) :: [(0, .inr (.inr 2))]) [.inr (.inr (s2.2.2 0 3))] s2
    rw [a3]
    refine y_run 1 rfl ?_
    refine y_sub (ls1 := [(0, .inr (.inr 2)), (2, .inr (.inr 5))]) (show ([0, 2] : List Nat).Nodup by decide) (y_R_cons rfl (y_R_cons rfl y_R_nil)) ?_
    have t3 := y_Tupr (o := 0) (k := 2) (m := 5) (l := [5, 17]) (y_Tupr (o := 0) (k := 3) (m := 17) (l := [5, 17]) (y_t0 hT2) rfl rfl (by decide +kernel) (by decide)) rfl rfl (by decide +kernel) (by decide)
    have f3 := (f2.up (o := 0) (k := 3) (v := .inr (.inr 17)) rfl (by decide +kernel)).up (o := 0) (k := 2) (v := .inr (.inr 5)) rfl (by decide +kernel)
    have g3 : (y_up (y_up s2 0 3 (.inr (.inr 17))) 0 2 (.inr (.inr 5))).1 = s2.1 := rfl
    have b2 : (y_up (y_up s2 0 3 (.inr (.inr 17))) 0 2 (.inr (.inr 5))).2.2 0 2 = 5 := rfl
    have b3 : (y_up (y_up s2 0 3 (.inr (.inr 17))) 0 2 (.inr (.inr 5))).2.2 0 3 = 17 := rfl
    refine y_run 3 rfl ?_
    show y_W g_sh g_ts d g_t57 (z_quQ 5 s) 36 [(0, .inr (.inr 2)), (2, .inr (.inr 5))] [.inr (.inr (s2.2.2 0 2)), .inr (.inr 2)] s2
    rw [a2]
    refine y_run 4 rfl ?_
    show y_W g_sh g_ts d g_t57 (z_quQ 5 s) 44 [(0, .inr (.inr 2)), (2, .inr (.inr 5))] [] (y_up (y_up s2 0 3 (.inr (.inr 17))) 0 2 (.inr (.inr 5)))
    revert t3 f3 g3 b2 b3
    generalize y_up (y_up s2 0 3 (.inr (.inr 17))) 0 2 (.inr (.inr 5)) = s3
    intro t3 f3 g3 b2 b3
    refine y_run 4 rfl ?_
    show y_W g_sh g_ts d g_t57 (z_quQ 5 s) 52 [(0, .inr (.inr 2)), (2, .inr (.inr 5))] [.inr (.inr (s3.2.2 0 2)), .inr (.inr 30)] s3
    rw [b2]
    refine y_call y_beginF5 1 rfl (fun _ _ _ => rfl) (a := [.inr (.inr 30), .inr (.inr 5)]) rfl rfl (fun h hR => y_mayV (o := 28) (sz := 10) rfl hR) (by omega) ⟨t3, rfl⟩ (fun v s4 hQ => ?_)
    obtain ⟨rfl, t4, f4, e28, hln⟩ := hQ
    refine y_run 4 rfl ?_
    refine y_call y_restartF 1 rfl (fun _ _ _ => rfl) (a := [.inr (.inr 35), .inr (.inr 30)]) rfl rfl (fun h hR => y_mayV (o := 33) (sz := 4) rfl hR) (by omega) ⟨t4, rfl⟩ (fun v s5 hQ => ?_)
    obtain ⟨rfl, t5, f5, u5, ⟨r1, r2, r3⟩, hrow⟩ := hQ
    have t6 := y_Tup0 (lo := 2147483648) (hi := 2147483655) (o := 0) (k := 14) (x := Int32.ofInt 0) (y_Tup0 (lo := 2147483648) (hi := 2147483655) (o := 0) (k := 7) (x := Int32.ofInt 0) t5 rfl rfl (show _ ≤ (0 : Int) by omega) (show (0 : Int) ≤ _ by omega)) rfl rfl (show _ ≤ (0 : Int) by omega) (show (0 : Int) ≤ _ by omega)
    have F5 := (f3.tr (f4.mono (by decide +kernel))).tr (f5.mono (by decide +kernel))
    have f6 := ((y_fr.rf (sh := g_sh) (ms := y_quKC) (s := s5)).up (o := 0) (k := 7) (v := .inl (Int32.ofInt 0)) rfl (by decide +kernel)).up (o := 0) (k := 14) (v := .inl (Int32.ofInt 0)) rfl (by decide +kernel)
    have u6 : ∀ o k, ¬ (o = 0 ∧ k = 7) → ¬ (o = 0 ∧ k = 14) → (y_up (y_up s5 0 7 (.inl (Int32.ofInt 0))) 0 14 (.inl (Int32.ofInt 0))).1 o k = s5.1 o k := fun o k h1 h2 => (y_up_ne h2).trans (y_up_ne h1)
    have z6 : (y_up (y_up s5 0 7 (.inl (Int32.ofInt 0))) 0 14 (.inl (Int32.ofInt 0))).1 0 7 = Int32.ofInt 0 := rfl
    have z7 : (y_up (y_up s5 0 7 (.inl (Int32.ofInt 0))) 0 14 (.inl (Int32.ofInt 0))).1 0 14 = Int32.ofInt 0 := rfl
    have c2 : (y_up (y_up s5 0 7 (.inl (Int32.ofInt 0))) 0 14 (.inl (Int32.ofInt 0))).2.2 0 2 = 5 := ((y_fr66 f5 (by decide +kernel)).trans (y_fr66 f4 (by decide +kernel))).trans b2
    have c3 : (y_up (y_up s5 0 7 (.inl (Int32.ofInt 0))) 0 14 (.inl (Int32.ofInt 0))).2.2 0 3 = 17 := ((y_fr67 f5 (by decide +kernel)).trans (y_fr67 f4 (by decide +kernel))).trans b3
    refine y_run 6 rfl ?_
    show y_W g_sh g_ts d g_t57 (z_quQ 5 s) 76 [(0, .inr (.inr 2)), (2, .inr (.inr 5))] [] (y_up (y_up s5 0 7 (.inl (Int32.ofInt 0))) 0 14 (.inl (Int32.ofInt 0)))
    revert t6 f6 u6 z6 z7 c2 c3
    generalize y_up (y_up s5 0 7 (.inl (Int32.ofInt 0))) 0 14 (.inl (Int32.ofInt 0)) = s6
    intro t6 f6 u6 z6 z7 c2 c3
    have F6 := F5.tr f6
    have eT : s4.1 3 4 = s3.1 3 4 := f4.at (o := 3) (k := 4) (A := w_n 0 7 0) rfl rfl (by decide +kernel)
    have rT := y_rng (lo := 2147483648) (hi := 2147483655) (g := 0) t3 (o := 3) (k := 4) rfl rfl
    obtain ⟨m, hm⟩ : ∃ m : Nat, (s3.1 3 4).toInt = (m : Int) := ⟨(s3.1 3 4).toInt.toNat, by omega⟩
    have hC : y_VC m s6.1 := by
      refine y_rs_VC2 (s := y_up (y_up s4 0 7 (.inl (Int32.ofInt 0))) 0 14 (.inl (Int32.ofInt 0))) (fun o k h1 h2 => ?_) (by rw [u6 33 1 (by omega) (by omega)]; exact r1) (by rw [u6 33 2 (by omega) (by omega)]; exact r2) (by rw [u6 33 3 (by omega) (by omega)]; exact r3) (fun k hk => ?_) (fun p hp h7 _ => ⟨p, h7, ?_, ?_⟩) (fun b hb hbit => ?_)
      · by_cases q1 : o = 0 ∧ k = 14
        · obtain ⟨rfl, rfl⟩ := q1
          rw [z7]
          rfl
        · by_cases q2 : o = 0 ∧ k = 7
          · obtain ⟨rfl, rfl⟩ := q2
            rw [z6]
            rfl
          · rw [u6 o k q2 q1, u5 o k h1 h2, y_up_ne q1, y_up_ne q2]
      · rw [u6 34 k (by omega) (by omega), hrow k hk]
        have hs := y_so_le k hk
        exact ((y_up_ne (by omega)).trans (y_up_ne (by omega))).symm
      · rw [y_up_ne (by omega), y_up_ne (by omega), e28, hm]
        omega
      · rw [y_up_ne (by omega), y_up_ne (by omega)]
        exact hln p h7
      · have hbit2 : y_bit (Int32.ofInt 0) b := hbit
        have : ∀ b, b < 3 → ¬ (Int32.ofInt 0).toInt.toNat / 2 ^ b % 2 = 1 := by decide
        exact absurd hbit2 (this b hb)
    have F36 := ((f4.mono (m2 := y_quKC) (by decide +kernel)).tr (f5.mono (by decide +kernel))).tr f6
    have hV3 : y_V1 n s3.1 := by rw [g3]; exact hV2
    obtain ⟨hF6, hM6⟩ := y_MF_fr F36 (by decide +kernel) hV3
    have hT6 : w_T (y_Vn m) g_sh (y_mk g_sh s6) := y_TV t6 ⟨hF6, hM6, hC⟩
    refine y_run 8 rfl ?_
    show y_W g_sh g_ts d g_t57 (z_quQ 5 s) 92 [(0, .inr (.inr 2)), (2, .inr (.inr 5))] [.inr (.inr 30), .inr (.inr (s6.2.2 0 2)), .inr (.inr 38), .inr (.inr 57)] s6
    rw [c2]
    refine y_callN (hsr m).2 1 rfl (fun _ _ _ => rfl) (a := [.inr (.inr 57), .inr (.inr 38), .inr (.inr 5), .inr (.inr 30)]) rfl rfl (fun h hR => y_mayV (o := 55) (sz := 10) rfl hR) (by omega) hT6 ⟨⟨57, rfl, List.mem_cons_self⟩, ⟨38, rfl, List.mem_cons_self⟩, ⟨5, rfl, List.mem_cons_self⟩, ⟨30, rfl, List.mem_cons_self⟩, True.intro⟩ (fun s7 hT7 hf7 => ?_)
    have g7 := hf7.mono (hsr m).1
    have d2 : s7.2.2 0 2 = 5 := (y_fr66 g7 (by decide +kernel)).trans c2
    have d3 : s7.2.2 0 3 = 17 := (y_fr67 g7 (by decide +kernel)).trans c3
    have dn : (s7.1 3 4).toInt = (m : Int) := by
      rw [g7.at (o := 3) (k := 4) (A := w_n 0 7 0) rfl rfl (by decide +kernel), u6 3 4 (by omega) (by omega), u5 3 4 (by omega) (by omega), eT]
      exact hm
    have dz : (s7.1 1 1).toInt = 0 := by
      rw [g7.at (o := 1) (k := 1) (A := w_n 0 1600 0) rfl rfl (by decide +kernel), u6 1 1 (by omega) (by omega), u5 1 1 (by omega) (by omega), f4.at (o := 1) (k := 1) (A := w_n 0 1600 0) rfl rfl (by decide +kernel), g3]
      exact e11
    refine y_run 2 rfl ?_
    show y_W g_sh g_ts d g_t57 (z_quQ 5 s) 99 [(0, .inr (.inr 2)), (2, .inr (.inr 5))] [.inr (.inr (s7.2.2 0 2))] s7
    rw [d2]
    refine y_run 1 rfl ?_
    have hx0 : ¬ x = 0 := by
      intro e
      have h2 : x.toInt ≠ 0 := h
      exact h2 (by rw [e]; rfl)
    have e7 : s7.1 3 4 = tq.1 3 4 := by
      rw [g7.at (o := 3) (k := 4) (A := w_n 0 7 0) rfl rfl (by decide +kernel), u6 3 4 (by omega) (by omega), u5 3 4 (by omega) (by omega), eT, g3, e15.1, hu4]
    have e8 : s7.1 27 8 = tq.1 27 8 := by
      rw [g7.at (o := 27) (k := 8) rfl rfl (by decide +kernel), u6 27 8 (by omega) (by omega), u5 27 8 (by omega) (by omega), f4.at (o := 27) (k := 8) rfl rfl (by decide +kernel), g3, e15.2.1, hu8]
    have e9 : s7.1 27 9 = tq.1 27 9 := by
      rw [g7.at (o := 27) (k := 9) rfl rfl (by decide +kernel), u6 27 9 (by omega) (by omega), u5 27 9 (by omega) (by omega), f4.at (o := 27) (k := 9) rfl rfl (by decide +kernel), g3, e15.2.2, hu9]
    exact y_iret rfl ⟨⟨m, hT7, Or.inl ⟨d2, dn⟩, Or.inl ⟨d2, d3⟩, F6.tr (g7.mono (by decide +kernel)), dz, _, rfl⟩, x, tq, hu1, by rw [if_neg hx0]; exact congrArg (fun z => some (Sum.inl z)) e7, e8, e9⟩
  obtain ⟨q, hq2, ho⟩ := hv
  have eq : q = ([], some (w_n 0 0 0), M0) ∨ q = ([], some (w_n 1 1 0), M1) := by simpa using hq2
  rcases eq with rfl | rfl
  · obtain ⟨z, rfl, z1, z2⟩ := y_ans ho
    exact key z (Or.inl (by omega)) ht1
  · obtain ⟨z, rfl, z1, z2⟩ := y_ans ho
    exact key z (Or.inr (by omega)) ht1
theorem z_quayC {n : Nat} {K5 K17 : List (Nat × Nat)} {A0 A1 B0 B1 : w_U} {L5 L17 : Nat → List (Nat × Nat)} {M5 M17 : Nat → w_U} (h17 : y_eRdI (y_Vn n) 17 K17 y_rdK17 A0 A1) (h5 : y_eRdI (y_Vn n) 5 K5 y_rdK5 B0 B1) (s17 : ∀ m, y_eSiR (y_Vn m) 17 (L17 m) y_srK17 (M17 m)) (s5 : ∀ m, y_eSiR (y_Vn m) 5 (L5 m) y_srK5 (M5 m)) : y_C g_sh g_ts 57 73 (fun a s => w_T (y_Vn n) g_sh (y_mk g_sh s) ∧ y_Td n s ∧ y_Un s ∧ a = [.inr (.inr 2)]) (fun _ s v s2 => z_quQ (s.2.2 0 3) s v s2) := by
  refine y_C.of (t := g_t57) rfl (by decide) ?_
  rintro d a s hd ⟨hT, hD, hU, rfl⟩
  rcases hU with ⟨u1, u2⟩ | ⟨u1, u2⟩
  · rcases hD with ⟨d1, d2⟩ | ⟨d1, d2⟩
    · show y_W g_sh g_ts d g_t57 (z_quQ (s.2.2 0 3) s) 0 [(0, .inr (.inr 2))] [] s
      rw [u2]
      exact z_quay5 h17 s17 (by omega) hT u1 u2 d2
    · omega
  · rcases hD with ⟨d1, d2⟩ | ⟨d1, d2⟩
    · omega
    · show y_W g_sh g_ts d g_t57 (z_quQ (s.2.2 0 3) s) 0 [(0, .inr (.inr 2))] [] s
      rw [u2]
      exact z_quay17 h5 s5 (by omega) hT u1 u2 d2
def z_qyR (s : y_H) (v : Option (q_V Int32)) (s2 : y_H) : Prop := ∃ tq : u_H, u_c 281 [.inr (.inr 67)] (uP s) = some (none, tq) ∧ v = some (.inl (if 0 < tq.1 65 2 then Int32.ofInt (-1) else tq.1 65 42)) ∧ s2.1 65 2 = tq.1 65 2 ∧ s2.1 65 3 = tq.1 65 3
def z_qyQ (n : Nat) (s : y_H) (v : Option (q_V Int32)) (s2 : y_H) : Prop := y_qyQ n s v s2 ∧ z_qyR s v s2
theorem z_qu5 {n d : Nat} {FM : w_U} {s s3 : y_H} (hd : 2 ≤ d) (has : y_eAsTold y_V0 FM) (hF : y_fr g_sh y_qyK s s3) (hC : y_VC n s.1) (hFD : ∃ D, y_FD D s3.1) (ht : (s3.1 65 1).toInt = 0) (hz : ∃ tq : u_H, u_c 281 [.inr (.inr 67)] (uP s) = some (none, tq) ∧ ¬ 0 < tq.1 65 2 ∧ tq.1 65 42 = s3.1 65 48 ∧ tq.1 65 2 = s3.1 65 2 ∧ tq.1 65 3 = s3.1 65 3) : ∀ (s5 : y_H) (ls : q_U Int32), y_qJ y_qcK s3 s5 → q_at ls 0 = some (.inr (.inr 67)) → y_W g_sh g_ts d g_t275 (z_qyQ n s) 228 ls [] s5 := by
    intro s5 ls hJ5 l0
    refine y_sub (ls1 := [(0, .inr (.inr 67))]) (show ([0] : List Nat).Nodup by decide) (y_R_cons l0 y_R_nil) ?_
    refine y_run 1 rfl ?_
    refine y_call (y_layTold has) 1 rfl (fun _ _ _ => rfl) (a := [.inr (.inr 67)]) rfl rfl (fun h hR => y_mayV (o := 65) (sz := 85) rfl hR) (by omega) ⟨hJ5.1, rfl⟩ (fun v s6 hQ => ?_)
    obtain ⟨rfl, hT6, hf6, e8, hq6, hs6, hr6, hk6⟩ := hQ
    have hJ6 : y_qJ y_qcK s3 s6 := ⟨hT6, hJ5.2.tr (hf6.mono (by decide +kernel))⟩
    have e48 : s6.1 65 48 = s5.1 65 48 := hf6.at (o := 65) (k := 48) (A := w_n 0 7 0) rfl rfl (by decide +kernel)
    have rp := y_rng (lo := 2147483648) (hi := 2147483655) (g := 0) hJ5.1 (o := 65) (k := 48) rfl rfl
    have hA6 := y_quRow (by omega) (by omega) e8 hq6 hs6 hr6 hk6
    rw [← e48] at hA6
    refine y_run 1 rfl ?_
    refine y_call y_keepAir 1 rfl (fun _ _ _ => rfl) (a := [.inr (.inr 67)]) rfl rfl (fun h hR => y_mayV (o := 65) (sz := 85) rfl hR) (by omega) rfl (fun v s7 hQ => ?_)
    obtain ⟨rfl, rfl⟩ := hQ
    have t7 := y_Tc85 hT6 (y_rowAir hT6 hA6)
    have t8a := y_Tup0 (lo := 2147483648) (hi := 2147483688) (o := 65) (k := 66) (x := Int32.ofInt 0) t7 rfl rfl (show _ ≤ (0 : Int) by omega) (show (0 : Int) ≤ _ by omega)
    have t8b := y_Tup0 (lo := 2147483648) (hi := 2147483688) (o := 65) (k := 67) (x := Int32.ofInt 0) t8a rfl rfl (show _ ≤ (0 : Int) by omega) (show (0 : Int) ≤ _ by omega)
    have t8c := y_Tup0 (lo := 2147483648) (hi := 2147483678) (o := 65) (k := 78) (x := Int32.ofInt 0) t8b rfl rfl (show _ ≤ (0 : Int) by omega) (show (0 : Int) ≤ _ by omega)
    have t8 := y_Tup0 (lo := 2147483648) (hi := 2147483655) (o := 65) (k := 70) (x := Int32.ofInt 0) t8c rfl rfl (show _ ≤ (0 : Int) by omega) (show (0 : Int) ≤ _ by omega)
    have f8 : y_fr g_sh y_qcK s3 (y_up (y_up (y_up (y_up (y_cp s6 85 0 (s6.1 86) 28) 65 66 (.inl (Int32.ofInt 0))) 65 67 (.inl (Int32.ofInt 0))) 65 78 (.inl (Int32.ofInt 0))) 65 70 (.inl (Int32.ofInt 0))) := ((((hJ6.2.cp (o := 85) (b := 0) (n := 28) (f := s6.1 86) (by decide +kernel)).up (o := 65) (k := 66) (v := .inl (Int32.ofInt 0)) rfl (by decide +kernel)).up (o := 65) (k := 67) (v := .inl (Int32.ofInt 0)) rfl (by decide +kernel)).up (o := 65) (k := 78) (v := .inl (Int32.ofInt 0)) rfl (by decide +kernel)).up (o := 65) (k := 70) (v := .inl (Int32.ofInt 0)) rfl (by decide +kernel)
    have u66 : ((y_up (y_up (y_up (y_up (y_cp s6 85 0 (s6.1 86) 28) 65 66 (.inl (Int32.ofInt 0))) 65 67 (.inl (Int32.ofInt 0))) 65 78 (.inl (Int32.ofInt 0))) 65 70 (.inl (Int32.ofInt 0))).1 65 66).toInt = 0 := rfl
    have u67 : ((y_up (y_up (y_up (y_up (y_cp s6 85 0 (s6.1 86) 28) 65 66 (.inl (Int32.ofInt 0))) 65 67 (.inl (Int32.ofInt 0))) 65 78 (.inl (Int32.ofInt 0))) 65 70 (.inl (Int32.ofInt 0))).1 65 67).toInt = 0 := rfl
    have uR : y_Rw ((y_up (y_up (y_up (y_up (y_cp s6 85 0 (s6.1 86) 28) 65 66 (.inl (Int32.ofInt 0))) 65 67 (.inl (Int32.ofInt 0))) 65 78 (.inl (Int32.ofInt 0))) 65 70 (.inl (Int32.ofInt 0))).1 65 48).toInt ((y_up (y_up (y_up (y_up (y_cp s6 85 0 (s6.1 86) 28) 65 66 (.inl (Int32.ofInt 0))) 65 67 (.inl (Int32.ofInt 0))) 65 78 (.inl (Int32.ofInt 0))) 65 70 (.inl (Int32.ofInt 0))).1 85) := by
      have a1 : (y_up (y_up (y_up (y_up (y_cp s6 85 0 (s6.1 86) 28) 65 66 (.inl (Int32.ofInt 0))) 65 67 (.inl (Int32.ofInt 0))) 65 78 (.inl (Int32.ofInt 0))) 65 70 (.inl (Int32.ofInt 0))).1 65 48 = s6.1 65 48 := (y_up_ne (by omega)).trans ((y_up_ne (by omega)).trans ((y_up_ne (by omega)).trans ((y_up_ne (by omega)).trans (y_cp_ne (by omega)))))
      rw [a1]
      refine y_Rw_eq (fun k hk _ => ?_) hA6.1
      have e := y_cp_in (s := s6) (o := 85) (b := 0) (n := 28) (k := k) (f := s6.1 86) (by omega)
      rw [Nat.zero_add] at e
      exact (y_up_ne (by omega)).trans ((y_up_ne (by omega)).trans ((y_up_ne (by omega)).trans ((y_up_ne (by omega)).trans e)))
    refine y_run 14 rfl ?_
    refine y_sub (ls1 := [(0, .inr (.inr 67)), (1, .inl ((Int32.ofInt 0)))]) (show ([0, 1] : List Nat).Nodup by decide) (y_R_cons rfl (y_R_cons rfl y_R_nil)) ?_
    show y_W g_sh g_ts d g_t275 (z_qyQ n s) 258 [(0, .inr (.inr 67)), (1, .inl ((Int32.ofInt 0)))] [] (y_up (y_up (y_up (y_up (y_cp s6 85 0 (s6.1 86) 28) 65 66 (.inl (Int32.ofInt 0))) 65 67 (.inl (Int32.ofInt 0))) 65 78 (.inl (Int32.ofInt 0))) 65 70 (.inl (Int32.ofInt 0)))
    revert t8 f8 u66 u67 uR
    generalize y_up (y_up (y_up (y_up (y_cp s6 85 0 (s6.1 86) 28) 65 66 (.inl (Int32.ofInt 0))) 65 67 (.inl (Int32.ofInt 0))) 65 78 (.inl (Int32.ofInt 0))) 65 70 (.inl (Int32.ofInt 0)) = s8
    intro t8 f8 u66 u67 uR
    have key := y_qu4 (d := d) (s := s8) (Q := z_qyQ n s) (fun ls l0 => ?_) 3 (Int32.ofInt 0) 0 rfl (by omega) (by omega)
    · rw [y_cp0] at key
      exact key
    · refine y_sub (ls1 := [(0, .inr (.inr 67))]) (show ([0] : List Nat).Nodup by decide) (y_R_cons l0 y_R_nil) ?_
      refine y_run 2 rfl ?_
      have t9 : w_T y_V0 g_sh (y_mk g_sh (y_cp s8 104 0 (fun _ => Int32.ofInt 0) 3)) := y_Tcp t8 (fun k hk => by
        rw [Nat.zero_add]
        exact ⟨y_k104 _ (by omega), 2147483648, 2147483649, y_tyA (tag := 102) (sz := 3) (A := w_n 0 1 0) rfl (by omega), (show _ ≤ (0 : Int) by omega), (show (0 : Int) ≤ _ by omega)⟩)
      have f9 := f8.cp (o := 104) (b := 0) (n := 3) (f := fun _ => Int32.ofInt 0) (by decide +kernel)
      have fA : y_fr g_sh y_qyK s (y_cp s8 104 0 (fun _ => Int32.ofInt 0) 3) := hF.tr (f9.mono (by decide +kernel))
      have ev : ∀ o k, o ≠ 104 → (y_cp s8 104 0 (fun _ => Int32.ofInt 0) 3).1 o k = s8.1 o k := fun o k h => y_cp_ne (by omega)
      obtain ⟨tq, hu1, hu2, hu3, hu4, hu5⟩ := hz
      have z48 : (y_cp s8 104 0 (fun _ => Int32.ofInt 0) 3).1 65 48 = tq.1 65 42 := (ev 65 48 (by omega)).trans ((f8.at (o := 65) (k := 48) (A := w_n 0 7 0) rfl rfl (by decide +kernel)).trans hu3.symm)
      refine y_iret rfl ⟨⟨⟨y_TV t9 ⟨?_, ⟨?_, ?_, ?_, ?_⟩, y_VC_fr fA (by decide +kernel) hC⟩, fA, _, rfl⟩, ?_⟩, tq, hu1, by rw [if_neg hu2]; exact congrArg (fun z => some (Sum.inl z)) z48, (ev 65 2 (by omega)).trans ((f8.at (o := 65) (k := 2) rfl rfl (by decide +kernel)).trans hu4.symm), (ev 65 3 (by omega)).trans ((f8.at (o := 65) (k := 3) rfl rfl (by decide +kernel)).trans hu5.symm)⟩
      · exact y_FD_eq2 (f9.at (o := 65) (k := 18) (A := w_n 0 320 0) rfl rfl (by decide +kernel)) (fun i hi => y_qFr (o := 70) (sz := 320) (lo := 2147483648) (hi := 2147483651) f9 rfl hi (by decide +kernel)) (fun i hi => y_qFr (o := 71) (sz := 320) (lo := 0) (hi := 4294967295) f9 rfl hi (by decide +kernel)) hFD
      · rw [ev 65 48 (by omega)]
        exact y_Rw_eq (fun k _ _ => ev 85 k (by omega)) uR
      · rw [ev 65 66 (by omega), ev 65 67 (by omega), u66, u67]
        exact ⟨by omega, by omega, by omega⟩
      · intro j hj hlt
        rw [ev 65 66 (by omega), ev 65 67 (by omega), u66, u67] at hlt
        omega
      · intro b hb hne
        have e := y_cp_in (s := s8) (o := 104) (b := 0) (n := 3) (k := b) (f := fun _ => Int32.ofInt 0) (by omega)
        rw [Nat.zero_add] at e
        rw [e] at hne
        exact absurd rfl hne
      · rw [f9.at (o := 65) (k := 1) (A := w_n 0 1600 0) rfl rfl (by decide +kernel)]
        exact ht
theorem z_quayM {n : Nat} {FM : w_U} (H : y_RE (y_Vn n)) (has : y_eAsTold y_V0 FM) : y_C g_sh g_ts 275 9 (fun a s => w_T (y_Vn n) g_sh (y_mk g_sh s) ∧ a = [.inr (.inr 67)]) (fun _ s v s2 => z_qyQ n s v s2) := by
  refine y_C.of (t := g_t275) rfl (by decide) ?_
  rintro d a s hd ⟨hT, rfl⟩
  refine y_run 1 rfl ?_
  refine y_call (y_C.u (by decide) (y_readAllF H)) 1 rfl (fun _ _ _ => rfl) (a := [.inr (.inr 67)]) rfl rfl (fun h hR => y_mayV (o := 65) (sz := 85) rfl hR) (by omega) ⟨hT, rfl⟩ (fun v s1 hQ => ?_)
  obtain ⟨⟨rfl, hT1, hf1, ht1, hb1⟩, tq, hu1, hu2⟩ := hQ
  have hv2 : tq.1 65 2 = s1.1 65 2 := hu2.i (o := 65) (k := 2) rfl (by decide) rfl
  have hv3 : tq.1 65 3 = s1.1 65 3 := hu2.i (o := 65) (k := 3) rfl (by decide) rfl
  have hv42 : tq.1 65 42 = s1.1 65 42 := hu2.i (o := 65) (k := 42) rfl (by decide) rfl
  have hf1b : y_fr g_sh y_qyK s s1 := hf1.mono (by decide +kernel)
  have hC : y_VC n s.1 := (y_VT hT).2.2
  refine y_run 2 rfl ?_
  refine y_if rfl (fun h => ?_) (fun h => ?_)
  · have h2 : (s1.1 65 2).toInt ≤ 0 := h
    have rf := y_rng (lo := 2147483648) (hi := 2147483653) (g := 0) hT1 (o := 65) (k := 2) rfl rfl
    have hb := hb1 (by omega)
    have r0 := y_rng (lo := 2147483648) (hi := 2147483653) (g := 0) hT1 (o := 65) (k := 41) rfl rfl
    have t0 := y_Tup0 (lo := 2147483648) (hi := 2147483653) (o := 65) (k := 47) (x := s1.1 65 41) (y_t0 hT1) rfl rfl (by omega) (by omega)
    have r1 := y_rng (lo := 2147483648) (hi := 2147483655) (g := 0) hT1 (o := 65) (k := 42) rfl rfl
    have t1 := y_Tup0 (lo := 2147483648) (hi := 2147483655) (o := 65) (k := 48) (x := s1.1 65 42) t0 rfl rfl (by omega) (by omega)
    have r2 := y_rng (lo := 0) (hi := 4294967295) (g := 0) hT1 (o := 65) (k := 43) rfl rfl
    have t2 := y_Tup0 (lo := 0) (hi := 4294967295) (o := 65) (k := 49) (x := s1.1 65 43) t1 rfl rfl (by omega) (by omega)
    have r3 := hb.1
    have t3 := y_Tup0 (lo := 2147483649) (hi := 2147483650) (o := 65) (k := 50) (x := s1.1 65 44) t2 rfl rfl (by omega) (by omega)
    have r4 := y_rng (lo := 0) (hi := 4294967295) (g := 0) hT1 (o := 65) (k := 45) rfl rfl
    have t4 := y_Tup0 (lo := 0) (hi := 4294967295) (o := 65) (k := 51) (x := s1.1 65 45) t3 rfl rfl (by omega) (by omega)
    have r5 := y_rng (lo := 0) (hi := 4294967295) (g := 0) hT1 (o := 65) (k := 46) rfl rfl
    have t5 := y_Tup0 (lo := 0) (hi := 4294967295) (o := 65) (k := 52) (x := s1.1 65 46) t4 rfl rfl (by omega) (by omega)
    have r6 := y_rng (lo := 2147483648) (hi := 2147483709) (g := 0) hT1 (o := 65) (k := 20) rfl rfl
    have t6 := y_Tup0 (lo := 2147483648) (hi := 2147483709) (o := 65) (k := 21) (x := s1.1 65 20) t5 rfl rfl (by omega) (by omega)
    have r7 := y_rng (lo := 2147483648) (hi := 2147483649) (g := 0) hT1 (o := 65) (k := 24) rfl rfl
    have t7 := y_Tup0 (lo := 2147483648) (hi := 2147483649) (o := 65) (k := 25) (x := s1.1 65 24) t6 rfl rfl (by omega) (by omega)
    have fa : y_fr g_sh y_qaK s1 (y_up (y_up (y_up (y_up (y_up (y_up (y_up (y_up s1 65 47 (.inl (s1.1 65 41))) 65 48 (.inl (s1.1 65 42))) 65 49 (.inl (s1.1 65 43))) 65 50 (.inl (s1.1 65 44))) 65 51 (.inl (s1.1 65 45))) 65 52 (.inl (s1.1 65 46))) 65 21 (.inl (s1.1 65 20))) 65 25 (.inl (s1.1 65 24))) := (((((((((y_fr.rf (sh := g_sh) (ms := y_qaK) (s := s1)).up (o := 65) (k := 47) (v := .inl (s1.1 65 41)) rfl (by decide +kernel)).up (o := 65) (k := 48) (v := .inl (s1.1 65 42)) rfl (by decide +kernel)).up (o := 65) (k := 49) (v := .inl (s1.1 65 43)) rfl (by decide +kernel)).up (o := 65) (k := 50) (v := .inl (s1.1 65 44)) rfl (by decide +kernel)).up (o := 65) (k := 51) (v := .inl (s1.1 65 45)) rfl (by decide +kernel)).up (o := 65) (k := 52) (v := .inl (s1.1 65 46)) rfl (by decide +kernel)).up (o := 65) (k := 21) (v := .inl (s1.1 65 20)) rfl (by decide +kernel)).up (o := 65) (k := 25) (v := .inl (s1.1 65 24)) rfl (by decide +kernel))
    have u : ∀ o k, ¬ (o = 65 ∧ (k = 21 ∨ k = 25 ∨ (47 ≤ k ∧ k ≤ 52))) → (y_up (y_up (y_up (y_up (y_up (y_up (y_up (y_up s1 65 47 (.inl (s1.1 65 41))) 65 48 (.inl (s1.1 65 42))) 65 49 (.inl (s1.1 65 43))) 65 50 (.inl (s1.1 65 44))) 65 51 (.inl (s1.1 65 45))) 65 52 (.inl (s1.1 65 46))) 65 21 (.inl (s1.1 65 20))) 65 25 (.inl (s1.1 65 24))).1 o k = s1.1 o k := fun o k h => (y_up_ne (by omega)).trans ((y_up_ne (by omega)).trans ((y_up_ne (by omega)).trans ((y_up_ne (by omega)).trans ((y_up_ne (by omega)).trans ((y_up_ne (by omega)).trans ((y_up_ne (by omega)).trans (y_up_ne (by omega))))))))
    have w48 : (y_up (y_up (y_up (y_up (y_up (y_up (y_up (y_up s1 65 47 (.inl (s1.1 65 41))) 65 48 (.inl (s1.1 65 42))) 65 49 (.inl (s1.1 65 43))) 65 50 (.inl (s1.1 65 44))) 65 51 (.inl (s1.1 65 45))) 65 52 (.inl (s1.1 65 46))) 65 21 (.inl (s1.1 65 20))) 65 25 (.inl (s1.1 65 24))).1 65 48 = s1.1 65 42 := rfl
    have hn2 : ¬ 0 < tq.1 65 2 := by
      intro q
      have q2 : (0 : Int) < (tq.1 65 2).toInt := Int32.lt_iff_toInt_lt.mp q
      rw [hv2] at q2
      omega
    have hx : s1.1 65 24 = 0 ∨ s1.1 65 24 = 1 := by
      have q : (s1.1 65 24).toInt = 0 ∨ (s1.1 65 24).toInt = 1 := by omega
      rcases q with q | q
      · exact Or.inl (Int32.toInt_inj.mp q)
      · exact Or.inr (Int32.toInt_inj.mp q)
    refine y_run 31 rfl ?_
    show y_W g_sh g_ts d g_t275 (z_qyQ n s) 74 [(0, .inr (.inr 67))] [.inl (s1.1 65 24), .inr (.inr 67)] (y_up (y_up (y_up (y_up (y_up (y_up (y_up s1 65 47 (.inl (s1.1 65 41))) 65 48 (.inl (s1.1 65 42))) 65 49 (.inl (s1.1 65 43))) 65 50 (.inl (s1.1 65 44))) 65 51 (.inl (s1.1 65 45))) 65 52 (.inl (s1.1 65 46))) 65 21 (.inl (s1.1 65 20)))
    refine y_run 1 (y_qpb hx) ?_
    refine y_run 3 rfl ?_
    show y_W g_sh g_ts d g_t275 (z_qyQ n s) 82 [(0, .inr (.inr 67))] [.inl (s1.1 65 24), .inr (.inr 67)] (y_up (y_up (y_up (y_up (y_up (y_up (y_up (y_up s1 65 47 (.inl (s1.1 65 41))) 65 48 (.inl (s1.1 65 42))) 65 49 (.inl (s1.1 65 43))) 65 50 (.inl (s1.1 65 44))) 65 51 (.inl (s1.1 65 45))) 65 52 (.inl (s1.1 65 46))) 65 21 (.inl (s1.1 65 20))) 65 25 (.inl (s1.1 65 24)))
    revert t7 fa u w48
    generalize y_up (y_up (y_up (y_up (y_up (y_up (y_up (y_up s1 65 47 (.inl (s1.1 65 41))) 65 48 (.inl (s1.1 65 42))) 65 49 (.inl (s1.1 65 43))) 65 50 (.inl (s1.1 65 44))) 65 51 (.inl (s1.1 65 45))) 65 52 (.inl (s1.1 65 46))) 65 21 (.inl (s1.1 65 20))) 65 25 (.inl (s1.1 65 24)) = s2
    intro t2 fa u w48
    have rm := y_rng (lo := 2147483648) (hi := 2147483968) (g := 0) hT1 (o := 65) (k := 17) rfl rfl
    have go : ∀ F : Int32, 0 ≤ F.toInt → F.toInt ≤ 320 → (F.toInt = 0 ∨ (F = s1.1 65 17 ∧ (s1.1 65 24).toInt ≠ 0)) → y_W g_sh g_ts d g_t275 (z_qyQ n s) 93 [(0, .inr (.inr 67))] [.inl F, .inr (.inr 67)] s2 := by
      intro F hF0 hF1 hF
      have t3 := y_Tup0 (lo := 2147483648) (hi := 2147483968) (o := 65) (k := 18) (x := F) t2 rfl rfl (by omega) (by omega)
      have fb := fa.up (o := 65) (k := 18) (v := .inl F) rfl (by decide +kernel)
      have e18 : (y_up s2 65 18 (.inl F)).1 65 18 = F := y_up_self
      have v48 : (y_up s2 65 18 (.inl F)).1 65 48 = s1.1 65 42 := (y_up_ne (by omega)).trans w48
      have v2 : (y_up s2 65 18 (.inl F)).1 65 2 = s1.1 65 2 := (y_up_ne (by omega)).trans (u 65 2 (by omega))
      have v3 : (y_up s2 65 18 (.inl F)).1 65 3 = s1.1 65 3 := (y_up_ne (by omega)).trans (u 65 3 (by omega))
      have ut : (y_up s2 65 18 (.inl F)).1 65 1 = s1.1 65 1 := (y_up_ne (by omega)).trans (u 65 1 (by omega))
      have ur : ∀ o k, o ≠ 65 → (y_up s2 65 18 (.inl F)).1 o k = s1.1 o k := fun o k h => (y_up_ne (by omega)).trans (u o k (by omega))
      refine y_run 3 rfl ?_
      refine y_sub (ls1 := [(0, .inr (.inr 67)), (1, .inl ((Int32.ofInt 0)))]) (show ([0, 1] : List Nat).Nodup by decide) (y_R_cons rfl (y_R_cons rfl y_R_nil)) ?_
      show y_W g_sh g_ts d g_t275 (z_qyQ n s) 98 [(0, .inr (.inr 67)), (1, .inl ((Int32.ofInt 0)))] [] (y_up s2 65 18 (.inl F))
      revert t3 fb e18 ut ur v48 v2 v3
      generalize y_up s2 65 18 (.inl F) = s0
      intro t3 fb e18 v48 v2 v3 ut ur
      refine y_qu1 (s0 := s0) (by rw [e18]; exact hF1) (fun s3 ls hJ3 hr l0 => ?_) 320 s0 (Int32.ofInt 0) 0 rfl (by omega) (by omega) ⟨t3, y_fr.rf⟩ (fun j hj => by omega)
      have f3 : y_fr g_sh y_qyK s s3 := (hf1b.tr (fb.mono (by decide +kernel))).tr (hJ3.2.mono (by decide +kernel))
      have h48 : s3.1 65 48 = s1.1 65 42 := (hJ3.2.at (o := 65) (k := 48) (A := w_n 0 7 0) rfl rfl (by decide +kernel)).trans v48
      have h2 : s3.1 65 2 = s1.1 65 2 := (hJ3.2.at (o := 65) (k := 2) rfl rfl (by decide +kernel)).trans v2
      have h3 : s3.1 65 3 = s1.1 65 3 := (hJ3.2.at (o := 65) (k := 3) rfl rfl (by decide +kernel)).trans v3
      have g18 : s3.1 65 18 = F := (hJ3.2.at (o := 65) (k := 18) (A := w_n 0 320 0) rfl rfl (by decide +kernel)).trans e18
      have ht3 : (s3.1 65 1).toInt = 0 := by
        rw [hJ3.2.at (o := 65) (k := 1) (A := w_n 0 1600 0) rfl rfl (by decide +kernel), ut]
        exact ht1
      have hFD : ∃ D, y_FD D s3.1 := by
        rcases hF with hF | ⟨hF, hne⟩
        · refine ⟨fun _ => 0, rfl, by rw [g18]; exact hF1, fun i hi => ?_⟩
          rw [g18] at hi
          omega
        · obtain ⟨M, e, hM, hM2, D, D0, -, DD⟩ := hb.2.2 hne
          refine ⟨D, D0, by rw [g18]; exact hF1, fun i hi => ?_⟩
          rw [g18] at hi
          rw [e18] at hr
          obtain ⟨r1, r2⟩ := hr i hi
          rw [r1, r2, ur 68 i (by omega), ur 69 i (by omega)]
          rw [hF, hM] at hi
          exact DD i (by omega)
      have rs := y_rng (lo := 2147483648) (hi := 2147483653) (g := 0) hJ3.1 (o := 65) (k := 47) rfl rfl
      have rq := y_rng (lo := 2147483648) (hi := 2147483655) (g := 0) hJ3.1 (o := 65) (k := 48) rfl rfl
      refine y_sub (ls1 := [(0, .inr (.inr 67))]) (show ([0] : List Nat).Nodup by decide) (y_R_cons l0 y_R_nil) ?_
      refine y_run 2 rfl ?_
      refine y_sub (ls1 := [(0, .inr (.inr 67)), (1, .inl ((Int32.ofInt 0)))]) (show ([0, 1] : List Nat).Nodup by decide) (y_R_cons rfl (y_R_cons rfl y_R_nil)) ?_
      refine y_qu2 (s0 := s3) (by omega) (fun s4 ls hJ4 l0 => ?_) 5 s3 (Int32.ofInt 0) 0 rfl (by omega) (by omega) ⟨hJ3.1, y_fr.rf⟩
      refine y_sub (ls1 := [(0, .inr (.inr 67))]) (show ([0] : List Nat).Nodup by decide) (y_R_cons l0 y_R_nil) ?_
      refine y_run 2 rfl ?_
      refine y_sub (ls1 := [(0, .inr (.inr 67)), (1, .inl ((Int32.ofInt 0)))]) (show ([0, 1] : List Nat).Nodup by decide) (y_R_cons rfl (y_R_cons rfl y_R_nil)) ?_
      exact y_qu3 (s0 := s3) (by omega) (z_qu5 (by omega) has f3 hC hFD ht3 ⟨tq, hu1, hn2, hv42.trans h48.symm, hv2.trans h2.symm, hv3.trans h3.symm⟩) 7 s4 (Int32.ofInt 0) 0 rfl (by omega) (by omega) hJ4
    refine y_if rfl (fun h => ?_) (fun h => ?_)
    · refine y_run 1 rfl ?_
      exact go (Int32.ofInt 0) (show (0 : Int) ≤ 0 by omega) (show (0 : Int) ≤ 320 by omega) (Or.inl rfl)
    · have hne : (s1.1 65 24).toInt ≠ 0 := h
      refine y_run 3 rfl ?_
      show y_W g_sh g_ts d g_t275 (z_qyQ n s) 93 [(0, .inr (.inr 67))] [.inl (s2.1 65 17), .inr (.inr 67)] s2
      rw [u 65 17 (by omega)]
      exact go (s1.1 65 17) (by omega) (by omega) (Or.inr ⟨rfl, hne⟩)
  · refine y_run 1 rfl ?_
    have hp2 : 0 < tq.1 65 2 := by
      have h2 : ¬ (s1.1 65 2).toInt ≤ 0 := h
      refine Int32.lt_iff_toInt_lt.mpr ?_
      rw [hv2]
      show (0 : Int) < _
      omega
    exact y_iret rfl ⟨⟨⟨hT1, hf1b, _, rfl⟩, ht1⟩, tq, hu1, by rw [if_pos hp2], hv2.symm, hv3.symm⟩
