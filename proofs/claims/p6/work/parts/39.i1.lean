/-! by hand: lengthOf whole -/
theorem y_half {v : Int32} (h1 : 1 ≤ v.toInt) (h2 : v.toInt ≤ 60) : 0 ≤ (v / 2).toInt ∧ (v / 2).toInt ≤ 30 := by
  have e := q_div_int (x := v) (y := 2) (u := v.toInt.toNat) (v := 2) (by omega) rfl
  have h3 : v.toInt.toNat / 2 ≤ 30 := by omega
  omega
def y_lenQ (V : w_V) (s : y_H) (v : Option (q_V Int32)) (s2 : y_H) : Prop := w_T V g_sh (y_mk g_sh s2) ∧ y_fr g_sh y_lm s s2 ∧ ∃ r : Int32, v = some (.inl r) ∧ 1 ≤ r.toInt ∧ r.toInt ≤ 60
section LEN2
variable {V : w_V} {D : Nat → Nat} {d : Nat} {s0 s : y_H} {pr : Int32}
/-- behind the loop -/
theorem y_len_end (hd : 1 ≤ d) (hp0 : 0 ≤ pr.toInt) (hp7 : pr.toInt ≤ 7) (hwithin : w_Ent V g_sh g_ts (323, [w_t 0, w_n 1 1 0, w_n 60 60 0], [], [], [([], some (w_n 1 60 0), [])], 1)) (hhas : w_Ent V g_sh g_ts (216, [w_t 0, w_n 0 7 0], [], [], [([], some (w_n 0 0 0), []), ([], some (w_n 1 1 0), [])], 1)) (hgr : w_Ent V g_sh g_ts (214, [w_n 1 1 0, w_n 0 30 0], [], [], [([], some (w_n 1 30 0), [])], 1)) (v : Int32) (hG : y_LG V D s0 s) : y_W g_sh g_ts d g_t250 (y_lenQ V s0) 260 [(0, .inr (.inr 67)), (1, .inl pr), (3, .inl v)] [] s := by
  obtain ⟨hT, hF, hf⟩ := id hG
  have fin : ∀ v : Int32, y_W g_sh g_ts d g_t250 (y_lenQ V s0) 274 [(0, .inr (.inr 67)), (1, .inl pr), (3, .inl v)] [] s := by
    intro v
    refine y_run 3 rfl ?_
    refine y_callE hwithin rfl 0 rfl (fun _ _ _ => rfl) (a := [.inl v, .inl 1, .inl 60]) rfl rfl (fun _ _ => rfl) hd hT ⟨y_ivall, y_iv (by decide) (by decide), y_iv (by decide) (by decide), True.intro⟩ (fun vv hv => ?_)
    obtain ⟨q, hq, ho⟩ := hv
    have eq : q = ([], some (w_n 1 60 0), []) := by simpa using hq
    subst eq
    obtain ⟨z, rfl, z1, z2⟩ := y_ans ho
    have z3 : 1 ≤ z.toInt := by omega
    have z4 : z.toInt ≤ 60 := by omega
    refine y_run 4 rfl ?_
    refine y_ald (o := 86) (sz := 28) (j := 17) rfl rfl rfl (by omega) rfl ?_
    refine y_run 1 rfl ?_
    refine y_callE hhas rfl 0 rfl (fun _ _ _ => rfl) (a := [.inl (s.1 86 17), .inl pr]) rfl rfl (fun _ _ => rfl) hd hT ⟨y_ivall, y_iv (by omega) (by omega), True.intro⟩ (fun vv hv => ?_)
    obtain ⟨q, hq, ho⟩ := hv
    have hbit : ∃ b : Int32, vv = some (.inl b) := by
      have hq2 : q = ([], some (w_n 0 0 0), []) ∨ q = ([], some (w_n 1 1 0), []) := by simpa using hq
      rcases hq2 with rfl | rfl
      · obtain ⟨b, e, -, -⟩ := y_ans ho
        exact ⟨b, e⟩
      · obtain ⟨b, e, -, -⟩ := y_ans ho
        exact ⟨b, e⟩
    obtain ⟨b, rfl⟩ := hbit
    refine y_if rfl (fun _ => ?_) (fun _ => ?_)
    · refine y_run 1 rfl ?_
      exact y_iret rfl ⟨hT, hf, z, rfl, z3, z4⟩
    · refine y_run 3 rfl ?_
      refine y_idiv rfl (show (2 : Int) ≠ 0 by omega) ?_
      have hh := y_half z3 z4
      refine y_callE hgr rfl 0 rfl (fun _ _ _ => rfl) (a := [.inl 1, .inl (z / 2)]) rfl rfl (fun _ _ => rfl) hd hT ⟨y_iv (by decide) (by decide), y_iv (by omega) (by omega), True.intro⟩ (fun vv hv => ?_)
      obtain ⟨q, hq, ho⟩ := hv
      have eq : q = ([], some (w_n 1 30 0), []) := by simpa using hq
      subst eq
      obtain ⟨w, rfl, w1, w2⟩ := y_ans ho
      refine y_run 1 rfl ?_
      exact y_iret rfl ⟨hT, hf, w, rfl, by omega, by omega⟩
  refine y_run 2 rfl ?_
  refine y_if rfl (fun _ => fin v) (fun _ => ?_)
  refine y_run 3 rfl ?_
  refine y_valld (j := 0) rfl rfl (by omega) (fun w => ?_)
  refine y_run 1 rfl ?_
  exact y_sub (ls1 := [(0, .inr (.inr 67)), (1, .inl pr), (3, .inl w)]) (show ([0, 1, 3] : List Nat).Nodup by decide) (y_R_cons rfl (y_R_cons rfl (y_R_cons rfl y_R_nil))) (fin w)
end LEN2
theorem y_lengthOf {V : w_V} (h0 : w_Ent V g_sh g_ts (313, [w_n 0 0 0], [], [], [([], some (w_n 0 0 0), [])], 1)) (h1 : w_Ent V g_sh g_ts (313, [w_n 1 1 0], [], [], [([], some (w_n 1 1 0), [])], 1)) (hdone : w_Ent V g_sh g_ts (196, [w_t 0, w_t 0, w_t 0], [], [], [([], some (w_t 0), [])], 2)) (hwithin : w_Ent V g_sh g_ts (323, [w_t 0, w_n 1 1 0, w_n 60 60 0], [], [], [([], some (w_n 1 60 0), [])], 1)) (hhas : w_Ent V g_sh g_ts (216, [w_t 0, w_n 0 7 0], [], [], [([], some (w_n 0 0 0), []), ([], some (w_n 1 1 0), [])], 1)) (hgr : w_Ent V g_sh g_ts (214, [w_n 1 1 0, w_n 0 30 0], [], [], [([], some (w_n 1 30 0), [])], 1)) (hless : w_Ent V g_sh g_ts (251, [w_t 0, w_t 0], [], [], [([], some (w_t 0), [])], 1)) (hsails : w_Ent V g_sh g_ts (291, [w_r 67, w_n 0 4 0], [], [], [([], some (w_n 0 20238 0), [])], 2)) : y_C g_sh g_ts 250 3 (fun a s => w_T V g_sh (y_mk g_sh s) ∧ (∃ D, y_FD D s.1) ∧ ∃ x b : Int32, a = [.inr (.inr 67), .inl x, .inl b] ∧ 0 ≤ x.toInt ∧ x.toInt ≤ 7) (fun _ s v s2 => y_lenQ V s v s2) := by
  refine y_C.of (t := g_t250) rfl (by decide) ?_
  rintro d a s0 hd ⟨hT, ⟨D, hF⟩, x, b, rfl, hx0, hx7⟩
  have hG : y_LG V D s0 s0 := ⟨hT, hF, y_fr.rf⟩
  have hj : x.toInt = ((x.toInt.toNat : Nat) : Int) := by omega
  have hj8 : x.toInt.toNat < 8 := by omega
  have kA : ∀ (o j : Nat) (a : q_J × Nat), g_sh[o]? = some (100, 8, [.inl a]) → y_kd g_sh o j = 0 := fun o j a h => y_kdA h
  refine y_run 6 rfl ?_
  refine y_ald (o := 83) (sz := 8) (j := x.toInt.toNat) rfl rfl hj hj8 (kA 83 _ ((0, 4294967295), 0) rfl) ?_
  refine y_askst (j := 0) hG rfl rfl (by omega) (fun s1 hG1 => ?_)
  refine y_run 6 rfl ?_
  refine y_ald (o := 84) (sz := 8) (j := x.toInt.toNat) rfl rfl hj hj8 (kA 84 _ ((0, 4294967295), 0) rfl) ?_
  refine y_askst (j := 1) hG1 rfl rfl (by omega) (fun s2 hG2 => ?_)
  refine y_run 5 rfl ?_
  refine y_askst (j := 2) hG2 rfl rfl (by omega) (fun s3 hG3 => ?_)
  refine y_run 4 rfl ?_
  refine y_askst (j := 3) hG3 rfl rfl (by omega) (fun s4 hG4 => ?_)
  refine y_run 7 rfl ?_
  refine y_ald (o := 82) (sz := 8) (j := x.toInt.toNat) rfl rfl hj hj8 (kA 82 _ ((2147483648, 2147483652), 0) rfl) ?_
  have hship := y_rng (lo := 2147483648) (hi := 2147483652) (g := 0) hG4.1 (o := 82) (k := x.toInt.toNat) (y_tyA (tag := 100) (sz := 8) (A := .inl ((2147483648, 2147483652), 0)) rfl hj8) (kA 82 _ ((2147483648, 2147483652), 0) rfl)
  refine y_callE hsails rfl 1 rfl (fun _ _ _ => rfl) (a := [.inr (.inr 67), .inl (s4.1 82 x.toInt.toNat)]) rfl rfl (fun h hR => y_mayV (o := 65) (sz := 85) rfl hR) (by omega) hG4.1 ⟨⟨67, rfl, List.mem_cons_self⟩, y_iv (by omega) (by omega), True.intro⟩ (fun vv hv => ?_)
  obtain ⟨q, hq, ho⟩ := hv
  have eq : q = ([], some (w_n 0 20238 0), []) := by simpa using hq
  subst eq
  obtain ⟨z, rfl, -, -⟩ := y_ans ho
  refine y_run 3 rfl ?_
  refine y_ald (o := 86) (sz := 28) (j := 26) rfl rfl rfl (by omega) rfl ?_
  refine y_run 1 rfl ?_
  refine y_askst (j := 4) hG4 rfl rfl (by omega) (fun s5 hG5 => ?_)
  refine y_run 6 rfl ?_
  refine y_ald (o := 86) (sz := 28) (j := 26) rfl rfl rfl (by omega) rfl ?_
  refine y_askst (j := 5) hG5 rfl rfl (by omega) (fun s6 hG6 => ?_)
  refine y_run 3 rfl ?_
  refine y_ald (o := 83) (sz := 8) (j := x.toInt.toNat) rfl rfl hj hj8 (kA 83 _ ((0, 4294967295), 0) rfl) ?_
  refine y_run 2 rfl ?_
  refine y_callE hless rfl 0 rfl (fun _ _ _ => rfl) (a := [.inl (s6.1 83 x.toInt.toNat), .inl (s6.1 65 27)]) rfl rfl (fun _ _ => rfl) (by omega) hG6.1 ⟨y_ivall, y_ivall, True.intro⟩ (fun vv hv => ?_)
  obtain ⟨q, hq, ho⟩ := hv
  have eq : q = ([], some (w_t 0), []) := by simpa using hq
  subst eq
  obtain ⟨w, rfl, -, -⟩ := y_ans ho
  refine y_run 5 rfl ?_
  refine y_sub (ls1 := [(0, .inr (.inr 67)), (1, .inl x), (3, .inl w), (4, .inl 0), (5, .inl 0)]) (show ([0, 1, 3, 4, 5] : List Nat).Nodup by decide) (y_R_cons rfl (y_R_cons rfl (y_R_cons rfl (y_R_cons rfl (y_R_cons rfl y_R_nil))))) ?_
  have hD0 := hG6.2.1.1
  have hN := hG6.2.1.2.1
  refine y_len_loop (D := D) (s0 := s0) (by omega) h0 h1 hdone (fun s v hGs => y_len_end (by omega) hx0 hx7 hwithin hhas hgr v hGs) 320 s6 w 0 0 0 hG6 rfl (by rw [hD0]; rfl) (by omega) (by omega) (by omega)
