/-! by hand: join, saysWithout, saysNow, delay, grudge of the model -/
theorem y_AI_join {m : Int} {f f2 : Nat → Int32} {P : Nat} (h : y_AI m f) (hP : P < 7) (h3 : 3 ≤ (f (9 + P)).toInt) (h8 : (f2 8).toInt = (f 8).toInt + 1) (hq : ∀ k : Nat, k < 8 → (k : Int) ≠ (f 8).toInt → f2 k = f k) (hl : (f2 (f 8).toInt.toNat).toInt = (P : Int)) (h0 : 0 ≤ (f 8).toInt) (hv : f2 (9 + P) = 0) (hst : ∀ j, j < 8 → j ≠ P → f2 (9 + j) = f (9 + j)) (hr : ∀ r, r < 3 → f2 (18 + r) = f (18 + r)) : (f 8).toInt ≤ 6 ∧ y_AI m f2 := by
  have hs := y_Rw_sg h.1
  have hx := y_cn_up (f := fun p => y_x34 (f (9 + p))) (g := fun p => y_x34 (f2 (9 + p))) (P := P) 7 hP (fun i hi hne => by rw [hst i (by omega) hne])
  have x1 : y_x34 (f (9 + P)) = 1 := if_pos h3
  have x2 : y_x34 (f2 (9 + P)) = 0 := by
    rw [hv]
    rfl
  have ho := y_sg_o0 (f := f) (f2 := f2) hr
  have hsum : y_Sg f2 + 1 = y_Sg f := by
    unfold y_Sg
    rw [x1, x2] at hx
    omega
  have h6 : (f 8).toInt ≤ 6 := by omega
  refine ⟨h6, ⟨fun p hp hm h00 => ?_, y_sg_Rw (by omega)⟩, fun k hk => ?_, fun r h1 => by rw [hr r h1]; exact h.2.2 r h1⟩
  · by_cases e : p = P
    · subst e
      exact ⟨(f 8).toInt.toNat, by omega, by omega, hl⟩
    · rw [hst p (by omega) e] at h00
      obtain ⟨k, k8, k1, k2⟩ := h.1.1 p hp hm h00
      exact ⟨k, k8, by omega, by rw [hq k k8 (by omega)]; exact k2⟩
  · by_cases e : (k : Int) = (f 8).toInt
    · rw [show k = (f 8).toInt.toNat by omega, hl]
      omega
    · rw [hq k hk e]
      exact h.2.1 k hk
theorem y_plNo : ∀ k, k < 28 → 17 ≤ k → w_inm [(352320, 352336)] (w_key 86 k) = false := by decide +kernel
theorem y_joinM {n : Nat} {FM : w_U} (has : y_eAsTold (y_Vn n) FM) (hsails : y_eSails (y_Vn n)) : y_C g_sh g_ts 239 4 (fun a s => w_T (y_Vn n) g_sh (y_mk g_sh s) ∧ ∃ x : Int32, a = [.inr (.inr 67), .inl x]) (fun _ s v s2 => y_pubQ n y_miK s v s2) := by
  refine y_C.of (t := g_t239) rfl (by decide) ?_
  rintro d a s hd ⟨hT, x, rfl⟩
  refine y_run 1 rfl ?_
  refine y_call (y_fillF has) 1 rfl (fun _ _ _ => rfl) (a := [.inr (.inr 67)]) rfl rfl (fun h hR => y_mayV (o := 65) (sz := 85) rfl hR) (by omega) ⟨hT, rfl⟩ (fun v s1 hQ => ?_)
  obtain ⟨rfl, hT1, hf1, -⟩ := hQ
  have hf1b : y_fr g_sh y_miK s s1 := hf1.mono (by decide +kernel)
  have hp := y_pairs hT1
  have no : ∀ ls : q_U Int32, y_W g_sh g_ts d g_t239 (y_pubQ n y_miK s) 51 ls [] s1 := by
    intro ls
    refine y_run 1 rfl ?_
    exact y_iret rfl ⟨hT1, hf1b, _, rfl⟩
  refine y_run 2 rfl ?_
  refine y_call (y_isPairF (V := y_Vn n)) 1 rfl (fun _ _ _ => rfl) (a := [.inr (.inr 67), .inl x]) rfl rfl (fun h hR => y_mayV (o := 65) (sz := 85) rfl hR) (by omega) ⟨hT1, x, rfl⟩ (fun v s2 hQ => ?_)
  obtain ⟨rfl, hQ⟩ := hQ
  rcases hQ x rfl with ⟨rfl, x0, x1⟩ | rfl
  · refine y_if rfl (fun h => absurd (show (1 : Int) = 0 from h) (by omega)) (fun _ => ?_)
    have e9 : ((Int8.ofInt 9).toInt32 + x).toInt = ((9 + x.toInt.toNat : Nat) : Int) := y_adds (A := 9) (B := x.toInt.toNat) rfl (by omega) (by omega)
    have yes : ∀ ls : q_U Int32, q_at ls 0 = some (.inr (.inr 67)) → q_at ls 1 = some (.inl x) → 3 ≤ (s2.1 85 (9 + x.toInt.toNat)).toInt → y_W g_sh g_ts d g_t239 (y_pubQ n y_miK s) 38 ls [] s2 := by
      intro ls l0 l1 h3
      refine y_sub (ls1 := [(0, .inr (.inr 67)), (1, .inl x)]) (show ([0, 1] : List Nat).Nodup by decide) (y_R_cons l0 (y_R_cons l1 y_R_nil)) ?_
      refine y_run 4 rfl ?_
      refine y_ald82 (j := x.toInt.toNat) rfl (by omega) (by omega) ?_
      have hsh := y_shipOf hT1 (j := x.toInt.toNat) (by omega)
      refine y_call (y_isGone hsails) 1 rfl (fun _ _ _ => rfl) (a := [.inr (.inr 67), .inl ((s2.1 82 x.toInt.toNat))]) rfl rfl (fun h hR => y_mayV (o := 65) (sz := 85) rfl hR) (by omega) ⟨hT1, _, rfl, hsh.1, hsh.2⟩ (fun v s3 hQ => ?_)
      obtain ⟨rfl, hg⟩ := hQ
      rcases hg with rfl | ⟨rfl, -⟩
      · exact y_if rfl (fun h => absurd (show (1 : Int) = 0 from h) (by omega)) (fun _ => no _)
      · refine y_if rfl (fun _ => ?_) (fun h => absurd rfl h)
        refine y_run 1 rfl ?_
        refine y_call (y_actM has) 1 rfl (fun _ _ _ => rfl) (a := [.inr (.inr 67)]) rfl rfl (fun h hR => y_mayV (o := 65) (sz := 85) rfl hR) (by omega) ⟨hT1, rfl⟩ (fun v s4 hQ => ?_)
        obtain ⟨rfl, hT4, hf4, he4⟩ := hQ
        obtain ⟨e48, hA4⟩ := y_acAI hT1 hf4 he4
        have h8 := y_air8 hT4
        have hs4 := y_Rw_sg hA4.1
        refine y_run 2 rfl ?_
        refine y_call (y_putLast (V := y_Vn n)) 1 rfl (fun _ _ _ => rfl) (a := [.inr (.inr 67), .inl x]) rfl rfl (fun h hR => y_mayV (o := 65) (sz := 85) rfl hR) (by omega) ⟨hT4, x, x.toInt.toNat, rfl, by omega, by omega, by omega⟩ (fun v s5 hQ => ?_)
        obtain ⟨rfl, hT5, hf5, hm5, hq5, hl5, hv5, hs5⟩ := hQ x x.toInt.toNat rfl (by omega)
        obtain ⟨-, hA5⟩ := y_AI_join (P := x.toInt.toNat) hA4 (by omega) (by rw [he4 _ (by omega)]; exact h3) hm5 hq5 hl5 (by omega) hv5 hs5 (fun r hr => y_at86 hf5 (by omega) (y_plNo _ (by omega) (by omega)))
        have e5 : s5.1 65 48 = s4.1 65 48 := hf5.at (o := 65) (k := 48) (A := w_n 0 7 0) rfl rfl (by decide +kernel)
        refine y_run 1 rfl ?_
        refine y_call y_keepAir 1 rfl (fun _ _ _ => rfl) (a := [.inr (.inr 67)]) rfl rfl (fun h hR => y_mayV (o := 65) (sz := 85) rfl hR) (by omega) rfl (fun v s6 hQ => ?_)
        obtain ⟨rfl, rfl⟩ := hQ
        refine y_run 3 rfl ?_
        refine y_ald (o := 85) (sz := 28) (j := 8) rfl rfl rfl (by omega) rfl ?_
        refine y_run 2 rfl ?_
        exact y_iret rfl ⟨y_keepV hT5 (by rw [e5]; exact hA5), (((hf1b.tr (hf4.mono (by decide +kernel))).tr (hf5.mono (by decide +kernel)))).cp (by decide +kernel), _, rfl⟩
    refine y_run 5 rfl ?_
    refine y_ald (o := 85) (sz := 28) (j := 9 + x.toInt.toNat) rfl rfl e9 (by omega) (y_k85 _ (by omega)) ?_
    refine y_run 1 rfl ?_
    refine y_ic rfl (fun h => ?_) (fun _ => ?_)
    · have h4 : (s2.1 85 (9 + x.toInt.toNat)).toInt = 4 := h
      exact yes _ rfl rfl (by omega)
    · refine y_run 5 rfl ?_
      refine y_ald (o := 85) (sz := 28) (j := 9 + x.toInt.toNat) rfl rfl e9 (by omega) (y_k85 _ (by omega)) ?_
      refine y_run 1 rfl ?_
      refine y_ic rfl (fun _ => no _) (fun h => ?_)
      have h4 : (s2.1 85 (9 + x.toInt.toNat)).toInt = 3 := Classical.byContradiction fun q => h q
      exact yes _ rfl rfl (by omega)
  · exact y_if rfl (fun _ => no _) (fun h => absurd rfl h)
abbrev y_eGoOn (V : w_V) : Prop := w_Ent V g_sh g_ts (213, [w_r 67], [], [(266366, 266366), (299072, 299135), (303168, 303173), (352320, 352326), (352328, 352336), (352338, 352343), (352345, 352346), (356416, 356418), (360512, 360514), (364608, 364615), (368704, 368711)], [([], none, [])], 6)
abbrev y_eSaid (V : w_V) : Prop := w_Ent V g_sh g_ts (288, [w_r 67, w_n 0 6 0], [], [], [([], some (w_n 0 2147483647 0), [])], 2)
/-- a method that thinks: it ends, what is kept is kept -/
def y_thQ (n : Nat) (s : y_H) (v : Option (q_V Int32)) (s2 : y_H) : Prop := w_T (y_Vn n) g_sh (y_mk g_sh s2) ∧ y_fr g_sh y_arK s s2 ∧ ∃ x : Int32, v = some (.inl x)
theorem y_arNo : ∀ k, k < 28 → w_inm y_arK (w_key 85 k) = false := by decide +kernel
theorem y_th85 {s s2 : y_H} (hf : y_fr g_sh y_arK s s2) {k : Nat} (hk : k < 28) : s2.1 85 k = s.1 85 k := y_at85 hf hk (y_arNo k hk)
theorem y_th48 {s s2 : y_H} (hf : y_fr g_sh y_arK s s2) : s2.1 65 48 = s.1 65 48 := hf.at (o := 65) (k := 48) (A := w_n 0 7 0) rfl rfl (by decide +kernel)
theorem y_flAI {n : Nat} {s s2 : y_H} (hT : w_T (y_Vn n) g_sh (y_mk g_sh s)) (hf : y_fr g_sh y_flK s s2) (he : ∀ k, k < 28 → s2.1 86 k = s.1 85 k) : s2.1 65 48 = s.1 65 48 ∧ y_AI (s2.1 65 48).toInt (s2.1 86) := by
  have e : s2.1 65 48 = s.1 65 48 := hf.at (o := 65) (k := 48) (A := w_n 0 7 0) rfl rfl (by decide +kernel)
  refine ⟨e, ?_⟩
  rw [e]
  exact y_AI_eq (fun k hk _ => he k (by omega)) (y_AI_now hT)
theorem y_saysNow {n : Nat} {FM : w_U} (has : y_eAsTold (y_Vn n) FM) (hgo : y_eGoOn (y_Vn n)) (hsaid : y_eSaid (y_Vn n)) : y_C g_sh g_ts 293 7 (fun a s => w_T (y_Vn n) g_sh (y_mk g_sh s) ∧ ∃ x : Int32, a = [.inr (.inr 67), .inl x] ∧ 0 ≤ x.toInt ∧ x.toInt ≤ 6) (fun _ s v s2 => y_thQ n s v s2) := by
  refine y_C.of (t := g_t293) rfl (by decide) ?_
  rintro d a s hd ⟨hT, x, rfl, x0, x6⟩
  refine y_run 1 rfl ?_
  refine y_call (y_fillF has) 1 rfl (fun _ _ _ => rfl) (a := [.inr (.inr 67)]) rfl rfl (fun h hR => y_mayV (o := 65) (sz := 85) rfl hR) (by omega) ⟨hT, rfl⟩ (fun v s1 hQ => ?_)
  obtain ⟨rfl, hT1, hf1, -⟩ := hQ
  refine y_run 1 rfl ?_
  refine y_callN ⟨rfl, hgo⟩ 1 rfl (fun _ _ _ => rfl) (a := [.inr (.inr 67)]) rfl rfl (fun h hR => y_mayV (o := 65) (sz := 85) rfl hR) (by omega) hT1 ⟨⟨67, rfl, List.mem_cons_self⟩, True.intro⟩ (fun s2 hT2 hf2 => ?_)
  refine y_run 2 rfl ?_
  refine y_callI ⟨rfl, hsaid⟩ 1 rfl (fun _ _ _ => rfl) (a := [.inr (.inr 67), .inl x]) rfl rfl (fun h hR => y_mayV (o := 65) (sz := 85) rfl hR) (by omega) hT2 ⟨⟨67, rfl, List.mem_cons_self⟩, y_iv (by omega) (by omega), True.intro⟩ (fun z s3 hT3 hf3 _ _ => ?_)
  exact y_iret rfl ⟨hT3, ((hf1.mono (by decide +kernel)).tr (hf2.mono (by decide +kernel))).tr (hf3.mono rfl), _, rfl⟩
theorem y_saysWithout {n : Nat} {FM : w_U} (has : y_eAsTold (y_Vn n) FM) (hgo : y_eGoOn (y_Vn n)) (hsaid : y_eSaid (y_Vn n)) : y_C g_sh g_ts 294 7 (fun a s => w_T (y_Vn n) g_sh (y_mk g_sh s) ∧ ∃ x o : Int32, a = [.inr (.inr 67), .inl x, .inl o] ∧ 0 ≤ x.toInt ∧ x.toInt ≤ 6 ∧ 0 ≤ o.toInt ∧ o.toInt < (s.1 65 48).toInt ∧ (s.1 85 (9 + o.toInt.toNat)).toInt = 0) (fun _ s v s2 => y_thQ n s v s2) := by
  refine y_C.of (t := g_t294) rfl (by decide) ?_
  rintro d a s hd ⟨hT, x, o, rfl, x0, x6, o0, o1, os⟩
  have hp := y_pairs hT
  refine y_run 1 rfl ?_
  refine y_call (y_fillF has) 1 rfl (fun _ _ _ => rfl) (a := [.inr (.inr 67)]) rfl rfl (fun h hR => y_mayV (o := 65) (sz := 85) rfl hR) (by omega) ⟨hT, rfl⟩ (fun v s1 hQ => ?_)
  obtain ⟨rfl, hT1, hf1, he1⟩ := hQ
  obtain ⟨e48, hA1⟩ := y_flAI hT hf1 he1
  obtain ⟨X0, X8, hX0, eX0⟩ := y_AI_in hA1 o0 (by rw [e48]; exact o1) (by omega) (by rw [he1 _ (by omega)]; exact os)
  refine y_run 6 rfl ?_
  refine y_call (y_placeOf (V := y_Vn n)) 1 rfl (fun _ _ _ => rfl) (a := [.inr (.inr 67), .inl o]) rfl rfl (fun h hR => y_mayV (o := 65) (sz := 85) rfl hR) (by omega) ⟨hT1, o, rfl⟩ (fun v s2 hQ => ?_)
  obtain ⟨rfl, hv⟩ := hQ o rfl
  rcases hv with ⟨-, hno⟩ | ⟨z, X, rfl, hz, hX, eX⟩
  · exact absurd eX0 (hno X0 hX0)
  have h8 := y_air8 hT1
  refine y_call (y_takeOut (V := y_Vn n)) 1 rfl (fun _ _ _ => rfl) (a := [.inr (.inr 67), .inl z]) rfl rfl (fun h hR => y_mayV (o := 65) (sz := 85) rfl hR) (by omega) ⟨hT1, z, X, rfl, hz, by omega, by omega⟩ (fun v s3 hQ => ?_)
  obtain ⟨rfl, hT3, hf3, -⟩ := hQ _ X rfl hz
  rw [eX]
  have e9 : ((Int8.ofInt 9).toInt32 + o).toInt = ((9 + o.toInt.toNat : Nat) : Int) := y_adds (A := 9) (B := o.toInt.toNat) rfl (by omega) (by omega)
  refine y_run 2 rfl ?_
  refine y_ast86 (lo := 2147483648) (hi := 2147483652) hT3 rfl e9 (by omega) (y_airs _ (by omega)) (show (_ : Int) ≤ 4 by omega) (show (4 : Int) ≤ _ by omega) (fun hT4 => ?_)
  have hf4 : y_fr g_sh y_arK s (y_up s3 86 (9 + o.toInt.toNat) (.inl (Int32.ofInt 4))) := ((hf1.mono (by decide +kernel)).tr (hf3.mono (by decide +kernel))).up (y_airk _ (by omega)) (y_msA (sz := 28) (by decide +kernel) (by omega))
  refine y_run 1 rfl ?_
  refine y_callN ⟨rfl, hgo⟩ 1 rfl (fun _ _ _ => rfl) (a := [.inr (.inr 67)]) rfl rfl (fun h hR => y_mayV (o := 65) (sz := 85) rfl hR) (by omega) hT4 ⟨⟨67, rfl, List.mem_cons_self⟩, True.intro⟩ (fun s5 hT5 hf5 => ?_)
  refine y_run 2 rfl ?_
  refine y_callI ⟨rfl, hsaid⟩ 1 rfl (fun _ _ _ => rfl) (a := [.inr (.inr 67), .inl x]) rfl rfl (fun h hR => y_mayV (o := 65) (sz := 85) rfl hR) (by omega) hT5 ⟨⟨67, rfl, List.mem_cons_self⟩, y_iv (by omega) (by omega), True.intro⟩ (fun z s6 hT6 hf6 _ _ => ?_)
  exact y_iret rfl ⟨hT6, (hf4.tr (hf5.mono (by decide +kernel))).tr (hf6.mono rfl), _, rfl⟩
theorem y_delayM {n : Nat} {FM : w_U} (has : y_eAsTold (y_Vn n) FM) (hgo : y_eGoOn (y_Vn n)) (hsaid : y_eSaid (y_Vn n)) : y_C g_sh g_ts 193 8 (fun a s => w_T (y_Vn n) g_sh (y_mk g_sh s) ∧ ∃ x y : Int32, a = [.inr (.inr 67), .inl x, .inl y]) (fun _ s v s2 => y_thQ n s v s2) := by
  refine y_C.of (t := g_t193) rfl (by decide) ?_
  rintro d a s hd ⟨hT, x, y, rfl⟩
  have hp := y_pairs hT
  have no : ∀ ls : q_U Int32, y_W g_sh g_ts d g_t193 (y_thQ n s) 21 ls [] s := by
    intro ls
    refine y_run 1 rfl ?_
    exact y_iret rfl ⟨hT, y_fr.rf, _, rfl⟩
  refine y_run 2 rfl ?_
  refine y_call (y_isPairF (V := y_Vn n)) 1 rfl (fun _ _ _ => rfl) (a := [.inr (.inr 67), .inl x]) rfl rfl (fun h hR => y_mayV (o := 65) (sz := 85) rfl hR) (by omega) ⟨hT, x, rfl⟩ (fun v s2 hQ => ?_)
  obtain ⟨rfl, hQ⟩ := hQ
  rcases hQ x rfl with ⟨rfl, x0, x1⟩ | rfl
  · refine y_if rfl (fun h => absurd (show (1 : Int) = 0 from h) (by omega)) (fun _ => ?_)
    refine y_run 2 rfl ?_
    refine y_call (y_isQueuedF (V := y_Vn n)) 1 rfl (fun _ _ _ => rfl) (a := [.inr (.inr 67), .inl y]) rfl rfl (fun h hR => y_mayV (o := 65) (sz := 85) rfl hR) (by omega) ⟨hT, y, rfl⟩ (fun v s3 hQ => ?_)
    obtain ⟨rfl, hQ⟩ := hQ
    rcases hQ y rfl with ⟨rfl, y0, y1, ys⟩ | rfl
    · refine y_if rfl (fun h => absurd (show (1 : Int) = 0 from h) (by omega)) (fun _ => ?_)
      refine y_run 2 rfl ?_
      refine y_ic rfl (fun _ => ?_) (fun _ => no _)
      refine y_run 2 rfl ?_
      refine y_call (y_saysNow has hgo hsaid) 1 rfl (fun _ _ _ => rfl) (a := [.inr (.inr 67), .inl x]) rfl rfl (fun h hR => y_mayV (o := 65) (sz := 85) rfl hR) (by omega) ⟨hT, x, rfl, by omega, by omega⟩ (fun v s4 hQ => ?_)
      obtain ⟨hT4, hf4, u, rfl⟩ := hQ
      refine y_run 4 rfl ?_
      refine y_call (y_saysWithout has hgo hsaid) 1 rfl (fun _ _ _ => rfl) (a := [.inr (.inr 67), .inl x, .inl y]) rfl rfl (fun h hR => y_mayV (o := 65) (sz := 85) rfl hR) (by omega) ⟨hT4, x, y, rfl, by omega, by omega, by omega, by rw [y_th48 hf4]; exact y1, by rw [y_th85 hf4 (by omega)]; exact ys⟩ (fun v s5 hQ => ?_)
      obtain ⟨hT5, hf5, w, rfl⟩ := hQ
      have fin : ∀ (ls : q_U Int32) (r : Int32), y_W g_sh g_ts d g_t193 (y_thQ n s3) 65 ls [.inl r] s5 := fun ls r => y_iret rfl ⟨hT5, hf4.tr hf5, _, rfl⟩
      refine y_run 3 rfl ?_
      refine y_ic rfl (fun _ => ?_) (fun _ => ?_)
      · refine y_run 2 rfl ?_
        refine y_ic rfl (fun _ => ?_) (fun _ => ?_)
        · refine y_run 3 rfl ?_
          exact fin _ _
        · refine y_run 2 rfl ?_
          exact fin _ _
      · refine y_run 2 rfl ?_
        exact fin _ _
    · exact y_if rfl (fun _ => no _) (fun h => absurd rfl h)
  · exact y_if rfl (fun _ => no _) (fun h => absurd rfl h)
