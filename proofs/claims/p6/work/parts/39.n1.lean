/-! by hand: changes, change, giveUp, join of the model -/
theorem y_callI {V : w_V} {d : Nat} {t : q_T} {Q0 : Option (q_V Int32) → y_H → Prop} {p : Nat} {ls : q_U Int32} {st st2 a : List (q_V Int32)} {s : y_H} {k D na ml len lo hi g : Nat} {x : List Nat} {ins : Jvm.ClassFile.Instr} {as : List w_A} {ms : List (Nat × Nat)} {M : w_U} (hE : y_ex g_sh M = true ∧ w_Ent V g_sh g_ts (k, as, [], ms, [([], some (.inl ((lo, hi), g)), M)], D)) (sv : Nat) (hq : q_get t p = some (ins, len, k :: na :: ml :: x)) (hins : ∀ cal h ns, q_act q_O32 none cal ins len (k :: na :: ml :: x) (p, ls, st) h ns = q_inv cal sv (k :: na :: ml :: x) len (p, ls, st) h ns) (htk : q_take na st [] = some (a, st2)) (hc : (Nat.ble (q_cats st2) 8 && Nat.ble (q_cats a) ml) = true) (hm : ∀ h, w_Rep g_sh h (y_mk g_sh s) → q_may sv x a h = true) (hd : D ≤ d) (hT : w_T V g_sh (y_mk g_sh s)) (ha : w_sts [] (y_mk g_sh s) (as.map w_kz) a) (hw : ∀ (z : Int32) (s2 : y_H), w_T V g_sh (y_mk g_sh s2) → y_fr g_sh ms s s2 → (lo : Int) - 2147483648 ≤ z.toInt → z.toInt ≤ (hi : Int) - 2147483648 → y_W g_sh g_ts d t Q0 (p + len) ls (.inl z :: st2) s2) : y_W g_sh g_ts d t Q0 p ls st s := by
  refine y_callM hE.2 ?_ sv hq hins htk hc hm hd hT ha (fun v s2 hT2 hf2 hv => ?_)
  · rw [List.all_eq_true]
    intro q hq
    have e : q = ([], some (.inl ((lo, hi), g)), M) := by simpa using hq
    rw [e]
    exact hE.1
  · obtain ⟨q, hq, ho⟩ := hv
    have e : q = ([], some (.inl ((lo, hi), g)), M) := by simpa using hq
    subst e
    obtain ⟨z, rfl, z1, z2⟩ := y_ans ho
    exact hw z s2 hT2 hf2 z1 z2
theorem y_callN {V : w_V} {d : Nat} {t : q_T} {Q0 : Option (q_V Int32) → y_H → Prop} {p : Nat} {ls : q_U Int32} {st st2 a : List (q_V Int32)} {s : y_H} {k D na ml len : Nat} {x : List Nat} {ins : Jvm.ClassFile.Instr} {as : List w_A} {ms : List (Nat × Nat)} {M : w_U} (hE : y_ex g_sh M = true ∧ w_Ent V g_sh g_ts (k, as, [], ms, [([], none, M)], D)) (sv : Nat) (hq : q_get t p = some (ins, len, k :: na :: ml :: x)) (hins : ∀ cal h ns, q_act q_O32 none cal ins len (k :: na :: ml :: x) (p, ls, st) h ns = q_inv cal sv (k :: na :: ml :: x) len (p, ls, st) h ns) (htk : q_take na st [] = some (a, st2)) (hc : (Nat.ble (q_cats st2) 8 && Nat.ble (q_cats a) ml) = true) (hm : ∀ h, w_Rep g_sh h (y_mk g_sh s) → q_may sv x a h = true) (hd : D ≤ d) (hT : w_T V g_sh (y_mk g_sh s)) (ha : w_sts [] (y_mk g_sh s) (as.map w_kz) a) (hw : ∀ (s2 : y_H), w_T V g_sh (y_mk g_sh s2) → y_fr g_sh ms s s2 → y_W g_sh g_ts d t Q0 (p + len) ls st2 s2) : y_W g_sh g_ts d t Q0 p ls st s := by
  refine y_callM hE.2 ?_ sv hq hins htk hc hm hd hT ha (fun v s2 hT2 hf2 hv => ?_)
  · rw [List.all_eq_true]
    intro q hq
    have e : q = ([], none, M) := by simpa using hq
    rw [e]
    exact hE.1
  · obtain ⟨q, hq, ho⟩ := hv
    have e : q = ([], none, M) := by simpa using hq
    subst e
    have ev := y_ansV ho
    subst ev
    exact hw s2 hT2 hf2
abbrev y_quK : List (Nat × Nat) := [(352320, 352327)]
theorem y_quIn : ∀ k, k < 8 → w_inm y_quK (w_key 86 k) = true := by decide +kernel
theorem y_quNo : ∀ k, k < 28 → 8 ≤ k → w_inm y_quK (w_key 86 k) = false := by decide +kernel
def y_chQ (V : w_V) (A B : Int32) (s : y_H) (v : Option (q_V Int32)) (s2 : y_H) : Prop := v = none ∧ w_T V g_sh (y_mk g_sh s2) ∧ y_fr g_sh y_quK s s2 ∧ ∃ X Y : Nat, (X : Int) < (s.1 86 8).toInt ∧ (Y : Int) < (s.1 86 8).toInt ∧ s.1 86 X = A ∧ s.1 86 Y = B ∧ ∀ k, k < 28 → s2.1 86 k = if k = Y then A else if k = X then B else s.1 86 k
def y_inQ (s : y_H) (A : Int32) : Prop := ∃ X : Nat, (X : Int) < (s.1 86 8).toInt ∧ s.1 86 X = A
theorem y_changesF {V : w_V} : y_C g_sh g_ts 186 3 (fun a s => w_T V g_sh (y_mk g_sh s) ∧ ∃ A B : Int32, a = [.inr (.inr 67), .inl A, .inl B] ∧ y_inQ s A ∧ y_inQ s B) (fun a s v s2 => ∀ A B : Int32, a = [.inr (.inr 67), .inl A, .inl B] → y_chQ V A B s v s2) := by
  refine y_C.of (t := g_t186) rfl (by decide) ?_
  rintro d a s hd ⟨hT, A, B, rfl, ⟨X0, hX0, eX0⟩, ⟨Y0, hY0, eY0⟩⟩
  have h8 := y_air8 hT
  have hA := y_air0 hT (j := X0) (by omega)
  have hB := y_air0 hT (j := Y0) (by omega)
  rw [eX0] at hA
  rw [eY0] at hB
  have key : y_W g_sh g_ts d g_t186 (y_chQ V A B s) 0 (q_args 0 [.inr (.inr 67), .inl A, .inl B]) [] s := by
    refine y_run 2 rfl ?_
    refine y_call (y_placeOf (V := V)) 1 rfl (fun _ _ _ => rfl) (a := [.inr (.inr 67), .inl A]) rfl rfl (fun h hR => y_mayV (o := 65) (sz := 85) rfl hR) (by omega) ⟨hT, A, rfl⟩ (fun v s2 hQ => ?_)
    obtain ⟨rfl, hv⟩ := hQ A rfl
    rcases hv with ⟨-, hno⟩ | ⟨x, X, rfl, hx, hX, eX⟩
    · exact absurd eX0 (hno X0 hX0)
    refine y_run 3 rfl ?_
    refine y_call (y_placeOf (V := V)) 1 rfl (fun _ _ _ => rfl) (a := [.inr (.inr 67), .inl B]) rfl rfl (fun h hR => y_mayV (o := 65) (sz := 85) rfl hR) (by omega) ⟨hT, B, rfl⟩ (fun v s3 hQ => ?_)
    obtain ⟨rfl, hv⟩ := hQ B rfl
    rcases hv with ⟨-, hno⟩ | ⟨y, Y, rfl, hy, hY, eY⟩
    · exact absurd eY0 (hno Y0 hY0)
    refine y_run 5 rfl ?_
    refine y_ast86 (lo := 2147483648) (hi := 2147483655) hT rfl (j := X) hx (by omega) (y_airq X (by omega)) (by omega) (by omega) (fun hT2 => ?_)
    have hf2 := (y_fr.rf (sh := g_sh) (ms := y_quK) (s := s3)).up (o := 86) (k := X) (v := .inl B) (y_airk _ (by omega)) (y_quIn X (by omega))
    refine y_run 4 rfl ?_
    refine y_ast86 (lo := 2147483648) (hi := 2147483655) hT2 rfl (j := Y) hy (by omega) (y_airq Y (by omega)) (by omega) (by omega) (fun hT3 => ?_)
    refine y_vret rfl ⟨rfl, hT3, hf2.up (y_airk _ (by omega)) (y_quIn Y (by omega)), X, Y, hX, hY, eX, eY, fun k hk => ?_⟩
    by_cases e1 : k = Y
    · rw [if_pos e1, e1, y_up_self]
    · rw [if_neg e1, y_up_ne (by omega)]
      by_cases e2 : k = X
      · rw [if_pos e2, e2, y_up_self]
      · rw [if_neg e2, y_up_ne (by omega)]
  intro h ns hR
  obtain ⟨v, h2, s2, he, hR2, hQ⟩ := key h ns hR
  refine ⟨v, h2, s2, he, hR2, fun A2 B2 e => ?_⟩
  cases e
  exact hQ
theorem y_AI_chg {m : Int} {f f2 : Nat → Int32} {A B : Int32} {X Y : Nat} (h : y_AI m f) (hX : (X : Int) < (f 8).toInt) (hY : (Y : Int) < (f 8).toInt) (eX : f X = A) (eY : f Y = B) (hne : A.toInt ≠ B.toInt) (h2 : ∀ k, k < 28 → f2 k = if k = Y then A else if k = X then B else f k) : y_AI m f2 := by
  have hs := y_Rw_sg h.1
  have hXY : X ≠ Y := fun e => hne (by rw [← eX, ← eY, e])
  have g : ∀ k, k < 28 → k ≠ X → k ≠ Y → f2 k = f k := fun k h1 h3 h4 => by rw [h2 k h1, if_neg h4, if_neg h3]
  have gX : f2 X = B := by rw [h2 X (by omega), if_neg hXY, if_pos rfl]
  have gY : f2 Y = A := by rw [h2 Y (by omega), if_pos rfl]
  refine ⟨⟨fun p hp hm h0 => ?_, ?_⟩, fun k hk => ?_, fun r hr => ?_⟩
  · rw [g (9 + p) (by omega) (by omega) (by omega)] at h0
    obtain ⟨k, k8, k1, k2⟩ := h.1.1 p hp hm h0
    by_cases e1 : k = X
    · refine ⟨Y, by omega, by rw [g 8 (by omega) (by omega) (by omega)]; exact hY, ?_⟩
      rw [gY, ← eX, ← e1]
      exact k2
    · by_cases e2 : k = Y
      · refine ⟨X, by omega, by rw [g 8 (by omega) (by omega) (by omega)]; exact hX, ?_⟩
        rw [gX, ← eY, ← e2]
        exact k2
      · exact ⟨k, k8, by rw [g 8 (by omega) (by omega) (by omega)]; exact k1, by rw [g k (by omega) e1 e2]; exact k2⟩
  · refine y_sg_Rw ?_
    have e1 : y_Sg f2 = y_Sg f := by
      unfold y_Sg
      rw [y_cn_eq (f := fun r => y_occ (f2 (18 + r))) (g := fun r => y_occ (f (18 + r))) 3 (fun i hi => by rw [g (18 + i) (by omega) (by omega) (by omega)]), y_cn_eq (f := fun p => y_x34 (f2 (9 + p))) (g := fun p => y_x34 (f (9 + p))) 7 (fun i hi => by rw [g (9 + i) (by omega) (by omega) (by omega)])]
    rw [e1, g 8 (by omega) (by omega) (by omega)]
    exact hs
  · by_cases e1 : k = X
    · rw [e1, gX, ← eY]
      exact h.2.1 Y (by omega)
    · by_cases e2 : k = Y
      · rw [e2, gY, ← eX]
        exact h.2.1 X (by omega)
      · rw [g k (by omega) e1 e2]
        exact h.2.1 k hk
  · rw [g (18 + r) (by omega) (by omega) (by omega)]
    exact h.2.2 r hr
/-- who queues now has a place at hand -/
theorem y_AI_in {m : Int} {f : Nat → Int32} (h : y_AI m f) {x : Int32} (h0 : 0 ≤ x.toInt) (h1 : x.toInt < m) (h7 : x.toInt < 7) (hs : (f (9 + x.toInt.toNat)).toInt = 0) : ∃ X : Nat, X < 8 ∧ (X : Int) < (f 8).toInt ∧ f X = x := by
  obtain ⟨k, k8, k1, k2⟩ := h.1.1 x.toInt.toNat (by omega) (by omega) hs
  exact ⟨k, k8, k1, Int32.toInt_inj.mp (by omega)⟩
abbrev y_arK : List (Nat × Nat) := [(266331, 266333), (266363, 266363), (266366, 266366), (299072, 299135), (303168, 303173), (352320, 352347), (356416, 356418), (360512, 360514), (364608, 364615), (368704, 368711)]
abbrev y_eCnt (V : w_V) (M : w_U) : Prop := y_ex g_sh M = true ∧ w_Ent V g_sh g_ts (188, [w_r 67], [], [(266331, 266333), (266363, 266363), (266366, 266366), (299072, 299135), (303168, 303173), (352320, 352347), (356416, 356418), (360512, 360514), (364608, 364615), (368704, 368711)], [([], some (w_n 0 8 0), M)], 8)
theorem y_changeM {n : Nat} {FM CM : w_U} (has : y_eAsTold (y_Vn n) FM) (hcnt : y_eCnt (y_Vn n) CM) : y_C g_sh g_ts 185 9 (fun a s => w_T (y_Vn n) g_sh (y_mk g_sh s) ∧ ∃ x y : Int32, a = [.inr (.inr 67), .inl x, .inl y]) (fun _ s v s2 => y_pubQ n y_miK s v s2) := by
  refine y_C.of (t := g_t185) rfl (by decide) ?_
  rintro d a s hd ⟨hT, x, y, rfl⟩
  have hp := y_pairs hT
  have no : ∀ ls : q_U Int32, y_W g_sh g_ts d g_t185 (y_pubQ n y_miK s) 21 ls [] s := by
    intro ls
    refine y_run 1 rfl ?_
    exact y_iret rfl ⟨hT, y_fr.rf, _, rfl⟩
  refine y_run 2 rfl ?_
  refine y_call (y_isQueuedF (V := y_Vn n)) 1 rfl (fun _ _ _ => rfl) (a := [.inr (.inr 67), .inl x]) rfl rfl (fun h hR => y_mayV (o := 65) (sz := 85) rfl hR) (by omega) ⟨hT, x, rfl⟩ (fun v s2 hQ => ?_)
  obtain ⟨rfl, hQ⟩ := hQ
  rcases hQ x rfl with ⟨rfl, x0, x1, xs⟩ | rfl
  · refine y_if rfl (fun h => absurd (show (1 : Int) = 0 from h) (by omega)) (fun _ => ?_)
    refine y_run 2 rfl ?_
    refine y_call (y_isQueuedF (V := y_Vn n)) 1 rfl (fun _ _ _ => rfl) (a := [.inr (.inr 67), .inl y]) rfl rfl (fun h hR => y_mayV (o := 65) (sz := 85) rfl hR) (by omega) ⟨hT, y, rfl⟩ (fun v s3 hQ => ?_)
    obtain ⟨rfl, hQ⟩ := hQ
    rcases hQ y rfl with ⟨rfl, y0, y1, ys⟩ | rfl
    · refine y_if rfl (fun h => absurd (show (1 : Int) = 0 from h) (by omega)) (fun _ => ?_)
      refine y_run 2 rfl ?_
      refine y_ic rfl (fun hne => ?_) (fun _ => no _)
      have hne2 : x.toInt ≠ y.toInt := hne
      refine y_run 1 rfl ?_
      refine y_call (y_actM has) 1 rfl (fun _ _ _ => rfl) (a := [.inr (.inr 67)]) rfl rfl (fun h hR => y_mayV (o := 65) (sz := 85) rfl hR) (by omega) ⟨hT, rfl⟩ (fun v s4 hQ => ?_)
      obtain ⟨rfl, hT4, hf4, he4⟩ := hQ
      obtain ⟨e48, hA4⟩ := y_acAI hT hf4 he4
      obtain ⟨X0, X8, hX0, eX0⟩ := y_AI_in hA4 x0 (by rw [e48]; exact x1) (by omega) (by rw [he4 _ (by omega)]; exact xs)
      obtain ⟨Y0, Y8, hY0, eY0⟩ := y_AI_in hA4 y0 (by rw [e48]; exact y1) (by omega) (by rw [he4 _ (by omega)]; exact ys)
      refine y_run 3 rfl ?_
      refine y_call (y_changesF (V := y_Vn n)) 1 rfl (fun _ _ _ => rfl) (a := [.inr (.inr 67), .inl x, .inl y]) rfl rfl (fun h hR => y_mayV (o := 65) (sz := 85) rfl hR) (by omega) ⟨hT4, x, y, rfl, ⟨X0, hX0, eX0⟩, ⟨Y0, hY0, eY0⟩⟩ (fun v s5 hQ => ?_)
      obtain ⟨rfl, hT5, hf5, X, Y, hX, hY, eX, eY, he5⟩ := hQ x y rfl
      have hA5 := y_AI_chg hA4 hX hY eX eY hne2 he5
      have e5 : s5.1 65 48 = s4.1 65 48 := hf5.at (o := 65) (k := 48) (A := w_n 0 7 0) rfl rfl (by decide +kernel)
      refine y_run 1 rfl ?_
      refine y_call y_keepAir 1 rfl (fun _ _ _ => rfl) (a := [.inr (.inr 67)]) rfl rfl (fun h hR => y_mayV (o := 65) (sz := 85) rfl hR) (by omega) rfl (fun v s6 hQ => ?_)
      obtain ⟨rfl, rfl⟩ := hQ
      have hT6 := y_keepV hT5 (by rw [e5]; exact hA5)
      have hf6 : y_fr g_sh y_miK s3 (y_cp s5 85 0 (s5.1 86) 28) := ((hf4.mono (by decide +kernel)).tr (hf5.mono (by decide +kernel))).cp (by decide +kernel)
      refine y_run 1 rfl ?_
      refine y_callI hcnt 1 rfl (fun _ _ _ => rfl) (a := [.inr (.inr 67)]) rfl rfl (fun h hR => y_mayV (o := 65) (sz := 85) rfl hR) (by omega) hT6 ⟨⟨67, rfl, List.mem_cons_self⟩, True.intro⟩ (fun z s7 hT7 hf7 _ _ => ?_)
      exact y_iret rfl ⟨hT7, hf6.tr (hf7.mono (by decide +kernel)), _, rfl⟩
    · exact y_if rfl (fun _ => no _) (fun h => absurd rfl h)
  · exact y_if rfl (fun _ => no _) (fun h => absurd rfl h)
theorem y_giveUpM {n : Nat} {FM : w_U} (has : y_eAsTold (y_Vn n) FM) : y_C g_sh g_ts 211 4 (fun a s => w_T (y_Vn n) g_sh (y_mk g_sh s) ∧ ∃ x : Int32, a = [.inr (.inr 67), .inl x]) (fun _ s v s2 => y_pubQ n y_miK s v s2) := by
  refine y_C.of (t := g_t211) rfl (by decide) ?_
  rintro d a s hd ⟨hT, x, rfl⟩
  have hp := y_pairs hT
  refine y_run 2 rfl ?_
  refine y_call (y_isQueuedF (V := y_Vn n)) 1 rfl (fun _ _ _ => rfl) (a := [.inr (.inr 67), .inl x]) rfl rfl (fun h hR => y_mayV (o := 65) (sz := 85) rfl hR) (by omega) ⟨hT, x, rfl⟩ (fun v s2 hQ => ?_)
  obtain ⟨rfl, hQ⟩ := hQ
  rcases hQ x rfl with ⟨rfl, x0, x1, xs⟩ | rfl
  · refine y_if rfl (fun _ => ?_) (fun h => absurd (show (1 : Int) ≠ 0 by omega) h)
    refine y_run 1 rfl ?_
    refine y_call (y_actM has) 1 rfl (fun _ _ _ => rfl) (a := [.inr (.inr 67)]) rfl rfl (fun h hR => y_mayV (o := 65) (sz := 85) rfl hR) (by omega) ⟨hT, rfl⟩ (fun v s4 hQ => ?_)
    obtain ⟨rfl, hT4, hf4, he4⟩ := hQ
    obtain ⟨e48, hA4⟩ := y_acAI hT hf4 he4
    obtain ⟨X0, X8, hX0, eX0⟩ := y_AI_in hA4 x0 (by rw [e48]; exact x1) (by omega) (by rw [he4 _ (by omega)]; exact xs)
    refine y_run 3 rfl ?_
    refine y_call (y_placeOf (V := y_Vn n)) 1 rfl (fun _ _ _ => rfl) (a := [.inr (.inr 67), .inl x]) rfl rfl (fun h hR => y_mayV (o := 65) (sz := 85) rfl hR) (by omega) ⟨hT4, x, rfl⟩ (fun v s5 hQ => ?_)
    obtain ⟨rfl, hv⟩ := hQ x rfl
    rcases hv with ⟨-, hno⟩ | ⟨z, X, rfl, hz, hX, eX⟩
    · exact absurd eX0 (hno X0 hX0)
    have h8 := y_air8 hT4
    refine y_call (y_takeOut (V := y_Vn n)) 1 rfl (fun _ _ _ => rfl) (a := [.inr (.inr 67), .inl z]) rfl rfl (fun h hR => y_mayV (o := 65) (sz := 85) rfl hR) (by omega) ⟨hT4, z, X, rfl, hz, by omega, by omega⟩ (fun v s6 hQ => ?_)
    obtain ⟨rfl, hT6, hf6, hm6, ha6, hb6, hle6⟩ := hQ _ X rfl hz
    have e9 : ((Int8.ofInt 9).toInt32 + x).toInt = ((9 + x.toInt.toNat : Nat) : Int) := y_adds (A := 9) (B := x.toInt.toNat) rfl (by omega) (by omega)
    refine y_run 7 rfl ?_
    refine y_ast86 (lo := 2147483648) (hi := 2147483652) hT6 rfl e9 (by omega) (y_airs _ (by omega)) (show (_ : Int) ≤ 4 by omega) (show (4 : Int) ≤ _ by omega) (fun hT7 => ?_)
    have hf7 : y_fr g_sh y_miK s2 (y_up s6 86 (9 + x.toInt.toNat) (.inl (Int32.ofInt 4))) := ((hf4.mono (by decide +kernel)).tr (hf6.mono (by decide +kernel))).up (y_airk _ (by omega)) (y_msA (sz := 28) (by decide +kernel) (by omega))
    have hA7 : y_AI (s5.1 65 48).toInt ((y_up s6 86 (9 + x.toInt.toNat) (.inl (Int32.ofInt 4))).1 86) := y_AI_gone (X := X) (P := x.toInt.toNat) hA4 hX (by rw [eX]; omega) hf6 hm6 ha6 hb6 hle6 (fun k hk => y_up_ne (by omega)) (fun q hq => y_up_ne (by omega)) (by rw [y_up_self]; decide) (fun j hj hne => y_up_ne (by omega))
    have e6 : s6.1 65 48 = s5.1 65 48 := hf6.at (o := 65) (k := 48) (A := w_n 0 7 0) rfl rfl (by decide +kernel)
    refine y_run 1 rfl ?_
    refine y_call y_keepAir 1 rfl (fun _ _ _ => rfl) (a := [.inr (.inr 67)]) rfl rfl (fun h hR => y_mayV (o := 65) (sz := 85) rfl hR) (by omega) rfl (fun v s8 hQ => ?_)
    obtain ⟨rfl, rfl⟩ := hQ
    refine y_run 3 rfl ?_
    refine y_ald (o := 85) (sz := 28) (j := 8) rfl rfl rfl (by omega) rfl ?_
    exact y_iret rfl ⟨y_keepV hT7 (by rw [y_up_ne (by omega), e6]; exact hA7), hf7.cp (by decide +kernel), _, rfl⟩
  · refine y_if rfl (fun h => absurd rfl h) (fun _ => ?_)
    refine y_run 1 rfl ?_
    exact y_iret rfl ⟨hT, y_fr.rf, _, rfl⟩
