/-! by hand: the formula's steps: add, openUp, countUnit, isFull, sign, hasBracket -/
def y_bin (v : Int32) : Nat := if v.toInt = 20 ∨ v.toInt = 21 then 0 else 1
def y_ND (D : Nat → Nat) (g : Nat → Nat → Int32) (M e : Nat) : Prop := D 0 = 0 ∧ D M = e ∧ ∀ i, i < M → D i ≤ 64 ∧ ((g 68 i).toInt = 0 → D i < 64 ∧ D (i + 1) = D i + 1) ∧ ((g 68 i).toInt = 1 → D i < 64 ∧ D (i + 1) = D i + 1 ∧ 0 ≤ (g 69 i).toInt ∧ (g 69 i).toInt ≤ 5) ∧ ((g 68 i).toInt = 2 → 1 ≤ D i ∧ D (i + 1) = D i) ∧ ((g 68 i).toInt = 3 → 2 ≤ D i ∧ D (i + 1) + 1 = D i)
theorem y_ND_eq {g g2 : Nat → Nat → Int32} {M e : Nat} (h68 : ∀ i, i < M → g2 68 i = g 68 i) (h69 : ∀ i, i < M → g2 69 i = g 69 i) (h : ∃ D, y_ND D g M e) : ∃ D, y_ND D g2 M e := by
  obtain ⟨D, h0, h1, h2⟩ := h
  refine ⟨D, h0, h1, fun i hi => ?_⟩
  rw [h68 i hi, h69 i hi]
  exact h2 i hi
theorem y_ND_add {g g2 : Nat → Nat → Int32} {M e e2 : Nat} (h : ∃ D, y_ND D g M e) (h68 : ∀ i, i < M → g2 68 i = g 68 i) (h69 : ∀ i, i < M → g2 69 i = g 69 i) (hs : e ≤ 64 ∧ ((g2 68 M).toInt = 0 → e < 64 ∧ e2 = e + 1) ∧ ((g2 68 M).toInt = 1 → e < 64 ∧ e2 = e + 1 ∧ 0 ≤ (g2 69 M).toInt ∧ (g2 69 M).toInt ≤ 5) ∧ ((g2 68 M).toInt = 2 → 1 ≤ e ∧ e2 = e) ∧ ((g2 68 M).toInt = 3 → 2 ≤ e ∧ e2 + 1 = e)) : ∃ D, y_ND D g2 (M + 1) e2 := by
  obtain ⟨D, h0, h1, h2⟩ := h
  refine ⟨fun i => if i ≤ M then D i else e2, ?_, ?_, fun i hi => ?_⟩
  · show (if 0 ≤ M then D 0 else e2) = 0
    rw [if_pos (by omega)]
    exact h0
  · show (if M + 1 ≤ M then D (M + 1) else e2) = e2
    rw [if_neg (by omega)]
  · dsimp only
    rw [if_pos (show i ≤ M by omega)]
    by_cases e : i = M
    · subst e
      rw [if_neg (show ¬ i + 1 ≤ i by omega), h1]
      exact hs
    · rw [if_pos (show i + 1 ≤ M by omega), h68 i (by omega), h69 i (by omega)]
      exact h2 i (by omega)
/-- the numbers: steps, signs that stand open, how deep, units, binary signs that stand open, values -/
def y_FI (s : y_H) (M P K U B e : Nat) : Prop := (s.1 65 17).toInt = (M : Int) ∧ (s.1 65 19).toInt = (P : Int) ∧ (s.1 65 23).toInt = (K : Int) ∧ (s.1 65 22).toInt = (U : Int) ∧ y_cn (fun k => y_bin (s.1 72 k)) P = B ∧ P = B + K ∧ (∃ D, y_ND D s.1 M e) ∧ (s.1 65 20).toInt ≤ 60
theorem y_k68 {j : Nat} : y_kd g_sh 68 j = 0 := y_kdA (tag := 100) (sz := 320) (a := ((2147483648, 2147483651), 0)) rfl
theorem y_k69 {j : Nat} : y_kd g_sh 69 j = 0 := y_kdA (tag := 100) (sz := 320) (a := ((0, 4294967295), 0)) rfl
theorem y_k72 {j : Nat} : y_kd g_sh 72 j = 0 := y_kdA (tag := 100) (sz := 160) (a := ((2147483648, 2147483903), 0)) rfl
theorem y_t68 {j : Nat} (hj : j < 320) : w_ty g_sh 68 j = some (.inl ((2147483648, 2147483651), 0)) := y_tyA (tag := 100) (sz := 320) (A := .inl ((2147483648, 2147483651), 0)) rfl hj
theorem y_t69 {j : Nat} (hj : j < 320) : w_ty g_sh 69 j = some (.inl ((0, 4294967295), 0)) := y_tyA (tag := 100) (sz := 320) (A := .inl ((0, 4294967295), 0)) rfl hj
theorem y_t72 {j : Nat} (hj : j < 160) : w_ty g_sh 72 j = some (.inl ((2147483648, 2147483903), 0)) := y_tyA (tag := 100) (sz := 160) (A := .inl ((2147483648, 2147483903), 0)) rfl hj
def y_fiNo (ms : List (Nat × Nat)) : Bool := !(w_inm ms 266321) && (!(w_inm ms 266323) && (!(w_inm ms 266324) && (!(w_inm ms 266326) && (!(w_inm ms 266327) && (!(w_ovl ms 278592 278911) && (!(w_ovl ms 282688 283007) && !(w_ovl ms 294976 295135)))))))
theorem y_FI_fr {ms : List (Nat × Nat)} {s s2 : y_H} {M P K U B e : Nat} (hf : y_fr g_sh ms s s2) (hm : y_fiNo ms = true) (hM : M ≤ 320) (hP : P ≤ 160) (h : y_FI s M P K U B e) : y_FI s2 M P K U B e := by
  unfold y_fiNo at hm
  simp only [Bool.and_eq_true, Bool.not_eq_true'] at hm
  obtain ⟨a1, a2, a3, a4, a5, a6, a7, a8⟩ := hm
  obtain ⟨h1, h2, h3, h4, h5, h6, h7, h8⟩ := h
  have e17 : s2.1 65 17 = s.1 65 17 := hf.at (o := 65) (k := 17) (A := w_n 0 320 0) rfl rfl a1
  have e19 : s2.1 65 19 = s.1 65 19 := hf.at (o := 65) (k := 19) (A := w_n 0 160 0) rfl rfl a2
  have e20 : s2.1 65 20 = s.1 65 20 := hf.at (o := 65) (k := 20) (A := w_n 0 61 0) rfl rfl a3
  have e22 : s2.1 65 22 = s.1 65 22 := hf.at (o := 65) (k := 22) (A := w_n 0 31 0) rfl rfl a4
  have e23 : s2.1 65 23 = s.1 65 23 := hf.at (o := 65) (k := 23) (A := w_t 0) rfl rfl a5
  refine ⟨by rw [e17]; exact h1, by rw [e19]; exact h2, by rw [e23]; exact h3, by rw [e22]; exact h4, ?_, h6, y_ND_eq (fun i hi => ?_) (fun i hi => ?_) h7, by rw [e20]; exact h8⟩
  · rw [← h5]
    exact y_cn_eq P (fun i hi => by rw [hf.at (o := 72) (k := i) (y_t72 (by omega)) y_k72 (w_ovl_no a8 (by unfold w_key; omega) (by unfold w_key; omega))])
  · exact hf.at (o := 68) (k := i) (y_t68 (by omega)) y_k68 (w_ovl_no a6 (by unfold w_key; omega) (by unfold w_key; omega))
  · exact hf.at (o := 69) (k := i) (y_t69 (by omega)) y_k69 (w_ovl_no a7 (by unfold w_key; omega) (by unfold w_key; omega))
theorem y_addF {V : w_V} {t v : Int32} {M : Nat} (hM : M < 320) (t0 : 0 ≤ t.toInt) (t3 : t.toInt ≤ 3) : y_C g_sh g_ts 176 1 (fun a s => w_T V g_sh (y_mk g_sh s) ∧ a = [.inr (.inr 67), .inl t, .inl v] ∧ (s.1 65 17).toInt = (M : Int)) (fun _ s v2 s2 => v2 = none ∧ w_T V g_sh (y_mk g_sh s2) ∧ s2 = y_up (y_up (y_up s 68 M (.inl t)) 69 M (.inl v)) 65 17 (.inl (s.1 65 17 + (Int32.ofInt 1)))) := by
  refine y_C.of (t := g_t176) rfl (by decide) ?_
  rintro d a s hd ⟨hT, rfl, hm⟩
  have hv := y_toIntB v
  have h1 : (s.1 65 17 + (Int32.ofInt 1)).toInt = (s.1 65 17).toInt + 1 := y_add (x := s.1 65 17) (y := 1) (by show _ ≤ _ + (1 : Int); omega) (by show _ + (1 : Int) ≤ _; omega)
  refine y_run 5 rfl ?_
  refine y_ast (o := 68) (sz := 320) (j := M) rfl rfl hm (by omega) y_k68 ?_
  have hT2 := y_Tup (lo := 2147483648) (hi := 2147483651) (g := 0) (x := t) hT (y_t68 hM) y_k68 (y_pkA (sz := 320) (by decide +kernel) hM) (by omega) (by omega)
  refine y_run 5 rfl ?_
  refine y_ast (o := 69) (sz := 320) (j := M) rfl rfl hm (by omega) y_k69 ?_
  have hT3 := y_Tup (lo := 0) (hi := 4294967295) (g := 0) (x := v) hT2 (y_t69 hM) y_k69 (y_pkA (sz := 320) (by decide +kernel) hM) (by omega) (by omega)
  have hT4 := y_Tup (lo := 2147483648) (hi := 2147483968) (g := 0) (o := 65) (k := 17) (x := s.1 65 17 + (Int32.ofInt 1)) hT3 rfl rfl (by decide +kernel) (by omega) (by omega)
  refine y_run 6 rfl ?_
  exact y_vret rfl ⟨rfl, hT4, rfl⟩
theorem y_openUpF {V : w_V} {x : Int32} {P : Nat} (hP : P < 160) (x0 : 0 ≤ x.toInt) (x1 : x.toInt ≤ 255) : y_C g_sh g_ts 267 3 (fun a s => w_T V g_sh (y_mk g_sh s) ∧ a = [.inr (.inr 67), .inl x] ∧ (s.1 65 19).toInt = (P : Int)) (fun _ s v2 s2 => v2 = none ∧ w_T V g_sh (y_mk g_sh s2) ∧ y_fr g_sh y_tk (y_up (y_up (y_up s 72 P (.inl x)) 65 19 (.inl (s.1 65 19 + (Int32.ofInt 1)))) 65 23 (.inl (s.1 65 23 + (Int32.ofInt 1)))) s2) := by
  refine y_C.of (t := g_t267) rfl (by decide) ?_
  rintro d a s hd ⟨hT, rfl, hp⟩
  have h1 : (s.1 65 19 + (Int32.ofInt 1)).toInt = (s.1 65 19).toInt + 1 := y_add (x := s.1 65 19) (y := 1) (by show _ ≤ _ + (1 : Int); omega) (by show _ + (1 : Int) ≤ _; omega)
  have hv := y_toIntB (s.1 65 23 + (Int32.ofInt 1))
  refine y_run 5 rfl ?_
  refine y_ast (o := 72) (sz := 160) (j := P) rfl rfl hp (by omega) y_k72 ?_
  have hT2 := y_Tup (lo := 2147483648) (hi := 2147483903) (g := 0) (x := x) hT (y_t72 hP) y_k72 (y_pkA (sz := 160) (by decide +kernel) hP) (by omega) (by omega)
  have hT3 := y_Tup (lo := 2147483648) (hi := 2147483808) (g := 0) (o := 65) (k := 19) (x := s.1 65 19 + (Int32.ofInt 1)) hT2 rfl rfl (by decide +kernel) (by omega) (by omega)
  have hT4 := y_Tup (lo := 0) (hi := 4294967295) (g := 0) (o := 65) (k := 23) (x := s.1 65 23 + (Int32.ofInt 1)) hT3 rfl rfl (by decide +kernel) (by omega) (by omega)
  refine y_run 14 rfl ?_
  refine y_if rfl (fun _ => y_vret rfl ⟨rfl, hT4, y_fr.rf⟩) (fun _ => ?_)
  refine y_run 1 rfl ?_
  refine y_call (y_token (V := V)) 1 rfl (fun _ _ _ => rfl) (a := [.inr (.inr 67)]) rfl rfl (fun h hR => y_mayV (o := 65) (sz := 85) rfl hR) (by omega) ⟨hT4, rfl⟩ (fun v s3 hQ => ?_)
  obtain ⟨rfl, hT5, hf5, -, -⟩ := hQ
  exact y_vret rfl ⟨rfl, hT5, hf5⟩
theorem y_countUnitF {V : w_V} : y_C g_sh g_ts 191 1 (fun a s => w_T V g_sh (y_mk g_sh s) ∧ a = [.inr (.inr 67)] ∧ (s.1 65 20).toInt ≤ 60 ∧ (s.1 65 22).toInt ≤ 30) (fun _ s v2 s2 => v2 = none ∧ w_T V g_sh (y_mk g_sh s2) ∧ s2 = y_up (y_up s 65 20 (.inl (s.1 65 20 + (Int32.ofInt 1)))) 65 22 (.inl (s.1 65 22 + (Int32.ofInt 1)))) := by
  refine y_C.of (t := g_t191) rfl (by decide) ?_
  rintro d a s hd ⟨hT, rfl, h60, h30⟩
  have hn := y_rng (lo := 2147483648) (hi := 2147483709) (g := 0) hT (o := 65) (k := 20) rfl rfl
  have ho := y_rng (lo := 2147483648) (hi := 2147483679) (g := 0) hT (o := 65) (k := 22) rfl rfl
  have h1 : (s.1 65 20 + (Int32.ofInt 1)).toInt = (s.1 65 20).toInt + 1 := y_add (x := s.1 65 20) (y := 1) (by show _ ≤ _ + (1 : Int); omega) (by show _ + (1 : Int) ≤ _; omega)
  have h2 : (s.1 65 22 + (Int32.ofInt 1)).toInt = (s.1 65 22).toInt + 1 := y_add (x := s.1 65 22) (y := 1) (by show _ ≤ _ + (1 : Int); omega) (by show _ + (1 : Int) ≤ _; omega)
  have hT3 := y_Tup (lo := 2147483648) (hi := 2147483709) (g := 0) (o := 65) (k := 20) (x := s.1 65 20 + (Int32.ofInt 1)) hT rfl rfl (by decide +kernel) (by omega) (by omega)
  have hT4 := y_Tup (lo := 2147483648) (hi := 2147483679) (g := 0) (o := 65) (k := 22) (x := s.1 65 22 + (Int32.ofInt 1)) hT3 rfl rfl (by decide +kernel) (by omega) (by omega)
  refine y_run 12 rfl ?_
  exact y_vret rfl ⟨rfl, hT4, rfl⟩
theorem y_isFullF : y_C g_sh g_ts 228 1 (fun a _ => a = [.inr (.inr 67)]) (fun _ s v s2 => s2 = s ∧ (v = some (.inl 1) ∨ (v = some (.inl 0) ∧ (s.1 65 20).toInt ≠ 60 ∧ (s.1 65 22).toInt ≠ 30))) := by
  refine y_C.of (t := g_t228) rfl (by decide) ?_
  rintro d a s - rfl
  refine y_run 3 rfl ?_
  refine y_ic rfl (fun _ => ?_) (fun h => ?_)
  · refine y_run 2 rfl ?_
    exact y_bret rfl (Or.inr rfl) ⟨rfl, Or.inl rfl⟩
  · have h1 : (s.1 65 20).toInt ≠ 60 := h
    refine y_run 3 rfl ?_
    refine y_ic rfl (fun h2 => ?_) (fun _ => ?_)
    · have h3 : (s.1 65 22).toInt ≠ 30 := h2
      refine y_run 1 rfl ?_
      exact y_bret rfl (Or.inl rfl) ⟨rfl, Or.inr ⟨rfl, h1, h3⟩⟩
    · refine y_run 2 rfl ?_
      exact y_bret rfl (Or.inr rfl) ⟨rfl, Or.inl rfl⟩
abbrev y_eWord (V : w_V) : Prop := w_Ent V g_sh g_ts (238, [w_r 67, w_l], [], [], [([], some (w_n 0 0 0), []), ([], some (w_n 1 1 0), [])], 1)
theorem y_callB {V : w_V} {d : Nat} {t : q_T} {Q0 : Option (q_V Int32) → y_H → Prop} {p : Nat} {ls : q_U Int32} {st st2 a : List (q_V Int32)} {s : y_H} {k D na ml len : Nat} {x : List Nat} {ins : Jvm.ClassFile.Instr} {as : List w_A} {outs : List (List (Nat × q_J) × Option w_A × w_U)} (hE : w_Ent V g_sh g_ts (k, as, [], [], outs, D)) (hx : outs = [([], some (w_n 0 0 0), []), ([], some (w_n 1 1 0), [])] ∨ outs = [([], some (w_n 1 1 0), []), ([], some (w_n 0 0 0), [])]) (sv : Nat) (hq : q_get t p = some (ins, len, k :: na :: ml :: x)) (hins : ∀ cal h ns, q_act q_O32 none cal ins len (k :: na :: ml :: x) (p, ls, st) h ns = q_inv cal sv (k :: na :: ml :: x) len (p, ls, st) h ns) (htk : q_take na st [] = some (a, st2)) (hc : (Nat.ble (q_cats st2) 8 && Nat.ble (q_cats a) ml) = true) (hm : ∀ h, w_Rep g_sh h (y_mk g_sh s) → q_may sv x a h = true) (hd : D ≤ d) (hT : w_T V g_sh (y_mk g_sh s)) (ha : w_sts [] (y_mk g_sh s) (as.map w_kz) a) (h0 : ∀ z : Int32, z.toInt = 0 → y_W g_sh g_ts d t Q0 (p + len) ls (.inl z :: st2) s) (h1 : ∀ z : Int32, z.toInt = 1 → y_W g_sh g_ts d t Q0 (p + len) ls (.inl z :: st2) s) : y_W g_sh g_ts d t Q0 p ls st s := by
  refine y_callE hE (by rcases hx with rfl | rfl <;> rfl) sv hq hins htk hc hm hd hT ha (fun v hv => ?_)
  obtain ⟨q, hq2, ho⟩ := hv
  have eq : q = ([], some (w_n 0 0 0), []) ∨ q = ([], some (w_n 1 1 0), []) := by
    rcases hx with rfl | rfl
    · simpa using hq2
    · have : q = ([], some (w_n 1 1 0), []) ∨ q = ([], some (w_n 0 0 0), []) := by simpa using hq2
      exact this.symm
  rcases eq with rfl | rfl
  · obtain ⟨z, rfl, z1, z2⟩ := y_ans ho
    exact h0 z (by omega)
  · obtain ⟨z, rfl, z1, z2⟩ := y_ans ho
    exact h1 z (by omega)
theorem y_signF {V : w_V} (hword : y_eWord V) : y_C g_sh g_ts 300 2 (fun a s => w_T V g_sh (y_mk g_sh s) ∧ a = [.inr (.inr 67)]) (fun _ s v s2 => s2 = s ∧ ∃ x : Int32, v = some (.inl x) ∧ (x.toInt = 0 ∨ (37 ≤ x.toInt ∧ x.toInt ≤ 124))) := by
  refine y_C.of (t := g_t300) rfl (by decide) ?_
  rintro d a s hd ⟨hT, rfl⟩
  have yes : ∀ ls : q_U Int32, q_at ls 0 = some (.inr (.inr 67)) → 37 ≤ (s.1 65 6).toInt → (s.1 65 6).toInt ≤ 124 → y_W g_sh g_ts d g_t300 (fun v s2 => s2 = s ∧ ∃ x : Int32, v = some (.inl x) ∧ (x.toInt = 0 ∨ (37 ≤ x.toInt ∧ x.toInt ≤ 124))) 98 ls [] s := by
    intro ls l0 h1 h2
    refine y_sub (ls1 := [(0, .inr (.inr 67))]) (show ([0] : List Nat).Nodup by decide) (y_R_cons l0 y_R_nil) ?_
    refine y_run 3 rfl ?_
    exact y_iret rfl ⟨rfl, _, rfl, Or.inr ⟨h1, h2⟩⟩
  have rest : ∀ ls : q_U Int32, q_at ls 0 = some (.inr (.inr 67)) → y_W g_sh g_ts d g_t300 (fun v s2 => s2 = s ∧ ∃ x : Int32, v = some (.inl x) ∧ (x.toInt = 0 ∨ (37 ≤ x.toInt ∧ x.toInt ≤ 124))) 26 ls [] s := by
    intro ls l0
    refine y_sub (ls1 := [(0, .inr (.inr 67))]) (show ([0] : List Nat).Nodup by decide) (y_R_cons l0 y_R_nil) ?_
    refine y_run 3 rfl ?_
    refine y_ic rfl (fun h => ?_) (fun _ => ?_)
    · have h2 : (s.1 65 6).toInt = 60 := h
      exact yes _ rfl (by omega) (by omega)
    refine y_run 3 rfl ?_
    refine y_ic rfl (fun h => ?_) (fun _ => ?_)
    · have h2 : (s.1 65 6).toInt = 62 := h
      exact yes _ rfl (by omega) (by omega)
    refine y_run 3 rfl ?_
    refine y_ic rfl (fun h => ?_) (fun _ => ?_)
    · have h2 : (s.1 65 6).toInt = 61 := h
      exact yes _ rfl (by omega) (by omega)
    refine y_run 3 rfl ?_
    refine y_ic rfl (fun h => ?_) (fun _ => ?_)
    · have h2 : (s.1 65 6).toInt = 43 := h
      exact yes _ rfl (by omega) (by omega)
    refine y_run 3 rfl ?_
    refine y_ic rfl (fun h => ?_) (fun _ => ?_)
    · have h2 : (s.1 65 6).toInt = 45 := h
      exact yes _ rfl (by omega) (by omega)
    refine y_run 3 rfl ?_
    refine y_ic rfl (fun h => ?_) (fun _ => ?_)
    · have h2 : (s.1 65 6).toInt = 42 := h
      exact yes _ rfl (by omega) (by omega)
    refine y_run 3 rfl ?_
    refine y_ic rfl (fun h => ?_) (fun _ => ?_)
    · have h2 : (s.1 65 6).toInt = 47 := h
      exact yes _ rfl (by omega) (by omega)
    refine y_run 3 rfl ?_
    refine y_ic rfl (fun _ => ?_) (fun h => ?_)
    · refine y_run 1 rfl ?_
      exact y_iret rfl ⟨rfl, _, rfl, Or.inl rfl⟩
    · have h2 : (s.1 65 6).toInt = 37 := Classical.byContradiction fun q => h q
      exact yes _ rfl (by omega) (by omega)
  refine y_run 2 rfl ?_
  refine y_callB hword (Or.inl rfl) 1 rfl (fun _ _ _ => rfl) rfl rfl (fun h hR => y_mayV (o := 65) (sz := 85) rfl hR) (by omega) hT ⟨⟨67, rfl, List.mem_cons_self⟩, ⟨_, rfl⟩, True.intro⟩ (fun z hz => ?_) (fun z hz => ?_)
  · refine y_if rfl (fun _ => ?_) (fun h => absurd hz h)
    refine y_run 2 rfl ?_
    refine y_callB hword (Or.inl rfl) 1 rfl (fun _ _ _ => rfl) rfl rfl (fun h hR => y_mayV (o := 65) (sz := 85) rfl hR) (by omega) hT ⟨⟨67, rfl, List.mem_cons_self⟩, ⟨_, rfl⟩, True.intro⟩ (fun z hz => ?_) (fun z hz => ?_)
    · exact y_if rfl (fun _ => rest _ rfl) (fun h => absurd hz h)
    · refine y_if rfl (fun h => absurd (show z.toInt = 0 from h) (by omega)) (fun _ => ?_)
      refine y_run 1 rfl ?_
      exact y_iret rfl ⟨rfl, _, rfl, Or.inr ⟨show (37 : Int) ≤ 124 by omega, show (124 : Int) ≤ 124 by omega⟩⟩
  · refine y_if rfl (fun h => absurd (show z.toInt = 0 from h) (by omega)) (fun _ => ?_)
    refine y_run 1 rfl ?_
    exact y_iret rfl ⟨rfl, _, rfl, Or.inr ⟨show (37 : Int) ≤ 38 by omega, show (38 : Int) ≤ 124 by omega⟩⟩
def y_hbQ (s : y_H) (v : Option (q_V Int32)) (s2 : y_H) : Prop := s2 = s ∧ (v = some (.inl 0) ∨ (v = some (.inl 1) ∧ ∃ k : Nat, (k : Int) < (s.1 65 19).toInt ∧ (s.1 72 k).toInt = 20))
theorem y_hb_loop {V : w_V} {d : Nat} {s : y_H} (hT : w_T V g_sh (y_mk g_sh s)) : ∀ (c : Nat) (b i : Int32) (I : Nat), (b = 0 ∨ (b = 1 ∧ ∃ k : Nat, (k : Int) < (s.1 65 19).toInt ∧ (s.1 72 k).toInt = 20)) → i.toInt = (I : Int) → I ≤ 160 → 160 - I ≤ c → y_W g_sh g_ts d g_t217 (y_hbQ s) 4 [(0, .inr (.inr 67)), (1, .inl b), (2, .inl i)] [] s := by
  have hp := y_rng (lo := 2147483648) (hi := 2147483808) (g := 0) hT (o := 65) (k := 19) rfl rfl
  have fin : ∀ (b : Int32) (ls : q_U Int32), (b = 0 ∨ (b = 1 ∧ ∃ k : Nat, (k : Int) < (s.1 65 19).toInt ∧ (s.1 72 k).toInt = 20)) → q_at ls 1 = some (.inl b) → y_W g_sh g_ts d g_t217 (y_hbQ s) 39 ls [] s := by
    intro b ls hb l1
    refine y_sub (ls1 := [(1, .inl b)]) (show ([1] : List Nat).Nodup by decide) (y_R_cons l1 y_R_nil) ?_
    refine y_run 1 rfl ?_
    rcases hb with rfl | ⟨rfl, h⟩
    · exact y_bret rfl (Or.inl rfl) ⟨rfl, Or.inl rfl⟩
    · exact y_bret rfl (Or.inr rfl) ⟨rfl, Or.inr ⟨rfl, h⟩⟩
  intro c
  induction c with
  | zero =>
    intro b i I hb hi hI hc
    refine y_run 3 rfl ?_
    refine y_ic rfl (fun _ => fin b _ hb rfl) (fun h => ?_)
    have h2 : ¬ (s.1 65 19).toInt ≤ i.toInt := h
    omega
  | succ c ih =>
    intro b i I hb hi hI hc
    refine y_run 3 rfl ?_
    refine y_ic rfl (fun _ => fin b _ hb rfl) (fun h => ?_)
    have h2 : ¬ (s.1 65 19).toInt ≤ i.toInt := h
    have hi1 : (i + (Int32.ofInt 1)).toInt = i.toInt + 1 := y_add (x := i) (y := 1) (by show _ ≤ _ + (1 : Int); omega) (by show _ + (1 : Int) ≤ _; omega)
    have p27 : (∃ k : Nat, (k : Int) < (s.1 65 19).toInt ∧ (s.1 72 k).toInt = 20) → y_W g_sh g_ts d g_t217 (y_hbQ s) 27 [(0, .inr (.inr 67)), (1, .inl b), (2, .inl i)] [] s := by
      intro hk
      refine y_run 5 rfl ?_
      refine y_sub (ls1 := [(0, .inr (.inr 67)), (1, .inl ((Int32.ofInt 1))), (2, .inl ((i + (Int32.ofInt 1))))]) (show ([0, 1, 2] : List Nat).Nodup by decide) (y_R_cons rfl (y_R_cons rfl (y_R_cons rfl y_R_nil))) ?_
      exact ih _ _ (I + 1) (Or.inr ⟨rfl, hk⟩) (by rw [hi1, hi]; omega) (by omega) (by omega)
    refine y_run 1 rfl ?_
    refine y_if rfl (fun h3 => ?_) (fun _ => ?_)
    · rcases hb with rfl | ⟨rfl, hk⟩
      · exact absurd rfl h3
      · exact p27 hk
    · refine y_run 3 rfl ?_
      refine y_ald (o := 72) (sz := 160) (j := I) rfl rfl hi (by omega) y_k72 ?_
      refine y_run 1 rfl ?_
      refine y_ic rfl (fun _ => ?_) (fun h3 => ?_)
      · refine y_run 4 rfl ?_
        refine y_sub (ls1 := [(0, .inr (.inr 67)), (1, .inl ((Int32.ofInt 0))), (2, .inl ((i + (Int32.ofInt 1))))]) (show ([0, 1, 2] : List Nat).Nodup by decide) (y_R_cons rfl (y_R_cons rfl (y_R_cons rfl y_R_nil))) ?_
        exact ih _ _ (I + 1) (Or.inl rfl) (by rw [hi1, hi]; omega) (by omega) (by omega)
      · have h4 : (s.1 72 I).toInt = 20 := Classical.byContradiction fun q => h3 q
        exact p27 ⟨I, by omega, h4⟩
theorem y_hasBracketF {V : w_V} : y_C g_sh g_ts 217 1 (fun a s => w_T V g_sh (y_mk g_sh s) ∧ a = [.inr (.inr 67)]) (fun _ s v s2 => y_hbQ s v s2) := by
  refine y_C.of (t := g_t217) rfl (by decide) ?_
  rintro d a s hd ⟨hT, rfl⟩
  refine y_run 4 rfl ?_
  refine y_sub (ls1 := [(0, .inr (.inr 67)), (1, .inl ((Int32.ofInt 0))), (2, .inl ((Int32.ofInt 0)))]) (show ([0, 1, 2] : List Nat).Nodup by decide) (y_R_cons rfl (y_R_cons rfl (y_R_cons rfl y_R_nil))) ?_
  exact y_hb_loop hT 160 _ _ 0 (Or.inl rfl) rfl (by omega) (by omega)
