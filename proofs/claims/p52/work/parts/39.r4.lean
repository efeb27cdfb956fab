/-! THE LAW'S LOOP, over its cases -/
theorem l_ix {i : Int32} {I j : Nat} (hi : i.toInt = (I : Int)) (hI : I ≤ 100000) (hj : j < 10) : (i + Int32.ofInt (j : Int)).toInt = ((I + j : Nat) : Int) := by
  have e : (Int32.ofInt (j : Int)).toInt = (j : Int) := by
    rcases (show j = 0 ∨ j = 1 ∨ j = 2 ∨ j = 3 ∨ j = 4 ∨ j = 5 ∨ j = 6 ∨ j = 7 ∨ j = 8 ∨ j = 9 by omega) with rfl | rfl | rfl | rfl | rfl | rfl | rfl | rfl | rfl | rfl <;> decide
  rw [y_add (x := i) (y := Int32.ofInt (j : Int)) (by rw [e]; omega) (by rw [e]; omega), e, hi]
  omega
theorem l_and63 (x : Int32) : 0 ≤ (x &&& Int32.ofInt 63).toInt ∧ (x &&& Int32.ofInt 63).toInt < 64 := by
  have h := q_jand_ok (a := q_jall) (b := (2147483711, 2147483711)) (x := x) (y := Int32.ofInt 63) (q_jall_ok x) ⟨by decide, by decide⟩
  have e := q_pc_int (x &&& Int32.ofInt 63)
  have h1 : 2147483648 ≤ q_pc (x &&& Int32.ofInt 63) := h.1
  have h2 : q_pc (x &&& Int32.ofInt 63) ≤ 2147483711 := h.2
  omega
abbrev l_ls (i : Int32) : q_U Int32 := [(3, .inl i), (2, .inr (.inr 67)), (1, .inr (.inr 2)), (0, .inr (.inr 1))]
def l_Case (tg : Nat) : Prop := ∀ (xs : List Int32) (n : Nat) (s : y_H) (i : Int32) (I : Nat), xs.length ≤ 3072 → i.toInt = (I : Int) → I + 6 ≤ xs.length → LInv n s → s.1 55 0 = s.1 65 79 → (∀ m s2, LInv m s2 → s2.1 55 0 = s2.1 65 79 → l_W xs 1613 (l_ls i) [] s2) → l_W xs tg (l_ls i) [] s
theorem l_loop (hc : ∀ v tg : Nat, l_tg[v]? = some tg → l_Case tg) {xs : List Int32} (hL : xs.length ≤ 3072) : ∀ (c n : Nat) (s : y_H) (i : Int32) (I : Nat), i.toInt = (I : Int) → I ≤ xs.length → xs.length - I ≤ c → LInv n s → s.1 55 0 = s.1 65 79 → l_W xs 18 (l_ls i) [] s := by
  have eL : (Int32.ofNat xs.length).toInt = (xs.length : Int) := Int32.toInt_ofNat_of_lt (by omega)
  have e6 : (Int32.ofNat xs.length - Int32.ofInt 6).toInt = (xs.length : Int) - 6 := by
    rw [y_sb (x := Int32.ofNat xs.length) (y := Int32.ofInt 6) (by rw [eL]; show _ ≤ _ - (6 : Int); omega) (by rw [eL]; show _ - (6 : Int) ≤ _; omega), eL]
    rfl
  intro c
  induction c with
  | zero =>
    intro n s i I hi hI hcc hv hg
    refine l_run 2 rfl ?_
    refine l_slen rfl ?_
    refine l_run 2 rfl ?_
    refine l_ic rfl (fun _ => ?_) (fun h => ?_)
    · refine l_run 1 rfl ?_
      exact l_end
    · have h2 : ¬ (Int32.ofNat xs.length - Int32.ofInt 6).toInt < i.toInt := h
      omega
  | succ c ih =>
    intro n s i I hi hI hcc hv hg
    refine l_run 2 rfl ?_
    refine l_slen rfl ?_
    refine l_run 2 rfl ?_
    refine l_ic rfl (fun _ => ?_) (fun h => ?_)
    · refine l_run 1 rfl ?_
      exact l_end
    have h2 : ¬ (Int32.ofNat xs.length - Int32.ofInt 6).toInt < i.toInt := h
    have hI6 : I + 6 ≤ xs.length := by omega
    have next : ∀ m s2, LInv m s2 → s2.1 55 0 = s2.1 65 79 → l_W xs 1613 (l_ls i) [] s2 := by
      intro m s2 hv2 hg2
      refine l_run 2 rfl ?_
      exact ih m s2 (i + Int32.ofInt 6) (I + 6) (l_ix (j := 6) hi (by omega) (by omega)) hI6 (by omega) hv2 hg2
    refine l_run 2 rfl ?_
    refine l_sld (j := I) (e := xs[I]) rfl hi (List.getElem?_eq_getElem (by omega)) ?_
    refine l_run 2 rfl ?_
    have hm := l_and63 xs[I]
    obtain ⟨v, hvv⟩ : ∃ v : Nat, (xs[I] &&& Int32.ofInt 63).toInt = (v : Int) := ⟨(xs[I] &&& Int32.ofInt 63).toInt.toNat, by omega⟩
    refine l_tsw hvv (by omega) (fun tg t1 t2 => ?_)
    rcases Nat.lt_or_ge v 57 with q | q
    · exact hc v tg (t1 q) xs n s i I hL hi hI6 hv hg next
    · rw [t2 q]
      exact next n s hv hg
theorem l_all (hc : ∀ v tg : Nat, l_tg[v]? = some tg → l_Case tg) {xs : List Int32} (hL : xs.length ≤ 3072) : ∃ (n i : Nat) (ls : q_U Int32) (h : q_H Int32) (ns : Nat), q_iter q_O32 (some xs) g_ts n 100 g_tl i ((0, [(0, .inr (.inr 1))], []), [], 0) = some ((1620, ls, [.inl 1]), h, ns) ∧ h.length ≤ 600000 ∧ ns ≤ 7302250 := by
  refine l_start (fun s hv hg => ?_)
  refine l_run 2 rfl ?_
  exact l_loop hc hL xs.length 0 s (Int32.ofInt 0) 0 rfl (Nat.zero_le _) (Nat.sub_le _ _) hv hg
/-! end, quay, feed -/
theorem l_Tdup {n : Nat} {s : y_H} {o k : Nat} {x : Int32} (h1 : ¬ (o = 3 ∧ k = 4)) (h2 : ¬ (o = 15 ∧ k = 4)) (hD : y_Td n s) : y_Td n (y_up s o k (.inl x)) := by
  rcases hD with ⟨a, b⟩ | ⟨a, b⟩
  · exact Or.inl ⟨a, by rw [y_up_ne (fun q => h1 ⟨q.1.symm, q.2.symm⟩)]; exact b⟩
  · exact Or.inr ⟨a, by rw [y_up_ne (fun q => h2 ⟨q.1.symm, q.2.symm⟩)]; exact b⟩
theorem l_cEnd : l_Case 339 := by
  intro xs n s i I hL hi hI hv hg next
  refine l_run 5 rfl ?_
  refine l_sld (j := I + 1) (e := xs[I + 1]) rfl (l_ix (j := 1) hi (by omega) (by omega)) (List.getElem?_eq_getElem (by omega)) ?_
  generalize hx : xs[I + 1] = x
  refine l_call (y_endC (V := y_Vn n)) rfl (a := [.inr (.inr 2), .inl x]) rfl rfl (fun h hR => y_mayV (o := 0) (sz := 15) rfl hR) (by decide) ⟨hv.1, x, rfl⟩ (fun v s2 hQ => ?_)
  obtain ⟨x2, ha, hT2, hc2⟩ := hQ
  have ex : x = x2 := by
    injection ha with _ ha
    injection ha with ha _
    injection ha
  subst ex
  have hI2 : LInv n s2 ∧ s2.1 65 79 = s.1 65 79 ∧ s2.1 55 0 = s.1 55 0 ∧ ∃ z : Int32, v = some (.inl z) := by
    rcases hc2 with ⟨a1, a2, rfl, rfl⟩ | ⟨a1, rfl, rfl⟩
    · exact ⟨⟨hT2, l_Tdup (by omega) (by omega) hv.2.1, hv.2.2⟩, y_up_ne (by omega), y_up_ne (by omega), _, rfl⟩
    · exact ⟨hv, rfl, rfl, _, rfl⟩
  obtain ⟨v2, g2, g3, z, rfl⟩ := hI2
  refine l_run 6 rfl ?_
  refine l_sld (j := I + 1) (e := xs[I + 1]) rfl (l_ix (j := 1) hi (by omega) (by omega)) (List.getElem?_eq_getElem (by omega)) ?_
  rw [hx]
  refine l_call (y_endM (V := y_Vn n)) rfl (a := [.inr (.inr 67), .inl x]) rfl rfl (fun h hR => y_mayV (o := 65) (sz := 85) rfl hR) (by decide) ⟨v2.1, x, rfl⟩ (fun v s3 hQ => ?_)
  obtain ⟨x3, ha, hT3, hc3⟩ := hQ
  have hI3 : LInv n s3 ∧ s3.1 65 79 = s2.1 65 79 ∧ s3.1 55 0 = s2.1 55 0 ∧ ∃ z : Int32, v = some (.inl z) := by
    rcases hc3 with ⟨a1, a2, rfl, rfl⟩ | ⟨a1, rfl, rfl⟩
    · exact ⟨⟨hT3, l_Tdup (by omega) (by omega) v2.2.1, v2.2.2⟩, y_up_ne (by omega), y_up_ne (by omega), _, rfl⟩
    · exact ⟨v2, rfl, rfl, _, rfl⟩
  obtain ⟨v3, g4, g5, z3, rfl⟩ := hI3
  refine l_run 2 rfl ?_
  exact next n s3 v3 (by rw [g5, g4, g3, g2]; exact hg)
theorem l_cFeed : l_Case 276 := by
  intro xs n s i I hL hi hI hv hg next
  have el : ∀ j : Nat, j < 10 → (i + Int32.ofInt (j : Int)).toInt = ((I + j : Nat) : Int) := fun j hj => l_ix hi (by omega) hj
  refine l_run 5 rfl ?_
  refine l_sld (j := I + 1) (e := xs[I + 1]) rfl (el 1 (by omega)) (List.getElem?_eq_getElem (by omega)) ?_
  refine l_run 4 rfl ?_
  refine l_sld (j := I + 2) (e := xs[I + 2]) rfl (el 2 (by omega)) (List.getElem?_eq_getElem (by omega)) ?_
  refine l_run 4 rfl ?_
  refine l_sld (j := I + 3) (e := xs[I + 3]) rfl (el 3 (by omega)) (List.getElem?_eq_getElem (by omega)) ?_
  refine l_run 4 rfl ?_
  refine l_sld (j := I + 4) (e := xs[I + 4]) rfl (el 4 (by omega)) (List.getElem?_eq_getElem (by omega)) ?_
  refine l_run 4 rfl ?_
  refine l_sld (j := I + 5) (e := xs[I + 5]) rfl (el 5 (by omega)) (List.getElem?_eq_getElem (by omega)) ?_
  refine l_call (y_feedC (V := y_Vn n)) rfl (a := [.inr (.inr 2), .inl ((xs[I + 1])), .inl ((xs[I + 2])), .inl ((xs[I + 3])), .inl ((xs[I + 4])), .inl ((xs[I + 5]))]) rfl rfl (fun h hR => y_mayV (o := 0) (sz := 15) rfl hR) (by decide) ⟨hv.1, _, _, _, _, _, rfl⟩ (fun v s2 hQ => ?_)
  obtain ⟨hT2, hf2, c, rfl, hc2⟩ := hQ
  have v2 : LInv n s2 := by
    refine ⟨hT2, y_Td_fr hf2 (by decide +kernel) (by decide +kernel) (by decide +kernel) hv.2.1, ?_⟩
    unfold y_Un
    rw [y_fr66 hf2 (by decide +kernel), y_fr67 hf2 (by decide +kernel)]
    exact hv.2.2
  have g2 : s2.1 55 0 = s.1 55 0 ∧ s2.1 65 79 = s.1 65 79 := ⟨hf2.at (o := 55) (k := 0) (A := w_t 0) rfl rfl (by decide +kernel), hf2.at (o := 65) (k := 79) (A := w_t 0) rfl rfl (by decide +kernel)⟩
  refine l_run 6 rfl ?_
  refine l_sld (j := I + 1) (e := xs[I + 1]) rfl (el 1 (by omega)) (List.getElem?_eq_getElem (by omega)) ?_
  refine l_run 4 rfl ?_
  refine l_sld (j := I + 2) (e := xs[I + 2]) rfl (el 2 (by omega)) (List.getElem?_eq_getElem (by omega)) ?_
  refine l_run 4 rfl ?_
  refine l_sld (j := I + 3) (e := xs[I + 3]) rfl (el 3 (by omega)) (List.getElem?_eq_getElem (by omega)) ?_
  refine l_run 4 rfl ?_
  refine l_sld (j := I + 4) (e := xs[I + 4]) rfl (el 4 (by omega)) (List.getElem?_eq_getElem (by omega)) ?_
  refine l_run 4 rfl ?_
  refine l_sld (j := I + 5) (e := xs[I + 5]) rfl (el 5 (by omega)) (List.getElem?_eq_getElem (by omega)) ?_
  refine l_call (y_feedM (V := y_Vn n)) rfl (a := [.inr (.inr 67), .inl ((xs[I + 1])), .inl ((xs[I + 2])), .inl ((xs[I + 3])), .inl ((xs[I + 4])), .inl ((xs[I + 5]))]) rfl rfl (fun h hR => y_mayV (o := 65) (sz := 85) rfl hR) (by decide) ⟨v2.1, _, _, _, _, _, rfl⟩ (fun v s3 hQ => ?_)
  obtain ⟨hT3, hf3, c3, rfl, hc3⟩ := hQ
  have v3 : LInv n s3 := by
    refine ⟨hT3, y_Td_fr hf3 (by decide +kernel) (by decide +kernel) (by decide +kernel) v2.2.1, ?_⟩
    unfold y_Un
    rw [y_fr66 hf3 (by decide +kernel), y_fr67 hf3 (by decide +kernel)]
    exact v2.2.2
  have g3 : s3.1 55 0 = s2.1 55 0 ∧ s3.1 65 79 = s2.1 65 79 := ⟨hf3.at (o := 55) (k := 0) (A := w_t 0) rfl rfl (by decide +kernel), hf3.at (o := 65) (k := 79) (A := w_t 0) rfl rfl (by decide +kernel)⟩
  refine l_run 2 rfl ?_
  exact next n s3 v3 (by rw [g3.1, g3.2, g2.1, g2.2]; exact hg)
/-! later -/
def y_laQ (V : w_V) (o k : Nat) (x : Int32) (s : y_H) (v : Option (q_V Int32)) (s2 : y_H) : Prop := w_T V g_sh (y_mk g_sh s2) ∧ (((0 ≤ x.toInt ∧ x.toInt ≤ 1000 ∧ (s.1 o k + x).toInt ≤ 100000) ∧ v = some (.inl (s.1 o k + x)) ∧ s2 = y_up s o k (.inl (s.1 o k + x))) ∨ (¬ (0 ≤ x.toInt ∧ x.toInt ≤ 1000 ∧ (s.1 o k + x).toInt ≤ 100000) ∧ v = some (.inl (Int32.ofInt (-1))) ∧ s2 = s))
theorem y_laterC {V : w_V} : y_C g_sh g_ts 38 1 (fun a s => w_T V g_sh (y_mk g_sh s) ∧ ∃ x : Int32, a = [.inr (.inr 2), .inl x]) (fun a s v s2 => ∃ x : Int32, a = [.inr (.inr 2), .inl x] ∧ y_laQ V 55 0 x s v s2) := by
  refine y_C.of (t := g_t38) rfl (by decide) ?_
  rintro d a s hd ⟨hT, x, rfl⟩
  have bx := y_b32 (s.1 55 0 + x)
  refine y_run 1 rfl ?_
  refine y_if rfl (fun h => ?_) (fun h => ?_)
  · have h2 : x.toInt < 0 := h
    refine y_run 1 rfl ?_
    exact y_iret rfl ⟨x, rfl, hT, Or.inr ⟨by omega, rfl, rfl⟩⟩
  have h2 : ¬ x.toInt < 0 := h
  refine y_run 2 rfl ?_
  refine y_ic rfl (fun h => ?_) (fun h => ?_)
  · have h3 : (1000 : Int) < x.toInt := h
    refine y_run 1 rfl ?_
    exact y_iret rfl ⟨x, rfl, hT, Or.inr ⟨by omega, rfl, rfl⟩⟩
  have h3 : ¬ (1000 : Int) < x.toInt := h
  refine y_run 6 rfl ?_
  refine y_ic rfl (fun h => ?_) (fun h => ?_)
  · have h4 : (s.1 55 0 + x).toInt ≤ 100000 := h
    refine y_run 10 rfl ?_
    exact y_iret rfl ⟨x, rfl, y_Tup (lo := 0) (hi := 4294967295) (g := 0) (o := 55) (k := 0) (x := s.1 55 0 + x) hT rfl rfl (by decide +kernel) (by omega) (by omega), Or.inl ⟨⟨by omega, by omega, h4⟩, rfl, rfl⟩⟩
  · have h4 : ¬ (s.1 55 0 + x).toInt ≤ 100000 := h
    refine y_run 1 rfl ?_
    exact y_iret rfl ⟨x, rfl, hT, Or.inr ⟨fun q => h4 q.2.2, rfl, rfl⟩⟩
theorem y_laterM {V : w_V} : y_C g_sh g_ts 242 1 (fun a s => w_T V g_sh (y_mk g_sh s) ∧ ∃ x : Int32, a = [.inr (.inr 67), .inl x]) (fun a s v s2 => ∃ x : Int32, a = [.inr (.inr 67), .inl x] ∧ y_laQ V 65 79 x s v s2) := by
  refine y_C.of (t := g_t242) rfl (by decide) ?_
  rintro d a s hd ⟨hT, x, rfl⟩
  have bx := y_b32 (s.1 65 79 + x)
  refine y_run 1 rfl ?_
  refine y_if rfl (fun h => ?_) (fun h => ?_)
  · have h2 : x.toInt < 0 := h
    refine y_run 1 rfl ?_
    exact y_iret rfl ⟨x, rfl, hT, Or.inr ⟨by omega, rfl, rfl⟩⟩
  have h2 : ¬ x.toInt < 0 := h
  refine y_run 2 rfl ?_
  refine y_ic rfl (fun h => ?_) (fun h => ?_)
  · have h3 : (1000 : Int) < x.toInt := h
    refine y_run 1 rfl ?_
    exact y_iret rfl ⟨x, rfl, hT, Or.inr ⟨by omega, rfl, rfl⟩⟩
  have h3 : ¬ (1000 : Int) < x.toInt := h
  refine y_run 5 rfl ?_
  refine y_ic rfl (fun h => ?_) (fun h => ?_)
  · have h4 : (s.1 65 79 + x).toInt ≤ 100000 := h
    refine y_run 8 rfl ?_
    exact y_iret rfl ⟨x, rfl, y_Tup (lo := 0) (hi := 4294967295) (g := 0) (o := 65) (k := 79) (x := s.1 65 79 + x) hT rfl rfl (by decide +kernel) (by omega) (by omega), Or.inl ⟨⟨by omega, by omega, h4⟩, rfl, rfl⟩⟩
  · have h4 : ¬ (s.1 65 79 + x).toInt ≤ 100000 := h
    refine y_run 1 rfl ?_
    exact y_iret rfl ⟨x, rfl, hT, Or.inr ⟨fun q => h4 q.2.2, rfl, rfl⟩⟩
theorem l_cLater : l_Case 1432 := by
  intro xs n s i I hL hi hI hv hg next
  refine l_run 5 rfl ?_
  refine l_sld (j := I + 1) (e := xs[I + 1]) rfl (l_ix (j := 1) hi (by omega) (by omega)) (List.getElem?_eq_getElem (by omega)) ?_
  generalize hx : xs[I + 1] = x
  refine l_call (y_laterC (V := y_Vn n)) rfl (a := [.inr (.inr 2), .inl x]) rfl rfl (fun h hR => y_mayV (o := 0) (sz := 15) rfl hR) (by decide) ⟨hv.1, x, rfl⟩ (fun v s2 hQ => ?_)
  obtain ⟨x2, ha, hT2, hc2⟩ := hQ
  have ex : x = x2 := by
    injection ha with _ ha
    injection ha with ha _
    injection ha
  subst ex
  have hI2 : ∃ z : Int32, v = some (.inl z) ∧ LInv n s2 ∧ s2.1 65 79 = s.1 65 79 ∧ (((0 ≤ x.toInt ∧ x.toInt ≤ 1000 ∧ (s.1 55 0 + x).toInt ≤ 100000) ∧ s2.1 55 0 = s.1 55 0 + x ∧ z = s.1 55 0 + x) ∨ (¬ (0 ≤ x.toInt ∧ x.toInt ≤ 1000 ∧ (s.1 55 0 + x).toInt ≤ 100000) ∧ s2.1 55 0 = s.1 55 0 ∧ z = Int32.ofInt (-1))) := by
    rcases hc2 with ⟨a1, rfl, rfl⟩ | ⟨a1, rfl, rfl⟩
    · exact ⟨_, rfl, ⟨hT2, l_Tdup (by omega) (by omega) hv.2.1, hv.2.2⟩, y_up_ne (by omega), Or.inl ⟨a1, y_up_self, rfl⟩⟩
    · exact ⟨_, rfl, hv, rfl, Or.inr ⟨a1, rfl, rfl⟩⟩
  obtain ⟨z, rfl, v2, g2, g3⟩ := hI2
  refine l_run 5 rfl ?_
  refine l_sld (j := I + 1) (e := xs[I + 1]) rfl (l_ix (j := 1) hi (by omega) (by omega)) (List.getElem?_eq_getElem (by omega)) ?_
  rw [hx]
  refine l_call (y_laterM (V := y_Vn n)) rfl (a := [.inr (.inr 67), .inl x]) rfl rfl (fun h hR => y_mayV (o := 65) (sz := 85) rfl hR) (by decide) ⟨v2.1, x, rfl⟩ (fun v s3 hQ => ?_)
  obtain ⟨x3, ha, hT3, hc3⟩ := hQ
  have ex : x = x3 := by
    injection ha with _ ha
    injection ha with ha _
    injection ha
  subst ex
  rw [g2, ← hg] at hc3
  have hI3 : ∃ z3 : Int32, v = some (.inl z3) ∧ LInv n s3 ∧ s3.1 55 0 = s3.1 65 79 ∧ z = z3 := by
    rcases hc3 with ⟨a1, rfl, rfl⟩ | ⟨a1, rfl, rfl⟩
    · rcases g3 with ⟨b1, b2, b3⟩ | ⟨b1, b2, b3⟩
      · refine ⟨_, rfl, ⟨hT3, l_Tdup (by omega) (by omega) v2.2.1, v2.2.2⟩, ?_, b3⟩
        rw [y_up_ne (by omega), y_up_self]
        exact b2
      · exact absurd a1 b1
    · rcases g3 with ⟨b1, b2, b3⟩ | ⟨b1, b2, b3⟩
      · exact absurd b1 a1
      · refine ⟨_, rfl, v2, ?_, b3⟩
        rw [b2, g2]
        exact hg
  obtain ⟨z3, rfl, v3, g4, ez⟩ := hI3
  refine l_ic rfl (fun _ => next n s3 v3 g4) (fun h => ?_)
  exact absurd (by rw [ez]) h
