/-! by hand, of the class: giveUp, join, change, freeRail -/
theorem y_o66 {s : y_H} {r : Nat} (h : s.2.2 0 2 = r) : w_oM [] (y_mk g_sh s) (w_kzM [(66, w_r r)]) := by
  intro q hq
  have e : q = (66, w_r r) := by simpa [w_kzM, w_kz] using hq
  subst e
  refine ⟨show 64 ≤ 66 by omega, s.2.2 0 2, ?_, by rw [h]; exact List.mem_cons_self⟩
  show y_mk g_sh s (w_ko 66) (w_kk 66) = _
  rw [show w_ko 66 = 0 by decide +kernel, show w_kk 66 = 2 by decide +kernel]
  rfl
theorem y_ex66 {r : Nat} : y_ex g_sh [(66, w_r r)] = true := by
  have h : (w_ty g_sh (w_ko 66) (w_kk 66)).isSome = true := by decide +kernel
  show ((w_ty g_sh (w_ko 66) (w_kk 66)).isSome && true) = true
  rw [h]
  rfl
theorem y_fr66 {K : List (Nat × Nat)} {s s2 : y_H} (hf : y_fr g_sh K s s2) (hm : w_inm K 66 = false) : s2.2.2 0 2 = s.2.2 0 2 := by
  have h : (Sum.inr (Sum.inr (s2.2.2 0 2)) : q_V Int32) = Sum.inr (Sum.inr (s.2.2 0 2)) := hf 0 2 (.inr (.inr [5, 17])) rfl hm
  injection h with h
  injection h
theorem y_Td_fr {n : Nat} {K : List (Nat × Nat)} {s s2 : y_H} (hf : y_fr g_sh K s s2) (h1 : w_inm K 66 = false) (h2 : w_inm K 12356 = false) (h3 : w_inm K 61508 = false) (hD : y_Td n s) : y_Td n s2 := by
  have e1 := y_fr66 hf h1
  have e2 : s2.1 3 4 = s.1 3 4 := hf.at (o := 3) (k := 4) (A := w_n 0 7 0) rfl rfl h2
  have e3 : s2.1 15 4 = s.1 15 4 := hf.at (o := 15) (k := 4) (A := w_n 0 7 0) rfl rfl h3
  unfold y_Td
  rw [e1, e2, e3]
  exact hD
/-- a call that writes nothing, by the checker's contract that asks for the told one -/
theorem y_callT {V : w_V} {d : Nat} {t : q_T} {Q0 : Option (q_V Int32) → y_H → Prop} {p : Nat} {ls : q_U Int32} {st st2 a : List (q_V Int32)} {s : y_H} {k D na ml len r : Nat} {x : List Nat} {ins : Jvm.ClassFile.Instr} {as : List w_A} {ms : List (Nat × Nat)} {outs : List (List (Nat × q_J) × Option w_A × w_U)} (hE : w_Ent V g_sh g_ts (k, as, [(66, w_r r)], ms, outs, D)) (hx : outs.all (fun q => y_ex g_sh q.2.2) = true) (sv : Nat) (hq : q_get t p = some (ins, len, k :: na :: ml :: x)) (hins : ∀ cal h ns, q_act q_O32 none cal ins len (k :: na :: ml :: x) (p, ls, st) h ns = q_inv cal sv (k :: na :: ml :: x) len (p, ls, st) h ns) (htk : q_take na st [] = some (a, st2)) (hc : (Nat.ble (q_cats st2) 8 && Nat.ble (q_cats a) ml) = true) (hm : ∀ h, w_Rep g_sh h (y_mk g_sh s) → q_may sv x a h = true) (hd : D ≤ d) (hT : w_T V g_sh (y_mk g_sh s)) (hr : s.2.2 0 2 = r) (ha : w_sts [] (y_mk g_sh s) (as.map w_kz) a) (hw : ∀ v s2, w_T V g_sh (y_mk g_sh s2) → y_fr g_sh ms s s2 → (∃ q ∈ outs, w_out a (y_mk g_sh s2) q v) → y_W g_sh g_ts d t Q0 (p + len) ls (v.toList ++ st2) s2) : y_W g_sh g_ts d t Q0 p ls st s := by
  have hxE : y_exE g_sh (k, as, [(66, w_r r)], ms, outs, D) = true := by
    unfold y_exE
    rw [Bool.and_eq_true]
    exact ⟨y_ex66, hx⟩
  refine y_call (y_C.ofE g_shok g_pkok hxE hE) sv hq hins htk hc hm hd ⟨hT, ha, y_o66 hr⟩ (fun v s2 hQ => ?_)
  exact hw v s2 hQ.1 hQ.2.1 hQ.2.2
abbrev y_eGone (V : w_V) (r : Nat) : Prop := w_Ent V g_sh g_ts (33, [w_r 2, w_n 0 4 0], [(66, w_r r)], [], [([], some (w_n 0 0 0), []), ([], some (w_n 1 1 0), [])], 4)
/-- isGone: what goes on, from the same heap -/
theorem y_goneK {V : w_V} {d : Nat} {t : q_T} {Q0 : Option (q_V Int32) → y_H → Prop} {p : Nat} {ls : q_U Int32} {st : List (q_V Int32)} {s : y_H} {x : Int32} {r ix : Nat} (hE : y_eGone V r) (hq : q_get t p = some (.invokevirtual ix, 3, [33, 2, 2, 10])) (hc : Nat.ble (q_cats st) 8 = true) (hd : 4 ≤ d) (hT : w_T V g_sh (y_mk g_sh s)) (hr : s.2.2 0 2 = r) (h0 : 0 ≤ x.toInt) (h4 : x.toInt ≤ 4) (hw : ∀ z : Int32, (z.toInt = 0 ∨ z.toInt = 1) → y_W g_sh g_ts d t Q0 (p + 3) ls (.inl z :: st) s) : y_W g_sh g_ts d t Q0 p ls (.inl x :: .inr (.inr 2) :: st) s := by
  refine y_callT hE rfl 1 hq (fun _ _ _ => rfl) (a := [.inr (.inr 2), .inl x]) (st2 := st) rfl (by rw [hc]; rfl) (fun h hR => y_mayV (o := 0) (sz := 15) rfl hR) hd hT hr ⟨⟨2, rfl, List.mem_cons_self⟩, y_iv (by omega) (by omega), True.intro⟩ (fun v s2 hT2 hf hv => ?_)
  have he : ∀ o k A, w_ty g_sh o k = some A → y_mk g_sh s2 o k = y_mk g_sh s o k := fun o k A hA => hf o k A hA rfl
  refine y_W_eq g_shok he ?_
  obtain ⟨q, hq2, ho⟩ := hv
  have eq : q = ([], some (w_n 0 0 0), []) ∨ q = ([], some (w_n 1 1 0), []) := by simpa using hq2
  rcases eq with rfl | rfl
  · obtain ⟨z, rfl, z1, z2⟩ := y_ans ho
    exact hw z (Or.inl (by omega))
  · obtain ⟨z, rfl, z1, z2⟩ := y_ans ho
    exact hw z (Or.inr (by omega))
/-- V, where the queue now is another -/
theorem y_V1_now {n : Nat} {s s2 : y_H} (h : y_V1 n s.1) (hnow : y_Rc n (s2.1 29) (s2.1 30) (s2.1 28 1)) (hu : ∀ o k, ¬ (28 ≤ o ∧ o ≤ 32) → s2.1 o k = s.1 o k) : y_V1 n s2.1 := by
  obtain ⟨hFD, hM, -, hus, hrows, hbox⟩ := h
  refine ⟨y_FD_eq2 (hu 65 18 (by omega)) (fun i _ => hu 70 i (by omega)) (fun i _ => hu 71 i (by omega)) hFD, y_VM_eq2 (fun o k ho => hu o k (by omega)) hM, hnow, ?_, ?_, ?_⟩
  · rw [hu 33 1 (by omega), hu 33 2 (by omega), hu 33 3 (by omega)]
    exact hus
  · intro j hj
    rw [hu 33 2 (by omega), hu 33 3 (by omega)] at hj
    rw [hu 33 1 (by omega)]
    exact y_Rc_eq (fun k _ => hu 34 _ (by omega)) (fun k _ => hu 34 _ (by omega)) (hu 34 _ (by omega)) (hrows j hj)
  · intro b hb hbit
    rw [hu 0 7 (by omega)] at hbit
    exact y_Rc_eq (fun k _ => hu 35 _ (by omega)) (fun k _ => hu 35 _ (by omega)) (hu 35 _ (by omega)) (hbox b hb hbit)
theorem y_ty_sz {o k tag sz : Nat} {l : List w_A} {A : w_A} (h : g_sh[o]? = some (tag, sz, l)) (hA : w_ty g_sh o k = some A) : k < sz := by
  unfold w_ty at hA
  rw [h] at hA
  obtain ⟨hb, -⟩ := w_bs hA
  exact q_blt hb
abbrev y_lvK : List (Nat × Nat) := [(114753, 114753), (118848, 118853)]
theorem y_lv_in : ∀ k, k < 6 → w_inm y_lvK (w_key 29 k) = true := by decide +kernel
/-- what leave writes -/
theorem y_lvQ_fr {X : Nat} {s s2 : y_H} {v : Option (q_V Int32)} (h : y_lvQ X s v s2) (h6 : s2.1 29 6 = s.1 29 6) : y_fr g_sh y_lvK s s2 := by
  obtain ⟨-, -, e2, hu, -, -, -⟩ := h
  intro o k A hA hn
  refine y_mk_eq ?_ e2
  by_cases c : o = 29
  · subst c
    have hk := y_ty_sz (o := 29) (tag := 100) (sz := 7) (l := [w_n 0 6 0]) rfl hA
    by_cases c2 : k = 6
    · subst c2
      exact h6
    · rw [y_lv_in k (by omega)] at hn
      cases hn
  · by_cases c2 : o = 28 ∧ k = 1
    · obtain ⟨rfl, rfl⟩ := c2
      cases hn
    · exact hu o k c c2
abbrev y_guK : List (Nat × Nat) := [(114753, 114753), (118848, 118854), (122944, 122950), (135233, 135235), (139328, 140311)]
theorem y_lv7_in : ∀ k, k < 7 → w_inm y_guK (w_key 29 k) = true := by decide +kernel
theorem y_lvQ_fr7 {X : Nat} {s s2 : y_H} {v : Option (q_V Int32)} (h : y_lvQ X s v s2) : y_fr g_sh y_guK s s2 := by
  obtain ⟨-, -, e2, hu, -, -, -⟩ := h
  intro o k A hA hn
  refine y_mk_eq ?_ e2
  by_cases c : o = 29
  · subst c
    have hk := y_ty_sz (o := 29) (tag := 100) (sz := 7) (l := [w_n 0 6 0]) rfl hA
    rw [y_lv7_in k hk] at hn
    cases hn
  · by_cases c2 : o = 28 ∧ k = 1
    · obtain ⟨rfl, rfl⟩ := c2
      cases hn
    · exact hu o k c c2
theorem y_giveUpC {n : Nat} : y_C g_sh g_ts 25 3 (fun a s => w_T (y_Vn n) g_sh (y_mk g_sh s) ∧ y_Td n s ∧ ∃ x : Int32, a = [.inr (.inr 2), .inl x]) (fun _ s v s2 => y_pubQ n y_guK s v s2) := by
  refine y_C.of (t := g_t25) rfl (by decide) ?_
  rintro d a s hd ⟨hT, hD, x, rfl⟩
  have hn7 := y_Td7 hT hD
  have hV := y_VT hT
  have hr := y_rng (lo := 2147483648) (hi := 2147483655) (g := 0) hT (o := 28) (k := 1) rfl rfl
  refine y_run 2 rfl ?_
  refine y_call (y_inQueueC (V := y_Vn n) (n := n) (x := x)) 1 rfl (fun _ _ _ => rfl) (a := [.inr (.inr 2), .inl x]) rfl rfl (fun h hR => y_mayV (o := 0) (sz := 15) rfl hR) (by omega) ⟨hT, hD, rfl⟩ (fun v s2 hQ => ?_)
  obtain ⟨rfl, ⟨rfl, x0, x1, xs⟩ | rfl⟩ := hQ
  rotate_left
  · refine y_if rfl (fun h => absurd rfl h) (fun _ => ?_)
    refine y_run 1 rfl ?_
    exact y_iret rfl ⟨hT, y_fr.rf, _, rfl⟩
  refine y_if rfl (fun _ => ?_) (fun h => absurd (show (1 : Int) ≠ 0 by omega) h)
  obtain ⟨X0, hX0, eX0⟩ := y_Rc_in hV.2.2.1 x0 x1 hn7 xs
  refine y_run 5 rfl ?_
  refine y_call (y_placeOfC (V := y_Vn n) (x := x)) 1 rfl (fun _ _ _ => rfl) (a := [.inr (.inr 30), .inl x]) rfl rfl (fun h hR => y_mayV (o := 28) (sz := 10) rfl hR) (by omega) ⟨hT, rfl⟩ (fun v s3 hQ => ?_)
  obtain ⟨rfl, ⟨-, hno⟩ | ⟨z, X, rfl, hz, hX, eX⟩⟩ := hQ
  · exact absurd eX0 (hno X0 hX0)
  refine y_call y_leaveF 1 rfl (fun _ _ _ => rfl) (a := [.inr (.inr 30), .inl z]) rfl rfl (fun h hR => y_mayV (o := 28) (sz := 10) rfl hR) (by omega) ⟨y_t0 hT, z, X, rfl, hz, hX⟩ (fun v s4 hQ => ?_)
  have hL := hQ z X rfl hz
  have f4 := y_lvQ_fr7 hL
  obtain ⟨rfl, t4, -, u4, z4, a4, b4⟩ := hL
  refine y_run 5 rfl ?_
  refine y_ast (o := 30) (sz := 7) (j := x.toInt.toNat) rfl rfl (by omega) (by omega) y_k30 ?_
  have t5 := y_Tup0 (lo := 2147483648) (hi := 2147483652) (o := 30) (k := x.toInt.toNat) (x := Int32.ofInt 4) t4 (y_t30 (by omega)) y_k30 (show _ ≤ (4 : Int) by omega) (show (4 : Int) ≤ _ by omega)
  have f5 := f4.up (o := 30) (k := x.toInt.toNat) (v := .inl (Int32.ofInt 4)) y_k30 (y_msA (sz := 7) (by decide +kernel) (by omega))
  have u5 : ∀ o k, ¬ (o = 30 ∧ k = x.toInt.toNat) → (y_up s4 30 x.toInt.toNat (.inl (Int32.ofInt 4))).1 o k = s4.1 o k := fun o k h => y_up_ne h
  have e5 : (y_up s4 30 x.toInt.toNat (.inl (Int32.ofInt 4))).1 30 x.toInt.toNat = Int32.ofInt 4 := y_up_self
  revert t5 f5 u5 e5
  generalize y_up s4 30 x.toInt.toNat (.inl (Int32.ofInt 4)) = s5
  intro t5 f5 u5 e5
  have hnow : y_Rc n (s5.1 29) (s5.1 30) (s5.1 28 1) := by
    refine y_Rc_leave (X := X) (q := x.toInt) hV.2.2.1 (by omega) hX (by rw [eX]) ?_ (fun k hk => (u5 29 k (by omega)).trans (a4 k hk)) (fun k h1 h2 => (u5 29 k (by omega)).trans (b4 k h1 h2)) (fun p hp hne h0 => ?_) (fun p hp he h0 => ?_)
    · rw [u5 28 1 (by omega)]
      exact z4
    · rw [u5 30 p (by omega), u4 30 p (by omega) (by omega)] at h0
      exact h0
    · rw [show p = x.toInt.toNat by omega, e5] at h0
      exact absurd (show (4 : Int) = 0 from h0) (by omega)
  have hT5 := y_TV t5 (y_V1_now hV hnow (fun o k h => (u5 o k (by omega)).trans (u4 o k (by omega) (by omega))))
  refine y_run 4 rfl ?_
  refine y_call (y_keepC (n := n)) 1 rfl (fun _ _ _ => rfl) (a := [.inr (.inr 35), .inr (.inr 30)]) rfl rfl (fun h hR => y_mayV (o := 33) (sz := 4) rfl hR) (by omega) ⟨hT5, rfl⟩ (fun v s6 hQ => ?_)
  obtain ⟨rfl, hT6, f6⟩ := hQ
  refine y_run 3 rfl ?_
  exact y_iret rfl ⟨hT6, f5.tr (f6.mono (by decide +kernel)), _, rfl⟩
theorem y_joinC {n : Nat} (hg5 : y_eGone (y_Vn n) 5) (hg17 : y_eGone (y_Vn n) 17) : y_C g_sh g_ts 36 5 (fun a s => w_T (y_Vn n) g_sh (y_mk g_sh s) ∧ y_Td n s ∧ ∃ x : Int32, a = [.inr (.inr 2), .inl x]) (fun _ s v s2 => y_pubQ n y_guK s v s2) := by
  refine y_C.of (t := g_t36) rfl (by decide) ?_
  rintro d a s hd ⟨hT, hD, x, rfl⟩
  have hn7 := y_Td7 hT hD
  have hV := y_VT hT
  have hr := y_rng (lo := 2147483648) (hi := 2147483655) (g := 0) hT (o := 28) (k := 1) rfl rfl
  have no : ∀ ls, y_W g_sh g_ts d g_t36 (y_pubQ n y_guK s) 36 ls [] s := by
    intro ls
    refine y_run 1 rfl ?_
    exact y_iret rfl ⟨hT, y_fr.rf, _, rfl⟩
  refine y_run 2 rfl ?_
  refine y_call (y_isPairC (n := n) (x := x)) 1 rfl (fun _ _ _ => rfl) (a := [.inr (.inr 2), .inl x]) rfl rfl (fun h hR => y_mayV (o := 0) (sz := 15) rfl hR) (by omega) ⟨hD, rfl⟩ (fun v s2 hQ => ?_)
  obtain ⟨rfl, ⟨rfl, x0, x1⟩ | ⟨rfl, -⟩⟩ := hQ
  rotate_left
  · exact y_if rfl (fun _ => no _) (fun h => absurd rfl h)
  refine y_if rfl (fun h => absurd (show (1 : Int) = 0 from h) (by omega)) (fun _ => ?_)
  -- behind isGone
  have go : ∀ z : Int32, y_W g_sh g_ts d g_t36 (y_pubQ n y_guK s2) 21 [(0, .inr (.inr 2)), (1, .inl x)] [.inl z] s2 := by
    intro z
    refine y_if rfl (fun _ => no _) (fun _ => ?_)
    refine y_run 4 rfl ?_
    refine y_ic rfl (fun h => ?_) (fun _ => no _)
    have h7 : (s2.1 28 1).toInt < 7 := h
    -- who may join
    have yes : (s2.1 30 x.toInt.toNat).toInt ≠ 0 → y_W g_sh g_ts d g_t36 (y_pubQ n y_guK s2) 66 [(0, .inr (.inr 2)), (1, .inl x)] [] s2 := by
      intro hh
      refine y_run 5 rfl ?_
      refine y_ast (o := 30) (sz := 7) (j := x.toInt.toNat) rfl rfl (by omega) (by omega) y_k30 ?_
      have t3 := y_Tup0 (lo := 2147483648) (hi := 2147483652) (o := 30) (k := x.toInt.toNat) (x := Int32.ofInt 0) (y_t0 hT) (y_t30 (by omega)) y_k30 (show _ ≤ (0 : Int) by omega) (show (0 : Int) ≤ _ by omega)
      have f3 := (y_fr.rf (sh := g_sh) (ms := y_guK) (s := s2)).up (o := 30) (k := x.toInt.toNat) (v := .inl (Int32.ofInt 0)) y_k30 (y_msA (sz := 7) (by decide +kernel) (by omega))
      have u3 : ∀ o k, ¬ (o = 30 ∧ k = x.toInt.toNat) → (y_up s2 30 x.toInt.toNat (.inl (Int32.ofInt 0))).1 o k = s2.1 o k := fun o k h => y_up_ne h
      revert t3 f3 u3
      generalize y_up s2 30 x.toInt.toNat (.inl (Int32.ofInt 0)) = s3
      intro t3 f3 u3
      obtain ⟨Z, hZ⟩ : ∃ Z : Nat, (s2.1 28 1).toInt = (Z : Int) := ⟨(s2.1 28 1).toInt.toNat, by omega⟩
      refine y_run 7 rfl ?_
      refine y_ast (o := 29) (sz := 7) (j := Z) rfl rfl (by rw [u3 28 1 (by omega)]; exact hZ) (by omega) y_k29 ?_
      have t4 := y_Tup0 (lo := 2147483648) (hi := 2147483654) (o := 29) (k := Z) (x := x) t3 (y_t29 (by omega)) y_k29 (by omega) (by omega)
      have f4 := f3.up (o := 29) (k := Z) (v := .inl x) y_k29 (y_msA (sz := 7) (by decide +kernel) (by omega))
      have u4 : ∀ o k, ¬ (o = 29 ∧ k = Z) → (y_up s3 29 Z (.inl x)).1 o k = s3.1 o k := fun o k h => y_up_ne h
      have e4 : (y_up s3 29 Z (.inl x)).1 29 Z = x := y_up_self
      revert t4 f4 u4 e4
      generalize y_up s3 29 Z (.inl x) = s4
      intro t4 f4 u4 e4
      have e28 : s4.1 28 1 = s2.1 28 1 := (u4 28 1 (by omega)).trans (u3 28 1 (by omega))
      have ea : (s4.1 28 1 + (Int32.ofInt 1)).toInt = (s4.1 28 1).toInt + 1 := y_add (x := s4.1 28 1) (y := 1) (by rw [e28]; show _ ≤ _ + (1 : Int); omega) (by rw [e28]; show _ + (1 : Int) ≤ _; omega)
      rw [e28] at ea
      have t5 := y_Tup0 (lo := 2147483648) (hi := 2147483655) (o := 28) (k := 1) (x := s4.1 28 1 + (Int32.ofInt 1)) t4 rfl rfl (by rw [e28]; omega) (by rw [e28]; omega)
      have f5 := f4.up (o := 28) (k := 1) (v := .inl (s4.1 28 1 + (Int32.ofInt 1))) rfl (by decide +kernel)
      have u5 : ∀ o k, ¬ (o = 28 ∧ k = 1) → (y_up s4 28 1 (.inl (s4.1 28 1 + (Int32.ofInt 1)))).1 o k = s4.1 o k := fun o k h => y_up_ne h
      have e5 : ((y_up s4 28 1 (.inl (s4.1 28 1 + (Int32.ofInt 1)))).1 28 1).toInt = (Z : Int) + 1 := by
        rw [y_up_self, e28, ea, hZ]
      refine y_run 7 rfl ?_
      show y_W g_sh g_ts d g_t36 (y_pubQ n y_guK s2) 105 [(0, .inr (.inr 2)), (1, .inl x)] [] (y_up s4 28 1 (.inl (s4.1 28 1 + (Int32.ofInt 1))))
      revert t5 f5 u5 e5
      generalize y_up s4 28 1 (.inl (s4.1 28 1 + (Int32.ofInt 1))) = s5
      intro t5 f5 u5 e5
      have hnow : y_Rc n (s5.1 29) (s5.1 30) (s5.1 28 1) := by
        intro p hp p7 h0
        by_cases c : p = x.toInt.toNat
        · refine ⟨Z, by omega, by omega, ?_⟩
          rw [u5 29 Z (by omega), e4]
          omega
        · rw [u5 30 p (by omega), u4 30 p (by omega), u3 30 p (by omega)] at h0
          obtain ⟨i, i7, g1, g2⟩ := hV.2.2.1 p hp p7 h0
          refine ⟨i, i7, by omega, ?_⟩
          rw [u5 29 i (by omega), u4 29 i (by omega), u3 29 i (by omega)]
          exact g2
      have hT5 := y_TV t5 (y_V1_now hV hnow (fun o k h => (u5 o k (by omega)).trans ((u4 o k (by omega)).trans (u3 o k (by omega)))))
      refine y_run 4 rfl ?_
      refine y_call (y_keepC (n := n)) 1 rfl (fun _ _ _ => rfl) (a := [.inr (.inr 35), .inr (.inr 30)]) rfl rfl (fun h hR => y_mayV (o := 33) (sz := 4) rfl hR) (by omega) ⟨hT5, rfl⟩ (fun v s6 hQ => ?_)
      obtain ⟨rfl, hT6, f6⟩ := hQ
      refine y_run 5 rfl ?_
      exact y_iret rfl ⟨hT6, f5.tr (f6.mono (by decide +kernel)), _, rfl⟩
    refine y_run 4 rfl ?_
    refine y_ald (o := 30) (sz := 7) (j := x.toInt.toNat) rfl rfl (by omega) (by omega) y_k30 ?_
    refine y_run 1 rfl ?_
    refine y_ic rfl (fun h => ?_) (fun _ => ?_)
    · have h4 : (s2.1 30 x.toInt.toNat).toInt = 4 := h
      exact yes (by omega)
    refine y_run 4 rfl ?_
    refine y_ald (o := 30) (sz := 7) (j := x.toInt.toNat) rfl rfl (by omega) (by omega) y_k30 ?_
    refine y_run 1 rfl ?_
    refine y_ic rfl (fun h => ?_) (fun _ => ?_)
    · have h4 : (s2.1 30 x.toInt.toNat).toInt = 3 := h
      exact yes (by omega)
    refine y_run 1 rfl ?_
    exact y_iret rfl ⟨hT, y_fr.rf, _, rfl⟩
  refine y_run 3 rfl ?_
  show y_W g_sh g_ts d g_t36 (y_pubQ n y_guK s2) 13 [(0, .inr (.inr 2)), (1, .inl x)] [.inr (.inr (s2.2.2 0 2)), .inr (.inr 2)] s2
  rcases hD with ⟨e, hn⟩ | ⟨e, hn⟩
  · rw [e]
    have r8 := y_rng (lo := 2147483648) (hi := 2147483652) (g := 0) hT (o := 8) (k := x.toInt.toNat) (y_tyA (tag := 100) (sz := 7) (A := w_n 0 4 0) rfl (by omega)) (y_kdA (tag := 100) (sz := 7) (a := ((2147483648, 2147483652), 0)) rfl)
    refine y_run 2 rfl ?_
    refine y_ald (o := 8) (sz := 7) (j := x.toInt.toNat) rfl rfl (by omega) (by omega) (y_kdA (tag := 100) (sz := 7) (a := ((2147483648, 2147483652), 0)) rfl) ?_
    exact y_goneK hg5 rfl rfl (by omega) hT e (by omega) (by omega) (fun z _ => go z)
  · rw [e]
    have r8 := y_rng (lo := 2147483648) (hi := 2147483652) (g := 0) hT (o := 20) (k := x.toInt.toNat) (y_tyA (tag := 100) (sz := 7) (A := w_n 0 4 0) rfl (by omega)) (y_kdA (tag := 100) (sz := 7) (a := ((2147483648, 2147483652), 0)) rfl)
    refine y_run 2 rfl ?_
    refine y_ald (o := 20) (sz := 7) (j := x.toInt.toNat) rfl rfl (by omega) (by omega) (y_kdA (tag := 100) (sz := 7) (a := ((2147483648, 2147483652), 0)) rfl) ?_
    exact y_goneK hg17 rfl rfl (by omega) hT e (by omega) (by omega) (fun z _ => go z)
