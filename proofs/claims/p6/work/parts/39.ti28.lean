/-! TWO CHANGE PLACES: walked once more, with what the trees tell of it (printed by wip/gen/mkchange.py) -/
section CHANGE
/-- the class's state and its past -/
def stC (o k : Nat) : Prop := qS o k ∨ (o = 33 ∧ (k = 1 ∨ k = 2 ∨ k = 3)) ∨ (o = 34 ∧ k < 984)
theorem stC_T {o k : Nat} (h : stC o k) : zT o k := by
  rcases h with h | h | h
  · exact qS_T h
  · exact qP_T (Or.inl h)
  · exact qP_T (Or.inr (Or.inl h))
def l_rcS : List (Nat × Nat) := [(114753, 114753), (114755, 114755), (114758, 114761), (118848, 118854), (122944, 122950), (127040, 127041), (131136, 131137), (135233, 135235), (139328, 140311)]
theorem stC_r {o k : Nat} (h : stC o k) : ∃ r, r ∈ l_rcS ∧ r.1 ≤ w_key o k ∧ w_key o k ≤ r.2 := by
  unfold stC qS at h
  unfold w_key
  rcases h with (⟨rfl, h⟩ | ⟨rfl, h⟩ | ⟨rfl, h⟩ | ⟨rfl, h⟩ | ⟨rfl, h⟩) | ⟨rfl, h⟩ | ⟨rfl, h⟩
  · rcases h with rfl | rfl | h
    · exact ⟨(114753, 114753), by decide, by decide, by decide⟩
    · exact ⟨(114755, 114755), by decide, by decide, by decide⟩
    · exact ⟨(114758, 114761), by decide, by show 114758 ≤ _; omega, by show _ ≤ 114761; omega⟩
  · exact ⟨(118848, 118854), by decide, by show 118848 ≤ _; omega, by show _ ≤ 118854; omega⟩
  · exact ⟨(122944, 122950), by decide, by show 122944 ≤ _; omega, by show _ ≤ 122950; omega⟩
  · exact ⟨(127040, 127041), by decide, by show 127040 ≤ _; omega, by show _ ≤ 127041; omega⟩
  · exact ⟨(131136, 131137), by decide, by show 131136 ≤ _; omega, by show _ ≤ 131137; omega⟩
  · exact ⟨(135233, 135235), by decide, by show 135233 ≤ _; omega, by show _ ≤ 135235; omega⟩
  · exact ⟨(139328, 140311), by decide, by show 139328 ≤ _; omega, by show _ ≤ 140311; omega⟩
theorem st_fr {K : List (Nat × Nat)} {s s2 : y_H} {o k : Nat} (h : stC o k) (hf : y_fr g_sh K s s2) (hK : l_kR l_rcS K = true) : s2.1 o k = s.1 o k := by
  obtain ⟨r, h1, h2, h3⟩ := stC_r h
  exact zT_fr (stC_T h) hf (l_kR_ok hK h1 h2 h3)
/-- the model's state and its past -/
def smA (o k : Nat) : Prop := (o = 65 ∧ (k = 66 ∨ k = 67)) ∨ (o = 85 ∧ k < 28) ∨ (o = 91 ∧ k < 1120)
theorem smA_T {o k : Nat} (h : smA o k) : zT o k := by
  rcases h with ⟨rfl, h⟩ | ⟨rfl, h⟩ | ⟨rfl, h⟩
  · rcases h with rfl | rfl <;> exact ⟨⟨_, rfl, by decide⟩, rfl⟩
  · exact zT_a rfl h (by decide) (by decide)
  · exact zT_a rfl h (by decide) (by decide)
theorem smA_fr {K : List (Nat × Nat)} {s s2 : y_H} {o k : Nat} (h : smA o k) (hf : y_fr g_sh K s s2) (hK : l_kR [(266370, 266371), (348224, 348251), (372800, 373919)] K = true) : s2.1 o k = s.1 o k := by
  have hr : ∃ r, r ∈ [((266370 : Nat), (266371 : Nat)), (348224, 348251), (372800, 373919)] ∧ r.1 ≤ w_key o k ∧ w_key o k ≤ r.2 := by
    unfold w_key
    rcases h with ⟨rfl, h⟩ | ⟨rfl, h⟩ | ⟨rfl, h⟩
    · exact ⟨(266370, 266371), by decide, by show 266370 ≤ _; omega, by show _ ≤ 266371; omega⟩
    · exact ⟨(348224, 348251), by decide, by show 348224 ≤ _; omega, by show _ ≤ 348251; omega⟩
    · exact ⟨(372800, 373919), by decide, by show 372800 ≤ _; omega, by show _ ≤ 373919; omega⟩
  obtain ⟨r, h1, h2, h3⟩ := hr
  exact zT_fr (smA_T h) hf (l_kR_ok hK h1 h2 h3)
/-- why nothing changes -/
def chN (x y : Int32) (s : y_H) : Prop := x = y ∨ (∃ (z : Int32) (t : u_H), z = 0 ∧ u_c 30 [.inr (.inr 2), .inl x] (uP s) = some (some (.inl z), t)) ∨ ∃ (z : Int32) (t : u_H), z = 0 ∧ u_c 30 [.inr (.inr 2), .inl y] (uP s) = some (some (.inl z), t)
def chNM (x y : Int32) (s : y_H) : Prop := x = y ∨ (∃ (z : Int32) (t : u_H), z = 0 ∧ u_c 235 [.inr (.inr 67), .inl x] (uP s) = some (some (.inl z), t)) ∨ ∃ (z : Int32) (t : u_H), z = 0 ∧ u_c 235 [.inr (.inr 67), .inl y] (uP s) = some (some (.inl z), t)
/-- and why it does -/
def chY (x y : Int32) (s : y_H) : Prop := x ≠ y ∧ (∃ (z : Int32) (t : u_H), z = 1 ∧ u_c 30 [.inr (.inr 2), .inl x] (uP s) = some (some (.inl z), t)) ∧ ∃ (z : Int32) (t : u_H), z = 1 ∧ u_c 30 [.inr (.inr 2), .inl y] (uP s) = some (some (.inl z), t)
def chYM (x y : Int32) (s : y_H) : Prop := x ≠ y ∧ (∃ (z : Int32) (t : u_H), z = 1 ∧ u_c 235 [.inr (.inr 67), .inl x] (uP s) = some (some (.inl z), t)) ∧ ∃ (z : Int32) (t : u_H), z = 1 ∧ u_c 235 [.inr (.inr 67), .inl y] (uP s) = some (some (.inl z), t)
def chC (a : List (q_V Int32)) (s s2 : y_H) : Prop := (s2 = s ∧ ∃ x y : Int32, a = [.inr (.inr 2), .inl x, .inl y] ∧ chN x y s) ∨ ∃ (x y : Int32) (X Y : Nat) (t : u_H) (s8 : y_H), a = [.inr (.inr 2), .inl x, .inl y] ∧ chY x y s ∧ (X < 7 ∧ Y < 7 ∧ X ≠ Y) ∧ ((X : Int) < (s.1 28 1).toInt ∧ (Y : Int) < (s.1 28 1).toInt) ∧ (s.1 29 X = x ∧ s.1 29 Y = y) ∧ u_c 94 [.inr (.inr 35), .inr (.inr 30)] (uP (y_up (y_up s 29 X (.inl y)) 29 Y (.inl x))) = some (none, t) ∧ zA t s8 ∧ ∀ o k, stC o k → s2.1 o k = s8.1 o k
def chM (a : List (q_V Int32)) (s s2 : y_H) : Prop := (s2 = s ∧ ∃ x y : Int32, a = [.inr (.inr 67), .inl x, .inl y] ∧ chNM x y s) ∨ ∃ (x y : Int32) (X Y : Nat) (t : u_H) (s4 : y_H), a = [.inr (.inr 67), .inl x, .inl y] ∧ chYM x y s ∧ ((X : Int) < (s4.1 86 8).toInt ∧ (Y : Int) < (s4.1 86 8).toInt) ∧ (s4.1 86 X = x ∧ s4.1 86 Y = y) ∧ u_c 175 [.inr (.inr 67)] (uP s) = some (none, t) ∧ zA t s4 ∧ (∀ k, k < 28 → s2.1 85 k = if k = Y then x else if k = X then y else s4.1 86 k) ∧ ∀ o k, ((o = 65 ∧ (k = 66 ∨ k = 67)) ∨ (o = 91 ∧ k < 1120)) → s2.1 o k = s4.1 o k
theorem y_changeC2 {n : Nat} {K5 K17 : List (Nat × Nat)} {M5 M17 : w_U} (hc5 : y_eCntC (y_Vn n) 5 K5 M5) (hc17 : y_eCntC (y_Vn n) 17 K17 M17) (k5 : l_kR l_rcS K5 = true) (k17 : l_kR l_rcS K17 = true) : y_C g_sh g_ts 10 8 (fun a s => w_T (y_Vn n) g_sh (y_mk g_sh s) ∧ y_Td n s ∧ ∃ x y : Int32, a = [.inr (.inr 2), .inl x, .inl y]) (fun a s v s2 => y_pubQ n y_chK s v s2 ∧ chC a s s2) := by
  refine y_C.of (t := g_t10) rfl (by decide) ?_
  rintro d a s hd ⟨hT, hD, x, y, rfl⟩
  have hn7 := y_Td7 hT hD
  have hV := y_VT hT
  have hr := y_rng (lo := 2147483648) (hi := 2147483655) (g := 0) hT (o := 28) (k := 1) rfl rfl
  have no : ∀ ls, chN x y s → y_W g_sh g_ts d g_t10 (fun v s2 => y_pubQ n y_chK s v s2 ∧ chC [.inr (.inr 2), .inl x, .inl y] s s2) 21 ls [] s := by
    intro ls hn
    refine y_run 1 rfl ?_
    exact y_iret rfl ⟨⟨hT, y_fr.rf, _, rfl⟩, Or.inl ⟨rfl, x, y, rfl, hn⟩⟩
  refine y_run 2 rfl ?_
  refine y_ic rfl (fun he => no _ (Or.inl (Int32.toInt_inj.mp he))) (fun hne => ?_)
  have hne2 : x.toInt ≠ y.toInt := hne
  refine y_run 2 rfl ?_
  refine y_call (y_C.u (by decide) (y_inQueueC (V := y_Vn n) (n := n) (x := x))) 1 rfl (fun _ _ _ => rfl) (a := [.inr (.inr 2), .inl x]) rfl rfl (fun h hR => y_mayV (o := 0) (sz := 15) rfl hR) (by omega) ⟨hT, hD, rfl⟩ (fun v s2 hQ => ?_)
  obtain ⟨⟨rfl, ⟨rfl, x0, x1, xs⟩ | rfl⟩, tx, ex, -⟩ := hQ
  rotate_left
  · exact y_if rfl (fun _ => no _ (Or.inr (Or.inl ⟨_, _, rfl, ex⟩))) (fun h => absurd rfl h)
  refine y_if rfl (fun h => absurd (show (1 : Int) = 0 from h) (by omega)) (fun _ => ?_)
  refine y_run 2 rfl ?_
  refine y_call (y_C.u (by decide) (y_inQueueC (V := y_Vn n) (n := n) (x := y))) 1 rfl (fun _ _ _ => rfl) (a := [.inr (.inr 2), .inl y]) rfl rfl (fun h hR => y_mayV (o := 0) (sz := 15) rfl hR) (by omega) ⟨hT, hD, rfl⟩ (fun v s3 hQ => ?_)
  obtain ⟨⟨rfl, ⟨rfl, y0, y1, ys⟩ | rfl⟩, ty, ey, -⟩ := hQ
  rotate_left
  · exact y_if rfl (fun h => absurd rfl h) (fun _ => no _ (Or.inr (Or.inr ⟨_, _, rfl, ey⟩)))
  refine y_if rfl (fun _ => ?_) (fun h => absurd (show (1 : Int) ≠ 0 by omega) h)
  obtain ⟨X0, hX0, eX0⟩ := y_Rc_in hV.2.2.1 x0 x1 hn7 xs
  obtain ⟨Y0, hY0, eY0⟩ := y_Rc_in hV.2.2.1 y0 y1 hn7 ys
  refine y_run 3 rfl ?_
  refine y_call (y_placeOfC (V := y_Vn n) (x := x)) 1 rfl (fun _ _ _ => rfl) (a := [.inr (.inr 30), .inl x]) rfl rfl (fun h hR => y_mayV (o := 28) (sz := 10) rfl hR) (by omega) ⟨hT, rfl⟩ (fun v s4 hQ => ?_)
  obtain ⟨rfl, ⟨-, hno⟩ | ⟨z, X, rfl, hz, hX, eX⟩⟩ := hQ
  · exact absurd eX0 (hno X0 hX0)
  refine y_run 4 rfl ?_
  refine y_call (y_placeOfC (V := y_Vn n) (x := y)) 1 rfl (fun _ _ _ => rfl) (a := [.inr (.inr 30), .inl y]) rfl rfl (fun h hR => y_mayV (o := 28) (sz := 10) rfl hR) (by omega) ⟨hT, rfl⟩ (fun v s5 hQ => ?_)
  obtain ⟨rfl, ⟨-, hno⟩ | ⟨w, Y, rfl, hw, hY, eY⟩⟩ := hQ
  · exact absurd eY0 (hno Y0 hY0)
  have hXY : X ≠ Y := by
    intro e
    rw [e, eY] at eX
    exact hne2 (by rw [eX])
  refine y_run 1 rfl ?_
  refine y_sub (ls1 := [(0, .inr (.inr 2)), (1, .inl x), (2, .inl y), (3, .inl z), (4, .inl w)]) (show ([0, 1, 2, 3, 4] : List Nat).Nodup by decide) (y_R_cons rfl (y_R_cons rfl (y_R_cons rfl (y_R_cons rfl (y_R_cons rfl y_R_nil))))) ?_
  refine y_run 5 rfl ?_
  refine y_ast (o := 29) (sz := 7) (j := X) rfl rfl hz (by omega) y_k29 ?_
  have t6 := y_Tup0 (lo := 2147483648) (hi := 2147483654) (o := 29) (k := X) (x := y) (y_t0 hT) (y_t29 (by omega)) y_k29 (by omega) (by omega)
  have f6 := (y_fr.rf (sh := g_sh) (ms := y_chK) (s := s5)).up (o := 29) (k := X) (v := .inl y) y_k29 (y_msA (sz := 7) (by decide +kernel) (by omega))
  have u6 : ∀ o k, ¬ (o = 29 ∧ k = X) → (y_up s5 29 X (.inl y)).1 o k = s5.1 o k := fun o k h => y_up_ne h
  have e6 : (y_up s5 29 X (.inl y)).1 29 X = y := y_up_self
  revert t6 f6 u6 e6
  generalize hs6 : y_up s5 29 X (.inl y) = s6
  intro t6 f6 u6 e6
  refine y_run 5 rfl ?_
  refine y_ast (o := 29) (sz := 7) (j := Y) rfl rfl hw (by omega) y_k29 ?_
  have t7 := y_Tup0 (lo := 2147483648) (hi := 2147483654) (o := 29) (k := Y) (x := x) t6 (y_t29 (by omega)) y_k29 (by omega) (by omega)
  have f7 := f6.up (o := 29) (k := Y) (v := .inl x) y_k29 (y_msA (sz := 7) (by decide +kernel) (by omega))
  have u7 : ∀ o k, ¬ (o = 29 ∧ k = Y) → (y_up s6 29 Y (.inl x)).1 o k = s6.1 o k := fun o k h => y_up_ne h
  have e7 : (y_up s6 29 Y (.inl x)).1 29 Y = x := y_up_self
  revert t7 f7 u7 e7
  generalize hs7 : y_up s6 29 Y (.inl x) = s7
  intro t7 f7 u7 e7
  have z7 : s7.1 28 1 = s5.1 28 1 := (u7 28 1 (by omega)).trans (u6 28 1 (by omega))
  have hnow : y_Rc n (s7.1 29) (s7.1 30) (s7.1 28 1) := by
    intro p hp p7 h0
    rw [u7 30 p (by omega), u6 30 p (by omega)] at h0
    rw [z7]
    by_cases cx : (p : Int) = x.toInt
    · exact ⟨Y, by omega, hY, by rw [e7]; omega⟩
    by_cases cy : (p : Int) = y.toInt
    · exact ⟨X, by omega, hX, by rw [u7 29 X (by omega), e6]; omega⟩
    obtain ⟨i, i7, g1, g2⟩ := hV.2.2.1 p hp p7 h0
    have hiX : i ≠ X := fun e => by
      rw [e, eX] at g2
      omega
    have hiY : i ≠ Y := fun e => by
      rw [e, eY] at g2
      omega
    exact ⟨i, i7, g1, by rw [u7 29 i (by omega), u6 29 i (by omega)]; exact g2⟩
  have hT7 := y_TV t7 (y_V1_now hV hnow (fun o k h => (u7 o k (by omega)).trans (u6 o k (by omega))))
  refine y_run 4 rfl ?_
  refine y_call (y_C.u (by decide) (y_keepC (n := n))) 1 rfl (fun _ _ _ => rfl) (a := [.inr (.inr 35), .inr (.inr 30)]) rfl rfl (fun h hR => y_mayV (o := 33) (sz := 4) rfl hR) (by omega) ⟨hT7, rfl⟩ (fun v s8 hQ => ?_)
  obtain ⟨⟨rfl, hT8, f8⟩, t8, e8, z8⟩ := hQ
  have X7 : X < 7 := by omega
  have Y7 : Y < 7 := by omega
  have fin : ∀ (K : List (Nat × Nat)) (s9 : y_H), l_kR l_rcS K = true → y_fr g_sh K s8 s9 → chC [.inr (.inr 2), .inl x, .inl y] s5 s9 := fun K s9 hK hf => Or.inr ⟨x, y, X, Y, t8, s8, rfl, ⟨fun e => hne2 (by rw [e]), ⟨_, _, rfl, ex⟩, _, _, rfl, ey⟩, ⟨X7, Y7, hXY⟩, ⟨hX, hY⟩, ⟨eX, eY⟩, by rw [hs6, hs7]; exact e8, z8, fun o k h => st_fr h hf hK⟩
  have f9 : y_fr g_sh y_chK s5 s8 := f7.tr (f8.mono (by decide +kernel))
  have e66 := y_fr66 f9 (by decide +kernel)
  refine y_run 1 rfl ?_
  rcases hD with ⟨e, -⟩ | ⟨e, -⟩
  · obtain ⟨⟨i1, i2⟩, hE⟩ := hc5
    refine y_callT hE (by simpa using i2) 1 rfl (fun _ _ _ => rfl) (a := [.inr (.inr 2)]) rfl rfl (fun h hR => y_mayV (o := 0) (sz := 15) rfl hR) (by omega) hT8 (e66.trans e) ⟨⟨2, rfl, List.mem_cons_self⟩, True.intro⟩ (fun v s9 hT9 hf9 hv => ?_)
    obtain ⟨q, hq2, ho⟩ := hv
    have eq : q = ([], some (w_n 0 8 0), M5) := by simpa using hq2
    subst eq
    obtain ⟨z2, rfl, -, -⟩ := y_ans ho
    exact y_iret rfl ⟨⟨hT9, f9.tr (hf9.mono i1), _, rfl⟩, fin _ _ k5 hf9⟩
  · obtain ⟨⟨i1, i2⟩, hE⟩ := hc17
    refine y_callT hE (by simpa using i2) 1 rfl (fun _ _ _ => rfl) (a := [.inr (.inr 2)]) rfl rfl (fun h hR => y_mayV (o := 0) (sz := 15) rfl hR) (by omega) hT8 (e66.trans e) ⟨⟨2, rfl, List.mem_cons_self⟩, True.intro⟩ (fun v s9 hT9 hf9 hv => ?_)
    obtain ⟨q, hq2, ho⟩ := hv
    have eq : q = ([], some (w_n 0 8 0), M17) := by simpa using hq2
    subst eq
    obtain ⟨z2, rfl, -, -⟩ := y_ans ho
    exact y_iret rfl ⟨⟨hT9, f9.tr (hf9.mono i1), _, rfl⟩, fin _ _ k17 hf9⟩
theorem y_changeM2 {n : Nat} {FM CM : w_U} (has : y_eAsTold (y_Vn n) FM) (hcnt : y_eCnt (y_Vn n) CM) : y_C g_sh g_ts 185 9 (fun a s => w_T (y_Vn n) g_sh (y_mk g_sh s) ∧ ∃ x y : Int32, a = [.inr (.inr 67), .inl x, .inl y]) (fun a s v s2 => y_pubQ n y_miK s v s2 ∧ chM a s s2) := by
  refine y_C.of (t := g_t185) rfl (by decide) ?_
  rintro d a s hd ⟨hT, x, y, rfl⟩
  have hp := y_pairs hT
  have no : ∀ ls : q_U Int32, chNM x y s → y_W g_sh g_ts d g_t185 (fun v s2 => y_pubQ n y_miK s v s2 ∧ chM [.inr (.inr 67), .inl x, .inl y] s s2) 21 ls [] s := by
    intro ls hn
    refine y_run 1 rfl ?_
    exact y_iret rfl ⟨⟨hT, y_fr.rf, _, rfl⟩, Or.inl ⟨rfl, x, y, rfl, hn⟩⟩
  refine y_run 2 rfl ?_
  refine y_call (y_C.u (by decide) (y_isQueuedF (V := y_Vn n))) 1 rfl (fun _ _ _ => rfl) (a := [.inr (.inr 67), .inl x]) rfl rfl (fun h hR => y_mayV (o := 65) (sz := 85) rfl hR) (by omega) ⟨hT, x, rfl⟩ (fun v s2 hQ => ?_)
  obtain ⟨⟨rfl, hQ⟩, tx, ex, -⟩ := hQ
  rcases hQ x rfl with ⟨rfl, x0, x1, xs⟩ | rfl
  · refine y_if rfl (fun h => absurd (show (1 : Int) = 0 from h) (by omega)) (fun _ => ?_)
    refine y_run 2 rfl ?_
    refine y_call (y_C.u (by decide) (y_isQueuedF (V := y_Vn n))) 1 rfl (fun _ _ _ => rfl) (a := [.inr (.inr 67), .inl y]) rfl rfl (fun h hR => y_mayV (o := 65) (sz := 85) rfl hR) (by omega) ⟨hT, y, rfl⟩ (fun v s3 hQ => ?_)
    obtain ⟨⟨rfl, hQ⟩, ty, ey, -⟩ := hQ
    rcases hQ y rfl with ⟨rfl, y0, y1, ys⟩ | rfl
    · refine y_if rfl (fun h => absurd (show (1 : Int) = 0 from h) (by omega)) (fun _ => ?_)
      refine y_run 2 rfl ?_
      refine y_ic rfl (fun hne => ?_) (fun he => no _ (Or.inl (Int32.toInt_inj.mp (Classical.byContradiction fun q => he q))))
      have hne2 : x.toInt ≠ y.toInt := hne
      refine y_run 1 rfl ?_
      refine y_call (y_C.u (by decide) (y_actM has)) 1 rfl (fun _ _ _ => rfl) (a := [.inr (.inr 67)]) rfl rfl (fun h hR => y_mayV (o := 65) (sz := 85) rfl hR) (by omega) ⟨hT, rfl⟩ (fun v s4 hQ => ?_)
      obtain ⟨⟨rfl, hT4, hf4, he4⟩, t4, e4, z4⟩ := hQ
      obtain ⟨e48, hA4⟩ := y_acAI hT hf4 he4
      obtain ⟨X0, X8, hX0, eX0⟩ := y_AI_in hA4 x0 (by rw [e48]; exact x1) (by omega) (by rw [he4 _ (by omega)]; exact xs)
      obtain ⟨Y0, Y8, hY0, eY0⟩ := y_AI_in hA4 y0 (by rw [e48]; exact y1) (by omega) (by rw [he4 _ (by omega)]; exact ys)
      refine y_run 3 rfl ?_
      refine y_call (y_changesF (V := y_Vn n)) 1 rfl (fun _ _ _ => rfl) (a := [.inr (.inr 67), .inl x, .inl y]) rfl rfl (fun h hR => y_mayV (o := 65) (sz := 85) rfl hR) (by omega) ⟨hT4, x, y, rfl, ⟨X0, hX0, eX0⟩, ⟨Y0, hY0, eY0⟩⟩ (fun v s5 hQ => ?_)
      obtain ⟨rfl, hT5, hf5, X, Y, hX, hY, eX, eY, he5⟩ := hQ x y rfl
      have hA5 := y_AI_chg hA4 hX hY eX eY hne2 he5
      have e5 : s5.1 65 48 = s4.1 65 48 := hf5.at (o := 65) (k := 48) (A := w_n 0 7 0) rfl rfl (by decide +kernel)
      refine y_run 1 rfl ?_
      refine y_call y_keepAir 1 rfl (fun _ _ _ => rfl) (a := [.inr (.inr 67)]) rfl rfl (fun h hR => y_mayV (o := 65) (sz := 85) rfl hR) (by omega) rfl (fun v s6 hQ => ?_)
      obtain ⟨rfl, rfl⟩ := hQ
      have hT6 := y_keepV hT5 (by rw [e5]; exact hA5)
      have hf6 : y_fr g_sh y_miK s3 (y_cp s5 85 0 (s5.1 86) 28) := ((hf4.mono (by decide +kernel)).tr (hf5.mono (by decide +kernel))).cp (by decide +kernel)
      refine y_run 1 rfl ?_
      refine y_callI hcnt 1 rfl (fun _ _ _ => rfl) (a := [.inr (.inr 67)]) rfl rfl (fun h hR => y_mayV (o := 65) (sz := 85) rfl hR) (by omega) hT6 ⟨⟨67, rfl, List.mem_cons_self⟩, True.intro⟩ (fun z s7 hT7 hf7 _ _ => ?_)
      refine y_iret rfl ⟨⟨hT7, hf6.tr (hf7.mono (by decide +kernel)), _, rfl⟩, Or.inr ⟨x, y, X, Y, t4, s4, rfl, ⟨fun e => hne2 (by rw [e]), ⟨_, _, rfl, ex⟩, _, _, rfl, ey⟩, ⟨hX, hY⟩, ⟨eX, eY⟩, e4, z4, fun k hk => ?_, fun o k h => ?_⟩⟩
      · refine (smA_fr (o := 85) (k := k) (by unfold smA; omega) hf7 (by decide +kernel)).trans (Eq.trans ?_ (he5 k hk))
        show (if 85 = 85 ∧ 0 ≤ k ∧ k < 0 + 28 then s5.1 86 (k - 0) else s5.1 85 k) = _
        rw [if_pos ⟨rfl, Nat.zero_le _, by omega⟩]
        rfl
      · refine (smA_fr (o := o) (k := k) (by unfold smA; omega) hf7 (by decide +kernel)).trans (Eq.trans ?_ (smA_fr (o := o) (k := k) (by unfold smA; omega) hf5 (by decide +kernel)))
        show (if o = 85 ∧ 0 ≤ k ∧ k < 0 + 28 then s5.1 86 (k - 0) else s5.1 o k) = _
        rw [if_neg (by omega)]
    · exact y_if rfl (fun _ => no _ (Or.inr (Or.inr ⟨_, _, rfl, ey⟩))) (fun h => absurd rfl h)
  · exact y_if rfl (fun _ => no _ (Or.inr (Or.inl ⟨_, _, rfl, ex⟩))) (fun h => absurd rfl h)
end CHANGE
