/-! by hand, of the class: change, freeRail -/
abbrev y_chK : List (Nat × Nat) := [(53312, 53341), (57408, 57413), (102464, 102493), (106560, 106565), (114753, 114753), (118848, 118854), (122944, 122950), (135233, 135235), (139328, 140311), (147520, 147539), (151616, 151622), (155712, 155719), (159808, 159812), (163904, 163906), (168000, 168002), (172096, 172098), (176192, 176199), (180288, 180295)]
abbrev y_eCntC (V : w_V) (r : Nat) (K : List (Nat × Nat)) (M : w_U) : Prop := (y_inc K y_chK = true ∧ y_ex g_sh M = true) ∧ w_Ent V g_sh g_ts (14, [w_r 2], [(66, w_r r)], K, [([], some (w_n 0 8 0), M)], 7)
theorem y_changeC {n : Nat} {K5 K17 : List (Nat × Nat)} {M5 M17 : w_U} (hc5 : y_eCntC (y_Vn n) 5 K5 M5) (hc17 : y_eCntC (y_Vn n) 17 K17 M17) : y_C g_sh g_ts 10 8 (fun a s => w_T (y_Vn n) g_sh (y_mk g_sh s) ∧ y_Td n s ∧ ∃ x y : Int32, a = [.inr (.inr 2), .inl x, .inl y]) (fun _ s v s2 => y_pubQ n y_chK s v s2) := by
  refine y_C.of (t := g_t10) rfl (by decide) ?_
  rintro d a s hd ⟨hT, hD, x, y, rfl⟩
  have hn7 := y_Td7 hT hD
  have hV := y_VT hT
  have hr := y_rng (lo := 2147483648) (hi := 2147483655) (g := 0) hT (o := 28) (k := 1) rfl rfl
  have no : ∀ ls, y_W g_sh g_ts d g_t10 (y_pubQ n y_chK s) 21 ls [] s := by
    intro ls
    refine y_run 1 rfl ?_
    exact y_iret rfl ⟨hT, y_fr.rf, _, rfl⟩
  refine y_run 2 rfl ?_
  refine y_ic rfl (fun _ => no _) (fun hne => ?_)
  have hne2 : x.toInt ≠ y.toInt := hne
  refine y_run 2 rfl ?_
  refine y_call (y_inQueueC (V := y_Vn n) (n := n) (x := x)) 1 rfl (fun _ _ _ => rfl) (a := [.inr (.inr 2), .inl x]) rfl rfl (fun h hR => y_mayV (o := 0) (sz := 15) rfl hR) (by omega) ⟨hT, hD, rfl⟩ (fun v s2 hQ => ?_)
  obtain ⟨rfl, ⟨rfl, x0, x1, xs⟩ | rfl⟩ := hQ
  rotate_left
  · exact y_if rfl (fun _ => no _) (fun h => absurd rfl h)
  refine y_if rfl (fun h => absurd (show (1 : Int) = 0 from h) (by omega)) (fun _ => ?_)
  refine y_run 2 rfl ?_
  refine y_call (y_inQueueC (V := y_Vn n) (n := n) (x := y)) 1 rfl (fun _ _ _ => rfl) (a := [.inr (.inr 2), .inl y]) rfl rfl (fun h hR => y_mayV (o := 0) (sz := 15) rfl hR) (by omega) ⟨hT, hD, rfl⟩ (fun v s3 hQ => ?_)
  obtain ⟨rfl, ⟨rfl, y0, y1, ys⟩ | rfl⟩ := hQ
  rotate_left
  · exact y_if rfl (fun h => absurd rfl h) (fun _ => no _)
  refine y_if rfl (fun _ => ?_) (fun h => absurd (show (1 : Int) ≠ 0 by omega) h)
  obtain ⟨X0, hX0, eX0⟩ := y_Rc_in hV.2.2.1 x0 x1 hn7 xs
  obtain ⟨Y0, hY0, eY0⟩ := y_Rc_in hV.2.2.1 y0 y1 hn7 ys
  refine y_run 3 rfl ?_
  refine y_call (y_placeOfC (V := y_Vn n) (x := x)) 1 rfl (fun _ _ _ => rfl) (a := [.inr (.inr 30), .inl x]) rfl rfl (fun h hR => y_mayV (o := 28) (sz := 10) rfl hR) (by omega) ⟨hT, rfl⟩ (fun v s4 hQ => ?_)
  obtain ⟨rfl, ⟨-, hno⟩ | ⟨z, X, rfl, hz, hX, eX⟩⟩ := hQ
  · exact absurd eX0 (hno X0 hX0)
  refine y_run 4 rfl ?_
  refine y_call (y_placeOfC (V := y_Vn n) (x := y)) 1 rfl (fun _ _ _ => rfl) (a := [.inr (.inr 30), .inl y]) rfl rfl (fun h hR => y_mayV (o := 28) (sz := 10) rfl hR) (by omega) ⟨hT, rfl⟩ (fun v s5 hQ => ?_)
  obtain ⟨rfl, ⟨-, hno⟩ | ⟨w, Y, rfl, hw, hY, eY⟩⟩ := hQ
  · exact absurd eY0 (hno Y0 hY0)
  have hXY : X ≠ Y := by
    intro e
    rw [e, eY] at eX
    exact hne2 (by rw [eX])
  refine y_run 1 rfl ?_
  refine y_sub (ls1 := [(0, .inr (.inr 2)), (1, .inl x), (2, .inl y), (3, .inl z), (4, .inl w)]) (show ([0, 1, 2, 3, 4] : List Nat).Nodup by decide) (y_R_cons rfl (y_R_cons rfl (y_R_cons rfl (y_R_cons rfl (y_R_cons rfl y_R_nil))))) ?_
  refine y_run 5 rfl ?_
  refine y_ast (o := 29) (sz := 7) (j := X) rfl rfl hz (by omega) y_k29 ?_
  have t6 := y_Tup0 (lo := 2147483648) (hi := 2147483654) (o := 29) (k := X) (x := y) (y_t0 hT) (y_t29 (by omega)) y_k29 (by omega) (by omega)
  have f6 := (y_fr.rf (sh := g_sh) (ms := y_chK) (s := s5)).up (o := 29) (k := X) (v := .inl y) y_k29 (y_msA (sz := 7) (by decide +kernel) (by omega))
  have u6 : ∀ o k, ¬ (o = 29 ∧ k = X) → (y_up s5 29 X (.inl y)).1 o k = s5.1 o k := fun o k h => y_up_ne h
  have e6 : (y_up s5 29 X (.inl y)).1 29 X = y := y_up_self
  revert t6 f6 u6 e6
  generalize y_up s5 29 X (.inl y) = s6
  intro t6 f6 u6 e6
  refine y_run 5 rfl ?_
  refine y_ast (o := 29) (sz := 7) (j := Y) rfl rfl hw (by omega) y_k29 ?_
  have t7 := y_Tup0 (lo := 2147483648) (hi := 2147483654) (o := 29) (k := Y) (x := x) t6 (y_t29 (by omega)) y_k29 (by omega) (by omega)
  have f7 := f6.up (o := 29) (k := Y) (v := .inl x) y_k29 (y_msA (sz := 7) (by decide +kernel) (by omega))
  have u7 : ∀ o k, ¬ (o = 29 ∧ k = Y) → (y_up s6 29 Y (.inl x)).1 o k = s6.1 o k := fun o k h => y_up_ne h
  have e7 : (y_up s6 29 Y (.inl x)).1 29 Y = x := y_up_self
  revert t7 f7 u7 e7
  generalize y_up s6 29 Y (.inl x) = s7
  intro t7 f7 u7 e7
  have z7 : s7.1 28 1 = s5.1 28 1 := (u7 28 1 (by omega)).trans (u6 28 1 (by omega))
  have hnow : y_Rc n (s7.1 29) (s7.1 30) (s7.1 28 1) := by
    intro p hp p7 h0
    rw [u7 30 p (by omega), u6 30 p (by omega)] at h0
    rw [z7]
    by_cases cx : (p : Int) = x.toInt
    · exact ⟨Y, by omega, hY, by rw [e7]; omega⟩
    by_cases cy : (p : Int) = y.toInt
    · exact ⟨X, by omega, hX, by rw [u7 29 X (by omega), e6]; omega⟩
    obtain ⟨i, i7, g1, g2⟩ := hV.2.2.1 p hp p7 h0
    have hiX : i ≠ X := fun e => by
      rw [e, eX] at g2
      omega
    have hiY : i ≠ Y := fun e => by
      rw [e, eY] at g2
      omega
    exact ⟨i, i7, g1, by rw [u7 29 i (by omega), u6 29 i (by omega)]; exact g2⟩
  have hT7 := y_TV t7 (y_V1_now hV hnow (fun o k h => (u7 o k (by omega)).trans (u6 o k (by omega))))
  refine y_run 4 rfl ?_
  refine y_call (y_keepC (n := n)) 1 rfl (fun _ _ _ => rfl) (a := [.inr (.inr 35), .inr (.inr 30)]) rfl rfl (fun h hR => y_mayV (o := 33) (sz := 4) rfl hR) (by omega) ⟨hT7, rfl⟩ (fun v s8 hQ => ?_)
  obtain ⟨rfl, hT8, f8⟩ := hQ
  have f9 : y_fr g_sh y_chK s5 s8 := f7.tr (f8.mono (by decide +kernel))
  have e66 := y_fr66 f9 (by decide +kernel)
  refine y_run 1 rfl ?_
  rcases hD with ⟨e, -⟩ | ⟨e, -⟩
  · obtain ⟨⟨i1, i2⟩, hE⟩ := hc5
    refine y_callT hE (by simpa using i2) 1 rfl (fun _ _ _ => rfl) (a := [.inr (.inr 2)]) rfl rfl (fun h hR => y_mayV (o := 0) (sz := 15) rfl hR) (by omega) hT8 (e66.trans e) ⟨⟨2, rfl, List.mem_cons_self⟩, True.intro⟩ (fun v s9 hT9 hf9 hv => ?_)
    obtain ⟨q, hq2, ho⟩ := hv
    have eq : q = ([], some (w_n 0 8 0), M5) := by simpa using hq2
    subst eq
    obtain ⟨z2, rfl, -, -⟩ := y_ans ho
    exact y_iret rfl ⟨hT9, f9.tr (hf9.mono i1), _, rfl⟩
  · obtain ⟨⟨i1, i2⟩, hE⟩ := hc17
    refine y_callT hE (by simpa using i2) 1 rfl (fun _ _ _ => rfl) (a := [.inr (.inr 2)]) rfl rfl (fun h hR => y_mayV (o := 0) (sz := 15) rfl hR) (by omega) hT8 (e66.trans e) ⟨⟨2, rfl, List.mem_cons_self⟩, True.intro⟩ (fun v s9 hT9 hf9 hv => ?_)
    obtain ⟨q, hq2, ho⟩ := hv
    have eq : q = ([], some (w_n 0 8 0), M17) := by simpa using hq2
    subst eq
    obtain ⟨z2, rfl, -, -⟩ := y_ans ho
    exact y_iret rfl ⟨hT9, f9.tr (hf9.mono i1), _, rfl⟩
/-! freeRail -/
theorem y_k31c {k : Nat} : y_kd g_sh 31 k = 0 := y_kdA (tag := 100) (sz := 2) (a := ((2147483647, 2147483654), 0)) rfl
theorem y_t31c {k : Nat} (h : k < 2) : w_ty g_sh 31 k = some (.inl ((2147483647, 2147483654), 0)) := y_tyA (tag := 100) (sz := 2) (A := .inl ((2147483647, 2147483654), 0)) rfl h
theorem y_k32c {k : Nat} : y_kd g_sh 32 k = 0 := y_kdA (tag := 100) (sz := 2) (a := ((0, 4294967295), 0)) rfl
theorem y_t32c {k : Nat} (h : k < 2) : w_ty g_sh 32 k = some (.inl ((0, 4294967295), 0)) := y_tyA (tag := 100) (sz := 2) (A := .inl ((0, 4294967295), 0)) rfl h
def y_feQ (n R : Nat) (K : List (Nat × Nat)) (s : y_H) (v : Option (q_V Int32)) (s2 : y_H) : Prop := v = none ∧ w_T (y_Vn n) g_sh (y_mk g_sh s2) ∧ y_fr g_sh K s s2 ∧ (s2.1 31 R).toInt = -1 ∧ (s2.1 32 R).toInt = 0
theorem y_freeRailC {n R : Nat} {K : List (Nat × Nat)} (hR : R < 2) (k1 : w_inr K (w_key 30 0) (w_key 30 6) = true) (k2 : w_inm K (w_key 31 R) = true) (k3 : w_inm K (w_key 32 R) = true) : y_C g_sh g_ts 141 1 (fun a s => w_T (y_Vn n) g_sh (y_mk g_sh s) ∧ 0 ≤ (s.1 31 R).toInt ∧ ∃ r b : Int32, a = [.inr (.inr 30), .inl r, .inl b] ∧ r.toInt = (R : Int) ∧ 1 ≤ b.toInt ∧ b.toInt ≤ 4) (fun _ s v s2 => y_feQ n R K s v s2) := by
  refine y_C.of (t := g_t141) rfl (by decide) ?_
  rintro d a s hd ⟨hT, h0, r, b, rfl, hr, b1, b4⟩
  have hV := y_VT hT
  have r1 := y_rng (lo := 2147483647) (hi := 2147483654) (g := 0) hT (o := 31) (k := R) (y_t31c hR) y_k31c
  obtain ⟨P, hP⟩ : ∃ P : Nat, (s.1 31 R).toInt = (P : Int) := ⟨(s.1 31 R).toInt.toNat, by omega⟩
  refine y_run 5 rfl ?_
  refine y_ald (o := 31) (sz := 2) (j := R) rfl rfl hr hR y_k31c ?_
  refine y_run 1 rfl ?_
  refine y_ast (o := 30) (sz := 7) (j := P) rfl rfl hP (by omega) y_k30 ?_
  have t1 := y_Tup0 (lo := 2147483648) (hi := 2147483652) (o := 30) (k := P) (x := b) (y_t0 hT) (y_t30 (by omega)) y_k30 (by omega) (by omega)
  have f1 := (y_fr.rf (sh := g_sh) (ms := K) (s := s)).up (o := 30) (k := P) (v := .inl b) y_k30 (y_msA (sz := 7) k1 (by omega))
  refine y_run 4 rfl ?_
  refine y_ast (o := 31) (sz := 2) (j := R) rfl rfl hr hR y_k31c ?_
  have t2 := y_Tup0 (lo := 2147483647) (hi := 2147483654) (o := 31) (k := R) (x := Int32.ofInt (-1)) t1 (y_t31c hR) y_k31c (show _ ≤ (-1 : Int) by omega) (show (-1 : Int) ≤ _ by omega)
  have f2 := f1.up (o := 31) (k := R) (v := .inl (Int32.ofInt (-1))) y_k31c k2
  refine y_run 4 rfl ?_
  refine y_ast (o := 32) (sz := 2) (j := R) rfl rfl hr hR y_k32c ?_
  have t3 := y_Tup0 (lo := 0) (hi := 4294967295) (o := 32) (k := R) (x := Int32.ofInt 0) t2 (y_t32c hR) y_k32c (show _ ≤ (0 : Int) by omega) (show (0 : Int) ≤ _ by omega)
  have f3 := f2.up (o := 32) (k := R) (v := .inl (Int32.ofInt 0)) y_k32c k3
  have u3 : ∀ o k, ¬ (30 ≤ o ∧ o ≤ 32) → (y_up (y_up (y_up s 30 P (.inl b)) 31 R (.inl (Int32.ofInt (-1)))) 32 R (.inl (Int32.ofInt 0))).1 o k = s.1 o k := fun o k h => (y_up_ne (by omega)).trans ((y_up_ne (by omega)).trans (y_up_ne (by omega)))
  have w3 : ∀ k, k ≠ P → (y_up (y_up (y_up s 30 P (.inl b)) 31 R (.inl (Int32.ofInt (-1)))) 32 R (.inl (Int32.ofInt 0))).1 30 k = s.1 30 k := fun k h => (y_up_ne (by omega)).trans ((y_up_ne (by omega)).trans (y_up_ne (by omega)))
  have p3 : (y_up (y_up (y_up s 30 P (.inl b)) 31 R (.inl (Int32.ofInt (-1)))) 32 R (.inl (Int32.ofInt 0))).1 30 P = b := (y_up_ne (by omega)).trans ((y_up_ne (by omega)).trans y_up_self)
  have q3 : (y_up (y_up (y_up s 30 P (.inl b)) 31 R (.inl (Int32.ofInt (-1)))) 32 R (.inl (Int32.ofInt 0))).1 31 R = Int32.ofInt (-1) := (y_up_ne (by omega)).trans y_up_self
  have o3 : (y_up (y_up (y_up s 30 P (.inl b)) 31 R (.inl (Int32.ofInt (-1)))) 32 R (.inl (Int32.ofInt 0))).1 32 R = Int32.ofInt 0 := y_up_self
  revert t3 f3 u3 w3 p3 q3 o3
  generalize y_up (y_up (y_up s 30 P (.inl b)) 31 R (.inl (Int32.ofInt (-1)))) 32 R (.inl (Int32.ofInt 0)) = s3
  intro t3 f3 u3 w3 p3 q3 o3
  have hnow : y_Rc n (s3.1 29) (s3.1 30) (s3.1 28 1) := by
    intro p hp p7 hh
    by_cases c : p = P
    · subst c
      rw [p3] at hh
      omega
    · rw [w3 p c] at hh
      obtain ⟨i, i7, g1, g2⟩ := hV.2.2.1 p hp p7 hh
      exact ⟨i, i7, by rw [u3 28 1 (by omega)]; exact g1, by rw [u3 29 i (by omega)]; exact g2⟩
  refine y_vret rfl ⟨rfl, y_TV t3 (y_V1_now hV hnow (fun o k h => u3 o k (by omega))), f3, by rw [q3]; rfl, by rw [o3]; rfl⟩
theorem y_post2 {s : y_H} {o k lo hi o2 k2 lo2 hi2 : Nat} (hk4 : k < 4096) (hk : y_kd g_sh o k = 0) (h1 : (lo : Int) - 2147483648 ≤ (s.1 o k).toInt) (h2 : (s.1 o k).toInt ≤ (hi : Int) - 2147483648) (hk5 : k2 < 4096) (hkb : y_kd g_sh o2 k2 = 0) (h3 : (lo2 : Int) - 2147483648 ≤ (s.1 o2 k2).toInt) (h4 : (s.1 o2 k2).toInt ≤ (hi2 : Int) - 2147483648) : w_oM [] (y_mk g_sh s) (w_kzM [(w_key o k, .inl ((lo, hi), 0)), (w_key o2 k2, .inl ((lo2, hi2), 0))]) := by
  intro q hq
  have hq2 : q ∈ w_kzM [(w_key o k, .inl ((lo, hi), 0))] ∨ q ∈ w_kzM [(w_key o2 k2, .inl ((lo2, hi2), 0))] := by
    have : q = (w_key o k, w_kz (.inl ((lo, hi), 0))) ∨ q = (w_key o2 k2, w_kz (.inl ((lo2, hi2), 0))) := by simpa [w_kzM] using hq
    rcases this with e | e
    · exact Or.inl (by rw [e]; exact List.mem_cons_self)
    · exact Or.inr (by rw [e]; exact List.mem_cons_self)
  rcases hq2 with h | h
  · exact y_post1 hk4 hk h1 h2 q h
  · exact y_post1 hk5 hkb h3 h4 q h
theorem y_argI {σ : w_G} {lo hi g : Nat} {v : q_V Int32} (h : w_in [] σ (w_kz (.inl ((lo, hi), g))) v) : ∃ x : Int32, v = .inl x ∧ (lo : Int) - 2147483648 ≤ x.toInt ∧ x.toInt ≤ (hi : Int) - 2147483648 := by
  obtain ⟨x, rfl, hx, -⟩ := h
  have e := q_pc_int x
  have h3 : lo ≤ q_pc x := hx.1
  have h4 : q_pc x ≤ hi := hx.2
  exact ⟨x, rfl, by omega, by omega⟩
theorem y_freeRailE {n R B k2 k3 : Nat} (hR : R < 2) (hB1 : 1 ≤ B) (hB4 : B ≤ 4) (e2 : w_key 31 R = k2) (e3 : w_key 32 R = k3) (hx : y_exE g_sh (141, [w_r 30, w_n R R 0, w_n B B 0], [(k2, w_n 0 6 0)], [(122944, 122950), (k2, k2), (k3, k3)], [([], none, [(k2, w_g 2147483647 2147483647 0), (k3, w_n 0 0 0)])], 1) = true) (i1 : w_inr [(122944, 122950), (k2, k2), (k3, k3)] (w_key 30 0) (w_key 30 6) = true) (i2 : w_inm [(122944, 122950), (k2, k2), (k3, k3)] k2 = true) (i3 : w_inm [(122944, 122950), (k2, k2), (k3, k3)] k3 = true) : w_Ent (y_Vn n) g_sh g_ts (141, [w_r 30, w_n R R 0, w_n B B 0], [(k2, w_n 0 6 0)], [(122944, 122950), (k2, k2), (k3, k3)], [([], none, [(k2, w_g 2147483647 2147483647 0), (k3, w_n 0 0 0)])], 1) := by
  refine y_C.toE g_shok g_pkok hx ?_
  subst e2
  subst e3
  refine y_C.weak (y_freeRailC (n := n) (R := R) (K := [(122944, 122950), (w_key 31 R, w_key 31 R), (w_key 32 R, w_key 32 R)]) hR i1 i2 i3) (Nat.le_refl 1) ?_ ?_
  · rintro a s ⟨hT, ha, hM⟩
    have hp := y_pre (o := 31) (k := R) (lo := 2147483648) (hi := 2147483654) hM List.mem_cons_self (by omega) y_k31c
    rcases a with _ | ⟨v1, _ | ⟨v2, _ | ⟨v3, _ | ⟨v4, a⟩⟩⟩⟩
    · exact ha.elim
    · exact ha.2.elim
    · exact ha.2.2.elim
    · obtain ⟨⟨n1, rfl, h1⟩, h2, h3, -⟩ := ha
      have e1 : n1 = 30 := by simpa using h1
      subst e1
      obtain ⟨r, rfl, r1, r2⟩ := y_argI h2
      obtain ⟨b, rfl, b1, b2⟩ := y_argI h3
      exact ⟨hT, by omega, r, b, rfl, by omega, by omega, by omega⟩
    · exact ha.2.2.2.elim
  · rintro a s v s2 - ⟨rfl, hT2, hf2, q1, q2⟩
    exact ⟨hT2, hf2, _, List.mem_cons_self, (fun z hz => by cases hz), True.intro, y_post2 (by omega) y_k31c (by omega) (by omega) (by omega) y_k32c (by omega) (by omega)⟩
theorem y_freeRailE12 {n : Nat} : w_Ent (y_Vn n) g_sh g_ts (141, [w_r 30, w_n 1 1 0, w_n 2 2 0], [(127041, w_n 0 6 0)], [(122944, 122950), (127041, 127041), (131137, 131137)], [([], none, [(127041, w_g 2147483647 2147483647 0), (131137, w_n 0 0 0)])], 1) := y_freeRailE (by omega) (by omega) (by omega) rfl rfl (by decide +kernel) (by decide +kernel) (by decide +kernel) (by decide +kernel)
theorem y_freeRailE02 {n : Nat} : w_Ent (y_Vn n) g_sh g_ts (141, [w_r 30, w_n 0 0 0, w_n 2 2 0], [(127040, w_n 0 6 0)], [(122944, 122950), (127040, 127040), (131136, 131136)], [([], none, [(127040, w_g 2147483647 2147483647 0), (131136, w_n 0 0 0)])], 1) := y_freeRailE (by omega) (by omega) (by omega) rfl rfl (by decide +kernel) (by decide +kernel) (by decide +kernel) (by decide +kernel)
theorem y_freeRailE03 {n : Nat} : w_Ent (y_Vn n) g_sh g_ts (141, [w_r 30, w_n 0 0 0, w_n 3 3 0], [(127040, w_n 0 6 0)], [(122944, 122950), (127040, 127040), (131136, 131136)], [([], none, [(127040, w_g 2147483647 2147483647 0), (131136, w_n 0 0 0)])], 1) := y_freeRailE (by omega) (by omega) (by omega) rfl rfl (by decide +kernel) (by decide +kernel) (by decide +kernel) (by decide +kernel)
theorem y_freeRailE13 {n : Nat} : w_Ent (y_Vn n) g_sh g_ts (141, [w_r 30, w_n 1 1 0, w_n 3 3 0], [(127041, w_n 0 6 0)], [(122944, 122950), (127041, 127041), (131137, 131137)], [([], none, [(127041, w_g 2147483647 2147483647 0), (131137, w_n 0 0 0)])], 1) := y_freeRailE (by omega) (by omega) (by omega) rfl rfl (by decide +kernel) (by decide +kernel) (by decide +kernel) (by decide +kernel)
