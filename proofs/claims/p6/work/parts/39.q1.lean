/-! by hand, of the class: wish, quay -/
abbrev y_wiK : List (Nat × Nat) := [(53312, 53341), (57408, 57413), (102464, 102493), (106560, 106565), (147520, 147539), (151616, 151622), (155712, 155719), (159808, 159812), (163904, 163906), (168000, 168002), (172096, 172098), (176192, 176199), (180288, 180295), (208960, 208963), (213056, 213104)]
abbrev y_eLrn (V : w_V) (r : Nat) (K : List (Nat × Nat)) (M : w_U) : Prop := y_inc K y_wiK = true ∧ (y_ex g_sh M = true ∧ w_Ent V g_sh g_ts (100, [w_r 53, w_r 38, w_r r, w_r 30, w_n 0 6 0], [], K, [([], none, M)], 6))
abbrev y_eWsA (V : w_V) : Prop := y_ex g_sh [] = true ∧ w_Ent V g_sh g_ts (103, [w_r 53, w_n 0 6 0, w_n 1 127 0], [], [], [([], some (w_n 0 6 0), [])], 2)
theorem y_shl1 : ∀ S, S < 8 → 1 ≤ S → 1 ≤ ((Int32.ofInt 1 <<< (Int32.ofNat S &&& 31)) - Int32.ofInt 1).toInt ∧ ((Int32.ofInt 1 <<< (Int32.ofNat S &&& 31)) - Int32.ofInt 1).toInt ≤ 127 := by decide +kernel
theorem y_wishC {n : Nat} {K5 K17 : List (Nat × Nat)} {M5 M17 : w_U} (hl5 : y_eLrn (y_Vn n) 5 K5 M5) (hl17 : y_eLrn (y_Vn n) 17 K17 M17) (hw : y_eWsA (y_Vn n)) : y_C g_sh g_ts 81 7 (fun a s => w_T (y_Vn n) g_sh (y_mk g_sh s) ∧ y_Td n s ∧ ∃ x : Int32, a = [.inr (.inr 2), .inl x]) (fun _ s v s2 => y_pubQ n y_wiK s v s2) := by
  refine y_C.of (t := g_t81) rfl (by decide) ?_
  rintro d a s hd ⟨hT, hD, x, rfl⟩
  have hn7 := y_Td7 hT hD
  have hV := y_VT hT
  have hr := y_rng (lo := 2147483648) (hi := 2147483655) (g := 0) hT (o := 28) (k := 1) rfl rfl
  refine y_run 2 rfl ?_
  refine y_call (y_inQueueC (V := y_Vn n) (n := n) (x := x)) 1 rfl (fun _ _ _ => rfl) (a := [.inr (.inr 2), .inl x]) rfl rfl (fun h hR => y_mayV (o := 0) (sz := 15) rfl hR) (by omega) ⟨hT, hD, rfl⟩ (fun v s2 hQ => ?_)
  obtain ⟨rfl, ⟨rfl, x0, x1, xs⟩ | rfl⟩ := hQ
  rotate_left
  · refine y_if rfl (fun h => absurd rfl h) (fun _ => ?_)
    refine y_run 1 rfl ?_
    exact y_iret rfl ⟨hT, y_fr.rf, _, rfl⟩
  refine y_if rfl (fun _ => ?_) (fun h => absurd (show (1 : Int) ≠ 0 by omega) h)
  obtain ⟨X0, hX0, eX0⟩ := y_Rc_in hV.2.2.1 x0 x1 hn7 xs
  refine y_run 3 rfl ?_
  refine y_call (y_placeOfC (V := y_Vn n) (x := x)) 1 rfl (fun _ _ _ => rfl) (a := [.inr (.inr 30), .inl x]) rfl rfl (fun h hR => y_mayV (o := 28) (sz := 10) rfl hR) (by omega) ⟨hT, rfl⟩ (fun v s4 hQ => ?_)
  obtain ⟨rfl, ⟨-, hno⟩ | ⟨z, X, rfl, hz, hX, eX⟩⟩ := hQ
  · exact absurd eX0 (hno X0 hX0)
  refine y_run 1 rfl ?_
  refine y_sub (ls1 := [(0, .inr (.inr 2)), (1, .inl x), (2, .inl z)]) (show ([0, 1, 2] : List Nat).Nodup by decide) (y_R_cons rfl (y_R_cons rfl (y_R_cons rfl y_R_nil))) ?_
  have fin : ∀ s6 : y_H, w_T (y_Vn n) g_sh (y_mk g_sh s6) → y_fr g_sh y_wiK s4 s6 → y_W g_sh g_ts d g_t81 (y_pubQ n y_wiK s4) 39 [(0, .inr (.inr 2)), (1, .inl x), (2, .inl z)] [] s6 := by
    intro s6 hT6 hf6
    have e28 : s6.1 28 1 = s4.1 28 1 := hf6.at (o := 28) (k := 1) (A := w_n 0 7 0) rfl rfl (by decide +kernel)
    obtain ⟨Z, hZ⟩ : ∃ Z : Nat, (s4.1 28 1).toInt = (Z : Int) := ⟨(s4.1 28 1).toInt.toNat, by omega⟩
    have hm := y_shl1 Z (by omega) (by omega)
    have e1 : s6.1 28 1 = Int32.ofNat Z := e28.trans (y_toN hZ (by omega))
    refine y_run 10 rfl ?_
    show y_W g_sh g_ts d g_t81 (y_pubQ n y_wiK s4) 55 [(0, .inr (.inr 2)), (1, .inl x), (2, .inl z)] [.inl (((Int32.ofInt 1 <<< (s6.1 28 1 &&& 31)) - Int32.ofInt 1)), .inl z, .inr (.inr 53)] s6
    rw [e1]
    refine y_callI hw 1 rfl (fun _ _ _ => rfl) (a := [.inr (.inr 53), .inl z, .inl (((Int32.ofInt 1 <<< (Int32.ofNat Z &&& 31)) - Int32.ofInt 1))]) rfl rfl (fun h hR => y_mayV (o := 51) (sz := 4) rfl hR) (by omega) hT6 ⟨⟨53, rfl, List.mem_cons_self⟩, y_iv (by omega) (by omega), y_iv (by omega) (by omega), True.intro⟩ (fun w s7 hT7 hf7 _ _ => ?_)
    exact y_iret rfl ⟨hT7, hf6.tr (hf7.mono (by decide +kernel)), _, rfl⟩
  refine y_run 9 rfl ?_
  show y_W g_sh g_ts d g_t81 (y_pubQ n y_wiK s4) 36 [(0, .inr (.inr 2)), (1, .inl x), (2, .inl z)] [.inl z, .inr (.inr 30), .inr (.inr (s4.2.2 0 2)), .inr (.inr 38), .inr (.inr 53)] s4
  rcases hD with ⟨hr5, -⟩ | ⟨hr5, -⟩
  · rw [hr5]
    exact y_callN hl5.2 1 rfl (fun _ _ _ => rfl) (a := [.inr (.inr 53), .inr (.inr 38), .inr (.inr 5), .inr (.inr 30), .inl z]) rfl rfl (fun h hR => y_mayV (o := 51) (sz := 4) rfl hR) (by omega) hT ⟨⟨53, rfl, List.mem_cons_self⟩, ⟨38, rfl, List.mem_cons_self⟩, ⟨5, rfl, List.mem_cons_self⟩, ⟨30, rfl, List.mem_cons_self⟩, y_iv (by omega) (by omega), True.intro⟩ (fun s6 hT6 hf6 => fin s6 hT6 (hf6.mono hl5.1))
  · rw [hr5]
    exact y_callN hl17.2 1 rfl (fun _ _ _ => rfl) (a := [.inr (.inr 53), .inr (.inr 38), .inr (.inr 17), .inr (.inr 30), .inl z]) rfl rfl (fun h hR => y_mayV (o := 51) (sz := 4) rfl hR) (by omega) hT ⟨⟨53, rfl, List.mem_cons_self⟩, ⟨38, rfl, List.mem_cons_self⟩, ⟨17, rfl, List.mem_cons_self⟩, ⟨30, rfl, List.mem_cons_self⟩, y_iv (by omega) (by omega), True.intro⟩ (fun s6 hT6 hf6 => fin s6 hT6 (hf6.mono hl17.1))
/-! quay -/
theorem y_Tupr {V : w_V} {s : y_H} {o k m : Nat} {l : List Nat} (hT : w_T V g_sh (y_mk g_sh s)) (ht : w_ty g_sh o k = some (.inr (.inr l))) (hk : y_kd g_sh o k = 3) (hp : w_inm g_pk (w_key o k) = false) (hm : m ∈ l) : w_T V g_sh (y_mk g_sh (y_up s o k (.inr (.inr m)))) := by
  rw [y_up_mk (by rw [hk]; rfl)]
  refine w_T_up (ls := []) (σ2 := y_mk g_sh s) hT hp (fun B hB => ?_)
  rw [ht] at hB
  cases hB
  exact ⟨m, rfl, hm⟩
theorem y_inm_hi {K : List (Nat × Nat)} {g B : Nat} (h : K.all (fun q => Nat.ble q.2 B) = true) (hg : B < g) : w_inm K g = false := by
  cases hb : w_inm K g with
  | false => rfl
  | true =>
    unfold w_inm at hb
    rw [List.any_eq_true] at hb
    obtain ⟨q, hq, hc⟩ := hb
    rw [Bool.and_eq_true] at hc
    rw [List.all_eq_true] at h
    have h1 := Nat.le_of_ble_eq_true (h q hq)
    have h2 := Nat.le_of_ble_eq_true hc.2
    omega
theorem y_keyhi {o k : Nat} (h : 64 ≤ o) : 260000 < w_key o k := by
  unfold w_key
  omega
theorem y_MF_eq {g g2 : Nat → Nat → Int32} (h : ∀ o k, 64 ≤ o → k < 4096 → w_inm g_pk (w_key o k) = true → g2 o k = g o k) (hF : ∃ D, y_FD D g) (hM : y_VM g) : (∃ D, y_FD D g2) ∧ y_VM g2 := by
  have hh : y_eqK g (fun o k => if o < 64 then g o k else g2 o k) := by
    intro o k hk hm
    show (if o < 64 then g o k else g2 o k) = g o k
    by_cases c : o < 64
    · rw [if_pos c]
    · rw [if_neg c]
      exact h o k (by omega) hk hm
  obtain ⟨D, hD⟩ := hF
  have e : ∀ o k, 65 ≤ o → g2 o k = (fun o k => if o < 64 then g o k else g2 o k) o k := fun o k ho => (if_neg (by omega)).symm
  exact ⟨y_FD_eq2 (e 65 18 (by omega)) (fun i _ => e 70 i (by omega)) (fun i _ => e 71 i (by omega)) ⟨D, y_FD_eq hh hD⟩, y_VM_eq2 e (y_VM_eq hh hM)⟩
/-- what a frame over the class's keys leaves of the model's V -/
theorem y_MF_fr {K : List (Nat × Nat)} {n : Nat} {s s2 : y_H} (hf : y_fr g_sh K s s2) (hK : K.all (fun q => Nat.ble q.2 260000) = true) (hV : y_V1 n s.1) : (∃ D, y_FD D s2.1) ∧ y_VM s2.1 := by
  refine y_MF_eq (fun o k ho hk hm => ?_) hV.1 hV.2.1
  obtain ⟨A, hA⟩ := y_pk_ok g_pkok hk hm
  exact hf.at hA (y_pk0 hk hm) (y_inm_hi hK (y_keyhi ho))
theorem y_rs_VC2 {n : Nat} {s s2 : y_H} (u : ∀ o k, o ≠ 33 → o ≠ 34 → s2.1 o k = s.1 o k) (e1 : (s2.1 33 1).toInt = 0) (e2 : (s2.1 33 2).toInt = 0) (e3 : (s2.1 33 3).toInt = 0) (hr : ∀ k, k < 24 → s2.1 34 k = y_srow s k) (hnow : y_Rc n (s.1 29) (s.1 30) (s.1 28 1)) (hbox : ∀ b : Nat, b < 3 → y_bit (s.1 0 7) b → y_Rc n (fun k => s.1 35 (24 * b + k)) (fun k => s.1 35 (24 * b + 7 + k)) (s.1 35 (24 * b + 18))) : y_VC n s2.1 := by
  refine y_VC_sv (O := 0) (U := 0) (row := y_srow s) (y_Rc_eq (fun k _ => u 29 k (by omega) (by omega)) (fun k _ => u 30 k (by omega) (by omega)) (u 28 1 (by omega) (by omega)) hnow) e1 e2 e3 (by omega) (by omega) (fun k hk => ?_) (fun k hk => (y_srow29 hk).trans (u 29 k (by omega) (by omega)).symm) (fun k hk => (y_srow30 hk).trans (u 30 k (by omega) (by omega)).symm) (u 28 1 (by omega) (by omega)).symm (fun j hj => by omega) (fun b hb hbit => ?_)
  · rw [show 24 * ((0 + 0) % 41) + k = k by omega]
    exact hr k hk
  · rw [u 0 7 (by omega) (by omega)] at hbit
    exact y_Rc_eq (fun k _ => u 35 _ (by omega) (by omega)) (fun k _ => u 35 _ (by omega) (by omega)) (u 35 _ (by omega) (by omega)) (hbox b hb hbit)
def y_Un (s : y_H) : Prop := (s.2.2 0 2 = 5 ∧ s.2.2 0 3 = 17) ∨ (s.2.2 0 2 = 17 ∧ s.2.2 0 3 = 5)
theorem y_fr67 {K : List (Nat × Nat)} {s s2 : y_H} (hf : y_fr g_sh K s s2) (hm : w_inm K 67 = false) : s2.2.2 0 3 = s.2.2 0 3 := by
  have h : (Sum.inr (Sum.inr (s2.2.2 0 3)) : q_V Int32) = Sum.inr (Sum.inr (s.2.2 0 3)) := hf 0 3 (.inr (.inr [5, 17])) rfl hm
  injection h with h
  injection h
abbrev y_rdK17 : List (Nat × Nat) := [(61504, 61504), (61508, 61508), (61513, 61516), (65600, 65604), (69696, 69700), (73792, 73796), (77888, 77894), (81984, 81990), (86080, 86086), (90176, 90182), (94275, 94276), (98368, 98637), (110657, 110665)]
abbrev y_rdK5 : List (Nat × Nat) := [(12352, 12352), (12356, 12356), (12361, 12364), (16448, 16452), (20544, 20548), (24640, 24644), (28736, 28742), (32832, 32838), (36928, 36934), (41024, 41030), (45123, 45124), (49216, 49485), (110657, 110665)]
abbrev y_srK17 : List (Nat × Nat) := [(102464, 102493), (106560, 106565), (147520, 147520), (147522, 147522), (147526, 147530), (147534, 147537), (151616, 151622), (155712, 155719), (159808, 159812), (163904, 163906), (168000, 168002), (172096, 172098), (176192, 176199), (180288, 180295), (225345, 225346), (249920, 250129)]
abbrev y_srK5 : List (Nat × Nat) := [(53312, 53341), (57408, 57413), (147520, 147520), (147522, 147522), (147526, 147530), (147534, 147537), (151616, 151622), (155712, 155719), (159808, 159812), (163904, 163906), (168000, 168002), (172096, 172098), (176192, 176199), (180288, 180295), (225345, 225346), (249920, 250129)]
abbrev y_quKC : List (Nat × Nat) := [(66, 67), (71, 71), (78, 78), (4161, 4161), (12352, 12352), (12356, 12356), (12361, 12364), (16448, 16452), (20544, 20548), (24640, 24644), (28736, 28742), (32832, 32838), (36928, 36934), (41024, 41030), (45123, 45124), (49216, 49485), (53312, 53341), (57408, 57413), (61504, 61504), (61508, 61508), (61513, 61516), (65600, 65604), (69696, 69700), (73792, 73796), (77888, 77894), (81984, 81990), (86080, 86086), (90176, 90182), (94275, 94276), (98368, 98637), (102464, 102493), (106560, 106565), (110657, 110665), (114753, 114753), (114755, 114755), (114758, 114761), (118848, 118854), (122944, 122950), (127040, 127041), (131136, 131137), (135233, 135235), (139328, 140311), (147520, 147520), (147522, 147522), (147526, 147530), (147534, 147537), (151616, 151622), (155712, 155719), (159808, 159812), (163904, 163906), (168000, 168002), (172096, 172098), (176192, 176199), (180288, 180295), (225345, 225346), (249920, 250129)]
abbrev y_eRdI (V : w_V) (u : Nat) (K X : List (Nat × Nat)) (M0 M1 : w_U) : Prop := y_inc K X = true ∧ (y_ex g_sh M0 && y_ex g_sh M1) = true ∧ w_Ent V g_sh g_ts (115, [w_r 29, w_r u], [], K, [([], some (w_n 0 0 0), M0), ([], some (w_n 1 1 0), M1)], 72)
abbrev y_eSiR (V : w_V) (u : Nat) (K X : List (Nat × Nat)) (M : w_U) : Prop := y_inc K X = true ∧ (y_ex g_sh M = true ∧ w_Ent V g_sh g_ts (136, [w_r 57, w_r 38, w_r u, w_r 30], [], K, [([], none, M)], 6))
def y_quQ (s : y_H) (v : Option (q_V Int32)) (s2 : y_H) : Prop := ∃ m, w_T (y_Vn m) g_sh (y_mk g_sh s2) ∧ y_Td m s2 ∧ y_Un s2 ∧ y_fr g_sh y_quKC s s2 ∧ (s2.1 1 1).toInt = 0 ∧ ∃ x : Int32, v = some (.inl x)
theorem y_quay5 {n : Nat} {Kr : List (Nat × Nat)} {M0 M1 : w_U} {Ks : Nat → List (Nat × Nat)} {Ms : Nat → w_U} (hrd : y_eRdI (y_Vn n) 17 Kr y_rdK17 M0 M1) (hsr : ∀ m, y_eSiR (y_Vn m) 17 (Ks m) y_srK17 (Ms m)) {d : Nat} {s : y_H} (hd : 72 ≤ d) (hT : w_T (y_Vn n) g_sh (y_mk g_sh s)) (hr2 : s.2.2 0 2 = 5) (hr3 : s.2.2 0 3 = 17) (hn : (s.1 3 4).toInt = (n : Int)) : y_W g_sh g_ts d g_t57 (y_quQ s) 0 [(0, .inr (.inr 2))] [] s := by
  obtain ⟨i1, i2, hE⟩ := hrd
  refine y_run 4 rfl ?_
  show y_W g_sh g_ts d g_t57 (y_quQ s) 8 [(0, .inr (.inr 2))] [.inr (.inr (s.2.2 0 3)), .inr (.inr 29)] s
  rw [hr3]
  refine y_callM hE (by simpa [Bool.and_eq_true] using i2) 1 rfl (fun _ _ _ => rfl) (a := [.inr (.inr 29), .inr (.inr 17)]) rfl rfl (fun h hR => y_mayV (o := 27) (sz := 10) rfl hR) (by omega) hT ⟨⟨29, rfl, List.mem_cons_self⟩, ⟨17, rfl, List.mem_cons_self⟩, True.intro⟩ (fun v s1 hT1 hf1 hv => ?_)
  have g1 := hf1.mono i1
  have key : ∀ x : Int32, x.toInt = 0 ∨ x.toInt = 1 → y_W g_sh g_ts d g_t57 (y_quQ s) 11 [(0, .inr (.inr 2))] [.inl x] s1 := by
    intro x hx
    have hT2 := y_Tup (lo := 2147483648) (hi := 2147485248) (g := 0) (o := 1) (k := 1) (x := Int32.ofInt 0) hT1 rfl rfl (by decide +kernel) (show _ ≤ (0 : Int) by omega) (show (0 : Int) ≤ _ by omega)
    have f2 := (g1.mono (m2 := y_quKC) (by decide +kernel)).up (o := 1) (k := 1) (v := .inl (Int32.ofInt 0)) rfl (by decide +kernel)
    have e11 : ((y_up s1 1 1 (.inl (Int32.ofInt 0))).1 1 1).toInt = 0 := rfl
    have a2 : (y_up s1 1 1 (.inl (Int32.ofInt 0))).2.2 0 2 = 5 := (y_fr66 g1 (by decide +kernel)).trans hr2
    have a3 : (y_up s1 1 1 (.inl (Int32.ofInt 0))).2.2 0 3 = 17 := (y_fr67 g1 (by decide +kernel)).trans hr3
    have an : ((y_up s1 1 1 (.inl (Int32.ofInt 0))).1 3 4).toInt = (n : Int) := by
      rw [y_up_ne (by omega), g1.at (o := 3) (k := 4) (A := w_n 0 7 0) rfl rfl (by decide +kernel)]
      exact hn
    refine y_run 5 rfl ?_
    show y_W g_sh g_ts d g_t57 (y_quQ s) 20 ((1, .inl x) :: [(0, .inr (.inr 2))]) [] (y_up s1 1 1 (.inl (Int32.ofInt 0)))
    revert hT2 f2 e11 a2 a3 an
    generalize y_up s1 1 1 (.inl (Int32.ofInt 0)) = s2
    intro hT2 f2 e11 a2 a3 an
    refine y_run 1 rfl ?_
    refine y_if rfl (fun h => ?_) (fun h => ?_)
    rotate_left
    · refine y_run 1 rfl ?_
      exact y_iret rfl ⟨n, hT2, Or.inl ⟨a2, an⟩, Or.inl ⟨a2, a3⟩, f2, e11, _, rfl⟩
    have hV2 := y_VT hT2
    refine y_run 2 rfl ?_
    show y_W g_sh g_ts d g_t57 (y_quQ s) 30 ((1, .inl x) :: [(0, .inr (.inr 2))]) [.inr (.inr (s2.2.2 0 3))] s2
    rw [a3]
    refine y_run 1 rfl ?_
    refine y_sub (ls1 := [(0, .inr (.inr 2)), (2, .inr (.inr 17))]) (show ([0, 2] : List Nat).Nodup by decide) (y_R_cons rfl (y_R_cons rfl y_R_nil)) ?_
    have t3 := y_Tupr (o := 0) (k := 2) (m := 17) (l := [5, 17]) (y_Tupr (o := 0) (k := 3) (m := 5) (l := [5, 17]) (y_t0 hT2) rfl rfl (by decide +kernel) (by decide)) rfl rfl (by decide +kernel) (by decide)
    have f3 := (f2.up (o := 0) (k := 3) (v := .inr (.inr 5)) rfl (by decide +kernel)).up (o := 0) (k := 2) (v := .inr (.inr 17)) rfl (by decide +kernel)
    have g3 : (y_up (y_up s2 0 3 (.inr (.inr 5))) 0 2 (.inr (.inr 17))).1 = s2.1 := rfl
    have b2 : (y_up (y_up s2 0 3 (.inr (.inr 5))) 0 2 (.inr (.inr 17))).2.2 0 2 = 17 := rfl
    have b3 : (y_up (y_up s2 0 3 (.inr (.inr 5))) 0 2 (.inr (.inr 17))).2.2 0 3 = 5 := rfl
    refine y_run 3 rfl ?_
    show y_W g_sh g_ts d g_t57 (y_quQ s) 36 [(0, .inr (.inr 2)), (2, .inr (.inr 17))] [.inr (.inr (s2.2.2 0 2)), .inr (.inr 2)] s2
    rw [a2]
    refine y_run 4 rfl ?_
    show y_W g_sh g_ts d g_t57 (y_quQ s) 44 [(0, .inr (.inr 2)), (2, .inr (.inr 17))] [] (y_up (y_up s2 0 3 (.inr (.inr 5))) 0 2 (.inr (.inr 17)))
    revert t3 f3 g3 b2 b3
    generalize y_up (y_up s2 0 3 (.inr (.inr 5))) 0 2 (.inr (.inr 17)) = s3
    intro t3 f3 g3 b2 b3
    refine y_run 4 rfl ?_
    show y_W g_sh g_ts d g_t57 (y_quQ s) 52 [(0, .inr (.inr 2)), (2, .inr (.inr 17))] [.inr (.inr (s3.2.2 0 2)), .inr (.inr 30)] s3
    rw [b2]
    refine y_call y_beginF17 1 rfl (fun _ _ _ => rfl) (a := [.inr (.inr 30), .inr (.inr 17)]) rfl rfl (fun h hR => y_mayV (o := 28) (sz := 10) rfl hR) (by omega) ⟨t3, rfl⟩ (fun v s4 hQ => ?_)
    obtain ⟨rfl, t4, f4, e28, hln⟩ := hQ
    refine y_run 4 rfl ?_
    refine y_call y_restartF 1 rfl (fun _ _ _ => rfl) (a := [.inr (.inr 35), .inr (.inr 30)]) rfl rfl (fun h hR => y_mayV (o := 33) (sz := 4) rfl hR) (by omega) ⟨t4, rfl⟩ (fun v s5 hQ => ?_)
    obtain ⟨rfl, t5, f5, u5, ⟨r1, r2, r3⟩, hrow⟩ := hQ
    have t6 := y_Tup0 (lo := 2147483648) (hi := 2147483655) (o := 0) (k := 14) (x := Int32.ofInt 0) (y_Tup0 (lo := 2147483648) (hi := 2147483655) (o := 0) (k := 7) (x := Int32.ofInt 0) t5 rfl rfl (show _ ≤ (0 : Int) by omega) (show (0 : Int) ≤ _ by omega)) rfl rfl (show _ ≤ (0 : Int) by omega) (show (0 : Int) ≤ _ by omega)
    have F5 := (f3.tr (f4.mono (by decide +kernel))).tr (f5.mono (by decide +kernel))
    have f6 := ((y_fr.rf (sh := g_sh) (ms := y_quKC) (s := s5)).up (o := 0) (k := 7) (v := .inl (Int32.ofInt 0)) rfl (by decide +kernel)).up (o := 0) (k := 14) (v := .inl (Int32.ofInt 0)) rfl (by decide +kernel)
    have u6 : ∀ o k, ¬ (o = 0 ∧ k = 7) → ¬ (o = 0 ∧ k = 14) → (y_up (y_up s5 0 7 (.inl (Int32.ofInt 0))) 0 14 (.inl (Int32.ofInt 0))).1 o k = s5.1 o k := fun o k h1 h2 => (y_up_ne h2).trans (y_up_ne h1)
    have z6 : (y_up (y_up s5 0 7 (.inl (Int32.ofInt 0))) 0 14 (.inl (Int32.ofInt 0))).1 0 7 = Int32.ofInt 0 := rfl
    have z7 : (y_up (y_up s5 0 7 (.inl (Int32.ofInt 0))) 0 14 (.inl (Int32.ofInt 0))).1 0 14 = Int32.ofInt 0 := rfl
    have c2 : (y_up (y_up s5 0 7 (.inl (Int32.ofInt 0))) 0 14 (.inl (Int32.ofInt 0))).2.2 0 2 = 17 := ((y_fr66 f5 (by decide +kernel)).trans (y_fr66 f4 (by decide +kernel))).trans b2
    have c3 : (y_up (y_up s5 0 7 (.inl (Int32.ofInt 0))) 0 14 (.inl (Int32.ofInt 0))).2.2 0 3 = 5 := ((y_fr67 f5 (by decide +kernel)).trans (y_fr67 f4 (by decide +kernel))).trans b3
    refine y_run 6 rfl ?_
    show y_W g_sh g_ts d g_t57 (y_quQ s) 76 [(0, .inr (.inr 2)), (2, .inr (.inr 17))] [] (y_up (y_up s5 0 7 (.inl (Int32.ofInt 0))) 0 14 (.inl (Int32.ofInt 0)))
    revert t6 f6 u6 z6 z7 c2 c3
    generalize y_up (y_up s5 0 7 (.inl (Int32.ofInt 0))) 0 14 (.inl (Int32.ofInt 0)) = s6
    intro t6 f6 u6 z6 z7 c2 c3
    have F6 := F5.tr f6
    have eT : s4.1 15 4 = s3.1 15 4 := f4.at (o := 15) (k := 4) (A := w_n 0 7 0) rfl rfl (by decide +kernel)
    have rT := y_rng (lo := 2147483648) (hi := 2147483655) (g := 0) t3 (o := 15) (k := 4) rfl rfl
    obtain ⟨m, hm⟩ : ∃ m : Nat, (s3.1 15 4).toInt = (m : Int) := ⟨(s3.1 15 4).toInt.toNat, by omega⟩
    have hC : y_VC m s6.1 := by
      refine y_rs_VC2 (s := y_up (y_up s4 0 7 (.inl (Int32.ofInt 0))) 0 14 (.inl (Int32.ofInt 0))) (fun o k h1 h2 => ?_) (by rw [u6 33 1 (by omega) (by omega)]; exact r1) (by rw [u6 33 2 (by omega) (by omega)]; exact r2) (by rw [u6 33 3 (by omega) (by omega)]; exact r3) (fun k hk => ?_) (fun p hp h7 _ => ⟨p, h7, ?_, ?_⟩) (fun b hb hbit => ?_)
      · by_cases q1 : o = 0 ∧ k = 14
        · obtain ⟨rfl, rfl⟩ := q1
          rw [z7]
          rfl
        · by_cases q2 : o = 0 ∧ k = 7
          · obtain ⟨rfl, rfl⟩ := q2
            rw [z6]
            rfl
          · rw [u6 o k q2 q1, u5 o k h1 h2, y_up_ne q1, y_up_ne q2]
      · rw [u6 34 k (by omega) (by omega), hrow k hk]
        have hs := y_so_le k hk
        exact ((y_up_ne (by omega)).trans (y_up_ne (by omega))).symm
      · rw [y_up_ne (by omega), y_up_ne (by omega), e28, hm]
        omega
      · rw [y_up_ne (by omega), y_up_ne (by omega)]
        exact hln p h7
      · have hbit2 : y_bit (Int32.ofInt 0) b := hbit
        have : ∀ b, b < 3 → ¬ (Int32.ofInt 0).toInt.toNat / 2 ^ b % 2 = 1 := by decide
        exact absurd hbit2 (this b hb)
    have F36 := ((f4.mono (m2 := y_quKC) (by decide +kernel)).tr (f5.mono (by decide +kernel))).tr f6
    have hV3 : y_V1 n s3.1 := by rw [g3]; exact hV2
    obtain ⟨hF6, hM6⟩ := y_MF_fr F36 (by decide +kernel) hV3
    have hT6 : w_T (y_Vn m) g_sh (y_mk g_sh s6) := y_TV t6 ⟨hF6, hM6, hC⟩
    refine y_run 8 rfl ?_
    show y_W g_sh g_ts d g_t57 (y_quQ s) 92 [(0, .inr (.inr 2)), (2, .inr (.inr 17))] [.inr (.inr 30), .inr (.inr (s6.2.2 0 2)), .inr (.inr 38), .inr (.inr 57)] s6
    rw [c2]
    refine y_callN (hsr m).2 1 rfl (fun _ _ _ => rfl) (a := [.inr (.inr 57), .inr (.inr 38), .inr (.inr 17), .inr (.inr 30)]) rfl rfl (fun h hR => y_mayV (o := 55) (sz := 10) rfl hR) (by omega) hT6 ⟨⟨57, rfl, List.mem_cons_self⟩, ⟨38, rfl, List.mem_cons_self⟩, ⟨17, rfl, List.mem_cons_self⟩, ⟨30, rfl, List.mem_cons_self⟩, True.intro⟩ (fun s7 hT7 hf7 => ?_)
    have g7 := hf7.mono (hsr m).1
    have d2 : s7.2.2 0 2 = 17 := (y_fr66 g7 (by decide +kernel)).trans c2
    have d3 : s7.2.2 0 3 = 5 := (y_fr67 g7 (by decide +kernel)).trans c3
    have dn : (s7.1 15 4).toInt = (m : Int) := by
      rw [g7.at (o := 15) (k := 4) (A := w_n 0 7 0) rfl rfl (by decide +kernel), u6 15 4 (by omega) (by omega), u5 15 4 (by omega) (by omega), eT]
      exact hm
    have dz : (s7.1 1 1).toInt = 0 := by
      rw [g7.at (o := 1) (k := 1) (A := w_n 0 1600 0) rfl rfl (by decide +kernel), u6 1 1 (by omega) (by omega), u5 1 1 (by omega) (by omega), f4.at (o := 1) (k := 1) (A := w_n 0 1600 0) rfl rfl (by decide +kernel), g3]
      exact e11
    refine y_run 2 rfl ?_
    show y_W g_sh g_ts d g_t57 (y_quQ s) 99 [(0, .inr (.inr 2)), (2, .inr (.inr 17))] [.inr (.inr (s7.2.2 0 2))] s7
    rw [d2]
    refine y_run 1 rfl ?_
    exact y_iret rfl ⟨m, hT7, Or.inr ⟨d2, dn⟩, Or.inr ⟨d2, d3⟩, F6.tr (g7.mono (by decide +kernel)), dz, _, rfl⟩
  obtain ⟨q, hq2, ho⟩ := hv
  have eq : q = ([], some (w_n 0 0 0), M0) ∨ q = ([], some (w_n 1 1 0), M1) := by simpa using hq2
  rcases eq with rfl | rfl
  · obtain ⟨z, rfl, z1, z2⟩ := y_ans ho
    exact key z (Or.inl (by omega))
  · obtain ⟨z, rfl, z1, z2⟩ := y_ans ho
    exact key z (Or.inr (by omega))
theorem y_quay17 {n : Nat} {Kr : List (Nat × Nat)} {M0 M1 : w_U} {Ks : Nat → List (Nat × Nat)} {Ms : Nat → w_U} (hrd : y_eRdI (y_Vn n) 5 Kr y_rdK5 M0 M1) (hsr : ∀ m, y_eSiR (y_Vn m) 5 (Ks m) y_srK5 (Ms m)) {d : Nat} {s : y_H} (hd : 72 ≤ d) (hT : w_T (y_Vn n) g_sh (y_mk g_sh s)) (hr2 : s.2.2 0 2 = 17) (hr3 : s.2.2 0 3 = 5) (hn : (s.1 15 4).toInt = (n : Int)) : y_W g_sh g_ts d g_t57 (y_quQ s) 0 [(0, .inr (.inr 2))] [] s := by
  obtain ⟨i1, i2, hE⟩ := hrd
  refine y_run 4 rfl ?_
  show y_W g_sh g_ts d g_t57 (y_quQ s) 8 [(0, .inr (.inr 2))] [.inr (.inr (s.2.2 0 3)), .inr (.inr 29)] s
  rw [hr3]
  refine y_callM hE (by simpa [Bool.and_eq_true] using i2) 1 rfl (fun _ _ _ => rfl) (a := [.inr (.inr 29), .inr (.inr 5)]) rfl rfl (fun h hR => y_mayV (o := 27) (sz := 10) rfl hR) (by omega) hT ⟨⟨29, rfl, List.mem_cons_self⟩, ⟨5, rfl, List.mem_cons_self⟩, True.intro⟩ (fun v s1 hT1 hf1 hv => ?_)
  have g1 := hf1.mono i1
  have key : ∀ x : Int32, x.toInt = 0 ∨ x.toInt = 1 → y_W g_sh g_ts d g_t57 (y_quQ s) 11 [(0, .inr (.inr 2))] [.inl x] s1 := by
    intro x hx
    have hT2 := y_Tup (lo := 2147483648) (hi := 2147485248) (g := 0) (o := 1) (k := 1) (x := Int32.ofInt 0) hT1 rfl rfl (by decide +kernel) (show _ ≤ (0 : Int) by omega) (show (0 : Int) ≤ _ by omega)
    have f2 := (g1.mono (m2 := y_quKC) (by decide +kernel)).up (o := 1) (k := 1) (v := .inl (Int32.ofInt 0)) rfl (by decide +kernel)
    have e11 : ((y_up s1 1 1 (.inl (Int32.ofInt 0))).1 1 1).toInt = 0 := rfl
    have a2 : (y_up s1 1 1 (.inl (Int32.ofInt 0))).2.2 0 2 = 17 := (y_fr66 g1 (by decide +kernel)).trans hr2
    have a3 : (y_up s1 1 1 (.inl (Int32.ofInt 0))).2.2 0 3 = 5 := (y_fr67 g1 (by decide +kernel)).trans hr3
    have an : ((y_up s1 1 1 (.inl (Int32.ofInt 0))).1 15 4).toInt = (n : Int) := by
      rw [y_up_ne (by omega), g1.at (o := 15) (k := 4) (A := w_n 0 7 0) rfl rfl (by decide +kernel)]
      exact hn
    refine y_run 5 rfl ?_
    show y_W g_sh g_ts d g_t57 (y_quQ s) 20 ((1, .inl x) :: [(0, .inr (.inr 2))]) [] (y_up s1 1 1 (.inl (Int32.ofInt 0)))
    revert hT2 f2 e11 a2 a3 an
    generalize y_up s1 1 1 (.inl (Int32.ofInt 0)) = s2
    intro hT2 f2 e11 a2 a3 an
    refine y_run 1 rfl ?_
    refine y_if rfl (fun h => ?_) (fun h => ?_)
    rotate_left
    · refine y_run 1 rfl ?_
      exact y_iret rfl ⟨n, hT2, Or.inr ⟨a2, an⟩, Or.inr ⟨a2, a3⟩, f2, e11, _, rfl⟩
    have hV2 := y_VT hT2
    refine y_run 2 rfl ?_
    show y_W g_sh g_ts d g_t57 (y_quQ s) 30 ((1, .inl x) :: [(0, .inr (.inr 2))]) [.inr (.inr (s2.2.2 0 3))] s2
    rw [a3]
    refine y_run 1 rfl ?_
    refine y_sub (ls1 := [(0, .inr (.inr 2)), (2, .inr (.inr 5))]) (show ([0, 2] : List Nat).Nodup by decide) (y_R_cons rfl (y_R_cons rfl y_R_nil)) ?_
    have t3 := y_Tupr (o := 0) (k := 2) (m := 5) (l := [5, 17]) (y_Tupr (o := 0) (k := 3) (m := 17) (l := [5, 17]) (y_t0 hT2) rfl rfl (by decide +kernel) (by decide)) rfl rfl (by decide +kernel) (by decide)
    have f3 := (f2.up (o := 0) (k := 3) (v := .inr (.inr 17)) rfl (by decide +kernel)).up (o := 0) (k := 2) (v := .inr (.inr 5)) rfl (by decide +kernel)
    have g3 : (y_up (y_up s2 0 3 (.inr (.inr 17))) 0 2 (.inr (.inr 5))).1 = s2.1 := rfl
    have b2 : (y_up (y_up s2 0 3 (.inr (.inr 17))) 0 2 (.inr (.inr 5))).2.2 0 2 = 5 := rfl
    have b3 : (y_up (y_up s2 0 3 (.inr (.inr 17))) 0 2 (.inr (.inr 5))).2.2 0 3 = 17 := rfl
    refine y_run 3 rfl ?_
    show y_W g_sh g_ts d g_t57 (y_quQ s) 36 [(0, .inr (.inr 2)), (2, .inr (.inr 5))] [.inr (.inr (s2.2.2 0 2)), .inr (.inr 2)] s2
    rw [a2]
    refine y_run 4 rfl ?_
    show y_W g_sh g_ts d g_t57 (y_quQ s) 44 [(0, .inr (.inr 2)), (2, .inr (.inr 5))] [] (y_up (y_up s2 0 3 (.inr (.inr 17))) 0 2 (.inr (.inr 5)))
    revert t3 f3 g3 b2 b3
    generalize y_up (y_up s2 0 3 (.inr (.inr 17))) 0 2 (.inr (.inr 5)) = s3
    intro t3 f3 g3 b2 b3
    refine y_run 4 rfl ?_
    show y_W g_sh g_ts d g_t57 (y_quQ s) 52 [(0, .inr (.inr 2)), (2, .inr (.inr 5))] [.inr (.inr (s3.2.2 0 2)), .inr (.inr 30)] s3
    rw [b2]
    refine y_call y_beginF5 1 rfl (fun _ _ _ => rfl) (a := [.inr (.inr 30), .inr (.inr 5)]) rfl rfl (fun h hR => y_mayV (o := 28) (sz := 10) rfl hR) (by omega) ⟨t3, rfl⟩ (fun v s4 hQ => ?_)
    obtain ⟨rfl, t4, f4, e28, hln⟩ := hQ
    refine y_run 4 rfl ?_
    refine y_call y_restartF 1 rfl (fun _ _ _ => rfl) (a := [.inr (.inr 35), .inr (.inr 30)]) rfl rfl (fun h hR => y_mayV (o := 33) (sz := 4) rfl hR) (by omega) ⟨t4, rfl⟩ (fun v s5 hQ => ?_)
    obtain ⟨rfl, t5, f5, u5, ⟨r1, r2, r3⟩, hrow⟩ := hQ
    have t6 := y_Tup0 (lo := 2147483648) (hi := 2147483655) (o := 0) (k := 14) (x := Int32.ofInt 0) (y_Tup0 (lo := 2147483648) (hi := 2147483655) (o := 0) (k := 7) (x := Int32.ofInt 0) t5 rfl rfl (show _ ≤ (0 : Int) by omega) (show (0 : Int) ≤ _ by omega)) rfl rfl (show _ ≤ (0 : Int) by omega) (show (0 : Int) ≤ _ by omega)
    have F5 := (f3.tr (f4.mono (by decide +kernel))).tr (f5.mono (by decide +kernel))
    have f6 := ((y_fr.rf (sh := g_sh) (ms := y_quKC) (s := s5)).up (o := 0) (k := 7) (v := .inl (Int32.ofInt 0)) rfl (by decide +kernel)).up (o := 0) (k := 14) (v := .inl (Int32.ofInt 0)) rfl (by decide +kernel)
    have u6 : ∀ o k, ¬ (o = 0 ∧ k = 7) → ¬ (o = 0 ∧ k = 14) → (y_up (y_up s5 0 7 (.inl (Int32.ofInt 0))) 0 14 (.inl (Int32.ofInt 0))).1 o k = s5.1 o k := fun o k h1 h2 => (y_up_ne h2).trans (y_up_ne h1)
    have z6 : (y_up (y_up s5 0 7 (.inl (Int32.ofInt 0))) 0 14 (.inl (Int32.ofInt 0))).1 0 7 = Int32.ofInt 0 := rfl
    have z7 : (y_up (y_up s5 0 7 (.inl (Int32.ofInt 0))) 0 14 (.inl (Int32.ofInt 0))).1 0 14 = Int32.ofInt 0 := rfl
    have c2 : (y_up (y_up s5 0 7 (.inl (Int32.ofInt 0))) 0 14 (.inl (Int32.ofInt 0))).2.2 0 2 = 5 := ((y_fr66 f5 (by decide +kernel)).trans (y_fr66 f4 (by decide +kernel))).trans b2
    have c3 : (y_up (y_up s5 0 7 (.inl (Int32.ofInt 0))) 0 14 (.inl (Int32.ofInt 0))).2.2 0 3 = 17 := ((y_fr67 f5 (by decide +kernel)).trans (y_fr67 f4 (by decide +kernel))).trans b3
    refine y_run 6 rfl ?_
    show y_W g_sh g_ts d g_t57 (y_quQ s) 76 [(0, .inr (.inr 2)), (2, .inr (.inr 5))] [] (y_up (y_up s5 0 7 (.inl (Int32.ofInt 0))) 0 14 (.inl (Int32.ofInt 0)))
    revert t6 f6 u6 z6 z7 c2 c3
    generalize y_up (y_up s5 0 7 (.inl (Int32.ofInt 0))) 0 14 (.inl (Int32.ofInt 0)) = s6
    intro t6 f6 u6 z6 z7 c2 c3
    have F6 := F5.tr f6
    have eT : s4.1 3 4 = s3.1 3 4 := f4.at (o := 3) (k := 4) (A := w_n 0 7 0) rfl rfl (by decide +kernel)
    have rT := y_rng (lo := 2147483648) (hi := 2147483655) (g := 0) t3 (o := 3) (k := 4) rfl rfl
    obtain ⟨m, hm⟩ : ∃ m : Nat, (s3.1 3 4).toInt = (m : Int) := ⟨(s3.1 3 4).toInt.toNat, by omega⟩
    have hC : y_VC m s6.1 := by
      refine y_rs_VC2 (s := y_up (y_up s4 0 7 (.inl (Int32.ofInt 0))) 0 14 (.inl (Int32.ofInt 0))) (fun o k h1 h2 => ?_) (by rw [u6 33 1 (by omega) (by omega)]; exact r1) (by rw [u6 33 2 (by omega) (by omega)]; exact r2) (by rw [u6 33 3 (by omega) (by omega)]; exact r3) (fun k hk => ?_) (fun p hp h7 _ => ⟨p, h7, ?_, ?_⟩) (fun b hb hbit => ?_)
      · by_cases q1 : o = 0 ∧ k = 14
        · obtain ⟨rfl, rfl⟩ := q1
          rw [z7]
          rfl
        · by_cases q2 : o = 0 ∧ k = 7
          · obtain ⟨rfl, rfl⟩ := q2
            rw [z6]
            rfl
          · rw [u6 o k q2 q1, u5 o k h1 h2, y_up_ne q1, y_up_ne q2]
      · rw [u6 34 k (by omega) (by omega), hrow k hk]
        have hs := y_so_le k hk
        exact ((y_up_ne (by omega)).trans (y_up_ne (by omega))).symm
      · rw [y_up_ne (by omega), y_up_ne (by omega), e28, hm]
        omega
      · rw [y_up_ne (by omega), y_up_ne (by omega)]
        exact hln p h7
      · have hbit2 : y_bit (Int32.ofInt 0) b := hbit
        have : ∀ b, b < 3 → ¬ (Int32.ofInt 0).toInt.toNat / 2 ^ b % 2 = 1 := by decide
        exact absurd hbit2 (this b hb)
    have F36 := ((f4.mono (m2 := y_quKC) (by decide +kernel)).tr (f5.mono (by decide +kernel))).tr f6
    have hV3 : y_V1 n s3.1 := by rw [g3]; exact hV2
    obtain ⟨hF6, hM6⟩ := y_MF_fr F36 (by decide +kernel) hV3
    have hT6 : w_T (y_Vn m) g_sh (y_mk g_sh s6) := y_TV t6 ⟨hF6, hM6, hC⟩
    refine y_run 8 rfl ?_
    show y_W g_sh g_ts d g_t57 (y_quQ s) 92 [(0, .inr (.inr 2)), (2, .inr (.inr 5))] [.inr (.inr 30), .inr (.inr (s6.2.2 0 2)), .inr (.inr 38), .inr (.inr 57)] s6
    rw [c2]
    refine y_callN (hsr m).2 1 rfl (fun _ _ _ => rfl) (a := [.inr (.inr 57), .inr (.inr 38), .inr (.inr 5), .inr (.inr 30)]) rfl rfl (fun h hR => y_mayV (o := 55) (sz := 10) rfl hR) (by omega) hT6 ⟨⟨57, rfl, List.mem_cons_self⟩, ⟨38, rfl, List.mem_cons_self⟩, ⟨5, rfl, List.mem_cons_self⟩, ⟨30, rfl, List.mem_cons_self⟩, True.intro⟩ (fun s7 hT7 hf7 => ?_)
    have g7 := hf7.mono (hsr m).1
    have d2 : s7.2.2 0 2 = 5 := (y_fr66 g7 (by decide +kernel)).trans c2
    have d3 : s7.2.2 0 3 = 17 := (y_fr67 g7 (by decide +kernel)).trans c3
    have dn : (s7.1 3 4).toInt = (m : Int) := by
      rw [g7.at (o := 3) (k := 4) (A := w_n 0 7 0) rfl rfl (by decide +kernel), u6 3 4 (by omega) (by omega), u5 3 4 (by omega) (by omega), eT]
      exact hm
    have dz : (s7.1 1 1).toInt = 0 := by
      rw [g7.at (o := 1) (k := 1) (A := w_n 0 1600 0) rfl rfl (by decide +kernel), u6 1 1 (by omega) (by omega), u5 1 1 (by omega) (by omega), f4.at (o := 1) (k := 1) (A := w_n 0 1600 0) rfl rfl (by decide +kernel), g3]
      exact e11
    refine y_run 2 rfl ?_
    show y_W g_sh g_ts d g_t57 (y_quQ s) 99 [(0, .inr (.inr 2)), (2, .inr (.inr 5))] [.inr (.inr (s7.2.2 0 2))] s7
    rw [d2]
    refine y_run 1 rfl ?_
    exact y_iret rfl ⟨m, hT7, Or.inl ⟨d2, dn⟩, Or.inl ⟨d2, d3⟩, F6.tr (g7.mono (by decide +kernel)), dz, _, rfl⟩
  obtain ⟨q, hq2, ho⟩ := hv
  have eq : q = ([], some (w_n 0 0 0), M0) ∨ q = ([], some (w_n 1 1 0), M1) := by simpa using hq2
  rcases eq with rfl | rfl
  · obtain ⟨z, rfl, z1, z2⟩ := y_ans ho
    exact key z (Or.inl (by omega))
  · obtain ⟨z, rfl, z1, z2⟩ := y_ans ho
    exact key z (Or.inr (by omega))
theorem y_quayC {n : Nat} {K5 K17 : List (Nat × Nat)} {A0 A1 B0 B1 : w_U} {L5 L17 : Nat → List (Nat × Nat)} {M5 M17 : Nat → w_U} (h17 : y_eRdI (y_Vn n) 17 K17 y_rdK17 A0 A1) (h5 : y_eRdI (y_Vn n) 5 K5 y_rdK5 B0 B1) (s17 : ∀ m, y_eSiR (y_Vn m) 17 (L17 m) y_srK17 (M17 m)) (s5 : ∀ m, y_eSiR (y_Vn m) 5 (L5 m) y_srK5 (M5 m)) : y_C g_sh g_ts 57 73 (fun a s => w_T (y_Vn n) g_sh (y_mk g_sh s) ∧ y_Td n s ∧ y_Un s ∧ a = [.inr (.inr 2)]) (fun _ s v s2 => y_quQ s v s2) := by
  refine y_C.of (t := g_t57) rfl (by decide) ?_
  rintro d a s hd ⟨hT, hD, hU, rfl⟩
  rcases hU with ⟨u1, u2⟩ | ⟨u1, u2⟩
  · rcases hD with ⟨d1, d2⟩ | ⟨d1, d2⟩
    · exact y_quay5 h17 s17 (by omega) hT u1 u2 d2
    · omega
  · rcases hD with ⟨d1, d2⟩ | ⟨d1, d2⟩
    · omega
    · exact y_quay17 h5 s5 (by omega) hT u1 u2 d2
