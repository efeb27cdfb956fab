/-! by hand: unit of the model -/
abbrev y_fuK : List (Nat × Nat) := [(266306, 266308), (266310, 266313), (266321, 266321), (266323, 266324), (266326, 266327), (278592, 278911), (282688, 283007), (294976, 295135)]
theorem y_callR {V : w_V} {d : Nat} {t : q_T} {Q0 : Option (q_V Int32) → y_H → Prop} {p : Nat} {ls : q_U Int32} {st st2 a : List (q_V Int32)} {s : y_H} {k D na ml len lo hi g : Nat} {x : List Nat} {ins : Jvm.ClassFile.Instr} {as : List w_A} (hE : w_Ent V g_sh g_ts (k, as, [], [], [([], some (.inl ((lo, hi), g)), [])], D)) (sv : Nat) (hq : q_get t p = some (ins, len, k :: na :: ml :: x)) (hins : ∀ cal h ns, q_act q_O32 none cal ins len (k :: na :: ml :: x) (p, ls, st) h ns = q_inv cal sv (k :: na :: ml :: x) len (p, ls, st) h ns) (htk : q_take na st [] = some (a, st2)) (hc : (Nat.ble (q_cats st2) 8 && Nat.ble (q_cats a) ml) = true) (hm : ∀ h, w_Rep g_sh h (y_mk g_sh s) → q_may sv x a h = true) (hd : D ≤ d) (hT : w_T V g_sh (y_mk g_sh s)) (ha : w_sts [] (y_mk g_sh s) (as.map w_kz) a) (hw : ∀ z : Int32, (lo : Int) - 2147483648 ≤ z.toInt → z.toInt ≤ (hi : Int) - 2147483648 → y_W g_sh g_ts d t Q0 (p + len) ls (.inl z :: st2) s) : y_W g_sh g_ts d t Q0 p ls st s := by
  refine y_callE hE rfl sv hq hins htk hc hm hd hT ha (fun v hv => ?_)
  obtain ⟨q, hq2, ho⟩ := hv
  have eq : q = ([], some (.inl ((lo, hi), g)), []) := by simpa using hq2
  subst eq
  obtain ⟨z, rfl, z1, z2⟩ := y_ans ho
  exact hw z z1 z2
theorem y_callW {V : w_V} {d : Nat} {t : q_T} {Q0 : Option (q_V Int32) → y_H → Prop} {p i : Nat} {ls : q_U Int32} {st2 : List (q_V Int32)} {s : y_H} {w : Int32} (hwr : y_eWrong V) (hq : q_get t p = some (.invokevirtual i, 3, [324, 2, 2, 11])) (hc : Nat.ble (q_cats st2) 8 = true) (hd : 1 ≤ d) (hT : w_T V g_sh (y_mk g_sh s)) (w2 : 2 ≤ w.toInt) (w5 : w.toInt ≤ 5) (hw : ∀ s2, w_T V g_sh (y_mk g_sh s2) → y_fr g_sh [(266306, 266307)] s s2 → 1 ≤ (s2.1 65 2).toInt → y_W g_sh g_ts d t Q0 (p + 3) ls st2 s2) : y_W g_sh g_ts d t Q0 p ls (.inl w :: .inr (.inr 67) :: st2) s := by
  refine y_callM hwr (by decide +kernel) 1 hq (fun _ _ _ => rfl) (a := [.inr (.inr 67), .inl w]) rfl (by rw [hc]; rfl) (fun h hR => y_mayV (o := 65) (sz := 85) rfl hR) hd hT ⟨⟨67, rfl, List.mem_cons_self⟩, y_iv (by omega) (by omega), True.intro⟩ (fun v s2 hT2 hf2 hv => ?_)
  obtain ⟨q, hq2, ho⟩ := hv
  have eq : q = ([], none, [(266306, w_n 1 5 0)]) := by simpa using hq2
  subst eq
  have ev := y_ansV ho
  subst ev
  have hfa := y_outM (o := 65) (k := 2) (lo := 2147483649) (hi := 2147483653) ho List.mem_cons_self (by omega) rfl
  exact hw s2 hT2 hf2 (by omega)
theorem y_FI_push {s s2 : y_H} {M P K K2 U B B2 e : Nat} {x x19 x23 : Int32} (h : y_FI s M P K U B e) (h19 : x19.toInt = ((P + 1 : Nat) : Int)) (h23 : x23.toInt = (K2 : Int)) (hb : B2 = B + y_bin x) (hK : P + 1 = B2 + K2) (e68 : ∀ i, s2.1 68 i = s.1 68 i) (e69 : ∀ i, s2.1 69 i = s.1 69 i) (e72 : ∀ i, s2.1 72 i = if i = P then x else s.1 72 i) (e17 : s2.1 65 17 = s.1 65 17) (e19 : s2.1 65 19 = x19) (e20 : s2.1 65 20 = s.1 65 20) (e22 : s2.1 65 22 = s.1 65 22) (e23 : s2.1 65 23 = x23) : y_FI s2 M (P + 1) K2 U B2 e := by
  obtain ⟨h1, h2, h3, h4, h5, h6, h7, h8⟩ := h
  refine ⟨by rw [e17]; exact h1, by rw [e19]; exact h19, by rw [e23]; exact h23, by rw [e22]; exact h4, ?_, hK, y_ND_eq (fun i _ => e68 i) (fun i _ => e69 i) h7, by rw [e20]; exact h8⟩
  show y_cn (fun k => y_bin (s2.1 72 k)) P + y_bin (s2.1 72 P) = B2
  rw [e72 P, if_pos rfl, y_cn_eq (g := fun k => y_bin (s.1 72 k)) P (fun i hi => by rw [e72 i, if_neg (by omega)]), h5, hb]
theorem y_FI_cnt {s s2 : y_H} {M P K U B e : Nat} (h : y_FI s M P K U B e) (hU : U ≤ 30) (hn : (s.1 65 20).toInt < 60) (h0 : 0 ≤ (s.1 65 20).toInt) (e2 : s2 = y_up (y_up s 65 20 (.inl (s.1 65 20 + (Int32.ofInt 1)))) 65 22 (.inl (s.1 65 22 + (Int32.ofInt 1)))) : y_FI s2 M P K (U + 1) B e := by
  obtain ⟨h1, h2, h3, h4, h5, h6, h7, h8⟩ := h
  have a1 : (s.1 65 20 + (Int32.ofInt 1)).toInt = (s.1 65 20).toInt + 1 := y_add (x := s.1 65 20) (y := 1) (by show _ ≤ _ + (1 : Int); omega) (by show _ + (1 : Int) ≤ _; omega)
  have a2 : (s.1 65 22 + (Int32.ofInt 1)).toInt = (s.1 65 22).toInt + 1 := y_add (x := s.1 65 22) (y := 1) (by show _ ≤ _ + (1 : Int); omega) (by show _ + (1 : Int) ≤ _; omega)
  have u : ∀ o k, ¬ (o = 65 ∧ k = 20) → ¬ (o = 65 ∧ k = 22) → s2.1 o k = s.1 o k := fun o k q1 q2 => by rw [e2]; exact (y_up_ne q2).trans (y_up_ne q1)
  refine ⟨by rw [u 65 17 (by omega) (by omega)]; exact h1, by rw [u 65 19 (by omega) (by omega)]; exact h2, by rw [u 65 23 (by omega) (by omega)]; exact h3, ?_, ?_, h6, y_ND_eq (fun i _ => u 68 i (by omega) (by omega)) (fun i _ => u 69 i (by omega) (by omega)) h7, ?_⟩
  · have e : s2.1 65 22 = s.1 65 22 + (Int32.ofInt 1) := by rw [e2]; exact y_up_self
    rw [e, a2]
    omega
  · rw [← h5]
    exact y_cn_eq P (fun i _ => by rw [u 72 i (by omega) (by omega)])
  · have e : s2.1 65 20 = s.1 65 20 + (Int32.ofInt 1) := by
      rw [e2]
      exact (y_up_ne (show ¬ (65 = 65 ∧ 20 = 22) by omega)).trans y_up_self
    rw [e, a1]
    omega
theorem y_openAt {s : y_H} {P : Nat} {x y z : Int32} : (∀ o k, ¬ (o = 72 ∧ k = P) → ¬ (o = 65 ∧ k = 19) → ¬ (o = 65 ∧ k = 23) → (y_up (y_up (y_up s 72 P (.inl x)) 65 19 (.inl y)) 65 23 (.inl z)).1 o k = s.1 o k) ∧ (∀ i, (y_up (y_up (y_up s 72 P (.inl x)) 65 19 (.inl y)) 65 23 (.inl z)).1 72 i = if i = P then x else s.1 72 i) ∧ (y_up (y_up (y_up s 72 P (.inl x)) 65 19 (.inl y)) 65 23 (.inl z)).1 65 19 = y ∧ (y_up (y_up (y_up s 72 P (.inl x)) 65 19 (.inl y)) 65 23 (.inl z)).1 65 23 = z := by
  refine ⟨fun o k h1 h2 h3 => (y_up_ne h3).trans ((y_up_ne h2).trans (y_up_ne h1)), fun i => ?_, (y_up_ne (show ¬ (65 = 65 ∧ 19 = 23) by omega)).trans y_up_self, y_up_self⟩
  refine (y_up_ne (show ¬ (72 = 65 ∧ i = 23) by omega)).trans ((y_up_ne (show ¬ (72 = 65 ∧ i = 19) by omega)).trans ?_)
  by_cases q : i = P
  · rw [if_pos q, q]
    exact y_up_self
  · rw [if_neg q]
    exact y_up_ne (by omega)
theorem y_fr_open {s0 s : y_H} {P : Nat} {x y z : Int32} (hf : y_fr g_sh y_fuK s0 s) (hP : P < 160) : y_fr g_sh y_fuK s0 (y_up (y_up (y_up s 72 P (.inl x)) 65 19 (.inl y)) 65 23 (.inl z)) :=
  ((hf.up (o := 72) (k := P) y_k72 (y_msA (sz := 160) (by decide +kernel) hP)).up (o := 65) (k := 19) rfl (by decide +kernel)).up (o := 65) (k := 23) rfl (by decide +kernel)
/-- behind openUp of a not or of a bracket -/
theorem y_FI_open {s s3 : y_H} {M P K U B e : Nat} {x : Int32} (h : y_FI s M P K U B e) (hM : M ≤ 320) (hP : P < 160) (hK : K < 100) (hx : x.toInt = 20 ∨ x.toInt = 21) (hf : y_fr g_sh y_tk (y_up (y_up (y_up s 72 P (.inl x)) 65 19 (.inl (s.1 65 19 + (Int32.ofInt 1)))) 65 23 (.inl (s.1 65 23 + (Int32.ofInt 1)))) s3) : y_FI s3 M (P + 1) (K + 1) U B e := by
  obtain ⟨c1, c2, c3, c4⟩ := y_openAt (s := s) (P := P) (x := x) (y := s.1 65 19 + (Int32.ofInt 1)) (z := s.1 65 23 + (Int32.ofInt 1))
  have h2 := h.2.1
  have h3 := h.2.2.1
  have h6 := h.2.2.2.2.2.1
  have a1 : (s.1 65 19 + (Int32.ofInt 1)).toInt = (s.1 65 19).toInt + 1 := y_add (x := s.1 65 19) (y := 1) (by show _ ≤ _ + (1 : Int); omega) (by show _ + (1 : Int) ≤ _; omega)
  have a2 : (s.1 65 23 + (Int32.ofInt 1)).toInt = (s.1 65 23).toInt + 1 := y_add (x := s.1 65 23) (y := 1) (by show _ ≤ _ + (1 : Int); omega) (by show _ + (1 : Int) ≤ _; omega)
  refine y_FI_fr hf (by decide +kernel) hM (by omega) (y_FI_push (x := x) h (x19 := s.1 65 19 + (Int32.ofInt 1)) (x23 := s.1 65 23 + (Int32.ofInt 1)) (by rw [a1]; omega) (by rw [a2]; omega) ?_ (by omega) (fun i => c1 68 i (by omega) (by omega) (by omega)) (fun i => c1 69 i (by omega) (by omega) (by omega)) c2 (c1 65 17 (by omega) (by omega) (by omega)) c3 (c1 65 20 (by omega) (by omega) (by omega)) (c1 65 22 (by omega) (by omega) (by omega)) c4)
  rw [show y_bin x = 0 from if_pos hx, Nat.add_zero]
theorem y_tkFault {s s2 : y_H} (hf : y_fr g_sh y_tk s s2) : s2.1 65 2 = s.1 65 2 := hf.at (o := 65) (k := 2) (A := w_n 0 5 0) rfl rfl (by decide +kernel)
abbrev y_eAsked (V : w_V) : Prop := w_Ent V g_sh g_ts (180, [w_r 67], [], [], [([], some (w_g 2147483647 2147483653 0), [])], 1)
abbrev y_eMayNot (V : w_V) : Prop := w_Ent V g_sh g_ts (257, [w_r 67], [], [], [([], some (w_n 1 1 0), []), ([], some (w_n 0 0 0), [])], 2)
def y_unI (U K : Nat) (s : y_H) : Prop := ∃ M P U2 B : Nat, y_FI s M P K U2 B B ∧ B ≤ U2 ∧ U2 ≤ 30 ∧ K ≤ 7 ∧ M + P ≤ 9 * U2 + 1 + K ∧ U ≤ U2
def y_unQ (V : w_V) (U : Nat) (s0 : y_H) (v : Option (q_V Int32)) (s : y_H) : Prop := v = none ∧ w_T V g_sh (y_mk g_sh s) ∧ y_fr g_sh y_fuK s0 s ∧ ((s.1 65 2).toInt = 0 → ∃ M P K U2 B : Nat, y_FI s M P K U2 B (B + 1) ∧ B + 1 ≤ U2 ∧ U2 ≤ 30 ∧ K ≤ 7 ∧ M + P ≤ 9 * U2 ∧ U + 1 ≤ U2)
section UN
variable {V : w_V} {d U : Nat} {s0 : y_H}
theorem y_un_end (hasked : y_eAsked V) (hwr : y_eWrong V) (hd : 3 ≤ d) {s : y_H} {K : Nat} {ls : q_U Int32} (hT : w_T V g_sh (y_mk g_sh s)) (hf : y_fr g_sh y_fuK s0 s) (hI : (s.1 65 2).toInt = 0 → y_unI U K s) (l0 : q_at ls 0 = some (.inr (.inr 67))) : y_W g_sh g_ts d g_t316 (y_unQ V U s0) 101 ls [] s := by
  refine y_sub (ls1 := [(0, .inr (.inr 67))]) (show ([0] : List Nat).Nodup by decide) (y_R_cons l0 y_R_nil) ?_
  have hfl := y_rng (lo := 2147483648) (hi := 2147483653) (g := 0) hT (o := 65) (k := 2) rfl rfl
  refine y_run 2 rfl ?_
  refine y_if rfl (fun h => ?_) (fun h => ?_)
  · have h0 : (s.1 65 2).toInt ≤ 0 := h
    obtain ⟨M, P, U2, B, hFI, hBU, hU30, hK7, hMP, hUU⟩ := hI (by omega)
    have hn := y_rng (lo := 2147483648) (hi := 2147483709) (g := 0) hT (o := 65) (k := 20) rfl rfl
    have hn60 := hFI.2.2.2.2.2.2.2
    have hPB := hFI.2.2.2.2.2.1
    have hU := hFI.2.2.2.1
    refine y_run 1 rfl ?_
    refine y_callR hasked 1 rfl (fun _ _ _ => rfl) (a := [.inr (.inr 67)]) rfl rfl (fun h hR => y_mayV (o := 65) (sz := 85) rfl hR) (by omega) hT ⟨⟨67, rfl, List.mem_cons_self⟩, True.intro⟩ (fun a a0 a1 => ?_)
    have p133 : ∀ ls : q_U Int32, q_at ls 0 = some (.inr (.inr 67)) → y_W g_sh g_ts d g_t316 (y_unQ V U s0) 133 ls [] s := by
      intro ls l0
      refine y_sub (ls1 := [(0, .inr (.inr 67))]) (show ([0] : List Nat).Nodup by decide) (y_R_cons l0 y_R_nil) ?_
      refine y_run 2 rfl ?_
      refine y_callW hwr rfl rfl (by omega) hT (show (2 : Int) ≤ 2 by omega) (show (2 : Int) ≤ 5 by omega) (fun s2 hT2 hf2 h1 => ?_)
      refine y_run 2 rfl ?_
      refine y_if rfl (fun h => ?_) (fun _ => ?_)
      · have h3 : (s2.1 65 2).toInt ≤ 0 := h
        omega
      · exact y_vret rfl ⟨rfl, hT2, hf.tr (hf2.mono (by decide +kernel)), fun h => by omega⟩
    have p138 : ∀ ls : q_U Int32, q_at ls 0 = some (.inr (.inr 67)) → q_at ls 2 = some (.inl a) → (s.1 65 20).toInt ≠ 60 → (s.1 65 22).toInt ≠ 30 → y_W g_sh g_ts d g_t316 (y_unQ V U s0) 138 ls [] s := by
      intro ls l0 l2 hn1 hn2
      refine y_sub (ls1 := [(0, .inr (.inr 67)), (2, .inl a)]) (show ([0, 2] : List Nat).Nodup by decide) (y_R_cons l0 (y_R_cons l2 y_R_nil)) ?_
      refine y_run 2 rfl ?_
      refine y_if rfl (fun _ => ?_) (fun h => absurd (show (s.1 65 2).toInt ≤ 0 from h0) h)
      refine y_run 1 rfl ?_
      refine y_call (y_countUnitF (V := V)) 1 rfl (fun _ _ _ => rfl) (a := [.inr (.inr 67)]) rfl rfl (fun h hR => y_mayV (o := 65) (sz := 85) rfl hR) (by omega) ⟨hT, rfl, hn60, by omega⟩ (fun v s2 hQ => ?_)
      obtain ⟨rfl, hT2, e2⟩ := hQ
      have hFI2 := y_FI_cnt hFI (by omega) (by omega) (by omega) e2
      have hf2 : y_fr g_sh y_fuK s0 s2 := by
        rw [e2]
        exact (hf.up (o := 65) (k := 20) rfl (by decide +kernel)).up (o := 65) (k := 22) rfl (by decide +kernel)
      have u2 : s2.1 65 2 = s.1 65 2 := by
        rw [e2]
        exact (y_up_ne (show ¬ (65 = 65 ∧ 2 = 22) by omega)).trans (y_up_ne (by omega))
      have m2 := hFI2.1
      -- behind add
      have fin : ∀ (t v : Int32) (ls : q_U Int32), (t.toInt = 0 ∨ (t.toInt = 1 ∧ 0 ≤ v.toInt ∧ v.toInt ≤ 5)) → q_at ls 0 = some (.inr (.inr 67)) → y_W g_sh g_ts d g_t316 (y_unQ V U s0) 172 ls [.inl v, .inl t, .inr (.inr 67)] s2 := by
        intro t v ls ht l0
        refine y_sub (ls1 := [(0, .inr (.inr 67))]) (show ([0] : List Nat).Nodup by decide) (y_R_cons l0 y_R_nil) ?_
        refine y_call (y_addF (V := V) (t := t) (v := v) (M := M) (by omega) (by omega) (by omega)) 1 rfl (fun _ _ _ => rfl) (a := [.inr (.inr 67), .inl t, .inl v]) rfl rfl (fun h hR => y_mayV (o := 65) (sz := 85) rfl hR) (by omega) ⟨hT2, rfl, m2⟩ (fun v3 s3 hQ => ?_)
        obtain ⟨rfl, hT3, e3⟩ := hQ
        have at3 : ∀ o k, ¬ (o = 68 ∧ k = M) → ¬ (o = 69 ∧ k = M) → ¬ (o = 65 ∧ k = 17) → s3.1 o k = s2.1 o k := fun o k q1 q2 q3 => by rw [e3]; exact y_addAt q1 q2 q3
        have hf3 : y_fr g_sh y_fuK s0 s3 := by
          rw [e3]
          exact ((hf2.up (o := 68) (k := M) y_k68 (y_msA (sz := 320) (by decide +kernel) (by omega))).up (o := 69) (k := M) y_k69 (y_msA (sz := 320) (by decide +kernel) (by omega))).up (o := 65) (k := 17) rfl (by decide +kernel)
        have hFI3 : y_FI s3 (M + 1) P K (U2 + 1) B (B + 1) := by
          obtain ⟨h1, h2, h3, h4, h5, h6, h7, h8⟩ := hFI2
          have hadd : (s2.1 65 17 + (Int32.ofInt 1)).toInt = (s2.1 65 17).toInt + 1 := y_add (x := s2.1 65 17) (y := 1) (by show _ ≤ _ + (1 : Int); omega) (by show _ + (1 : Int) ≤ _; omega)
          have e17 : s3.1 65 17 = s2.1 65 17 + (Int32.ofInt 1) := by
            rw [e3]
            exact y_up_self
          refine ⟨by rw [e17, hadd]; omega, by rw [at3 65 19 (by omega) (by omega) (by omega)]; exact h2, by rw [at3 65 23 (by omega) (by omega) (by omega)]; exact h3, by rw [at3 65 22 (by omega) (by omega) (by omega)]; exact h4, ?_, h6, ?_, by rw [at3 65 20 (by omega) (by omega) (by omega)]; exact h8⟩
          · rw [← h5]
            exact y_cn_eq P (fun i _ => by rw [at3 72 i (by omega) (by omega) (by omega)])
          · have c1 : s3.1 68 M = t := by rw [e3, y_add68, if_pos rfl]
            have c2 : s3.1 69 M = v := by rw [e3, y_add69, if_pos rfl]
            refine y_ND_add h7 (fun i hi => by rw [e3, y_add68, if_neg (by omega)]) (fun i hi => by rw [e3, y_add69, if_neg (by omega)]) ?_
            rw [c1, c2]
            refine ⟨by omega, fun q => by omega, fun q => by omega, fun q => by omega, fun q => by omega⟩
        refine y_run 1 rfl ?_
        refine y_call (y_token (V := V)) 1 rfl (fun _ _ _ => rfl) (a := [.inr (.inr 67)]) rfl rfl (fun h hR => y_mayV (o := 65) (sz := 85) rfl hR) (by omega) ⟨hT3, rfl⟩ (fun v s4 hQ => ?_)
        obtain ⟨rfl, hT4, hf4, -, -⟩ := hQ
        refine y_vret rfl ⟨rfl, hT4, hf3.tr (hf4.mono (by decide +kernel)), fun _ => ⟨M + 1, P, K, U2 + 1, B, y_FI_fr hf4 (by decide +kernel) (by omega) (by omega) hFI3, by omega, by omega, hK7, by omega, by omega⟩⟩
      refine y_run 2 rfl ?_
      refine y_if rfl (fun h => ?_) (fun h => ?_)
      · have ha : 0 ≤ a.toInt := h
        refine y_run 2 rfl ?_
        refine y_if rfl (fun _ => ?_) (fun h => absurd (show 0 ≤ a.toInt from ha) h)
        refine y_run 1 rfl ?_
        exact fin _ a _ (Or.inr ⟨rfl, by omega, by omega⟩) rfl
      · have ha : ¬ 0 ≤ a.toInt := h
        refine y_run 3 rfl ?_
        refine y_if rfl (fun h => absurd (show 0 ≤ a.toInt from h) ha) (fun _ => ?_)
        refine y_run 3 rfl ?_
        exact fin _ _ _ (Or.inl rfl) rfl
    have p126 : ∀ ls : q_U Int32, q_at ls 0 = some (.inr (.inr 67)) → q_at ls 2 = some (.inl a) → y_W g_sh g_ts d g_t316 (y_unQ V U s0) 126 ls [] s := by
      intro ls l0 l2
      refine y_sub (ls1 := [(0, .inr (.inr 67)), (2, .inl a)]) (show ([0, 2] : List Nat).Nodup by decide) (y_R_cons l0 (y_R_cons l2 y_R_nil)) ?_
      refine y_run 1 rfl ?_
      refine y_call y_isFullF 1 rfl (fun _ _ _ => rfl) (a := [.inr (.inr 67)]) rfl rfl (fun h hR => y_mayV (o := 65) (sz := 85) rfl hR) (by omega) rfl (fun v s2 hQ => ?_)
      obtain ⟨rfl, hv⟩ := hQ
      rcases hv with rfl | ⟨rfl, q1, q2⟩
      · exact y_if rfl (fun h => absurd (show (1 : Int) = 0 from h) (by omega)) (fun _ => p133 _ rfl)
      · exact y_if rfl (fun _ => p138 _ rfl rfl q1 q2) (fun h => absurd rfl h)
    refine y_run 4 rfl ?_
    refine y_ic rfl (fun _ => p126 _ rfl rfl) (fun _ => ?_)
    refine y_run 1 rfl ?_
    exact y_if rfl (fun _ => p133 _ rfl) (fun _ => p126 _ rfl rfl)
  · have h0 : ¬ (s.1 65 2).toInt ≤ 0 := h
    exact y_vret rfl ⟨rfl, hT, hf, fun h => by omega⟩
theorem y_un_loop (hword : y_eWord V) (hmay : y_eMayNot V) (hasked : y_eAsked V) (hwr : y_eWrong V) (hd : 3 ≤ d) : ∀ (c : Nat) (s : y_H) (K : Nat), w_T V g_sh (y_mk g_sh s) → y_fr g_sh y_fuK s0 s → ((s.1 65 2).toInt = 0 → y_unI U K s ∧ 8 - K ≤ c) → y_W g_sh g_ts d g_t316 (y_unQ V U s0) 2 [(0, .inr (.inr 67)), (1, .inl ((Int32.ofInt 1)))] [] s := by
  intro c
  induction c with
  | zero =>
    intro s K hT hf hI
    refine y_run 1 rfl ?_
    refine y_if rfl (fun h => absurd (show (1 : Int) = 0 from h) (by omega)) (fun _ => ?_)
    refine y_run 2 rfl ?_
    refine y_if rfl (fun h => y_un_end hasked hwr hd (K := K) hT hf (fun q => (hI q).1) rfl) (fun h => ?_)
    have h0 : (s.1 65 2).toInt = 0 := Classical.byContradiction fun q => h q
    obtain ⟨⟨M, P, U2, B, -, -, -, hK7, -⟩, hc⟩ := hI h0
    omega
  | succ c ih =>
    intro s K hT hf hI
    refine y_run 1 rfl ?_
    refine y_if rfl (fun h => absurd (show (1 : Int) = 0 from h) (by omega)) (fun _ => ?_)
    refine y_run 2 rfl ?_
    refine y_if rfl (fun h => y_un_end hasked hwr hd (K := K) hT hf (fun q => (hI q).1) rfl) (fun h => ?_)
    have h0 : (s.1 65 2).toInt = 0 := Classical.byContradiction fun q => h q
    obtain ⟨⟨M, P, U2, B, hFI, hBU, hU30, hK7, hMP, hUU⟩, hc⟩ := hI h0
    have hPB := hFI.2.2.2.2.2.1
    have hU := hFI.2.2.2.1
    have hdeep := hFI.2.2.1
    have hP19 := hFI.2.1
    have hn60 := hFI.2.2.2.2.2.2.2
    have hn := y_rng (lo := 2147483648) (hi := 2147483709) (g := 0) hT (o := 65) (k := 20) rfl rfl
    -- a not
    have p44 : ∀ (s2 : y_H) (ls : q_U Int32), w_T V g_sh (y_mk g_sh s2) → y_fr g_sh [(266306, 266307)] s s2 → ((s2.1 65 2).toInt = 0 → K ≤ 6) → ls = [(0, .inr (.inr 67)), (1, .inl ((Int32.ofInt 1)))] → y_W g_sh g_ts d g_t316 (y_unQ V U s0) 44 ls [] s2 := by
      rintro s2 ls hT2 hf2 hk rfl
      have hFI2 := y_FI_fr hf2 (by decide +kernel) (by omega) (by omega) hFI
      refine y_run 2 rfl ?_
      refine y_call (y_openUpF (V := V) (x := (Int8.ofInt 21).toInt32) (P := P) (by omega) (show (0 : Int) ≤ 21 by omega) (show (21 : Int) ≤ 255 by omega)) 1 rfl (fun _ _ _ => rfl) (a := [.inr (.inr 67), .inl (((Int8.ofInt 21).toInt32))]) rfl rfl (fun h hR => y_mayV (o := 65) (sz := 85) rfl hR) hd ⟨hT2, rfl, hFI2.2.1⟩ (fun v s3 hQ => ?_)
      obtain ⟨rfl, hT3, hf3⟩ := hQ
      have hFI3 := y_FI_open hFI2 (by omega) (by omega) (by omega) (Or.inr rfl) hf3
      have e2 : s3.1 65 2 = s2.1 65 2 := (y_tkFault hf3).trans (y_openAt.1 65 2 (by omega) (by omega) (by omega))
      refine y_run 1 rfl ?_
      refine ih s3 (K + 1) hT3 ((y_fr_open (hf.tr (hf2.mono (by decide +kernel))) (by omega)).tr (hf3.mono (by decide +kernel))) (fun q => ?_)
      rw [e2] at q
      have hk6 := hk q
      exact ⟨⟨M, P + 1, U2, B, hFI3, hBU, hU30, by omega, by omega, hUU⟩, by omega⟩
    -- a bracket
    have p83 : ∀ (s2 : y_H) (ls : q_U Int32), w_T V g_sh (y_mk g_sh s2) → y_fr g_sh [(266306, 266307)] s s2 → ((s2.1 65 2).toInt = 0 → K ≤ 6 ∧ (s.1 65 20).toInt ≠ 60 ∧ (s.1 65 22).toInt ≠ 30) → ls = [(0, .inr (.inr 67)), (1, .inl ((Int32.ofInt 1)))] → y_W g_sh g_ts d g_t316 (y_unQ V U s0) 83 ls [] s2 := by
      rintro s2 ls hT2 hf2 hk rfl
      have hFI2 := y_FI_fr hf2 (by decide +kernel) (by omega) (by omega) hFI
      refine y_run 1 rfl ?_
      refine y_call (y_countUnitF (V := V)) 1 rfl (fun _ _ _ => rfl) (a := [.inr (.inr 67)]) rfl rfl (fun h hR => y_mayV (o := 65) (sz := 85) rfl hR) (by omega) ⟨hT2, rfl, hFI2.2.2.2.2.2.2.2, by have := hFI2.2.2.2.1; omega⟩ (fun v s3 hQ => ?_)
      obtain ⟨rfl, hT3, e3⟩ := hQ
      have u3 : ∀ o k, ¬ (o = 65 ∧ k = 20) → ¬ (o = 65 ∧ k = 22) → s3.1 o k = s2.1 o k := fun o k q1 q2 => by rw [e3]; exact (y_up_ne q2).trans (y_up_ne q1)
      have hf3 : y_fr g_sh y_fuK s0 s3 := by
        rw [e3]
        exact ((hf.tr (hf2.mono (by decide +kernel))).up (o := 65) (k := 20) rfl (by decide +kernel)).up (o := 65) (k := 22) rfl (by decide +kernel)
      refine y_run 2 rfl ?_
      refine y_call (y_openUpF (V := V) (x := (Int8.ofInt 20).toInt32) (P := P) (by omega) (show (0 : Int) ≤ 20 by omega) (show (20 : Int) ≤ 255 by omega)) 1 rfl (fun _ _ _ => rfl) (a := [.inr (.inr 67), .inl (((Int8.ofInt 20).toInt32))]) rfl rfl (fun h hR => y_mayV (o := 65) (sz := 85) rfl hR) hd ⟨hT3, rfl, by rw [u3 65 19 (by omega) (by omega)]; exact hFI2.2.1⟩ (fun v s4 hQ => ?_)
      obtain ⟨rfl, hT4, hf4⟩ := hQ
      have e2 : s4.1 65 2 = s2.1 65 2 := ((y_tkFault hf4).trans (y_openAt.1 65 2 (by omega) (by omega) (by omega))).trans (u3 65 2 (by omega) (by omega))
      refine y_run 1 rfl ?_
      refine ih s4 (K + 1) hT4 ((y_fr_open hf3 (by omega)).tr (hf4.mono (by decide +kernel))) (fun q => ?_)
      rw [e2] at q
      obtain ⟨hk6, hk60, hk30⟩ := hk q
      have e20 : s2.1 65 20 = s.1 65 20 := hf2.at (o := 65) (k := 20) (A := w_n 0 61 0) rfl rfl (by decide +kernel)
      have hFI3 := y_FI_cnt hFI2 (by omega) (by rw [e20]; omega) (by rw [e20]; omega) e3
      have hFI4 := y_FI_open hFI3 (by omega) (by omega) (by omega) (Or.inl rfl) hf4
      exact ⟨⟨M, P + 1, U2 + 1, B, hFI4, by omega, by omega, by omega, by omega, by omega⟩, by omega⟩
    have p53 : ∀ ls : q_U Int32, ls = [(0, .inr (.inr 67)), (1, .inl ((Int32.ofInt 1)))] → y_W g_sh g_ts d g_t316 (y_unQ V U s0) 53 ls [] s := by
      rintro ls rfl
      refine y_run 3 rfl ?_
      refine y_ic rfl (fun _ => ?_) (fun _ => ?_)
      · refine y_run 4 rfl ?_
        refine y_if rfl (fun _ => y_un_end hasked hwr hd (K := K) hT hf (fun q => (hI q).1) rfl) (fun h => absurd rfl h)
      · have p78 : ∀ ls : q_U Int32, ls = [(0, .inr (.inr 67)), (1, .inl ((Int32.ofInt 1)))] → y_W g_sh g_ts d g_t316 (y_unQ V U s0) 78 ls [] s := by
          rintro ls rfl
          refine y_run 2 rfl ?_
          refine y_callW hwr rfl rfl (by omega) hT (show (2 : Int) ≤ 2 by omega) (show (2 : Int) ≤ 5 by omega) (fun s2 hT2 hf2 h1 => ?_)
          exact p83 s2 _ hT2 hf2 (fun q => by omega) rfl
        refine y_run 1 rfl ?_
        refine y_call y_isFullF 1 rfl (fun _ _ _ => rfl) (a := [.inr (.inr 67)]) rfl rfl (fun h hR => y_mayV (o := 65) (sz := 85) rfl hR) (by omega) rfl (fun v s2 hQ => ?_)
        obtain ⟨rfl, hv⟩ := hQ
        rcases hv with rfl | ⟨rfl, q1, q2⟩
        · exact y_if rfl (fun _ => p78 _ rfl) (fun h => absurd (show (1 : Int) ≠ 0 by omega) h)
        · refine y_if rfl (fun h => absurd rfl h) (fun _ => ?_)
          refine y_run 3 rfl ?_
          refine y_ic rfl (fun h => ?_) (fun _ => p78 _ rfl)
          have h6 : (s2.1 65 23).toInt ≤ 6 := h
          exact p83 s2 _ hT y_fr.rf (fun _ => ⟨by omega, q1, q2⟩) rfl
    refine y_run 2 rfl ?_
    refine y_callB hword (Or.inl rfl) 1 rfl (fun _ _ _ => rfl) rfl rfl (fun h hR => y_mayV (o := 65) (sz := 85) rfl hR) (by omega) hT ⟨⟨67, rfl, List.mem_cons_self⟩, ⟨_, rfl⟩, True.intro⟩ (fun z hz => ?_) (fun z hz => ?_)
    · exact y_if rfl (fun _ => p53 _ rfl) (fun h => absurd hz h)
    · refine y_if rfl (fun h => absurd (show z.toInt = 0 from h) (by omega)) (fun _ => ?_)
      refine y_run 1 rfl ?_
      refine y_callB hmay (Or.inr rfl) 1 rfl (fun _ _ _ => rfl) rfl rfl (fun h hR => y_mayV (o := 65) (sz := 85) rfl hR) (by omega) hT ⟨⟨67, rfl, List.mem_cons_self⟩, True.intro⟩ (fun z2 hz2 => ?_) (fun z2 hz2 => ?_)
      · exact y_if rfl (fun _ => p53 _ rfl) (fun h => absurd hz2 h)
      · refine y_if rfl (fun h => absurd (show z2.toInt = 0 from h) (by omega)) (fun _ => ?_)
        refine y_run 3 rfl ?_
        refine y_ic rfl (fun h => ?_) (fun _ => ?_)
        · have h6 : (s.1 65 23).toInt ≤ 6 := h
          exact p44 s _ hT y_fr.rf (fun _ => by omega) rfl
        · refine y_run 2 rfl ?_
          refine y_callW hwr rfl rfl (by omega) hT (show (2 : Int) ≤ 2 by omega) (show (2 : Int) ≤ 5 by omega) (fun s2 hT2 hf2 h1 => ?_)
          exact p44 s2 _ hT2 hf2 (fun q => by omega) rfl
end UN
theorem y_unitF {V : w_V} {U K : Nat} (hword : y_eWord V) (hmay : y_eMayNot V) (hasked : y_eAsked V) (hwr : y_eWrong V) : y_C g_sh g_ts 316 4 (fun a s => w_T V g_sh (y_mk g_sh s) ∧ a = [.inr (.inr 67)] ∧ ((s.1 65 2).toInt = 0 → y_unI U K s)) (fun _ s v s2 => y_unQ V U s v s2) := by
  refine y_C.of (t := g_t316) rfl (by decide) ?_
  rintro d a s hd ⟨hT, rfl, hI⟩
  refine y_run 2 rfl ?_
  refine y_sub (ls1 := [(0, .inr (.inr 67)), (1, .inl ((Int32.ofInt 1)))]) (show ([0, 1] : List Nat).Nodup by decide) (y_R_cons rfl (y_R_cons rfl y_R_nil)) ?_
  exact y_un_loop hword hmay hasked hwr (by omega) 8 s K hT y_fr.rf (fun q => ⟨hI q, by omega⟩)
