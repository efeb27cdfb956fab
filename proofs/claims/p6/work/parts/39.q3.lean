/-! several instructions at once that go over a static; kindOfWord, advance of the class's reader -/
section MC
variable {d : Nat} {t : q_T} {Q : Option (q_V Int32) → y_H → Prop} {p : Nat} {ls : q_U Int32} {st : List (q_V Int32)} {s : y_H}
theorem y_mc1 {len v : Nat} (hq : q_get t p = some (.getstatic 0, len, [v])) (hc : Nat.ble (q_cats st) 6 = true) (hw : y_W g_sh g_ts d t Q (p + len) ls (.inl (Int32.ofNat v) :: st) s) : y_W g_sh g_ts d t Q p ls st s := by
  refine y_W.step (fun h ns hR => ⟨0, h, ?_, hR⟩) hw
  unfold q_step
  dsimp only
  rw [hq]
  show q_mac q_O32 len [v] (p, ls, st) h ns = _
  unfold q_mac
  dsimp only
  rw [hc]
  rfl
theorem y_mc2 {len j i : Nat} {x z : Int32} (hq : q_get t p = some (.getstatic 0, len, [j, i])) (hc : Nat.ble (q_cats st) 6 = true) (hx : q_at ls i = some (.inl x)) (hz : q_o1 j x = some z) (hw : y_W g_sh g_ts d t Q (p + len) ls (.inl z :: st) s) : y_W g_sh g_ts d t Q p ls st s := by
  refine y_W.step (fun h ns hR => ⟨0, h, ?_, hR⟩) hw
  unfold q_step
  dsimp only
  rw [hq]
  show q_mac q_O32 len [j, i] (p, ls, st) h ns = _
  unfold q_mac
  dsimp only
  rw [hc, cond_true, hx]
  dsimp only
  unfold q_m1
  rw [show q_O32.2.2.1 j x = some z from hz]
  rfl
theorem y_f2 {h : q_H Int32} (hR : w_Rep g_sh h (y_mk g_sh s)) (h0 : q_at ls 0 = some (.inr (.inr 2))) : q_f2 10 4 6 1 (p, ls, st) h = some (s.1 28 1) := by
  obtain ⟨-, u, hu⟩ := y_ref_ok (n := 2) (o := 0) (tag := 10) (sz := 15) hR rfl
  obtain ⟨-, u2, hu2⟩ := y_ref_ok (n := 30) (o := 28) (tag := 6) (sz := 10) hR rfl
  have h1 : q_at u 4 = some (.inr (.inr 30)) := (hR.2 0 _ hu 4 (show 4 < 15 by omega)).1 (show 10 < 100 by omega)
  have h2 : q_at u2 1 = some (.inl (s.1 28 1)) := (hR.2 28 _ hu2 1 (show 1 < 10 by omega)).1 (show 6 < 100 by omega)
  unfold q_f2
  dsimp only
  rw [h0]
  dsimp only
  rw [hu]
  dsimp only
  rw [h1]
  dsimp only
  rw [hu2]
  dsimp only
  rw [h2]
  rfl
theorem y_mc5 {len j : Nat} {z : Int32} (hq : q_get t p = some (.getstatic 0, len, [j, 10, 4, 6, 1])) (hc : Nat.ble (q_cats st) 6 = true) (h0 : q_at ls 0 = some (.inr (.inr 2))) (hz : q_o1 j (s.1 28 1) = some z) (hw : y_W g_sh g_ts d t Q (p + len) ls (.inl z :: st) s) : y_W g_sh g_ts d t Q p ls st s := by
  refine y_W.step (fun h ns hR => ⟨0, h, ?_, hR⟩) hw
  unfold q_step
  dsimp only
  rw [hq]
  show q_mac q_O32 len [j, 10, 4, 6, 1] (p, ls, st) h ns = _
  unfold q_mac
  dsimp only
  rw [hc, cond_true, y_f2 hR h0]
  dsimp only
  unfold q_m1
  rw [show q_O32.2.2.1 j (s.1 28 1) = some z from hz]
  rfl
theorem y_mc6 {len j i : Nat} {y z : Int32} (hq : q_get t p = some (.getstatic 0, len, [j, 10, 4, 6, 1, i])) (hc : Nat.ble (q_cats st) 6 = true) (h0 : q_at ls 0 = some (.inr (.inr 2))) (hy : q_at ls i = some (.inl y)) (hz : q_o1 j (s.1 28 1 - 1 - y) = some z) (hw : y_W g_sh g_ts d t Q (p + len) ls (.inl z :: st) s) : y_W g_sh g_ts d t Q p ls st s := by
  refine y_W.step (fun h ns hR => ⟨0, h, ?_, hR⟩) hw
  unfold q_step
  dsimp only
  rw [hq]
  show q_mac q_O32 len [j, 10, 4, 6, 1, i] (p, ls, st) h ns = _
  unfold q_mac
  dsimp only
  rw [hc, cond_true, y_f2 hR h0, hy]
  show (match q_O32.2.1 1 (s.1 28 1) (q_O32.1 1) with
    | some x1 => (match q_O32.2.1 1 x1 y with
      | some x2 => q_m1 q_O32 j x2 len (p, ls, st) h ns
      | none => none)
    | none => none) = _
  show q_m1 q_O32 j (s.1 28 1 - 1 - y) len (p, ls, st) h ns = _
  unfold q_m1
  rw [show q_O32.2.2.1 j (s.1 28 1 - 1 - y) = some z from hz]
  rfl
end MC
/-! kindOfWord -/
def y_spc (i : Nat) : Nat := (((q_sb.getD 1 []).take i).filter (fun b => decide (b = 32))).length
theorem y_spc1 : ∀ I, I < 96 → ((q_chr 1 I).toInt = 32 → y_spc (I + 1) = y_spc I + 1) ∧ ((q_chr 1 I).toInt ≠ 32 → y_spc (I + 1) = y_spc I) ∧ ((q_chr 1 I).toInt = 32 → y_spc I ≤ 16) := by decide +kernel
def y_kwQ (s : y_H) (v : Option (q_V Int32)) (s2 : y_H) : Prop := s2 = s ∧ ∃ x : Int32, v = some (.inl x) ∧ 256 ≤ x.toInt ∧ x.toInt ≤ 273
theorem y_kw_loop {d : Nat} {s : y_H} : ∀ (c : Nat) (i w : Int32) (l : Int64) (I : Nat), i.toInt = (I : Int) → I ≤ 96 → 96 - I ≤ c → w.toInt = 256 + (y_spc I : Int) → y_spc I ≤ 17 → y_W g_sh g_ts d g_t112 (y_kwQ s) 9 [(0, .inr (.inr 29)), (1, .inl w), (2, .inr (.inl (l))), (4, .inl i)] [] s := by
  intro c
  induction c with
  | zero =>
    intro i w l I hi hI hc hw h17
    refine y_run 1 rfl ?_
    refine y_mc1 rfl rfl ?_
    refine y_ic rfl (fun _ => ?_) (fun h => ?_)
    · refine y_run 1 rfl ?_
      exact y_iret rfl ⟨rfl, _, rfl, show (256 : Int) ≤ 273 by omega, show (273 : Int) ≤ 273 by omega⟩
    · have h2 : ¬ (96 : Int) ≤ i.toInt := h
      omega
  | succ c ih =>
    intro i w l I hi hI hc hw h17
    have hi1 : (i + (Int32.ofInt 1)).toInt = i.toInt + 1 := y_add (x := i) (y := 1) (by show _ ≤ _ + (1 : Int); omega) (by show _ + (1 : Int) ≤ _; omega)
    refine y_run 1 rfl ?_
    refine y_mc1 rfl rfl ?_
    refine y_ic rfl (fun _ => ?_) (fun h => ?_)
    · refine y_run 1 rfl ?_
      exact y_iret rfl ⟨rfl, _, rfl, show (256 : Int) ≤ 273 by omega, show (273 : Int) ≤ 273 by omega⟩
    have h2 : ¬ (96 : Int) ≤ i.toInt := h
    have hI6 : I < 96 := by omega
    have ei : i = Int32.ofNat I := y_toN hi (by omega)
    have hz : q_o1 6 i = some (q_chr 1 I) := by
      have g1 : ¬ i < 0 := by
        intro q
        have q2 := Int32.lt_iff_toInt_lt.mp q
        have q3 : i.toInt < 0 := q2
        omega
      have g2 : i < 96 := by
        refine Int32.lt_iff_toInt_lt.mpr ?_
        show i.toInt < 96
        omega
      have g3 : i.toNatClampNeg = I := by
        show i.toInt.toNat = I
        omega
      show (if i < 0 then none else if i < 96 then some (q_chr 1 i.toNatClampNeg) else none) = _
      rw [if_neg g1, if_pos g2, g3]
    refine y_mc2 rfl rfl rfl hz ?_
    obtain ⟨p1, p2, p3⟩ := y_spc1 I hI6
    generalize q_chr 1 I = ch at p1 p2 p3
    refine y_run 3 rfl ?_
    refine y_ic rfl (fun h3 => ?_) (fun h3 => ?_)
    · have h4 : ch.toInt = 32 := h3
      have e1 := p1 h4
      have e3 := p3 h4
      refine y_run 4 rfl ?_
      refine y_if rfl (fun _ => ?_) (fun _ => ?_)
      · have hw1 : (w + (Int32.ofInt 1)).toInt = w.toInt + 1 := y_add (x := w) (y := 1) (by show _ ≤ _ + (1 : Int); omega) (by show _ + (1 : Int) ≤ _; omega)
        refine y_run 4 rfl ?_
        refine y_run 1 rfl ?_
        refine y_sub (ls1 := [(0, .inr (.inr 29)), (1, .inl ((w + (Int32.ofInt 1)))), (2, .inr (.inl (0))), (4, .inl ((i + (Int32.ofInt 1))))]) (show ([0, 1, 2, 4] : List Nat).Nodup by decide) (y_R_cons rfl (y_R_cons rfl (y_R_cons rfl (y_R_cons rfl y_R_nil)))) ?_
        exact ih (i + (Int32.ofInt 1)) (w + (Int32.ofInt 1)) 0 (I + 1) (by rw [hi1, hi]; omega) (by omega) (by omega) (by rw [hw1, hw, e1]; omega) (by omega)
      · refine y_run 1 rfl ?_
        exact y_iret rfl ⟨rfl, _, rfl, by omega, by omega⟩
    · have h4 : ch.toInt ≠ 32 := h3
      have e2 := p2 h4
      refine y_run 14 rfl ?_
      refine y_sub (ls1 := [(0, .inr (.inr 29)), (1, .inl w), (2, .inr (.inl ((l * 32 + (ch - Int32.ofInt 97 + Int32.ofInt 1).toInt64)))), (4, .inl ((i + (Int32.ofInt 1))))]) (show ([0, 1, 2, 4] : List Nat).Nodup by decide) (y_R_cons rfl (y_R_cons rfl (y_R_cons rfl (y_R_cons rfl y_R_nil)))) ?_
      exact ih (i + (Int32.ofInt 1)) w _ (I + 1) (by rw [hi1, hi]; omega) (by omega) (by omega) (by rw [hw, e2]) (by omega)
theorem y_kindOfWord : y_C g_sh g_ts 112 1 (fun a _ => a = [.inr (.inr 29)]) (fun _ s v s2 => y_kwQ s v s2) := by
  refine y_C.of (t := g_t112) rfl (by decide) ?_
  rintro d a s hd rfl
  refine y_run 6 rfl ?_
  refine y_sub (ls1 := [(0, .inr (.inr 29)), (1, .inl ((Int32.ofInt 256))), (2, .inr (.inl (0))), (4, .inl ((Int32.ofInt 0)))]) (show ([0, 1, 2, 4] : List Nat).Nodup by decide) (y_R_cons rfl (y_R_cons rfl (y_R_cons rfl (y_R_cons rfl y_R_nil)))) ?_
  exact y_kw_loop 96 (Int32.ofInt 0) (Int32.ofInt 256) 0 0 rfl (by omega) (by omega) rfl (by decide)
/-! advance -/
theorem y_ixo8 : ∀ c, c < 256 → -1 ≤ (q_ixo ((Int32.ofNat c).toUInt32 % 65536).toInt32).toInt := by decide +kernel
abbrev y_adK : List (Nat × Nat) := [(110658, 110662), (110664, 110665)]
abbrev y_eByt (V : w_V) : Prop := w_Ent V g_sh g_ts (151, [w_r 3, w_t 0], [], [], [([], some (w_g 2147483647 2147483903 0), [])], 1)
abbrev y_eBlk (V : w_V) : Prop := w_Ent V g_sh g_ts (108, [w_g 2147483647 2147483903 0], [], [], [([(0, (2147483658, 2147483680))], some (w_n 1 1 0), []), ([], some (w_n 0 0 0), [])], 1)
abbrev y_eLet (V : w_V) : Prop := w_Ent V g_sh g_ts (110, [w_n 0 255 0], [], [], [([], some (w_n 0 0 0), []), ([(0, (2147483745, 2147483770))], some (w_n 1 1 0), [])], 1)
abbrev y_eDig (V : w_V) : Prop := w_Ent V g_sh g_ts (109, [w_n 0 255 0], [], [], [([], some (w_n 0 0 0), []), ([(0, (2147483696, 2147483705))], some (w_n 1 1 0), [])], 1)
abbrev y_eTkW (V : w_V) (K : List (Nat × Nat)) (M : w_U) : Prop := y_inc K y_adK = true ∧ (y_ex g_sh M = true ∧ w_Ent V g_sh g_ts (129, [w_r 29], [], K, [([], none, M)], 2))
abbrev y_eTkN (V : w_V) (K : List (Nat × Nat)) (M : w_U) : Prop := y_inc K y_adK = true ∧ (y_ex g_sh M = true ∧ w_Ent V g_sh g_ts (128, [w_r 29], [], K, [([], none, M)], 2))
abbrev y_eRef (V : w_V) (K : List (Nat × Nat)) (M : w_U) : Prop := y_inc K y_adK = true ∧ (y_ex g_sh M = true ∧ w_Ent V g_sh g_ts (127, [w_r 29, w_n 1 5 0], [], K, [([], none, M)], 1))
def y_adQ (V : w_V) (s : y_H) (v : Option (q_V Int32)) (s2 : y_H) : Prop := v = none ∧ w_T V g_sh (y_mk g_sh s2) ∧ y_fr g_sh y_adK s s2
section ADV
variable {V : w_V} {KW KN KR : List (Nat × Nat)} {MW MN MR : w_U}
theorem y_call01 {d : Nat} {t : q_T} {Q0 : Option (q_V Int32) → y_H → Prop} {p : Nat} {ls : q_U Int32} {st st2 a : List (q_V Int32)} {s : y_H} {k D na ml len : Nat} {x : List Nat} {ins : Jvm.ClassFile.Instr} {as : List w_A} {l1 l2 : List (Nat × q_J)} {b1 b2 : Nat} (hb : b1 ≤ 1 ∧ b2 ≤ 1) (hE : w_Ent V g_sh g_ts (k, as, [], [], [(l1, some (w_n b1 b1 0), []), (l2, some (w_n b2 b2 0), [])], D)) (sv : Nat) (hq : q_get t p = some (ins, len, k :: na :: ml :: x)) (hins : ∀ cal h ns, q_act q_O32 none cal ins len (k :: na :: ml :: x) (p, ls, st) h ns = q_inv cal sv (k :: na :: ml :: x) len (p, ls, st) h ns) (htk : q_take na st [] = some (a, st2)) (hc : (Nat.ble (q_cats st2) 8 && Nat.ble (q_cats a) ml) = true) (hm : ∀ h, w_Rep g_sh h (y_mk g_sh s) → q_may sv x a h = true) (hd : D ≤ d) (hT : w_T V g_sh (y_mk g_sh s)) (ha : w_sts [] (y_mk g_sh s) (as.map w_kz) a) (hw : ∀ z : Int32, y_W g_sh g_ts d t Q0 (p + len) ls (.inl z :: st2) s) : y_W g_sh g_ts d t Q0 p ls st s := by
  refine y_callE hE rfl sv hq hins htk hc hm hd hT ha (fun v hv => ?_)
  obtain ⟨q, hq, ho⟩ := hv
  have e : q = (l1, some (w_n b1 b1 0), []) ∨ q = (l2, some (w_n b2 b2 0), []) := by simpa using hq
  rcases e with rfl | rfl
  · obtain ⟨z, rfl, -, -⟩ := y_ans ho
    exact hw z
  · obtain ⟨z, rfl, -, -⟩ := y_ans ho
    exact hw z
theorem y_ad_loop {d : Nat} {Q : Option (q_V Int32) → y_H → Prop} {s0 : y_H} (hby : y_eByt V) (hbl : y_eBlk V) (hd : 1 ≤ d) (hexit : ∀ (s : y_H) (ls : q_U Int32), w_T V g_sh (y_mk g_sh s) → y_fr g_sh y_adK s0 s → q_at ls 0 = some (.inr (.inr 29)) → y_W g_sh g_ts d g_t105 Q 42 ls [] s) : ∀ (c : Nat) (s : y_H) (i : Int32) (I : Nat), i.toInt = (I : Int) → I ≤ 1600 → 1600 - I ≤ c → w_T V g_sh (y_mk g_sh s) → y_fr g_sh y_adK s0 s → y_W g_sh g_ts d g_t105 Q 2 [(0, .inr (.inr 29)), (1, .inl i)] [] s := by
  intro c
  induction c with
  | zero =>
    intro s i I hi hI hc hT hf
    refine y_run 2 rfl ?_
    refine y_ic rfl (fun _ => hexit s _ hT hf rfl) (fun h => ?_)
    have h2 : ¬ (1600 : Int) ≤ i.toInt := h
    omega
  | succ c ih =>
    intro s i I hi hI hc hT hf
    have hi1 : (i + (Int32.ofInt 1)).toInt = i.toInt + 1 := y_add (x := i) (y := 1) (by show _ ≤ _ + (1 : Int); omega) (by show _ + (1 : Int) ≤ _; omega)
    refine y_run 2 rfl ?_
    refine y_ic rfl (fun _ => hexit s _ hT hf rfl) (fun h => ?_)
    have h2 : ¬ (1600 : Int) ≤ i.toInt := h
    refine y_run 4 rfl ?_
    refine y_callE hby rfl 1 rfl (fun _ _ _ => rfl) (a := [.inr (.inr 3), .inl ((s.1 27 2))]) rfl rfl (fun h hR => y_mayV (o := 1) (sz := 2) rfl hR) hd hT ⟨⟨3, rfl, List.mem_cons_self⟩, y_ivall, True.intro⟩ (fun v hv => ?_)
    obtain ⟨q, hq, ho⟩ := hv
    have e : q = ([], some (w_g 2147483647 2147483903 0), []) := by simpa using hq
    subst e
    obtain ⟨b, rfl, b1, b2⟩ := y_ans ho
    refine y_call01 (by omega) hbl 0 rfl (fun _ _ _ => rfl) (a := [.inl b]) rfl rfl (fun _ _ => rfl) hd hT ⟨y_iv (by omega) (by omega), True.intro⟩ (fun z => ?_)
    refine y_if rfl (fun _ => hexit s _ hT hf rfl) (fun _ => ?_)
    have bw := y_b32 (s.1 27 2 + (Int32.ofInt 1))
    have t1 := y_Tup (lo := 0) (hi := 4294967295) (g := 0) (o := 27) (k := 2) (x := s.1 27 2 + (Int32.ofInt 1)) hT rfl rfl (by decide +kernel) (by omega) (by omega)
    have f1 := hf.up (o := 27) (k := 2) (v := .inl (s.1 27 2 + (Int32.ofInt 1))) rfl (by decide +kernel)
    refine y_run 6 rfl ?_
    show y_W g_sh g_ts d g_t105 Q 36 [(0, .inr (.inr 29)), (1, .inl i)] [] (y_up s 27 2 (.inl (s.1 27 2 + (Int32.ofInt 1))))
    revert t1 f1
    generalize y_up s 27 2 (.inl (s.1 27 2 + (Int32.ofInt 1))) = s1
    intro t1 f1
    refine y_run 2 rfl ?_
    refine y_sub (ls1 := [(0, .inr (.inr 29)), (1, .inl ((i + (Int32.ofInt 1))))]) (show ([0, 1] : List Nat).Nodup by decide) (y_R_cons rfl (y_R_cons rfl y_R_nil)) ?_
    exact ih s1 (i + (Int32.ofInt 1)) (I + 1) (by rw [hi1, hi]; omega) (by omega) (by omega) t1 f1
theorem y_advance (hby : y_eByt V) (hbl : y_eBlk V) (hle : y_eLet V) (hdi : y_eDig V) (htw : y_eTkW V KW MW) (htn : y_eTkN V KN MN) (hre : y_eRef V KR MR) : y_C g_sh g_ts 105 21 (fun a s => w_T V g_sh (y_mk g_sh s) ∧ a = [.inr (.inr 29)]) (fun _ s v s2 => y_adQ V s v s2) := by
  refine y_C.of (t := g_t105) rfl (by decide) ?_
  rintro d a s hd ⟨hT, rfl⟩
  refine y_run 2 rfl ?_
  refine y_sub (ls1 := [(0, .inr (.inr 29)), (1, .inl ((Int32.ofInt 0)))]) (show ([0, 1] : List Nat).Nodup by decide) (y_R_cons rfl (y_R_cons rfl y_R_nil)) ?_
  refine y_ad_loop (s0 := s) hby hbl (by omega) (fun s1 ls hT1 hf1 l0 => ?_) 1600 s (Int32.ofInt 0) 0 rfl (by omega) (by omega) hT y_fr.rf
  refine y_sub (ls1 := [(0, .inr (.inr 29))]) (show ([0] : List Nat).Nodup by decide) (y_R_cons l0 y_R_nil) ?_
  have bw := y_b32 (s1.1 27 2)
  have t2 := y_Tup (lo := 0) (hi := 4294967295) (g := 0) (o := 27) (k := 3) (x := s1.1 27 2) hT1 rfl rfl (by decide +kernel) (by omega) (by omega)
  have f2 := hf1.up (o := 27) (k := 3) (v := .inl (s1.1 27 2)) rfl (by decide +kernel)
  refine y_run 4 rfl ?_
  show y_W g_sh g_ts d g_t105 (y_adQ V s) 50 [(0, .inr (.inr 29))] [] (y_up s1 27 3 (.inl (s1.1 27 2)))
  revert t2 f2
  generalize y_up s1 27 3 (.inl (s1.1 27 2)) = s2
  intro t2 f2
  refine y_run 4 rfl ?_
  refine y_callE hby rfl 1 rfl (fun _ _ _ => rfl) (a := [.inr (.inr 3), .inl ((s2.1 27 2))]) rfl rfl (fun h hR => y_mayV (o := 1) (sz := 2) rfl hR) (by omega) t2 ⟨⟨3, rfl, List.mem_cons_self⟩, y_ivall, True.intro⟩ (fun v hv => ?_)
  obtain ⟨q, hq, ho⟩ := hv
  have e : q = ([], some (w_g 2147483647 2147483903 0), []) := by simpa using hq
  subst e
  obtain ⟨b, rfl, b1, b2⟩ := y_ans ho
  -- what is the end of all
  have fin : ∀ (s3 : y_H) (ls : q_U Int32), w_T V g_sh (y_mk g_sh s3) → y_fr g_sh y_adK s s3 → y_W g_sh g_ts d g_t105 (y_adQ V s) 163 ls [] s3 := fun s3 ls hT3 hf3 => y_vret rfl ⟨rfl, hT3, hf3⟩
  have setK : ∀ (s3 : y_H) (x : Int32), w_T V g_sh (y_mk g_sh s3) → y_fr g_sh y_adK s s3 → 0 ≤ x.toInt → x.toInt ≤ 276 → w_T V g_sh (y_mk g_sh (y_up s3 27 4 (.inl x))) ∧ y_fr g_sh y_adK s (y_up s3 27 4 (.inl x)) := fun s3 x hT3 hf3 h0 h1 => ⟨y_Tup (lo := 2147483648) (hi := 2147483924) (g := 0) (o := 27) (k := 4) (x := x) hT3 rfl rfl (by decide +kernel) (by omega) (by omega), hf3.up (o := 27) (k := 4) (v := .inl x) rfl (by decide +kernel)⟩
  refine y_run 3 rfl ?_
  refine y_ic rfl (fun hne => ?_) (fun heq => ?_)
  rotate_left
  · obtain ⟨q1, q2⟩ := setK s2 (Int32.ofInt 275) t2 f2 (show (0 : Int) ≤ 275 by omega) (show (275 : Int) ≤ 276 by omega)
    refine y_run 4 rfl ?_
    exact fin _ _ q1 q2
  have hne2 : b.toInt ≠ -1 := hne
  refine y_sub (ls1 := [(0, .inr (.inr 29)), (1, .inl b)]) (show ([0, 1] : List Nat).Nodup by decide) (y_R_cons rfl (y_R_cons rfl y_R_nil)) ?_
  refine y_run 1 rfl ?_
  refine y_call01 (by omega) hle 0 rfl (fun _ _ _ => rfl) (a := [.inl b]) rfl rfl (fun _ _ => rfl) (by omega) t2 ⟨y_iv (by omega) (by omega), True.intro⟩ (fun z => ?_)
  refine y_if rfl (fun _ => ?_) (fun _ => ?_)
  · refine y_run 1 rfl ?_
    refine y_call01 (by omega) hdi 0 rfl (fun _ _ _ => rfl) (a := [.inl b]) rfl rfl (fun _ _ => rfl) (by omega) t2 ⟨y_iv (by omega) (by omega), True.intro⟩ (fun z => ?_)
    refine y_if rfl (fun _ => ?_) (fun _ => ?_)
    · refine y_mc2 (j := 5) (i := 1) (z := q_ixo (b.toUInt32 % 65536).toInt32) rfl rfl rfl rfl ?_
      refine y_if rfl (fun _ => ?_) (fun _ => ?_)
      · refine y_run 2 rfl ?_
        refine y_callN hre.2 1 rfl (fun _ _ _ => rfl) (a := [.inr (.inr 29), .inl ((Int32.ofInt 1))]) rfl rfl (fun h hR => y_mayV (o := 27) (sz := 10) rfl hR) (by omega) t2 ⟨⟨29, rfl, List.mem_cons_self⟩, y_iv (show _ ≤ (1 : Int) by omega) (show (1 : Int) ≤ _ by omega), True.intro⟩ (fun s3 hT3 hf3 => ?_)
        exact fin _ _ hT3 (f2.tr (hf3.mono hre.1))
      · obtain ⟨q1, q2⟩ := setK s2 b t2 f2 (by omega) (by omega)
        refine y_run 3 rfl ?_
        show y_W g_sh g_ts d g_t105 (y_adQ V s) 145 [(0, .inr (.inr 29)), (1, .inl b)] [] (y_up s2 27 4 (.inl b))
        revert q1 q2
        generalize y_up s2 27 4 (.inl b) = s3
        intro q1 q2
        have bw3 := y_b32 (s3.1 27 2 + (Int32.ofInt 1))
        have t4 := y_Tup (lo := 0) (hi := 4294967295) (g := 0) (o := 27) (k := 2) (x := s3.1 27 2 + (Int32.ofInt 1)) q1 rfl rfl (by decide +kernel) (by omega) (by omega)
        have f4 := q2.up (o := 27) (k := 2) (v := .inl (s3.1 27 2 + (Int32.ofInt 1))) rfl (by decide +kernel)
        refine y_run 7 rfl ?_
        exact fin _ _ t4 f4
    · refine y_run 1 rfl ?_
      refine y_callN htn.2 1 rfl (fun _ _ _ => rfl) (a := [.inr (.inr 29)]) rfl rfl (fun h hR => y_mayV (o := 27) (sz := 10) rfl hR) (by omega) t2 ⟨⟨29, rfl, List.mem_cons_self⟩, True.intro⟩ (fun s3 hT3 hf3 => ?_)
      refine y_run 1 rfl ?_
      exact fin _ _ hT3 (f2.tr (hf3.mono htn.1))
  · refine y_run 1 rfl ?_
    refine y_callN htw.2 1 rfl (fun _ _ _ => rfl) (a := [.inr (.inr 29)]) rfl rfl (fun h hR => y_mayV (o := 27) (sz := 10) rfl hR) (by omega) t2 ⟨⟨29, rfl, List.mem_cons_self⟩, True.intro⟩ (fun s3 hT3 hf3 => ?_)
    have f3 := f2.tr (hf3.mono htw.1)
    have last : ∀ x : Int32, 0 ≤ x.toInt → x.toInt ≤ 276 → y_W g_sh g_ts d g_t105 (y_adQ V s) 110 [(0, .inr (.inr 29)), (1, .inl b)] [.inl x, .inr (.inr 29)] s3 := by
      intro x h0 h1
      obtain ⟨q1, q2⟩ := setK s3 x hT3 f3 h0 h1
      refine y_run 2 rfl ?_
      exact fin _ _ q1 q2
    refine y_run 4 rfl ?_
    refine y_ic rfl (fun _ => ?_) (fun _ => ?_)
    · have r4 := y_rng (lo := 2147483648) (hi := 2147483924) (g := 0) hT3 (o := 27) (k := 4) rfl rfl
      refine y_run 2 rfl ?_
      exact last (s3.1 27 4) (by omega) (by omega)
    · refine y_run 1 rfl ?_
      refine y_call y_kindOfWord 1 rfl (fun _ _ _ => rfl) (a := [.inr (.inr 29)]) rfl rfl (fun h hR => y_mayV (o := 27) (sz := 10) rfl hR) (by omega) rfl (fun v s4 hQ => ?_)
      obtain ⟨rfl, x, rfl, x1, x2⟩ := hQ
      refine y_run 1 rfl ?_
      exact last x (by omega) (by omega)
theorem y_advanceE (hby : y_eByt V) (hbl : y_eBlk V) (hle : y_eLet V) (hdi : y_eDig V) (htw : y_eTkW V KW MW) (htn : y_eTkN V KN MN) (hre : y_eRef V KR MR) : w_Ent V g_sh g_ts (105, [w_r 29], [], [(110658, 110662), (110664, 110665)], [([], none, [])], 21) := by
  refine y_C.toE g_shok g_pkok rfl ?_
  refine y_C.weak (y_advance hby hbl hle hdi htw htn hre) (Nat.le_refl 21) ?_ ?_
  · rintro a s ⟨hT, ha, hM⟩
    rcases a with _ | ⟨v1, _ | ⟨v2, a⟩⟩
    · exact ha.elim
    · obtain ⟨⟨n1, rfl, h1⟩, -⟩ := ha
      have e1 : n1 = 29 := by simpa using h1
      subst e1
      exact ⟨hT, rfl⟩
    · exact ha.2.elim
  · rintro a s v s2 - ⟨rfl, hT2, hf2⟩
    exact ⟨hT2, hf2, _, List.mem_cons_self, (fun z hz => by cases hz), True.intro, (fun q hq => by cases hq)⟩
end ADV
