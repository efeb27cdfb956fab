/-! by hand: the model's lengthOf, where its steps are a well-formed row (D: how many values lie before each step) -/
def y_FD (D : Nat → Nat) (g : Nat → Nat → Int32) : Prop := D 0 = 0 ∧ (g 65 18).toInt ≤ 320 ∧ ∀ i : Nat, (i : Int) < (g 65 18).toInt → D i ≤ 64 ∧ ((g 70 i).toInt = 0 → D i < 64 ∧ D (i + 1) = D i + 1) ∧ ((g 70 i).toInt = 1 → D i < 64 ∧ D (i + 1) = D i + 1 ∧ 0 ≤ (g 71 i).toInt ∧ (g 71 i).toInt ≤ 5) ∧ ((g 70 i).toInt = 2 → 1 ≤ D i ∧ D (i + 1) = D i) ∧ ((g 70 i).toInt = 3 → 2 ≤ D i ∧ D (i + 1) + 1 = D i)
abbrev y_lm : List (Nat × Nat) := [(299072, 299135), (303168, 303173)]
/-- what is kept while a length is counted -/
def y_LG (V : w_V) (D : Nat → Nat) (s0 s : y_H) : Prop := w_T V g_sh (y_mk g_sh s) ∧ y_FD D s.1 ∧ y_fr g_sh y_lm s0 s
theorem y_idiv {sh : w_Sh} {ts : List q_T} {d : Nat} {t : q_T} {Q : Option (q_V Int32) → y_H → Prop} {p : Nat} {ls : q_U Int32} {st : List (q_V Int32)} {s : y_H} {len : Nat} {r : List Nat} {x y : Int32} (hq : q_get t p = some (.idiv, len, r)) (hy : y.toInt ≠ 0) (hw : y_W sh ts d t Q (p + len) ls (.inl (x / y) :: st) s) : y_W sh ts d t Q p ls (.inl y :: .inl x :: st) s := by
  refine y_W.step (fun h ns hR => ⟨0, h, ?_, hR⟩) hw
  have hy0 : y ≠ 0 := fun e => by subst e; exact hy rfl
  unfold q_step
  dsimp only
  rw [hq]
  show q_b2 q_O32 9 len (p, ls, .inl y :: .inl x :: st) h ns = _
  unfold q_b2
  dsimp only
  rw [show q_O32.2.1 9 x y = some (x / y) from if_neg hy0]
  rfl
theorem y_dec1 {n : Int32} (h : 0 ≤ n.toInt) : ∃ n', n' = n + Int32.ofInt (-1) ∧ n'.toInt = n.toInt - 1 := by
  refine ⟨_, rfl, ?_⟩
  have hb := y_toIntB n
  have e8 : (Int32.ofInt (-1)).toInt = -1 := by decide
  rw [y_add (by rw [e8]; omega) (by rw [e8]; omega), e8]
  omega
section LEN
variable {V : w_V} {D : Nat → Nat} {d : Nat} {t : q_T} {Q : Option (q_V Int32) → y_H → Prop} {p : Nat} {ls : q_U Int32} {st : List (q_V Int32)} {s0 s : y_H}
/-- a value into asks -/
theorem y_askst {r : List Nat} {x v : Int32} {j : Nat} (hG : y_LG V D s0 s) (hq : q_get t p = some (.iastore, 1, r)) (hx : x.toInt = (j : Int)) (hj : j < 6) (hw : ∀ s2, y_LG V D s0 s2 → y_W g_sh g_ts d t Q (p + 1) ls st s2) : y_W g_sh g_ts d t Q p ls (.inl v :: .inl x :: .inr (.inr 76) :: st) s := by
  obtain ⟨hT, hF, hf⟩ := hG
  have hkd : y_kd g_sh 74 j = 0 := y_kdA (tag := 100) (sz := 6) (a := ((0, 4294967295), 0)) rfl
  refine y_ast (o := 74) (sz := 6) (j := j) hq rfl hx hj hkd (hw _ ⟨?_, hF, hf.up hkd (y_msA (sz := 6) (by decide +kernel) hj)⟩)
  have hb := y_toIntB v
  exact y_Tup (lo := 0) (hi := 4294967295) (g := 0) hT (o := 74) (k := j) (x := v) (y_tyA (tag := 100) (sz := 6) (A := .inl ((0, 4294967295), 0)) rfl hj) hkd (y_pkA (sz := 6) (by decide +kernel) hj) (by omega) (by omega)
/-- a value into values -/
theorem y_valst {r : List Nat} {x v : Int32} {j : Nat} (hG : y_LG V D s0 s) (hq : q_get t p = some (.iastore, 1, r)) (hx : x.toInt = (j : Int)) (hj : j < 64) (hw : ∀ s2, y_LG V D s0 s2 → s2.1 65 18 = s.1 65 18 → (∀ i, s2.1 70 i = s.1 70 i) → y_W g_sh g_ts d t Q (p + 1) ls st s2) : y_W g_sh g_ts d t Q p ls (.inl v :: .inl x :: .inr (.inr 75) :: st) s := by
  obtain ⟨hT, hF, hf⟩ := hG
  have hkd : y_kd g_sh 73 j = 0 := y_kdA (tag := 100) (sz := 64) (a := ((0, 4294967295), 0)) rfl
  refine y_ast (o := 73) (sz := 64) (j := j) hq rfl hx hj hkd (hw _ ⟨?_, hF, hf.up hkd (y_msA (sz := 64) (by decide +kernel) hj)⟩ rfl (fun _ => rfl))
  have hb := y_toIntB v
  exact y_Tup (lo := 0) (hi := 4294967295) (g := 0) hT (o := 73) (k := j) (x := v) (y_tyA (tag := 100) (sz := 64) (A := .inl ((0, 4294967295), 0)) rfl hj) hkd (y_pkA (sz := 64) (by decide +kernel) hj) (by omega) (by omega)
theorem y_valld {r : List Nat} {x : Int32} {j : Nat} (hq : q_get t p = some (.iaload, 1, r)) (hx : x.toInt = (j : Int)) (hj : j < 64) (hw : ∀ v : Int32, y_W g_sh g_ts d t Q (p + 1) ls (.inl v :: st) s) : y_W g_sh g_ts d t Q p ls (.inl x :: .inr (.inr 75) :: st) s :=
  y_ald (o := 73) (sz := 64) (j := j) hq rfl hx hj (y_kdA (tag := 100) (sz := 64) (a := ((0, 4294967295), 0)) rfl) (hw _)
theorem y_stepld {r : List Nat} {x : Int32} {j : Nat} (hq : q_get t p = some (.iaload, 1, r)) (hx : x.toInt = (j : Int)) (hj : j < 320) (hw : y_W g_sh g_ts d t Q (p + 1) ls (.inl (s.1 70 j) :: st) s) : y_W g_sh g_ts d t Q p ls (.inl x :: .inr (.inr 72) :: st) s :=
  y_ald (o := 70) (sz := 320) (j := j) hq rfl hx hj (y_kdA (tag := 100) (sz := 320) (a := ((2147483648, 2147483651), 0)) rfl) hw
theorem y_argld {r : List Nat} {x : Int32} {j : Nat} (hq : q_get t p = some (.iaload, 1, r)) (hx : x.toInt = (j : Int)) (hj : j < 320) (hw : y_W g_sh g_ts d t Q (p + 1) ls (.inl (s.1 71 j) :: st) s) : y_W g_sh g_ts d t Q p ls (.inl x :: .inr (.inr 73) :: st) s :=
  y_ald (o := 71) (sz := 320) (j := j) hq rfl hx hj (y_kdA (tag := 100) (sz := 320) (a := ((0, 4294967295), 0)) rfl) hw
end LEN
/-- the steps' loop -/
theorem y_len_loop {V : w_V} {D : Nat → Nat} {d : Nat} {Q : Option (q_V Int32) → y_H → Prop} {s0 : y_H} {pr : Int32} (hd : 2 ≤ d) (h0 : w_Ent V g_sh g_ts (313, [w_n 0 0 0], [], [], [([], some (w_n 0 0 0), [])], 1)) (h1 : w_Ent V g_sh g_ts (313, [w_n 1 1 0], [], [], [([], some (w_n 1 1 0), [])], 1)) (hdone : w_Ent V g_sh g_ts (196, [w_t 0, w_t 0, w_t 0], [], [], [([], some (w_t 0), [])], 2)) (hexit : ∀ (s : y_H) (v : Int32), y_LG V D s0 s → y_W g_sh g_ts d g_t250 Q 260 [(0, .inr (.inr 67)), (1, .inl pr), (3, .inl v)] [] s) : ∀ (m : Nat) (s : y_H) (v n i : Int32) (I : Nat), y_LG V D s0 s → i.toInt = (I : Int) → n.toInt = (D I : Int) → (I : Int) ≤ 320 → (s.1 65 18).toInt - (I : Int) ≤ (m : Int) → D I ≤ 64 → y_W g_sh g_ts d g_t250 Q 98 [(0, .inr (.inr 67)), (1, .inl pr), (3, .inl v), (4, .inl n), (5, .inl i)] [] s := by
  intro m
  induction m with
  | zero =>
    intro s v n i I hG hi hn _ hm hDI
    refine y_run 3 rfl ?_
    refine y_ic rfl (fun _ => ?_) (fun h => ?_)
    · exact y_sub (ls1 := [(0, .inr (.inr 67)), (1, .inl pr), (3, .inl v)]) (show ([0, 1, 3] : List Nat).Nodup by decide) (y_R_cons rfl (y_R_cons rfl (y_R_cons rfl y_R_nil))) (hexit s v hG)
    · have h2 : ¬ (s.1 65 18).toInt ≤ i.toInt := h
      omega
  | succ m ih =>
    intro s v n i I hG hi hn hI hm hDI
    obtain ⟨hT, hF, hf⟩ := id hG
    refine y_run 3 rfl ?_
    refine y_ic rfl (fun _ => ?_) (fun h => ?_)
    · exact y_sub (ls1 := [(0, .inr (.inr 67)), (1, .inl pr), (3, .inl v)]) (show ([0, 1, 3] : List Nat).Nodup by decide) (y_R_cons rfl (y_R_cons rfl (y_R_cons rfl y_R_nil))) (hexit s v hG)
    have h2 : ¬ (s.1 65 18).toInt ≤ i.toInt := h
    obtain ⟨-, hN, hall⟩ := id hF
    obtain ⟨c0, c1, c2, c3, c4⟩ := hall I (by omega)
    have hI320 : I < 320 := by omega
    have hst := y_rng (lo := 2147483648) (hi := 2147483651) (g := 0) hT (o := 70) (k := I) (y_tyA (tag := 100) (sz := 320) (A := .inl ((2147483648, 2147483651), 0)) rfl hI320) (y_kdA (tag := 100) (sz := 320) (a := ((2147483648, 2147483651), 0)) rfl)
    have hi1 : (i + 1).toInt = i.toInt + 1 := y_add (x := i) (y := 1) (by show _ ≤ _ + (1 : Int); omega) (by show _ + (1 : Int) ≤ _; omega)
    -- behind the step
    have next : ∀ (s2 : y_H) (n2 : Int32), y_LG V D s0 s2 → s2.1 65 18 = s.1 65 18 → n2.toInt = (D (I + 1) : Int) → D (I + 1) ≤ 64 → y_W g_sh g_ts d g_t250 Q 254 [(0, .inr (.inr 67)), (1, .inl pr), (3, .inl v), (4, .inl n2), (5, .inl i)] [] s2 := by
      intro s2 n2 hG2 e18 hn2 hD2
      refine y_run 2 rfl ?_
      refine y_sub (ls1 := [(0, .inr (.inr 67)), (1, .inl pr), (3, .inl v), (4, .inl n2), (5, .inl (i + 1))]) (show ([0, 1, 3, 4, 5] : List Nat).Nodup by decide) (y_R_cons rfl (y_R_cons rfl (y_R_cons rfl (y_R_cons rfl (y_R_cons rfl y_R_nil))))) ?_
      refine ih s2 v n2 (i + 1) (I + 1) hG2 (by rw [hi1, hi]; omega) hn2 (by omega) (by rw [e18]; omega) hD2
    have push : ((s.1 70 I).toInt = 0 ∨ (s.1 70 I).toInt = 1) → y_W g_sh g_ts d g_t250 Q 128 [(0, .inr (.inr 67)), (1, .inl pr), (3, .inl v), (4, .inl n), (5, .inl i)] [] s := by
      intro hs
      have hD : D I < 64 ∧ D (I + 1) = D I + 1 := by
        rcases hs with hs | hs
        · exact c1 hs
        · exact ⟨(c2 hs).1, (c2 hs).2.1⟩
      have hn1 : (n + 1).toInt = n.toInt + 1 := y_add (x := n) (y := 1) (by show _ ≤ _ + (1 : Int); omega) (by show _ + (1 : Int) ≤ _; omega)
      have store : ∀ w : Int32, y_W g_sh g_ts d g_t250 Q 166 [(0, .inr (.inr 67)), (1, .inl pr), (3, .inl v), (4, .inl n), (5, .inl i)] [.inl w, .inl n, .inr (.inr 75)] s := by
        intro w
        refine y_valst hG rfl hn hD.1 (fun s2 hG2 e18 _ => ?_)
        refine y_run 2 rfl ?_
        refine y_sub (ls1 := [(0, .inr (.inr 67)), (1, .inl pr), (3, .inl v), (4, .inl (n + 1)), (5, .inl i)]) (show ([0, 1, 3, 4, 5] : List Nat).Nodup by decide) (y_R_cons rfl (y_R_cons rfl (y_R_cons rfl (y_R_cons rfl (y_R_cons rfl y_R_nil))))) ?_
        exact next s2 (n + 1) hG2 e18 (by rw [hn1, hn, hD.2]; omega) (by omega)
      refine y_run 6 rfl ?_
      refine y_stepld rfl hi hI320 ?_
      refine y_if rfl (fun hx => ?_) (fun hx => ?_)
      · have hx2 : (s.1 70 I).toInt ≠ 0 := hx
        have hs1 : (s.1 70 I).toInt = 1 := by omega
        obtain ⟨-, -, g1, g2⟩ := c2 hs1
        refine y_run 5 rfl ?_
        refine y_argld rfl hi hI320 ?_
        refine y_ald (o := 74) (sz := 6) (j := (s.1 71 I).toInt.toNat) rfl rfl (by omega) (by omega) (y_kdA (tag := 100) (sz := 6) (a := ((0, 4294967295), 0)) rfl) ?_
        exact store _
      · refine y_run 3 rfl ?_
        refine y_argld rfl hi hI320 ?_
        refine y_run 1 rfl ?_
        exact store _
    refine y_run 3 rfl ?_
    refine y_stepld rfl hi hI320 ?_
    refine y_if rfl (fun hx => push (Or.inl hx)) (fun hx => ?_)
    have hx0 : ¬ (s.1 70 I).toInt = 0 := hx
    refine y_run 3 rfl ?_
    refine y_stepld rfl hi hI320 ?_
    refine y_run 1 rfl ?_
    refine y_ic rfl (fun hx => ?_) (fun hx => push (Or.inr (Classical.byContradiction fun q => hx q)))
    have hx1 : (s.1 70 I).toInt ≠ 1 := hx
    refine y_run 3 rfl ?_
    refine y_stepld rfl hi hI320 ?_
    refine y_run 1 rfl ?_
    have hm1 : 1 ≤ D I → (n - 1).toInt = ((D I - 1 : Nat) : Int) := by
      intro hD
      have : (n - 1).toInt = n.toInt - 1 := y_sb (x := n) (y := 1) (by show _ ≤ _ - (1 : Int); omega) (by show _ - (1 : Int) ≤ _; omega)
      omega
    refine y_ic rfl (fun hx => ?_) (fun hx => ?_)
    · have hx2 : (s.1 70 I).toInt ≠ 2 := hx
      obtain ⟨g1, g2⟩ := c4 (by omega)
      have hn2 := hm1 (by omega)
      obtain ⟨n', en, hn'⟩ := y_dec1 (n := n) (by omega)
      have hn4 : n'.toInt = ((D I - 1 : Nat) : Int) := by omega
      have hn3 : (n' - 1).toInt = ((D I - 2 : Nat) : Int) := by
        have hsb : (n' - 1).toInt = n'.toInt - 1 := y_sb (x := n') (y := 1) (by show _ ≤ _ - (1 : Int); omega) (by show _ - (1 : Int) ≤ _; omega)
        omega
      refine y_run 1 rfl ?_
      refine y_sub (ls1 := [(0, .inr (.inr 67)), (1, .inl pr), (3, .inl v), (4, .inl n'), (5, .inl i)]) (show ([0, 1, 3, 4, 5] : List Nat).Nodup by decide) (y_R_cons rfl (y_R_cons rfl (y_R_cons rfl (y_R_cons (by rw [en]; rfl) (y_R_cons rfl y_R_nil))))) ?_
      refine y_run 8 rfl ?_
      refine y_argld rfl hi hI320 ?_
      refine y_run 5 rfl ?_
      refine y_valld rfl hn3 (by omega) (fun v1 => ?_)
      refine y_run 3 rfl ?_
      refine y_valld rfl hn4 (by omega) (fun v2 => ?_)
      refine y_callE hdone rfl 0 rfl (fun _ _ _ => rfl) (a := [.inl (s.1 71 I), .inl v1, .inl v2]) rfl rfl (fun _ _ => rfl) hd hT ⟨y_ivall, y_ivall, y_ivall, True.intro⟩ (fun vv hv => ?_)
      obtain ⟨q, hq, ho⟩ := hv
      have eq : q = ([], some (w_t 0), []) := by simpa using hq
      subst eq
      obtain ⟨z, rfl, -, -⟩ := y_ans ho
      refine y_valst hG rfl hn3 (by omega) (fun s2 hG2 e18 _ => ?_)
      exact next s2 n' hG2 e18 (by rw [hn4]; omega) (by omega)
    · have hx2 : ¬ (s.1 70 I).toInt ≠ 2 := hx
      obtain ⟨g1, g2⟩ := c3 (by omega)
      have hn2 := hm1 g1
      refine y_run 10 rfl ?_
      refine y_valld rfl hn2 (by omega) (fun v1 => ?_)
      have fin : ∀ w : Int32, y_W g_sh g_ts d g_t250 Q 212 [(0, .inr (.inr 67)), (1, .inl pr), (3, .inl v), (4, .inl n), (5, .inl i)] [.inl w, .inl (n - 1), .inr (.inr 75)] s := by
        intro w
        refine y_valst hG rfl hn2 (by omega) (fun s2 hG2 e18 _ => ?_)
        refine y_run 1 rfl ?_
        exact next s2 n hG2 e18 (by rw [hn, g2]) (by omega)
      refine y_if rfl (fun _ => ?_) (fun _ => ?_)
      · refine y_run 1 rfl ?_
        refine y_callE h0 rfl 0 rfl (fun _ _ _ => rfl) (a := [.inl 0]) rfl rfl (fun _ _ => rfl) (by omega) hT ⟨y_iv (by decide) (by decide), True.intro⟩ (fun vv hv => ?_)
        obtain ⟨q, hq, ho⟩ := hv
        have eq : q = ([], some (w_n 0 0 0), []) := by simpa using hq
        subst eq
        obtain ⟨z, rfl, -, -⟩ := y_ans ho
        exact fin z
      · refine y_run 2 rfl ?_
        refine y_callE h1 rfl 0 rfl (fun _ _ _ => rfl) (a := [.inl 1]) rfl rfl (fun _ _ => rfl) (by omega) hT ⟨y_iv (by decide) (by decide), True.intro⟩ (fun vv hv => ?_)
        obtain ⟨q, hq, ho⟩ := hv
        have eq : q = ([], some (w_n 1 1 0), []) := by simpa using hq
        subst eq
        obtain ⟨z, rfl, -, -⟩ := y_ans ho
        exact fin z
