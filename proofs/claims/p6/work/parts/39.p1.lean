/-! by hand: both ends; the class's State.leave, begin -/
def y_endQ (V : w_V) (o : Nat) (x : Int32) (s : y_H) (v : Option (q_V Int32)) (s2 : y_H) : Prop := w_T V g_sh (y_mk g_sh s2) ∧ ((0 ≤ x.toInt ∧ x.toInt ≤ (s.1 o 1).toInt ∧ v = some (.inl x) ∧ s2 = y_up s o 1 (.inl x)) ∨ (¬ (0 ≤ x.toInt ∧ x.toInt ≤ (s.1 o 1).toInt) ∧ v = some (.inl (Int32.ofInt (-1))) ∧ s2 = s))
theorem y_endM {V : w_V} : y_C g_sh g_ts 198 1 (fun a s => w_T V g_sh (y_mk g_sh s) ∧ ∃ x : Int32, a = [.inr (.inr 67), .inl x]) (fun a s v s2 => ∃ x : Int32, a = [.inr (.inr 67), .inl x] ∧ y_endQ V 65 x s v s2) := by
  refine y_C.of (t := g_t198) rfl (by decide) ?_
  rintro d a s hd ⟨hT, x, rfl⟩
  have hr := y_rng (lo := 2147483648) (hi := 2147485248) (g := 0) hT (o := 65) (k := 1) rfl rfl
  refine y_run 1 rfl ?_
  refine y_if rfl (fun h => ?_) (fun h => ?_)
  · have h2 : x.toInt < 0 := h
    refine y_run 1 rfl ?_
    exact y_iret rfl ⟨x, rfl, hT, Or.inr ⟨by omega, rfl, rfl⟩⟩
  have h2 : ¬ x.toInt < 0 := h
  refine y_run 3 rfl ?_
  refine y_ic rfl (fun h => ?_) (fun h => ?_)
  · have h3 : x.toInt ≤ (s.1 65 1).toInt := h
    refine y_run 4 rfl ?_
    exact y_iret rfl ⟨x, rfl, y_Tup (lo := 2147483648) (hi := 2147485248) (g := 0) (o := 65) (k := 1) (x := x) hT rfl rfl (by decide +kernel) (by omega) (by omega), Or.inl ⟨by omega, by omega, rfl, rfl⟩⟩
  · have h3 : ¬ x.toInt ≤ (s.1 65 1).toInt := h
    refine y_run 1 rfl ?_
    exact y_iret rfl ⟨x, rfl, hT, Or.inr ⟨by omega, rfl, rfl⟩⟩
theorem y_endC {V : w_V} : y_C g_sh g_ts 19 1 (fun a s => w_T V g_sh (y_mk g_sh s) ∧ ∃ x : Int32, a = [.inr (.inr 2), .inl x]) (fun a s v s2 => ∃ x : Int32, a = [.inr (.inr 2), .inl x] ∧ y_endQ V 1 x s v s2) := by
  refine y_C.of (t := g_t19) rfl (by decide) ?_
  rintro d a s hd ⟨hT, x, rfl⟩
  have hr := y_rng (lo := 2147483648) (hi := 2147485248) (g := 0) hT (o := 1) (k := 1) rfl rfl
  refine y_run 1 rfl ?_
  refine y_if rfl (fun h => ?_) (fun h => ?_)
  · have h2 : x.toInt < 0 := h
    refine y_run 1 rfl ?_
    exact y_iret rfl ⟨x, rfl, hT, Or.inr ⟨by omega, rfl, rfl⟩⟩
  have h2 : ¬ x.toInt < 0 := h
  refine y_run 4 rfl ?_
  refine y_ic rfl (fun h => ?_) (fun h => ?_)
  · have h3 : x.toInt ≤ (s.1 1 1).toInt := h
    refine y_run 5 rfl ?_
    exact y_iret rfl ⟨x, rfl, y_Tup (lo := 2147483648) (hi := 2147485248) (g := 0) (o := 1) (k := 1) (x := x) hT rfl rfl (by decide +kernel) (by omega) (by omega), Or.inl ⟨by omega, by omega, rfl, rfl⟩⟩
  · have h3 : ¬ x.toInt ≤ (s.1 1 1).toInt := h
    refine y_run 1 rfl ?_
    exact y_iret rfl ⟨x, rfl, hT, Or.inr ⟨by omega, rfl, rfl⟩⟩
/-! leave -/
def y_lvI (X I : Nat) (s0 s : y_H) : Prop := w_T y_V0 g_sh (y_mk g_sh s) ∧ s.2 = s0.2 ∧ (∀ o k, o ≠ 29 → s.1 o k = s0.1 o k) ∧ (∀ k, k < X → s.1 29 k = s0.1 29 k) ∧ (∀ k, X ≤ k → k < I → s.1 29 k = s0.1 29 (k + 1)) ∧ ∀ k, I ≤ k → s.1 29 k = s0.1 29 k
theorem y_k29 {k : Nat} : y_kd g_sh 29 k = 0 := y_kdA (tag := 100) (sz := 7) (a := ((2147483648, 2147483654), 0)) rfl
theorem y_t29 {k : Nat} (h : k < 7) : w_ty g_sh 29 k = some (.inl ((2147483648, 2147483654), 0)) := y_tyA (tag := 100) (sz := 7) (A := w_n 0 6 0) rfl h
theorem y_k30 {k : Nat} : y_kd g_sh 30 k = 0 := y_kdA (tag := 100) (sz := 7) (a := ((2147483648, 2147483652), 0)) rfl
theorem y_t30 {k : Nat} (h : k < 7) : w_ty g_sh 30 k = some (.inl ((2147483648, 2147483652), 0)) := y_tyA (tag := 100) (sz := 7) (A := w_n 0 4 0) rfl h
theorem y_lev_loop {d : Nat} {s0 : y_H} {Q : Option (q_V Int32) → y_H → Prop} {x : Int32} {X Z : Nat} (hZ : Z ≤ 6) (hz : (s0.1 28 1).toInt = (Z : Int)) (hexit : ∀ s : y_H, y_lvI X Z s0 s → Q none s) : ∀ (c : Nat) (s : y_H) (i : Int32) (I : Nat), i.toInt = (I : Int) → X ≤ I → I ≤ Z → Z - I ≤ c → y_lvI X I s0 s → y_W g_sh g_ts d g_t145 Q 25 [(0, .inr (.inr 30)), (1, .inl x), (2, .inl i)] [] s := by
  intro c
  induction c with
  | zero =>
    intro s i I hi hX hI hc hJ
    have e1 : s.1 28 1 = s0.1 28 1 := hJ.2.2.1 28 1 (by omega)
    refine y_run 3 rfl ?_
    refine y_ic rfl (fun h => ?_) (fun h => ?_)
    · have hE : I = Z := by omega
      subst hE
      exact y_vret rfl (hexit s hJ)
    · have h2 : ¬ (s.1 28 1).toInt ≤ i.toInt := h
      rw [e1] at h2
      omega
  | succ c ih =>
    intro s i I hi hX hI hc hJ
    have e1 : s.1 28 1 = s0.1 28 1 := hJ.2.2.1 28 1 (by omega)
    have hi1 : (i + (Int32.ofInt 1)).toInt = i.toInt + 1 := y_add (x := i) (y := 1) (by show _ ≤ _ + (1 : Int); omega) (by show _ + (1 : Int) ≤ _; omega)
    refine y_run 3 rfl ?_
    refine y_ic rfl (fun h => ?_) (fun h => ?_)
    · have h2 : (s.1 28 1).toInt ≤ i.toInt := h
      rw [e1] at h2
      have hE : I = Z := by omega
      subst hE
      exact y_vret rfl (hexit s hJ)
    have h2 : ¬ (s.1 28 1).toInt ≤ i.toInt := h
    rw [e1] at h2
    have hi2 : (i + (Int32.ofInt 1)).toInt = ((I + 1 : Nat) : Int) := by rw [hi1, hi]; omega
    refine y_run 8 rfl ?_
    refine y_ald (o := 29) (sz := 7) (j := I + 1) rfl rfl hi2 (by omega) y_k29 ?_
    refine y_ast (o := 29) (sz := 7) (j := I) rfl rfl hi (by omega) y_k29 ?_
    have r := y_rng (lo := 2147483648) (hi := 2147483654) (g := 0) hJ.1 (o := 29) (k := I + 1) (y_t29 (by omega)) y_k29
    obtain ⟨j1, j2, j3, j4, j5, j6⟩ := hJ
    have hJ2 : y_lvI X (I + 1) s0 (y_up s 29 I (.inl (s.1 29 (I + 1)))) := by
      refine ⟨y_Tup0 (lo := 2147483648) (hi := 2147483654) j1 (y_t29 (by omega)) y_k29 r.1 r.2, j2, fun o k h => (y_up_ne (by omega)).trans (j3 o k h), fun k hk => (y_up_ne (by omega)).trans (j4 k hk), fun k h1 h2 => ?_, fun k hk => (y_up_ne (by omega)).trans (j6 k (by omega))⟩
      by_cases e : k = I
      · subst e
        exact y_up_self.trans (j6 (k + 1) (by omega))
      · exact (y_up_ne (by omega)).trans (j5 k h1 (by omega))
    refine y_run 2 rfl ?_
    refine y_sub (ls1 := [(0, .inr (.inr 30)), (1, .inl x), (2, .inl ((i + (Int32.ofInt 1))))]) (show ([0, 1, 2] : List Nat).Nodup by decide) (y_R_cons rfl (y_R_cons rfl (y_R_cons rfl y_R_nil))) ?_
    exact ih _ (i + (Int32.ofInt 1)) (I + 1) hi2 (by omega) (by omega) (by omega) hJ2
def y_lvQ (X : Nat) (s : y_H) (v : Option (q_V Int32)) (s2 : y_H) : Prop := v = none ∧ w_T y_V0 g_sh (y_mk g_sh s2) ∧ s2.2 = s.2 ∧ (∀ o k, o ≠ 29 → ¬ (o = 28 ∧ k = 1) → s2.1 o k = s.1 o k) ∧ (s2.1 28 1).toInt = (s.1 28 1).toInt - 1 ∧ (∀ k, k < X → s2.1 29 k = s.1 29 k) ∧ ∀ k : Nat, X ≤ k → (k : Int) + 1 < (s.1 28 1).toInt → s2.1 29 k = s.1 29 (k + 1)
theorem y_leaveF : y_C g_sh g_ts 145 1 (fun a s => w_T y_V0 g_sh (y_mk g_sh s) ∧ ∃ (x : Int32) (X : Nat), a = [.inr (.inr 30), .inl x] ∧ x.toInt = (X : Int) ∧ (X : Int) < (s.1 28 1).toInt) (fun a s v s2 => ∀ (x : Int32) (X : Nat), a = [.inr (.inr 30), .inl x] → x.toInt = (X : Int) → y_lvQ X s v s2) := by
  refine y_C.of (t := g_t145) rfl (by decide) ?_
  rintro d a s hd ⟨hT, x, X, rfl, hx, hX⟩
  have hr := y_rng (lo := 2147483648) (hi := 2147483655) (g := 0) hT (o := 28) (k := 1) rfl rfl
  have hdec : (s.1 28 1 - (Int32.ofInt 1)).toInt = (s.1 28 1).toInt - 1 := y_sb (x := s.1 28 1) (y := 1) (by show _ ≤ _ - (1 : Int); omega) (by show _ - (1 : Int) ≤ _; omega)
  have t1 := y_Tup0 (lo := 2147483648) (hi := 2147483655) (o := 28) (k := 1) (x := s.1 28 1 - (Int32.ofInt 1)) hT rfl rfl (by omega) (by omega)
  have u : ∀ o k, ¬ (o = 28 ∧ k = 1) → (y_up s 28 1 (.inl (s.1 28 1 - (Int32.ofInt 1)))).1 o k = s.1 o k := fun o k h => y_up_ne h
  have uz : ((y_up s 28 1 (.inl (s.1 28 1 - (Int32.ofInt 1)))).1 28 1).toInt = (((s.1 28 1).toInt.toNat - 1 : Nat) : Int) := by
    rw [y_up_self, hdec]
    omega
  have u2 : (y_up s 28 1 (.inl (s.1 28 1 - (Int32.ofInt 1)))).2 = s.2 := rfl
  refine y_run 1 rfl ?_
  refine y_if rfl (fun h => ?_) (fun h => ?_)
  · have h2 : x.toInt < 0 := h
    omega
  refine y_run 3 rfl ?_
  refine y_ic rfl (fun h => ?_) (fun h => ?_)
  · refine y_run 8 rfl ?_
    refine y_sub (ls1 := [(0, .inr (.inr 30)), (1, .inl x), (2, .inl x)]) (show ([0, 1, 2] : List Nat).Nodup by decide) (y_R_cons rfl (y_R_cons rfl (y_R_cons rfl y_R_nil))) ?_
    show y_W g_sh g_ts d g_t145 _ 25 [(0, .inr (.inr 30)), (1, .inl x), (2, .inl x)] [] (y_up s 28 1 (.inl (s.1 28 1 - (Int32.ofInt 1))))
    revert t1 u uz u2
    generalize y_up s 28 1 (.inl (s.1 28 1 - (Int32.ofInt 1))) = s0
    intro t1 u uz u2
    refine y_lev_loop (s0 := s0) (X := X) (Z := (s.1 28 1).toInt.toNat - 1) (by omega) uz (fun s2 hJ => ?_) 7 s0 x X hx (by omega) (by omega) (by omega) ⟨t1, rfl, fun _ _ _ => rfl, fun _ _ => rfl, fun k h1 h2 => by omega, fun _ _ => rfl⟩
    obtain ⟨j1, j2, j3, j4, j5, j6⟩ := hJ
    intro x2 X2 e hx2
    cases e
    have eX : X2 = X := by omega
    subst eX
    refine ⟨rfl, j1, j2.trans u2, fun o k h1 h2 => (j3 o k h1).trans (u o k h2), ?_, fun k hk => (j4 k hk).trans (u 29 k (by omega)), fun k h1 h2 => (j5 k h1 (by omega)).trans (u 29 (k + 1) (by omega))⟩
    rw [j3 28 1 (by omega), uz]
    omega
  · have h2 : ¬ x.toInt < (s.1 28 1).toInt := h
    omega
/-- who is not the one that left keeps a place -/
theorem y_Rc_leave {n X : Nat} {ln hw ln2 hw2 : Nat → Int32} {sz sz2 : Int32} {q : Int} (h : y_Rc n ln hw sz) (h7 : sz.toInt ≤ 7) (hX : (X : Int) < sz.toInt) (hq : (ln X).toInt = q) (hsz : sz2.toInt = sz.toInt - 1) (h1 : ∀ k, k < X → ln2 k = ln k) (h2 : ∀ k : Nat, X ≤ k → (k : Int) + 1 < sz.toInt → ln2 k = ln (k + 1)) (hw1 : ∀ p : Nat, p < 7 → (p : Int) ≠ q → (hw2 p).toInt = 0 → (hw p).toInt = 0) (hw3 : ∀ p : Nat, p < 7 → (p : Int) = q → (hw2 p).toInt ≠ 0) : y_Rc n ln2 hw2 sz2 := by
  intro p hp p7 h0
  by_cases e : (p : Int) = q
  · exact absurd h0 (hw3 p p7 e)
  obtain ⟨i, i7, g1, g2⟩ := h p hp p7 (hw1 p p7 e h0)
  rcases Nat.lt_trichotomy i X with c | c | c
  · exact ⟨i, i7, by omega, by rw [h1 i c]; exact g2⟩
  · subst c
    omega
  · refine ⟨i - 1, by omega, by omega, ?_⟩
    rw [h2 (i - 1) (by omega) (by omega), show i - 1 + 1 = i by omega]
    exact g2
/-! begin -/
abbrev y_bgK : List (Nat × Nat) := [(114753, 114753), (114755, 114755), (114758, 114761), (118848, 118854), (122944, 122950), (127040, 127041), (131136, 131137)]
def y_bgQ (T : Nat) (s : y_H) (v : Option (q_V Int32)) (s2 : y_H) : Prop := v = none ∧ w_T y_V0 g_sh (y_mk g_sh s2) ∧ y_fr g_sh y_bgK s s2 ∧ s2.1 28 1 = s.1 T 4 ∧ ∀ p : Nat, p < 7 → (s2.1 29 p).toInt = (p : Int)
theorem y_bg1 {d t : Nat} {s0 : y_H} {P : Int32} {Q : Option (q_V Int32) → y_H → Prop} (hexit : ∀ (s : y_H) (ls : q_U Int32), y_qJ y_bgK s0 s → s.1 28 1 = P → (∀ p : Nat, p < 7 → (s.1 29 p).toInt = (p : Int)) → q_at ls 0 = some (.inr (.inr 30)) → q_at ls 1 = some (.inr (.inr t)) → y_W g_sh g_ts d g_t139 Q 36 ls [] s) : ∀ (c : Nat) (s : y_H) (i : Int32) (I : Nat), i.toInt = (I : Int) → I ≤ 7 → 7 - I ≤ c → y_qJ y_bgK s0 s → s.1 28 1 = P → (∀ p : Nat, p < I → (s.1 29 p).toInt = (p : Int)) → y_W g_sh g_ts d g_t139 Q 10 [(0, .inr (.inr 30)), (1, .inr (.inr t)), (2, .inl i)] [] s := by
  intro c
  induction c with
  | zero =>
    intro s i I hi hI hc hJ hP hr
    refine y_run 2 rfl ?_
    refine y_ic rfl (fun _ => hexit s _ hJ hP (fun p hp => hr p (by omega)) rfl rfl) (fun h => ?_)
    have h2 : ¬ (7 : Int) ≤ i.toInt := h
    omega
  | succ c ih =>
    intro s i I hi hI hc hJ hP hr
    have hi1 : (i + (Int32.ofInt 1)).toInt = i.toInt + 1 := y_add (x := i) (y := 1) (by show _ ≤ _ + (1 : Int); omega) (by show _ + (1 : Int) ≤ _; omega)
    refine y_run 2 rfl ?_
    refine y_ic rfl (fun h => ?_) (fun h => ?_)
    · have h2 : (7 : Int) ≤ i.toInt := h
      exact hexit s _ hJ hP (fun p hp => hr p (by omega)) rfl rfl
    have h2 : ¬ (7 : Int) ≤ i.toInt := h
    refine y_run 4 rfl ?_
    refine y_ast (o := 29) (sz := 7) (j := I) rfl rfl hi (by omega) y_k29 ?_
    have hJ1 := y_qJ_up (o := 29) (sz := 7) (lo := 2147483648) (hi := 2147483654) (j := I) (x := i) hJ rfl (by omega) (by decide +kernel) (by omega) (by omega)
    refine y_run 4 rfl ?_
    refine y_ast (o := 30) (sz := 7) (j := I) rfl rfl hi (by omega) y_k30 ?_
    have hJ2 := y_qJ_up (o := 30) (sz := 7) (lo := 2147483648) (hi := 2147483652) (j := I) (x := Int32.ofInt 0) hJ1 rfl (by omega) (by decide +kernel) (show _ ≤ (0 : Int) by omega) (show (0 : Int) ≤ _ by omega)
    refine y_run 2 rfl ?_
    refine y_sub (ls1 := [(0, .inr (.inr 30)), (1, .inr (.inr t)), (2, .inl ((i + (Int32.ofInt 1))))]) (show ([0, 1, 2] : List Nat).Nodup by decide) (y_R_cons rfl (y_R_cons rfl (y_R_cons rfl y_R_nil))) ?_
    refine ih _ (i + (Int32.ofInt 1)) (I + 1) (by rw [hi1, hi]; omega) (by omega) (by omega) hJ2 ((y_up_ne (by omega)).trans ((y_up_ne (by omega)).trans hP)) (fun p hp => ?_)
    by_cases e : p = I
    · subst e
      rw [y_up_ne (by omega), y_up_self]
      exact hi
    · rw [y_up_ne (by omega), y_up_ne (by omega)]
      exact hr p (by omega)
theorem y_bg2 {d t : Nat} {s0 : y_H} {Q : Option (q_V Int32) → y_H → Prop} (hexit : ∀ (s : y_H) (ls : q_U Int32), y_qJ y_bgK s0 s → (∀ o k, o ≠ 31 → o ≠ 32 → s.1 o k = s0.1 o k) → q_at ls 0 = some (.inr (.inr 30)) → q_at ls 1 = some (.inr (.inr t)) → y_W g_sh g_ts d g_t139 Q 63 ls [] s) : ∀ (c : Nat) (s : y_H) (i : Int32) (I : Nat), i.toInt = (I : Int) → I ≤ 2 → 2 - I ≤ c → y_qJ y_bgK s0 s → (∀ o k, o ≠ 31 → o ≠ 32 → s.1 o k = s0.1 o k) → y_W g_sh g_ts d g_t139 Q 38 [(0, .inr (.inr 30)), (1, .inr (.inr t)), (2, .inl i)] [] s := by
  intro c
  induction c with
  | zero =>
    intro s i I hi hI hc hJ hP
    refine y_run 2 rfl ?_
    refine y_ic rfl (fun _ => hexit s _ hJ hP rfl rfl) (fun h => ?_)
    have h2 : ¬ (2 : Int) ≤ i.toInt := h
    omega
  | succ c ih =>
    intro s i I hi hI hc hJ hP
    have hi1 : (i + (Int32.ofInt 1)).toInt = i.toInt + 1 := y_add (x := i) (y := 1) (by show _ ≤ _ + (1 : Int); omega) (by show _ + (1 : Int) ≤ _; omega)
    refine y_run 2 rfl ?_
    refine y_ic rfl (fun h => hexit s _ hJ hP rfl rfl) (fun h => ?_)
    have h2 : ¬ (2 : Int) ≤ i.toInt := h
    refine y_run 4 rfl ?_
    refine y_ast (o := 31) (sz := 2) (j := I) rfl rfl hi (by omega) (y_kdA (tag := 100) (sz := 2) (a := ((2147483647, 2147483654), 0)) rfl) ?_
    have hJ1 := y_qJ_up (o := 31) (sz := 2) (lo := 2147483647) (hi := 2147483654) (j := I) (x := Int32.ofInt (-1)) hJ rfl (by omega) (by decide +kernel) (show _ ≤ (-1 : Int) by omega) (show (-1 : Int) ≤ _ by omega)
    refine y_run 4 rfl ?_
    refine y_ast (o := 32) (sz := 2) (j := I) rfl rfl hi (by omega) (y_kdA (tag := 100) (sz := 2) (a := ((0, 4294967295), 0)) rfl) ?_
    have hJ2 := y_qJ_up (o := 32) (sz := 2) (lo := 0) (hi := 4294967295) (j := I) (x := Int32.ofInt 0) hJ1 rfl (by omega) (by decide +kernel) (show _ ≤ (0 : Int) by omega) (show (0 : Int) ≤ _ by omega)
    refine y_run 2 rfl ?_
    refine y_sub (ls1 := [(0, .inr (.inr 30)), (1, .inr (.inr t)), (2, .inl ((i + (Int32.ofInt 1))))]) (show ([0, 1, 2] : List Nat).Nodup by decide) (y_R_cons rfl (y_R_cons rfl (y_R_cons rfl y_R_nil))) ?_
    exact ih _ (i + (Int32.ofInt 1)) (I + 1) (by rw [hi1, hi]; omega) (by omega) (by omega) hJ2 (fun o k h1 h2 => (y_up_ne (by omega)).trans ((y_up_ne (by omega)).trans (hP o k h1 h2)))
theorem y_beginF5 : y_C g_sh g_ts 139 1 (fun a s => w_T y_V0 g_sh (y_mk g_sh s) ∧ a = [.inr (.inr 30), .inr (.inr 5)]) (fun _ s v s2 => y_bgQ 3 s v s2) := by
  refine y_C.of (t := g_t139) rfl (by decide) ?_
  rintro d a s hd ⟨hT, rfl⟩
  have r := y_rng (lo := 2147483648) (hi := 2147483655) (g := 0) hT (o := 3) (k := 4) rfl rfl
  have t1 := y_Tup0 (lo := 2147483648) (hi := 2147483655) (o := 28) (k := 1) (x := s.1 3 4) hT rfl rfl (by omega) (by omega)
  have f1 := (y_fr.rf (sh := g_sh) (ms := y_bgK) (s := s)).up (o := 28) (k := 1) (v := .inl (s.1 3 4)) rfl (by decide +kernel)
  refine y_run 6 rfl ?_
  refine y_sub (ls1 := [(0, .inr (.inr 30)), (1, .inr (.inr 5)), (2, .inl ((Int32.ofInt 0)))]) (show ([0, 1, 2] : List Nat).Nodup by decide) (y_R_cons rfl (y_R_cons rfl (y_R_cons rfl y_R_nil))) ?_
  show y_W g_sh g_ts d g_t139 (y_bgQ 3 s) 10 [(0, .inr (.inr 30)), (1, .inr (.inr 5)), (2, .inl ((Int32.ofInt 0)))] [] (y_up s 28 1 (.inl (s.1 3 4)))
  refine y_bg1 (t := 5) (s0 := s) (P := s.1 3 4) (fun s3 ls hJ3 hP hq l0 l1 => ?_) 7 _ (Int32.ofInt 0) 0 rfl (by omega) (by omega) ⟨t1, f1⟩ y_up_self (fun p hp => by omega)
  refine y_sub (ls1 := [(0, .inr (.inr 30)), (1, .inr (.inr 5))]) (show ([0, 1] : List Nat).Nodup by decide) (y_R_cons l0 (y_R_cons l1 y_R_nil)) ?_
  refine y_run 2 rfl ?_
  refine y_sub (ls1 := [(0, .inr (.inr 30)), (1, .inr (.inr 5)), (2, .inl ((Int32.ofInt 0)))]) (show ([0, 1, 2] : List Nat).Nodup by decide) (y_R_cons rfl (y_R_cons rfl (y_R_cons rfl y_R_nil))) ?_
  refine y_bg2 (t := 5) (s0 := s3) (fun s4 ls hJ4 hu l0 l1 => ?_) 2 s3 (Int32.ofInt 0) 0 rfl (by omega) (by omega) ⟨hJ3.1, y_fr.rf⟩ (fun _ _ _ _ => rfl)
  refine y_sub (ls1 := [(0, .inr (.inr 30)), (1, .inr (.inr 5))]) (show ([0, 1] : List Nat).Nodup by decide) (y_R_cons l0 (y_R_cons l1 y_R_nil)) ?_
  have r4 := y_rng (lo := 2147483648) (hi := 2147484647) (g := 0) hJ4.1 (o := 3) (k := 12) rfl rfl
  have q0 := y_Tup0 (lo := 0) (hi := 4294967295) (o := 28) (k := 3) (x := Int32.ofInt 0) hJ4.1 rfl rfl (show _ ≤ (0 : Int) by omega) (show (0 : Int) ≤ _ by omega)
  have q1 := y_Tup0 (lo := 0) (hi := 4294967295) (o := 28) (k := 6) (x := Int32.ofInt 0) q0 rfl rfl (show _ ≤ (0 : Int) by omega) (show (0 : Int) ≤ _ by omega)
  have q2 := y_Tup0 (lo := 0) (hi := 4294967295) (o := 28) (k := 7) (x := Int32.ofInt 0) q1 rfl rfl (show _ ≤ (0 : Int) by omega) (show (0 : Int) ≤ _ by omega)
  have q3 := y_Tup0 (lo := 0) (hi := 4294967295) (o := 28) (k := 8) (x := Int32.ofInt 0) q2 rfl rfl (show _ ≤ (0 : Int) by omega) (show (0 : Int) ≤ _ by omega)
  have q4 := y_Tup0 (lo := 0) (hi := 4294967295) (o := 28) (k := 9) (x := s4.1 3 12) q3 rfl rfl (by omega) (by omega)
  have f4 := ((((hJ4.2.up (o := 28) (k := 3) (v := .inl (Int32.ofInt 0)) rfl (by decide +kernel)).up (o := 28) (k := 6) (v := .inl (Int32.ofInt 0)) rfl (by decide +kernel)).up (o := 28) (k := 7) (v := .inl (Int32.ofInt 0)) rfl (by decide +kernel)).up (o := 28) (k := 8) (v := .inl (Int32.ofInt 0)) rfl (by decide +kernel)).up (o := 28) (k := 9) (v := .inl (s4.1 3 12)) rfl (by decide +kernel)
  refine y_run 16 rfl ?_
  refine y_vret rfl ⟨rfl, q4, hJ3.2.tr f4, ?_, fun p hp => ?_⟩
  · exact (hu 28 1 (by omega) (by omega)).trans hP
  · show (s4.1 29 p).toInt = (p : Int)
    rw [hu 29 p (by omega) (by omega)]
    exact hq p hp
theorem y_beginF17 : y_C g_sh g_ts 139 1 (fun a s => w_T y_V0 g_sh (y_mk g_sh s) ∧ a = [.inr (.inr 30), .inr (.inr 17)]) (fun _ s v s2 => y_bgQ 15 s v s2) := by
  refine y_C.of (t := g_t139) rfl (by decide) ?_
  rintro d a s hd ⟨hT, rfl⟩
  have r := y_rng (lo := 2147483648) (hi := 2147483655) (g := 0) hT (o := 15) (k := 4) rfl rfl
  have t1 := y_Tup0 (lo := 2147483648) (hi := 2147483655) (o := 28) (k := 1) (x := s.1 15 4) hT rfl rfl (by omega) (by omega)
  have f1 := (y_fr.rf (sh := g_sh) (ms := y_bgK) (s := s)).up (o := 28) (k := 1) (v := .inl (s.1 15 4)) rfl (by decide +kernel)
  refine y_run 6 rfl ?_
  refine y_sub (ls1 := [(0, .inr (.inr 30)), (1, .inr (.inr 17)), (2, .inl ((Int32.ofInt 0)))]) (show ([0, 1, 2] : List Nat).Nodup by decide) (y_R_cons rfl (y_R_cons rfl (y_R_cons rfl y_R_nil))) ?_
  show y_W g_sh g_ts d g_t139 (y_bgQ 15 s) 10 [(0, .inr (.inr 30)), (1, .inr (.inr 17)), (2, .inl ((Int32.ofInt 0)))] [] (y_up s 28 1 (.inl (s.1 15 4)))
  refine y_bg1 (t := 17) (s0 := s) (P := s.1 15 4) (fun s3 ls hJ3 hP hq l0 l1 => ?_) 7 _ (Int32.ofInt 0) 0 rfl (by omega) (by omega) ⟨t1, f1⟩ y_up_self (fun p hp => by omega)
  refine y_sub (ls1 := [(0, .inr (.inr 30)), (1, .inr (.inr 17))]) (show ([0, 1] : List Nat).Nodup by decide) (y_R_cons l0 (y_R_cons l1 y_R_nil)) ?_
  refine y_run 2 rfl ?_
  refine y_sub (ls1 := [(0, .inr (.inr 30)), (1, .inr (.inr 17)), (2, .inl ((Int32.ofInt 0)))]) (show ([0, 1, 2] : List Nat).Nodup by decide) (y_R_cons rfl (y_R_cons rfl (y_R_cons rfl y_R_nil))) ?_
  refine y_bg2 (t := 17) (s0 := s3) (fun s4 ls hJ4 hu l0 l1 => ?_) 2 s3 (Int32.ofInt 0) 0 rfl (by omega) (by omega) ⟨hJ3.1, y_fr.rf⟩ (fun _ _ _ _ => rfl)
  refine y_sub (ls1 := [(0, .inr (.inr 30)), (1, .inr (.inr 17))]) (show ([0, 1] : List Nat).Nodup by decide) (y_R_cons l0 (y_R_cons l1 y_R_nil)) ?_
  have r4 := y_rng (lo := 2147483648) (hi := 2147484647) (g := 0) hJ4.1 (o := 15) (k := 12) rfl rfl
  have q0 := y_Tup0 (lo := 0) (hi := 4294967295) (o := 28) (k := 3) (x := Int32.ofInt 0) hJ4.1 rfl rfl (show _ ≤ (0 : Int) by omega) (show (0 : Int) ≤ _ by omega)
  have q1 := y_Tup0 (lo := 0) (hi := 4294967295) (o := 28) (k := 6) (x := Int32.ofInt 0) q0 rfl rfl (show _ ≤ (0 : Int) by omega) (show (0 : Int) ≤ _ by omega)
  have q2 := y_Tup0 (lo := 0) (hi := 4294967295) (o := 28) (k := 7) (x := Int32.ofInt 0) q1 rfl rfl (show _ ≤ (0 : Int) by omega) (show (0 : Int) ≤ _ by omega)
  have q3 := y_Tup0 (lo := 0) (hi := 4294967295) (o := 28) (k := 8) (x := Int32.ofInt 0) q2 rfl rfl (show _ ≤ (0 : Int) by omega) (show (0 : Int) ≤ _ by omega)
  have q4 := y_Tup0 (lo := 0) (hi := 4294967295) (o := 28) (k := 9) (x := s4.1 15 12) q3 rfl rfl (by omega) (by omega)
  have f4 := ((((hJ4.2.up (o := 28) (k := 3) (v := .inl (Int32.ofInt 0)) rfl (by decide +kernel)).up (o := 28) (k := 6) (v := .inl (Int32.ofInt 0)) rfl (by decide +kernel)).up (o := 28) (k := 7) (v := .inl (Int32.ofInt 0)) rfl (by decide +kernel)).up (o := 28) (k := 8) (v := .inl (Int32.ofInt 0)) rfl (by decide +kernel)).up (o := 28) (k := 9) (v := .inl (s4.1 15 12)) rfl (by decide +kernel)
  refine y_run 16 rfl ?_
  refine y_vret rfl ⟨rfl, q4, hJ3.2.tr f4, ?_, fun p hp => ?_⟩
  · exact (hu 28 1 (by omega) (by omega)).trans hP
  · show (s4.1 29 p).toInt = (p : Int)
    rw [hu 29 p (by omega) (by omega)]
    exact hq p hp
