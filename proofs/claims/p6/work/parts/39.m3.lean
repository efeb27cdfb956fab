/-! by hand: act -/
theorem y_FD_eq2 {g g2 : Nat → Nat → Int32} (e18 : g2 65 18 = g 65 18) (e70 : ∀ i, i < 320 → g2 70 i = g 70 i) (e71 : ∀ i, i < 320 → g2 71 i = g 71 i) (h : ∃ D, y_FD D g) : ∃ D, y_FD D g2 := by
  obtain ⟨D, h0, h1, h2⟩ := h
  refine ⟨D, h0, by rw [e18]; exact h1, fun i hi => ?_⟩
  rw [e18] at hi
  rw [e70 i (by omega), e71 i (by omega)]
  exact h2 i hi
theorem y_VC_eq2 {n : Nat} {g g2 : Nat → Nat → Int32} (h : ∀ o k, o < 65 → g2 o k = g o k) (hV : y_VC n g) : y_VC n g2 := by
  have e : ∀ o, o < 65 → g2 o = g o := fun o ho => funext fun k => h o k ho
  unfold y_VC
  rw [e 29 (by omega), e 30 (by omega), e 28 (by omega), e 33 (by omega), e 34 (by omega), e 35 (by omega), e 0 (by omega)]
  exact hV
theorem y_rng91 {V : w_V} {s : y_H} (hT : w_T V g_sh (y_mk g_sh s)) {k : Nat} (hk : k < 1092) : ∃ lo hi : Nat, w_ty g_sh 91 k = some (.inl ((lo, hi), 0)) ∧ (lo : Int) - 2147483648 ≤ (s.1 91 (28 + k)).toInt ∧ (s.1 91 (28 + k)).toInt ≤ (hi : Int) - 2147483648 := by
  have h1 := y_r85 (k % 28) (by omega)
  rw [Option.isSome_iff_exists] at h1
  obtain ⟨⟨lo, hi⟩, e⟩ := h1
  have e2 := y_rgo_ok e
  have t1 := y_ty91 (j := k / 28) (k := k % 28) (by omega) (by omega)
  rw [show 28 * (k / 28) + k % 28 = k by omega] at t1
  have t2 := y_ty91 (j := (28 + k) / 28) (k := (28 + k) % 28) (by omega) (by omega)
  rw [show 28 * ((28 + k) / 28) + (28 + k) % 28 = 28 + k by omega, show (28 + k) % 28 = k % 28 by omega] at t2
  exact ⟨lo, hi, t1.trans e2, y_rng (lo := lo) (hi := hi) (g := 0) hT (t2.trans e2) (y_k91 _ (by omega))⟩
abbrev y_acK : List (Nat × Nat) := [(266331, 266333), (266363, 266363), (266366, 266366), (266370, 266371), (352320, 352347), (356416, 356418), (360512, 360514), (364608, 364615), (368704, 368711), (372800, 373919)]
def y_acQ (n : Nat) (s : y_H) (v : Option (q_V Int32)) (s2 : y_H) : Prop := v = none ∧ w_T (y_Vn n) g_sh (y_mk g_sh s2) ∧ y_fr g_sh y_acK s s2 ∧ ∀ k, k < 28 → s2.1 86 k = s.1 85 k
theorem y_act_shift {d : Nat} {s : y_H} {Q : Option (q_V Int32) → y_H → Prop} (hexit : ∀ ls, q_at ls 0 = some (.inr (.inr 67)) → y_W g_sh g_ts d g_t175 Q 39 ls [] (y_cp s 91 0 (fun k => s.1 91 (28 + k)) 1092)) : ∀ (c : Nat) (i : Int32) (I : Nat), i.toInt = (I : Int) → I ≤ 1092 → 1092 - I ≤ c → y_W g_sh g_ts d g_t175 Q 11 [(0, .inr (.inr 67)), (1, .inl i)] [] (y_cp s 91 0 (fun k => s.1 91 (28 + k)) I) := by
  intro c
  induction c with
  | zero =>
    intro i I hi hI hc
    refine y_run 2 rfl ?_
    refine y_ic rfl (fun _ => by rw [show I = 1092 by omega]; exact hexit _ rfl) (fun h => ?_)
    have h2 : ¬ (1092 : Int) ≤ i.toInt := h
    omega
  | succ c ih =>
    intro i I hi hI hc
    have hi1 : (i + (Int32.ofInt 1)).toInt = i.toInt + 1 := y_add (x := i) (y := 1) (by show _ ≤ _ + (1 : Int); omega) (by show _ + (1 : Int) ≤ _; omega)
    refine y_run 2 rfl ?_
    refine y_ic rfl (fun h => ?_) (fun h => ?_)
    · have h2 : (1092 : Int) ≤ i.toInt := h
      rw [show I = 1092 by omega]
      exact hexit _ rfl
    have h2 : ¬ (1092 : Int) ≤ i.toInt := h
    have e28 : ((Int8.ofInt 28).toInt32 + i).toInt = ((28 + I : Nat) : Int) := y_adds (A := 28) rfl hi (by omega)
    refine y_run 8 rfl ?_
    refine y_ald (o := 91) (sz := 1120) (j := 28 + I) rfl rfl e28 (by omega) (y_k91 _ (by omega)) ?_
    refine y_ast (o := 91) (sz := 1120) (j := I) rfl rfl hi (by omega) (y_k91 I (by omega)) ?_
    refine y_run 2 rfl ?_
    refine y_sub (ls1 := [(0, .inr (.inr 67)), (1, .inl ((i + (Int32.ofInt 1))))]) (show ([0, 1] : List Nat).Nodup by decide) (y_R_cons rfl (y_R_cons rfl y_R_nil)) ?_
    have e := y_cpS2 (s := s) (o := 91) (b := 0) (n := I) (K := I) (f := fun k => s.1 91 (28 + k)) (x := (y_cp s 91 0 (fun k => s.1 91 (28 + k)) I).1 91 (28 + I)) (by omega) (y_cp_ne (by omega))
    have key := ih (i + (Int32.ofInt 1)) (I + 1) (by rw [hi1, hi]; omega) (by omega) (by omega)
    rw [← e] at key
    exact key
theorem y_act_lay {d : Nat} {s : y_H} {A : Nat} {Q : Option (q_V Int32) → y_H → Prop} (hA : (s.1 65 66).toInt = (A : Int)) (hA2 : A < 40) (hexit : ∀ ls, q_at ls 0 = some (.inr (.inr 67)) → y_W g_sh g_ts d g_t175 Q 83 ls [] (y_cp s 91 (28 * A) (s.1 85) 28)) : ∀ (c : Nat) (i : Int32) (I : Nat), i.toInt = (I : Int) → I ≤ 28 → 28 - I ≤ c → y_W g_sh g_ts d g_t175 Q 51 [(0, .inr (.inr 67)), (1, .inl i)] [] (y_cp s 91 (28 * A) (s.1 85) I) := by
  intro c
  induction c with
  | zero =>
    intro i I hi hI hc
    refine y_run 2 rfl ?_
    refine y_ic rfl (fun _ => by rw [show I = 28 by omega]; exact hexit _ rfl) (fun h => ?_)
    have h2 : ¬ (28 : Int) ≤ i.toInt := h
    omega
  | succ c ih =>
    intro i I hi hI hc
    have hi1 : (i + (Int32.ofInt 1)).toInt = i.toInt + 1 := y_add (x := i) (y := 1) (by show _ ≤ _ + (1 : Int); omega) (by show _ + (1 : Int) ≤ _; omega)
    refine y_run 2 rfl ?_
    refine y_ic rfl (fun h => ?_) (fun h => ?_)
    · have h2 : (28 : Int) ≤ i.toInt := h
      rw [show I = 28 by omega]
      exact hexit _ rfl
    have h2 : ¬ (28 : Int) ≤ i.toInt := h
    have ea : (y_cp s 91 (28 * A) (s.1 85) I).1 65 66 = s.1 65 66 := y_cp_ne (by omega)
    have em : ((Int8.ofInt 28).toInt32 * (y_cp s 91 (28 * A) (s.1 85) I).1 65 66).toInt = ((28 * A : Nat) : Int) := by
      rw [ea, y_ml (by rw [hA]; show _ ≤ (28 : Int) * _; omega) (by rw [hA]; show (28 : Int) * _ ≤ _; omega), hA]
      show (28 : Int) * _ = _
      omega
    have e28 := y_adds (a := (Int8.ofInt 28).toInt32 * (y_cp s 91 (28 * A) (s.1 85) I).1 65 66) (b := i) em hi (by omega)
    refine y_run 11 rfl ?_
    refine y_ald (o := 85) (sz := 28) (j := I) rfl rfl hi (by omega) (y_k85 _ (by omega)) ?_
    refine y_ast (o := 91) (sz := 1120) (j := 28 * A + I) rfl rfl e28 (by omega) (y_k91 _ (by omega)) ?_
    refine y_run 2 rfl ?_
    refine y_sub (ls1 := [(0, .inr (.inr 67)), (1, .inl ((i + (Int32.ofInt 1))))]) (show ([0, 1] : List Nat).Nodup by decide) (y_R_cons rfl (y_R_cons rfl y_R_nil)) ?_
    have e := y_cpS2 (s := s) (o := 91) (b := 28 * A) (n := I) (K := 28 * A + I) (f := s.1 85) (x := (y_cp s 91 (28 * A) (s.1 85) I).1 85 I) rfl (y_cp_ne (by omega))
    have key := ih (i + (Int32.ofInt 1)) (I + 1) (by rw [hi1, hi]; omega) (by omega) (by omega)
    rw [← e] at key
    exact key
theorem y_actM {n : Nat} {FM : w_U} (has : y_eAsTold (y_Vn n) FM) : y_C g_sh g_ts 175 3 (fun a s => w_T (y_Vn n) g_sh (y_mk g_sh s) ∧ a = [.inr (.inr 67)]) (fun _ s v s2 => y_acQ n s v s2) := by
  refine y_C.of (t := g_t175) rfl (by decide) ?_
  rintro d a s hd ⟨hT, rfl⟩
  obtain ⟨hFD, ⟨hR, ⟨ha0, hu0, hau⟩, hrows, hbox⟩, hC⟩ := y_VT hT
  have p49 : ∀ (sA : y_H) (A : Nat) (ls : q_U Int32), w_T y_V0 g_sh (y_mk g_sh sA) → (sA.1 65 66).toInt = (A : Int) → A < 40 → (∀ o k, ¬ (o = 65 ∧ k = 66) → o ≠ 91 → sA.1 o k = s.1 o k) → (∀ j, j < A → y_Rw (s.1 65 48).toInt (fun k => sA.1 91 (28 * j + k))) → y_fr g_sh y_acK s sA → q_at ls 0 = some (.inr (.inr 67)) → y_W g_sh g_ts d g_t175 (y_acQ n s) 49 ls [] sA := by
    intro sA A ls hTA hA hA2 heq hrw hfA l0
    refine y_sub (ls1 := [(0, .inr (.inr 67))]) (show ([0] : List Nat).Nodup by decide) (y_R_cons l0 y_R_nil) ?_
    refine y_run 2 rfl ?_
    refine y_sub (ls1 := [(0, .inr (.inr 67)), (1, .inl ((Int32.ofInt 0)))]) (show ([0, 1] : List Nat).Nodup by decide) (y_R_cons rfl (y_R_cons rfl y_R_nil)) ?_
    have key := y_act_lay (d := d) (s := sA) (A := A) (Q := y_acQ n s) hA hA2 (fun ls l0 => ?_) 28 (Int32.ofInt 0) 0 rfl (by omega) (by omega)
    · rw [y_cp0] at key
      exact key
    · refine y_sub (ls1 := [(0, .inr (.inr 67))]) (show ([0] : List Nat).Nodup by decide) (y_R_cons l0 y_R_nil) ?_
      have hT2 := y_Tc91 hA2 hTA (y_row85 hTA)
      have ea : (y_cp sA 91 (28 * A) (sA.1 85) 28).1 65 66 = sA.1 65 66 := y_cp_ne (by omega)
      have h1 : (sA.1 65 66 + (Int32.ofInt 1)).toInt = (A : Int) + 1 := by
        rw [← hA]
        exact y_add (x := sA.1 65 66) (y := 1) (by show _ ≤ _ + (1 : Int); omega) (by show _ + (1 : Int) ≤ _; omega)
      have hT3 := y_Tup0 (o := 65) (k := 66) (lo := 2147483648) (hi := 2147483688) (x := sA.1 65 66 + (Int32.ofInt 1)) hT2 rfl rfl (by omega) (by omega)
      have hT4 := y_Tup0 (o := 65) (k := 67) (lo := 2147483648) (hi := 2147483688) (x := Int32.ofInt 0) hT3 rfl rfl (show _ ≤ (0 : Int) by omega) (show (0 : Int) ≤ _ by omega)
      have hf4 := ((hfA.cp (o := 91) (b := 28 * A) (n := 28) (f := sA.1 85) (by
        have : ∀ A, A < 40 → w_inr y_acK (w_key 91 (28 * A)) (w_key 91 (28 * A + 28 - 1)) = true := by decide +kernel
        exact this A hA2)).up (o := 65) (k := 66) (v := .inl (sA.1 65 66 + (Int32.ofInt 1))) rfl (by decide +kernel)).up (o := 65) (k := 67) (v := .inl (Int32.ofInt 0)) rfl (by decide +kernel)
      rw [← ea] at hT4 hf4
      refine y_run 10 rfl ?_
      have ev : ∀ o k, ¬ (o = 65 ∧ k = 66) → ¬ (o = 65 ∧ k = 67) → o ≠ 91 → (y_up (y_up (y_cp sA 91 (28 * A) (sA.1 85) 28) 65 66 (.inl ((y_cp sA 91 (28 * A) (sA.1 85) 28).1 65 66 + (Int32.ofInt 1)))) 65 67 (.inl (Int32.ofInt 0))).1 o k = s.1 o k := by
        intro o k h1 h2 h3
        rw [y_up_ne h2, y_up_ne h1, y_cp_ne (by omega), heq o k h1 h3]
      have hV : y_V1 n (y_up (y_up (y_cp sA 91 (28 * A) (sA.1 85) 28) 65 66 (.inl ((y_cp sA 91 (28 * A) (sA.1 85) 28).1 65 66 + (Int32.ofInt 1)))) 65 67 (.inl (Int32.ofInt 0))).1 := by
        refine ⟨y_FD_eq2 (ev 65 18 (by omega) (by omega) (by omega)) (fun i _ => ev 70 i (by omega) (by omega) (by omega)) (fun i _ => ev 71 i (by omega) (by omega) (by omega)) hFD, ⟨?_, ?_, ?_, ?_⟩, y_VC_eq2 (fun o k ho => ev o k (by omega) (by omega) (by omega)) hC⟩
        · rw [ev 65 48 (by omega) (by omega) (by omega)]
          exact y_Rw_eq (fun k _ _ => ev 85 k (by omega) (by omega) (by omega)) hR
        · rw [y_up_self, y_up_ne (by omega), y_up_self, ea, h1]
          show 0 ≤ (A : Int) + 1 ∧ 0 ≤ (0 : Int) ∧ (A : Int) + 1 + 0 ≤ 40
          omega
        · intro j hj hlt
          rw [y_up_self, y_up_ne (by omega), y_up_self, ea, h1] at hlt
          have hlt2 : (j : Int) < (A : Int) + 1 + 0 := hlt
          rw [ev 65 48 (by omega) (by omega) (by omega)]
          by_cases e : j = A
          · subst e
            refine y_Rw_eq (fun k hk _ => ?_) hR
            show (y_up (y_up _ 65 66 _) 65 67 _).1 91 (28 * j + k) = _
            rw [y_up_ne (by omega), y_up_ne (by omega), y_cp_in (by omega)]
            exact heq 85 k (by omega) (by omega)
          · refine y_Rw_eq (fun k hk _ => ?_) (hrw j (by omega))
            show (y_up (y_up _ 65 66 _) 65 67 _).1 91 (28 * j + k) = _
            rw [y_up_ne (by omega), y_up_ne (by omega), y_cp_ne (by omega)]
        · intro b hb hne
          rw [ev 104 b (by omega) (by omega) (by omega)] at hne
          rw [ev 65 48 (by omega) (by omega) (by omega)]
          exact y_Rw_eq (fun k _ _ => ev 105 _ (by omega) (by omega) (by omega)) (hbox b hb hne)
      refine y_call (y_fillF has) 1 rfl (fun _ _ _ => rfl) (a := [.inr (.inr 67)]) rfl rfl (fun h hR => y_mayV (o := 65) (sz := 85) rfl hR) (by omega) ⟨y_TV hT4 hV, rfl⟩ (fun v s5 hQ => ?_)
      obtain ⟨rfl, hT5, hf5, he5⟩ := hQ
      refine y_vret rfl ⟨rfl, hT5, hf4.tr (hf5.mono (by decide +kernel)), fun k hk => ?_⟩
      rw [he5 k hk]
      exact ev 85 k (by omega) (by omega) (by omega)
  refine y_run 3 rfl ?_
  refine y_ic rfl (fun h => ?_) (fun h => ?_)
  · have h2 : (s.1 65 66).toInt ≠ 40 := h
    exact p49 s (s.1 65 66).toInt.toNat _ (y_t0 hT) (by omega) (by omega) (fun _ _ _ _ => rfl) (fun j hj => hrows j (by omega) (by omega)) y_fr.rf rfl
  · have h2 : (s.1 65 66).toInt = 40 := Classical.byContradiction fun q => h q
    refine y_run 2 rfl ?_
    refine y_sub (ls1 := [(0, .inr (.inr 67)), (1, .inl ((Int32.ofInt 0)))]) (show ([0, 1] : List Nat).Nodup by decide) (y_R_cons rfl (y_R_cons rfl y_R_nil)) ?_
    have key := y_act_shift (d := d) (s := s) (Q := y_acQ n s) (fun ls l0 => ?_) 1092 (Int32.ofInt 0) 0 rfl (by omega) (by omega)
    · rw [y_cp0] at key
      exact key
    · refine y_sub (ls1 := [(0, .inr (.inr 67))]) (show ([0] : List Nat).Nodup by decide) (y_R_cons l0 y_R_nil) ?_
      have hT2 : w_T y_V0 g_sh (y_mk g_sh (y_cp s 91 0 (fun k => s.1 91 (28 + k)) 1092)) := y_Tcp (y_t0 hT) (fun k hk => by
        rw [Nat.zero_add]
        obtain ⟨lo, hi, e, r⟩ := y_rng91 hT hk
        exact ⟨y_k91 k (by omega), lo, hi, e, r⟩)
      have ea : (y_cp s 91 0 (fun k => s.1 91 (28 + k)) 1092).1 65 66 = s.1 65 66 := y_cp_ne (by omega)
      have h1 : ((y_cp s 91 0 (fun k => s.1 91 (28 + k)) 1092).1 65 66 - (Int32.ofInt 1)).toInt = 39 := by
        rw [ea, y_sb (x := s.1 65 66) (y := (Int32.ofInt 1)) (by show _ ≤ _ - (1 : Int); omega) (by show _ - (1 : Int) ≤ _; omega)]
        show _ - (1 : Int) = _
        omega
      have hT3 := y_Tup0 (o := 65) (k := 66) (lo := 2147483648) (hi := 2147483688) (x := (y_cp s 91 0 (fun k => s.1 91 (28 + k)) 1092).1 65 66 - (Int32.ofInt 1)) hT2 rfl rfl (by omega) (by omega)
      refine y_run 6 rfl ?_
      refine p49 _ 39 _ hT3 (by rw [y_up_self, h1]; rfl) (by omega) (fun o k q1 q2 => by rw [y_up_ne q1, y_cp_ne (by omega)]) (fun j hj => ?_) ((y_fr.rf.cp (o := 91) (b := 0) (n := 1092) (by decide +kernel)).up (o := 65) (k := 66) rfl (by decide +kernel)) rfl
      refine y_Rw_eq (fun k hk _ => ?_) (hrows (j + 1) (by omega) (by omega))
      show (y_up _ 65 66 _).1 91 (28 * j + k) = s.1 91 (28 * (j + 1) + k)
      rw [y_up_ne (by omega)]
      have e := y_cp_in (s := s) (o := 91) (b := 0) (n := 1092) (k := 28 * j + k) (f := fun k => s.1 91 (28 + k)) (by omega)
      rw [Nat.zero_add] at e
      rw [e]
      show s.1 91 (28 + (28 * j + k)) = _
      rw [show 28 + (28 * j + k) = 28 * (j + 1) + k by omega]
theorem y_actE {n : Nat} {FM : w_U} (has : y_eAsTold (y_Vn n) FM) : w_Ent (y_Vn n) g_sh g_ts (175, [w_r 67], [], [(266331, 266333), (266363, 266363), (266366, 266366), (266370, 266371), (352320, 352347), (356416, 356418), (360512, 360514), (364608, 364615), (368704, 368711), (372800, 373919)], [([], none, [])], 3) := by
  refine y_C.toE g_shok g_pkok rfl ?_
  refine y_C.weak (y_actM has) (Nat.le_refl 3) ?_ ?_
  · rintro a s ⟨hT, ha, -⟩
    rcases a with _ | ⟨v1, _ | ⟨v2, a⟩⟩
    · exact ha.elim
    · obtain ⟨⟨n, rfl, hn⟩, -⟩ := ha
      have hn2 : n = 67 := by simpa using hn
      subst hn2
      exact ⟨hT, rfl⟩
    · exact ha.2.elim
  · rintro a s v s2 - ⟨rfl, hT2, hf2, -⟩
    exact ⟨hT2, hf2, _, List.mem_cons_self, (fun z hz => by cases hz), True.intro, (fun q hq => by cases hq)⟩
