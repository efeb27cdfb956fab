/-! by hand: the model's image, back -/
theorem y_im_loop {d B : Nat} {s : y_H} {x : Int32} {Q : Option (q_V Int32) → y_H → Prop} (hx : x.toInt = (B : Int)) (hB : B < 3) (hexit : ∀ ls, q_at ls 0 = some (.inr (.inr 67)) → y_W g_sh g_ts d g_t222 Q 47 ls [] (y_cp s 105 (28 * B) (s.1 85) 28)) : ∀ (c : Nat) (i : Int32) (I : Nat), i.toInt = (I : Int) → I ≤ 28 → 28 - I ≤ c → y_W g_sh g_ts d g_t222 Q 18 [(0, .inr (.inr 67)), (1, .inl x), (2, .inl i)] [] (y_cp s 105 (28 * B) (s.1 85) I) := by
  have em : ((Int8.ofInt 28).toInt32 * x).toInt = ((28 * B : Nat) : Int) := by
    rw [y_ml (by rw [hx]; show _ ≤ (28 : Int) * _; omega) (by rw [hx]; show (28 : Int) * _ ≤ _; omega), hx]
    show (28 : Int) * _ = _
    omega
  intro c
  induction c with
  | zero =>
    intro i I hi hI hc
    refine y_run 2 rfl ?_
    refine y_ic rfl (fun _ => by rw [show I = 28 by omega]; exact hexit _ rfl) (fun h => ?_)
    have h2 : ¬ (28 : Int) ≤ i.toInt := h
    omega
  | succ c ih =>
    intro i I hi hI hc
    have hi1 : (i + (Int32.ofInt 1)).toInt = i.toInt + 1 := y_add (x := i) (y := 1) (by show _ ≤ _ + (1 : Int); omega) (by show _ + (1 : Int) ≤ _; omega)
    refine y_run 2 rfl ?_
    refine y_ic rfl (fun h => ?_) (fun h => ?_)
    · have h2 : (28 : Int) ≤ i.toInt := h
      rw [show I = 28 by omega]
      exact hexit _ rfl
    have h2 : ¬ (28 : Int) ≤ i.toInt := h
    have e28 := y_adds (b := i) em hi (by omega)
    refine y_run 10 rfl ?_
    refine y_ald (o := 85) (sz := 28) (j := I) rfl rfl hi (by omega) (y_k85 _ (by omega)) ?_
    refine y_ast (o := 105) (sz := 84) (j := 28 * B + I) rfl rfl e28 (by omega) (y_k105 _ (by omega)) ?_
    refine y_run 2 rfl ?_
    refine y_sub (ls1 := [(0, .inr (.inr 67)), (1, .inl x), (2, .inl ((i + (Int32.ofInt 1))))]) (show ([0, 1, 2] : List Nat).Nodup by decide) (y_R_cons rfl (y_R_cons rfl (y_R_cons rfl y_R_nil))) ?_
    have e := y_cpS2 (s := s) (o := 105) (b := 28 * B) (n := I) (K := 28 * B + I) (f := s.1 85) (x := (y_cp s 105 (28 * B) (s.1 85) I).1 85 I) rfl (y_cp_ne (by omega))
    have key := ih (i + (Int32.ofInt 1)) (I + 1) (by rw [hi1, hi]; omega) (by omega) (by omega)
    rw [← e] at key
    exact key
abbrev y_imK : List (Nat × Nat) := [(426048, 426050), (430144, 430227)]
theorem y_imageM {n : Nat} : y_C g_sh g_ts 222 2 (fun a s => w_T (y_Vn n) g_sh (y_mk g_sh s) ∧ ∃ x : Int32, a = [.inr (.inr 67), .inl x]) (fun _ s v s2 => y_pubQ n y_imK s v s2) := by
  refine y_C.of (t := g_t222) rfl (by decide) ?_
  rintro d a s hd ⟨hT, x, rfl⟩
  obtain ⟨hFD, ⟨hR, hau, hrows, hbox⟩, hC⟩ := y_VT hT
  refine y_run 1 rfl ?_
  refine y_callTest y_isBox rfl rfl (by omega) (fun hP => ?_) (fun hP => ?_)
  · refine y_if rfl (fun _ => ?_) (fun h => absurd (show (1 : Int) ≠ 0 by omega) h)
    generalize hB : x.toInt.toNat = B
    have hP1 : 0 ≤ x.toInt ∧ x.toInt < 3 := hP
    refine y_run 4 rfl ?_
    refine y_bast (o := 104) (sz := 3) (j := B) rfl rfl (by omega) (by omega) (y_k104 _ (by omega)) (Or.inr rfl) ?_
    have hT1 := y_Tup0 (o := 104) (k := B) (lo := 2147483648) (hi := 2147483649) (x := Int32.ofInt 1) (y_t0 hT) (y_tyA (tag := 102) (sz := 3) (A := w_n 0 1 0) rfl (by omega)) (y_k104 _ (by omega)) (show _ ≤ (1 : Int) by omega) (show (1 : Int) ≤ _ by omega)
    have hf1 := (y_fr.rf (sh := g_sh) (ms := y_imK) (s := s)).up (o := 104) (k := B) (v := .inl (Int32.ofInt 1)) (y_k104 _ (by omega)) (y_msA (sz := 3) (by decide +kernel) (by omega))
    refine y_run 2 rfl ?_
    refine y_sub (ls1 := [(0, .inr (.inr 67)), (1, .inl x), (2, .inl ((Int32.ofInt 0)))]) (show ([0, 1, 2] : List Nat).Nodup by decide) (y_R_cons rfl (y_R_cons rfl (y_R_cons rfl y_R_nil))) ?_
    have key := y_im_loop (d := d) (B := B) (s := y_up s 104 B (.inl (Int32.ofInt 1))) (x := x) (Q := y_pubQ n y_imK s) (by omega) (by omega) (fun ls l0 => ?_) 28 (Int32.ofInt 0) 0 rfl (by omega) (by omega)
    · rw [y_cp0] at key
      exact key
    · refine y_sub (ls1 := [(0, .inr (.inr 67))]) (show ([0] : List Nat).Nodup by decide) (y_R_cons l0 y_R_nil) ?_
      refine y_run 3 rfl ?_
      refine y_ald (o := 85) (sz := 28) (j := 26) rfl rfl rfl (by omega) rfl ?_
      have hT2 := y_Tc105 (j := B) (by omega) hT1 (y_row85 hT1)
      have hf2 := hf1.cp (o := 105) (b := 28 * B) (n := 28) (f := (y_up s 104 B (.inl (Int32.ofInt 1))).1 85) (by
        have : ∀ B, B < 3 → w_inr y_imK (w_key 105 (28 * B)) (w_key 105 (28 * B + 28 - 1)) = true := by decide +kernel
        exact this B (by omega))
      have ev : ∀ o k, o ≠ 104 → o ≠ 105 → (y_cp (y_up s 104 B (.inl (Int32.ofInt 1))) 105 (28 * B) ((y_up s 104 B (.inl (Int32.ofInt 1))).1 85) 28).1 o k = s.1 o k := fun o k h1 h2 => by rw [y_cp_ne (by omega), y_up_ne (by omega)]
      refine y_iret rfl ⟨y_TV hT2 ⟨y_FD_eq2 (ev 65 18 (by omega) (by omega)) (fun i _ => ev 70 i (by omega) (by omega)) (fun i _ => ev 71 i (by omega) (by omega)) hFD, ⟨?_, ?_, ?_, ?_⟩, y_VC_eq2 (fun o k ho => ev o k (by omega) (by omega)) hC⟩, hf2, _, rfl⟩
      · rw [ev 65 48 (by omega) (by omega)]
        exact y_Rw_eq (fun k _ _ => ev 85 k (by omega) (by omega)) hR
      · rw [ev 65 66 (by omega) (by omega), ev 65 67 (by omega) (by omega)]
        exact hau
      · intro j hj hlt
        rw [ev 65 66 (by omega) (by omega), ev 65 67 (by omega) (by omega)] at hlt
        rw [ev 65 48 (by omega) (by omega)]
        exact y_Rw_eq (fun k _ _ => ev 91 _ (by omega) (by omega)) (hrows j hj hlt)
      · intro b hb hne
        rw [ev 65 48 (by omega) (by omega)]
        by_cases e : b = B
        · subst e
          exact y_Rw_eq (fun k hk _ => by rw [y_cp_in (by omega), y_up_ne (by omega)]) hR
        · rw [y_cp_ne (by omega), y_up_ne (by omega)] at hne
          exact y_Rw_eq (fun k hk _ => by rw [y_cp_ne (by omega), y_up_ne (by omega)]) (hbox b hb hne)
  · refine y_if rfl (fun h => absurd rfl h) (fun _ => ?_)
    refine y_run 1 rfl ?_
    exact y_iret rfl ⟨hT, y_fr.rf, _, rfl⟩
theorem y_bk_loop {d B : Nat} {s : y_H} {x : Int32} {Q : Option (q_V Int32) → y_H → Prop} (hx : x.toInt = (B : Int)) (hB : B < 3) (hexit : ∀ ls, q_at ls 0 = some (.inr (.inr 67)) → y_W g_sh g_ts d g_t182 Q 49 ls [] (y_cp s 85 0 (fun k => s.1 105 (28 * B + k)) 28)) : ∀ (c : Nat) (i : Int32) (I : Nat), i.toInt = (I : Int) → I ≤ 28 → 28 - I ≤ c → y_W g_sh g_ts d g_t182 Q 20 [(0, .inr (.inr 67)), (1, .inl x), (2, .inl i)] [] (y_cp s 85 0 (fun k => s.1 105 (28 * B + k)) I) := by
  have em : ((Int8.ofInt 28).toInt32 * x).toInt = ((28 * B : Nat) : Int) := by
    rw [y_ml (by rw [hx]; show _ ≤ (28 : Int) * _; omega) (by rw [hx]; show (28 : Int) * _ ≤ _; omega), hx]
    show (28 : Int) * _ = _
    omega
  intro c
  induction c with
  | zero =>
    intro i I hi hI hc
    refine y_run 2 rfl ?_
    refine y_ic rfl (fun _ => by rw [show I = 28 by omega]; exact hexit _ rfl) (fun h => ?_)
    have h2 : ¬ (28 : Int) ≤ i.toInt := h
    omega
  | succ c ih =>
    intro i I hi hI hc
    have hi1 : (i + (Int32.ofInt 1)).toInt = i.toInt + 1 := y_add (x := i) (y := 1) (by show _ ≤ _ + (1 : Int); omega) (by show _ + (1 : Int) ≤ _; omega)
    refine y_run 2 rfl ?_
    refine y_ic rfl (fun h => ?_) (fun h => ?_)
    · have h2 : (28 : Int) ≤ i.toInt := h
      rw [show I = 28 by omega]
      exact hexit _ rfl
    have h2 : ¬ (28 : Int) ≤ i.toInt := h
    have e28 := y_adds (b := i) em hi (by omega)
    refine y_run 10 rfl ?_
    refine y_ald (o := 105) (sz := 84) (j := 28 * B + I) rfl rfl e28 (by omega) (y_k105 _ (by omega)) ?_
    refine y_ast (o := 85) (sz := 28) (j := I) rfl rfl hi (by omega) (y_k85 _ (by omega)) ?_
    refine y_run 2 rfl ?_
    refine y_sub (ls1 := [(0, .inr (.inr 67)), (1, .inl x), (2, .inl ((i + (Int32.ofInt 1))))]) (show ([0, 1, 2] : List Nat).Nodup by decide) (y_R_cons rfl (y_R_cons rfl (y_R_cons rfl y_R_nil))) ?_
    have e := y_cpS2 (s := s) (o := 85) (b := 0) (n := I) (K := I) (f := fun k => s.1 105 (28 * B + k)) (x := (y_cp s 85 0 (fun k => s.1 105 (28 * B + k)) I).1 105 (28 * B + I)) (by omega) (y_cp_ne (by omega))
    have key := ih (i + (Int32.ofInt 1)) (I + 1) (by rw [hi1, hi]; omega) (by omega) (by omega)
    rw [← e] at key
    exact key
theorem y_backM {n : Nat} : y_C g_sh g_ts 182 2 (fun a s => w_T (y_Vn n) g_sh (y_mk g_sh s) ∧ ∃ x : Int32, a = [.inr (.inr 67), .inl x]) (fun _ s v s2 => y_pubQ n y_unK s v s2) := by
  refine y_C.of (t := g_t182) rfl (by decide) ?_
  rintro d a s hd ⟨hT, x, rfl⟩
  obtain ⟨hFD, ⟨hR, hau, hrows, hbox⟩, hC⟩ := y_VT hT
  have none16 : ∀ ls : q_U Int32, y_W g_sh g_ts d g_t182 (y_pubQ n y_unK s) 16 ls [] s := by
    intro ls
    refine y_run 1 rfl ?_
    exact y_iret rfl ⟨hT, y_fr.rf, _, rfl⟩
  refine y_run 1 rfl ?_
  refine y_callTest y_isBox rfl rfl (by omega) (fun hP => ?_) (fun hP => ?_)
  · refine y_if rfl (fun h => absurd (show (1 : Int) = 0 from h) (by omega)) (fun _ => ?_)
    generalize hB : x.toInt.toNat = B
    have hP1 : 0 ≤ x.toInt ∧ x.toInt < 3 := hP
    refine y_run 3 rfl ?_
    refine y_bald (o := 104) (sz := 3) (j := B) rfl rfl (by omega) (by omega) (y_k104 _ (by omega)) ?_
    refine y_if rfl (fun h => ?_) (fun _ => none16 _)
    have hne : (s.1 104 B).toInt ≠ 0 := h
    refine y_run 2 rfl ?_
    refine y_sub (ls1 := [(0, .inr (.inr 67)), (1, .inl x), (2, .inl ((Int32.ofInt 0)))]) (show ([0, 1, 2] : List Nat).Nodup by decide) (y_R_cons rfl (y_R_cons rfl (y_R_cons rfl y_R_nil))) ?_
    have key := y_bk_loop (d := d) (B := B) (s := s) (x := x) (Q := y_pubQ n y_unK s) (by omega) (by omega) (fun ls l0 => ?_) 28 (Int32.ofInt 0) 0 rfl (by omega) (by omega)
    · rw [y_cp0] at key
      exact key
    · refine y_sub (ls1 := [(0, .inr (.inr 67))]) (show ([0] : List Nat).Nodup by decide) (y_R_cons l0 y_R_nil) ?_
      have hT1 := y_Tc85 (y_t0 hT) (y_row105 hT (j := B) (by omega))
      have hT2 := y_Tup0 (o := 65) (k := 66) (lo := 2147483648) (hi := 2147483688) (x := Int32.ofInt 0) hT1 rfl rfl (show _ ≤ (0 : Int) by omega) (show (0 : Int) ≤ _ by omega)
      have hT3 := y_Tup0 (o := 65) (k := 67) (lo := 2147483648) (hi := 2147483688) (x := Int32.ofInt 0) hT2 rfl rfl (show _ ≤ (0 : Int) by omega) (show (0 : Int) ≤ _ by omega)
      have hf3 := (((y_fr.rf (sh := g_sh) (ms := y_unK) (s := s)).cp (o := 85) (b := 0) (n := 28) (f := fun k => s.1 105 (28 * B + k)) (by decide +kernel)).up (o := 65) (k := 66) (v := .inl (Int32.ofInt 0)) rfl (by decide +kernel)).up (o := 65) (k := 67) (v := .inl (Int32.ofInt 0)) rfl (by decide +kernel)
      refine y_run 9 rfl ?_
      refine y_ald (o := 85) (sz := 28) (j := 26) rfl rfl rfl (by omega) rfl ?_
      have ev : ∀ o k, o ≠ 85 → ¬ (o = 65 ∧ k = 66) → ¬ (o = 65 ∧ k = 67) → (y_up (y_up (y_cp s 85 0 (fun k => s.1 105 (28 * B + k)) 28) 65 66 (.inl (Int32.ofInt 0))) 65 67 (.inl (Int32.ofInt 0))).1 o k = s.1 o k := fun o k h1 h2 h3 => by rw [y_up_ne h3, y_up_ne h2, y_cp_ne (by omega)]
      refine y_iret rfl ⟨y_TV hT3 ⟨y_FD_eq2 (ev 65 18 (by omega) (by omega) (by omega)) (fun i _ => ev 70 i (by omega) (by omega) (by omega)) (fun i _ => ev 71 i (by omega) (by omega) (by omega)) hFD, ⟨?_, ?_, ?_, ?_⟩, y_VC_eq2 (fun o k ho => ev o k (by omega) (by omega) (by omega)) hC⟩, hf3, _, rfl⟩
      · rw [ev 65 48 (by omega) (by omega) (by omega)]
        refine y_Rw_eq (fun k hk _ => ?_) (hbox B (by omega) hne)
        rw [y_up_ne (by omega), y_up_ne (by omega)]
        have e := y_cp_in (s := s) (o := 85) (b := 0) (n := 28) (k := k) (f := fun k => s.1 105 (28 * B + k)) (by omega)
        rw [Nat.zero_add] at e
        exact e
      · rw [y_up_self, y_up_ne (by omega), y_up_self]
        decide
      · intro j hj hlt
        rw [y_up_self, y_up_ne (by omega), y_up_self] at hlt
        have hlt2 : (j : Int) < 0 + 0 := hlt
        omega
      · intro b hb hne
        rw [ev 104 b (by omega) (by omega) (by omega)] at hne
        rw [ev 65 48 (by omega) (by omega) (by omega)]
        exact y_Rw_eq (fun k _ _ => ev 105 _ (by omega) (by omega) (by omega)) (hbox b hb hne)
  · refine y_if rfl (fun _ => none16 _) (fun h => absurd rfl h)
