/-! by hand: the model's exchangeAt, undo, redo, image, back -/
def y_xc (s : y_H) (A n : Nat) : y_H := (fun o k => if o = 91 ∧ 28 * A ≤ k ∧ k < 28 * A + n then s.1 85 (k - 28 * A) else if o = 85 ∧ k < n then s.1 91 (28 * A + k) else s.1 o k, s.2)
theorem y_xc0 {s : y_H} {A : Nat} : y_xc s A 0 = s := by
  refine Prod.ext ?_ rfl
  funext o k
  unfold y_xc
  dsimp only
  rw [if_neg (by omega), if_neg (by omega)]
theorem y_xc_w {s : y_H} {A n k : Nat} (hk : k < n) : (y_xc s A n).1 91 (28 * A + k) = s.1 85 k := by
  unfold y_xc
  dsimp only
  rw [if_pos (by omega), show 28 * A + k - 28 * A = k by omega]
theorem y_xc_n {s : y_H} {A n k : Nat} (hk : k < n) : (y_xc s A n).1 85 k = s.1 91 (28 * A + k) := by
  unfold y_xc
  dsimp only
  rw [if_neg (by omega), if_pos (by omega)]
theorem y_xc_ne {s : y_H} {A n o k : Nat} (h1 : ¬ (o = 91 ∧ 28 * A ≤ k ∧ k < 28 * A + n)) (h2 : ¬ (o = 85 ∧ k < n)) : (y_xc s A n).1 o k = s.1 o k := by
  unfold y_xc
  dsimp only
  rw [if_neg h1, if_neg h2]
theorem y_xcS {s : y_H} {A n : Nat} : y_up (y_up (y_xc s A n) 91 (28 * A + n) (.inl (s.1 85 n))) 85 n (.inl (s.1 91 (28 * A + n))) = y_xc s A (n + 1) := by
  refine Prod.ext ?_ rfl
  funext o k
  by_cases h1 : o = 85 ∧ k = n
  · obtain ⟨rfl, rfl⟩ := h1
    rw [y_up_self, y_xc_n (by omega)]
  · rw [y_up_ne h1]
    by_cases h2 : o = 91 ∧ k = 28 * A + n
    · obtain ⟨rfl, rfl⟩ := h2
      rw [y_up_self, y_xc_w (by omega)]
    · rw [y_up_ne h2]
      by_cases h3 : o = 91 ∧ 28 * A ≤ k ∧ k < 28 * A + n
      · obtain ⟨rfl, h4, h5⟩ := h3
        obtain ⟨j, rfl⟩ : ∃ j, k = 28 * A + j := ⟨k - 28 * A, by omega⟩
        rw [y_xc_w (by omega), y_xc_w (by omega)]
      · by_cases h4 : o = 85 ∧ k < n
        · obtain ⟨rfl, h5⟩ := h4
          rw [y_xc_n h5, y_xc_n (by omega)]
        · rw [y_xc_ne h3 h4, y_xc_ne (by omega) (by omega)]
theorem y_ex_loop {d A : Nat} {s : y_H} {x : Int32} (hx : x.toInt = ((28 * A : Nat) : Int)) (hA : A < 40) : ∀ (c : Nat) (i : Int32) (I : Nat), i.toInt = (I : Int) → I ≤ 28 → 28 - I ≤ c → y_W g_sh g_ts d g_t199 (fun v s2 => v = none ∧ s2 = y_xc s A 28) 2 [(0, .inr (.inr 67)), (1, .inl x), (2, .inl i)] [] (y_xc s A I) := by
  intro c
  induction c with
  | zero =>
    intro i I hi hI hc
    refine y_run 2 rfl ?_
    refine y_ic rfl (fun _ => y_vret rfl ⟨rfl, by rw [show I = 28 by omega]⟩) (fun h => ?_)
    have h2 : ¬ (28 : Int) ≤ i.toInt := h
    omega
  | succ c ih =>
    intro i I hi hI hc
    have hi1 : (i + (Int32.ofInt 1)).toInt = i.toInt + 1 := y_add (x := i) (y := 1) (by show _ ≤ _ + (1 : Int); omega) (by show _ + (1 : Int) ≤ _; omega)
    refine y_run 2 rfl ?_
    refine y_ic rfl (fun h => ?_) (fun h => ?_)
    · have h2 : (28 : Int) ≤ i.toInt := h
      exact y_vret rfl ⟨rfl, by rw [show I = 28 by omega]⟩
    have h2 : ¬ (28 : Int) ≤ i.toInt := h
    have e28 := y_adds (a := x) (b := i) hx hi (by omega)
    refine y_run 5 rfl ?_
    refine y_ald (o := 91) (sz := 1120) (j := 28 * A + I) rfl rfl e28 (by omega) (y_k91 _ (by omega)) ?_
    rw [y_xc_ne (by omega) (by omega)]
    refine y_run 9 rfl ?_
    refine y_ald (o := 85) (sz := 28) (j := I) rfl rfl hi (by omega) (y_k85 _ (by omega)) ?_
    rw [y_xc_ne (by omega) (by omega)]
    refine y_ast (o := 91) (sz := 1120) (j := 28 * A + I) rfl rfl e28 (by omega) (y_k91 _ (by omega)) ?_
    refine y_run 4 rfl ?_
    refine y_ast (o := 85) (sz := 28) (j := I) rfl rfl hi (by omega) (y_k85 _ (by omega)) ?_
    refine y_run 2 rfl ?_
    refine y_sub (ls1 := [(0, .inr (.inr 67)), (1, .inl x), (2, .inl ((i + (Int32.ofInt 1))))]) (show ([0, 1, 2] : List Nat).Nodup by decide) (y_R_cons rfl (y_R_cons rfl (y_R_cons rfl y_R_nil))) ?_
    have key := ih (i + (Int32.ofInt 1)) (I + 1) (by rw [hi1, hi]; omega) (by omega) (by omega)
    rw [← y_xcS (n := I)] at key
    exact key
theorem y_exchangeAt : y_C g_sh g_ts 199 1 (fun a _ => ∃ (x : Int32) (A : Nat), a = [.inr (.inr 67), .inl x] ∧ x.toInt = ((28 * A : Nat) : Int) ∧ A < 40) (fun a s v s2 => ∀ (x : Int32) (A : Nat), a = [.inr (.inr 67), .inl x] → x.toInt = ((28 * A : Nat) : Int) → v = none ∧ s2 = y_xc s A 28) := by
  refine y_C.of (t := g_t199) rfl (by decide) ?_
  rintro d a s hd ⟨x, A, rfl, hx, hA⟩
  have key : y_W g_sh g_ts d g_t199 (fun v s2 => v = none ∧ s2 = y_xc s A 28) 0 (q_args 0 [.inr (.inr 67), .inl x]) [] s := by
    refine y_run 2 rfl ?_
    refine y_sub (ls1 := [(0, .inr (.inr 67)), (1, .inl x), (2, .inl ((Int32.ofInt 0)))]) (show ([0, 1, 2] : List Nat).Nodup by decide) (y_R_cons rfl (y_R_cons rfl (y_R_cons rfl y_R_nil))) ?_
    have key := y_ex_loop (d := d) (s := s) hx hA 28 (Int32.ofInt 0) 0 rfl (by omega) (by omega)
    rw [y_xc0] at key
    exact key
  intro h ns hR
  obtain ⟨v, h2, s2, he, hR2, hQ⟩ := key h ns hR
  refine ⟨v, h2, s2, he, hR2, fun x2 A2 e hx2 => ?_⟩
  cases e
  have e3 : A2 = A := by omega
  subst e3
  exact hQ
theorem y_Txc {s : y_H} {A : Nat} (hA : A < 40) (hT : w_T y_V0 g_sh (y_mk g_sh s)) : w_T y_V0 g_sh (y_mk g_sh (y_xc s A 28)) := by
  refine y_T0of hT ?_
  intro o k B hB
  by_cases h3 : o = 91 ∧ 28 * A ≤ k ∧ k < 28 * A + 28
  · obtain ⟨rfl, h4, h5⟩ := h3
    obtain ⟨j, rfl⟩ : ∃ j, k = 28 * A + j := ⟨k - 28 * A, by omega⟩
    obtain ⟨lo, hi, e, r1, r2⟩ := y_row85 hT j (by omega)
    rw [y_ty91 hA (by omega), e] at hB
    cases hB
    exact Or.inr ⟨lo, hi, rfl, y_k91 _ (by omega), by rw [y_xc_w (by omega)]; exact r1, by rw [y_xc_w (by omega)]; exact r2⟩
  · by_cases h4 : o = 85 ∧ k < 28
    · obtain ⟨rfl, h5⟩ := h4
      obtain ⟨lo, hi, e, r1, r2⟩ := y_row91 hT hA k h5
      rw [e] at hB
      cases hB
      exact Or.inr ⟨lo, hi, rfl, y_k85 _ (by omega), by rw [y_xc_n (by omega)]; exact r1, by rw [y_xc_n (by omega)]; exact r2⟩
    · exact Or.inl (y_mk_eq (y_xc_ne h3 h4) rfl)
theorem y_fr.xc {ms : List (Nat × Nat)} {s s2 : y_H} {A : Nat} (h : y_fr g_sh ms s s2) (hA : A < 40) (hm : w_inr ms (w_key 91 0) (w_key 91 1119) = true) (hm2 : w_inr ms (w_key 85 0) (w_key 85 27) = true) : y_fr g_sh ms s (y_xc s2 A 28) := by
  intro o k B hB hn
  by_cases h3 : o = 91 ∧ 28 * A ≤ k ∧ k < 28 * A + 28
  · obtain ⟨rfl, h4, h5⟩ := h3
    rw [w_inr_ok hm (w_key_le (by omega)) (w_key_le (by omega))] at hn
    cases hn
  · by_cases h4 : o = 85 ∧ k < 28
    · obtain ⟨rfl, h5⟩ := h4
      rw [w_inr_ok hm2 (w_key_le (by omega)) (w_key_le (by omega))] at hn
      cases hn
    · rw [y_mk_eq (y_xc_ne h3 h4) rfl]
      exact h o k B hB hn
theorem y_V1xc {n A : Nat} {s : y_H} {g : Nat → Nat → Int32} (hV : y_V1 n s.1) (hA : A < 40) (hlt : (A : Int) < (s.1 65 66).toInt + (s.1 65 67).toInt) (hg : ∀ o k, ¬ (o = 65 ∧ k = 66) → ¬ (o = 65 ∧ k = 67) → g o k = (y_xc s A 28).1 o k) (h66 : 0 ≤ (g 65 66).toInt) (h67 : 0 ≤ (g 65 67).toInt) (hs : (g 65 66).toInt + (g 65 67).toInt = (s.1 65 66).toInt + (s.1 65 67).toInt) : y_V1 n g := by
  obtain ⟨hFD, ⟨hR, ⟨ha0, hu0, hau⟩, hrows, hbox⟩, hC⟩ := hV
  have ev : ∀ o k, ¬ (o = 65 ∧ k = 66) → ¬ (o = 65 ∧ k = 67) → o ≠ 91 → o ≠ 85 → g o k = s.1 o k := fun o k h1 h2 h3 h4 => by rw [hg o k h1 h2, y_xc_ne (by omega) (by omega)]
  refine ⟨y_FD_eq2 (ev 65 18 (by omega) (by omega) (by omega) (by omega)) (fun i _ => ev 70 i (by omega) (by omega) (by omega) (by omega)) (fun i _ => ev 71 i (by omega) (by omega) (by omega) (by omega)) hFD, ⟨?_, ⟨h66, h67, by omega⟩, ?_, ?_⟩, y_VC_eq2 (fun o k ho => ev o k (by omega) (by omega) (by omega) (by omega)) hC⟩
  · rw [ev 65 48 (by omega) (by omega) (by omega) (by omega)]
    exact y_Rw_eq (fun k hk _ => by rw [hg 85 k (by omega) (by omega), y_xc_n (by omega)]) (hrows A hA hlt)
  · intro j hj hj2
    rw [hs] at hj2
    rw [ev 65 48 (by omega) (by omega) (by omega) (by omega)]
    by_cases e : j = A
    · subst e
      exact y_Rw_eq (fun k hk _ => by rw [hg 91 _ (by omega) (by omega), y_xc_w (by omega)]) hR
    · exact y_Rw_eq (fun k hk _ => by rw [hg 91 _ (by omega) (by omega), y_xc_ne (by omega) (by omega)]) (hrows j hj hj2)
  · intro b hb hne
    rw [ev 104 b (by omega) (by omega) (by omega) (by omega)] at hne
    rw [ev 65 48 (by omega) (by omega) (by omega) (by omega)]
    exact y_Rw_eq (fun k hk _ => ev 105 _ (by omega) (by omega) (by omega) (by omega)) (hbox b hb hne)
/-- what a public method that answers an int is to do -/
def y_pubQ (n : Nat) (ms : List (Nat × Nat)) (s : y_H) (v : Option (q_V Int32)) (s2 : y_H) : Prop := w_T (y_Vn n) g_sh (y_mk g_sh s2) ∧ y_fr g_sh ms s s2 ∧ ∃ x : Int32, v = some (.inl x)
abbrev y_unK : List (Nat × Nat) := [(266370, 266371), (348224, 348251), (372800, 373919)]
theorem y_undoM {n : Nat} : y_C g_sh g_ts 315 2 (fun a s => w_T (y_Vn n) g_sh (y_mk g_sh s) ∧ a = [.inr (.inr 67)]) (fun _ s v s2 => y_pubQ n y_unK s v s2) := by
  refine y_C.of (t := g_t315) rfl (by decide) ?_
  rintro d a s hd ⟨hT, rfl⟩
  have hV := y_VT hT
  obtain ⟨ha0, hu0, hau⟩ := hV.2.1.2.1
  refine y_run 2 rfl ?_
  refine y_if rfl (fun h => ?_) (fun _ => ?_)
  · have h2 : (s.1 65 66).toInt ≠ 0 := h
    generalize hA : (s.1 65 66).toInt.toNat - 1 = A
    have h1 : (s.1 65 66 - (Int32.ofInt 1)).toInt = (A : Int) := by
      rw [y_sb (x := s.1 65 66) (y := (Int32.ofInt 1)) (by show _ ≤ _ - (1 : Int); omega) (by show _ - (1 : Int) ≤ _; omega)]
      show _ - (1 : Int) = _
      omega
    have h3 : (s.1 65 67 + (Int32.ofInt 1)).toInt = (s.1 65 67).toInt + 1 := y_add (x := s.1 65 67) (y := 1) (by show _ ≤ _ + (1 : Int); omega) (by show _ + (1 : Int) ≤ _; omega)
    have hT2 := y_Tup0 (o := 65) (k := 66) (lo := 2147483648) (hi := 2147483688) (x := s.1 65 66 - (Int32.ofInt 1)) (y_t0 hT) rfl rfl (by omega) (by omega)
    have hT3 := y_Tup0 (o := 65) (k := 67) (lo := 2147483648) (hi := 2147483688) (x := s.1 65 67 + (Int32.ofInt 1)) hT2 rfl rfl (by omega) (by omega)
    have hf3 := ((y_fr.rf (sh := g_sh) (ms := y_unK) (s := s)).up (o := 65) (k := 66) (v := .inl (s.1 65 66 - (Int32.ofInt 1))) rfl (by decide +kernel)).up (o := 65) (k := 67) (v := .inl (s.1 65 67 + (Int32.ofInt 1))) rfl (by decide +kernel)
    have em : ((Int8.ofInt 28).toInt32 * (s.1 65 66 - (Int32.ofInt 1))).toInt = ((28 * A : Nat) : Int) := by
      rw [y_ml (by rw [h1]; show _ ≤ (28 : Int) * _; omega) (by rw [h1]; show (28 : Int) * _ ≤ _; omega), h1]
      show (28 : Int) * _ = _
      omega
    refine y_run 17 rfl ?_
    rw [show (y_up s 65 66 (.inl (s.1 65 66 - (Int32.ofInt 1)))).1 65 67 = s.1 65 67 from y_up_ne (by omega)]
    refine y_call y_exchangeAt 1 rfl (fun _ _ _ => rfl) (a := [.inr (.inr 67), .inl (((Int8.ofInt 28).toInt32 * (s.1 65 66 - (Int32.ofInt 1))))]) rfl rfl (fun h hR => y_mayV (o := 65) (sz := 85) rfl hR) (by omega) ⟨_, A, rfl, em, by omega⟩ (fun v s2 hQ => ?_)
    obtain ⟨rfl, rfl⟩ := hQ _ A rfl em
    refine y_run 1 rfl ?_
    refine y_bret rfl (Or.inr rfl) ⟨y_TV (y_Txc (by omega) hT3) ?_, hf3.xc (by omega) (by decide +kernel) (by decide +kernel), _, rfl⟩
    refine y_V1xc (A := A) hV (by omega) (by omega) (fun o k q1 q2 => ?_) ?_ ?_ ?_
    · by_cases e1 : o = 91 ∧ 28 * A ≤ k ∧ k < 28 * A + 28
      · obtain ⟨rfl, e2, e3⟩ := e1
        obtain ⟨j, rfl⟩ : ∃ j, k = 28 * A + j := ⟨k - 28 * A, by omega⟩
        rw [y_xc_w (by omega), y_xc_w (by omega), y_up_ne (by omega), y_up_ne (by omega)]
      · by_cases e2 : o = 85 ∧ k < 28
        · obtain ⟨rfl, e3⟩ := e2
          rw [y_xc_n e3, y_xc_n e3]
          exact (y_up_ne (show ¬ (91 = 65 ∧ 28 * A + k = 67) by omega)).trans (y_up_ne (show ¬ (91 = 65 ∧ 28 * A + k = 66) by omega))
        · rw [y_xc_ne e1 e2, y_xc_ne e1 e2, y_up_ne q2, y_up_ne q1]
    · rw [y_xc_ne (by omega) (by omega), y_up_ne (by omega), y_up_self, h1]
      omega
    · rw [y_xc_ne (by omega) (by omega), y_up_self, h3]
      omega
    · rw [y_xc_ne (by omega) (by omega), y_xc_ne (by omega) (by omega), y_up_self, y_up_ne (by omega), y_up_self, h1, h3]
      omega
  · refine y_run 1 rfl ?_
    exact y_bret rfl (Or.inl rfl) ⟨hT, y_fr.rf, _, rfl⟩
theorem y_redoM {n : Nat} : y_C g_sh g_ts 285 2 (fun a s => w_T (y_Vn n) g_sh (y_mk g_sh s) ∧ a = [.inr (.inr 67)]) (fun _ s v s2 => y_pubQ n y_unK s v s2) := by
  refine y_C.of (t := g_t285) rfl (by decide) ?_
  rintro d a s hd ⟨hT, rfl⟩
  have hV := y_VT hT
  obtain ⟨ha0, hu0, hau⟩ := hV.2.1.2.1
  refine y_run 2 rfl ?_
  refine y_if rfl (fun h => ?_) (fun _ => ?_)
  · have h2 : (s.1 65 67).toInt ≠ 0 := h
    generalize hA : (s.1 65 66).toInt.toNat = A
    have em : ((Int8.ofInt 28).toInt32 * s.1 65 66).toInt = ((28 * A : Nat) : Int) := by
      rw [y_ml (by show _ ≤ (28 : Int) * _; omega) (by show (28 : Int) * _ ≤ _; omega)]
      show (28 : Int) * _ = _
      omega
    refine y_run 5 rfl ?_
    refine y_call y_exchangeAt 1 rfl (fun _ _ _ => rfl) (a := [.inr (.inr 67), .inl (((Int8.ofInt 28).toInt32 * s.1 65 66))]) rfl rfl (fun h hR => y_mayV (o := 65) (sz := 85) rfl hR) (by omega) ⟨_, A, rfl, em, by omega⟩ (fun v s2 hQ => ?_)
    obtain ⟨rfl, rfl⟩ := hQ _ A rfl em
    have ea : (y_xc s A 28).1 65 66 = s.1 65 66 := y_xc_ne (by omega) (by omega)
    have eu : (y_xc s A 28).1 65 67 = s.1 65 67 := y_xc_ne (by omega) (by omega)
    have h1 : ((y_xc s A 28).1 65 66 + (Int32.ofInt 1)).toInt = (A : Int) + 1 := by
      rw [ea, show (A : Int) = (s.1 65 66).toInt by omega]
      exact y_add (x := s.1 65 66) (y := 1) (by show _ ≤ _ + (1 : Int); omega) (by show _ + (1 : Int) ≤ _; omega)
    have h3 : ((y_xc s A 28).1 65 67 - (Int32.ofInt 1)).toInt = (s.1 65 67).toInt - 1 := by
      rw [eu, y_sb (x := s.1 65 67) (y := (Int32.ofInt 1)) (by show _ ≤ _ - (1 : Int); omega) (by show _ - (1 : Int) ≤ _; omega)]
      rfl
    have hT1 := y_Txc (s := s) (A := A) (by omega) (y_t0 hT)
    have hT2 := y_Tup0 (o := 65) (k := 66) (lo := 2147483648) (hi := 2147483688) (x := (y_xc s A 28).1 65 66 + (Int32.ofInt 1)) hT1 rfl rfl (by omega) (by omega)
    have hT3 := y_Tup0 (o := 65) (k := 67) (lo := 2147483648) (hi := 2147483688) (x := (y_xc s A 28).1 65 67 - (Int32.ofInt 1)) hT2 rfl rfl (by omega) (by omega)
    have hf3 := (((y_fr.rf (sh := g_sh) (ms := y_unK) (s := s)).xc (A := A) (by omega) (by decide +kernel) (by decide +kernel)).up (o := 65) (k := 66) (v := .inl ((y_xc s A 28).1 65 66 + (Int32.ofInt 1))) rfl (by decide +kernel)).up (o := 65) (k := 67) (v := .inl ((y_xc s A 28).1 65 67 - (Int32.ofInt 1))) rfl (by decide +kernel)
    refine y_run 13 rfl ?_
    rw [show (y_up (y_xc s A 28) 65 66 (.inl ((y_xc s A 28).1 65 66 + (Int32.ofInt 1)))).1 65 67 = (y_xc s A 28).1 65 67 from y_up_ne (by omega)]
    refine y_bret rfl (Or.inr rfl) ⟨y_TV hT3 ?_, hf3, _, rfl⟩
    refine y_V1xc (A := A) hV (by omega) (by omega) (fun o k q1 q2 => ?_) ?_ ?_ ?_
    · rw [y_up_ne q2, y_up_ne q1]
    · rw [y_up_ne (by omega), y_up_self, h1]
      omega
    · rw [y_up_self, h3]
      omega
    · rw [y_up_self, y_up_ne (by omega), y_up_self, h1, h3]
      omega
  · refine y_run 1 rfl ?_
    exact y_bret rfl (Or.inl rfl) ⟨hT, y_fr.rf, _, rfl⟩

theorem y_isBox : y_test 224 (fun c => 0 ≤ c ∧ c < 3) := by
  refine y_C.of (t := g_t224) rfl (by decide) ?_
  rintro d a s - ⟨c, rfl⟩
  refine y_run 1 rfl ?_
  refine y_if rfl (fun hc => ?_) (fun hc => ?_)
  · have hc2 : c.toInt < 0 := hc
    refine y_run 1 rfl ?_
    exact y_bret rfl (Or.inl rfl) ⟨rfl, 0, rfl, fun c2 h => by cases h; exact Or.inr ⟨rfl, fun q => by omega⟩⟩
  · have hc2 : ¬ c.toInt < 0 := hc
    refine y_run 2 rfl ?_
    refine y_ic rfl (fun hd => ?_) (fun hd => ?_)
    · have hd2 : 3 ≤ c.toInt := hd
      refine y_run 1 rfl ?_
      exact y_bret rfl (Or.inl rfl) ⟨rfl, 0, rfl, fun c2 h => by cases h; exact Or.inr ⟨rfl, fun q => by omega⟩⟩
    · have hd2 : ¬ 3 ≤ c.toInt := hd
      refine y_run 2 rfl ?_
      exact y_bret rfl (Or.inr rfl) ⟨rfl, 1, rfl, fun c2 h => by cases h; exact Or.inl ⟨rfl, by omega, by omega⟩⟩
