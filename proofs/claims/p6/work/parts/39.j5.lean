/-! by hand: the model's goMinute -/
abbrev y_g1 : List (Nat × Nat) := [(299072, 299135), (303168, 303173), (352320, 352326), (352328, 352336), (352338, 352343), (352345, 352345), (352347, 352347), (356416, 356418), (368704, 368711)]
abbrev y_g2 : List (Nat × Nat) := [(352329, 352336), (352338, 352343), (356416, 356418), (360512, 360514), (364608, 364615)]
abbrev y_g3 : List (Nat × Nat) := [(352329, 352336), (352338, 352343), (352345, 352345), (356416, 356418), (360512, 360514)]
theorem y_g1su : ∀ R, R < 3 → y_inc (y_suK R) y_g1 = true := by decide +kernel
theorem y_g2fr : ∀ R, R < 3 → y_inc (y_frK R) y_g2 = true := by decide +kernel
theorem y_g3fr : ∀ R, R < 3 → y_inc (y_frK R) y_g3 = true := by decide +kernel
theorem y_suNo : ∀ R, R < 3 → w_inm (y_suK R) (w_key 87 0) = false ∧ (1 ≤ R → w_inm (y_suK R) (w_key 86 18) = false) := by decide +kernel
theorem y_frNo : ∀ R, R < 3 → 1 ≤ R → w_inm (y_frK R) (w_key 87 0) = false ∧ w_inm (y_frK R) (w_key 86 18) = false := by decide +kernel
theorem y_frNo2 : ∀ R, R < 3 → ∀ q, q < 3 → q ≠ R → w_inm (y_frK R) (w_key 86 (18 + q)) = false := by decide +kernel
theorem y_frNo3 : ∀ R, R < 3 → w_inm (y_frK R) (w_key 86 26) = false := by decide +kernel
theorem y_hyk : ∀ j, j < 3 → y_kd g_sh 87 j = 0 := by decide +kernel
theorem y_hypk : ∀ j, j < 3 → w_inm g_pk (w_key 87 j) = false := by decide +kernel
theorem y_g1hy : ∀ j, j < 3 → w_inm y_g1 (w_key 87 j) = true := by decide +kernel
theorem y_g2air : ∀ j, j < 3 → w_inm y_g2 (w_key 86 (21 + j)) = true := by decide +kernel
theorem y_g2st : ∀ j, j < 8 → w_inm y_g2 (w_key 86 (9 + j)) = true ∧ w_inm y_g2 (w_key 89 j) = true := by decide +kernel
theorem y_hyt {j : Nat} (hj : j < 3) : w_ty g_sh 87 j = some (.inl ((2147483648, 2147483708), 0)) := y_tyA (tag := 100) (sz := 3) (A := .inl ((2147483648, 2147483708), 0)) rfl hj
theorem y_hyr {V : w_V} {s : y_H} (hT : w_T V g_sh (y_mk g_sh s)) {j : Nat} (hj : j < 3) : 0 ≤ (s.1 87 j).toInt ∧ (s.1 87 j).toInt ≤ 60 := by
  have h := y_rng (lo := 2147483648) (hi := 2147483708) (g := 0) hT (o := 87) (k := j) (y_hyt hj) (y_hyk j hj)
  omega
/-- what the first loop keeps, behind R rails -/
def y_I1 (V : w_V) (tl : Bool) (s0 : y_H) (R : Nat) (s : y_H) : Prop := w_T V g_sh (y_mk g_sh s) ∧ y_fr g_sh y_g1 s0 s ∧ (s.1 86 8).toInt ≤ (s0.1 86 8).toInt ∧ (tl = false → s.1 86 27 = s0.1 86 27) ∧ (30000 ≤ (s0.1 86 26).toInt → (s0.1 86 18).toInt < 0 → s.1 86 18 = s0.1 86 18 ∧ (R = 0 → s.1 87 0 = s0.1 87 0) ∧ (1 ≤ R → (0 < (s0.1 87 0).toInt → (s.1 87 0).toInt = (s0.1 87 0).toInt - 1) ∧ ((s0.1 87 0).toInt ≤ 0 → (s.1 86 8).toInt = 0)))
section GM
variable {V : w_V} {d : Nat} {r b : Int32} {s0 : y_H} {Q : Option (q_V Int32) → y_H → Prop} {tl : Bool}
theorem y_gm1 (hsails : y_eSails V) (hmiss : y_eMiss V) (hlen : y_eLen V) (hd : 4 ≤ d) (hb : (b = 0 ∧ tl = false) ∨ (b = 1 ∧ tl = true)) {set : Int32} (hexit : ∀ (s : y_H) (R : Nat) (ls : q_U Int32), 1 ≤ R → y_I1 V tl s0 R s → q_at ls 0 = some (.inr (.inr 67)) → q_at ls 2 = some (.inl set) → y_W g_sh g_ts d g_t212 Q 62 ls [] s) : ∀ (n : Nat) (s : y_H) (i : Int32) (R : Nat), y_I1 V tl s0 R s → i.toInt = (R : Int) → R ≤ 3 → (s0.1 65 28).toInt - (R : Int) ≤ (n : Int) → y_W g_sh g_ts d g_t212 Q 4 [(0, .inr (.inr 67)), (1, .inl b), (2, .inl set), (3, .inl i)] [] s := by
  intro n
  induction n with
  | zero =>
    intro s i R hI hi hR hn
    obtain ⟨hT, hf, hm, hsd, hl⟩ := id hI
    have hrl := y_rails hT
    have e28 : s.1 65 28 = s0.1 65 28 := hf.at (o := 65) (k := 28) (A := w_n 1 3 0) rfl rfl (by decide +kernel)
    rw [e28] at hrl
    refine y_run 3 rfl ?_
    refine y_ic rfl (fun _ => hexit s R _ (by omega) hI rfl rfl) (fun h => ?_)
    have h2 : ¬ (s.1 65 28).toInt ≤ i.toInt := h
    rw [e28] at h2
    omega
  | succ n ih =>
    intro s i R hI hi hR hn
    obtain ⟨hT, hf, hm, hsd, hl⟩ := id hI
    have hrl := y_rails hT
    have e28 : s.1 65 28 = s0.1 65 28 := hf.at (o := 65) (k := 28) (A := w_n 1 3 0) rfl rfl (by decide +kernel)
    have e26 : s.1 86 26 = s0.1 86 26 := hf.at (o := 86) (k := 26) (A := w_t 0) rfl rfl (by decide +kernel)
    rw [e28] at hrl
    have h8 := y_air8 hT
    refine y_run 3 rfl ?_
    refine y_ic rfl (fun h => ?_) (fun h => ?_)
    · have h2 : (s.1 65 28).toInt ≤ i.toInt := h
      rw [e28] at h2
      exact hexit s R _ (by omega) hI rfl rfl
    have h2 : ¬ (s.1 65 28).toInt ≤ i.toInt := h
    rw [e28] at h2
    have hR3 : R < 3 := by omega
    have hi1 : (i + Int32.ofInt 1).toInt = i.toInt + 1 := y_add (x := i) (y := 1) (by show _ ≤ _ + (1 : Int); omega) (by show _ + (1 : Int) ≤ _; omega)
    have next : ∀ (s2 : y_H) (ls : q_U Int32), y_I1 V tl s0 (R + 1) s2 → ls = [(0, .inr (.inr 67)), (1, .inl b), (2, .inl set), (3, .inl i)] → y_W g_sh g_ts d g_t212 Q 56 ls [] s2 := by
      rintro s2 ls hI2 rfl
      refine y_run 2 rfl ?_
      refine y_sub (ls1 := [(0, .inr (.inr 67)), (1, .inl b), (2, .inl set), (3, .inl (i + Int32.ofInt 1))]) (show ([0, 1, 2, 3] : List Nat).Nodup by decide) (y_R_cons rfl (y_R_cons rfl (y_R_cons rfl (y_R_cons rfl y_R_nil)))) ?_
      exact ih s2 _ (R + 1) hI2 (by rw [hi1, hi]; omega) (by omega) (by omega)
    -- a rail that is not free is left as it is; one that is: who is next steps up
    have p42 : (0 ≤ (s.1 86 (18 + R)).toInt ∨ (s.1 87 R).toInt ≤ 0) → y_W g_sh g_ts d g_t212 Q 42 [(0, .inr (.inr 67)), (1, .inl b), (2, .inl set), (3, .inl i)] [] s := by
      intro hc
      refine y_run 2 rfl ?_
      refine y_call y_isFree 1 rfl (fun _ _ _ => rfl) (a := [.inr (.inr 67), .inl i]) rfl rfl (fun h hR => y_mayV (o := 65) (sz := 85) rfl hR) (by omega) ⟨i, R, rfl, hi, hR3⟩ (fun v s2 hQ => ?_)
      obtain ⟨rfl, hQ2⟩ := hQ
      rcases hQ2 i R rfl hi with ⟨hfree, rfl⟩ | ⟨hfree, rfl⟩
      · refine y_if rfl (fun h4 => absurd (show (1 : Int) = 0 from h4) (by omega)) (fun _ => ?_)
        refine y_run 3 rfl ?_
        refine y_call (y_stepsUp hsails hmiss hlen) 1 rfl (fun _ _ _ => rfl) (a := [.inr (.inr 67), .inl i, .inl b]) rfl rfl (fun h hR => y_mayV (o := 65) (sz := 85) rfl hR) hd ⟨hT, i, b, R, tl, rfl, hi, hR3, hb⟩ (fun v s3 hQ => ?_)
        obtain ⟨rfl, hT3, hf3, hm3, hl3, hsd3⟩ := hQ i b R tl rfl hi hb
        have h83 := y_air8 hT3
        have e87 : s3.1 87 0 = s2.1 87 0 := hf3.at (o := 87) (k := 0) (y_hyt (by omega)) rfl (y_suNo R hR3).1
        refine next s3 _ ⟨hT3, hf.tr (hf3.mono (y_g1su R hR3)), by omega, fun q => (hsd3 q).trans (hsd q), fun q1 q2 => ?_⟩ rfl
        obtain ⟨c1, c2, c3⟩ := hl q1 q2
        obtain ⟨d1, d2⟩ := hl3 (by rw [e26]; exact q1)
        rcases Nat.eq_zero_or_pos R with hR0 | hR0
        · subst hR0
          refine ⟨d2.trans c1, fun q => by omega, fun _ => ⟨fun q => ?_, fun _ => d1⟩⟩
          have := c2 rfl
          rcases hc with hc | hc
          · have hc2 : 0 ≤ (s2.1 86 18).toInt := hc
            rw [c1] at hc2
            omega
          · rw [this] at hc
            omega
        · have e18 : s3.1 86 18 = s2.1 86 18 := hf3.at (o := 86) (k := 18) (y_airr 0 (by omega)) rfl ((y_suNo R hR3).2 hR0)
          refine ⟨e18.trans c1, fun q => by omega, fun _ => ⟨fun q => ?_, fun q => ?_⟩⟩
          · rw [e87]
            exact (c3 hR0).1 q
          · have := (c3 hR0).2 q
            omega
      · refine y_if rfl (fun _ => ?_) (fun h4 => absurd rfl h4)
        refine next s2 _ ⟨hT, hf, hm, hsd, fun q1 q2 => ?_⟩ rfl
        obtain ⟨c1, c2, c3⟩ := hl q1 q2
        rcases Nat.eq_zero_or_pos R with hR0 | hR0
        · subst hR0
          have hc2 : 0 ≤ (s2.1 86 18).toInt := hfree
          rw [c1] at hc2
          omega
        · exact ⟨c1, fun q => by omega, fun _ => c3 hR0⟩
    refine y_run 2 rfl ?_
    refine y_call y_isFree 1 rfl (fun _ _ _ => rfl) (a := [.inr (.inr 67), .inl i]) rfl rfl (fun h hR => y_mayV (o := 65) (sz := 85) rfl hR) (by omega) ⟨i, R, rfl, hi, hR3⟩ (fun v s2 hQ => ?_)
    obtain ⟨rfl, hQ2⟩ := hQ
    rcases hQ2 i R rfl hi with ⟨hfree, rfl⟩ | ⟨hfree, rfl⟩
    · refine y_if rfl (fun h4 => absurd (show (1 : Int) = 0 from h4) (by omega)) (fun _ => ?_)
      refine y_run 3 rfl ?_
      refine y_ald (o := 87) (sz := 3) (j := R) rfl rfl hi hR3 (y_hyk R hR3) ?_
      have hy := y_hyr hT hR3
      refine y_if rfl (fun h4 => p42 (Or.inr h4)) (fun h4 => ?_)
      have h5 : ¬ (s2.1 87 R).toInt ≤ 0 := h4
      refine y_run 4 rfl ?_
      refine y_ald (o := 87) (sz := 3) (j := R) rfl rfl hi hR3 (y_hyk R hR3) ?_
      have hsb : (s2.1 87 R - Int32.ofInt 1).toInt = (s2.1 87 R).toInt - 1 := y_sb (x := s2.1 87 R) (y := 1) (by show _ ≤ _ - (1 : Int); omega) (by show _ - (1 : Int) ≤ _; omega)
      refine y_run 2 rfl ?_
      refine y_ast (o := 87) (sz := 3) (j := R) rfl rfl hi hR3 (y_hyk R hR3) ?_
      refine y_run 1 rfl ?_
      refine next _ _ ⟨y_Tup (lo := 2147483648) (hi := 2147483708) (g := 0) hT (y_hyt hR3) (y_hyk R hR3) (y_hypk R hR3) (by rw [hsb]; omega) (by rw [hsb]; omega), hf.up (y_hyk R hR3) (y_g1hy R hR3), ?_, ?_, fun q1 q2 => ?_⟩ rfl
      · rw [y_up_ne (by omega)]
        exact hm
      · intro q
        rw [y_up_ne (by omega)]
        exact hsd q
      · obtain ⟨c1, c2, c3⟩ := hl q1 q2
        rcases Nat.eq_zero_or_pos R with hR0 | hR0
        · subst hR0
          refine ⟨by rw [y_up_ne (by omega)]; exact c1, fun q => by omega, fun _ => ⟨fun q => ?_, fun q => ?_⟩⟩
          · rw [y_up_self, hsb, c2 rfl]
          · have h6 := h5
            rw [c2 rfl] at h6
            omega
        · refine ⟨by rw [y_up_ne (by omega)]; exact c1, fun q => by omega, fun _ => ⟨fun q => ?_, fun q => ?_⟩⟩
          · rw [y_up_ne (by omega)]
            exact (c3 hR0).1 q
          · rw [y_up_ne (by omega)]
            exact (c3 hR0).2 q
    · refine y_if rfl (fun _ => p42 (Or.inl hfree)) (fun h4 => absurd rfl h4)
end GM
