/-! by hand: goMinute keeps the model's state; the model's minute -/
theorem y_suNo2 : ∀ R, R < 3 → w_inm (y_suK R) (w_key 86 26) = false := by decide +kernel
section GMA
variable {V : w_V} {d : Nat} {b : Int32} {s0 s1 : y_H} {Q : Option (q_V Int32) → y_H → Prop} {m : Int}
def y_gI (V : w_V) (m : Int) (ms : List (Nat × Nat)) (s0 s : y_H) : Prop := w_T V g_sh (y_mk g_sh s) ∧ y_fr g_sh ms s0 s ∧ y_AI m (s.1 86)
theorem y_gA1 (hsails : y_eSails V) (hlen : y_eLen V) (hd : 4 ≤ d) {set : Int32} (hexit : ∀ (s : y_H) (ls : q_U Int32), y_gI V m y_g1 s0 s → q_at ls 0 = some (.inr (.inr 67)) → q_at ls 2 = some (.inl set) → y_W g_sh g_ts d g_t212 Q 62 ls [] s) : ∀ (n : Nat) (s : y_H) (i : Int32) (R : Nat), y_gI V m y_g1 s0 s → i.toInt = (R : Int) → R ≤ 3 → 3 - R ≤ n → y_W g_sh g_ts d g_t212 Q 4 [(0, .inr (.inr 67)), (1, .inl b), (2, .inl set), (3, .inl i)] [] s := by
  intro n
  induction n with
  | zero =>
    intro s i R hI hi hR hn
    have hrl := y_rails hI.1
    refine y_run 3 rfl ?_
    refine y_ic rfl (fun _ => hexit s _ hI rfl rfl) (fun h => ?_)
    have h2 : ¬ (s.1 65 28).toInt ≤ i.toInt := h
    omega
  | succ n ih =>
    intro s i R hI hi hR hn
    obtain ⟨hT, hf, hA⟩ := id hI
    have hrl := y_rails hT
    refine y_run 3 rfl ?_
    refine y_ic rfl (fun _ => hexit s _ hI rfl rfl) (fun h => ?_)
    have h2 : ¬ (s.1 65 28).toInt ≤ i.toInt := h
    have hR3 : R < 3 := by omega
    have hi1 : (i + (Int32.ofInt 1)).toInt = i.toInt + 1 := y_add (x := i) (y := 1) (by show _ ≤ _ + (1 : Int); omega) (by show _ + (1 : Int) ≤ _; omega)
    have next : ∀ (s2 : y_H) (ls : q_U Int32), y_gI V m y_g1 s0 s2 → ls = [(0, .inr (.inr 67)), (1, .inl b), (2, .inl set), (3, .inl i)] → y_W g_sh g_ts d g_t212 Q 56 ls [] s2 := by
      rintro s2 ls hI2 rfl
      refine y_run 2 rfl ?_
      refine y_sub (ls1 := [(0, .inr (.inr 67)), (1, .inl b), (2, .inl set), (3, .inl ((i + (Int32.ofInt 1))))]) (show ([0, 1, 2, 3] : List Nat).Nodup by decide) (y_R_cons rfl (y_R_cons rfl (y_R_cons rfl (y_R_cons rfl y_R_nil)))) ?_
      exact ih s2 _ (R + 1) hI2 (by rw [hi1, hi]; omega) (by omega) (by omega)
    have p42 : y_W g_sh g_ts d g_t212 Q 42 [(0, .inr (.inr 67)), (1, .inl b), (2, .inl set), (3, .inl i)] [] s := by
      refine y_run 2 rfl ?_
      refine y_call y_isFree 1 rfl (fun _ _ _ => rfl) (a := [.inr (.inr 67), .inl i]) rfl rfl (fun h hR => y_mayV (o := 65) (sz := 85) rfl hR) (by omega) ⟨i, R, rfl, hi, hR3⟩ (fun v s2 hQ => ?_)
      obtain ⟨rfl, hQ2⟩ := hQ
      rcases hQ2 i R rfl hi with ⟨hfree, rfl⟩ | ⟨hfree, rfl⟩
      · refine y_if rfl (fun h4 => absurd (show (1 : Int) = 0 from h4) (by omega)) (fun _ => ?_)
        refine y_run 3 rfl ?_
        refine y_call (y_stepsUpA hsails hlen m) 1 rfl (fun _ _ _ => rfl) (a := [.inr (.inr 67), .inl i, .inl b]) rfl rfl (fun h hR => y_mayV (o := 65) (sz := 85) rfl hR) hd ⟨hT, hA, i, b, R, rfl, hi, hR3, hfree⟩ (fun v s3 hQ => ?_)
        obtain ⟨rfl, hT3, hf3, hA3⟩ := hQ i b R rfl hi
        exact next s3 _ ⟨hT3, hf.tr (hf3.mono (y_g1su R hR3)), hA3⟩ rfl
      · refine y_if rfl (fun _ => ?_) (fun h4 => absurd rfl h4)
        exact next s2 _ hI rfl
    refine y_run 2 rfl ?_
    refine y_call y_isFree 1 rfl (fun _ _ _ => rfl) (a := [.inr (.inr 67), .inl i]) rfl rfl (fun h hR => y_mayV (o := 65) (sz := 85) rfl hR) (by omega) ⟨i, R, rfl, hi, hR3⟩ (fun v s2 hQ => ?_)
    obtain ⟨rfl, hQ2⟩ := hQ
    rcases hQ2 i R rfl hi with ⟨hfree, rfl⟩ | ⟨hfree, rfl⟩
    · refine y_if rfl (fun h4 => absurd (show (1 : Int) = 0 from h4) (by omega)) (fun _ => ?_)
      refine y_run 3 rfl ?_
      refine y_ald (o := 87) (sz := 3) (j := R) rfl rfl hi hR3 (y_hyk R hR3) ?_
      have hy := y_hyr hT hR3
      refine y_if rfl (fun _ => p42) (fun h4 => ?_)
      have h5 : ¬ (s2.1 87 R).toInt ≤ 0 := h4
      refine y_run 4 rfl ?_
      refine y_ald (o := 87) (sz := 3) (j := R) rfl rfl hi hR3 (y_hyk R hR3) ?_
      have hsb : (s2.1 87 R - (Int32.ofInt 1)).toInt = (s2.1 87 R).toInt - 1 := y_sb (x := s2.1 87 R) (y := 1) (by show _ ≤ _ - (1 : Int); omega) (by show _ - (1 : Int) ≤ _; omega)
      refine y_run 2 rfl ?_
      refine y_ast (o := 87) (sz := 3) (j := R) rfl rfl hi hR3 (y_hyk R hR3) ?_
      refine y_run 1 rfl ?_
      refine next _ _ ⟨y_Tup (lo := 2147483648) (hi := 2147483708) (g := 0) hT (y_hyt hR3) (y_hyk R hR3) (y_hypk R hR3) (by rw [hsb]; omega) (by rw [hsb]; omega), hf.up (y_hyk R hR3) (y_g1hy R hR3), y_AI_eq (fun k _ _ => y_up_ne (by omega)) hA⟩ rfl
    · refine y_if rfl (fun _ => p42) (fun h4 => absurd rfl h4)
/-- who leaves a rail: the rail is free, the pair's state is not 0 -/
theorem y_AI_free {s s6 : y_H} {R P : Nat} (hR : R < 3) (hA : y_AI m (s.1 86)) (hocc : 0 ≤ (s.1 86 (18 + R)).toInt) (hq : ∀ k, k < 9 → s6.1 86 k = s.1 86 k) (hs : ∀ j, j < 8 → j ≠ P → s6.1 86 (9 + j) = s.1 86 (9 + j)) (hv : (s6.1 86 (9 + P)).toInt ≠ 0) (hr : ∀ q, q < 3 → q ≠ R → s6.1 86 (18 + q) = s.1 86 (18 + q)) (hfree : (s6.1 86 (18 + R)).toInt < 0) : y_AI m (s6.1 86) := by
  refine y_AI_st hA hq hs hv (fun q h1 => ?_) ?_
  · by_cases e : q = R
    · rw [e]
      omega
    · rw [hr q h1 e]
      exact hA.2.2 q h1
  · have h1 := y_sg_x (f := s.1 86) (f2 := s6.1 86) (P := P) hs
    have h2 := y_sg_o (f := s.1 86) (f2 := s6.1 86) hR hr
    rw [y_occ_0 hfree, y_occ_1 hocc] at h2
    have h3 := y_x34_le (s6.1 86 (9 + P))
    unfold y_Sg
    omega
theorem y_frNo4 : ∀ R, R < 3 → ∀ k, k < 18 → w_inm (y_frK R) (w_key 86 k) = false := by decide +kernel
theorem y_gA2 (hfr : y_eFr3 V) (hd : 1 ≤ d) (hexit : ∀ (s : y_H) (set : Int32) (ls : q_U Int32), y_gI V m y_g2 s1 s → q_at ls 0 = some (.inr (.inr 67)) → q_at ls 2 = some (.inl set) → y_W g_sh g_ts d g_t212 Q 172 ls [] s) : ∀ (n : Nat) (s : y_H) (set i : Int32) (R : Nat), y_gI V m y_g2 s1 s → i.toInt = (R : Int) → R ≤ 3 → 3 - R ≤ n → y_W g_sh g_ts d g_t212 Q 74 [(0, .inr (.inr 67)), (2, .inl set), (3, .inl i)] [] s := by
  intro n
  induction n with
  | zero =>
    intro s set i R hI hi hR hn
    have hrl := y_rails hI.1
    refine y_run 3 rfl ?_
    refine y_ic rfl (fun _ => hexit s set _ hI rfl rfl) (fun h => ?_)
    have h2 : ¬ (s.1 65 28).toInt ≤ i.toInt := h
    omega
  | succ n ih =>
    intro s set i R hI hi hR hn
    obtain ⟨hT, hf, hA⟩ := id hI
    have hrl := y_rails hT
    refine y_run 3 rfl ?_
    refine y_ic rfl (fun _ => hexit s set _ hI rfl rfl) (fun h => ?_)
    have h2 : ¬ (s.1 65 28).toInt ≤ i.toInt := h
    have hR3 : R < 3 := by omega
    have hi1 : (i + (Int32.ofInt 1)).toInt = i.toInt + 1 := y_add (x := i) (y := 1) (by show _ ≤ _ + (1 : Int); omega) (by show _ + (1 : Int) ≤ _; omega)
    have next : ∀ (s2 : y_H) (set2 : Int32) (ls : q_U Int32), y_gI V m y_g2 s1 s2 → q_at ls 0 = some (.inr (.inr 67)) → q_at ls 2 = some (.inl set2) → q_at ls 3 = some (.inl i) → y_W g_sh g_ts d g_t212 Q 166 ls [] s2 := by
      intro s2 set2 ls hI2 l0 l2 l3
      refine y_sub (ls1 := [(0, .inr (.inr 67)), (2, .inl set2), (3, .inl i)]) (show ([0, 2, 3] : List Nat).Nodup by decide) (y_R_cons l0 (y_R_cons l2 (y_R_cons l3 y_R_nil))) ?_
      refine y_run 2 rfl ?_
      refine y_sub (ls1 := [(0, .inr (.inr 67)), (2, .inl set2), (3, .inl ((i + (Int32.ofInt 1))))]) (show ([0, 2, 3] : List Nat).Nodup by decide) (y_R_cons rfl (y_R_cons rfl (y_R_cons rfl y_R_nil))) ?_
      exact ih s2 set2 _ (R + 1) hI2 (by rw [hi1, hi]; omega) (by omega) (by omega)
    refine y_run 2 rfl ?_
    refine y_call y_isFree 1 rfl (fun _ _ _ => rfl) (a := [.inr (.inr 67), .inl i]) rfl rfl (fun h hR => y_mayV (o := 65) (sz := 85) rfl hR) hd ⟨i, R, rfl, hi, hR3⟩ (fun v s2 hQ => ?_)
    obtain ⟨rfl, hQ2⟩ := hQ
    rcases hQ2 i R rfl hi with ⟨hfree, rfl⟩ | ⟨hfree, rfl⟩
    · refine y_if rfl (fun h4 => absurd (show (1 : Int) = 0 from h4) (by omega)) (fun _ => ?_)
      refine y_run 1 rfl ?_
      exact next s2 set _ hI rfl rfl rfl
    · refine y_if rfl (fun _ => ?_) (fun h4 => absurd rfl h4)
      have hrg := y_air18 hT hR3
      have e21 : ((Int8.ofInt 21).toInt32 + i).toInt = ((21 + R : Nat) : Int) := y_adds (A := 21) rfl hi (by omega)
      have e18 : ((Int8.ofInt 18).toInt32 + i).toInt = ((18 + R : Nat) : Int) := y_adds (A := 18) rfl hi (by omega)
      refine y_run 6 rfl ?_
      refine y_ald86 (j := 21 + R) rfl e21 (by omega) ?_
      refine y_run 2 rfl ?_
      have hzb := y_toIntB (s2.1 86 (21 + R) - (Int32.ofInt 1))
      refine y_ast86 (lo := 0) (hi := 4294967295) hT rfl e21 (by omega) (y_airy R hR3) (by omega) (by omega) (fun hT3 => ?_)
      generalize hz : s2.1 86 (21 + R) - (Int32.ofInt 1) = z
      rw [hz] at hT3
      have hf3 := hf.up (o := 86) (k := 21 + R) (v := .inl z) (y_airk _ (by omega)) (y_g2air R hR3)
      have hA3 : y_AI m ((y_up s2 86 (21 + R) (.inl z)).1 86) := y_AI_eq (fun k _ _ => y_up_ne (by omega)) hA
      refine y_run 5 rfl ?_
      refine y_ald86 (j := 21 + R) rfl e21 (by omega) ?_
      refine y_if rfl (fun _ => ?_) (fun _ => ?_)
      · refine y_run 5 rfl ?_
        refine y_ald86 (j := 18 + R) rfl e18 (by omega) ?_
        have e5 : (y_up s2 86 (21 + R) (.inl z)).1 86 (18 + R) = s2.1 86 (18 + R) := y_up_ne (by omega)
        rw [e5]
        generalize hp : s2.1 86 (18 + R) = p
        rw [hp] at hrg hfree
        have e9 : ((Int8.ofInt 9).toInt32 + p).toInt = ((9 + p.toInt.toNat : Nat) : Int) := y_adds (A := 9) (B := p.toInt.toNat) rfl (by omega) (by omega)
        have hP8 : p.toInt.toNat < 8 := by omega
        refine y_run 7 rfl ?_
        refine y_ast86 (lo := 2147483648) (hi := 2147483652) hT3 rfl e9 (by omega) (y_airs _ hP8) (show (_ : Int) ≤ 2 by omega) (show (2 : Int) ≤ _ by omega) (fun hT4 => ?_)
        have hf4 := hf3.up (o := 86) (k := 9 + p.toInt.toNat) (v := .inl (Int32.ofInt 2)) (y_airk _ (by omega)) (y_g2st _ hP8).1
        refine y_run 5 rfl ?_
        refine y_ast (o := 89) (sz := 8) (j := p.toInt.toNat) rfl rfl (by omega) hP8 (y_sbk hP8) ?_
        have hg := y_toIntB (s2.1 65 62)
        have hT5 := y_Tup (lo := 0) (hi := 4294967295) (g := 0) (x := s2.1 65 62) hT4 (y_tyA (o := 89) (tag := 100) (sz := 8) (A := .inl ((0, 4294967295), 0)) rfl hP8) (y_sbk hP8) (y_pkA (sz := 8) (by decide +kernel) hP8) (by omega) (by omega)
        have hf5 := hf4.up (o := 89) (k := p.toInt.toNat) (v := .inl (s2.1 65 62)) (y_sbk hP8) (y_g2st _ hP8).2
        refine y_run 8 rfl ?_
        show y_W g_sh g_ts d g_t212 Q 163 [(2, .inl ((set ||| (Int32.ofInt 1 <<< (p &&& 31))))), (4, .inl p), (0, .inr (.inr 67)), (3, .inl i)] [.inl i, .inr (.inr 67)] (y_up (y_up (y_up s2 86 (21 + R) (.inl z)) 86 (9 + p.toInt.toNat) (.inl (Int32.ofInt 2))) 89 p.toInt.toNat (.inl (s2.1 65 62)))
        have u5 : ∀ k, k < 21 → k ≠ 9 + p.toInt.toNat → (y_up (y_up (y_up s2 86 (21 + R) (.inl z)) 86 (9 + p.toInt.toNat) (.inl (Int32.ofInt 2))) 89 p.toInt.toNat (.inl (s2.1 65 62))).1 86 k = s2.1 86 k := fun k h1 h2 => by rw [y_up_ne (by omega), y_up_ne (by omega), y_up_ne (by omega)]
        have v5 : ((y_up (y_up (y_up s2 86 (21 + R) (.inl z)) 86 (9 + p.toInt.toNat) (.inl (Int32.ofInt 2))) 89 p.toInt.toNat (.inl (s2.1 65 62))).1 86 (9 + p.toInt.toNat)).toInt = 2 := by
          rw [y_up_ne (by omega), y_up_self]
          rfl
        revert hT5 hf5 u5 v5
        generalize y_up (y_up (y_up s2 86 (21 + R) (.inl z)) 86 (9 + p.toInt.toNat) (.inl (Int32.ofInt 2))) 89 p.toInt.toNat (.inl (s2.1 65 62)) = s5
        intro hT5 hf5 u5 v5
        refine y_call (y_frees hfr hR3) 1 rfl (fun _ _ _ => rfl) (a := [.inr (.inr 67), .inl i]) rfl rfl (fun h hR => y_mayV (o := 65) (sz := 85) rfl hR) hd ⟨hT5, i, rfl, hi⟩ (fun v s6 hQ => ?_)
        obtain ⟨rfl, hT6, hf6, h18⟩ := hQ
        have e6 : ∀ k, k < 18 → s6.1 86 k = s5.1 86 k := fun k hk => y_at86 hf6 (by omega) (y_frNo4 R hR3 k hk)
        refine next s6 _ _ ⟨hT6, hf5.tr (hf6.mono (y_g2fr R hR3)), ?_⟩ rfl rfl rfl
        refine y_AI_free (s := s2) (P := p.toInt.toNat) hR3 hA (by rw [hp]; exact hfree) (fun k hk => by rw [e6 k (by omega), u5 k (by omega) (by omega)]) (fun j hj hne => by rw [e6 _ (by omega), u5 _ (by omega) (by omega)]) (by rw [e6 _ (by omega), v5]; omega) (fun q hq hne => ?_) (by omega)
        rw [hf6.at (o := 86) (k := 18 + q) (y_airr q (by omega)) (y_airk _ (by omega)) (y_frNo2 R hR3 q (by omega) (by omega)), u5 _ (by omega) (by omega)]
      · refine y_run 1 rfl ?_
        exact next _ set _ ⟨hT3, hf3, hA3⟩ rfl rfl rfl
theorem y_gA3 (hsails : y_eSails V) (hfr : y_eFr3 V) (hd : 3 ≤ d) {set : Int32} (hexit : ∀ s : y_H, y_gI V m y_g3 s1 s → Q (some (.inl set)) s) : ∀ (n : Nat) (s : y_H) (i : Int32) (R : Nat), y_gI V m y_g3 s1 s → i.toInt = (R : Int) → R ≤ 3 → 3 - R ≤ n → y_W g_sh g_ts d g_t212 Q 185 [(0, .inr (.inr 67)), (2, .inl set), (3, .inl i)] [] s := by
  have fin : ∀ (s : y_H) (ls : q_U Int32), y_gI V m y_g3 s1 s → q_at ls 2 = some (.inl set) → y_W g_sh g_ts d g_t212 Q 249 ls [] s := by
    intro s ls hI hl
    refine y_sub (ls1 := [(2, .inl set)]) (show ([2] : List Nat).Nodup by decide) (y_R_cons hl y_R_nil) ?_
    refine y_run 1 rfl ?_
    exact y_iret rfl (hexit s hI)
  intro n
  induction n with
  | zero =>
    intro s i R hI hi hR hn
    have hrl := y_rails hI.1
    refine y_run 3 rfl ?_
    refine y_ic rfl (fun _ => fin s _ hI rfl) (fun h => ?_)
    have h2 : ¬ (s.1 65 28).toInt ≤ i.toInt := h
    omega
  | succ n ih =>
    intro s i R hI hi hR hn
    obtain ⟨hT, hf, hA⟩ := id hI
    have hrl := y_rails hT
    refine y_run 3 rfl ?_
    refine y_ic rfl (fun _ => fin s _ hI rfl) (fun h => ?_)
    have h2 : ¬ (s.1 65 28).toInt ≤ i.toInt := h
    have hR3 : R < 3 := by omega
    have hi1 : (i + (Int32.ofInt 1)).toInt = i.toInt + 1 := y_add (x := i) (y := 1) (by show _ ≤ _ + (1 : Int); omega) (by show _ + (1 : Int) ≤ _; omega)
    have next : ∀ (s2 : y_H), y_gI V m y_g3 s1 s2 → y_W g_sh g_ts d g_t212 Q 243 [(0, .inr (.inr 67)), (2, .inl set), (3, .inl i)] [] s2 := by
      intro s2 hI2
      refine y_run 2 rfl ?_
      refine y_sub (ls1 := [(0, .inr (.inr 67)), (2, .inl set), (3, .inl ((i + (Int32.ofInt 1))))]) (show ([0, 2, 3] : List Nat).Nodup by decide) (y_R_cons rfl (y_R_cons rfl (y_R_cons rfl y_R_nil))) ?_
      exact ih s2 _ (R + 1) hI2 (by rw [hi1, hi]; omega) (by omega) (by omega)
    refine y_run 2 rfl ?_
    refine y_call y_isFree 1 rfl (fun _ _ _ => rfl) (a := [.inr (.inr 67), .inl i]) rfl rfl (fun h hR => y_mayV (o := 65) (sz := 85) rfl hR) (by omega) ⟨i, R, rfl, hi, hR3⟩ (fun v s2 hQ => ?_)
    obtain ⟨rfl, hQ2⟩ := hQ
    rcases hQ2 i R rfl hi with ⟨hfree, rfl⟩ | ⟨hfree, rfl⟩
    · refine y_if rfl (fun _ => ?_) (fun h4 => absurd (show (1 : Int) ≠ 0 by omega) h4)
      exact next s2 hI
    · refine y_if rfl (fun h4 => absurd rfl h4) (fun _ => ?_)
      have hrg := y_air18 hT hR3
      have e18 : ((Int8.ofInt 18).toInt32 + i).toInt = ((18 + R : Nat) : Int) := y_adds (A := 18) rfl hi (by omega)
      refine y_run 8 rfl ?_
      refine y_ald86 (j := 18 + R) rfl e18 (by omega) ?_
      refine y_ald82 (j := (s2.1 86 (18 + R)).toInt.toNat) rfl (by omega) (by omega) ?_
      have hsh := y_shipOf hT (j := (s2.1 86 (18 + R)).toInt.toNat) (by omega)
      refine y_call (y_isGone hsails) 1 rfl (fun _ _ _ => rfl) (a := [.inr (.inr 67), .inl ((s2.1 82 (s2.1 86 (18 + R)).toInt.toNat))]) rfl rfl (fun h hR => y_mayV (o := 65) (sz := 85) rfl hR) (by omega) ⟨hT, _, rfl, hsh.1, hsh.2⟩ (fun v s3 hQ => ?_)
      obtain ⟨rfl, hg⟩ := hQ
      rcases hg with rfl | ⟨rfl, hlt⟩
      · refine y_if rfl (fun _ => ?_) (fun h4 => absurd (show (1 : Int) ≠ 0 by omega) h4)
        refine y_run 6 rfl ?_
        refine y_ald86 (j := 18 + R) rfl e18 (by omega) ?_
        refine y_call (y_missesF (V := V)) 1 rfl (fun _ _ _ => rfl) (a := [.inr (.inr 67), .inl ((s3.1 86 (18 + R)))]) rfl rfl (fun h hR => y_mayV (o := 65) (sz := 85) rfl hR) (by omega) ⟨hT, _, (s3.1 86 (18 + R)).toInt.toNat, rfl, by omega, by omega⟩ (fun v s6 hQ => ?_)
        obtain ⟨rfl, hT6, hf6, h36, hs6⟩ := hQ _ (s3.1 86 (18 + R)).toInt.toNat rfl (by omega)
        refine y_run 2 rfl ?_
        refine y_call (y_frees hfr hR3) 1 rfl (fun _ _ _ => rfl) (a := [.inr (.inr 67), .inl i]) rfl rfl (fun h hR => y_mayV (o := 65) (sz := 85) rfl hR) (by omega) ⟨hT6, i, rfl, hi⟩ (fun v s7 hQ => ?_)
        obtain ⟨rfl, hT7, hf7, h18⟩ := hQ
        have e7 : ∀ k, k < 18 → s7.1 86 k = s6.1 86 k := fun k hk => y_at86 hf7 (by omega) (y_frNo4 R hR3 k hk)
        have q6 : ∀ k, k < 9 → s6.1 86 k = s3.1 86 k := fun k hk => y_at86 hf6 (by omega) (by
          have : ∀ k, k < 9 → w_inm y_msK (w_key 86 k) = false := by decide +kernel
          exact this k hk)
        have r6 : ∀ k, k < 3 → s6.1 86 (18 + k) = s3.1 86 (18 + k) := fun k hk => y_at86 hf6 (by omega) (by
          have : ∀ k, k < 3 → w_inm y_msK (w_key 86 (18 + k)) = false := by decide +kernel
          exact this k hk)
        refine next s7 ⟨hT7, (hf.tr (hf6.mono (by decide +kernel))).tr (hf7.mono (y_g3fr R hR3)), ?_⟩
        refine y_AI_free (s := s3) (P := (s3.1 86 (18 + R)).toInt.toNat) hR3 hA hfree (fun k hk => by rw [e7 k (by omega), q6 k hk]) (fun j hj hne => by rw [e7 _ (by omega)]; exact hs6 j hj hne) (by rw [e7 _ (by omega), h36]; omega) (fun q hq hne => ?_) (by omega)
        rw [hf7.at (o := 86) (k := 18 + q) (y_airr q (by omega)) (y_airk _ (by omega)) (y_frNo2 R hR3 q (by omega) (by omega)), r6 q hq]
      · refine y_if rfl (fun h4 => absurd rfl h4) (fun _ => ?_)
        refine y_run 1 rfl ?_
        exact next s3 hI
def y_gmA (V : w_V) (m : Int) (s0 : y_H) (v : Option (q_V Int32)) (s : y_H) : Prop := (∃ x : Int32, v = some (.inl x)) ∧ y_gI V m y_gK s0 s
theorem y_goMinuteA (hsails : y_eSails V) (hlen : y_eLen V) (hfr : y_eFr3 V) (m : Int) : y_C g_sh g_ts 212 5 (fun a s => w_T V g_sh (y_mk g_sh s) ∧ y_AI m (s.1 86) ∧ ∃ b : Int32, a = [.inr (.inr 67), .inl b]) (fun _ s v s2 => y_gmA V m s v s2) := by
  refine y_C.of (t := g_t212) rfl (by decide) ?_
  rintro d a s0 hd ⟨hT0, hA0, b, rfl⟩
  refine y_run 4 rfl ?_
  refine y_sub (ls1 := [(0, .inr (.inr 67)), (1, .inl b), (2, .inl ((Int32.ofInt 0))), (3, .inl ((Int32.ofInt 0)))]) (show ([0, 1, 2, 3] : List Nat).Nodup by decide) (y_R_cons rfl (y_R_cons rfl (y_R_cons rfl (y_R_cons rfl y_R_nil)))) ?_
  refine y_gA1 hsails hlen (s0 := s0) (m := m) (by omega) ?_ 3 s0 _ 0 ⟨hT0, y_fr.rf, hA0⟩ rfl (by omega) (by omega)
  intro s ls hI l0 l2
  obtain ⟨hT, hf, hA⟩ := hI
  refine y_sub (ls1 := [(0, .inr (.inr 67)), (2, .inl ((Int32.ofInt 0)))]) (show ([0, 2] : List Nat).Nodup by decide) (y_R_cons l0 (y_R_cons l2 y_R_nil)) ?_
  have hgb := y_toIntB (s.1 65 62 + (Int32.ofInt 1))
  refine y_run 8 rfl ?_
  have hT1 := y_Tup (lo := 0) (hi := 4294967295) (g := 0) hT (o := 65) (k := 62) (x := s.1 65 62 + (Int32.ofInt 1)) rfl rfl (by decide +kernel) (by omega) (by omega)
  have hf1 : y_fr g_sh y_gK s0 (y_up s 65 62 (.inl (s.1 65 62 + (Int32.ofInt 1)))) := (hf.mono (by decide +kernel)).up rfl (by decide +kernel)
  have hA1 : y_AI m ((y_up s 65 62 (.inl (s.1 65 62 + (Int32.ofInt 1)))).1 86) := y_AI_eq (fun k _ _ => y_up_ne (by omega)) hA
  refine y_sub (ls1 := [(0, .inr (.inr 67)), (2, .inl ((Int32.ofInt 0))), (3, .inl ((Int32.ofInt 0)))]) (show ([0, 2, 3] : List Nat).Nodup by decide) (y_R_cons rfl (y_R_cons rfl (y_R_cons rfl y_R_nil))) ?_
  refine y_gA2 hfr (m := m) (s1 := y_up s 65 62 (.inl (s.1 65 62 + (Int32.ofInt 1)))) (by omega) ?_ 3 _ _ _ 0 ⟨hT1, y_fr.rf, hA1⟩ rfl (by omega) (by omega)
  intro s2 set2 ls hI2 l0 l2
  obtain ⟨hT2, hf2, hA2⟩ := hI2
  refine y_sub (ls1 := [(0, .inr (.inr 67)), (2, .inl set2)]) (show ([0, 2] : List Nat).Nodup by decide) (y_R_cons l0 (y_R_cons l2 y_R_nil)) ?_
  refine y_run 4 rfl ?_
  refine y_ald86 (j := 26) rfl rfl (by omega) ?_
  refine y_run 2 rfl ?_
  have hmb := y_toIntB (s2.1 86 26 + (Int32.ofInt 1))
  refine y_ast86 (lo := 0) (hi := 4294967295) hT2 rfl (j := 26) rfl (by omega) rfl (by omega) (by omega) (fun hT3 => ?_)
  have hf3 : y_fr g_sh y_gK s0 (y_up s2 86 26 (.inl (s2.1 86 26 + (Int32.ofInt 1)))) := (hf1.tr (hf2.mono (by decide +kernel))).up rfl (by decide +kernel)
  have hA3 : y_AI m ((y_up s2 86 26 (.inl (s2.1 86 26 + (Int32.ofInt 1)))).1 86) := y_AI_eq (fun k _ _ => y_up_ne (by omega)) hA2
  refine y_run 2 rfl ?_
  refine y_sub (ls1 := [(0, .inr (.inr 67)), (2, .inl set2), (3, .inl ((Int32.ofInt 0)))]) (show ([0, 2, 3] : List Nat).Nodup by decide) (y_R_cons rfl (y_R_cons rfl (y_R_cons rfl y_R_nil))) ?_
  refine y_gA3 hsails hfr (m := m) (s1 := y_up s2 86 26 (.inl (s2.1 86 26 + (Int32.ofInt 1)))) (by omega) ?_ 3 _ _ 0 ⟨hT3, y_fr.rf, hA3⟩ rfl (by omega) (by omega)
  intro s4 hI4
  exact ⟨⟨_, rfl⟩, hI4.1, hf3.tr (hI4.2.1.mono (by decide +kernel)), hI4.2.2⟩
end GMA
