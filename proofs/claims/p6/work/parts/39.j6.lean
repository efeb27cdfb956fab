/-! by hand: goMinute's other loops, and whole -/
section GM6
variable {V : w_V} {d : Nat} {s1 : y_H} {Q : Option (q_V Int32) → y_H → Prop}
/-- rail 0, if free, stays so and as long held -/
def y_kp (s s2 : y_H) : Prop := (s.1 86 18).toInt < 0 → s2.1 86 18 = s.1 86 18 ∧ s2.1 87 0 = s.1 87 0
theorem y_sbk {j : Nat} (hj : j < 8) : y_kd g_sh 89 j = 0 := y_kdA (tag := 100) (sz := 8) (a := ((0, 4294967295), 0)) rfl
theorem y_gm2 (hfr : y_eFr3 V) (hd : 1 ≤ d) (hexit : ∀ (s : y_H) (set : Int32) (ls : q_U Int32), w_T V g_sh (y_mk g_sh s) → y_fr g_sh y_g2 s1 s → y_kp s1 s → q_at ls 0 = some (.inr (.inr 67)) → q_at ls 2 = some (.inl set) → y_W g_sh g_ts d g_t212 Q 172 ls [] s) : ∀ (n : Nat) (s : y_H) (set i : Int32) (R : Nat), w_T V g_sh (y_mk g_sh s) → y_fr g_sh y_g2 s1 s → y_kp s1 s → i.toInt = (R : Int) → R ≤ 3 → (s1.1 65 28).toInt - (R : Int) ≤ (n : Int) → y_W g_sh g_ts d g_t212 Q 74 [(0, .inr (.inr 67)), (2, .inl set), (3, .inl i)] [] s := by
  intro n
  induction n with
  | zero =>
    intro s set i R hT hf hk hi hR hn
    have e28 : s.1 65 28 = s1.1 65 28 := hf.at (o := 65) (k := 28) (A := w_n 1 3 0) rfl rfl (by decide +kernel)
    refine y_run 3 rfl ?_
    refine y_ic rfl (fun _ => hexit s set _ hT hf hk rfl rfl) (fun h => ?_)
    have h2 : ¬ (s.1 65 28).toInt ≤ i.toInt := h
    rw [e28] at h2
    omega
  | succ n ih =>
    intro s set i R hT hf hk hi hR hn
    have e28 : s.1 65 28 = s1.1 65 28 := hf.at (o := 65) (k := 28) (A := w_n 1 3 0) rfl rfl (by decide +kernel)
    have hrl := y_rails hT
    refine y_run 3 rfl ?_
    refine y_ic rfl (fun _ => hexit s set _ hT hf hk rfl rfl) (fun h => ?_)
    have h2 : ¬ (s.1 65 28).toInt ≤ i.toInt := h
    have hR3 : R < 3 := by omega
    rw [e28] at h2
    have hi1 : (i + Int32.ofInt 1).toInt = i.toInt + 1 := y_add (x := i) (y := 1) (by show _ ≤ _ + (1 : Int); omega) (by show _ + (1 : Int) ≤ _; omega)
    have next : ∀ (s2 : y_H) (set2 : Int32) (ls : q_U Int32), w_T V g_sh (y_mk g_sh s2) → y_fr g_sh y_g2 s1 s2 → y_kp s1 s2 → q_at ls 0 = some (.inr (.inr 67)) → q_at ls 2 = some (.inl set2) → q_at ls 3 = some (.inl i) → y_W g_sh g_ts d g_t212 Q 166 ls [] s2 := by
      intro s2 set2 ls hT2 hf2 hk2 l0 l2 l3
      refine y_sub (ls1 := [(0, .inr (.inr 67)), (2, .inl set2), (3, .inl i)]) (show ([0, 2, 3] : List Nat).Nodup by decide) (y_R_cons l0 (y_R_cons l2 (y_R_cons l3 y_R_nil))) ?_
      refine y_run 2 rfl ?_
      refine y_sub (ls1 := [(0, .inr (.inr 67)), (2, .inl set2), (3, .inl (i + Int32.ofInt 1))]) (show ([0, 2, 3] : List Nat).Nodup by decide) (y_R_cons rfl (y_R_cons rfl (y_R_cons rfl y_R_nil))) ?_
      exact ih s2 set2 _ (R + 1) hT2 hf2 hk2 (by rw [hi1, hi]; omega) (by omega) (by omega)
    refine y_run 2 rfl ?_
    refine y_call y_isFree 1 rfl (fun _ _ _ => rfl) (a := [.inr (.inr 67), .inl i]) rfl rfl (fun h hR => y_mayV (o := 65) (sz := 85) rfl hR) hd ⟨i, R, rfl, hi, hR3⟩ (fun v s2 hQ => ?_)
    obtain ⟨rfl, hQ2⟩ := hQ
    rcases hQ2 i R rfl hi with ⟨hfree, rfl⟩ | ⟨hfree, rfl⟩
    · refine y_if rfl (fun h4 => absurd (show (1 : Int) = 0 from h4) (by omega)) (fun _ => ?_)
      refine y_run 1 rfl ?_
      exact next s2 set _ hT hf hk rfl rfl rfl
    · refine y_if rfl (fun _ => ?_) (fun h4 => absurd rfl h4)
      have hrg := y_air18 hT hR3
      have hpos : (s1.1 86 18).toInt < 0 → 1 ≤ R := by
        intro q
        rcases Nat.eq_zero_or_pos R with hR0 | hR0
        · subst hR0
          have hc2 : 0 ≤ (s2.1 86 18).toInt := hfree
          rw [(hk q).1] at hc2
          omega
        · exact hR0
      have e21 : ((Int8.ofInt 21).toInt32 + i).toInt = ((21 + R : Nat) : Int) := y_adds (A := 21) rfl hi (by omega)
      have e18 : ((Int8.ofInt 18).toInt32 + i).toInt = ((18 + R : Nat) : Int) := y_adds (A := 18) rfl hi (by omega)
      refine y_run 6 rfl ?_
      refine y_ald86 (j := 21 + R) rfl e21 (by omega) ?_
      refine y_run 2 rfl ?_
      have hzb := y_toIntB (s2.1 86 (21 + R) - Int32.ofInt 1)
      refine y_ast86 (lo := 0) (hi := 4294967295) hT rfl e21 (by omega) (y_airy R hR3) (by omega) (by omega) (fun hT3 => ?_)
      generalize hz : s2.1 86 (21 + R) - Int32.ofInt 1 = z
      rw [hz] at hT3
      have hf3 := hf.up (o := 86) (k := 21 + R) (v := .inl z) (y_airk _ (by omega)) (y_g2air R hR3)
      have hk3 : y_kp s1 (y_up s2 86 (21 + R) (.inl z)) := by
        intro q
        rw [y_up_ne (by omega), y_up_ne (by omega)]
        exact hk q
      refine y_run 5 rfl ?_
      refine y_ald86 (j := 21 + R) rfl e21 (by omega) ?_
      refine y_if rfl (fun _ => ?_) (fun _ => ?_)
      · refine y_run 5 rfl ?_
        refine y_ald86 (j := 18 + R) rfl e18 (by omega) ?_
        have e5 : (y_up s2 86 (21 + R) (.inl z)).1 86 (18 + R) = s2.1 86 (18 + R) := y_up_ne (by omega)
        rw [e5]
        generalize hp : s2.1 86 (18 + R) = p
        rw [hp] at hrg hfree
        have e9 : ((Int8.ofInt 9).toInt32 + p).toInt = ((9 + p.toInt.toNat : Nat) : Int) := y_adds (A := 9) (B := p.toInt.toNat) rfl (by omega) (by omega)
        have hP8 : p.toInt.toNat < 8 := by omega
        refine y_run 7 rfl ?_
        refine y_ast86 (lo := 2147483648) (hi := 2147483652) hT3 rfl e9 (by omega) (y_airs _ hP8) (show (_ : Int) ≤ 2 by omega) (show (2 : Int) ≤ _ by omega) (fun hT4 => ?_)
        have hf4 := hf3.up (o := 86) (k := 9 + p.toInt.toNat) (v := .inl (Int32.ofInt 2)) (y_airk _ (by omega)) (y_g2st _ hP8).1
        refine y_run 5 rfl ?_
        refine y_ast (o := 89) (sz := 8) (j := p.toInt.toNat) rfl rfl (by omega) hP8 (y_sbk hP8) ?_
        have hg := y_toIntB (s2.1 65 62)
        have hT5 := y_Tup (lo := 0) (hi := 4294967295) (g := 0) (x := s2.1 65 62) hT4 (y_tyA (o := 89) (tag := 100) (sz := 8) (A := .inl ((0, 4294967295), 0)) rfl hP8) (y_sbk hP8) (y_pkA (sz := 8) (by decide +kernel) hP8) (by omega) (by omega)
        have hf5 := hf4.up (o := 89) (k := p.toInt.toNat) (v := .inl (s2.1 65 62)) (y_sbk hP8) (y_g2st _ hP8).2
        refine y_run 8 rfl ?_
        show y_W g_sh g_ts d g_t212 Q 163 [(2, .inl (set ||| (Int32.ofInt 1 <<< (p &&& 31)))), (4, .inl p), (0, .inr (.inr 67)), (3, .inl i)] [.inl i, .inr (.inr 67)] (y_up (y_up (y_up s2 86 (21 + R) (.inl z)) 86 (9 + p.toInt.toNat) (.inl (Int32.ofInt 2))) 89 p.toInt.toNat (.inl (s2.1 65 62)))
        have hk5 : y_kp s1 (y_up (y_up (y_up s2 86 (21 + R) (.inl z)) 86 (9 + p.toInt.toNat) (.inl (Int32.ofInt 2))) 89 p.toInt.toNat (.inl (s2.1 65 62))) := by
          intro q
          refine ⟨?_, ?_⟩
          · rw [y_up_ne (by omega), y_up_ne (by omega)]
            exact (hk3 q).1
          · rw [y_up_ne (by omega), y_up_ne (by omega)]
            exact (hk3 q).2
        revert hT5 hf5 hk5
        generalize y_up (y_up (y_up s2 86 (21 + R) (.inl z)) 86 (9 + p.toInt.toNat) (.inl (Int32.ofInt 2))) 89 p.toInt.toNat (.inl (s2.1 65 62)) = s5
        intro hT5 hf5 hk5
        refine y_call (y_frees hfr hR3) 1 rfl (fun _ _ _ => rfl) (a := [.inr (.inr 67), .inl i]) rfl rfl (fun h hR => y_mayV (o := 65) (sz := 85) rfl hR) hd ⟨hT5, i, rfl, hi⟩ (fun v s6 hQ => ?_)
        obtain ⟨rfl, hT6, hf6, h18⟩ := hQ
        refine next s6 _ _ hT6 (hf5.tr (hf6.mono (y_g2fr R hR3))) (fun q => ?_) rfl rfl rfl
        have hq := hk5 q
        have hR1 := hpos q
        rw [hf6.at (o := 86) (k := 18) (y_airr 0 (by omega)) rfl (y_frNo R hR3 hR1).2, hf6.at (o := 87) (k := 0) (y_hyt (by omega)) rfl (y_frNo R hR3 hR1).1]
        exact hq
      · refine y_run 1 rfl ?_
        exact next _ set _ hT3 hf3 hk3 rfl rfl rfl
/-- the third loop: where all ships are gone, all rails are free behind it -/
theorem y_gm3 (hsails : y_eSails V) (hmiss : y_eMiss V) (hfr : y_eFr3 V) (hd : 3 ≤ d) {set : Int32} (hexit : ∀ s : y_H, w_T V g_sh (y_mk g_sh s) → y_fr g_sh y_g3 s1 s → y_kp s1 s → (30000 ≤ (s1.1 86 26).toInt → ∀ q : Nat, (q : Int) < (s1.1 65 28).toInt → (s.1 86 (18 + q)).toInt < 0) → Q (some (.inl set)) s) : ∀ (n : Nat) (s : y_H) (i : Int32) (R : Nat), w_T V g_sh (y_mk g_sh s) → y_fr g_sh y_g3 s1 s → y_kp s1 s → (30000 ≤ (s1.1 86 26).toInt → ∀ q : Nat, q < R → (s.1 86 (18 + q)).toInt < 0) → i.toInt = (R : Int) → R ≤ 3 → (s1.1 65 28).toInt - (R : Int) ≤ (n : Int) → y_W g_sh g_ts d g_t212 Q 185 [(0, .inr (.inr 67)), (2, .inl set), (3, .inl i)] [] s := by
  have fin : ∀ (s : y_H) (R : Nat) (ls : q_U Int32), w_T V g_sh (y_mk g_sh s) → y_fr g_sh y_g3 s1 s → y_kp s1 s → (30000 ≤ (s1.1 86 26).toInt → ∀ q : Nat, q < R → (s.1 86 (18 + q)).toInt < 0) → (s1.1 65 28).toInt ≤ (R : Int) → q_at ls 2 = some (.inl set) → y_W g_sh g_ts d g_t212 Q 249 ls [] s := by
    intro s R ls hT hf hk hq hR hl
    refine y_sub (ls1 := [(2, .inl set)]) (show ([2] : List Nat).Nodup by decide) (y_R_cons hl y_R_nil) ?_
    refine y_run 1 rfl ?_
    exact y_iret rfl (hexit s hT hf hk (fun h q h2 => hq h q (by omega)))
  intro n
  induction n with
  | zero =>
    intro s i R hT hf hk hq hi hR hn
    have e28 : s.1 65 28 = s1.1 65 28 := hf.at (o := 65) (k := 28) (A := w_n 1 3 0) rfl rfl (by decide +kernel)
    refine y_run 3 rfl ?_
    refine y_ic rfl (fun _ => fin s R _ hT hf hk hq (by omega) rfl) (fun h => ?_)
    have h2 : ¬ (s.1 65 28).toInt ≤ i.toInt := h
    rw [e28] at h2
    omega
  | succ n ih =>
    intro s i R hT hf hk hq hi hR hn
    have e28 : s.1 65 28 = s1.1 65 28 := hf.at (o := 65) (k := 28) (A := w_n 1 3 0) rfl rfl (by decide +kernel)
    have hrl := y_rails hT
    refine y_run 3 rfl ?_
    refine y_ic rfl (fun h => ?_) (fun h => ?_)
    · have h2 : (s.1 65 28).toInt ≤ i.toInt := h
      rw [e28] at h2
      exact fin s R _ hT hf hk hq (by omega) rfl
    have h2 : ¬ (s.1 65 28).toInt ≤ i.toInt := h
    have hR3 : R < 3 := by omega
    rw [e28] at h2
    have hi1 : (i + Int32.ofInt 1).toInt = i.toInt + 1 := y_add (x := i) (y := 1) (by show _ ≤ _ + (1 : Int); omega) (by show _ + (1 : Int) ≤ _; omega)
    have next : ∀ (s2 : y_H), w_T V g_sh (y_mk g_sh s2) → y_fr g_sh y_g3 s1 s2 → y_kp s1 s2 → (30000 ≤ (s1.1 86 26).toInt → ∀ q : Nat, q < R + 1 → (s2.1 86 (18 + q)).toInt < 0) → y_W g_sh g_ts d g_t212 Q 243 [(0, .inr (.inr 67)), (2, .inl set), (3, .inl i)] [] s2 := by
      intro s2 hT2 hf2 hk2 hq2
      refine y_run 2 rfl ?_
      refine y_sub (ls1 := [(0, .inr (.inr 67)), (2, .inl set), (3, .inl (i + Int32.ofInt 1))]) (show ([0, 2, 3] : List Nat).Nodup by decide) (y_R_cons rfl (y_R_cons rfl (y_R_cons rfl y_R_nil))) ?_
      exact ih s2 _ (R + 1) hT2 hf2 hk2 hq2 (by rw [hi1, hi]; omega) (by omega) (by omega)
    refine y_run 2 rfl ?_
    refine y_call y_isFree 1 rfl (fun _ _ _ => rfl) (a := [.inr (.inr 67), .inl i]) rfl rfl (fun h hR => y_mayV (o := 65) (sz := 85) rfl hR) (by omega) ⟨i, R, rfl, hi, hR3⟩ (fun v s2 hQ => ?_)
    obtain ⟨rfl, hQ2⟩ := hQ
    rcases hQ2 i R rfl hi with ⟨hfree, rfl⟩ | ⟨hfree, rfl⟩
    · refine y_if rfl (fun _ => ?_) (fun h4 => absurd (show (1 : Int) ≠ 0 by omega) h4)
      refine next s2 hT hf hk (fun h q h3 => ?_)
      rcases Nat.lt_or_ge q R with h4 | h4
      · exact hq h q h4
      · rw [show q = R by omega]
        exact hfree
    · refine y_if rfl (fun h4 => absurd rfl h4) (fun _ => ?_)
      have hrg := y_air18 hT hR3
      have hpos : (s1.1 86 18).toInt < 0 → 1 ≤ R := by
        intro q
        rcases Nat.eq_zero_or_pos R with hR0 | hR0
        · subst hR0
          have hc2 : 0 ≤ (s2.1 86 18).toInt := hfree
          rw [(hk q).1] at hc2
          omega
        · exact hR0
      have e18 : ((Int8.ofInt 18).toInt32 + i).toInt = ((18 + R : Nat) : Int) := y_adds (A := 18) rfl hi (by omega)
      refine y_run 8 rfl ?_
      refine y_ald86 (j := 18 + R) rfl e18 (by omega) ?_
      refine y_ald82 (j := (s2.1 86 (18 + R)).toInt.toNat) rfl (by omega) (by omega) ?_
      have hsh := y_shipOf hT (j := (s2.1 86 (18 + R)).toInt.toNat) (by omega)
      refine y_call (y_isGone hsails) 1 rfl (fun _ _ _ => rfl) (a := [.inr (.inr 67), .inl (s2.1 82 (s2.1 86 (18 + R)).toInt.toNat)]) rfl rfl (fun h hR => y_mayV (o := 65) (sz := 85) rfl hR) (by omega) ⟨hT, _, rfl, hsh.1, hsh.2⟩ (fun v s3 hQ => ?_)
      obtain ⟨rfl, hg⟩ := hQ
      have e26 : s3.1 86 26 = s1.1 86 26 := hf.at (o := 86) (k := 26) (A := w_t 0) rfl rfl (by decide +kernel)
      rcases hg with rfl | ⟨rfl, hlt⟩
      · refine y_if rfl (fun _ => ?_) (fun h4 => absurd (show (1 : Int) ≠ 0 by omega) h4)
        refine y_run 6 rfl ?_
        refine y_ald86 (j := 18 + R) rfl e18 (by omega) ?_
        refine y_callM hmiss (by decide +kernel) 1 rfl (fun _ _ _ => rfl) (a := [.inr (.inr 67), .inl (s3.1 86 (18 + R))]) rfl rfl (fun h hR => y_mayV (o := 65) (sz := 85) rfl hR) (by omega) hT ⟨⟨67, rfl, List.mem_cons_self⟩, y_iv (by omega) (by omega), True.intro⟩ (fun v s6 hT6 hf6 hv => ?_)
        obtain ⟨q, hq7, ho⟩ := hv
        have eq : q = ([], none, []) := by simpa using hq7
        subst eq
        have ev := y_ansV ho
        subst ev
        refine y_run 2 rfl ?_
        refine y_call (y_frees hfr hR3) 1 rfl (fun _ _ _ => rfl) (a := [.inr (.inr 67), .inl i]) rfl rfl (fun h hR => y_mayV (o := 65) (sz := 85) rfl hR) (by omega) ⟨hT6, i, rfl, hi⟩ (fun v s7 hQ => ?_)
        obtain ⟨rfl, hT7, hf7, h18⟩ := hQ
        have er : ∀ q, q < 3 → s6.1 86 (18 + q) = s3.1 86 (18 + q) := by
          intro q h3
          refine hf6.at (o := 86) (k := 18 + q) (y_airr q h3) (y_airk _ (by omega)) ?_
          rcases q with _ | _ | _ | q
          · decide +kernel
          · decide +kernel
          · decide +kernel
          · omega
        refine next s7 hT7 ((hf.tr (hf6.mono (by decide +kernel))).tr (hf7.mono (y_g3fr R hR3))) (fun q => ?_) (fun h q h3 => ?_)
        · have hq8 := hk q
          have hR1 := hpos q
          rw [hf7.at (o := 86) (k := 18) (y_airr 0 (by omega)) rfl (y_frNo R hR3 hR1).2, hf7.at (o := 87) (k := 0) (y_hyt (by omega)) rfl (y_frNo R hR3 hR1).1, hf6.at (o := 87) (k := 0) (y_hyt (by omega)) rfl (by decide +kernel), er 0 (by omega)]
          exact hq8
        · rcases Nat.lt_or_ge q R with h4 | h4
          · rw [hf7.at (o := 86) (k := 18 + q) (y_airr q (by omega)) (y_airk _ (by omega)) (y_frNo2 R hR3 q (by omega) (by omega)), er q (by omega)]
            exact hq h q h4
          · rw [show q = R by omega, h18]
            omega
      · refine y_if rfl (fun h4 => absurd rfl h4) (fun _ => ?_)
        refine y_run 1 rfl ?_
        refine next s3 hT hf hk (fun h => ?_)
        rw [← e26] at h
        omega
end GM6
