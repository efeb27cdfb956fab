/-! by hand: goMinute whole; goOn ends -/
abbrev y_gK : List (Nat × Nat) := [(266366, 266366), (299072, 299135), (303168, 303173), (352320, 352326), (352328, 352336), (352338, 352343), (352345, 352347), (356416, 356418), (360512, 360514), (364608, 364615), (368704, 368711)]
def y_gmQ (V : w_V) (tl : Bool) (s0 : y_H) (v : Option (q_V Int32)) (s : y_H) : Prop := (∃ x : Int32, v = some (.inl x)) ∧ w_T V g_sh (y_mk g_sh s) ∧ y_fr g_sh y_gK s0 s ∧ (s.1 86 8).toInt ≤ (s0.1 86 8).toInt ∧ (tl = false → s.1 86 27 = s0.1 86 27) ∧ s.1 86 26 = s0.1 86 26 + Int32.ofInt 1 ∧ (30000 ≤ (s0.1 86 26).toInt → (s0.1 86 26).toInt < 2147483647 → (∀ q : Nat, (q : Int) < (s0.1 65 28).toInt → (s.1 86 (18 + q)).toInt < 0) ∧ ((s0.1 86 18).toInt < 0 → (0 < (s0.1 87 0).toInt → (s.1 87 0).toInt = (s0.1 87 0).toInt - 1) ∧ ((s0.1 87 0).toInt ≤ 0 → (s.1 86 8).toInt = 0)))
section GM7
variable {V : w_V}
theorem y_goMinute (hsails : y_eSails V) (hmiss : y_eMiss V) (hlen : y_eLen V) (hfr : y_eFr3 V) : y_C g_sh g_ts 212 5 (fun a s => w_T V g_sh (y_mk g_sh s) ∧ ∃ (b : Int32) (tl : Bool), a = [.inr (.inr 67), .inl b] ∧ ((b = 0 ∧ tl = false) ∨ (b = 1 ∧ tl = true))) (fun a s v s2 => ∀ (b : Int32) (tl : Bool), a = [.inr (.inr 67), .inl b] → ((b = 0 ∧ tl = false) ∨ (b = 1 ∧ tl = true)) → y_gmQ V tl s v s2) := by
  refine y_C.of (t := g_t212) rfl (by decide) ?_
  rintro d a s0 hd ⟨hT0, b, tl, rfl, hb⟩
  have hrl := y_rails hT0
  have key : y_W g_sh g_ts d g_t212 (y_gmQ V tl s0) 0 (q_args 0 [.inr (.inr 67), .inl b]) [] s0 := by
    refine y_run 4 rfl ?_
    refine y_sub (ls1 := [(0, .inr (.inr 67)), (1, .inl b), (2, .inl (Int32.ofInt 0)), (3, .inl (Int32.ofInt 0))]) (show ([0, 1, 2, 3] : List Nat).Nodup by decide) (y_R_cons rfl (y_R_cons rfl (y_R_cons rfl (y_R_cons rfl y_R_nil)))) ?_
    refine y_gm1 hsails hmiss hlen (s0 := s0) (tl := tl) (by omega) hb ?_ 3 s0 _ 0 ⟨hT0, y_fr.rf, by omega, fun _ => rfl, fun _ _ => ⟨rfl, fun _ => rfl, fun h => by omega⟩⟩ rfl (by omega) (by omega)
    intro s R ls hR hI l0 l2
    obtain ⟨hT, hf, hm, hsd, hl⟩ := hI
    refine y_sub (ls1 := [(0, .inr (.inr 67)), (2, .inl (Int32.ofInt 0))]) (show ([0, 2] : List Nat).Nodup by decide) (y_R_cons l0 (y_R_cons l2 y_R_nil)) ?_
    have hgb := y_toIntB (s.1 65 62 + Int32.ofInt 1)
    refine y_run 8 rfl ?_
    have hT1 := y_Tup (lo := 0) (hi := 4294967295) (g := 0) hT (o := 65) (k := 62) (x := s.1 65 62 + Int32.ofInt 1) rfl rfl (by decide +kernel) (by omega) (by omega)
    have hf1 : y_fr g_sh y_gK s0 (y_up s 65 62 (.inl (s.1 65 62 + Int32.ofInt 1))) := (hf.mono (by decide +kernel)).up rfl (by decide +kernel)
    show y_W g_sh g_ts d g_t212 (y_gmQ V tl s0) 74 [(3, .inl (Int32.ofInt 0)), (0, .inr (.inr 67)), (2, .inl (Int32.ofInt 0))] [] (y_up s 65 62 (.inl (s.1 65 62 + Int32.ofInt 1)))
    have u1 : ∀ o k, ¬ (o = 65 ∧ k = 62) → (y_up s 65 62 (.inl (s.1 65 62 + Int32.ofInt 1))).1 o k = s.1 o k := fun o k h => y_up_ne h
    revert hT1 hf1 u1
    generalize y_up s 65 62 (.inl (s.1 65 62 + Int32.ofInt 1)) = s1
    intro hT1 hf1 u1
    have hrl1 := y_rails hT1
    refine y_sub (ls1 := [(0, .inr (.inr 67)), (2, .inl (Int32.ofInt 0)), (3, .inl (Int32.ofInt 0))]) (show ([0, 2, 3] : List Nat).Nodup by decide) (y_R_cons rfl (y_R_cons rfl (y_R_cons rfl y_R_nil))) ?_
    refine y_gm2 hfr (s1 := s1) (by omega) ?_ 3 s1 _ _ 0 hT1 y_fr.rf (fun _ => ⟨rfl, rfl⟩) rfl (by omega) (by omega)
    intro s2 set2 ls hT2 hf2 hk2 l0 l2
    refine y_sub (ls1 := [(0, .inr (.inr 67)), (2, .inl set2)]) (show ([0, 2] : List Nat).Nodup by decide) (y_R_cons l0 (y_R_cons l2 y_R_nil)) ?_
    refine y_run 4 rfl ?_
    refine y_ald86 (j := 26) rfl rfl (by omega) ?_
    refine y_run 2 rfl ?_
    have hmb := y_toIntB (s2.1 86 26 + Int32.ofInt 1)
    refine y_ast86 (lo := 0) (hi := 4294967295) hT2 rfl (j := 26) rfl (by omega) rfl (by omega) (by omega) (fun hT3 => ?_)
    have hf3 : y_fr g_sh y_gK s0 (y_up s2 86 26 (.inl (s2.1 86 26 + Int32.ofInt 1))) := (hf1.tr (hf2.mono (by decide +kernel))).up rfl (by decide +kernel)
    have u3 : ∀ o k, ¬ (o = 86 ∧ k = 26) → (y_up s2 86 26 (.inl (s2.1 86 26 + Int32.ofInt 1))).1 o k = s2.1 o k := fun o k h => y_up_ne h
    have m3 : (y_up s2 86 26 (.inl (s2.1 86 26 + Int32.ofInt 1))).1 86 26 = s2.1 86 26 + Int32.ofInt 1 := y_up_self
    revert hT3 hf3 u3 m3
    generalize y_up s2 86 26 (.inl (s2.1 86 26 + Int32.ofInt 1)) = s3
    intro hT3 hf3 u3 m3
    have e26 : s2.1 86 26 = s0.1 86 26 := by
      rw [hf2.at (o := 86) (k := 26) (A := w_t 0) rfl rfl (by decide +kernel), u1 86 26 (by omega)]
      exact hf.at (o := 86) (k := 26) (A := w_t 0) rfl rfl (by decide +kernel)
    have hrl3 := y_rails hT3
    refine y_run 2 rfl ?_
    refine y_sub (ls1 := [(0, .inr (.inr 67)), (2, .inl set2), (3, .inl (Int32.ofInt 0))]) (show ([0, 2, 3] : List Nat).Nodup by decide) (y_R_cons rfl (y_R_cons rfl (y_R_cons rfl y_R_nil))) ?_
    refine y_gm3 hsails hmiss hfr (s1 := s3) (by omega) ?_ 3 s3 _ 0 hT3 y_fr.rf (fun _ => ⟨rfl, rfl⟩) (fun _ q h => by omega) rfl (by omega) (by omega)
    intro s4 hT4 hf4 hk4 hq4
    have e8 : s4.1 86 8 = s.1 86 8 := by
      rw [hf4.at (o := 86) (k := 8) (A := w_n 0 8 0) rfl rfl (by decide +kernel), u3 86 8 (by omega), hf2.at (o := 86) (k := 8) (A := w_n 0 8 0) rfl rfl (by decide +kernel), u1 86 8 (by omega)]
    have e27 : s4.1 86 27 = s.1 86 27 := by
      rw [hf4.at (o := 86) (k := 27) (A := w_t 0) rfl rfl (by decide +kernel), u3 86 27 (by omega), hf2.at (o := 86) (k := 27) (A := w_t 0) rfl rfl (by decide +kernel), u1 86 27 (by omega)]
    have e28 : s3.1 65 28 = s0.1 65 28 := hf3.at (o := 65) (k := 28) (A := w_n 1 3 0) rfl rfl (by decide +kernel)
    have e26b : s4.1 86 26 = s0.1 86 26 + Int32.ofInt 1 := by
      rw [hf4.at (o := 86) (k := 26) (A := w_t 0) rfl rfl (by decide +kernel), m3, e26]
    refine ⟨⟨_, rfl⟩, hT4, hf3.tr (hf4.mono (by decide +kernel)), by rw [e8]; exact hm, fun h => by rw [e27]; exact hsd h, e26b, fun q1 q2 => ⟨?_, fun q3 => ?_⟩⟩
    · have hadd : (s0.1 86 26 + Int32.ofInt 1).toInt = (s0.1 86 26).toInt + 1 := y_add (x := s0.1 86 26) (y := 1) (by show _ ≤ _ + (1 : Int); omega) (by show _ + (1 : Int) ≤ _; omega)
      have := hq4 (by rw [m3, e26, hadd]; omega)
      rw [e28] at this
      exact this
    · obtain ⟨c1, -, c3⟩ := hl q1 q3
      have a1 : s1.1 86 18 = s0.1 86 18 := by rw [u1 86 18 (by omega), c1]
      have a2 := hk2 (by rw [a1]; exact q3)
      have a3 : s3.1 86 18 = s0.1 86 18 := by rw [u3 86 18 (by omega), a2.1, a1]
      have a4 := hk4 (by rw [a3]; exact q3)
      have a5 : s4.1 87 0 = s.1 87 0 := by rw [a4.2, u3 87 0 (by omega), a2.2, u1 87 0 (by omega)]
      refine ⟨fun q => ?_, fun q => ?_⟩
      · rw [a5]
        exact (c3 hR).1 q
      · rw [e8]
        exact (c3 hR).2 q
  intro h ns hRp
  obtain ⟨v, h2, s2, he, hR2, hQ⟩ := key h ns hRp
  refine ⟨v, h2, s2, he, hR2, fun b2 tl2 e hb2 => ?_⟩
  cases e
  have e4 : tl2 = tl := by
    rcases hb with ⟨e1, rfl⟩ | ⟨e1, rfl⟩
    · rcases hb2 with ⟨e2, rfl⟩ | ⟨e2, rfl⟩
      · rfl
      · rw [e1] at e2
        exact absurd e2 (by decide)
    · rcases hb2 with ⟨e2, rfl⟩ | ⟨e2, rfl⟩
      · rw [e1] at e2
        exact absurd e2 (by decide)
      · rfl
  subst e4
  exact hQ
end GM7
