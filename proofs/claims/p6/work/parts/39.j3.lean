/-! by hand: stepsUp whole -/
section SU3
variable {V : w_V} {d : Nat} {R : Nat} {r b : Int32} {s0 : y_H}
/-- behind the loop -/
theorem y_su_exit {tl : Bool} (hlen : y_eLen V) (hd : 3 ≤ d) (hb : (b = 0 ∧ tl = false) ∨ (b = 1 ∧ tl = true)) (hr : r.toInt = (R : Int)) (hR : R < 3) {s : y_H} (hT : w_T V g_sh (y_mk g_sh s)) (hf : y_fr g_sh y_su0 s0 s) (hm : (s.1 86 8).toInt ≤ (s0.1 86 8).toInt) (hlate : 30000 ≤ (s0.1 86 26).toInt → (s.1 86 8).toInt ≤ 0) : y_W g_sh g_ts d g_t304 (y_suQ V R tl s0) 37 [(0, .inr (.inr 67)), (1, .inl r), (2, .inl b)] [] s := by
  have h8 := y_air8 hT
  have e27 : s.1 86 27 = s0.1 86 27 := hf.at (o := 86) (k := 27) (A := w_t 0) rfl rfl (by decide +kernel)
  refine y_run 1 rfl ?_
  refine y_call y_queueMany 1 rfl (fun _ _ _ => rfl) (a := [.inr (.inr 67)]) rfl rfl (fun h hR => y_mayV (o := 65) (sz := 85) rfl hR) (by omega) rfl (fun v s2 hQ => ?_)
  obtain ⟨rfl, rfl⟩ := hQ
  refine y_if rfl (fun h => ?_) (fun h => ?_)
  · have hne : (s2.1 86 8).toInt ≠ 0 := h
    have hnl : ¬ 30000 ≤ (s0.1 86 26).toInt := fun q => by
      have := hlate q
      omega
    refine y_run 4 rfl ?_
    refine y_ald86 (j := 0) rfl rfl (by omega) ?_
    have h0 := y_air0 hT (j := 0) (by omega)
    refine y_run 1 rfl ?_
    refine y_call y_queueMany 1 rfl (fun _ _ _ => rfl) (a := [.inr (.inr 67)]) rfl rfl (fun h hR => y_mayV (o := 65) (sz := 85) rfl hR) (by omega) rfl (fun v s3 hQ => ?_)
    obtain ⟨rfl, rfl⟩ := hQ
    refine y_run 2 rfl ?_
    refine y_callM hlen (by decide +kernel) 1 rfl (fun _ _ _ => rfl) (a := [.inr (.inr 67), .inl (s3.1 86 0), .inl (s3.1 86 8 - Int32.ofInt 1)]) rfl rfl (fun h hR => y_mayV (o := 65) (sz := 85) rfl hR) hd hT ⟨⟨67, rfl, List.mem_cons_self⟩, y_iv (by omega) (by omega), y_ivall, True.intro⟩ (fun v s4 hT4 hf4 hv => ?_)
    obtain ⟨q, hq, ho⟩ := hv
    have eq : q = ([], some (w_n 1 60 0), []) := by simpa using hq
    subst eq
    obtain ⟨w, rfl, w1, w2⟩ := y_ans ho
    have e8 : s4.1 86 8 = s3.1 86 8 := hf4.at (o := 86) (k := 8) (A := w_n 0 8 0) rfl rfl (by decide +kernel)
    have e27b : s4.1 86 27 = s3.1 86 27 := hf4.at (o := 86) (k := 27) (A := w_t 0) rfl rfl (by decide +kernel)
    refine y_run 3 rfl ?_
    refine y_call (y_takeOut (V := V)) 1 rfl (fun _ _ _ => rfl) (a := [.inr (.inr 67), .inl (Int32.ofInt 0)]) rfl rfl (fun h hR => y_mayV (o := 65) (sz := 85) rfl hR) (by omega) ⟨hT4, Int32.ofInt 0, 0, rfl, rfl, by omega, by rw [e8]; omega⟩ (fun v s5 hQ => ?_)
    obtain ⟨rfl, hT5, hf5, hm5, -, -⟩ := hQ _ 0 rfl rfl
    have hp := y_air0 hT4 (j := 0) (by omega)
    have e27c : s5.1 86 27 = s4.1 86 27 := hf5.at (o := 86) (k := 27) (A := w_t 0) rfl rfl (by decide +kernel)
    have hfr : y_fr g_sh (y_suK R) s0 s5 := ((hf.mono (y_suInc R hR)).tr (hf4.mono (y_suIncL R hR))).tr (hf5.mono (y_suIncT R hR))
    have hm6 : (s5.1 86 8).toInt ≤ (s0.1 86 8).toInt := by
      rw [hm5, e8]
      omega
    refine y_run 2 rfl ?_
    refine y_if rfl (fun h => ?_) (fun h => ?_)
    · refine y_sub (ls1 := [(0, .inr (.inr 67)), (1, .inl r), (3, .inl w), (4, .inl (s4.1 86 0))]) (show ([0, 1, 3, 4] : List Nat).Nodup by decide) (y_R_cons rfl (y_R_cons rfl (y_R_cons rfl (y_R_cons rfl y_R_nil)))) ?_
      exact y_su_end (P := (s4.1 86 0).toInt.toNat) hr hR hT5 hfr (by omega) (by omega) hm6 hnl (fun _ => by rw [e27c, e27b, e27])
    · have htl : tl = true := by
        rcases hb with ⟨rfl, -⟩ | ⟨-, rfl⟩
        · exact absurd rfl h
        · rfl
      refine y_run 6 rfl ?_
      refine y_ald86 (j := 27) rfl rfl (by omega) ?_
      refine y_run 5 rfl ?_
      refine y_irem rfl (show (1000 : Int) ≠ 0 by omega) ?_
      generalize hz : (s5.1 86 27 * (Int16.ofInt 137).toInt32 + (Int8.ofInt 71).toInt32) - (s5.1 86 27 * (Int16.ofInt 137).toInt32 + (Int8.ofInt 71).toInt32) / (Int16.ofInt 1000).toInt32 * (Int16.ofInt 1000).toInt32 = z
      have hzb := y_toIntB z
      refine y_ast86 (lo := 0) (hi := 4294967295) hT5 rfl (j := 27) rfl (by omega) rfl (by omega) (by omega) (fun hT6 => ?_)
      have hf6 := hfr.up (o := 86) (k := 27) (v := .inl z) rfl (y_suRl R hR).2.2
      refine y_run 4 rfl ?_
      refine y_ald86 (j := 27) rfl rfl (by omega) ?_
      refine y_run 1 rfl ?_
      refine y_irem rfl (show (100 : Int) ≠ 0 by omega) ?_
      refine y_run 2 rfl ?_
      have fin : ∀ w2 : Int32, y_W g_sh g_ts d g_t304 (y_suQ V R tl s0) 121 [(4, .inl (s4.1 86 0)), (3, .inl w), (0, .inr (.inr 67)), (1, .inl r), (2, .inl b)] [.inl w2, .inl w] (y_up s5 86 27 (.inl z)) := by
        intro w2
        refine y_run 2 rfl ?_
        refine y_sub (ls1 := [(0, .inr (.inr 67)), (1, .inl r), (3, .inl (w + w2)), (4, .inl (s4.1 86 0))]) (show ([0, 1, 3, 4] : List Nat).Nodup by decide) (y_R_cons rfl (y_R_cons rfl (y_R_cons rfl (y_R_cons rfl y_R_nil)))) ?_
        refine y_su_end (P := (s4.1 86 0).toInt.toNat) hr hR hT6 hf6 (by omega) (by omega) ?_ hnl (fun h => by rw [htl] at h; cases h)
        rw [y_up_ne (by omega)]
        exact hm6
      refine y_ic rfl (fun _ => ?_) (fun _ => ?_)
      · refine y_run 1 rfl ?_
        exact fin _
      · refine y_run 2 rfl ?_
        exact fin _
  · have he : (s2.1 86 8).toInt = 0 := Classical.byContradiction fun q => h q
    refine y_vret rfl ⟨rfl, hT, hf.mono (y_suInc R hR), hm, fun _ => ⟨he, ?_⟩, fun _ => e27⟩
    exact hf.at (o := 86) (k := 18 + R) (y_airr R hR) (y_airk _ (by omega)) (y_su0r R hR)
theorem y_su_loop {tl : Bool} (hsails : y_eSails V) (hmiss : y_eMiss V) (hlen : y_eLen V) (hd : 3 ≤ d) (hb : (b = 0 ∧ tl = false) ∨ (b = 1 ∧ tl = true)) (hr : r.toInt = (R : Int)) (hR : R < 3) : ∀ (n : Nat) (s : y_H), w_T V g_sh (y_mk g_sh s) → y_fr g_sh y_su0 s0 s → (s.1 86 8).toInt ≤ (n : Int) → (s.1 86 8).toInt ≤ (s0.1 86 8).toInt → y_W g_sh g_ts d g_t304 (y_suQ V R tl s0) 0 [(0, .inr (.inr 67)), (1, .inl r), (2, .inl b)] [] s := by
  intro n
  induction n with
  | zero =>
    intro s hT hf hn hm
    refine y_run 1 rfl ?_
    refine y_call y_queueMany 1 rfl (fun _ _ _ => rfl) (a := [.inr (.inr 67)]) rfl rfl (fun h hR => y_mayV (o := 65) (sz := 85) rfl hR) (by omega) rfl (fun v s2 hQ => ?_)
    obtain ⟨rfl, rfl⟩ := hQ
    refine y_if rfl (fun _ => ?_) (fun h => absurd (show (s2.1 86 8).toInt ≤ 0 by omega) h)
    exact y_su_exit hlen hd hb hr hR hT hf hm (fun _ => by omega)
  | succ n ih =>
    intro s hT hf hn hm
    refine y_run 1 rfl ?_
    refine y_call y_queueMany 1 rfl (fun _ _ _ => rfl) (a := [.inr (.inr 67)]) rfl rfl (fun h hR => y_mayV (o := 65) (sz := 85) rfl hR) (by omega) rfl (fun v s2 hQ => ?_)
    obtain ⟨rfl, rfl⟩ := hQ
    refine y_if rfl (fun h => ?_) (fun h => ?_)
    · have h2 : (s2.1 86 8).toInt ≤ 0 := h
      exact y_su_exit hlen hd hb hr hR hT hf hm (fun _ => h2)
    have hpos : ¬ (s2.1 86 8).toInt ≤ 0 := h
    have h0 := y_air0 hT (j := 0) (by omega)
    refine y_run 6 rfl ?_
    refine y_ald86 (j := 0) rfl rfl (by omega) ?_
    refine y_ald82 (j := (s2.1 86 0).toInt.toNat) rfl (by omega) (by omega) ?_
    have hsh := y_shipOf hT (j := (s2.1 86 0).toInt.toNat) (by omega)
    refine y_call (y_isGone hsails) 1 rfl (fun _ _ _ => rfl) (a := [.inr (.inr 67), .inl (s2.1 82 (s2.1 86 0).toInt.toNat)]) rfl rfl (fun h hR => y_mayV (o := 65) (sz := 85) rfl hR) (by omega) ⟨hT, _, rfl, hsh.1, hsh.2⟩ (fun v s3 hQ => ?_)
    obtain ⟨rfl, hg⟩ := hQ
    have e26 : s3.1 86 26 = s0.1 86 26 := hf.at (o := 86) (k := 26) (A := w_t 0) rfl rfl (by decide +kernel)
    rcases hg with rfl | ⟨rfl, hlt⟩
    · refine y_if rfl (fun h => absurd (show (1 : Int) = 0 from h) (by omega)) (fun _ => ?_)
      refine y_run 3 rfl ?_
      refine y_call (y_takeOut (V := V)) 1 rfl (fun _ _ _ => rfl) (a := [.inr (.inr 67), .inl (Int32.ofInt 0)]) rfl rfl (fun h hR => y_mayV (o := 65) (sz := 85) rfl hR) (by omega) ⟨hT, Int32.ofInt 0, 0, rfl, rfl, by omega, by omega⟩ (fun v s5 hQ => ?_)
      obtain ⟨rfl, hT5, hf5, hm5, -, -⟩ := hQ _ 0 rfl rfl
      refine y_callM hmiss (by decide +kernel) 1 rfl (fun _ _ _ => rfl) (a := [.inr (.inr 67), .inl (s3.1 86 0)]) rfl rfl (fun h hR => y_mayV (o := 65) (sz := 85) rfl hR) (by omega) hT5 ⟨⟨67, rfl, List.mem_cons_self⟩, y_iv (by omega) (by omega), True.intro⟩ (fun v s6 hT6 hf6 hv => ?_)
      obtain ⟨q, hq, ho⟩ := hv
      have eq : q = ([], none, []) := by simpa using hq
      subst eq
      have ev := y_ansV ho
      subst ev
      have e8 : s6.1 86 8 = s5.1 86 8 := hf6.at (o := 86) (k := 8) (A := w_n 0 8 0) rfl rfl (by decide +kernel)
      refine y_run 1 rfl ?_
      exact ih s6 hT6 ((hf.tr (hf5.mono (by decide +kernel))).tr (hf6.mono (by decide +kernel))) (by rw [e8, hm5]; omega) (by rw [e8, hm5]; omega)
    · refine y_if rfl (fun _ => ?_) (fun h => absurd rfl h)
      refine y_su_exit hlen hd hb hr hR hT hf hm (fun q => ?_)
      rw [← e26] at q
      omega
theorem y_stepsUp (hsails : y_eSails V) (hmiss : y_eMiss V) (hlen : y_eLen V) : y_C g_sh g_ts 304 4 (fun a s => w_T V g_sh (y_mk g_sh s) ∧ ∃ (r b : Int32) (R : Nat) (tl : Bool), a = [.inr (.inr 67), .inl r, .inl b] ∧ r.toInt = (R : Int) ∧ R < 3 ∧ ((b = 0 ∧ tl = false) ∨ (b = 1 ∧ tl = true))) (fun a s v s2 => ∀ (r b : Int32) (R : Nat) (tl : Bool), a = [.inr (.inr 67), .inl r, .inl b] → r.toInt = (R : Int) → ((b = 0 ∧ tl = false) ∨ (b = 1 ∧ tl = true)) → y_suQ V R tl s v s2) := by
  refine y_C.of (t := g_t304) rfl (by decide) ?_
  rintro d a s hd ⟨hT, r, b, R, tl, rfl, hr, hR, hb⟩
  have h8 := y_air8 hT
  have key : y_W g_sh g_ts d g_t304 (y_suQ V R tl s) 0 [(0, .inr (.inr 67)), (1, .inl r), (2, .inl b)] [] s := y_su_loop hsails hmiss hlen (by omega) hb hr hR 8 s hT y_fr.rf (by omega) (by omega)
  have key2 := y_sub (ls1 := [(0, .inr (.inr 67)), (1, .inl r), (2, .inl b)]) (ls2 := q_args 0 [.inr (.inr 67), .inl r, .inl b]) (show ([0, 1, 2] : List Nat).Nodup by decide) (y_R_cons rfl (y_R_cons rfl (y_R_cons rfl y_R_nil))) key
  intro h ns hRp
  obtain ⟨v, h2, s2, he, hR2, hQ⟩ := key2 h ns hRp
  refine ⟨v, h2, s2, he, hR2, fun r2 b2 R2 tl2 e hr2 hb2 => ?_⟩
  cases e
  have e3 : R2 = R := by omega
  subst e3
  have e4 : tl2 = tl := by
    rcases hb with ⟨e1, rfl⟩ | ⟨e1, rfl⟩
    · rcases hb2 with ⟨e2, rfl⟩ | ⟨e2, rfl⟩
      · rfl
      · rw [e1] at e2
        exact absurd e2 (by decide)
    · rcases hb2 with ⟨e2, rfl⟩ | ⟨e2, rfl⟩
      · rw [e1] at e2
        exact absurd e2 (by decide)
      · rfl
  subst e4
  exact hQ
end SU3
