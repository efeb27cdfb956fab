/-! by hand: the digits of a number, and token whole -/
def y_num (n v : Int) : Prop := 0 ≤ v ∧ v ≤ 9999 ∧ (n = 0 → v ≤ 0) ∧ (n = 1 → v ≤ 9) ∧ (n = 2 → v ≤ 99) ∧ (n = 3 → v ≤ 999)
/-- what the digits' loop leaves as it was: at, size, the tape -/
def y_same (s s2 : y_H) : Prop := s2.1 65 4 = s.1 65 4 ∧ s2.1 65 5 = s.1 65 5 ∧ ∀ j, s2.1 66 j = s.1 66 j
theorem y_same_here {s s2 : y_H} (h : y_same s s2) {n c : Int32} (hc : y_hereQ n s2 c) : y_hereQ n s c := by
  unfold y_hereQ at hc ⊢
  rw [h.1, h.2.1, h.2.2] at hc
  exact hc
theorem y_tok3 {V : w_V} {d : Nat} {Q : Option (q_V Int32) → y_H → Prop} (hd : 1 ≤ d) : ∀ (m : Nat) (s : y_H) (n : Int32), w_T V g_sh (y_mk g_sh s) → 0 ≤ n.toInt → (s.1 65 4).toInt + n.toInt ≤ (s.1 65 5).toInt → y_num n.toInt (s.1 65 8).toInt → (s.1 65 5).toInt - (s.1 65 4).toInt - n.toInt ≤ (m : Int) → (∀ (s2 : y_H) (n2 : Int32), w_T V g_sh (y_mk g_sh s2) → y_fr g_sh y_tk s s2 → y_same s s2 → n.toInt ≤ n2.toInt → (s.1 65 4).toInt + n2.toInt ≤ (s.1 65 5).toInt → (n2 = n → ∀ c, y_hereQ n s c → ¬ (48 ≤ c.toInt ∧ c.toInt ≤ 57)) → y_W g_sh g_ts d g_t309 Q 186 [(0, .inr (.inr 67)), (2, .inl n2)] [] s2) → y_W g_sh g_ts d g_t309 Q 144 [(0, .inr (.inr 67)), (2, .inl n)] [] s := by
  intro m
  induction m with
  | zero =>
    intro s n hT hn hb hnum hm hexit
    have hat := y_rng (lo := 2147483648) (hi := 2147485248) (g := 0) hT (o := 65) (k := 4) rfl rfl
    have hsz := y_rng (lo := 2147483648) (hi := 2147485248) (g := 0) hT (o := 65) (k := 5) rfl rfl
    refine y_run 2 rfl ?_
    refine y_callHere rfl hT hn (by omega) rfl hd (fun c hc => ?_)
    have hc1 : c = -1 := by
      rcases hc with ⟨h1, -⟩ | ⟨-, h2⟩
      · omega
      · exact h2
    refine y_callTest y_isDigit rfl rfl hd (fun hP => ?_) (fun hP => ?_)
    · subst hc1
      have h2 : (48 : Int) ≤ -1 := hP.1
      omega
    · refine y_if rfl (fun _ => ?_) (fun h => absurd rfl h)
      refine hexit s n hT y_fr.rf ⟨rfl, rfl, fun _ => rfl⟩ (by omega) hb (fun _ c2 hc2 => ?_)
      rcases hc2 with ⟨h1, -⟩ | ⟨-, h2⟩
      · omega
      · subst h2
        intro q
        have h2 : (48 : Int) ≤ -1 := q.1
        omega
  | succ m ih =>
    intro s n hT hn hb hnum hm hexit
    have hat := y_rng (lo := 2147483648) (hi := 2147485248) (g := 0) hT (o := 65) (k := 4) rfl rfl
    have hsz := y_rng (lo := 2147483648) (hi := 2147485248) (g := 0) hT (o := 65) (k := 5) rfl rfl
    refine y_run 2 rfl ?_
    refine y_callHere rfl hT hn (by omega) rfl hd (fun c hc => ?_)
    refine y_callTest y_isDigit rfl rfl hd (fun hP => ?_) (fun hP => ?_)
    · refine y_if rfl (fun h => absurd (show (1 : Int) = 0 from h) (by omega)) (fun _ => ?_)
      have hlt : (s.1 65 4).toInt + n.toInt < (s.1 65 5).toInt := by
        rcases hc with ⟨h1, -⟩ | ⟨-, h2⟩
        · exact h1
        · subst h2
          have h2 : (48 : Int) ≤ -1 := hP.1
          omega
      have hadd := y_add (x := n) (y := 1) (by show _ ≤ _ + (1 : Int); omega) (by show _ + (1 : Int) ≤ _; omega)
      have hadd2 : (n + 1).toInt = n.toInt + 1 := hadd
      have hnext : ∀ s2 : y_H, w_T V g_sh (y_mk g_sh s2) → y_fr g_sh y_tk s s2 → y_same s s2 → y_num (n.toInt + 1) (s2.1 65 8).toInt → y_W g_sh g_ts d g_t309 Q 180 [(0, .inr (.inr 67)), (2, .inl n)] [] s2 := by
        intro s2 hT2 hf2 e2 hn2
        refine y_run 2 rfl ?_
        refine y_sub (ls1 := [(0, .inr (.inr 67)), (2, .inl (n + 1))]) (show ([0, 2] : List Nat).Nodup by decide) (y_R_cons rfl (y_R_cons rfl y_R_nil)) ?_
        refine ih s2 (n + 1) hT2 (by omega) (by rw [e2.1, e2.2.1]; omega) (by rw [hadd2]; exact hn2) (by rw [e2.1, e2.2.1]; omega) (fun s3 n3 hT3 hf3 e3 h3 h4 _ => ?_)
        refine hexit s3 n3 hT3 (hf2.tr hf3) ⟨e3.1.trans e2.1, e3.2.1.trans e2.2.1, fun j => (e3.2.2 j).trans (e2.2.2 j)⟩ (by omega) (by rw [e2.1, e2.2.1] at h4; exact h4) (fun e => ?_)
        subst e
        omega
      unfold y_num at hnum
      refine y_run 2 rfl ?_
      refine y_ic rfl (fun h => ?_) (fun h => ?_)
      · have h4 : (4 : Int) ≤ n.toInt := h
        refine hnext s hT y_fr.rf ⟨rfl, rfl, fun _ => rfl⟩ ?_
        unfold y_num
        omega
      · have h4 : ¬ (4 : Int) ≤ n.toInt := h
        refine y_run 7 rfl ?_
        refine y_callHere rfl hT hn (by omega) rfl hd (fun c2 hc2 => ?_)
        have hcd : 48 ≤ c2.toInt ∧ c2.toInt ≤ 57 := by
          have hP2 : 48 ≤ c.toInt ∧ c.toInt ≤ 57 := hP
          rcases hc with ⟨h1, h2, -⟩ | ⟨h1, h2⟩
          · rcases hc2 with ⟨-, h3, -⟩ | ⟨h3, -⟩
            · rw [h3, ← h2]
              exact hP2
            · omega
          · omega
        have hmul : ((10 : Int32) * s.1 65 8).toInt = 10 * (s.1 65 8).toInt := y_ml (x := 10) (y := s.1 65 8) (by show _ ≤ (10 : Int) * _; omega) (by show (10 : Int) * _ ≤ _; omega)
        have ha2 : ((10 : Int32) * s.1 65 8 + c2).toInt = 10 * (s.1 65 8).toInt + c2.toInt := by
          rw [y_add (by rw [hmul]; omega) (by rw [hmul]; omega), hmul]
        have ha3 : ((10 : Int32) * s.1 65 8 + c2 - 48).toInt = 10 * (s.1 65 8).toInt + c2.toInt - 48 := by
          rw [y_sb (by rw [ha2]; show _ ≤ _ - (48 : Int); omega) (by rw [ha2]; show _ - (48 : Int) ≤ _; omega), ha2]
          rfl
        refine y_run 4 rfl ?_
        refine hnext _ (y_Tup (lo := 2147483648) (hi := 2147493647) (g := 0) hT (o := 65) (k := 8) (x := (10 : Int32) * s.1 65 8 + c2 - 48) rfl rfl (by decide +kernel) (by omega) (by omega)) (y_fr.rf.up (o := 65) (k := 8) rfl (by decide +kernel)) ⟨rfl, rfl, fun j => rfl⟩ ?_
        show y_num _ ((10 : Int32) * s.1 65 8 + c2 - 48).toInt
        unfold y_num
        omega
    · refine y_if rfl (fun _ => ?_) (fun h => absurd rfl h)
      refine hexit s n hT y_fr.rf ⟨rfl, rfl, fun _ => rfl⟩ (by omega) hb (fun _ c2 hc2 => ?_)
      rcases hc with ⟨h1, h2, -⟩ | ⟨h1, h2⟩
      · rcases hc2 with ⟨-, h3, -⟩ | ⟨h3, -⟩
        · rw [h3, ← h2]
          exact hP
        · omega
      · rcases hc2 with ⟨h3, -⟩ | ⟨-, h3⟩
        · omega
        · rw [h3, ← h2]
          exact hP
theorem y_token {V : w_V} : y_C g_sh g_ts 309 2 (fun a s => w_T V g_sh (y_mk g_sh s) ∧ a = [.inr (.inr 67)]) (fun _ s v s2 => y_tokQ V s v s2) := by
  refine y_C.of (t := g_t309) rfl (by decide) ?_
  rintro d a s0 hd ⟨hT0, rfl⟩
  have hd1 : 1 ≤ d := by omega
  refine y_tok1 (V := V) hd1 ((s0.1 65 5).toInt - (s0.1 65 4).toInt).toNat s0 hT0 (by omega) (fun s1 hT1 hf1 hle1 => ?_)
  have hat := y_rng (lo := 2147483648) (hi := 2147485248) (g := 0) hT1 (o := 65) (k := 4) rfl rfl
  have hsz := y_rng (lo := 2147483648) (hi := 2147485248) (g := 0) hT1 (o := 65) (k := 5) rfl rfl
  refine y_run 6 rfl ?_
  have hT2 := y_Tup (lo := 0) (hi := 4294967295) (g := 0) hT1 (o := 65) (k := 7) (x := s1.1 65 4) rfl rfl (by decide +kernel) (by omega) (by omega)
  have hf2 : y_fr g_sh y_tk s0 (y_up s1 65 7 (.inl (s1.1 65 4))) := hf1.up rfl (by decide +kernel)
  refine y_callHere rfl hT2 (show (0 : Int) ≤ 0 by omega) (show (0 : Int) ≤ 1000000 by omega) rfl hd1 (fun c hc => ?_)
  refine y_run 9 rfl ?_
  have hT3 := y_Tupl (x := 0) hT2 (o := 65) (k := 9) (u := ()) rfl rfl (by decide +kernel)
  have hT4 := y_Tup (lo := 2147483648) (hi := 2147493647) (g := 0) hT3 (o := 65) (k := 8) (x := 0) rfl rfl (by decide +kernel) (by show _ ≤ (0 : Int); omega) (by show (0 : Int) ≤ _; omega)
  have hf4 : y_fr g_sh y_tk s0 (y_up (y_up (y_up s1 65 7 (.inl (s1.1 65 4))) 65 9 (.inr (.inl 0))) 65 8 (.inl 0)) := (hf2.up rfl (by decide +kernel)).up rfl (by decide +kernel)
  show y_W g_sh g_ts d g_t309 (y_tokQ V s0) 59 [(2, .inl 0), (1, .inl c), (0, .inr (.inr 67))] [] (y_up (y_up (y_up s1 65 7 (.inl (s1.1 65 4))) 65 9 (.inr (.inl 0))) 65 8 (.inl 0))
  generalize hs4 : y_up (y_up (y_up s1 65 7 (.inl (s1.1 65 4))) 65 9 (.inr (.inl 0))) 65 8 (.inl 0) = s4
  have hc4 : y_hereQ 0 s4 c := by
    rw [← hs4]
    exact hc
  have e4 : s4.1 65 4 = s1.1 65 4 := by rw [← hs4]; rfl
  have e5 : s4.1 65 5 = s1.1 65 5 := by rw [← hs4]; rfl
  have e8 : s4.1 65 8 = 0 := by rw [← hs4]; rfl
  rw [hs4] at hT4 hf4
  have fin : ∀ (s5 : y_H) (n v : Int32) (ls : q_U Int32), w_T V g_sh (y_mk g_sh s5) → y_fr g_sh y_tk s0 s5 → s5.1 65 4 = s1.1 65 4 → q_at ls 0 = some (.inr (.inr 67)) → q_at ls 2 = some (.inl n) → 0 ≤ n.toInt → (s1.1 65 4).toInt + n.toInt ≤ 1600 → 0 ≤ v.toInt → v.toInt ≤ 255 → (v.toInt ≠ 0 → v.toInt ≠ 3 → 1 ≤ n.toInt) → y_W g_sh g_ts d g_t309 (y_tokQ V s0) 232 ls [] (y_up s5 65 6 (.inl v)) := by
    intro s5 n v ls hT5 hf5 ea hl0 hl2 hn hb hv0 hv1 h1
    refine y_sub (ls1 := [(0, .inr (.inr 67)), (2, .inl n)]) (show ([0, 2] : List Nat).Nodup by decide) (y_R_cons hl0 (y_R_cons hl2 y_R_nil)) ?_
    refine y_tok9 (y_Tup (lo := 2147483648) (hi := 2147483903) (g := 0) hT5 (o := 65) (k := 6) (x := v) rfl rfl (by decide +kernel) (by omega) (by omega)) (hf5.up rfl (by decide +kernel)) ?_ hn ?_ ?_
    · show (s0.1 65 4).toInt ≤ (s5.1 65 4).toInt
      rw [ea]
      exact hle1
    · show (s5.1 65 4).toInt + n.toInt ≤ 1600
      rw [ea]
      exact hb
    · exact h1
  refine y_run 1 rfl ?_
  refine y_if rfl (fun hc0 => ?_) (fun hc0 => ?_)
  · have hc1 : 0 ≤ c.toInt := hc0
    have hlt : (s1.1 65 4).toInt < (s1.1 65 5).toInt ∧ c.toInt ≤ 255 := by
      rcases hc4 with ⟨h1, -, -, h4⟩ | ⟨-, h2⟩
      · rw [e4, e5] at h1
        have h3 : (s1.1 65 4).toInt + 0 < (s1.1 65 5).toInt := h1
        omega
      · subst h2
        have h3 : (0 : Int) ≤ -1 := hc1
        omega
    refine y_run 1 rfl ?_
    refine y_callTest y_isLetter rfl rfl hd1 (fun hP => ?_) (fun hP => ?_)
    · refine y_if rfl (fun h => absurd (show (1 : Int) = 0 from h) (by omega)) (fun _ => ?_)
      refine y_sub (ls1 := [(0, .inr (.inr 67)), (2, .inl 0)]) (show ([0, 2] : List Nat).Nodup by decide) (y_R_cons rfl (y_R_cons rfl y_R_nil)) ?_
      refine y_tok2 (V := V) hd1 ((s4.1 65 5).toInt - (s4.1 65 4).toInt).toNat s4 0 hT4 (show (0 : Int) ≤ 0 by omega) (by rw [e4, e5]; show _ + (0 : Int) ≤ _; omega) (by show _ - (0 : Int) ≤ _; omega) (fun s5 n2 hT5 hf5 e6 hn2 hb2 hfirst => ?_)
      have hn3 : 0 ≤ n2.toInt := hn2
      have hn4 : n2.toInt ≠ 0 := by
        intro e
        have e7 : n2 = 0 := by
          rw [← Int32.toInt_inj]
          exact e
        exact hfirst e7 c hc4 hP
      rw [e4, e5] at hb2
      have ea : s5.1 65 4 = s1.1 65 4 := by rw [e6, e4]
      refine y_run 3 rfl ?_
      refine y_ic rfl (fun _ => ?_) (fun _ => ?_)
      · refine y_run 3 rfl ?_
        exact fin s5 n2 1 _ hT5 (hf4.tr hf5) ea rfl rfl hn3 (by omega) (show (0 : Int) ≤ 1 by omega) (show (1 : Int) ≤ 255 by omega) (fun _ _ => by omega)
      · refine y_run 4 rfl ?_
        exact fin s5 n2 3 _ hT5 (hf4.tr hf5) ea rfl rfl hn3 (by omega) (show (0 : Int) ≤ 3 by omega) (show (3 : Int) ≤ 255 by omega) (fun _ _ => by omega)
    · refine y_if rfl (fun _ => ?_) (fun h => absurd rfl h)
      refine y_run 1 rfl ?_
      refine y_callTest y_isDigit rfl rfl hd1 (fun hD => ?_) (fun hD => ?_)
      · refine y_if rfl (fun h => absurd (show (1 : Int) = 0 from h) (by omega)) (fun _ => ?_)
        refine y_sub (ls1 := [(0, .inr (.inr 67)), (2, .inl 0)]) (show ([0, 2] : List Nat).Nodup by decide) (y_R_cons rfl (y_R_cons rfl y_R_nil)) ?_
        refine y_tok3 (V := V) hd1 ((s4.1 65 5).toInt - (s4.1 65 4).toInt).toNat s4 0 hT4 (show (0 : Int) ≤ 0 by omega) (by rw [e4, e5]; show _ + (0 : Int) ≤ _; omega) (by rw [e8]; unfold y_num; decide) (by show _ - (0 : Int) ≤ _; omega) (fun s5 n2 hT5 hf5 e6 hn2 hb2 hfirst => ?_)
        have hn3 : 0 ≤ n2.toInt := hn2
        have hn4 : n2.toInt ≠ 0 := by
          intro e
          have e7 : n2 = 0 := by
            rw [← Int32.toInt_inj]
            exact e
          exact hfirst e7 c hc4 hD
        rw [e4, e5] at hb2
        have ea : s5.1 65 4 = s1.1 65 4 := by rw [e6.1, e4]
        refine y_run 3 rfl ?_
        refine y_ic rfl (fun _ => ?_) (fun _ => ?_)
        · refine y_run 4 rfl ?_
          exact fin s5 n2 3 _ hT5 (hf4.tr hf5) ea rfl rfl hn3 (by omega) (show (0 : Int) ≤ 3 by omega) (show (3 : Int) ≤ 255 by omega) (fun _ _ => by omega)
        · refine y_run 2 rfl ?_
          refine y_callHere rfl hT5 hn3 (by omega) rfl hd1 (fun c2 _ => ?_)
          refine y_callTest y_isLetter rfl rfl hd1 (fun _ => ?_) (fun _ => ?_)
          · refine y_if rfl (fun h => absurd (show (1 : Int) = 0 from h) (by omega)) (fun _ => ?_)
            refine y_run 4 rfl ?_
            exact fin s5 n2 3 _ hT5 (hf4.tr hf5) ea rfl rfl hn3 (by omega) (show (0 : Int) ≤ 3 by omega) (show (3 : Int) ≤ 255 by omega) (fun _ _ => by omega)
          · refine y_if rfl (fun _ => ?_) (fun h => absurd rfl h)
            refine y_run 3 rfl ?_
            exact fin s5 n2 2 _ hT5 (hf4.tr hf5) ea rfl rfl hn3 (by omega) (show (0 : Int) ≤ 2 by omega) (show (2 : Int) ≤ 255 by omega) (fun _ _ => by omega)
      · refine y_if rfl (fun _ => ?_) (fun h => absurd rfl h)
        refine y_run 4 rfl ?_
        refine y_callTest y_isSign rfl rfl hd1 (fun _ => ?_) (fun _ => ?_)
        · refine y_if rfl (fun h => absurd (show (1 : Int) = 0 from h) (by omega)) (fun _ => ?_)
          refine y_run 3 rfl ?_
          exact fin s4 1 c _ hT4 hf4 e4 rfl rfl (show (0 : Int) ≤ 1 by omega) (by show _ + (1 : Int) ≤ _; omega) hc1 hlt.2 (fun _ _ => show (1 : Int) ≤ 1 by omega)
        · refine y_if rfl (fun _ => ?_) (fun h => absurd rfl h)
          refine y_run 2 rfl ?_
          exact fin s4 1 3 _ hT4 hf4 e4 rfl rfl (show (0 : Int) ≤ 1 by omega) (by show _ + (1 : Int) ≤ _; omega) (show (0 : Int) ≤ 3 by omega) (show (3 : Int) ≤ 255 by omega) (fun _ _ => show (1 : Int) ≤ 1 by omega)
  · refine y_run 4 rfl ?_
    exact fin s4 0 0 _ hT4 hf4 e4 rfl rfl (show (0 : Int) ≤ 0 by omega) (by show _ + (0 : Int) ≤ _; omega) (show (0 : Int) ≤ 0 by omega) (show (0 : Int) ≤ 255 by omega) (fun h => absurd (show (0 : Int) = 0 from rfl) h)
