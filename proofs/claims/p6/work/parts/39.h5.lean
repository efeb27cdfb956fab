/-! by hand: the rest of token -/
theorem y_ml {x y : Int32} (h1 : -2147483648 ≤ x.toInt * y.toInt) (h2 : x.toInt * y.toInt ≤ 2147483647) : (x * y).toInt = x.toInt * y.toInt := by
  rw [Int32.toInt_mul]
  apply Int.bmod_eq_of_le <;> omega
def y_sg (c : Int) : Prop := c = 59 ∨ c = 40 ∨ c = 41 ∨ c = 60 ∨ c = 62 ∨ c = 61 ∨ c = 43 ∨ c = 45 ∨ c = 42 ∨ c = 47 ∨ c = 37
theorem y_isSign : y_test 237 y_sg := by
  refine y_C.of (t := g_t237) rfl (by decide) ?_
  rintro d a s - ⟨c, rfl⟩
  have yes : y_sg c.toInt → y_W g_sh g_ts d g_t237 (fun v s2 => s2 = s ∧ ∃ b : Int32, v = some (.inl b) ∧ ∀ c2 : Int32, ([.inl c] : List (q_V Int32)) = [.inl c2] → (b = 1 ∧ y_sg c2.toInt) ∨ (b = 0 ∧ ¬ y_sg c2.toInt)) 66 [(0, .inl c)] [] s := by
    intro h
    refine y_run 2 rfl ?_
    exact y_bret rfl (Or.inr rfl) ⟨rfl, 1, rfl, fun c2 e => by cases e; exact Or.inl ⟨rfl, h⟩⟩
  refine y_run 2 rfl ?_
  refine y_ic rfl (fun h => yes (by have h2 : c.toInt = 59 := h; unfold y_sg; omega)) (fun n0 => ?_)
  have m0 : ¬ c.toInt = 59 := n0
  refine y_run 2 rfl ?_
  refine y_ic rfl (fun h => yes (by have h2 : c.toInt = 40 := h; unfold y_sg; omega)) (fun n1 => ?_)
  have m1 : ¬ c.toInt = 40 := n1
  refine y_run 2 rfl ?_
  refine y_ic rfl (fun h => yes (by have h2 : c.toInt = 41 := h; unfold y_sg; omega)) (fun n2 => ?_)
  have m2 : ¬ c.toInt = 41 := n2
  refine y_run 2 rfl ?_
  refine y_ic rfl (fun h => yes (by have h2 : c.toInt = 60 := h; unfold y_sg; omega)) (fun n3 => ?_)
  have m3 : ¬ c.toInt = 60 := n3
  refine y_run 2 rfl ?_
  refine y_ic rfl (fun h => yes (by have h2 : c.toInt = 62 := h; unfold y_sg; omega)) (fun n4 => ?_)
  have m4 : ¬ c.toInt = 62 := n4
  refine y_run 2 rfl ?_
  refine y_ic rfl (fun h => yes (by have h2 : c.toInt = 61 := h; unfold y_sg; omega)) (fun n5 => ?_)
  have m5 : ¬ c.toInt = 61 := n5
  refine y_run 2 rfl ?_
  refine y_ic rfl (fun h => yes (by have h2 : c.toInt = 43 := h; unfold y_sg; omega)) (fun n6 => ?_)
  have m6 : ¬ c.toInt = 43 := n6
  refine y_run 2 rfl ?_
  refine y_ic rfl (fun h => yes (by have h2 : c.toInt = 45 := h; unfold y_sg; omega)) (fun n7 => ?_)
  have m7 : ¬ c.toInt = 45 := n7
  refine y_run 2 rfl ?_
  refine y_ic rfl (fun h => yes (by have h2 : c.toInt = 42 := h; unfold y_sg; omega)) (fun n8 => ?_)
  have m8 : ¬ c.toInt = 42 := n8
  refine y_run 2 rfl ?_
  refine y_ic rfl (fun h => yes (by have h2 : c.toInt = 47 := h; unfold y_sg; omega)) (fun n9 => ?_)
  have m9 : ¬ c.toInt = 47 := n9
  refine y_run 2 rfl ?_
  refine y_ic rfl (fun h => ?_) (fun h => yes (by have h2 : ¬ c.toInt ≠ 37 := h; unfold y_sg; omega))
  have h2 : c.toInt ≠ 37 := h
  refine y_run 1 rfl ?_
  refine y_bret rfl (Or.inl rfl) ⟨rfl, 0, rfl, fun c2 e => ?_⟩
  cases e
  refine Or.inr ⟨rfl, fun q => ?_⟩
  unfold y_sg at q
  omega
/-- what token does: it goes on, and past something where it is neither the end nor no token -/
def y_tokQ (V : w_V) (s : y_H) (v : Option (q_V Int32)) (s2 : y_H) : Prop := v = none ∧ w_T V g_sh (y_mk g_sh s2) ∧ y_fr g_sh y_tk s s2 ∧ (s.1 65 4).toInt ≤ (s2.1 65 4).toInt ∧ ((s2.1 65 6).toInt ≠ 0 → (s2.1 65 6).toInt ≠ 3 → (s.1 65 4).toInt < (s2.1 65 4).toInt)
theorem y_tok9 {V : w_V} {d : Nat} {s0 s : y_H} {n : Int32} (hT : w_T V g_sh (y_mk g_sh s)) (hf : y_fr g_sh y_tk s0 s) (h0 : (s0.1 65 4).toInt ≤ (s.1 65 4).toInt) (hn : 0 ≤ n.toInt) (hb : (s.1 65 4).toInt + n.toInt ≤ 1600) (h1 : (s.1 65 6).toInt ≠ 0 → (s.1 65 6).toInt ≠ 3 → 1 ≤ n.toInt) : y_W g_sh g_ts d g_t309 (y_tokQ V s0) 232 [(0, .inr (.inr 67)), (2, .inl n)] [] s := by
  have hat := y_rng (lo := 2147483648) (hi := 2147485248) (g := 0) hT (o := 65) (k := 4) rfl rfl
  have hadd := y_add (x := s.1 65 4) (y := n) (by omega) (by omega)
  refine y_run 3 rfl ?_
  refine y_ic rfl (fun hc => ?_) (fun hc => ?_)
  · have hc2 : (s.1 65 6).toInt = 3 := hc
    exact y_vret rfl ⟨rfl, hT, hf, h0, fun _ h => absurd hc2 h⟩
  · refine y_run 6 rfl ?_
    refine y_vret rfl ⟨rfl, y_Tup (lo := 2147483648) (hi := 2147485248) (g := 0) hT (o := 65) (k := 4) (x := s.1 65 4 + n) rfl rfl (by decide +kernel) (by omega) (by omega), hf.up rfl (by decide +kernel), ?_, ?_⟩
    · show (s0.1 65 4).toInt ≤ (s.1 65 4 + n).toInt
      omega
    · intro e1 e2
      have := h1 e1 e2
      show (s0.1 65 4).toInt < (s.1 65 4 + n).toInt
      omega
/-- the letters of a word: only the word is written -/
theorem y_tok2 {V : w_V} {d : Nat} {Q : Option (q_V Int32) → y_H → Prop} (hd : 1 ≤ d) : ∀ (m : Nat) (s : y_H) (n : Int32), w_T V g_sh (y_mk g_sh s) → 0 ≤ n.toInt → (s.1 65 4).toInt + n.toInt ≤ (s.1 65 5).toInt → (s.1 65 5).toInt - (s.1 65 4).toInt - n.toInt ≤ (m : Int) → (∀ (s2 : y_H) (n2 : Int32), w_T V g_sh (y_mk g_sh s2) → y_fr g_sh y_tk s s2 → s2.1 = s.1 → n.toInt ≤ n2.toInt → (s.1 65 4).toInt + n2.toInt ≤ (s.1 65 5).toInt → (n2 = n → ∀ c, y_hereQ n s c → ¬ (97 ≤ c.toInt ∧ c.toInt ≤ 122)) → y_W g_sh g_ts d g_t309 Q 119 [(0, .inr (.inr 67)), (2, .inl n2)] [] s2) → y_W g_sh g_ts d g_t309 Q 78 [(0, .inr (.inr 67)), (2, .inl n)] [] s := by
  intro m
  induction m with
  | zero =>
    intro s n hT hn hb hm hexit
    have hat := y_rng (lo := 2147483648) (hi := 2147485248) (g := 0) hT (o := 65) (k := 4) rfl rfl
    have hsz := y_rng (lo := 2147483648) (hi := 2147485248) (g := 0) hT (o := 65) (k := 5) rfl rfl
    refine y_run 2 rfl ?_
    refine y_callHere rfl hT hn (by omega) rfl hd (fun c hc => ?_)
    have hc1 : c = -1 := by
      rcases hc with ⟨h1, -⟩ | ⟨-, h2⟩
      · omega
      · exact h2
    refine y_callTest y_isLetter rfl rfl hd (fun hP => ?_) (fun hP => ?_)
    · subst hc1
      have h2 : (97 : Int) ≤ -1 := hP.1
      omega
    · refine y_if rfl (fun _ => ?_) (fun h => absurd rfl h)
      refine hexit s n hT y_fr.rf rfl (by omega) hb (fun _ c2 hc2 => ?_)
      rcases hc2 with ⟨h1, -⟩ | ⟨-, h2⟩
      · omega
      · subst h2
        intro q
        have h2 : (97 : Int) ≤ -1 := q.1
        omega
  | succ m ih =>
    intro s n hT hn hb hm hexit
    have hat := y_rng (lo := 2147483648) (hi := 2147485248) (g := 0) hT (o := 65) (k := 4) rfl rfl
    have hsz := y_rng (lo := 2147483648) (hi := 2147485248) (g := 0) hT (o := 65) (k := 5) rfl rfl
    refine y_run 2 rfl ?_
    refine y_callHere rfl hT hn (by omega) rfl hd (fun c hc => ?_)
    refine y_callTest y_isLetter rfl rfl hd (fun hP => ?_) (fun hP => ?_)
    · refine y_if rfl (fun h => absurd (show (1 : Int) = 0 from h) (by omega)) (fun _ => ?_)
      have hlt : (s.1 65 4).toInt + n.toInt < (s.1 65 5).toInt := by
        rcases hc with ⟨h1, -⟩ | ⟨-, h2⟩
        · exact h1
        · subst h2
          have h2 : (97 : Int) ≤ -1 := hP.1
          omega
      have hadd := y_add (x := n) (y := 1) (by show _ ≤ _ + (1 : Int); omega) (by show _ + (1 : Int) ≤ _; omega)
      have hadd2 : (n + 1).toInt = n.toInt + 1 := hadd
      have hnext : ∀ s2 : y_H, w_T V g_sh (y_mk g_sh s2) → y_fr g_sh y_tk s s2 → s2.1 = s.1 → y_W g_sh g_ts d g_t309 Q 113 [(0, .inr (.inr 67)), (2, .inl n)] [] s2 := by
        intro s2 hT2 hf2 e2
        refine y_run 2 rfl ?_
        refine y_sub (ls1 := [(0, .inr (.inr 67)), (2, .inl (n + 1))]) (show ([0, 2] : List Nat).Nodup by decide) (y_R_cons rfl (y_R_cons rfl y_R_nil)) ?_
        refine ih s2 (n + 1) hT2 (by omega) (by rw [e2]; omega) (by rw [e2]; omega) (fun s3 n3 hT3 hf3 e3 h3 h4 _ => ?_)
        refine hexit s3 n3 hT3 (hf2.tr hf3) (e3.trans e2) (by omega) (by rw [e2] at h4; exact h4) (fun e => ?_)
        subst e
        omega
      refine y_run 2 rfl ?_
      refine y_ic rfl (fun _ => hnext s hT y_fr.rf rfl) (fun _ => ?_)
      refine y_run 7 rfl ?_
      refine y_callHere rfl hT hn (by omega) rfl hd (fun c2 hc2 => ?_)
      refine y_run 3 rfl ?_
      exact hnext _ (y_Tupl hT (o := 65) (k := 9) (u := ()) rfl rfl (by decide +kernel)) (y_fr.rf.up (o := 65) (k := 9) rfl (by decide +kernel)) rfl
    · refine y_if rfl (fun _ => ?_) (fun h => absurd rfl h)
      refine hexit s n hT y_fr.rf rfl (by omega) hb (fun _ c2 hc2 => ?_)
      rcases hc with ⟨h1, h2, -⟩ | ⟨h1, h2⟩
      · rcases hc2 with ⟨-, h3, -⟩ | ⟨h3, -⟩
        · rw [h3, ← h2]
          exact hP
        · omega
      · rcases hc2 with ⟨h3, -⟩ | ⟨-, h3⟩
        · omega
        · rw [h3, ← h2]
          exact hP
