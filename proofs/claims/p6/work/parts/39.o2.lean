/-! by hand: close of the model -/
abbrev y_clK : List (Nat × Nat) := [(266321, 266321), (266323, 266323), (266327, 266327), (278592, 278911), (282688, 283007)]
abbrev y_eTight (V : w_V) : Prop := w_Ent V g_sh g_ts (308, [w_n 0 255 0], [], [], [([], some (w_n 1 6 0), [])], 1)
def y_clQ (V : w_V) (l : Int32) (M P K U B : Nat) (s : y_H) (v : Option (q_V Int32)) (s2 : y_H) : Prop := v = none ∧ w_T V g_sh (y_mk g_sh s2) ∧ y_fr g_sh y_clK s s2 ∧ (∀ k, s2.1 72 k = s.1 72 k) ∧ ∃ M2 P2 K2 B2 : Nat, y_FI s2 M2 P2 K2 U B2 (B2 + 1) ∧ M2 + P2 = M + P ∧ K2 ≤ K ∧ B2 ≤ B ∧ P2 ≤ P ∧ (l.toInt ≤ 0 → P2 = 0 ∨ (s2.1 72 (P2 - 1)).toInt = 20) ∧ ∀ k, k < P → (s.1 72 k).toInt = 20 → k < P2
theorem y_op72 {V : w_V} {s : y_H} (hT : w_T V g_sh (y_mk g_sh s)) {j : Nat} (hj : j < 160) : 0 ≤ (s.1 72 j).toInt ∧ (s.1 72 j).toInt ≤ 255 := by
  have := y_rng (lo := 2147483648) (hi := 2147483903) (g := 0) hT (y_t72 hj) y_k72
  omega
/-- what add, behind opens less 1 and deep as told, makes of the numbers -/
theorem y_FI_pop {s s2 : y_H} {M P K K2 U B B2 e2 : Nat} {t v x19 x23 : Int32} (h : y_FI s M (P + 1) K U B (B + 1)) (hM : M < 320) (hB : B + 1 ≤ 64) (h19 : x19.toInt = (P : Int)) (h23 : x23.toInt = (K2 : Int)) (ht : (t.toInt = 2 ∧ e2 = B + 1 ∧ B2 = B ∧ K = K2 + 1) ∨ (t.toInt = 3 ∧ e2 = B ∧ B2 + 1 = B ∧ K = K2)) (hbin : y_cn (fun k => y_bin (s.1 72 k)) P = B2) (e68 : ∀ i, s2.1 68 i = if i = M then t else s.1 68 i) (e69 : ∀ i, s2.1 69 i = if i = M then v else s.1 69 i) (e72 : ∀ i, s2.1 72 i = s.1 72 i) (e17 : s2.1 65 17 = s.1 65 17 + (Int32.ofInt 1)) (e19 : s2.1 65 19 = x19) (e20 : s2.1 65 20 = s.1 65 20) (e22 : s2.1 65 22 = s.1 65 22) (e23 : s2.1 65 23 = x23) : y_FI s2 (M + 1) P K2 U B2 e2 := by
  obtain ⟨h1, h2, h3, h4, h5, h6, h7, h8⟩ := h
  have hadd : (s.1 65 17 + (Int32.ofInt 1)).toInt = (s.1 65 17).toInt + 1 := y_add (x := s.1 65 17) (y := 1) (by show _ ≤ _ + (1 : Int); omega) (by show _ + (1 : Int) ≤ _; omega)
  refine ⟨by rw [e17, hadd]; omega, by rw [e19]; exact h19, by rw [e23]; exact h23, by rw [e22]; exact h4, ?_, by omega, ?_, by rw [e20]; exact h8⟩
  · rw [← hbin]
    exact y_cn_eq P (fun i _ => by rw [e72])
  · refine y_ND_add h7 (fun i hi => by rw [e68, if_neg (by omega)]) (fun i hi => by rw [e69, if_neg (by omega)]) ?_
    have e1 : s2.1 68 M = t := by rw [e68, if_pos rfl]
    rw [e1]
    refine ⟨hB, fun q => by omega, fun q => by omega, fun q => ?_, fun q => ?_⟩
    · rcases ht with ⟨q1, q2, -⟩ | ⟨q1, -⟩
      · omega
      · omega
    · rcases ht with ⟨q1, -⟩ | ⟨q1, q2, q3, -⟩
      · omega
      · omega
theorem y_cn_bin {g : Nat → Int32} : ∀ n, y_cn (fun k => y_bin (g k)) n ≤ n
  | 0 => Nat.le_refl _
  | n + 1 => by
    have ih := y_cn_bin (g := g) n
    have hb : y_bin (g n) ≤ 1 := by
      unfold y_bin
      split <;> omega
    show y_cn (fun k => y_bin (g k)) n + y_bin (g n) ≤ n + 1
    omega
theorem y_addAt {s : y_H} {M o k : Nat} {t v x : Int32} (h1 : ¬ (o = 68 ∧ k = M)) (h2 : ¬ (o = 69 ∧ k = M)) (h3 : ¬ (o = 65 ∧ k = 17)) : (y_up (y_up (y_up s 68 M (.inl t)) 69 M (.inl v)) 65 17 (.inl x)).1 o k = s.1 o k := (y_up_ne h3).trans ((y_up_ne h2).trans (y_up_ne h1))
theorem y_add68 {s : y_H} {M i : Nat} {t v x : Int32} : (y_up (y_up (y_up s 68 M (.inl t)) 69 M (.inl v)) 65 17 (.inl x)).1 68 i = if i = M then t else s.1 68 i := by
  refine (y_up_ne (show ¬ (68 = 65 ∧ i = 17) by omega)).trans ((y_up_ne (show ¬ (68 = 69 ∧ i = M) by omega)).trans ?_)
  by_cases q : i = M
  · rw [if_pos q, q]
    exact y_up_self
  · rw [if_neg q]
    exact y_up_ne (by omega)
theorem y_add69 {s : y_H} {M i : Nat} {t v x : Int32} : (y_up (y_up (y_up s 68 M (.inl t)) 69 M (.inl v)) 65 17 (.inl x)).1 69 i = if i = M then v else s.1 69 i := by
  refine (y_up_ne (show ¬ (69 = 65 ∧ i = 17) by omega)).trans ?_
  by_cases q : i = M
  · rw [if_pos q, q]
    exact y_up_self
  · rw [if_neg q]
    exact (y_up_ne (show ¬ (69 = 69 ∧ i = M) by omega)).trans (y_up_ne (by omega))
theorem y_cl_loop {V : w_V} {d : Nat} {l : Int32} {U X : Nat} (htight : y_eTight V) (hd : 1 ≤ d) (hX : X ≤ 319) {Q : Option (q_V Int32) → y_H → Prop} : ∀ (P : Nat) (s : y_H) (M K B : Nat), w_T V g_sh (y_mk g_sh s) → y_FI s M P K U B (B + 1) → M + P = X → B ≤ 60 → P ≤ 160 → (∀ s2, y_clQ V l M P K U B s none s2 → Q none s2) → y_W g_sh g_ts d g_t187 Q 0 [(0, .inr (.inr 67)), (1, .inl l)] [] s := by
  intro P
  induction P with
  | zero =>
    intro s M K B hT hI hX2 hB hP hexit
    refine y_run 2 rfl ?_
    refine y_if rfl (fun _ => ?_) (fun h => ?_)
    · exact y_vret rfl (hexit s ⟨rfl, hT, y_fr.rf, fun _ => rfl, M, 0, K, B, hI, rfl, by omega, by omega, by omega, fun _ => Or.inl rfl, fun k hk => by omega⟩)
    · have h2 : ¬ (s.1 65 19).toInt ≤ 0 := h
      have h3 := hI.2.1
      omega
  | succ P ih =>
    intro s M K B hT hI hX2 hB hP hexit
    have hI0 := hI
    obtain ⟨h1, h2, h3, h4, h5, h6, h7, h8⟩ := hI
    have hsb : (s.1 65 19 - (Int32.ofInt 1)).toInt = (P : Int) := by
      rw [y_sb (x := s.1 65 19) (y := (Int32.ofInt 1)) (by show _ ≤ _ - (1 : Int); omega) (by show _ - (1 : Int) ≤ _; omega)]
      show _ - (1 : Int) = _
      omega
    have hop := y_op72 hT (j := P) (by omega)
    have stay : (l.toInt ≤ 0 → (s.1 72 P).toInt = 20) → Q none s := fun hl => hexit s ⟨rfl, hT, y_fr.rf, fun _ => rfl, M, P + 1, K, B, hI0, rfl, by omega, by omega, by omega, fun q => Or.inr (hl q), fun k hk _ => hk⟩
    have h5b : y_cn (fun k => y_bin (s.1 72 k)) P + y_bin (s.1 72 P) = B := h5
    refine y_run 2 rfl ?_
    refine y_if rfl (fun h => ?_) (fun _ => ?_)
    · have h9 : (s.1 65 19).toInt ≤ 0 := h
      omega
    refine y_run 6 rfl ?_
    refine y_ald (o := 72) (sz := 160) (j := P) rfl rfl hsb (by omega) y_k72 ?_
    refine y_run 1 rfl ?_
    refine y_ic rfl (fun h => ?_) (fun h => ?_)
    · have h9 : (s.1 72 P).toInt = 20 := h
      exact y_vret rfl (stay (fun _ => h9))
    have hn20 : (s.1 72 P).toInt ≠ 20 := h
    refine y_run 6 rfl ?_
    refine y_ald (o := 72) (sz := 160) (j := P) rfl rfl hsb (by omega) y_k72 ?_
    refine y_callE htight rfl 0 rfl (fun _ _ _ => rfl) (a := [.inl ((s.1 72 P))]) rfl rfl (fun h hR => rfl) hd hT ⟨y_iv (by omega) (by omega), True.intro⟩ (fun v hv => ?_)
    obtain ⟨q, hq, ho⟩ := hv
    have eq : q = ([], some (w_n 1 6 0), []) := by simpa using hq
    subst eq
    obtain ⟨tt, rfl, tt1, tt2⟩ := y_ans ho
    refine y_run 1 rfl ?_
    refine y_ic rfl (fun h => ?_) (fun _ => ?_)
    · have h9 : tt.toInt < l.toInt := h
      exact y_vret rfl (stay (fun q => by omega))
    have hT1 := y_Tup (lo := 2147483648) (hi := 2147483808) (g := 0) (o := 65) (k := 19) (x := s.1 65 19 - (Int32.ofInt 1)) hT rfl rfl (by decide +kernel) (by omega) (by omega)
    have hf1 := (y_fr.rf (sh := g_sh) (ms := y_clK) (s := s)).up (o := 65) (k := 19) (v := .inl (s.1 65 19 - (Int32.ofInt 1))) rfl (by decide +kernel)
    have u1 : ∀ o k, ¬ (o = 65 ∧ k = 19) → (y_up s 65 19 (.inl (s.1 65 19 - (Int32.ofInt 1)))).1 o k = s.1 o k := fun o k h => y_up_ne h
    have v1 : ((y_up s 65 19 (.inl (s.1 65 19 - (Int32.ofInt 1)))).1 65 19).toInt = (P : Int) := by
      rw [y_up_self]
      exact hsb
    refine y_run 10 rfl ?_
    revert hT1 hf1 u1 v1
    generalize y_up s 65 19 (.inl (s.1 65 19 - (Int32.ofInt 1))) = s1
    intro hT1 hf1 u1 v1
    refine y_ald (o := 72) (sz := 160) (j := P) rfl rfl v1 (by omega) y_k72 ?_
    rw [u1 72 P (by omega)]
    have m1 : (s1.1 65 17).toInt = (M : Int) := by
      rw [u1 65 17 (by omega)]
      exact h1
    refine y_run 1 rfl ?_
    refine y_ic rfl (fun h => ?_) (fun h => ?_)
    · have hn21 : (s.1 72 P).toInt ≠ 21 := h
      have hb1 : y_bin (s.1 72 P) = 1 := if_neg (by omega)
      refine y_run 6 rfl ?_
      refine y_ald (o := 72) (sz := 160) (j := P) rfl rfl v1 (by omega) y_k72 ?_
      refine y_call (y_addF (V := V) (t := Int32.ofInt 3) (v := s1.1 72 P) (M := M) (by omega) (show (0 : Int) ≤ 3 by omega) (show (3 : Int) ≤ 3 by omega)) 1 rfl (fun _ _ _ => rfl) (a := [.inr (.inr 67), .inl ((Int32.ofInt 3)), .inl ((s1.1 72 P))]) rfl rfl (fun h hR => y_mayV (o := 65) (sz := 85) rfl hR) hd ⟨hT1, rfl, m1⟩ (fun v s2 hQ => ?_)
      obtain ⟨rfl, hT2, e2⟩ := hQ
      have hf2 : y_fr g_sh y_clK s s2 := by
        rw [e2]
        exact ((hf1.up (o := 68) (k := M) y_k68 (y_msA (sz := 320) (by decide +kernel) (by omega))).up (o := 69) (k := M) y_k69 (y_msA (sz := 320) (by decide +kernel) (by omega))).up (o := 65) (k := 17) rfl (by decide +kernel)
      have at2 : ∀ o k, ¬ (o = 68 ∧ k = M) → ¬ (o = 69 ∧ k = M) → ¬ (o = 65 ∧ k = 17) → s2.1 o k = s1.1 o k := fun o k q1 q2 q3 => by rw [e2]; exact y_addAt q1 q2 q3
      have e72 : ∀ i, s2.1 72 i = s.1 72 i := fun i => (at2 72 i (by omega) (by omega) (by omega)).trans (u1 72 i (by omega))
      have hI2 : y_FI s2 (M + 1) P K U (B - 1) (B - 1 + 1) := by
        refine y_FI_pop (t := Int32.ofInt 3) (v := s1.1 72 P) (x19 := s1.1 65 19) (x23 := s.1 65 23) hI0 (by omega) (by omega) v1 h3 (Or.inr ⟨rfl, by omega, by omega, rfl⟩) (by omega) (fun i => ?_) (fun i => ?_) e72 ?_ ?_ ?_ ?_ ?_
        · rw [e2, y_add68, u1 68 i (by omega)]
        · rw [e2, y_add69, u1 69 i (by omega)]
        · rw [e2, y_up_self, u1 65 17 (by omega)]
        · exact at2 65 19 (by omega) (by omega) (by omega)
        · exact (at2 65 20 (by omega) (by omega) (by omega)).trans (u1 65 20 (by omega))
        · exact (at2 65 22 (by omega) (by omega) (by omega)).trans (u1 65 22 (by omega))
        · exact (at2 65 23 (by omega) (by omega) (by omega)).trans (u1 65 23 (by omega))
      refine y_run 1 rfl ?_
      refine y_sub (ls1 := [(0, .inr (.inr 67)), (1, .inl l)]) (show ([0, 1] : List Nat).Nodup by decide) (y_R_cons rfl (y_R_cons rfl y_R_nil)) ?_
      refine ih s2 (M + 1) K (B - 1) hT2 hI2 (by omega) (by omega) (by omega) (fun s3 hQ3 => hexit s3 ?_)
      obtain ⟨-, hT3, hf3, e3, M2, P2, K2, B2, g1, g2, g3, g4, g5, g6, g7⟩ := hQ3
      refine ⟨rfl, hT3, hf2.tr hf3, fun k => (e3 k).trans (e72 k), M2, P2, K2, B2, g1, by omega, g3, by omega, by omega, g6, fun k hk hk20 => ?_⟩
      by_cases q : k = P
      · rw [q] at hk20
        exact absurd hk20 hn20
      · exact g7 k (by omega) (by rw [e72]; exact hk20)
    · have hn21 : (s.1 72 P).toInt = 21 := Classical.byContradiction fun q => h q
      have hb0 : y_bin (s.1 72 P) = 0 := if_pos (by omega)
      have hcl : y_cn (fun k => y_bin (s.1 72 k)) P ≤ P := y_cn_bin P
      refine y_run 3 rfl ?_
      refine y_call (y_addF (V := V) (t := Int32.ofInt 2) (v := Int32.ofInt 0) (M := M) (by omega) (show (0 : Int) ≤ 2 by omega) (show (2 : Int) ≤ 3 by omega)) 1 rfl (fun _ _ _ => rfl) (a := [.inr (.inr 67), .inl ((Int32.ofInt 2)), .inl ((Int32.ofInt 0))]) rfl rfl (fun h hR => y_mayV (o := 65) (sz := 85) rfl hR) hd ⟨hT1, rfl, m1⟩ (fun v s2 hQ => ?_)
      obtain ⟨rfl, hT2, e2⟩ := hQ
      have hf2 : y_fr g_sh y_clK s s2 := by
        rw [e2]
        exact ((hf1.up (o := 68) (k := M) y_k68 (y_msA (sz := 320) (by decide +kernel) (by omega))).up (o := 69) (k := M) y_k69 (y_msA (sz := 320) (by decide +kernel) (by omega))).up (o := 65) (k := 17) rfl (by decide +kernel)
      have at2 : ∀ o k, ¬ (o = 68 ∧ k = M) → ¬ (o = 69 ∧ k = M) → ¬ (o = 65 ∧ k = 17) → s2.1 o k = s1.1 o k := fun o k q1 q2 q3 => by rw [e2]; exact y_addAt q1 q2 q3
      have e23 : s2.1 65 23 = s.1 65 23 := (at2 65 23 (by omega) (by omega) (by omega)).trans (u1 65 23 (by omega))
      have hd1 : (s2.1 65 23 - (Int32.ofInt 1)).toInt = ((K - 1 : Nat) : Int) := by
        rw [e23, y_sb (x := s.1 65 23) (y := (Int32.ofInt 1)) (by show _ ≤ _ - (1 : Int); omega) (by show _ - (1 : Int) ≤ _; omega)]
        show _ - (1 : Int) = _
        omega
      have hT3 := y_Tup (lo := 0) (hi := 4294967295) (g := 0) (o := 65) (k := 23) (x := s2.1 65 23 - (Int32.ofInt 1)) hT2 rfl rfl (by decide +kernel) (by omega) (by omega)
      have hf3 := hf2.up (o := 65) (k := 23) (v := .inl (s2.1 65 23 - (Int32.ofInt 1))) rfl (by decide +kernel)
      have u3 : ∀ o k, ¬ (o = 65 ∧ k = 23) → (y_up s2 65 23 (.inl (s2.1 65 23 - (Int32.ofInt 1)))).1 o k = s2.1 o k := fun o k h => y_up_ne h
      have v3 : (y_up s2 65 23 (.inl (s2.1 65 23 - (Int32.ofInt 1)))).1 65 23 = s2.1 65 23 - (Int32.ofInt 1) := y_up_self
      refine y_run 7 rfl ?_
      refine y_sub (ls1 := [(0, .inr (.inr 67)), (1, .inl l)]) (show ([0, 1] : List Nat).Nodup by decide) (y_R_cons rfl (y_R_cons rfl y_R_nil)) ?_
      revert hT3 hf3 u3 v3
      generalize y_up s2 65 23 (.inl (s2.1 65 23 - (Int32.ofInt 1))) = s4
      intro hT3 hf3 u3 v3
      have e72 : ∀ i, s4.1 72 i = s.1 72 i := fun i => (u3 72 i (by omega)).trans ((at2 72 i (by omega) (by omega) (by omega)).trans (u1 72 i (by omega)))
      have hI2 : y_FI s4 (M + 1) P (K - 1) U B (B + 1) := by
        refine y_FI_pop (t := Int32.ofInt 2) (v := Int32.ofInt 0) (x19 := s1.1 65 19) (x23 := s2.1 65 23 - (Int32.ofInt 1)) hI0 (by omega) (by omega) v1 hd1 (Or.inl ⟨rfl, rfl, rfl, by omega⟩) (by omega) (fun i => ?_) (fun i => ?_) e72 ?_ ?_ ?_ ?_ v3
        · rw [u3 68 i (by omega), e2, y_add68, u1 68 i (by omega)]
        · rw [u3 69 i (by omega), e2, y_add69, u1 69 i (by omega)]
        · rw [u3 65 17 (by omega), e2, y_up_self, u1 65 17 (by omega)]
        · exact (u3 65 19 (by omega)).trans (at2 65 19 (by omega) (by omega) (by omega))
        · exact (u3 65 20 (by omega)).trans ((at2 65 20 (by omega) (by omega) (by omega)).trans (u1 65 20 (by omega)))
        · exact (u3 65 22 (by omega)).trans ((at2 65 22 (by omega) (by omega) (by omega)).trans (u1 65 22 (by omega)))
      refine ih _ (M + 1) (K - 1) B hT3 hI2 (by omega) (by omega) (by omega) (fun s3 hQ3 => hexit s3 ?_)
      obtain ⟨-, hT4, hf4, e3, M2, P2, K2, B2, g1, g2, g3, g4, g5, g6, g7⟩ := hQ3
      refine ⟨rfl, hT4, hf3.tr hf4, fun k => (e3 k).trans (e72 k), M2, P2, K2, B2, g1, by omega, by omega, by omega, by omega, g6, fun k hk hk20 => ?_⟩
      by_cases q : k = P
      · rw [q] at hk20
        exact absurd hk20 hn20
      · exact g7 k (by omega) (by rw [e72]; exact hk20)
theorem y_closeF {V : w_V} {l : Int32} {M P K U B : Nat} (htight : y_eTight V) (hMP : M + P ≤ 319) (hB : B ≤ 60) (hP : P ≤ 160) : y_C g_sh g_ts 187 2 (fun a s => w_T V g_sh (y_mk g_sh s) ∧ a = [.inr (.inr 67), .inl l] ∧ y_FI s M P K U B (B + 1)) (fun _ s v s2 => y_clQ V l M P K U B s v s2) := by
  refine y_C.of (t := g_t187) rfl (by decide) ?_
  rintro d a s hd ⟨hT, rfl, hI⟩
  refine y_sub (ls1 := [(0, .inr (.inr 67)), (1, .inl l)]) (show ([0, 1] : List Nat).Nodup by decide) (y_R_cons rfl (y_R_cons rfl y_R_nil)) ?_
  exact y_cl_loop htight (by omega) hMP P s M K B hT hI rfl hB hP (fun s2 h => h)
