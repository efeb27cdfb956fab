/-! by hand: what a minute keeps of the model's state -/
def y_AI (m : Int) (f : Nat → Int32) : Prop := y_Rw m f ∧ (∀ k, k < 8 → (f k).toInt ≤ 6) ∧ ∀ r, r < 3 → (f (18 + r)).toInt ≤ 6
def y_Sg (f : Nat → Int32) : Nat := y_cn (fun r => y_occ (f (18 + r))) 3 + y_cn (fun p => y_x34 (f (9 + p))) 7
theorem y_Rw_sg {m : Int} {f : Nat → Int32} (h : y_Rw m f) : (f 8).toInt + (y_Sg f : Nat) ≤ 7 := by
  have h2 := h.2
  unfold y_Sg
  omega
theorem y_sg_Rw {f : Nat → Int32} (h : (f 8).toInt + (y_Sg f : Nat) ≤ 7) : (f 8).toInt + (y_cn (fun r => y_occ (f (18 + r))) 3 : Nat) + (y_cn (fun p => y_x34 (f (9 + p))) 7 : Nat) ≤ 7 := by
  unfold y_Sg at h
  omega
theorem y_AI_eq {m : Int} {f g : Nat → Int32} (h : ∀ k, k < 21 → k ≠ 17 → g k = f k) (hf : y_AI m f) : y_AI m g :=
  ⟨y_Rw_eq h hf.1, fun k hk => by rw [h k (by omega) (by omega)]; exact hf.2.1 k hk, fun r hr => by rw [h (18 + r) (by omega) (by omega)]; exact hf.2.2 r hr⟩
theorem y_AI_out {m : Int} {f f2 : Nat → Int32} {X P : Nat} (h : y_AI m f) (hX : (X : Int) < (f 8).toInt) (hP : (f X).toInt = (P : Int)) (h8 : (f2 8).toInt = (f 8).toInt - 1) (ha : ∀ k, k < X → f2 k = f k) (hb : ∀ k : Nat, X ≤ k → (k : Int) < (f 8).toInt - 1 → f2 k = f (k + 1)) (hle : ∀ k, k < 8 → (f2 k).toInt ≤ 6) (hst : ∀ j, j < 8 → j ≠ P → f2 (9 + j) = f (9 + j)) (hv : (f2 (9 + P)).toInt ≠ 0) (hrl : ∀ r, r < 3 → (f2 (18 + r)).toInt ≤ 6) (hsum : y_Sg f2 ≤ y_Sg f + 1) : y_AI m f2 := by
  have hs := y_Rw_sg h.1
  refine ⟨⟨fun p hp hm h0 => ?_, y_sg_Rw (by omega)⟩, hle, hrl⟩
  by_cases e : p = P
  · subst e
    exact absurd h0 hv
  · rw [hst p (by omega) e] at h0
    obtain ⟨k, k8, k1, k2⟩ := h.1.1 p hp hm h0
    have hne : k ≠ X := by
      intro e2
      rw [e2, hP] at k2
      omega
    rcases Nat.lt_or_ge k X with q | q
    · exact ⟨k, k8, by omega, by rw [ha k q]; exact k2⟩
    · refine ⟨k - 1, by omega, by omega, ?_⟩
      rw [hb (k - 1) (by omega) (by omega), show k - 1 + 1 = k by omega]
      exact k2
theorem y_AI_st {m : Int} {f f2 : Nat → Int32} {P : Nat} (h : y_AI m f) (hq : ∀ k, k < 9 → f2 k = f k) (hst : ∀ j, j < 8 → j ≠ P → f2 (9 + j) = f (9 + j)) (hv : (f2 (9 + P)).toInt ≠ 0) (hrl : ∀ r, r < 3 → (f2 (18 + r)).toInt ≤ 6) (hsum : y_Sg f2 ≤ y_Sg f) : y_AI m f2 := by
  have hs := y_Rw_sg h.1
  refine ⟨⟨fun p hp hm h0 => ?_, y_sg_Rw (by rw [hq 8 (by omega)]; omega)⟩, fun k hk => by rw [hq k (by omega)]; exact h.2.1 k hk, hrl⟩
  by_cases e : p = P
  · subst e
    exact absurd h0 hv
  · rw [hst p (by omega) e] at h0
    obtain ⟨k, k8, k1, k2⟩ := h.1.1 p hp hm h0
    exact ⟨k, k8, by rw [hq 8 (by omega)]; exact k1, by rw [hq k (by omega)]; exact k2⟩
theorem y_sg_x {f f2 : Nat → Int32} {P : Nat} (hst : ∀ j, j < 8 → j ≠ P → f2 (9 + j) = f (9 + j)) : y_cn (fun p => y_x34 (f2 (9 + p))) 7 ≤ y_cn (fun p => y_x34 (f (9 + p))) 7 + y_x34 (f2 (9 + P)) := by
  by_cases hP : P < 7
  · have := y_cn_up (f := fun p => y_x34 (f (9 + p))) (g := fun p => y_x34 (f2 (9 + p))) (P := P) 7 hP (fun i hi hne => by rw [hst i (by omega) hne])
    omega
  · have := y_cn_eq (f := fun p => y_x34 (f2 (9 + p))) (g := fun p => y_x34 (f (9 + p))) 7 (fun i hi => by rw [hst i (by omega) (by omega)])
    omega
theorem y_sg_o {f f2 : Nat → Int32} {R : Nat} (hR : R < 3) (hrl : ∀ r, r < 3 → r ≠ R → f2 (18 + r) = f (18 + r)) : y_cn (fun r => y_occ (f2 (18 + r))) 3 + y_occ (f (18 + R)) = y_cn (fun r => y_occ (f (18 + r))) 3 + y_occ (f2 (18 + R)) :=
  y_cn_up (f := fun r => y_occ (f (18 + r))) (g := fun r => y_occ (f2 (18 + r))) (P := R) 3 hR (fun i hi hne => by rw [hrl i hi hne])
theorem y_sg_o0 {f f2 : Nat → Int32} (hrl : ∀ r, r < 3 → f2 (18 + r) = f (18 + r)) : y_cn (fun r => y_occ (f2 (18 + r))) 3 = y_cn (fun r => y_occ (f (18 + r))) 3 :=
  y_cn_eq 3 (fun i hi => by rw [hrl i hi])
theorem y_x34_le (v : Int32) : y_x34 v ≤ 1 := by
  unfold y_x34
  split <;> omega
theorem y_occ_le (v : Int32) : y_occ v ≤ 1 := by
  unfold y_occ
  split <;> omega
theorem y_x34_0 {v : Int32} (h : v.toInt < 3) : y_x34 v = 0 := if_neg (by omega)
theorem y_occ_0 {v : Int32} (h : v.toInt < 0) : y_occ v = 0 := if_neg (by omega)
theorem y_occ_1 {v : Int32} (h : 0 ≤ v.toInt) : y_occ v = 1 := if_pos h
theorem y_at86 {ms : List (Nat × Nat)} {s s2 : y_H} (hf : y_fr g_sh ms s s2) {k : Nat} (hk : k < 28) (hm : w_inm ms (w_key 86 k) = false) : s2.1 86 k = s.1 86 k := by
  obtain ⟨a, b, c, d, h1, h2, h3, h4⟩ := y_sub28_ok hk
  exact hf.at h2 (y_airk k hk) hm
theorem y_at85 {ms : List (Nat × Nat)} {s s2 : y_H} (hf : y_fr g_sh ms s s2) {k : Nat} (hk : k < 28) (hm : w_inm ms (w_key 85 k) = false) : s2.1 85 k = s.1 85 k := by
  obtain ⟨a, b, c, d, h1, h2, h3, h4⟩ := y_sub28_ok hk
  exact hf.at h1 (y_k85 k hk) hm
abbrev y_msK : List (Nat × Nat) := [(352329, 352336), (352345, 352345)]
theorem y_msSt : ∀ j, j < 8 → w_inm y_msK (w_key 86 (9 + j)) = true := by decide +kernel
def y_msQ (V : w_V) (P : Nat) (s : y_H) (v : Option (q_V Int32)) (s2 : y_H) : Prop := v = none ∧ w_T V g_sh (y_mk g_sh s2) ∧ y_fr g_sh y_msK s s2 ∧ (s2.1 86 (9 + P)).toInt = 3 ∧ ∀ j, j < 8 → j ≠ P → s2.1 86 (9 + j) = s.1 86 (9 + j)
theorem y_missesF {V : w_V} : y_C g_sh g_ts 261 1 (fun a s => w_T V g_sh (y_mk g_sh s) ∧ ∃ (x : Int32) (P : Nat), a = [.inr (.inr 67), .inl x] ∧ x.toInt = (P : Int) ∧ P < 8) (fun a s v s2 => ∀ (x : Int32) (P : Nat), a = [.inr (.inr 67), .inl x] → x.toInt = (P : Int) → y_msQ V P s v s2) := by
  refine y_C.of (t := g_t261) rfl (by decide) ?_
  rintro d a s hd ⟨hT, x, P, rfl, hx, hP⟩
  have e9 : ((Int8.ofInt 9).toInt32 + x).toInt = ((9 + P : Nat) : Int) := y_adds (A := 9) rfl hx (by omega)
  have key : y_W g_sh g_ts d g_t261 (y_msQ V P s) 0 (q_args 0 [.inr (.inr 67), .inl x]) [] s := by
    refine y_run 6 rfl ?_
    refine y_ast86 (lo := 2147483648) (hi := 2147483652) hT rfl e9 (by omega) (y_airs P hP) (show (_ : Int) ≤ 3 by omega) (show (3 : Int) ≤ _ by omega) (fun hT2 => ?_)
    have hf2 := (y_fr.rf (sh := g_sh) (ms := y_msK) (s := s)).up (o := 86) (k := 9 + P) (v := .inl (Int32.ofInt 3)) (y_airk _ (by omega)) (y_msSt P hP)
    refine y_run 4 rfl ?_
    refine y_ald86 (j := 25) rfl rfl (by omega) ?_
    refine y_run 2 rfl ?_
    have hz := y_toIntB ((y_up s 86 (9 + P) (.inl (Int32.ofInt 3))).1 86 25 + (Int32.ofInt 1))
    refine y_ast86 (lo := 0) (hi := 4294967295) hT2 rfl (j := 25) rfl (by omega) rfl (by omega) (by omega) (fun hT3 => ?_)
    refine y_vret rfl ⟨rfl, hT3, hf2.up rfl (by decide +kernel), ?_, ?_⟩
    · rw [y_up_ne (by omega), y_up_self]
      rfl
    · intro j hj hne
      rw [y_up_ne (by omega), y_up_ne (by omega)]
  intro h ns hR
  obtain ⟨v, h2, s2, he, hR2, hQ⟩ := key h ns hR
  refine ⟨v, h2, s2, he, hR2, fun x2 A2 e hx2 => ?_⟩
  cases e
  have e3 : A2 = P := by omega
  subst e3
  exact hQ
theorem y_toNo : ∀ k, k < 28 → 9 ≤ k → w_inm [(352320, 352326), (352328, 352328)] (w_key 86 k) = false := by decide +kernel
section SUA
variable {V : w_V} {d : Nat} {R : Nat} {r b : Int32} {s0 : y_H} {m : Int}
def y_suA (V : w_V) (R : Nat) (m : Int) (s0 : y_H) (v : Option (q_V Int32)) (s2 : y_H) : Prop := v = none ∧ w_T V g_sh (y_mk g_sh s2) ∧ y_fr g_sh (y_suK R) s0 s2 ∧ y_AI m (s2.1 86)
/-- who went out misses it or gives up: the rails are as they were -/
theorem y_AI_gone {s s5 s6 : y_H} {X P : Nat} (hA : y_AI m (s.1 86)) (hX : (X : Int) < (s.1 86 8).toInt) (hP : (s.1 86 X).toInt = (P : Int)) (hf5 : y_fr g_sh [(352320, 352326), (352328, 352328)] s s5) (hm5 : (s5.1 86 8).toInt = (s.1 86 8).toInt - 1) (ha5 : ∀ k, k < X → s5.1 86 k = s.1 86 k) (hb5 : ∀ k : Nat, X ≤ k → (k : Int) < (s.1 86 8).toInt - 1 → s5.1 86 k = s.1 86 (k + 1)) (hle5 : ∀ B : Int, (∀ k, k < 8 → (s.1 86 k).toInt ≤ B) → ∀ k, k < 8 → (s5.1 86 k).toInt ≤ B) (hq : ∀ k, k < 9 → s6.1 86 k = s5.1 86 k) (hr : ∀ q, q < 3 → s6.1 86 (18 + q) = s5.1 86 (18 + q)) (h3 : (s6.1 86 (9 + P)).toInt ≠ 0) (hs : ∀ j, j < 8 → j ≠ P → s6.1 86 (9 + j) = s5.1 86 (9 + j)) : y_AI m (s6.1 86) := by
  have e5 : ∀ k, 9 ≤ k → k < 28 → s5.1 86 k = s.1 86 k := fun k h1 h2 => y_at86 hf5 h2 (y_toNo k h2 h1)
  have hst : ∀ j, j < 8 → j ≠ P → s6.1 86 (9 + j) = s.1 86 (9 + j) := fun j h1 h2 => (hs j h1 h2).trans (e5 _ (by omega) (by omega))
  have hrl : ∀ q, q < 3 → s6.1 86 (18 + q) = s.1 86 (18 + q) := fun q h1 => (hr q h1).trans (e5 _ (by omega) (by omega))
  refine y_AI_out hA hX hP (by rw [hq 8 (by omega)]; exact hm5) (fun k hk => by
    have h8 : (X : Int) < 7 + 1 := by
      have := y_Rw_sg hA.1
      omega
    rw [hq k (by omega)]
    exact ha5 k hk) (fun k h1 h2 => by
    have h8 : (k : Int) < 7 := by
      have := y_Rw_sg hA.1
      omega
    rw [hq k (by omega)]
    exact hb5 k h1 h2) (fun k hk => by
    rw [hq k (by omega)]
    exact hle5 6 hA.2.1 k hk) hst h3 (fun q h1 => by rw [hrl q h1]; exact hA.2.2 q h1) ?_
  have h1 := y_sg_x (f := s.1 86) (f2 := s6.1 86) (P := P) hst
  have h2 := y_sg_o0 (f := s.1 86) (f2 := s6.1 86) hrl
  have h4 := y_x34_le (s6.1 86 (9 + P))
  unfold y_Sg
  omega
end SUA
