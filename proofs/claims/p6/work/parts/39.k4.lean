/-! by hand: layTold, layFits -/
theorem y_air0s : ∀ k, k < 28 → ∃ lo hi : Nat, w_ty g_sh 86 k = some (.inl ((lo, hi), 0)) ∧ lo ≤ 2147483648 ∧ 2147483648 ≤ hi
  | 0, _ => ⟨_, _, rfl, by decide, by decide⟩
  | 1, _ => ⟨_, _, rfl, by decide, by decide⟩
  | 2, _ => ⟨_, _, rfl, by decide, by decide⟩
  | 3, _ => ⟨_, _, rfl, by decide, by decide⟩
  | 4, _ => ⟨_, _, rfl, by decide, by decide⟩
  | 5, _ => ⟨_, _, rfl, by decide, by decide⟩
  | 6, _ => ⟨_, _, rfl, by decide, by decide⟩
  | 7, _ => ⟨_, _, rfl, by decide, by decide⟩
  | 8, _ => ⟨_, _, rfl, by decide, by decide⟩
  | 9, _ => ⟨_, _, rfl, by decide, by decide⟩
  | 10, _ => ⟨_, _, rfl, by decide, by decide⟩
  | 11, _ => ⟨_, _, rfl, by decide, by decide⟩
  | 12, _ => ⟨_, _, rfl, by decide, by decide⟩
  | 13, _ => ⟨_, _, rfl, by decide, by decide⟩
  | 14, _ => ⟨_, _, rfl, by decide, by decide⟩
  | 15, _ => ⟨_, _, rfl, by decide, by decide⟩
  | 16, _ => ⟨_, _, rfl, by decide, by decide⟩
  | 17, _ => ⟨_, _, rfl, by decide, by decide⟩
  | 18, _ => ⟨_, _, rfl, by decide, by decide⟩
  | 19, _ => ⟨_, _, rfl, by decide, by decide⟩
  | 20, _ => ⟨_, _, rfl, by decide, by decide⟩
  | 21, _ => ⟨_, _, rfl, by decide, by decide⟩
  | 22, _ => ⟨_, _, rfl, by decide, by decide⟩
  | 23, _ => ⟨_, _, rfl, by decide, by decide⟩
  | 24, _ => ⟨_, _, rfl, by decide, by decide⟩
  | 25, _ => ⟨_, _, rfl, by decide, by decide⟩
  | 26, _ => ⟨_, _, rfl, by decide, by decide⟩
  | 27, _ => ⟨_, _, rfl, by decide, by decide⟩
  | n + 28, h => absurd h (by omega)
theorem y_flAir : ∀ j, j < 28 → w_inm y_flK (w_key 86 j) = true := by decide +kernel
abbrev y_eAsTold (V : w_V) (M : w_U) : Prop := y_ex g_sh M = true ∧ w_Ent V g_sh g_ts (177, [w_r 67], [], [(266331, 266333), (266363, 266363), (266366, 266366), (356416, 356418), (360512, 360514), (364608, 364615), (368704, 368711)], [([], none, M)], 1)
/-- as told: the pairs by their numbers, the rails free -/
def y_ltQ (V : w_V) (s0 : y_H) (v : Option (q_V Int32)) (s : y_H) : Prop := v = none ∧ w_T V g_sh (y_mk g_sh s) ∧ y_fr g_sh y_flK s0 s ∧ s.1 86 8 = s0.1 65 48 ∧ (∀ p : Nat, (p : Int) < (s0.1 65 48).toInt → (s.1 86 p).toInt = (p : Int)) ∧ (∀ j, j < 8 → s.1 86 (9 + j) = 0) ∧ (∀ r, r < 3 → (s.1 86 (18 + r)).toInt = -1) ∧ ∀ k, k < 8 → (s.1 86 k).toInt ≤ 6
section LT
variable {V : w_V} {d : Nat} {s0 : y_H}
theorem y_lt3 {FM : w_U} (has : y_eAsTold V FM) (hd : 1 ≤ d) : ∀ (n : Nat) (s : y_H) (i : Int32) (I : Nat), w_T V g_sh (y_mk g_sh s) → y_fr g_sh y_flK s0 s → i.toInt = (I : Int) → I ≤ 3 → 3 - I ≤ n → (∀ p : Nat, (p : Int) < (s0.1 65 48).toInt → (s.1 86 p).toInt = (p : Int)) → (∀ j, j < 8 → s.1 86 (9 + j) = 0) → (∀ k, k < 8 → (s.1 86 k).toInt ≤ 6) → (∀ r, r < I → (s.1 86 (18 + r)).toInt = -1) → y_W g_sh g_ts d g_t245 (y_ltQ V s0) 46 [(0, .inr (.inr 67)), (1, .inl i)] [] s := by
  have fin : ∀ (s : y_H) (ls : q_U Int32), w_T V g_sh (y_mk g_sh s) → y_fr g_sh y_flK s0 s → (∀ p : Nat, (p : Int) < (s0.1 65 48).toInt → (s.1 86 p).toInt = (p : Int)) → (∀ j, j < 8 → s.1 86 (9 + j) = 0) → (∀ k, k < 8 → (s.1 86 k).toInt ≤ 6) → (∀ r, r < 3 → (s.1 86 (18 + r)).toInt = -1) → q_at ls 0 = some (.inr (.inr 67)) → y_W g_sh g_ts d g_t245 (y_ltQ V s0) 67 ls [] s := by
    intro s ls hT hf h1 h2 h6 h3 l0
    have hpr := y_rng (lo := 2147483648) (hi := 2147483655) (g := 0) hT (o := 65) (k := 48) rfl rfl
    have e48 : s.1 65 48 = s0.1 65 48 := hf.at (o := 65) (k := 48) (A := w_n 0 7 0) rfl rfl (by decide +kernel)
    refine y_sub (ls1 := [(0, .inr (.inr 67))]) (show ([0] : List Nat).Nodup by decide) (y_R_cons l0 y_R_nil) ?_
    refine y_run 5 rfl ?_
    refine y_ast86 (lo := 2147483648) (hi := 2147483656) hT rfl (j := 8) rfl (by omega) rfl (by show _ ≤ (s.1 65 48).toInt; omega) (by show (s.1 65 48).toInt ≤ _; omega) (fun hT2 => ?_)
    have hf2 := hf.up (o := 86) (k := 8) (v := .inl (s.1 65 48)) rfl (by decide +kernel)
    refine y_run 5 rfl ?_
    have hb := y_toIntB (s.1 65 52)
    refine y_ast86 (lo := 0) (hi := 4294967295) hT2 rfl (j := 27) rfl (by omega) rfl (by show _ ≤ (s.1 65 52).toInt; omega) (by show (s.1 65 52).toInt ≤ _; omega) (fun hT3 => ?_)
    have hf3 := hf2.up (o := 86) (k := 27) (v := .inl (s.1 65 52)) rfl (by decide +kernel)
    refine y_run 1 rfl ?_
    refine y_callM has.2 (by rw [List.all_eq_true]; intro q hq; have e : q = ([], none, FM) := by simpa using hq
                             rw [e]; exact has.1) 1 rfl (fun _ _ _ => rfl) (a := [.inr (.inr 67)]) rfl rfl (fun h hR => y_mayV (o := 65) (sz := 85) rfl hR) hd hT3 ⟨⟨67, rfl, List.mem_cons_self⟩, True.intro⟩ (fun v s4 hT4 hf4 hv => ?_)
    obtain ⟨q, hq, ho⟩ := hv
    have eq : q = ([], none, FM) := by simpa using hq
    subst eq
    have ev := y_ansV ho
    subst ev
    have er : ∀ k, k < 28 → s4.1 86 k = (y_up (y_up s 86 8 (.inl (s.1 65 48))) 86 27 (.inl (s.1 65 52))).1 86 k := by
      intro k hk
      obtain ⟨lo, hi, ht, -, -⟩ := y_air0s k hk
      exact hf4.at (o := 86) (k := k) ht (y_airk k hk) (w_ovl_no (a := w_key 86 0) (b := w_key 86 27) (by decide +kernel) (w_key_le (Nat.zero_le k)) (w_key_le (by omega)))
    refine y_vret rfl ⟨rfl, hT4, hf3.tr (hf4.mono (by decide +kernel)), ?_, ?_, ?_, ?_, ?_⟩
    · rw [er 8 (by omega), y_up_ne (by omega), y_up_self, e48]
    · intro p hp
      rw [e48] at hpr
      rw [er p (by omega), y_up_ne (by omega), y_up_ne (by omega)]
      exact h1 p hp
    · intro j hj
      rw [er (9 + j) (by omega), y_up_ne (by omega), y_up_ne (by omega)]
      exact h2 j hj
    · intro r hr
      rw [er (18 + r) (by omega), y_up_ne (by omega), y_up_ne (by omega)]
      exact h3 r hr
    · intro k hk
      by_cases e8 : k = 8
      · omega
      rw [er k (by omega), y_up_ne (by omega), y_up_ne (by omega)]
      exact h6 k hk
  intro n
  induction n with
  | zero =>
    intro s i I hT hf hi hI hn h1 h2 h6 h3
    refine y_run 2 rfl ?_
    refine y_ic rfl (fun _ => fin s _ hT hf h1 h2 h6 (fun r hr => h3 r (by omega)) rfl) (fun h => ?_)
    have h4 : ¬ (3 : Int) ≤ i.toInt := h
    omega
  | succ n ih =>
    intro s i I hT hf hi hI hn h1 h2 h6 h3
    refine y_run 2 rfl ?_
    refine y_ic rfl (fun h => ?_) (fun h => ?_)
    · have h4 : (3 : Int) ≤ i.toInt := h
      exact fin s _ hT hf h1 h2 h6 (fun r hr => h3 r (by omega)) rfl
    have h4 : ¬ (3 : Int) ≤ i.toInt := h
    have hpr := y_rng (lo := 2147483648) (hi := 2147483655) (g := 0) hT (o := 65) (k := 48) rfl rfl
    have e48 : s.1 65 48 = s0.1 65 48 := hf.at (o := 65) (k := 48) (A := w_n 0 7 0) rfl rfl (by decide +kernel)
    rw [e48] at hpr
    have e18 : ((Int8.ofInt 18).toInt32 + i).toInt = ((18 + I : Nat) : Int) := y_adds (A := 18) rfl hi (by omega)
    have hi1 : (i + Int32.ofInt 1).toInt = i.toInt + 1 := y_add (x := i) (y := 1) (by show _ ≤ _ + (1 : Int); omega) (by show _ + (1 : Int) ≤ _; omega)
    refine y_run 6 rfl ?_
    refine y_ast86 (lo := 2147483647) (hi := 2147483655) hT rfl e18 (by omega) (y_airr I (by omega)) (show (_ : Int) ≤ -1 by omega) (show (-1 : Int) ≤ _ by omega) (fun hT2 => ?_)
    refine y_run 2 rfl ?_
    refine y_sub (ls1 := [(0, .inr (.inr 67)), (1, .inl (i + Int32.ofInt 1))]) (show ([0, 1] : List Nat).Nodup by decide) (y_R_cons rfl (y_R_cons rfl y_R_nil)) ?_
    refine ih _ _ (I + 1) hT2 (hf.up (o := 86) (k := 18 + I) (v := .inl (Int32.ofInt (-1))) (y_airk _ (by omega)) (y_flAir _ (by omega))) (by rw [hi1, hi]; omega) (by omega) (by omega) ?_ ?_ ?_ ?_
    · intro p hp
      rw [y_up_ne (by omega)]
      exact h1 p hp
    · intro j hj
      rw [y_up_ne (by omega)]
      exact h2 j hj
    · intro k hk
      rw [y_up_ne (by omega)]
      exact h6 k hk
    · intro r hr
      by_cases e : r = I
      · rw [e, y_up_self]
        rfl
      · rw [y_up_ne (by omega)]
        exact h3 r (by omega)
theorem y_lt2 {FM : w_U} (has : y_eAsTold V FM) (hd : 1 ≤ d) : ∀ (n : Nat) (s : y_H) (i : Int32) (I : Nat), w_T V g_sh (y_mk g_sh s) → y_fr g_sh y_flK s0 s → i.toInt = (I : Int) → I ≤ 7 → 7 - I ≤ n → (∀ p, p < I → (s.1 86 p).toInt = (p : Int)) → (∀ j, j < 8 → s.1 86 (9 + j) = 0) → (∀ k, k < 8 → (s.1 86 k).toInt ≤ 6) → y_W g_sh g_ts d g_t245 (y_ltQ V s0) 23 [(0, .inr (.inr 67)), (1, .inl i)] [] s := by
  have fin : ∀ (s : y_H) (I : Nat) (ls : q_U Int32), w_T V g_sh (y_mk g_sh s) → y_fr g_sh y_flK s0 s → (s0.1 65 48).toInt ≤ (I : Int) → (∀ p, p < I → (s.1 86 p).toInt = (p : Int)) → (∀ j, j < 8 → s.1 86 (9 + j) = 0) → (∀ k, k < 8 → (s.1 86 k).toInt ≤ 6) → q_at ls 0 = some (.inr (.inr 67)) → y_W g_sh g_ts d g_t245 (y_ltQ V s0) 44 ls [] s := by
    intro s I ls hT hf hI h1 h2 h6 l0
    refine y_sub (ls1 := [(0, .inr (.inr 67))]) (show ([0] : List Nat).Nodup by decide) (y_R_cons l0 y_R_nil) ?_
    refine y_run 2 rfl ?_
    refine y_sub (ls1 := [(0, .inr (.inr 67)), (1, .inl (Int32.ofInt 0))]) (show ([0, 1] : List Nat).Nodup by decide) (y_R_cons rfl (y_R_cons rfl y_R_nil)) ?_
    exact y_lt3 has hd 3 s _ 0 hT hf rfl (by omega) (by omega) (fun p hp => h1 p (by omega)) h2 h6 (fun r hr => by omega)
  intro n
  induction n with
  | zero =>
    intro s i I hT hf hi hI hn h1 h2 h6
    have hpr := y_rng (lo := 2147483648) (hi := 2147483655) (g := 0) hT (o := 65) (k := 48) rfl rfl
    have e48 : s.1 65 48 = s0.1 65 48 := hf.at (o := 65) (k := 48) (A := w_n 0 7 0) rfl rfl (by decide +kernel)
    rw [e48] at hpr
    refine y_run 3 rfl ?_
    refine y_ic rfl (fun _ => fin s I _ hT hf (by omega) h1 h2 h6 rfl) (fun h => ?_)
    have h4 : ¬ (s.1 65 48).toInt ≤ i.toInt := h
    rw [e48] at h4
    omega
  | succ n ih =>
    intro s i I hT hf hi hI hn h1 h2 h6
    have hpr := y_rng (lo := 2147483648) (hi := 2147483655) (g := 0) hT (o := 65) (k := 48) rfl rfl
    have e48 : s.1 65 48 = s0.1 65 48 := hf.at (o := 65) (k := 48) (A := w_n 0 7 0) rfl rfl (by decide +kernel)
    rw [e48] at hpr
    refine y_run 3 rfl ?_
    refine y_ic rfl (fun h => ?_) (fun h => ?_)
    · have h4 : (s.1 65 48).toInt ≤ i.toInt := h
      rw [e48] at h4
      exact fin s I _ hT hf (by omega) h1 h2 h6 rfl
    have h4 : ¬ (s.1 65 48).toInt ≤ i.toInt := h
    rw [e48] at h4
    have hi1 : (i + Int32.ofInt 1).toInt = i.toInt + 1 := y_add (x := i) (y := 1) (by show _ ≤ _ + (1 : Int); omega) (by show _ + (1 : Int) ≤ _; omega)
    refine y_run 4 rfl ?_
    refine y_ast86 (lo := 2147483648) (hi := 2147483655) hT rfl (j := I) hi (by omega) (y_airq I (by omega)) (by omega) (by omega) (fun hT2 => ?_)
    refine y_run 2 rfl ?_
    refine y_sub (ls1 := [(0, .inr (.inr 67)), (1, .inl (i + Int32.ofInt 1))]) (show ([0, 1] : List Nat).Nodup by decide) (y_R_cons rfl (y_R_cons rfl y_R_nil)) ?_
    refine ih _ _ (I + 1) hT2 (hf.up (o := 86) (k := I) (v := .inl i) (y_airk _ (by omega)) (y_flAir _ (by omega))) (by rw [hi1, hi]; omega) (by omega) (by omega) ?_ ?_ ?_
    · intro p hp
      by_cases e : p = I
      · rw [e, y_up_self, hi]
      · rw [y_up_ne (by omega)]
        exact h1 p (by omega)
    · intro j hj
      rw [y_up_ne (by omega)]
      exact h2 j hj
    · intro k hk
      by_cases e : k = I
      · rw [e, y_up_self, hi]
        omega
      · rw [y_up_ne (by omega)]
        exact h6 k hk
theorem y_lt1 {FM : w_U} (has : y_eAsTold V FM) (hd : 1 ≤ d) : ∀ (n : Nat) (s : y_H) (i : Int32) (I : Nat), w_T V g_sh (y_mk g_sh s) → y_fr g_sh y_flK s0 s → i.toInt = (I : Int) → I ≤ 28 → 28 - I ≤ n → (∀ p, p < I → s.1 86 p = 0) → y_W g_sh g_ts d g_t245 (y_ltQ V s0) 2 [(0, .inr (.inr 67)), (1, .inl i)] [] s := by
  have fin : ∀ (s : y_H) (ls : q_U Int32), w_T V g_sh (y_mk g_sh s) → y_fr g_sh y_flK s0 s → (∀ p, p < 28 → s.1 86 p = 0) → q_at ls 0 = some (.inr (.inr 67)) → y_W g_sh g_ts d g_t245 (y_ltQ V s0) 21 ls [] s := by
    intro s ls hT hf h1 l0
    refine y_sub (ls1 := [(0, .inr (.inr 67))]) (show ([0] : List Nat).Nodup by decide) (y_R_cons l0 y_R_nil) ?_
    refine y_run 2 rfl ?_
    refine y_sub (ls1 := [(0, .inr (.inr 67)), (1, .inl (Int32.ofInt 0))]) (show ([0, 1] : List Nat).Nodup by decide) (y_R_cons rfl (y_R_cons rfl y_R_nil)) ?_
    exact y_lt2 has hd 7 s _ 0 hT hf rfl (by omega) (by omega) (fun p hp => by omega) (fun j hj => h1 _ (by omega)) (fun k hk => by rw [h1 k (by omega)]; exact (show (0 : Int) ≤ 6 by omega))
  intro n
  induction n with
  | zero =>
    intro s i I hT hf hi hI hn h1
    refine y_run 2 rfl ?_
    refine y_ic rfl (fun _ => fin s _ hT hf (fun p hp => h1 p (by omega)) rfl) (fun h => ?_)
    have h4 : ¬ (28 : Int) ≤ i.toInt := h
    omega
  | succ n ih =>
    intro s i I hT hf hi hI hn h1
    refine y_run 2 rfl ?_
    refine y_ic rfl (fun h => ?_) (fun h => ?_)
    · have h4 : (28 : Int) ≤ i.toInt := h
      exact fin s _ hT hf (fun p hp => h1 p (by omega)) rfl
    have h4 : ¬ (28 : Int) ≤ i.toInt := h
    have hi1 : (i + Int32.ofInt 1).toInt = i.toInt + 1 := y_add (x := i) (y := 1) (by show _ ≤ _ + (1 : Int); omega) (by show _ + (1 : Int) ≤ _; omega)
    obtain ⟨lo, hi2, ht, hlo, hhi⟩ := y_air0s I (by omega)
    refine y_run 4 rfl ?_
    refine y_ast86 (lo := lo) (hi := hi2) hT rfl (j := I) hi (by omega) ht (show (_ : Int) ≤ 0 by omega) (show (0 : Int) ≤ _ by omega) (fun hT2 => ?_)
    refine y_run 2 rfl ?_
    refine y_sub (ls1 := [(0, .inr (.inr 67)), (1, .inl (i + Int32.ofInt 1))]) (show ([0, 1] : List Nat).Nodup by decide) (y_R_cons rfl (y_R_cons rfl y_R_nil)) ?_
    refine ih _ _ (I + 1) hT2 (hf.up (o := 86) (k := I) (v := .inl (Int32.ofInt 0)) (y_airk _ (by omega)) (y_flAir _ (by omega))) (by rw [hi1, hi]; omega) (by omega) (by omega) ?_
    intro p hp
    by_cases e : p = I
    · rw [e, y_up_self]
      rfl
    · rw [y_up_ne (by omega)]
      exact h1 p (by omega)
end LT
theorem y_layTold {V : w_V} {FM : w_U} (has : y_eAsTold V FM) : y_C g_sh g_ts 245 2 (fun a s => w_T V g_sh (y_mk g_sh s) ∧ a = [.inr (.inr 67)]) (fun _ s v s2 => y_ltQ V s v s2) := by
  refine y_C.of (t := g_t245) rfl (by decide) ?_
  rintro d a s hd ⟨hT, rfl⟩
  refine y_run 2 rfl ?_
  refine y_sub (ls1 := [(0, .inr (.inr 67)), (1, .inl (Int32.ofInt 0))]) (show ([0, 1] : List Nat).Nodup by decide) (y_R_cons rfl (y_R_cons rfl y_R_nil)) ?_
  exact y_lt1 has (by omega) 28 s _ 0 hT y_fr.rf rfl (by omega) (by omega) (fun p hp => by omega)
