/-! by hand: isIn, isPair, isQueued; what is at hand is kept -/
theorem y_isInF : y_C g_sh g_ts 230 1 (fun a _ => ∃ x l u : Int32, a = [.inl x, .inl l, .inl u]) (fun a s v s2 => s2 = s ∧ ∀ x l u : Int32, a = [.inl x, .inl l, .inl u] → (v = some (.inl 1) ∧ l.toInt ≤ x.toInt ∧ x.toInt ≤ u.toInt) ∨ (v = some (.inl 0) ∧ ¬ (l.toInt ≤ x.toInt ∧ x.toInt ≤ u.toInt))) := by
  refine y_C.of (t := g_t230) rfl (by decide) ?_
  rintro d a s - ⟨x, l, u, rfl⟩
  refine y_run 2 rfl ?_
  refine y_ic rfl (fun hc => ?_) (fun hc => ?_)
  · have hc2 : x.toInt < l.toInt := hc
    refine y_run 1 rfl ?_
    exact y_bret rfl (Or.inl rfl) ⟨rfl, fun x2 l2 u2 h => by cases h; exact Or.inr ⟨rfl, fun q => by omega⟩⟩
  · have hc2 : ¬ x.toInt < l.toInt := hc
    refine y_run 2 rfl ?_
    refine y_ic rfl (fun hd => ?_) (fun hd => ?_)
    · have hd2 : u.toInt < x.toInt := hd
      refine y_run 1 rfl ?_
      exact y_bret rfl (Or.inl rfl) ⟨rfl, fun x2 l2 u2 h => by cases h; exact Or.inr ⟨rfl, fun q => by omega⟩⟩
    · have hd2 : ¬ u.toInt < x.toInt := hd
      refine y_run 2 rfl ?_
      exact y_bret rfl (Or.inr rfl) ⟨rfl, fun x2 l2 u2 h => by cases h; exact Or.inl ⟨rfl, by omega, by omega⟩⟩
theorem y_pairs {V : w_V} {s : y_H} (hT : w_T V g_sh (y_mk g_sh s)) : 0 ≤ (s.1 65 48).toInt ∧ (s.1 65 48).toInt ≤ 7 := by
  have h := y_rng (lo := 2147483648) (hi := 2147483655) (g := 0) hT (o := 65) (k := 48) rfl rfl
  omega
theorem y_isPairF {V : w_V} : y_C g_sh g_ts 234 2 (fun a s => w_T V g_sh (y_mk g_sh s) ∧ ∃ x : Int32, a = [.inr (.inr 67), .inl x]) (fun a s v s2 => s2 = s ∧ ∀ x : Int32, a = [.inr (.inr 67), .inl x] → (v = some (.inl 1) ∧ 0 ≤ x.toInt ∧ x.toInt < (s.1 65 48).toInt) ∨ v = some (.inl 0)) := by
  refine y_C.of (t := g_t234) rfl (by decide) ?_
  rintro d a s hd ⟨hT, x, rfl⟩
  have hp := y_pairs hT
  have hsb : (s.1 65 48 - (Int32.ofInt 1)).toInt = (s.1 65 48).toInt - 1 := y_sb (x := s.1 65 48) (y := 1) (by show _ ≤ _ - (1 : Int); omega) (by show _ - (1 : Int) ≤ _; omega)
  refine y_run 6 rfl ?_
  refine y_call y_isInF 0 rfl (fun _ _ _ => rfl) (a := [.inl x, .inl ((Int32.ofInt 0)), .inl ((s.1 65 48 - (Int32.ofInt 1)))]) rfl rfl (fun h hR => rfl) (by omega) ⟨_, _, _, rfl⟩ (fun v s2 hQ => ?_)
  obtain ⟨rfl, hQ⟩ := hQ
  rcases hQ _ _ _ rfl with ⟨rfl, h1, h2⟩ | ⟨rfl, h1⟩
  · rw [hsb] at h2
    have h3 : (0 : Int) ≤ x.toInt := h1
    exact y_bret rfl (Or.inr rfl) ⟨rfl, fun x2 h => by cases h; exact Or.inl ⟨rfl, h3, by omega⟩⟩
  · exact y_bret rfl (Or.inl rfl) ⟨rfl, fun x2 h => by cases h; exact Or.inr rfl⟩
def y_iqQ (s : y_H) (x : Int32) (v : Option (q_V Int32)) : Prop := (v = some (.inl 1) ∧ 0 ≤ x.toInt ∧ x.toInt < (s.1 65 48).toInt ∧ (s.1 85 (9 + x.toInt.toNat)).toInt = 0) ∨ v = some (.inl 0)
theorem y_isQueuedF {V : w_V} : y_C g_sh g_ts 235 3 (fun a s => w_T V g_sh (y_mk g_sh s) ∧ ∃ x : Int32, a = [.inr (.inr 67), .inl x]) (fun a s v s2 => s2 = s ∧ ∀ x : Int32, a = [.inr (.inr 67), .inl x] → y_iqQ s x v) := by
  refine y_C.of (t := g_t235) rfl (by decide) ?_
  rintro d a s hd ⟨hT, x, rfl⟩
  have hp := y_pairs hT
  have no : ∀ ls : q_U Int32, y_W g_sh g_ts d g_t235 (fun v s2 => s2 = s ∧ ∀ x2 : Int32, ([.inr (.inr 67), .inl x] : List (q_V Int32)) = [.inr (.inr 67), .inl x2] → y_iqQ s x2 v) 24 ls [] s := by
    intro ls
    refine y_run 1 rfl ?_
    exact y_bret rfl (Or.inl rfl) ⟨rfl, fun x2 h => Or.inr rfl⟩
  refine y_run 2 rfl ?_
  refine y_call (y_isPairF (V := V)) 1 rfl (fun _ _ _ => rfl) (a := [.inr (.inr 67), .inl x]) rfl rfl (fun h hR => y_mayV (o := 65) (sz := 85) rfl hR) (by omega) ⟨hT, x, rfl⟩ (fun v s2 hQ => ?_)
  obtain ⟨rfl, hQ⟩ := hQ
  rcases hQ x rfl with ⟨rfl, h1, h2⟩ | rfl
  · refine y_if rfl (fun h => absurd (show (1 : Int) = 0 from h) (by omega)) (fun _ => ?_)
    have e9 : ((Int8.ofInt 9).toInt32 + x).toInt = ((9 + x.toInt.toNat : Nat) : Int) := y_adds (A := 9) (B := x.toInt.toNat) rfl (by omega) (by omega)
    refine y_run 5 rfl ?_
    refine y_ald (o := 85) (sz := 28) (j := 9 + x.toInt.toNat) rfl rfl e9 (by omega) (y_k85 _ (by omega)) ?_
    refine y_if rfl (fun _ => no _) (fun h => ?_)
    have h3 : (s2.1 85 (9 + x.toInt.toNat)).toInt = 0 := Classical.byContradiction fun q => h q
    refine y_run 2 rfl ?_
    exact y_bret rfl (Or.inr rfl) ⟨rfl, fun x2 h => by cases h; exact Or.inl ⟨rfl, h1, h2, h3⟩⟩
  · exact y_if rfl (fun _ => no _) (fun h => absurd rfl h)
/-- the state that is now -/
theorem y_now6' : ∀ k, k < 8 → y_rgo (w_ty g_sh 85 k) = some (2147483648, 2147483654) := by decide +kernel
theorem y_now6 (k : Nat) (h : k < 8) : w_ty g_sh 85 k = some (.inl ((2147483648, 2147483654), 0)) := y_rgo_ok (y_now6' k h)
theorem y_now6r' : ∀ k, k < 3 → y_rgo (w_ty g_sh 85 (18 + k)) = some (2147483647, 2147483654) := by decide +kernel
theorem y_now6r (k : Nat) (h : k < 3) : w_ty g_sh 85 (18 + k) = some (.inl ((2147483647, 2147483654), 0)) := y_rgo_ok (y_now6r' k h)
theorem y_AI_now {n : Nat} {s : y_H} (hT : w_T (y_Vn n) g_sh (y_mk g_sh s)) : y_AI (s.1 65 48).toInt (s.1 85) :=
  ⟨(y_VT hT).2.1.1, fun k hk => by
    have := y_rng (lo := 2147483648) (hi := 2147483654) (g := 0) hT (y_now6 k hk) (y_k85 k (by omega))
    omega, fun k hk => by
    have := y_rng (lo := 2147483647) (hi := 2147483654) (g := 0) hT (y_now6r k hk) (y_k85 _ (by omega))
    omega⟩
theorem y_same28' : ∀ k, k < 28 → 9 ≤ k → ¬ (18 ≤ k ∧ k ≤ 20) → y_rgo (w_ty g_sh 85 k) = y_rgo (w_ty g_sh 86 k) := by decide +kernel
theorem y_same28 (k : Nat) (h1 : k < 28) (h2 : 9 ≤ k) (h3 : ¬ (18 ≤ k ∧ k ≤ 20)) : w_ty g_sh 85 k = w_ty g_sh 86 k := by
  obtain ⟨a, b, c, d, g1, g2, -, -⟩ := y_sub28_ok h1
  have h := y_same28' k h1 h2 h3
  rw [g1, g2] at h ⊢
  have h4 : (a, b) = (c, d) := Option.some.inj h
  rw [h4]
theorem y_rowAir {V : w_V} {s : y_H} {m : Int} (hT : w_T V g_sh (y_mk g_sh s)) (hA : y_AI m (s.1 86)) : y_rowOK (s.1 86) := by
  intro k hk
  by_cases h1 : k < 8
  · have h2 := y_air0 hT h1
    have h3 := hA.2.1 k h1
    exact ⟨2147483648, 2147483654, y_now6 k h1, by omega, by omega⟩
  · by_cases h2 : k = 8
    · subst h2
      have h3 := y_air8 hT
      have h4 := y_Rw_sg hA.1
      exact ⟨2147483648, 2147483655, rfl, by omega, by omega⟩
    · by_cases h3 : 18 ≤ k ∧ k ≤ 20
      · obtain ⟨r, rfl⟩ : ∃ r, k = 18 + r := ⟨k - 18, by omega⟩
        have h4 := y_air18 hT (j := r) (by omega)
        have h5 := hA.2.2 r (by omega)
        exact ⟨2147483647, 2147483654, y_now6r r (by omega), by omega, by omega⟩
      · have h4 := y_same28 k hk (by omega) h3
        obtain ⟨a, b, c, d, g1, g2, g3, g4⟩ := y_sub28_ok hk
        exact ⟨c, d, h4.trans g2, y_rng (lo := c) (hi := d) (g := 0) hT g2 (y_airk k hk)⟩
theorem y_keepV {n : Nat} {s : y_H} (hT : w_T (y_Vn n) g_sh (y_mk g_sh s)) (hA : y_AI (s.1 65 48).toInt (s.1 86)) : w_T (y_Vn n) g_sh (y_mk g_sh (y_cp s 85 0 (s.1 86) 28)) := by
  obtain ⟨hFD, ⟨hR, hau, hrows, hbox⟩, hC⟩ := y_VT hT
  have ev : ∀ o k, o ≠ 85 → (y_cp s 85 0 (s.1 86) 28).1 o k = s.1 o k := fun o k h => y_cp_ne (by omega)
  refine y_TV (y_Tc85 (y_t0 hT) (y_rowAir hT hA)) ⟨y_FD_eq2 (ev 65 18 (by omega)) (fun i _ => ev 70 i (by omega)) (fun i _ => ev 71 i (by omega)) hFD, ⟨?_, ?_, ?_, ?_⟩, y_VC_eq2 (fun o k ho => ev o k (by omega)) hC⟩
  · rw [ev 65 48 (by omega)]
    refine y_Rw_eq (fun k hk _ => ?_) hA.1
    have e := y_cp_in (s := s) (o := 85) (b := 0) (n := 28) (k := k) (f := s.1 86) (by omega)
    rw [Nat.zero_add] at e
    exact e
  · rw [ev 65 66 (by omega), ev 65 67 (by omega)]
    exact hau
  · intro j hj hlt
    rw [ev 65 66 (by omega), ev 65 67 (by omega)] at hlt
    rw [ev 65 48 (by omega)]
    exact y_Rw_eq (fun k _ _ => ev 91 _ (by omega)) (hrows j hj hlt)
  · intro b hb hne
    rw [ev 104 b (by omega)] at hne
    rw [ev 65 48 (by omega)]
    exact y_Rw_eq (fun k _ _ => ev 105 _ (by omega)) (hbox b hb hne)
/-- behind act: what is at hand is what is now -/
theorem y_acAI {n : Nat} {s s2 : y_H} (hT : w_T (y_Vn n) g_sh (y_mk g_sh s)) (hf : y_fr g_sh y_acK s s2) (he : ∀ k, k < 28 → s2.1 86 k = s.1 85 k) : s2.1 65 48 = s.1 65 48 ∧ y_AI (s2.1 65 48).toInt (s2.1 86) := by
  have e : s2.1 65 48 = s.1 65 48 := hf.at (o := 65) (k := 48) (A := w_n 0 7 0) rfl rfl (by decide +kernel)
  refine ⟨e, ?_⟩
  rw [e]
  exact y_AI_eq (fun k hk _ => he k (by omega)) (y_AI_now hT)
abbrev y_miK : List (Nat × Nat) := [(266331, 266333), (266363, 266363), (266366, 266366), (266370, 266371), (299072, 299135), (303168, 303173), (348224, 348251), (352320, 352347), (356416, 356418), (360512, 360514), (364608, 364615), (368704, 368711), (372800, 373919)]
theorem y_minuteM {n : Nat} {FM : w_U} (has : y_eAsTold (y_Vn n) FM) (hsails : y_eSails (y_Vn n)) (hlen : y_eLen (y_Vn n)) (hfr : y_eFr3 (y_Vn n)) : y_C g_sh g_ts 260 6 (fun a s => w_T (y_Vn n) g_sh (y_mk g_sh s) ∧ a = [.inr (.inr 67)]) (fun _ s v s2 => y_pubQ n y_miK s v s2) := by
  refine y_C.of (t := g_t260) rfl (by decide) ?_
  rintro d a s hd ⟨hT, rfl⟩
  refine y_run 1 rfl ?_
  refine y_call (y_fillF has) 1 rfl (fun _ _ _ => rfl) (a := [.inr (.inr 67)]) rfl rfl (fun h hR => y_mayV (o := 65) (sz := 85) rfl hR) (by omega) ⟨hT, rfl⟩ (fun v s1 hQ => ?_)
  obtain ⟨rfl, hT1, hf1, -⟩ := hQ
  have hf1b : y_fr g_sh y_miK s s1 := hf1.mono (by decide +kernel)
  have no : ∀ ls : q_U Int32, y_W g_sh g_ts d g_t260 (y_pubQ n y_miK s) 24 ls [] s1 := by
    intro ls
    refine y_run 1 rfl ?_
    exact y_iret rfl ⟨hT1, hf1b, _, rfl⟩
  have yes : ∀ ls : q_U Int32, q_at ls 0 = some (.inr (.inr 67)) → y_W g_sh g_ts d g_t260 (y_pubQ n y_miK s) 26 ls [] s1 := by
    intro ls l0
    refine y_sub (ls1 := [(0, .inr (.inr 67))]) (show ([0] : List Nat).Nodup by decide) (y_R_cons l0 y_R_nil) ?_
    refine y_run 1 rfl ?_
    refine y_call (y_actM has) 1 rfl (fun _ _ _ => rfl) (a := [.inr (.inr 67)]) rfl rfl (fun h hR => y_mayV (o := 65) (sz := 85) rfl hR) (by omega) ⟨hT1, rfl⟩ (fun v s2 hQ => ?_)
    obtain ⟨rfl, hT2, hf2, he2⟩ := hQ
    obtain ⟨e48, hA2⟩ := y_acAI hT1 hf2 he2
    refine y_run 2 rfl ?_
    refine y_call (y_goMinuteA hsails hlen hfr (s2.1 65 48).toInt) 1 rfl (fun _ _ _ => rfl) (a := [.inr (.inr 67), .inl ((Int32.ofInt 1))]) rfl rfl (fun h hR => y_mayV (o := 65) (sz := 85) rfl hR) (by omega) ⟨hT2, hA2, _, rfl⟩ (fun v s3 hQ => ?_)
    obtain ⟨⟨x, rfl⟩, hT3, hf3, hA3⟩ := hQ
    have e3 : s3.1 65 48 = s2.1 65 48 := hf3.at (o := 65) (k := 48) (A := w_n 0 7 0) rfl rfl (by decide +kernel)
    refine y_run 2 rfl ?_
    refine y_call y_keepAir 1 rfl (fun _ _ _ => rfl) (a := [.inr (.inr 67)]) rfl rfl (fun h hR => y_mayV (o := 65) (sz := 85) rfl hR) (by omega) rfl (fun v s4 hQ => ?_)
    obtain ⟨rfl, rfl⟩ := hQ
    refine y_run 1 rfl ?_
    exact y_iret rfl ⟨y_keepV hT3 (by rw [e3]; exact hA3), ((hf1b.tr (hf2.mono (by decide +kernel))).tr (hf3.mono (by decide +kernel))).cp (by decide +kernel), _, rfl⟩
  refine y_run 1 rfl ?_
  refine y_call (y_isEmpty (V := y_Vn n)) 1 rfl (fun _ _ _ => rfl) (a := [.inr (.inr 67)]) rfl rfl (fun h hR => y_mayV (o := 65) (sz := 85) rfl hR) (by omega) ⟨hT1, rfl⟩ (fun v s2 hQ => ?_)
  obtain ⟨rfl, hv⟩ := hQ
  rcases hv with rfl | ⟨rfl, -⟩
  · exact y_if rfl (fun _ => no _) (fun h => absurd (show (1 : Int) ≠ 0 by omega) h)
  · refine y_if rfl (fun h => absurd rfl h) (fun _ => ?_)
    refine y_run 3 rfl ?_
    refine y_ald (o := 85) (sz := 28) (j := 26) rfl rfl rfl (by omega) rfl ?_
    refine y_run 1 rfl ?_
    exact y_ic rfl (fun _ => yes _ rfl) (fun _ => no _)
