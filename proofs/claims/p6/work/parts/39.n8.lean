/-! by hand: trade of the model ends -/
section TRC
variable {n d L : Nat} {FM : w_U} {lf : Int32} {s0 : y_H} {Q : Option (q_V Int32) → y_H → Prop}
theorem y_trC (hd : 1 ≤ d) {m o : Int32} {O : Nat} (ho : o.toInt = (O : Int)) (hO : O < 128) (hexit : ∀ (s : y_H) (ls : q_U Int32), w_T (y_Vn n) g_sh (y_mk g_sh s) → y_fr g_sh y_trK s0 s → q_at ls 0 = some (.inr (.inr 67)) → q_at ls 1 = some (.inl lf) → q_at ls 2 = some (.inl m) → q_at ls 3 = some (.inl o) → y_W g_sh g_ts d g_t312 Q 162 ls [] s) : ∀ (c : Nat) (s : y_H) (p : Int32) (P : Nat), w_T (y_Vn n) g_sh (y_mk g_sh s) → y_fr g_sh y_trK s0 s → p.toInt = (P : Int) → P ≤ 7 → 7 - P ≤ c → y_W g_sh g_ts d g_t312 Q 124 [(0, .inr (.inr 67)), (1, .inl lf), (2, .inl m), (3, .inl o), (4, .inl p)] [] s := by
  intro c
  induction c with
  | zero =>
    intro s p P hT hf hp hP hc
    have hpr := y_pairs hT
    refine y_run 3 rfl ?_
    refine y_ic rfl (fun _ => hexit s _ hT hf rfl rfl rfl rfl) (fun h => ?_)
    have h2 : ¬ (s.1 65 48).toInt ≤ p.toInt := h
    omega
  | succ c ih =>
    intro s p P hT hf hp hP hc
    have hpr := y_pairs hT
    refine y_run 3 rfl ?_
    refine y_ic rfl (fun _ => hexit s _ hT hf rfl rfl rfl rfl) (fun h => ?_)
    have h2 : ¬ (s.1 65 48).toInt ≤ p.toInt := h
    have hi1 : (p + (Int32.ofInt 1)).toInt = p.toInt + 1 := y_add (x := p) (y := 1) (by show _ ≤ _ + (1 : Int); omega) (by show _ + (1 : Int) ≤ _; omega)
    have next : ∀ (s2 : y_H) (ls : q_U Int32), w_T (y_Vn n) g_sh (y_mk g_sh s2) → y_fr g_sh y_trK s0 s2 → ls = [(0, .inr (.inr 67)), (1, .inl lf), (2, .inl m), (3, .inl o), (4, .inl p)] → y_W g_sh g_ts d g_t312 Q 156 ls [] s2 := by
      rintro s2 ls hT2 hf2 rfl
      refine y_run 2 rfl ?_
      refine y_sub (ls1 := [(0, .inr (.inr 67)), (1, .inl lf), (2, .inl m), (3, .inl o), (4, .inl ((p + (Int32.ofInt 1))))]) (show ([0, 1, 2, 3, 4] : List Nat).Nodup by decide) (y_R_cons rfl (y_R_cons rfl (y_R_cons rfl (y_R_cons rfl (y_R_cons rfl y_R_nil))))) ?_
      exact ih s2 _ (P + 1) hT2 hf2 (by rw [hi1, hp]; omega) (by omega) (by omega)
    refine y_run 2 rfl ?_
    refine y_call (y_hasF (S := O) (K := P) (x := o) (k := p) ho hp hO (by omega)) 0 rfl (fun _ _ _ => rfl) (a := [.inl o, .inl p]) rfl rfl (fun h hR => rfl) hd rfl (fun v s2 hQ => ?_)
    obtain ⟨rfl, hv⟩ := hQ
    rcases hv with ⟨rfl, -⟩ | ⟨rfl, -⟩
    · refine y_if rfl (fun h => absurd (show (1 : Int) = 0 from h) (by omega)) (fun _ => ?_)
      have hr := y_ptr hT (j := P) (by omega)
      refine y_run 5 rfl ?_
      refine y_ald (o := 94) (sz := 7) (j := P) rfl rfl hp (by omega) y_k94 ?_
      refine y_run 1 rfl ?_
      refine y_ast (o := 95) (sz := 7) (j := (s2.1 94 P).toInt.toNat) rfl rfl (by omega) (by omega) y_k95 ?_
      obtain ⟨hT4, hf4⟩ := y_up94 (o := 95) (j := (s2.1 94 P).toInt.toNat) (x := p) (by omega) hT hf (by omega) (by omega) (by omega)
      exact next _ _ hT4 hf4 rfl
    · exact y_if rfl (fun _ => next s2 _ hT hf rfl) (fun h => absurd rfl h)
theorem y_trD {m : Int32} (hexit : ∀ (s : y_H), w_T (y_Vn n) g_sh (y_mk g_sh s) → y_fr g_sh y_trK s0 s → Q (some (.inl m)) s) : ∀ (c : Nat) (s : y_H) (p : Int32) (P : Nat), w_T (y_Vn n) g_sh (y_mk g_sh s) → y_fr g_sh y_trK s0 s → p.toInt = (P : Int) → P ≤ 7 → 7 - P ≤ c → y_W g_sh g_ts d g_t312 Q 184 [(0, .inr (.inr 67)), (2, .inl m), (3, .inl p)] [] s := by
  have fin : ∀ (s : y_H) (ls : q_U Int32), w_T (y_Vn n) g_sh (y_mk g_sh s) → y_fr g_sh y_trK s0 s → q_at ls 2 = some (.inl m) → y_W g_sh g_ts d g_t312 Q 215 ls [] s := by
    intro s ls hT hf l2
    refine y_sub (ls1 := [(2, .inl m)]) (show ([2] : List Nat).Nodup by decide) (y_R_cons l2 y_R_nil) ?_
    refine y_run 1 rfl ?_
    exact y_iret rfl (hexit s hT hf)
  intro c
  induction c with
  | zero =>
    intro s p P hT hf hp hP hc
    have hla := y_rng (lo := 2147483648) (hi := 2147483655) (g := 0) hT (o := 65) (k := 70) rfl rfl
    refine y_run 3 rfl ?_
    refine y_ic rfl (fun _ => fin s _ hT hf rfl) (fun h => ?_)
    have h2 : ¬ (s.1 65 70).toInt ≤ p.toInt := h
    omega
  | succ c ih =>
    intro s p P hT hf hp hP hc
    have hla := y_rng (lo := 2147483648) (hi := 2147483655) (g := 0) hT (o := 65) (k := 70) rfl rfl
    refine y_run 3 rfl ?_
    refine y_ic rfl (fun _ => fin s _ hT hf rfl) (fun h => ?_)
    have h2 : ¬ (s.1 65 70).toInt ≤ p.toInt := h
    have hi1 : (p + (Int32.ofInt 1)).toInt = p.toInt + 1 := y_add (x := p) (y := 1) (by show _ ≤ _ + (1 : Int); omega) (by show _ + (1 : Int) ≤ _; omega)
    have hn := y_now0 hT (k := P) (by omega)
    have hc2 := y_ct hT (j := (s.1 85 P).toInt.toNat) (by omega)
    refine y_run 8 rfl ?_
    refine y_ald (o := 85) (sz := 28) (j := P) rfl rfl hp (by omega) (y_k85 _ (by omega)) ?_
    refine y_ald (o := 95) (sz := 7) (j := (s.1 85 P).toInt.toNat) rfl rfl (by omega) (by omega) y_k95 ?_
    refine y_ast (o := 92) (sz := 7) (j := P) rfl rfl hp (by omega) y_lik ?_
    obtain ⟨hT4, hf4⟩ := y_up94 (o := 92) (j := P) (x := s.1 95 (s.1 85 P).toInt.toNat) (by omega) hT hf (by omega) hc2.1 hc2.2
    refine y_run 2 rfl ?_
    refine y_sub (ls1 := [(0, .inr (.inr 67)), (2, .inl m), (3, .inl ((p + (Int32.ofInt 1))))]) (show ([0, 2, 3] : List Nat).Nodup by decide) (y_R_cons rfl (y_R_cons rfl (y_R_cons rfl y_R_nil))) ?_
    exact ih _ _ (P + 1) hT4 hf4 (by rw [hi1, hp]; omega) (by omega) (by omega)
theorem y_tr_out (has : y_eAsTold (y_Vn n) FM) (hgo : y_eGoOn (y_Vn n)) (hsaid : y_eSaid (y_Vn n)) (hmem : y_eMem (y_Vn n)) (hd : 7 ≤ d) : ∀ (c : Nat) (s : y_H) (lf m : Int32) (L : Nat), w_T (y_Vn n) g_sh (y_mk g_sh s) → y_fr g_sh y_trK s0 s → lf.toInt = (L : Int) → L < 128 → (∀ p, p < 7 → L.testBit p = true → y_qd s0 p) → L ≤ c → y_W g_sh g_ts d g_t312 (y_pubQ n y_trK s0) 7 [(0, .inr (.inr 67)), (1, .inl lf), (2, .inl m)] [] s := by
  have fin : ∀ (s : y_H) (m : Int32) (ls : q_U Int32), w_T (y_Vn n) g_sh (y_mk g_sh s) → y_fr g_sh y_trK s0 s → q_at ls 0 = some (.inr (.inr 67)) → q_at ls 2 = some (.inl m) → y_W g_sh g_ts d g_t312 (y_pubQ n y_trK s0) 171 ls [] s := by
    intro s m ls hT hf l0 l2
    refine y_sub (ls1 := [(0, .inr (.inr 67)), (2, .inl m)]) (show ([0, 2] : List Nat).Nodup by decide) (y_R_cons l0 (y_R_cons l2 y_R_nil)) ?_
    have h8 := y_now8 hT
    refine y_run 4 rfl ?_
    refine y_ald (o := 85) (sz := 28) (j := 8) rfl rfl rfl (by omega) rfl ?_
    have hT2 := y_Tup (lo := 2147483648) (hi := 2147483655) (g := 0) hT (o := 65) (k := 70) (x := s.1 85 8) rfl rfl (by decide +kernel) (by omega) (by omega)
    have hf2 := hf.up (o := 65) (k := 70) (v := .inl (s.1 85 8)) rfl (by decide +kernel)
    refine y_run 3 rfl ?_
    refine y_sub (ls1 := [(0, .inr (.inr 67)), (2, .inl m), (3, .inl ((Int32.ofInt 0)))]) (show ([0, 2, 3] : List Nat).Nodup by decide) (y_R_cons rfl (y_R_cons rfl (y_R_cons rfl y_R_nil))) ?_
    exact y_trD (fun s3 hT3 hf3 => ⟨hT3, hf3, _, rfl⟩) 7 _ _ 0 hT2 hf2 rfl (by omega) (by omega)
  intro c
  induction c with
  | zero =>
    intro s lf m L hT hf hl hL hq hc
    refine y_run 1 rfl ?_
    refine y_if rfl (fun _ => fin s m _ hT hf rfl rfl) (fun h => ?_)
    exact absurd (show lf.toInt = 0 by omega) h
  | succ c ih =>
    intro s lf m L hT hf hl hL hq hc
    refine y_run 1 rfl ?_
    refine y_if rfl (fun _ => fin s m _ hT hf rfl rfl) (fun h => ?_)
    have hne : lf.toInt ≠ 0 := h
    refine y_run 2 rfl ?_
    refine y_sub (ls1 := [(0, .inr (.inr 67)), (1, .inl lf), (2, .inl m), (3, .inl ((Int32.ofInt 0)))]) (show ([0, 1, 2, 3] : List Nat).Nodup by decide) (y_R_cons rfl (y_R_cons rfl (y_R_cons rfl (y_R_cons rfl y_R_nil)))) ?_
    refine y_trA has hgo hsaid hd (s0 := s0) (L := L) hl hL hq (fun sA ls hTA hfA hpt l0 l1 l2 => ?_) 7 s _ 0 hT hf (fun j hj => by omega) rfl (by omega) (by omega)
    refine y_sub (ls1 := [(0, .inr (.inr 67)), (1, .inl lf), (2, .inl m)]) (show ([0, 1, 2] : List Nat).Nodup by decide) (y_R_cons l0 (y_R_cons l1 (y_R_cons l2 y_R_nil))) ?_
    refine y_run 4 rfl ?_
    refine y_sub (ls1 := [(0, .inr (.inr 67)), (1, .inl lf), (2, .inl m), (3, .inl ((Int32.ofInt 0))), (4, .inl ((Int32.ofInt 0)))]) (show ([0, 1, 2, 3, 4] : List Nat).Nodup by decide) (y_R_cons rfl (y_R_cons rfl (y_R_cons rfl (y_R_cons rfl (y_R_cons rfl y_R_nil))))) ?_
    refine y_trB hmem (by omega) (s0 := s0) (sA := sA) (L := L) hl hL hq (fun sB m2 o O ls hTB hfB ho hO hout l0 l1 l2 l3 => ?_) 7 sA m _ _ 0 0 hTA hfA (fun _ _ => rfl) rfl (by omega) (fun j hj => by omega) rfl (by omega) (by omega)
    refine y_sub (ls1 := [(0, .inr (.inr 67)), (1, .inl lf), (2, .inl m2), (3, .inl o)]) (show ([0, 1, 2, 3] : List Nat).Nodup by decide) (y_R_cons l0 (y_R_cons l1 (y_R_cons l2 (y_R_cons l3 y_R_nil)))) ?_
    refine y_run 2 rfl ?_
    refine y_sub (ls1 := [(0, .inr (.inr 67)), (1, .inl lf), (2, .inl m2), (3, .inl o), (4, .inl ((Int32.ofInt 0)))]) (show ([0, 1, 2, 3, 4] : List Nat).Nodup by decide) (y_R_cons rfl (y_R_cons rfl (y_R_cons rfl (y_R_cons rfl (y_R_cons rfl y_R_nil))))) ?_
    refine y_trC (by omega) (s0 := s0) (lf := lf) ho hO (fun sC ls hTC hfC l0 l1 l2 l3 => ?_) 7 sB _ 0 hTB hfB rfl (by omega) (by omega)
    refine y_sub (ls1 := [(0, .inr (.inr 67)), (1, .inl lf), (2, .inl m2), (3, .inl o)]) (show ([0, 1, 2, 3] : List Nat).Nodup by decide) (y_R_cons l0 (y_R_cons l1 (y_R_cons l2 (y_R_cons l3 y_R_nil)))) ?_
    have el := y_toN hl (by omega)
    have eo := y_toN ho (by omega)
    have han := y_ban L hL O hO
    have hle : L &&& (127 ^^^ O) ≤ L := Nat.and_le_left
    have hx : (lf &&& (o ^^^ Int32.ofInt (-1))).toInt = ((L &&& (127 ^^^ O) : Nat) : Int) := by
      rw [el, eo, han, y_ofN (by omega)]
    refine y_run 7 rfl ?_
    refine y_sub (ls1 := [(0, .inr (.inr 67)), (1, .inl ((lf &&& (o ^^^ Int32.ofInt (-1))))), (2, .inl m2)]) (show ([0, 1, 2] : List Nat).Nodup by decide) (y_R_cons rfl (y_R_cons rfl (y_R_cons rfl y_R_nil))) ?_
    have hlt : L &&& (127 ^^^ O) < L := by
      rcases Nat.lt_or_ge (L &&& (127 ^^^ O)) L with q | q
      · exact q
      · exfalso
        have e : L &&& (127 ^^^ O) = L := by omega
        obtain ⟨p0, h0, hb0⟩ : ∃ p, p < 7 ∧ L.testBit p = true := by
          have : ∀ L, L < 128 → L ≠ 0 → ∃ p, p < 7 ∧ L.testBit p = true := by decide +kernel
          exact this L hL (by omega)
        obtain ⟨p, hp7, hbp, hcp⟩ := y_cyc_ex (f := y_pf sA) (L := fun j => L.testBit j) h0 hb0 (fun j hj hbj => ⟨by
          have := y_ptr hTA hj
          rw [y_pf_eq]
          omega, hpt j hj hbj⟩)
        have hop := hout p hp7 hbp hcp
        have e2 : (L &&& (127 ^^^ O)).testBit p = L.testBit p := by rw [e]
        rw [Nat.testBit_and, Nat.testBit_xor, y_b127 p hp7, hop, hbp] at e2
        cases e2
    refine ih sC _ m2 (L &&& (127 ^^^ O)) hTC hfC hx (by omega) (fun p hp7 hb => hq p hp7 ?_) (by omega)
    rw [Nat.testBit_and, Bool.and_eq_true] at hb
    exact hb.1
end TRC
theorem y_tradeM {n : Nat} {FM : w_U} (has : y_eAsTold (y_Vn n) FM) (hgo : y_eGoOn (y_Vn n)) (hsaid : y_eSaid (y_Vn n)) (hmem : y_eMem (y_Vn n)) : y_C g_sh g_ts 312 8 (fun a s => w_T (y_Vn n) g_sh (y_mk g_sh s) ∧ a = [.inr (.inr 67)]) (fun _ s v s2 => y_pubQ n y_trK s v s2) := by
  refine y_C.of (t := g_t312) rfl (by decide) ?_
  rintro d a s hd ⟨hT, rfl⟩
  refine y_run 1 rfl ?_
  refine y_call (y_queuedOnes (n := n)) 1 rfl (fun _ _ _ => rfl) (a := [.inr (.inr 67)]) rfl rfl (fun h hR => y_mayV (o := 65) (sz := 85) rfl hR) (by omega) ⟨hT, rfl⟩ (fun v s3 hQ => ?_)
  obtain ⟨rfl, w, S, rfl, hw, hS, hq⟩ := hQ
  refine y_run 3 rfl ?_
  refine y_sub (ls1 := [(0, .inr (.inr 67)), (1, .inl w), (2, .inl ((Int32.ofInt 0)))]) (show ([0, 1, 2] : List Nat).Nodup by decide) (y_R_cons rfl (y_R_cons rfl (y_R_cons rfl y_R_nil))) ?_
  exact y_tr_out has hgo hsaid hmem (by omega) 128 s3 w _ S hT y_fr.rf hw hS hq (by omega)
