/-! by hand: the class's Past -/
theorem y_rowNow : y_C g_sh g_ts 96 1 (fun a s => a = [.inr (.inr 35)] ∧ (0 ≤ (s.1 33 1).toInt ∧ (s.1 33 1).toInt ≤ 40) ∧ 0 ≤ (s.1 33 2).toInt ∧ (s.1 33 2).toInt ≤ 40) (fun _ s v s2 => s2 = s ∧ ∃ x : Int32, v = some (.inl x) ∧ x.toInt = 24 * ((((s.1 33 1).toInt.toNat + (s.1 33 2).toInt.toNat) % 41 : Nat) : Int)) := by
  refine y_C.of (t := g_t96) rfl (by decide) ?_
  rintro d a s hd ⟨rfl, hO, hU⟩
  refine y_run 6 rfl ?_
  show y_W g_sh g_ts d g_t96 _ 11 [(0, .inr (.inr 35))] [.inl ((Int8.ofInt 41).toInt32), .inl (s.1 33 1 + s.1 33 2)] s
  refine y_irem rfl (show (41 : Int) ≠ 0 by omega) ?_
  have ea : (s.1 33 1 + s.1 33 2).toInt = (s.1 33 1).toInt + (s.1 33 2).toInt := y_add (by omega) (by omega)
  have er := y_rem (x := s.1 33 1 + s.1 33 2) (y := (Int8.ofInt 41).toInt32) (by omega) (show (0 : Int) < 41 by omega)
  generalize (s.1 33 1 + s.1 33 2) - (s.1 33 1 + s.1 33 2) / (Int8.ofInt 41).toInt32 * (Int8.ofInt 41).toInt32 = z at er ⊢
  have e1 : z.toInt = (s.1 33 1 + s.1 33 2).toInt % 41 := er.1
  have em : (z * (Int8.ofInt 24).toInt32).toInt = z.toInt * 24 := y_ml (x := z) (y := (Int8.ofInt 24).toInt32) (by show _ ≤ _ * (24 : Int); omega) (by show _ * (24 : Int) ≤ _; omega)
  refine y_run 2 rfl ?_
  refine y_iret rfl ⟨rfl, _, rfl, ?_⟩
  rw [em, e1, ea]
  omega
theorem y_VC_sv {n : Nat} {g : Nat → Nat → Int32} {O U : Nat} {row : Nat → Int32} (hnow : y_Rc n (g 29) (g 30) (g 28 1)) (f1 : (g 33 1).toInt = (O : Int)) (f2 : (g 33 2).toInt = (U : Int)) (f3 : (g 33 3).toInt = 0) (hO : O ≤ 40) (hU : U ≤ 40) (hrow : ∀ k, k < 24 → g 34 (24 * ((O + U) % 41) + k) = row k) (r29 : ∀ k, k < 7 → row k = g 29 k) (r30 : ∀ k, k < 7 → row (7 + k) = g 30 k) (r18 : row 18 = g 28 1) (hold : ∀ j, j < U → y_Rc n (fun k => g 34 ((O + j) % 41 * 24 + k)) (fun k => g 34 ((O + j) % 41 * 24 + 7 + k)) (g 34 ((O + j) % 41 * 24 + 18))) (hbox : ∀ b : Nat, b < 3 → y_bit (g 0 7) b → y_Rc n (fun k => g 35 (24 * b + k)) (fun k => g 35 (24 * b + 7 + k)) (g 35 (24 * b + 18))) : y_VC n g := by
  refine ⟨hnow, by omega, fun j hj => ?_, hbox⟩
  have eO : (g 33 1).toInt.toNat = O := by omega
  rw [eO]
  by_cases c : j < U
  · exact hold j c
  · have e : j = U := by omega
    subst e
    refine y_Rc_eq (fun k hk => ?_) (fun k hk => ?_) ?_ hnow
    · show g 34 ((O + j) % 41 * 24 + k) = g 29 k
      rw [Nat.mul_comm, hrow k (by omega), r29 k hk]
    · show g 34 ((O + j) % 41 * 24 + 7 + k) = g 30 k
      rw [Nat.mul_comm, Nat.add_assoc, hrow (7 + k) (by omega), r30 k hk]
    · rw [Nat.mul_comm, hrow 18 (by omega), r18]
/-- a row of the past, as it stands -/
def y_oR (n : Nat) (g : Nat → Nat → Int32) (R : Nat) : Prop := y_Rc n (fun k => g 34 (R * 24 + k)) (fun k => g 34 (R * 24 + 7 + k)) (g 34 (R * 24 + 18))
theorem y_oR_eq {n R : Nat} {g g2 : Nat → Nat → Int32} (h : ∀ k, k < 24 → g2 34 (R * 24 + k) = g 34 (R * 24 + k)) (hR : y_oR n g R) : y_oR n g2 R := by
  refine y_Rc_eq (fun k hk => h k (by omega)) (fun k hk => ?_) (h 18 (by omega)) hR
  show g2 34 (R * 24 + 7 + k) = g 34 (R * 24 + 7 + k)
  rw [Nat.add_assoc]
  exact h (7 + k) (by omega)
theorem y_srow29 {s : y_H} {k : Nat} (h : k < 7) : y_srow s k = s.1 29 k := by
  unfold y_srow y_so
  rw [if_pos h]
theorem y_srow30 {s : y_H} {k : Nat} (h : k < 7) : y_srow s (7 + k) = s.1 30 k := by
  unfold y_srow y_so
  rw [if_neg (by omega), if_pos (by omega)]
  show s.1 30 (7 + k - 7) = _
  rw [show 7 + k - 7 = k by omega]
/-- what Past.keep leaves behind -/
def y_kpS (s s1 : y_H) (J : Nat) : y_H := y_cp s1 34 (24 * J) (y_srow s) 24
abbrev y_kpK : List (Nat × Nat) := [(135233, 135235), (139328, 140311)]
theorem y_kp34 {J : Nat} (hJ : J < 41) : w_inr y_kpK (w_key 34 (24 * J)) (w_key 34 (24 * J + 24 - 1)) = true := by
  have : ∀ J, J < 41 → w_inr y_kpK (w_key 34 (24 * J)) (w_key 34 (24 * J + 24 - 1)) = true := by decide +kernel
  exact this J hJ
theorem y_VM_eq2 {g g2 : Nat → Nat → Int32} (h : ∀ o k, 65 ≤ o → g2 o k = g o k) (hV : y_VM g) : y_VM g2 := by
  have e : ∀ o, 65 ≤ o → g2 o = g o := fun o ho => funext fun k => h o k ho
  unfold y_VM
  rw [e 65 (by omega), e 85 (by omega), e 91 (by omega), e 104 (by omega), e 105 (by omega)]
  exact hV
theorem y_keepC {n : Nat} : y_C g_sh g_ts 94 2 (fun a s => w_T (y_Vn n) g_sh (y_mk g_sh s) ∧ a = [.inr (.inr 35), .inr (.inr 30)]) (fun _ s v s2 => v = none ∧ w_T (y_Vn n) g_sh (y_mk g_sh s2) ∧ y_fr g_sh y_kpK s s2) := by
  refine y_C.of (t := g_t94) rfl (by decide) ?_
  rintro d a s hd ⟨hT, rfl⟩
  obtain ⟨hFD, hM, hnow, ⟨o0, o40, u0, r0, ur⟩, hrows, hbox⟩ := y_VT hT
  -- the rest, from a heap with the numbers set
  have go : ∀ (s1 : y_H) (O U : Nat) (ls : q_U Int32), w_T y_V0 g_sh (y_mk g_sh s1) → y_fr g_sh y_kpK s s1 → (∀ o k, o ≠ 33 → s1.1 o k = s.1 o k) → (s1.1 33 1).toInt = (O : Int) → (s1.1 33 2).toInt = (U : Int) → (s1.1 33 3).toInt = 0 → O ≤ 40 → U ≤ 40 → (∀ j, j < U → y_oR n s.1 ((O + j) % 41)) → q_at ls 0 = some (.inr (.inr 35)) → q_at ls 1 = some (.inr (.inr 30)) → y_W g_sh g_ts d g_t94 (fun v s2 => v = none ∧ w_T (y_Vn n) g_sh (y_mk g_sh s2) ∧ y_fr g_sh y_kpK s s2) 40 ls [] s1 := by
    intro s1 O U ls t1 f1 u e1 e2 e3 hO hU hold l0 l1
    refine y_sub (ls1 := [(0, .inr (.inr 35)), (1, .inr (.inr 30))]) (show ([0, 1] : List Nat).Nodup by decide) (y_R_cons l0 (y_R_cons l1 y_R_nil)) ?_
    refine y_run 4 rfl ?_
    refine y_call y_rowNow 1 rfl (fun _ _ _ => rfl) (a := [.inr (.inr 35)]) rfl rfl (fun h hR => y_mayV (o := 33) (sz := 4) rfl hR) (by omega) ⟨rfl, by omega, by omega, by omega⟩ (fun v s3 hQ => ?_)
    obtain ⟨rfl, x, rfl, hx⟩ := hQ
    have eO : (s3.1 33 1).toInt.toNat = O := by omega
    have eU : (s3.1 33 2).toInt.toNat = U := by omega
    rw [eO, eU] at hx
    have hJ : (O + U) % 41 < 41 := Nat.mod_lt _ (by omega)
    refine y_call y_saveTo34 1 rfl (fun _ _ _ => rfl) (a := [.inr (.inr 30), .inr (.inr 36), .inl x]) rfl rfl (fun h hR => y_mayV (o := 28) (sz := 10) rfl hR) (by omega) ⟨x, (O + U) % 41, rfl, hx, hJ⟩ (fun v s4 hQ => ?_)
    obtain ⟨rfl, rfl⟩ := hQ x ((O + U) % 41) rfl hx
    have ev : ∀ o k, o ≠ 34 → (y_cp s3 34 (24 * ((O + U) % 41)) (y_srow s3) 24).1 o k = s3.1 o k := fun o k h => y_cp_ne (by omega)
    refine y_vret rfl ⟨rfl, y_TV (y_sv34T hJ t1) ⟨?_, ?_, ?_⟩, f1.cp (y_kp34 hJ)⟩
    · exact y_FD_eq2 ((ev 65 18 (by omega)).trans (u 65 18 (by omega))) (fun i _ => (ev 70 i (by omega)).trans (u 70 i (by omega))) (fun i _ => (ev 71 i (by omega)).trans (u 71 i (by omega))) hFD
    · exact y_VM_eq2 (fun o k ho => (ev o k (by omega)).trans (u o k (by omega))) hM
    · have c29 : ∀ k, (y_cp s3 34 (24 * ((O + U) % 41)) (y_srow s3) 24).1 29 k = s.1 29 k := fun k => (ev 29 k (by omega)).trans (u 29 k (by omega))
      have c30 : ∀ k, (y_cp s3 34 (24 * ((O + U) % 41)) (y_srow s3) 24).1 30 k = s.1 30 k := fun k => (ev 30 k (by omega)).trans (u 30 k (by omega))
      refine y_VC_sv (O := O) (U := U) (row := y_srow s3) (y_Rc_eq (fun k _ => c29 k) (fun k _ => c30 k) ((ev 28 1 (by omega)).trans (u 28 1 (by omega))) hnow) (by rw [ev 33 1 (by omega)]; exact e1) (by rw [ev 33 2 (by omega)]; exact e2) (by rw [ev 33 3 (by omega)]; exact e3) hO hU (fun k hk => y_cp_in hk) (fun k hk => (y_srow29 hk).trans (ev 29 k (by omega)).symm) (fun k hk => (y_srow30 hk).trans (ev 30 k (by omega)).symm) (ev 28 1 (by omega)).symm (fun j hj => ?_) (fun b hb hbit => ?_)
      · refine y_oR_eq (fun k hk => (y_cp_ne ?_).trans (u 34 _ (by omega))) (hold j hj)
        have hj1 : (O + j) % 41 ≠ (O + U) % 41 := by omega
        have hj2 : (O + j) % 41 < 41 := Nat.mod_lt _ (by omega)
        omega
      · rw [(ev 0 7 (by omega)).trans (u 0 7 (by omega))] at hbit
        exact y_Rc_eq (fun k _ => (ev 35 _ (by omega)).trans (u 35 _ (by omega))) (fun k _ => (ev 35 _ (by omega)).trans (u 35 _ (by omega))) ((ev 35 _ (by omega)).trans (u 35 _ (by omega))) (hbox b hb hbit)
  have hold0 : ∀ j : Nat, (j : Int) ≤ (s.1 33 2).toInt + (s.1 33 3).toInt → y_oR n s.1 (((s.1 33 1).toInt.toNat + j) % 41) := hrows
  have t1 := y_Tup0 (lo := 0) (hi := 4294967295) (o := 33) (k := 3) (x := Int32.ofInt 0) (y_t0 hT) rfl rfl (show _ ≤ (0 : Int) by omega) (show (0 : Int) ≤ _ by omega)
  have f1 := (y_fr.rf (sh := g_sh) (ms := y_kpK) (s := s)).up (o := 33) (k := 3) (v := .inl (Int32.ofInt 0)) rfl (by decide +kernel)
  refine y_run 6 rfl ?_
  show y_W g_sh g_ts d g_t94 _ 11 [(0, .inr (.inr 35)), (1, .inr (.inr 30))] [.inl ((Int8.ofInt 40).toInt32), .inl (s.1 33 2)] (y_up s 33 3 (.inl (Int32.ofInt 0)))
  refine y_ic rfl (fun h => ?_) (fun h => ?_)
  · have h2 : (40 : Int) ≤ (s.1 33 2).toInt := h
    have ea : (s.1 33 1 + (Int32.ofInt 1)).toInt = (s.1 33 1).toInt + 1 := y_add (x := s.1 33 1) (y := 1) (by show _ ≤ _ + (1 : Int); omega) (by show _ + (1 : Int) ≤ _; omega)
    refine y_run 6 rfl ?_
    show y_W g_sh g_ts d g_t94 _ 36 [(0, .inr (.inr 35)), (1, .inr (.inr 30))] [.inl ((Int8.ofInt 41).toInt32), .inl (s.1 33 1 + (Int32.ofInt 1)), .inr (.inr 35)] (y_up s 33 3 (.inl (Int32.ofInt 0)))
    refine y_irem rfl (show (41 : Int) ≠ 0 by omega) ?_
    have er := y_rem (x := s.1 33 1 + (Int32.ofInt 1)) (y := (Int8.ofInt 41).toInt32) (by omega) (show (0 : Int) < 41 by omega)
    generalize (s.1 33 1 + (Int32.ofInt 1)) - (s.1 33 1 + (Int32.ofInt 1)) / (Int8.ofInt 41).toInt32 * (Int8.ofInt 41).toInt32 = z at er ⊢
    have e1 : z.toInt = (s.1 33 1 + (Int32.ofInt 1)).toInt % 41 := er.1
    have t2 := y_Tup0 (lo := 2147483648) (hi := 2147483688) (o := 33) (k := 1) (x := z) t1 rfl rfl (by omega) (by omega)
    have f2 := f1.up (o := 33) (k := 1) (v := .inl z) rfl (by decide +kernel)
    refine y_run 1 rfl ?_
    refine go (y_up (y_up s 33 3 (.inl (Int32.ofInt 0))) 33 1 (.inl z)) z.toInt.toNat 40 _ t2 f2 (fun o k h => (y_up_ne (by omega)).trans (y_up_ne (by omega))) (by rw [y_up_self]; omega) ?_ rfl (by omega) (by omega) (fun j hj => ?_) rfl rfl
    · rw [y_up_ne (by decide), y_up_ne (by decide)]
      omega
    · have := hold0 (j + 1) (by omega)
      rwa [show ((s.1 33 1).toInt.toNat + (j + 1)) % 41 = (z.toInt.toNat + j) % 41 by omega] at this
  · have h2 : ¬ (40 : Int) ≤ (s.1 33 2).toInt := h
    have ea : (s.1 33 2 + (Int32.ofInt 1)).toInt = (s.1 33 2).toInt + 1 := y_add (x := s.1 33 2) (y := 1) (by show _ ≤ _ + (1 : Int); omega) (by show _ + (1 : Int) ≤ _; omega)
    have t2 := y_Tup0 (lo := 0) (hi := 4294967295) (o := 33) (k := 2) (x := s.1 33 2 + (Int32.ofInt 1)) t1 rfl rfl (by omega) (by omega)
    have f2 := f1.up (o := 33) (k := 2) (v := .inl (s.1 33 2 + (Int32.ofInt 1))) rfl (by decide +kernel)
    refine y_run 7 rfl ?_
    refine go (y_up (y_up s 33 3 (.inl (Int32.ofInt 0))) 33 2 (.inl (s.1 33 2 + (Int32.ofInt 1)))) (s.1 33 1).toInt.toNat ((s.1 33 2).toInt.toNat + 1) _ t2 f2 (fun o k h => (y_up_ne (by omega)).trans (y_up_ne (by omega))) ?_ (by rw [y_up_self]; omega) rfl (by omega) (by omega) (fun j hj => hold0 j (by omega)) rfl rfl
    rw [y_up_ne (by decide), y_up_ne (by decide)]
    omega
