/-! by hand: Past.restart, takeBack, takeAgain; for the checker: keep, takeBack, takeAgain -/
theorem y_so_le : ∀ m, m < 24 → 28 ≤ (y_so m).1 ∧ (y_so m).1 ≤ 32 := by decide +kernel
theorem y_lod_o {s : y_H} {f : Nat → Int32} {o k : Nat} (h : ¬ (28 ≤ o ∧ o ≤ 32)) : (y_lod s f).1 o k = s.1 o k := y_lod_ne (by
  rintro ⟨m, hm, e⟩
  have h1 := y_so_le m hm
  rw [e] at h1
  exact h h1)
def y_rsQ (s : y_H) (v : Option (q_V Int32)) (s2 : y_H) : Prop := v = none ∧ w_T y_V0 g_sh (y_mk g_sh s2) ∧ y_fr g_sh y_kpK s s2 ∧ (∀ o k, o ≠ 33 → o ≠ 34 → s2.1 o k = s.1 o k) ∧ ((s2.1 33 1).toInt = 0 ∧ (s2.1 33 2).toInt = 0 ∧ (s2.1 33 3).toInt = 0) ∧ ∀ k, k < 24 → s2.1 34 k = y_srow s k
theorem y_restartF : y_C g_sh g_ts 95 2 (fun a s => w_T y_V0 g_sh (y_mk g_sh s) ∧ a = [.inr (.inr 35), .inr (.inr 30)]) (fun _ s v s2 => y_rsQ s v s2) := by
  refine y_C.of (t := g_t95) rfl (by decide) ?_
  rintro d a s hd ⟨hT, rfl⟩
  have t1 := y_Tup0 (lo := 2147483648) (hi := 2147483688) (o := 33) (k := 1) (x := Int32.ofInt 0) hT rfl rfl (show _ ≤ (0 : Int) by omega) (show (0 : Int) ≤ _ by omega)
  have t2 := y_Tup0 (lo := 0) (hi := 4294967295) (o := 33) (k := 2) (x := Int32.ofInt 0) t1 rfl rfl (show _ ≤ (0 : Int) by omega) (show (0 : Int) ≤ _ by omega)
  have t3 := y_Tup0 (lo := 0) (hi := 4294967295) (o := 33) (k := 3) (x := Int32.ofInt 0) t2 rfl rfl (show _ ≤ (0 : Int) by omega) (show (0 : Int) ≤ _ by omega)
  have f3 := (((y_fr.rf (sh := g_sh) (ms := y_kpK) (s := s)).up (o := 33) (k := 1) (v := .inl (Int32.ofInt 0)) rfl (by decide +kernel)).up (o := 33) (k := 2) (v := .inl (Int32.ofInt 0)) rfl (by decide +kernel)).up (o := 33) (k := 3) (v := .inl (Int32.ofInt 0)) rfl (by decide +kernel)
  have u : ∀ o k, o ≠ 33 → (y_up (y_up (y_up s 33 1 (.inl (Int32.ofInt 0))) 33 2 (.inl (Int32.ofInt 0))) 33 3 (.inl (Int32.ofInt 0))).1 o k = s.1 o k := fun o k h => (y_up_ne (by omega)).trans ((y_up_ne (by omega)).trans (y_up_ne (by omega)))
  have e1 : ((y_up (y_up (y_up s 33 1 (.inl (Int32.ofInt 0))) 33 2 (.inl (Int32.ofInt 0))) 33 3 (.inl (Int32.ofInt 0))).1 33 1).toInt = 0 := rfl
  have e2 : ((y_up (y_up (y_up s 33 1 (.inl (Int32.ofInt 0))) 33 2 (.inl (Int32.ofInt 0))) 33 3 (.inl (Int32.ofInt 0))).1 33 2).toInt = 0 := rfl
  have e3 : ((y_up (y_up (y_up s 33 1 (.inl (Int32.ofInt 0))) 33 2 (.inl (Int32.ofInt 0))) 33 3 (.inl (Int32.ofInt 0))).1 33 3).toInt = 0 := rfl
  refine y_run 13 rfl ?_
  show y_W g_sh g_ts d g_t95 (y_rsQ s) 21 [(0, .inr (.inr 35)), (1, .inr (.inr 30))] [.inr (.inr 35), .inr (.inr 36), .inr (.inr 30)] (y_up (y_up (y_up s 33 1 (.inl (Int32.ofInt 0))) 33 2 (.inl (Int32.ofInt 0))) 33 3 (.inl (Int32.ofInt 0)))
  revert t3 f3 u e1 e2 e3
  generalize y_up (y_up (y_up s 33 1 (.inl (Int32.ofInt 0))) 33 2 (.inl (Int32.ofInt 0))) 33 3 (.inl (Int32.ofInt 0)) = s1
  intro t3 f3 u e1 e2 e3
  refine y_call y_rowNow 1 rfl (fun _ _ _ => rfl) (a := [.inr (.inr 35)]) rfl rfl (fun h hR => y_mayV (o := 33) (sz := 4) rfl hR) (by omega) ⟨rfl, by omega, by omega, by omega⟩ (fun v s3 hQ => ?_)
  obtain ⟨rfl, x, rfl, hx⟩ := hQ
  have hx0 : x.toInt = 24 * ((0 : Nat) : Int) := by
    rw [e1, e2] at hx
    exact hx
  refine y_call y_saveTo34 1 rfl (fun _ _ _ => rfl) (a := [.inr (.inr 30), .inr (.inr 36), .inl x]) rfl rfl (fun h hR => y_mayV (o := 28) (sz := 10) rfl hR) (by omega) ⟨x, 0, rfl, hx0, by omega⟩ (fun v s4 hQ => ?_)
  obtain ⟨rfl, rfl⟩ := hQ x 0 rfl hx0
  have ev : ∀ o k, o ≠ 34 → (y_cp s3 34 (24 * 0) (y_srow s3) 24).1 o k = s3.1 o k := fun o k h => y_cp_ne (by omega)
  refine y_vret rfl ⟨rfl, y_sv34T (by omega) t3, f3.cp (y_kp34 (by omega)), fun o k h1 h2 => (ev o k h2).trans (u o k h1), ⟨?_, ?_, ?_⟩, fun k hk => ?_⟩
  · rw [ev 33 1 (by omega)]; exact e1
  · rw [ev 33 2 (by omega)]; exact e2
  · rw [ev 33 3 (by omega)]; exact e3
  · have e := y_cp_in (s := s3) (o := 34) (b := 24 * 0) (n := 24) (k := k) (f := y_srow s3) hk
    rw [show 24 * 0 + k = k by omega] at e
    have hs := y_so_le k hk
    exact e.trans (u _ _ (by omega))
/-- what restart leaves: V of the class, where now is good and the boxes are -/
theorem y_rs_VC {n : Nat} {s s2 : y_H} (hQ : y_rsQ s none s2) (hnow : y_Rc n (s.1 29) (s.1 30) (s.1 28 1)) (hbox : ∀ b : Nat, b < 3 → y_bit (s.1 0 7) b → y_Rc n (fun k => s.1 35 (24 * b + k)) (fun k => s.1 35 (24 * b + 7 + k)) (s.1 35 (24 * b + 18))) : y_VC n s2.1 := by
  obtain ⟨-, -, -, u, ⟨e1, e2, e3⟩, hr⟩ := hQ
  refine y_VC_sv (O := 0) (U := 0) (row := y_srow s) (y_Rc_eq (fun k _ => u 29 k (by omega) (by omega)) (fun k _ => u 30 k (by omega) (by omega)) (u 28 1 (by omega) (by omega)) hnow) e1 e2 e3 (by omega) (by omega) (fun k hk => ?_) (fun k hk => (y_srow29 hk).trans (u 29 k (by omega) (by omega)).symm) (fun k hk => (y_srow30 hk).trans (u 30 k (by omega) (by omega)).symm) (u 28 1 (by omega) (by omega)).symm (fun j hj => by omega) (fun b hb hbit => ?_)
  · rw [show 24 * ((0 + 0) % 41) + k = k by omega]
    exact hr k hk
  · rw [u 0 7 (by omega) (by omega)] at hbit
    exact y_Rc_eq (fun k _ => u 35 _ (by omega) (by omega)) (fun k _ => u 35 _ (by omega) (by omega)) (u 35 _ (by omega) (by omega)) (hbox b hb hbit)
abbrev y_tbK : List (Nat × Nat) := [(114753, 114753), (114755, 114755), (114758, 114761), (118848, 118854), (122944, 122950), (127040, 127041), (131136, 131137), (135234, 135235)]
def y_tbQ (n : Nat) (s : y_H) (v : Option (q_V Int32)) (s2 : y_H) : Prop := w_T (y_Vn n) g_sh (y_mk g_sh s2) ∧ y_fr g_sh y_tbK s s2 ∧ (v = some (.inl 0) ∨ v = some (.inl 1))
theorem y_takeBack {n : Nat} : y_C g_sh g_ts 98 2 (fun a s => w_T (y_Vn n) g_sh (y_mk g_sh s) ∧ a = [.inr (.inr 35), .inr (.inr 30)]) (fun _ s v s2 => y_tbQ n s v s2) := by
  refine y_C.of (t := g_t98) rfl (by decide) ?_
  rintro d a s hd ⟨hT, rfl⟩
  obtain ⟨hFD, hM, hnow, ⟨o0, o40, u0, r0, ur⟩, hrows, hbox⟩ := y_VT hT
  have hold0 : ∀ j : Nat, (j : Int) ≤ (s.1 33 2).toInt + (s.1 33 3).toInt → y_oR n s.1 (((s.1 33 1).toInt.toNat + j) % 41) := hrows
  refine y_run 2 rfl ?_
  refine y_if rfl (fun h => ?_) (fun h => ?_)
  · have h2 : (s.1 33 2).toInt ≠ 0 := h
    have a2 : (s.1 33 2 - (Int32.ofInt 1)).toInt = (s.1 33 2).toInt - 1 := y_sb (x := s.1 33 2) (y := 1) (by show _ ≤ _ - (1 : Int); omega) (by show _ - (1 : Int) ≤ _; omega)
    have a3 : (s.1 33 3 + (Int32.ofInt 1)).toInt = (s.1 33 3).toInt + 1 := y_add (x := s.1 33 3) (y := 1) (by show _ ≤ _ + (1 : Int); omega) (by show _ + (1 : Int) ≤ _; omega)
    have t1 := y_Tup0 (lo := 0) (hi := 4294967295) (o := 33) (k := 2) (x := s.1 33 2 - (Int32.ofInt 1)) (y_t0 hT) rfl rfl (by omega) (by omega)
    have t2 := y_Tup0 (lo := 0) (hi := 4294967295) (o := 33) (k := 3) (x := s.1 33 3 + (Int32.ofInt 1)) t1 rfl rfl (by omega) (by omega)
    have f2 := ((y_fr.rf (sh := g_sh) (ms := y_tbK) (s := s)).up (o := 33) (k := 2) (v := .inl (s.1 33 2 - (Int32.ofInt 1))) rfl (by decide +kernel)).up (o := 33) (k := 3) (v := .inl (s.1 33 3 + (Int32.ofInt 1))) rfl (by decide +kernel)
    have u : ∀ o k, o ≠ 33 → (y_up (y_up s 33 2 (.inl (s.1 33 2 - (Int32.ofInt 1)))) 33 3 (.inl (s.1 33 3 + (Int32.ofInt 1)))).1 o k = s.1 o k := fun o k h => (y_up_ne (by omega)).trans (y_up_ne (by omega))
    have e1 : ((y_up (y_up s 33 2 (.inl (s.1 33 2 - (Int32.ofInt 1)))) 33 3 (.inl (s.1 33 3 + (Int32.ofInt 1)))).1 33 1).toInt = (s.1 33 1).toInt := rfl
    have e2 : ((y_up (y_up s 33 2 (.inl (s.1 33 2 - (Int32.ofInt 1)))) 33 3 (.inl (s.1 33 3 + (Int32.ofInt 1)))).1 33 2).toInt = (s.1 33 2).toInt - 1 := a2
    have e3 : ((y_up (y_up s 33 2 (.inl (s.1 33 2 - (Int32.ofInt 1)))) 33 3 (.inl (s.1 33 3 + (Int32.ofInt 1)))).1 33 3).toInt = (s.1 33 3).toInt + 1 := a3
    refine y_run 16 rfl ?_
    show y_W g_sh g_ts d g_t98 (y_tbQ n s) 35 [(0, .inr (.inr 35)), (1, .inr (.inr 30))] [.inr (.inr 35), .inr (.inr 36), .inr (.inr 30)] (y_up (y_up s 33 2 (.inl (s.1 33 2 - (Int32.ofInt 1)))) 33 3 (.inl (s.1 33 3 + (Int32.ofInt 1))))
    revert t2 f2 u e1 e2 e3
    generalize y_up (y_up s 33 2 (.inl (s.1 33 2 - (Int32.ofInt 1)))) 33 3 (.inl (s.1 33 3 + (Int32.ofInt 1))) = s1
    intro t2 f2 u e1 e2 e3
    refine y_call y_rowNow 1 rfl (fun _ _ _ => rfl) (a := [.inr (.inr 35)]) rfl rfl (fun h hR => y_mayV (o := 33) (sz := 4) rfl hR) (by omega) ⟨rfl, by omega, by omega, by omega⟩ (fun v s3 hQ => ?_)
    obtain ⟨rfl, x, rfl, hx⟩ := hQ
    generalize hJ : ((s3.1 33 1).toInt.toNat + (s3.1 33 2).toInt.toNat) % 41 = J at hx
    have hJ41 : J < 41 := by omega
    have hJR : y_oR n s.1 J := by
      have := hold0 (s3.1 33 2).toInt.toNat (by omega)
      rwa [show ((s.1 33 1).toInt.toNat + (s3.1 33 2).toInt.toNat) % 41 = J by omega] at this
    refine y_call y_loadFrom34 1 rfl (fun _ _ _ => rfl) (a := [.inr (.inr 30), .inr (.inr 36), .inl x]) rfl rfl (fun h hR => y_mayV (o := 28) (sz := 10) rfl hR) (by omega) ⟨x, J, rfl, hx, hJ41⟩ (fun v s4 hQ => ?_)
    obtain ⟨rfl, rfl⟩ := hQ x J rfl hx
    have lo : ∀ o k, ¬ (28 ≤ o ∧ o ≤ 32) → (y_lod s3 (fun k => s3.1 34 (24 * J + k))).1 o k = s3.1 o k := fun o k h => y_lod_o h
    have li : ∀ m, m < 24 → (y_lod s3 (fun k => s3.1 34 (24 * J + k))).1 (y_so m).1 (y_so m).2 = s.1 34 (J * 24 + m) := fun m hm => (y_lod_in m hm).trans ((u 34 _ (by omega)).trans (by rw [Nat.mul_comm]))
    have l29 : ∀ k, k < 7 → (y_lod s3 (fun k => s3.1 34 (24 * J + k))).1 29 k = s.1 34 (J * 24 + k) := fun k hk => by
      have := li k (by omega)
      rwa [show y_so k = (29, k) from if_pos hk] at this
    have l30 : ∀ k, k < 7 → (y_lod s3 (fun k => s3.1 34 (24 * J + k))).1 30 k = s.1 34 (J * 24 + 7 + k) := fun k hk => by
      have := li (7 + k) (by omega)
      rw [show y_so (7 + k) = (30, k) by unfold y_so; rw [if_neg (by omega), if_pos (by omega), show 7 + k - 7 = k by omega]] at this
      rw [Nat.add_assoc]
      exact this
    have l18 : (y_lod s3 (fun k => s3.1 34 (24 * J + k))).1 28 1 = s.1 34 (J * 24 + 18) := li 18 (by omega)
    refine y_run 1 rfl ?_
    refine y_bret rfl (Or.inr rfl) ⟨y_TV (y_lod34T hJ41 t2) ⟨?_, ?_, ?_, ?_, ?_, ?_⟩, f2.tr (y_lod_fr.mono (by decide +kernel)), Or.inr rfl⟩
    · exact y_FD_eq2 ((lo 65 18 (by omega)).trans (u 65 18 (by omega))) (fun i _ => (lo 70 i (by omega)).trans (u 70 i (by omega))) (fun i _ => (lo 71 i (by omega)).trans (u 71 i (by omega))) hFD
    · exact y_VM_eq2 (fun o k ho => (lo o k (by omega)).trans (u o k (by omega))) hM
    · exact y_Rc_eq l29 l30 l18 hJR
    · rw [lo 33 1 (by omega), lo 33 2 (by omega), lo 33 3 (by omega)]
      omega
    · intro j hj
      rw [lo 33 2 (by omega), lo 33 3 (by omega)] at hj
      rw [lo 33 1 (by omega)]
      have := hold0 j (by omega)
      rw [← e1] at this
      exact y_oR_eq (fun k _ => (lo 34 _ (by omega)).trans (u 34 _ (by omega))) this
    · intro b hb hbit
      rw [(lo 0 7 (by omega)).trans (u 0 7 (by omega))] at hbit
      exact y_Rc_eq (fun k _ => (lo 35 _ (by omega)).trans (u 35 _ (by omega))) (fun k _ => (lo 35 _ (by omega)).trans (u 35 _ (by omega))) ((lo 35 _ (by omega)).trans (u 35 _ (by omega))) (hbox b hb hbit)
  · refine y_run 1 rfl ?_
    exact y_bret rfl (Or.inl rfl) ⟨hT, y_fr.rf, Or.inl rfl⟩
theorem y_takeAgain {n : Nat} : y_C g_sh g_ts 97 2 (fun a s => w_T (y_Vn n) g_sh (y_mk g_sh s) ∧ a = [.inr (.inr 35), .inr (.inr 30)]) (fun _ s v s2 => y_tbQ n s v s2) := by
  refine y_C.of (t := g_t97) rfl (by decide) ?_
  rintro d a s hd ⟨hT, rfl⟩
  obtain ⟨hFD, hM, hnow, ⟨o0, o40, u0, r0, ur⟩, hrows, hbox⟩ := y_VT hT
  have hold0 : ∀ j : Nat, (j : Int) ≤ (s.1 33 2).toInt + (s.1 33 3).toInt → y_oR n s.1 (((s.1 33 1).toInt.toNat + j) % 41) := hrows
  refine y_run 2 rfl ?_
  refine y_if rfl (fun h => ?_) (fun h => ?_)
  · have h2 : (s.1 33 3).toInt ≠ 0 := h
    have a2 : (s.1 33 2 + (Int32.ofInt 1)).toInt = (s.1 33 2).toInt + 1 := y_add (x := s.1 33 2) (y := 1) (by show _ ≤ _ + (1 : Int); omega) (by show _ + (1 : Int) ≤ _; omega)
    have a3 : (s.1 33 3 - (Int32.ofInt 1)).toInt = (s.1 33 3).toInt - 1 := y_sb (x := s.1 33 3) (y := 1) (by show _ ≤ _ - (1 : Int); omega) (by show _ - (1 : Int) ≤ _; omega)
    have t1 := y_Tup0 (lo := 0) (hi := 4294967295) (o := 33) (k := 2) (x := s.1 33 2 + (Int32.ofInt 1)) (y_t0 hT) rfl rfl (by omega) (by omega)
    have t2 := y_Tup0 (lo := 0) (hi := 4294967295) (o := 33) (k := 3) (x := s.1 33 3 - (Int32.ofInt 1)) t1 rfl rfl (by omega) (by omega)
    have f2 := ((y_fr.rf (sh := g_sh) (ms := y_tbK) (s := s)).up (o := 33) (k := 2) (v := .inl (s.1 33 2 + (Int32.ofInt 1))) rfl (by decide +kernel)).up (o := 33) (k := 3) (v := .inl (s.1 33 3 - (Int32.ofInt 1))) rfl (by decide +kernel)
    have u : ∀ o k, o ≠ 33 → (y_up (y_up s 33 2 (.inl (s.1 33 2 + (Int32.ofInt 1)))) 33 3 (.inl (s.1 33 3 - (Int32.ofInt 1)))).1 o k = s.1 o k := fun o k h => (y_up_ne (by omega)).trans (y_up_ne (by omega))
    have e1 : ((y_up (y_up s 33 2 (.inl (s.1 33 2 + (Int32.ofInt 1)))) 33 3 (.inl (s.1 33 3 - (Int32.ofInt 1)))).1 33 1).toInt = (s.1 33 1).toInt := rfl
    have e2 : ((y_up (y_up s 33 2 (.inl (s.1 33 2 + (Int32.ofInt 1)))) 33 3 (.inl (s.1 33 3 - (Int32.ofInt 1)))).1 33 2).toInt = (s.1 33 2).toInt + 1 := a2
    have e3 : ((y_up (y_up s 33 2 (.inl (s.1 33 2 + (Int32.ofInt 1)))) 33 3 (.inl (s.1 33 3 - (Int32.ofInt 1)))).1 33 3).toInt = (s.1 33 3).toInt - 1 := a3
    refine y_run 16 rfl ?_
    show y_W g_sh g_ts d g_t97 (y_tbQ n s) 35 [(0, .inr (.inr 35)), (1, .inr (.inr 30))] [.inr (.inr 35), .inr (.inr 36), .inr (.inr 30)] (y_up (y_up s 33 2 (.inl (s.1 33 2 + (Int32.ofInt 1)))) 33 3 (.inl (s.1 33 3 - (Int32.ofInt 1))))
    revert t2 f2 u e1 e2 e3
    generalize y_up (y_up s 33 2 (.inl (s.1 33 2 + (Int32.ofInt 1)))) 33 3 (.inl (s.1 33 3 - (Int32.ofInt 1))) = s1
    intro t2 f2 u e1 e2 e3
    refine y_call y_rowNow 1 rfl (fun _ _ _ => rfl) (a := [.inr (.inr 35)]) rfl rfl (fun h hR => y_mayV (o := 33) (sz := 4) rfl hR) (by omega) ⟨rfl, by omega, by omega, by omega⟩ (fun v s3 hQ => ?_)
    obtain ⟨rfl, x, rfl, hx⟩ := hQ
    generalize hJ : ((s3.1 33 1).toInt.toNat + (s3.1 33 2).toInt.toNat) % 41 = J at hx
    have hJ41 : J < 41 := by omega
    have hJR : y_oR n s.1 J := by
      have := hold0 (s3.1 33 2).toInt.toNat (by omega)
      rwa [show ((s.1 33 1).toInt.toNat + (s3.1 33 2).toInt.toNat) % 41 = J by omega] at this
    refine y_call y_loadFrom34 1 rfl (fun _ _ _ => rfl) (a := [.inr (.inr 30), .inr (.inr 36), .inl x]) rfl rfl (fun h hR => y_mayV (o := 28) (sz := 10) rfl hR) (by omega) ⟨x, J, rfl, hx, hJ41⟩ (fun v s4 hQ => ?_)
    obtain ⟨rfl, rfl⟩ := hQ x J rfl hx
    have lo : ∀ o k, ¬ (28 ≤ o ∧ o ≤ 32) → (y_lod s3 (fun k => s3.1 34 (24 * J + k))).1 o k = s3.1 o k := fun o k h => y_lod_o h
    have li : ∀ m, m < 24 → (y_lod s3 (fun k => s3.1 34 (24 * J + k))).1 (y_so m).1 (y_so m).2 = s.1 34 (J * 24 + m) := fun m hm => (y_lod_in m hm).trans ((u 34 _ (by omega)).trans (by rw [Nat.mul_comm]))
    have l29 : ∀ k, k < 7 → (y_lod s3 (fun k => s3.1 34 (24 * J + k))).1 29 k = s.1 34 (J * 24 + k) := fun k hk => by
      have := li k (by omega)
      rwa [show y_so k = (29, k) from if_pos hk] at this
    have l30 : ∀ k, k < 7 → (y_lod s3 (fun k => s3.1 34 (24 * J + k))).1 30 k = s.1 34 (J * 24 + 7 + k) := fun k hk => by
      have := li (7 + k) (by omega)
      rw [show y_so (7 + k) = (30, k) by unfold y_so; rw [if_neg (by omega), if_pos (by omega), show 7 + k - 7 = k by omega]] at this
      rw [Nat.add_assoc]
      exact this
    have l18 : (y_lod s3 (fun k => s3.1 34 (24 * J + k))).1 28 1 = s.1 34 (J * 24 + 18) := li 18 (by omega)
    refine y_run 1 rfl ?_
    refine y_bret rfl (Or.inr rfl) ⟨y_TV (y_lod34T hJ41 t2) ⟨?_, ?_, ?_, ?_, ?_, ?_⟩, f2.tr (y_lod_fr.mono (by decide +kernel)), Or.inr rfl⟩
    · exact y_FD_eq2 ((lo 65 18 (by omega)).trans (u 65 18 (by omega))) (fun i _ => (lo 70 i (by omega)).trans (u 70 i (by omega))) (fun i _ => (lo 71 i (by omega)).trans (u 71 i (by omega))) hFD
    · exact y_VM_eq2 (fun o k ho => (lo o k (by omega)).trans (u o k (by omega))) hM
    · exact y_Rc_eq l29 l30 l18 hJR
    · rw [lo 33 1 (by omega), lo 33 2 (by omega), lo 33 3 (by omega)]
      omega
    · intro j hj
      rw [lo 33 2 (by omega), lo 33 3 (by omega)] at hj
      rw [lo 33 1 (by omega)]
      have := hold0 j (by omega)
      rw [← e1] at this
      exact y_oR_eq (fun k _ => (lo 34 _ (by omega)).trans (u 34 _ (by omega))) this
    · intro b hb hbit
      rw [(lo 0 7 (by omega)).trans (u 0 7 (by omega))] at hbit
      exact y_Rc_eq (fun k _ => (lo 35 _ (by omega)).trans (u 35 _ (by omega))) (fun k _ => (lo 35 _ (by omega)).trans (u 35 _ (by omega))) ((lo 35 _ (by omega)).trans (u 35 _ (by omega))) (hbox b hb hbit)
  · refine y_run 1 rfl ?_
    exact y_bret rfl (Or.inl rfl) ⟨hT, y_fr.rf, Or.inl rfl⟩
theorem y_keepE {n : Nat} : w_Ent (y_Vn n) g_sh g_ts (94, [w_r 35, w_r 30], [], [(135233, 135235), (139328, 140311)], [([], none, [])], 20) := by
  refine y_C.toE g_shok g_pkok rfl ?_
  refine y_C.weak (y_keepC (n := n)) (by decide) ?_ ?_
  · rintro a s ⟨hT, ha, -⟩
    rcases a with _ | ⟨v1, _ | ⟨v2, _ | ⟨v3, a⟩⟩⟩
    · exact ha.elim
    · exact ha.2.elim
    · obtain ⟨⟨n1, rfl, h1⟩, ⟨n2, rfl, h2⟩, -⟩ := ha
      have e1 : n1 = 35 := by simpa using h1
      have e2 : n2 = 30 := by simpa using h2
      subst e1 e2
      exact ⟨hT, rfl⟩
    · exact ha.2.2.elim
  · rintro a s v s2 - ⟨rfl, hT2, hf2⟩
    exact ⟨hT2, hf2, _, List.mem_cons_self, (fun z hz => by cases hz), True.intro, (fun q hq => by cases hq)⟩
theorem y_takeBackE {n : Nat} : w_Ent (y_Vn n) g_sh g_ts (98, [w_r 35, w_r 30], [], [(114753, 114753), (114755, 114755), (114758, 114761), (118848, 118854), (122944, 122950), (127040, 127041), (131136, 131137), (135234, 135235)], [([], some (w_n 0 0 0), []), ([], some (w_n 1 1 0), [])], 20) := by
  refine y_C.toE g_shok g_pkok rfl ?_
  refine y_C.weak (y_takeBack (n := n)) (by decide) ?_ ?_
  · rintro a s ⟨hT, ha, -⟩
    rcases a with _ | ⟨v1, _ | ⟨v2, _ | ⟨v3, a⟩⟩⟩
    · exact ha.elim
    · exact ha.2.elim
    · obtain ⟨⟨n1, rfl, h1⟩, ⟨n2, rfl, h2⟩, -⟩ := ha
      have e1 : n1 = 35 := by simpa using h1
      have e2 : n2 = 30 := by simpa using h2
      subst e1 e2
      exact ⟨hT, rfl⟩
    · exact ha.2.2.elim
  · rintro a s v s2 - ⟨hT2, hf2, rfl | rfl⟩
    · exact ⟨hT2, hf2, _, List.mem_cons_self, (fun z hz => by cases hz), y_iv (by decide) (by decide), (fun q hq => by cases hq)⟩
    · exact ⟨hT2, hf2, _, List.mem_cons_of_mem _ List.mem_cons_self, (fun z hz => by cases hz), y_iv (by decide) (by decide), (fun q hq => by cases hq)⟩
theorem y_takeAgainE {n : Nat} : w_Ent (y_Vn n) g_sh g_ts (97, [w_r 35, w_r 30], [], [(114753, 114753), (114755, 114755), (114758, 114761), (118848, 118854), (122944, 122950), (127040, 127041), (131136, 131137), (135234, 135235)], [([], some (w_n 0 0 0), []), ([], some (w_n 1 1 0), [])], 20) := by
  refine y_C.toE g_shok g_pkok rfl ?_
  refine y_C.weak (y_takeAgain (n := n)) (by decide) ?_ ?_
  · rintro a s ⟨hT, ha, -⟩
    rcases a with _ | ⟨v1, _ | ⟨v2, _ | ⟨v3, a⟩⟩⟩
    · exact ha.elim
    · exact ha.2.elim
    · obtain ⟨⟨n1, rfl, h1⟩, ⟨n2, rfl, h2⟩, -⟩ := ha
      have e1 : n1 = 35 := by simpa using h1
      have e2 : n2 = 30 := by simpa using h2
      subst e1 e2
      exact ⟨hT, rfl⟩
    · exact ha.2.2.elim
  · rintro a s v s2 - ⟨hT2, hf2, rfl | rfl⟩
    · exact ⟨hT2, hf2, _, List.mem_cons_self, (fun z hz => by cases hz), y_iv (by decide) (by decide), (fun q hq => by cases hq)⟩
    · exact ⟨hT2, hf2, _, List.mem_cons_of_mem _ List.mem_cons_self, (fun z hz => by cases hz), y_iv (by decide) (by decide), (fun q hq => by cases hq)⟩
