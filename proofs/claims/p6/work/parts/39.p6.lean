/-! by hand, of the class: isPair, inQueue, placeOf, image, back -/
/-- n is the number of pairs that were told -/
def y_Td (n : Nat) (s : y_H) : Prop := (s.2.2 0 2 = 5 ∧ (s.1 3 4).toInt = (n : Int)) ∨ (s.2.2 0 2 = 17 ∧ (s.1 15 4).toInt = (n : Int))
theorem y_Td7 {V : w_V} {n : Nat} {s : y_H} (hT : w_T V g_sh (y_mk g_sh s)) (hD : y_Td n s) : n ≤ 7 := by
  have r1 := y_rng (lo := 2147483648) (hi := 2147483655) (g := 0) hT (o := 3) (k := 4) rfl rfl
  have r2 := y_rng (lo := 2147483648) (hi := 2147483655) (g := 0) hT (o := 15) (k := 4) rfl rfl
  rcases hD with ⟨-, e⟩ | ⟨-, e⟩
  · omega
  · omega
def y_ipQ (n : Nat) (x : Int32) (v : Option (q_V Int32)) : Prop := (v = some (.inl 1) ∧ 0 ≤ x.toInt ∧ x.toInt < (n : Int)) ∨ (v = some (.inl 0) ∧ ¬ (0 ≤ x.toInt ∧ x.toInt < (n : Int)))
def y_ipR (n : Nat) (x : Int32) (s : y_H) (v : Option (q_V Int32)) (s2 : y_H) : Prop := s2 = s ∧ y_ipQ n x v
theorem y_isPairC {n : Nat} {x : Int32} : y_C g_sh g_ts 34 1 (fun a s => y_Td n s ∧ a = [.inr (.inr 2), .inl x]) (fun _ s v s2 => y_ipR n x s v s2) := by
  refine y_C.of (t := g_t34) rfl (by decide) ?_
  rintro d a s hd ⟨hD, rfl⟩
  have no : ∀ ls, ¬ (0 ≤ x.toInt ∧ x.toInt < (n : Int)) → y_W g_sh g_ts d g_t34 (y_ipR n x s) 19 ls [] s := by
    intro ls hn
    refine y_run 1 rfl ?_
    exact y_bret rfl (Or.inl rfl) ⟨rfl, Or.inr ⟨rfl, hn⟩⟩
  refine y_run 1 rfl ?_
  refine y_if rfl (fun h => no _ (by have h2 : x.toInt < 0 := h; omega)) (fun h => ?_)
  have h2 : ¬ x.toInt < 0 := h
  refine y_run 3 rfl ?_
  show y_W g_sh g_ts d g_t34 (y_ipR n x s) 9 [(0, .inr (.inr 2)), (1, .inl x)] [.inr (.inr (s.2.2 0 2)), .inl x] s
  rcases hD with ⟨e, hn⟩ | ⟨e, hn⟩
  · rw [e]
    refine y_run 1 rfl ?_
    refine y_ic rfl (fun h => no _ (by have h3 : (s.1 3 4).toInt ≤ x.toInt := h; omega)) (fun h => ?_)
    have h3 : ¬ (s.1 3 4).toInt ≤ x.toInt := h
    refine y_run 2 rfl ?_
    exact y_bret rfl (Or.inr rfl) ⟨rfl, Or.inl ⟨rfl, by omega, by omega⟩⟩
  · rw [e]
    refine y_run 1 rfl ?_
    refine y_ic rfl (fun h => no _ (by have h3 : (s.1 15 4).toInt ≤ x.toInt := h; omega)) (fun h => ?_)
    have h3 : ¬ (s.1 15 4).toInt ≤ x.toInt := h
    refine y_run 2 rfl ?_
    exact y_bret rfl (Or.inr rfl) ⟨rfl, Or.inl ⟨rfl, by omega, by omega⟩⟩
def y_inQ2 (n : Nat) (x : Int32) (s : y_H) (v : Option (q_V Int32)) (s2 : y_H) : Prop := s2 = s ∧ ((v = some (.inl 1) ∧ 0 ≤ x.toInt ∧ x.toInt < (n : Int) ∧ (s.1 30 x.toInt.toNat).toInt = 0) ∨ v = some (.inl 0))
theorem y_inQueueC {V : w_V} {n : Nat} {x : Int32} : y_C g_sh g_ts 30 2 (fun a s => w_T V g_sh (y_mk g_sh s) ∧ y_Td n s ∧ a = [.inr (.inr 2), .inl x]) (fun _ s v s2 => y_inQ2 n x s v s2) := by
  refine y_C.of (t := g_t30) rfl (by decide) ?_
  rintro d a s hd ⟨hT, hD, rfl⟩
  have hn7 := y_Td7 hT hD
  have no : ∀ ls, y_W g_sh g_ts d g_t30 (y_inQ2 n x s) 24 ls [] s := by
    intro ls
    refine y_run 1 rfl ?_
    exact y_bret rfl (Or.inl rfl) ⟨rfl, Or.inr rfl⟩
  refine y_run 2 rfl ?_
  refine y_call (y_isPairC (n := n) (x := x)) 1 rfl (fun _ _ _ => rfl) (a := [.inr (.inr 2), .inl x]) rfl rfl (fun h hR => y_mayV (o := 0) (sz := 15) rfl hR) (by omega) ⟨hD, rfl⟩ (fun v s2 hQ => ?_)
  obtain ⟨rfl, ⟨rfl, x0, x1⟩ | ⟨rfl, -⟩⟩ := hQ
  · refine y_if rfl (fun h => absurd (show (1 : Int) = 0 from h) (by omega)) (fun _ => ?_)
    refine y_run 4 rfl ?_
    refine y_ald (o := 30) (sz := 7) (j := x.toInt.toNat) rfl rfl (by omega) (by omega) y_k30 ?_
    refine y_if rfl (fun _ => no _) (fun h => ?_)
    have h0 : (s2.1 30 x.toInt.toNat).toInt = 0 := Classical.byContradiction fun q => h q
    refine y_run 2 rfl ?_
    exact y_bret rfl (Or.inr rfl) ⟨rfl, Or.inl ⟨rfl, x0, x1, h0⟩⟩
  · exact y_if rfl (fun _ => no _) (fun h => absurd rfl h)
def y_poR (x : Int32) (s : y_H) (v : Option (q_V Int32)) (s2 : y_H) : Prop := s2 = s ∧ ((v = some (.inl (Int32.ofInt (-1))) ∧ ∀ i : Nat, (i : Int) < (s.1 28 1).toInt → s.1 29 i ≠ x) ∨ ∃ (z : Int32) (X : Nat), v = some (.inl z) ∧ z.toInt = (X : Int) ∧ (X : Int) < (s.1 28 1).toInt ∧ s.1 29 X = x)
theorem y_poC_loop {d : Nat} {s : y_H} {x : Int32} (h7 : (s.1 28 1).toInt ≤ 7) : ∀ (c : Nat) (i : Int32) (I : Nat), i.toInt = (I : Int) → (s.1 28 1).toInt - (I : Int) ≤ (c : Int) → (∀ j : Nat, j < I → s.1 29 j ≠ x) → y_W g_sh g_ts d g_t147 (y_poR x s) 2 [(0, .inr (.inr 30)), (1, .inl x), (2, .inl i)] [] s := by
  intro c
  induction c with
  | zero =>
    intro i I hi hc hno
    refine y_run 3 rfl ?_
    refine y_ic rfl (fun h => ?_) (fun h => ?_)
    · have h2 : (s.1 28 1).toInt ≤ i.toInt := h
      refine y_run 1 rfl ?_
      exact y_iret rfl ⟨rfl, Or.inl ⟨rfl, fun j hj => hno j (by omega)⟩⟩
    · have h2 : ¬ (s.1 28 1).toInt ≤ i.toInt := h
      omega
  | succ c ih =>
    intro i I hi hc hno
    refine y_run 3 rfl ?_
    refine y_ic rfl (fun h => ?_) (fun h => ?_)
    · have h2 : (s.1 28 1).toInt ≤ i.toInt := h
      refine y_run 1 rfl ?_
      exact y_iret rfl ⟨rfl, Or.inl ⟨rfl, fun j hj => hno j (by omega)⟩⟩
    have h2 : ¬ (s.1 28 1).toInt ≤ i.toInt := h
    have hi1 : (i + (Int32.ofInt 1)).toInt = i.toInt + 1 := y_add (x := i) (y := 1) (by show _ ≤ _ + (1 : Int); omega) (by show _ + (1 : Int) ≤ _; omega)
    refine y_run 3 rfl ?_
    refine y_ald (o := 29) (sz := 7) (j := I) rfl rfl hi (by omega) y_k29 ?_
    refine y_run 1 rfl ?_
    refine y_ic rfl (fun hne => ?_) (fun he => ?_)
    · have hne2 : (s.1 29 I).toInt ≠ x.toInt := hne
      refine y_run 2 rfl ?_
      refine y_sub (ls1 := [(0, .inr (.inr 30)), (1, .inl x), (2, .inl ((i + (Int32.ofInt 1))))]) (show ([0, 1, 2] : List Nat).Nodup by decide) (y_R_cons rfl (y_R_cons rfl (y_R_cons rfl y_R_nil))) ?_
      refine ih (i + (Int32.ofInt 1)) (I + 1) (by rw [hi1, hi]; omega) (by omega) (fun j hj => ?_)
      by_cases e : j = I
      · subst e
        intro e
        exact hne2 (by rw [e])
      · exact hno j (by omega)
    · have he2 : (s.1 29 I).toInt = x.toInt := Classical.byContradiction fun q => he q
      refine y_run 1 rfl ?_
      exact y_iret rfl ⟨rfl, Or.inr ⟨i, I, rfl, hi, by omega, Int32.toInt_inj.mp he2⟩⟩
theorem y_placeOfC {V : w_V} {x : Int32} : y_C g_sh g_ts 147 1 (fun a s => w_T V g_sh (y_mk g_sh s) ∧ a = [.inr (.inr 30), .inl x]) (fun _ s v s2 => y_poR x s v s2) := by
  refine y_C.of (t := g_t147) rfl (by decide) ?_
  rintro d a s hd ⟨hT, rfl⟩
  have hr := y_rng (lo := 2147483648) (hi := 2147483655) (g := 0) hT (o := 28) (k := 1) rfl rfl
  refine y_run 2 rfl ?_
  refine y_sub (ls1 := [(0, .inr (.inr 30)), (1, .inl x), (2, .inl ((Int32.ofInt 0)))]) (show ([0, 1, 2] : List Nat).Nodup by decide) (y_R_cons rfl (y_R_cons rfl (y_R_cons rfl y_R_nil))) ?_
  exact y_poC_loop (by omega) 7 (Int32.ofInt 0) 0 rfl (by omega) (fun j hj => by omega)
/-- who queues has a place -/
theorem y_Rc_in {n : Nat} {s : y_H} {x : Int32} (h : y_Rc n (s.1 29) (s.1 30) (s.1 28 1)) (h0 : 0 ≤ x.toInt) (h1 : x.toInt < (n : Int)) (hn : n ≤ 7) (hs : (s.1 30 x.toInt.toNat).toInt = 0) : ∃ X : Nat, (X : Int) < (s.1 28 1).toInt ∧ s.1 29 X = x := by
  obtain ⟨i, -, g1, g2⟩ := h x.toInt.toNat (by omega) (by omega) hs
  exact ⟨i, g1, Int32.toInt_inj.mp (by omega)⟩
/-! boxes -/
theorem y_bxo : ∀ S, S < 8 → ∀ X, X < 3 → (0 ≤ (Int32.ofNat S ||| (Int32.ofInt 1 <<< (Int32.ofNat X &&& 31))).toInt ∧ (Int32.ofNat S ||| (Int32.ofInt 1 <<< (Int32.ofNat X &&& 31))).toInt ≤ 7) ∧ ∀ b, b < 3 → (Int32.ofNat S ||| (Int32.ofInt 1 <<< (Int32.ofNat X &&& 31))).toInt.toNat / 2 ^ b % 2 = 1 → b = X ∨ S / 2 ^ b % 2 = 1 := by decide +kernel
theorem y_bxh : ∀ S, S < 8 → ∀ X, X < 3 → (((Int32.ofNat S >>> (Int32.ofNat X &&& 31)) &&& Int32.ofInt 1).toInt ≠ 0) → S / 2 ^ X % 2 = 1 := by decide +kernel
abbrev y_bxK : List (Nat × Nat) := [(71, 71), (143424, 143495)]
theorem y_im35 {J : Nat} (hJ : J < 3) : w_inr y_bxK (w_key 35 (24 * J)) (w_key 35 (24 * J + 24 - 1)) = true := by
  have : ∀ J, J < 3 → w_inr y_bxK (w_key 35 (24 * J)) (w_key 35 (24 * J + 24 - 1)) = true := by decide +kernel
  exact this J hJ
theorem y_imageC {n : Nat} : y_C g_sh g_ts 29 2 (fun a s => w_T (y_Vn n) g_sh (y_mk g_sh s) ∧ ∃ x : Int32, a = [.inr (.inr 2), .inl x]) (fun _ s v s2 => y_pubQ n y_bxK s v s2) := by
  refine y_C.of (t := g_t29) rfl (by decide) ?_
  rintro d a s hd ⟨hT, x, rfl⟩
  obtain ⟨hFD, hM, hnow, hus, hrows, hbox⟩ := y_VT hT
  have no : ∀ ls, y_W g_sh g_ts d g_t29 (y_pubQ n y_bxK s) 9 ls [] s := by
    intro ls
    refine y_run 1 rfl ?_
    exact y_iret rfl ⟨hT, y_fr.rf, _, rfl⟩
  refine y_run 1 rfl ?_
  refine y_if rfl (fun _ => no _) (fun h => ?_)
  have h2 : ¬ x.toInt < 0 := h
  refine y_run 2 rfl ?_
  refine y_ic rfl (fun h => ?_) (fun _ => no _)
  have h3 : x.toInt < 3 := h
  obtain ⟨X, hx⟩ : ∃ X : Nat, x.toInt = (X : Int) := ⟨x.toInt.toNat, by omega⟩
  have hX : X < 3 := by omega
  have em : (x * (Int8.ofInt 24).toInt32).toInt = x.toInt * 24 := y_ml (x := x) (y := (Int8.ofInt 24).toInt32) (by show _ ≤ _ * (24 : Int); omega) (by show _ * (24 : Int) ≤ _; omega)
  have hz : (x * (Int8.ofInt 24).toInt32).toInt = 24 * (X : Int) := by omega
  refine y_run 7 rfl ?_
  refine y_call y_saveTo35 1 rfl (fun _ _ _ => rfl) (a := [.inr (.inr 30), .inr (.inr 37), .inl ((x * (Int8.ofInt 24).toInt32))]) rfl rfl (fun h hR => y_mayV (o := 28) (sz := 10) rfl hR) (by omega) ⟨_, X, rfl, hz, hX⟩ (fun v s4 hQ => ?_)
  obtain ⟨rfl, rfl⟩ := hQ _ X rfl hz
  have ev : ∀ o k, o ≠ 35 → (y_cp s 35 (24 * X) (y_srow s) 24).1 o k = s.1 o k := fun o k h => y_cp_ne (by omega)
  have eb : ∀ k, k < 24 → (y_cp s 35 (24 * X) (y_srow s) 24).1 35 (24 * X + k) = y_srow s k := fun k hk => y_cp_in hk
  have en : ∀ k, ¬ (24 * X ≤ k ∧ k < 24 * X + 24) → (y_cp s 35 (24 * X) (y_srow s) 24).1 35 k = s.1 35 k := fun k hk => y_cp_ne (by omega)
  have t1 := y_sv35T hX (y_t0 hT)
  have f1 := (y_fr.rf (sh := g_sh) (ms := y_bxK) (s := s)).cp (o := 35) (b := 24 * X) (n := 24) (f := y_srow s) (y_im35 hX)
  revert ev eb en t1 f1
  generalize y_cp s 35 (24 * X) (y_srow s) 24 = s4
  intro ev eb en t1 f1
  have r7 := y_rng (lo := 2147483648) (hi := 2147483655) (g := 0) hT (o := 0) (k := 7) rfl rfl
  obtain ⟨S, hS⟩ : ∃ S : Nat, (s.1 0 7).toInt = (S : Int) := ⟨(s.1 0 7).toInt.toNat, by omega⟩
  have e7 : s4.1 0 7 = Int32.ofNat S := (ev 0 7 (by omega)).trans (y_toN hS (by omega))
  have ex : x = Int32.ofNat X := y_toN hx (by omega)
  obtain ⟨⟨w0, w7⟩, wb⟩ := y_bxo S (by omega) X hX
  rw [← e7, ← ex] at w0 w7 wb
  have t2 := y_Tup0 (lo := 2147483648) (hi := 2147483655) (o := 0) (k := 7) (x := s4.1 0 7 ||| (Int32.ofInt 1 <<< (x &&& 31))) t1 rfl rfl (by omega) (by omega)
  have f2 := f1.up (o := 0) (k := 7) (v := .inl (s4.1 0 7 ||| (Int32.ofInt 1 <<< (x &&& 31)))) rfl (by decide +kernel)
  have u5 : ∀ o k, ¬ (o = 0 ∧ k = 7) → (y_up s4 0 7 (.inl (s4.1 0 7 ||| (Int32.ofInt 1 <<< (x &&& 31))))).1 o k = s4.1 o k := fun o k h => y_up_ne h
  refine y_run 11 rfl ?_
  refine y_iret rfl ⟨y_TV t2 ⟨?_, ?_, ?_, ?_, ?_, ?_⟩, f2, _, rfl⟩
  · exact y_FD_eq2 ((u5 65 18 (by omega)).trans (ev 65 18 (by omega))) (fun i _ => (u5 70 i (by omega)).trans (ev 70 i (by omega))) (fun i _ => (u5 71 i (by omega)).trans (ev 71 i (by omega))) hFD
  · exact y_VM_eq2 (fun o k ho => (u5 o k (by omega)).trans (ev o k (by omega))) hM
  · exact y_Rc_eq (fun k _ => (u5 29 k (by omega)).trans (ev 29 k (by omega))) (fun k _ => (u5 30 k (by omega)).trans (ev 30 k (by omega))) ((u5 28 1 (by omega)).trans (ev 28 1 (by omega))) hnow
  · rw [u5 33 1 (by omega), u5 33 2 (by omega), u5 33 3 (by omega), ev 33 1 (by omega), ev 33 2 (by omega), ev 33 3 (by omega)]
    exact hus
  · intro j hj
    rw [u5 33 2 (by omega), u5 33 3 (by omega), ev 33 2 (by omega), ev 33 3 (by omega)] at hj
    rw [u5 33 1 (by omega), ev 33 1 (by omega)]
    exact y_Rc_eq (fun k _ => (u5 34 _ (by omega)).trans (ev 34 _ (by omega))) (fun k _ => (u5 34 _ (by omega)).trans (ev 34 _ (by omega))) ((u5 34 _ (by omega)).trans (ev 34 _ (by omega))) (hrows j hj)
  · intro b hb hbit
    have hbit2 : (s4.1 0 7 ||| (Int32.ofInt 1 <<< (x &&& 31))).toInt.toNat / 2 ^ b % 2 = 1 := by
      have h4 := hbit
      unfold y_bit at h4
      rwa [y_up_self] at h4
    by_cases e : b = X
    · subst e
      refine y_Rc_eq (fun k hk => (u5 35 _ (by omega)).trans ((eb k (by omega)).trans (y_srow29 hk))) (fun k hk => (u5 35 _ (by omega)).trans ?_) ((u5 35 _ (by omega)).trans (eb 18 (by omega))) hnow
      rw [Nat.add_assoc]
      exact (eb (7 + k) (by omega)).trans (y_srow30 hk)
    · have h5 := (wb b hb hbit2).resolve_left e
      have h6 : y_bit (s.1 0 7) b := by
        unfold y_bit
        rw [hS]
        exact h5
      refine y_Rc_eq (fun k hk => (u5 35 _ (by omega)).trans (en _ ?_)) (fun k hk => (u5 35 _ (by omega)).trans (en _ ?_)) ((u5 35 _ (by omega)).trans (en _ ?_)) (hbox b hb h6)
      · omega
      · omega
      · omega
def y_hoQ (x k : Int32) (s : y_H) (v : Option (q_V Int32)) (s2 : y_H) : Prop := s2 = s ∧ ((v = some (.inl 1) ∧ ((x >>> (k &&& 31)) &&& Int32.ofInt 1).toInt ≠ 0) ∨ (v = some (.inl 0) ∧ ((x >>> (k &&& 31)) &&& Int32.ofInt 1).toInt = 0))
theorem y_holdsC {x k : Int32} : y_C g_sh g_ts 28 1 (fun a _ => a = [.inl x, .inl k]) (fun _ s v s2 => y_hoQ x k s v s2) := by
  refine y_C.of (t := g_t28) rfl (by decide) ?_
  rintro d a s hd rfl
  refine y_run 5 rfl ?_
  refine y_if rfl (fun h => ?_) (fun h => ?_)
  · refine y_run 1 rfl ?_
    exact y_bret rfl (Or.inl rfl) ⟨rfl, Or.inr ⟨rfl, h⟩⟩
  · refine y_run 2 rfl ?_
    exact y_bret rfl (Or.inr rfl) ⟨rfl, Or.inl ⟨rfl, h⟩⟩
abbrev y_bkK : List (Nat × Nat) := [(114753, 114753), (114755, 114755), (114758, 114761), (118848, 118854), (122944, 122950), (127040, 127041), (131136, 131137), (135233, 135235), (139328, 140311)]
theorem y_backC {n : Nat} : y_C g_sh g_ts 7 3 (fun a s => w_T (y_Vn n) g_sh (y_mk g_sh s) ∧ ∃ x : Int32, a = [.inr (.inr 2), .inl x]) (fun _ s v s2 => y_pubQ n y_bkK s v s2) := by
  refine y_C.of (t := g_t7) rfl (by decide) ?_
  rintro d a s hd ⟨hT, x, rfl⟩
  obtain ⟨hFD, hM, hnow, hus, hrows, hbox⟩ := y_VT hT
  have no : ∀ ls, y_W g_sh g_ts d g_t7 (y_pubQ n y_bkK s) 20 ls [] s := by
    intro ls
    refine y_run 1 rfl ?_
    exact y_iret rfl ⟨hT, y_fr.rf, _, rfl⟩
  refine y_run 1 rfl ?_
  refine y_if rfl (fun _ => no _) (fun h => ?_)
  have h2 : ¬ x.toInt < 0 := h
  refine y_run 2 rfl ?_
  refine y_ic rfl (fun _ => no _) (fun h => ?_)
  have h3 : ¬ (3 : Int) ≤ x.toInt := h
  obtain ⟨X, hx⟩ : ∃ X : Nat, x.toInt = (X : Int) := ⟨x.toInt.toNat, by omega⟩
  have hX : X < 3 := by omega
  have r7 := y_rng (lo := 2147483648) (hi := 2147483655) (g := 0) hT (o := 0) (k := 7) rfl rfl
  obtain ⟨S, hS⟩ : ∃ S : Nat, (s.1 0 7).toInt = (S : Int) := ⟨(s.1 0 7).toInt.toNat, by omega⟩
  have e7 : s.1 0 7 = Int32.ofNat S := y_toN hS (by omega)
  have ex : x = Int32.ofNat X := y_toN hx (by omega)
  refine y_run 3 rfl ?_
  refine y_call (y_holdsC (x := s.1 0 7) (k := x)) 0 rfl (fun _ _ _ => rfl) (a := [.inl ((s.1 0 7)), .inl x]) rfl rfl (fun _ _ => rfl) (by omega) rfl (fun v s2 hQ => ?_)
  obtain ⟨rfl, ⟨rfl, hb⟩ | ⟨rfl, -⟩⟩ := hQ
  rotate_left
  · exact y_if rfl (fun h => absurd rfl h) (fun _ => no _)
  refine y_if rfl (fun _ => ?_) (fun h => absurd (show (1 : Int) ≠ 0 by omega) h)
  rw [e7, ex] at hb
  have hbit : y_bit (s2.1 0 7) X := by
    unfold y_bit
    rw [hS]
    exact y_bxh S (by omega) X hX hb
  have em : (x * (Int8.ofInt 24).toInt32).toInt = x.toInt * 24 := y_ml (x := x) (y := (Int8.ofInt 24).toInt32) (by show _ ≤ _ * (24 : Int); omega) (by show _ * (24 : Int) ≤ _; omega)
  have hz : (x * (Int8.ofInt 24).toInt32).toInt = 24 * (X : Int) := by omega
  refine y_run 7 rfl ?_
  refine y_call y_loadFrom35 1 rfl (fun _ _ _ => rfl) (a := [.inr (.inr 30), .inr (.inr 37), .inl ((x * (Int8.ofInt 24).toInt32))]) rfl rfl (fun h hR => y_mayV (o := 28) (sz := 10) rfl hR) (by omega) ⟨_, X, rfl, hz, hX⟩ (fun v s4 hQ => ?_)
  obtain ⟨rfl, rfl⟩ := hQ _ X rfl hz
  have lo : ∀ o k, ¬ (28 ≤ o ∧ o ≤ 32) → (y_lod s2 (fun k => s2.1 35 (24 * X + k))).1 o k = s2.1 o k := fun o k h => y_lod_o h
  have li : ∀ m, m < 24 → (y_lod s2 (fun k => s2.1 35 (24 * X + k))).1 (y_so m).1 (y_so m).2 = s2.1 35 (24 * X + m) := fun m hm => y_lod_in m hm
  have t1 := y_lod35T hX (y_t0 hT)
  have f1 : y_fr g_sh y_bkK s2 (y_lod s2 (fun k => s2.1 35 (24 * X + k))) := y_lod_fr.mono (by decide +kernel)
  revert lo li t1 f1
  generalize y_lod s2 (fun k => s2.1 35 (24 * X + k)) = s4
  intro lo li t1 f1
  have l29 : ∀ k, k < 7 → s4.1 29 k = s2.1 35 (24 * X + k) := fun k hk => by
    have := li k (by omega)
    rwa [show y_so k = (29, k) from if_pos hk] at this
  have l30 : ∀ k, k < 7 → s4.1 30 k = s2.1 35 (24 * X + 7 + k) := fun k hk => by
    have := li (7 + k) (by omega)
    rw [show y_so (7 + k) = (30, k) by unfold y_so; rw [if_neg (by omega), if_pos (by omega), show 7 + k - 7 = k by omega]] at this
    rw [Nat.add_assoc]
    exact this
  have l18 : s4.1 28 1 = s2.1 35 (24 * X + 18) := li 18 (by omega)
  refine y_run 4 rfl ?_
  refine y_call y_restartF 1 rfl (fun _ _ _ => rfl) (a := [.inr (.inr 35), .inr (.inr 30)]) rfl rfl (fun h hR => y_mayV (o := 33) (sz := 4) rfl hR) (by omega) ⟨t1, rfl⟩ (fun v s5 hQ => ?_)
  have hv : v = none := hQ.1
  subst hv
  have hVC : y_VC n s5.1 := y_rs_VC hQ (y_Rc_eq l29 l30 l18 (hbox X hX hbit)) (fun b hb hbt => by
    rw [lo 0 7 (by omega)] at hbt
    exact y_Rc_eq (fun k _ => lo 35 _ (by omega)) (fun k _ => lo 35 _ (by omega)) (lo 35 _ (by omega)) (hbox b hb hbt))
  obtain ⟨-, t5, f5, u5, -, -⟩ := hQ
  refine y_run 3 rfl ?_
  refine y_iret rfl ⟨y_TV t5 ⟨?_, ?_, hVC⟩, f1.tr (f5.mono (by decide +kernel)), _, rfl⟩
  · exact y_FD_eq2 ((u5 65 18 (by omega) (by omega)).trans (lo 65 18 (by omega))) (fun i _ => (u5 70 i (by omega) (by omega)).trans (lo 70 i (by omega))) (fun i _ => (u5 71 i (by omega) (by omega)).trans (lo 71 i (by omega))) hFD
  · exact y_VM_eq2 (fun o k ho => (u5 o k (by omega) (by omega)).trans (lo o k (by omega))) hM
