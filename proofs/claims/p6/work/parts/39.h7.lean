/-! by hand: both sides' feed -/
section BST
variable {sh : w_Sh} {ts : List q_T} {d : Nat} {t : q_T} {Q : Option (q_V Int32) → y_H → Prop} {p : Nat} {ls : q_U Int32} {st : List (q_V Int32)} {s : y_H}
/-- an int into a row of bytes -/
theorem y_bst {len : Nat} {r : List Nat} {n o sz j : Nat} {x v : Int32} (hq : q_get t p = some (.bastore, len, r)) (hr : y_ref sh n = some (o, 101, sz)) (hx : x.toInt = (j : Int)) (hj : j < sz) (hk : y_kd sh o j = 0) (hw : y_W sh ts d t Q (p + len) ls st (y_up s o j (.inl v.toInt8.toInt32))) : y_W sh ts d t Q p ls (.inl v :: .inl x :: .inr (.inr n) :: st) s := by
  refine y_W.step (fun h ns hR => ?_) hw
  obtain ⟨rfl, u, hu⟩ := y_ref_ok hR hr
  refine ⟨0, h.set o (101, sz, (j, .inl v.toInt8.toInt32) :: u), ?_, ?_⟩
  · unfold q_step
    dsimp only
    rw [hq]
    show q_ast q_O32 101 len (p, ls, .inl v :: .inl x :: .inr (.inr (o + 2)) :: st) h ns = _
    unfold q_ast
    dsimp only
    rw [hu, show q_O32.2.2.2.2.1 x = some j from y_ix hx]
    dsimp only
    rw [show ((Nat.beq 101 101 || (Nat.beq 101 101 && Nat.beq 101 102)) && Nat.blt j sz) = true by
      rw [Bool.and_eq_true, Nat.blt_eq]
      exact ⟨rfl, hj⟩, cond_true]
    rfl
  · rw [y_up_mk (by rw [hk]; rfl)]
    exact w_Rep_set hR hu _
end BST
theorem y_pkA {o j sz : Nat} (h : w_ovl g_pk (w_key o 0) (w_key o (sz - 1)) = false) (hj : j < sz) : w_inm g_pk (w_key o j) = false := w_ovl_no h (w_key_le (Nat.zero_le j)) (w_key_le (by omega))
theorem y_msA {ms : List (Nat × Nat)} {o j sz : Nat} (h : w_inr ms (w_key o 0) (w_key o (sz - 1)) = true) (hj : j < sz) : w_inm ms (w_key o j) = true := w_inr_ok h (w_key_le (Nat.zero_le j)) (w_key_le (by omega))
theorem y_byte (x : Int32) : -128 ≤ x.toInt8.toInt32.toInt ∧ x.toInt8.toInt32.toInt ≤ 127 := by
  have h1 := Int8.le_toInt x.toInt8
  have h2 := Int8.toInt_lt x.toInt8
  have e : x.toInt8.toInt32.toInt = x.toInt8.toInt := Int8.toInt_toInt32 _
  omega
abbrev y_pt : List (Nat × Nat) := [(4161, 4161), (8256, 9855)]
def y_putQ (V : w_V) (s : y_H) (v : Option (q_V Int32)) (s2 : y_H) : Prop := v = none ∧ w_T V g_sh (y_mk g_sh s2) ∧ y_fr g_sh y_pt s s2 ∧ (s2.1 1 1).toInt = (s.1 1 1).toInt + 4
theorem y_put_loop {V : w_V} {d : Nat} {Q : Option (q_V Int32) → y_H → Prop} {v : Int32} : ∀ (k : Nat) (s : y_H) (x : Int32), w_T V g_sh (y_mk g_sh s) → x.toInt = 8 * (k : Int) - 8 → k ≤ 4 → (s.1 1 1).toInt + (k : Int) ≤ 1600 → (∀ s2, w_T V g_sh (y_mk g_sh s2) → y_fr g_sh y_pt s s2 → (s2.1 1 1).toInt = (s.1 1 1).toInt + (k : Int) → Q none s2) → y_W g_sh g_ts d g_t152 Q 3 [(0, .inr (.inr 3)), (1, .inl v), (2, .inl x)] [] s := by
  intro k
  induction k with
  | zero =>
    intro s x hT hx _ _ hexit
    refine y_run 1 rfl ?_
    refine y_if rfl (fun _ => y_vret rfl (hexit s hT y_fr.rf (by omega))) (fun h => ?_)
    have h2 : ¬ x.toInt < 0 := h
    omega
  | succ k ih =>
    intro s x hT hx hk hb hexit
    have hsz := y_rng (lo := 2147483648) (hi := 2147485248) (g := 0) hT (o := 1) (k := 1) rfl rfl
    refine y_run 1 rfl ?_
    refine y_if rfl (fun h => ?_) (fun _ => ?_)
    · have h2 : x.toInt < 0 := h
      omega
    refine y_run 3 rfl ?_
    refine y_ic rfl (fun h => ?_) (fun _ => ?_)
    · have h2 : (1600 : Int) ≤ (s.1 1 1).toInt := h
      omega
    refine y_run 8 rfl ?_
    have hj : (s.1 1 1).toInt.toNat < 1600 := by omega
    have hkd : y_kd g_sh 2 (s.1 1 1).toInt.toNat = 0 := y_kdA (tag := 101) (sz := 1600) (a := ((2147483520, 2147483775), 0)) rfl
    refine y_bst (o := 2) (sz := 1600) (j := (s.1 1 1).toInt.toNat) rfl rfl (show (s.1 1 1).toInt = _ by omega) hj hkd ?_
    obtain ⟨w, hw⟩ : ∃ w, w = (v >>> (x &&& 31)).toInt8.toInt32.toInt8.toInt32 := ⟨_, rfl⟩
    have hwr : -128 ≤ w.toInt ∧ w.toInt ≤ 127 := by
      rw [hw]
      exact y_byte _
    have hadd : (s.1 1 1 + 1).toInt = (s.1 1 1).toInt + 1 := y_add (x := s.1 1 1) (y := 1) (by show _ ≤ _ + (1 : Int); omega) (by show _ + (1 : Int) ≤ _; omega)
    show y_W g_sh g_ts d g_t152 Q 30 [(0, .inr (.inr 3)), (1, .inl v), (2, .inl x)] [] (y_up s 2 (s.1 1 1).toInt.toNat (.inl (v >>> (x &&& 31)).toInt8.toInt32.toInt8.toInt32))
    rw [← hw]
    have hT1 := y_Tup (lo := 2147483520) (hi := 2147483775) (g := 0) hT (o := 2) (k := (s.1 1 1).toInt.toNat) (x := w) (y_tyA (tag := 101) (sz := 1600) (A := .inl ((2147483520, 2147483775), 0)) rfl hj) hkd (y_pkA (sz := 1600) (by decide +kernel) hj) (by omega) (by omega)
    have hf1 : y_fr g_sh y_pt s (y_up s 2 (s.1 1 1).toInt.toNat (.inl w)) := y_fr.rf.up hkd (y_msA (sz := 1600) (by decide +kernel) hj)
    have hT2 := y_Tup (lo := 2147483648) (hi := 2147485248) (g := 0) hT1 (o := 1) (k := 1) (x := s.1 1 1 + 1) rfl rfl (by decide +kernel) (by omega) (by omega)
    have hf2 : y_fr g_sh y_pt s (y_up (y_up s 2 (s.1 1 1).toInt.toNat (.inl w)) 1 1 (.inl (s.1 1 1 + 1))) := hf1.up rfl (by decide +kernel)
    refine y_run 8 rfl ?_
    refine y_sub (ls1 := [(0, .inr (.inr 3)), (1, .inl v), (2, .inl (x + Int32.ofInt (-8)))]) (show ([0, 1, 2] : List Nat).Nodup by decide) (y_R_cons rfl (y_R_cons rfl (y_R_cons rfl y_R_nil))) ?_
    have hx2 : (x + Int32.ofInt (-8)).toInt = x.toInt - 8 := by
      have e8 : (Int32.ofInt (-8)).toInt = -8 := by decide
      rw [y_add (by rw [e8]; omega) (by rw [e8]; omega), e8]
      omega
    refine ih _ _ hT2 (by rw [hx2]; omega) (by omega) ?_ (fun s2 hT3 hf3 e3 => hexit s2 hT3 (hf2.tr hf3) ?_)
    · show (s.1 1 1 + 1).toInt + (k : Int) ≤ 1600
      omega
    · have e4 : (s2.1 1 1).toInt = (s.1 1 1 + 1).toInt + (k : Int) := e3
      omega
theorem y_put {V : w_V} : y_C g_sh g_ts 152 1 (fun a s => w_T V g_sh (y_mk g_sh s) ∧ (s.1 1 1).toInt + 4 ≤ 1600 ∧ ∃ v : Int32, a = [.inr (.inr 3), .inl v]) (fun _ s v s2 => y_putQ V s v s2) := by
  refine y_C.of (t := g_t152) rfl (by decide) ?_
  rintro d a s - ⟨hT, hb, v, rfl⟩
  refine y_run 2 rfl ?_
  refine y_sub (ls1 := [(0, .inr (.inr 3)), (1, .inl v), (2, .inl 24)]) (show ([0, 1, 2] : List Nat).Nodup by decide) (y_R_cons rfl (y_R_cons rfl (y_R_cons rfl y_R_nil))) ?_
  exact y_put_loop (V := V) 4 s 24 hT (by decide) (by omega) hb (fun s2 hT2 hf2 e2 => ⟨rfl, hT2, hf2, e2⟩)
/-- the class's feed -/
def y_feedQ (V : w_V) (o : Nat) (ms : List (Nat × Nat)) (s : y_H) (v : Option (q_V Int32)) (s2 : y_H) : Prop := w_T V g_sh (y_mk g_sh s2) ∧ y_fr g_sh ms s s2 ∧ ∃ c : Int32, v = some (.inl c) ∧ (((s.1 o 1).toInt + 20 ≤ 1600 ∧ c = s2.1 o 1 ∧ (s2.1 o 1).toInt = (s.1 o 1).toInt + 20) ∨ (1600 < (s.1 o 1).toInt + 20 ∧ c = -1 ∧ s2 = s))
theorem y_callPut {V : w_V} {d : Nat} {t : q_T} {Q : Option (q_V Int32) → y_H → Prop} {p i : Nat} {ls : q_U Int32} {s : y_H} {k : Int32} (hq : q_get t p = some (.invokevirtual i, 3, [152, 2, 3, 7])) (hT : w_T V g_sh (y_mk g_sh s)) (hb : (s.1 1 1).toInt + 4 ≤ 1600) (hd : 1 ≤ d) (hw : ∀ s2, w_T V g_sh (y_mk g_sh s2) → y_fr g_sh y_pt s s2 → (s2.1 1 1).toInt = (s.1 1 1).toInt + 4 → y_W g_sh g_ts d t Q (p + 3) ls [] s2) : y_W g_sh g_ts d t Q p ls [.inl k, .inr (.inr 3)] s := by
  refine y_call (y_put (V := V)) 1 hq (fun _ _ _ => rfl) (a := [.inr (.inr 3), .inl k]) (st2 := []) rfl rfl (fun h hR => y_mayV (o := 1) (sz := 2) rfl hR) hd ⟨hT, hb, k, rfl⟩ (fun v s2 hQ => ?_)
  obtain ⟨rfl, hT2, hf2, e2⟩ := hQ
  exact hw s2 hT2 hf2 e2
theorem y_feedC {V : w_V} : y_C g_sh g_ts 21 2 (fun a s => w_T V g_sh (y_mk g_sh s) ∧ ∃ x1 x2 x3 x4 x5 : Int32, a = [.inr (.inr 2), .inl x1, .inl x2, .inl x3, .inl x4, .inl x5]) (fun _ s v s2 => y_feedQ V 1 y_pt s v s2) := by
  refine y_C.of (t := g_t21) rfl (by decide) ?_
  rintro d a s hd ⟨hT, x1, x2, x3, x4, x5, rfl⟩
  have hd1 : 1 ≤ d := by omega
  have hsz := y_rng (lo := 2147483648) (hi := 2147485248) (g := 0) hT (o := 1) (k := 1) rfl rfl
  have hadd : (s.1 1 1 + 20).toInt = (s.1 1 1).toInt + 20 := y_add (x := s.1 1 1) (y := 20) (by show _ ≤ _ + (20 : Int); omega) (by show _ + (20 : Int) ≤ _; omega)
  refine y_run 6 rfl ?_
  refine y_ic rfl (fun h => ?_) (fun h => ?_)
  · have h2 : (s.1 1 1 + 20).toInt ≤ 1600 := h
    refine y_run 3 rfl ?_
    refine y_callPut rfl hT (by omega) hd1 (fun s1 hT1 hf1 e1 => ?_)
    refine y_run 3 rfl ?_
    refine y_callPut rfl hT1 (by omega) hd1 (fun s2 hT2 hf2 e2 => ?_)
    refine y_run 3 rfl ?_
    refine y_callPut rfl hT2 (by omega) hd1 (fun s3 hT3 hf3 e3 => ?_)
    refine y_run 3 rfl ?_
    refine y_callPut rfl hT3 (by omega) hd1 (fun s4 hT4 hf4 e4 => ?_)
    refine y_run 3 rfl ?_
    refine y_callPut rfl hT4 (by omega) hd1 (fun s5 hT5 hf5 e5 => ?_)
    refine y_run 3 rfl ?_
    exact y_iret rfl ⟨hT5, (((hf1.tr hf2).tr hf3).tr hf4).tr hf5, _, rfl, Or.inl ⟨by omega, rfl, by omega⟩⟩
  · have h2 : ¬ (s.1 1 1 + 20).toInt ≤ 1600 := h
    refine y_run 1 rfl ?_
    exact y_iret rfl ⟨hT, y_fr.rf, -1, rfl, Or.inr ⟨by omega, rfl, rfl⟩⟩
