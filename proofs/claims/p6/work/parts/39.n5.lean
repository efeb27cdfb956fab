/-! by hand: sets as bits; has, queuedOnes, wishOf, wish of the model -/
theorem y_toN {x : Int32} {N : Nat} (h : x.toInt = (N : Int)) (hN : N < 1000000) : x = Int32.ofNat N := by
  rw [← Int32.toInt_inj, h]
  have e := y_ofIntN (n := N) hN
  have e2 : Int32.ofInt (N : Int) = Int32.ofNat N := rfl
  rw [← e2, e]
theorem y_ofN {N : Nat} (hN : N < 1000000) : (Int32.ofNat N).toInt = (N : Int) := y_ofIntN (n := N) hN
theorem y_bt : ∀ S, S < 128 → ∀ K, K < 7 → decide (((Int32.ofNat S >>> (Int32.ofNat K &&& 31)) &&& Int32.ofInt 1).toInt = 1) = S.testBit K := by decide +kernel
theorem y_bor : ∀ S, S < 128 → ∀ A, A < 7 → (Int32.ofNat S ||| (Int32.ofInt 1 <<< (Int32.ofNat A &&& 31))) = Int32.ofNat (S ||| 2 ^ A) ∧ S ||| 2 ^ A < 128 ∧ (Int32.ofNat S ||| (Int32.ofInt 0 <<< (Int32.ofNat A &&& 31))) = Int32.ofNat S := by decide +kernel
theorem y_bsh : ∀ A, A < 7 → (Int32.ofInt 1 <<< (Int32.ofNat A &&& 31)) = Int32.ofNat (2 ^ A) ∧ 2 ^ A < 128 := by decide +kernel
theorem y_ban : ∀ L, L < 128 → ∀ O, O < 128 → (Int32.ofNat L &&& (Int32.ofNat O ^^^ Int32.ofInt (-1))) = Int32.ofNat (L &&& (127 ^^^ O)) := by decide +kernel
theorem y_boo : ∀ L, L < 128 → ∀ O, O < 128 → (Int32.ofNat L ||| Int32.ofNat O) = Int32.ofNat (L ||| O) ∧ L ||| O < 128 := by decide +kernel
theorem y_b127 : ∀ K, K < 7 → (127 : Nat).testBit K = true := by decide
theorem y_b2 {A K : Nat} : (2 ^ A).testBit K = decide (A = K) := Nat.testBit_two_pow
theorem y_hasF {S K : Nat} {x k : Int32} (hx : x.toInt = (S : Int)) (hk : k.toInt = (K : Int)) (hS : S < 128) (hK : K < 7) : y_C g_sh g_ts 216 1 (fun a _ => a = [.inl x, .inl k]) (fun _ s v s2 => s2 = s ∧ ((v = some (.inl 1) ∧ S.testBit K = true) ∨ (v = some (.inl 0) ∧ S.testBit K = false))) := by
  refine y_C.of (t := g_t216) rfl (by decide) ?_
  rintro d a s - rfl
  have ex := y_toN hx (by omega)
  have ek := y_toN hk (by omega)
  subst ex
  subst ek
  have hb := y_bt S hS K hK
  refine y_run 6 rfl ?_
  refine y_ic rfl (fun h => ?_) (fun h => ?_)
  · have h2 : ((Int32.ofNat S >>> (Int32.ofNat K &&& 31)) &&& Int32.ofInt 1).toInt ≠ 1 := h
    rw [decide_eq_false h2] at hb
    refine y_run 1 rfl ?_
    exact y_bret rfl (Or.inl rfl) ⟨rfl, Or.inr ⟨rfl, hb.symm⟩⟩
  · have h2 : ((Int32.ofNat S >>> (Int32.ofNat K &&& 31)) &&& Int32.ofInt 1).toInt = 1 := Classical.byContradiction fun q => h q
    rw [decide_eq_true h2] at hb
    refine y_run 2 rfl ?_
    exact y_bret rfl (Or.inr rfl) ⟨rfl, Or.inl ⟨rfl, hb.symm⟩⟩
/-- who queues, as bits -/
def y_qd (s : y_H) (p : Nat) : Prop := (p : Int) < (s.1 65 48).toInt ∧ (s.1 85 (9 + p)).toInt = 0
def y_qoQ (n : Nat) (s : y_H) (v : Option (q_V Int32)) (s2 : y_H) : Prop := s2 = s ∧ ∃ (z : Int32) (S : Nat), v = some (.inl z) ∧ z.toInt = (S : Int) ∧ S < 128 ∧ ∀ p, p < 7 → S.testBit p = true → y_qd s p
abbrev y_eTr0 (V : w_V) : Prop := w_Ent V g_sh g_ts (313, [w_n 0 0 0], [], [], [([], some (w_n 0 0 0), [])], 1)
abbrev y_eTr1 (V : w_V) : Prop := w_Ent V g_sh g_ts (313, [w_n 1 1 0], [], [], [([], some (w_n 1 1 0), [])], 1)
theorem y_truthF : y_C g_sh g_ts 313 1 (fun a _ => ∃ x : Int32, a = [.inl x]) (fun a s v s2 => s2 = s ∧ ∀ x : Int32, a = [.inl x] → (x.toInt = 0 ∧ v = some (.inl (Int32.ofInt 0))) ∨ (x.toInt ≠ 0 ∧ v = some (.inl (Int32.ofInt 1)))) := by
  refine y_C.of (t := g_t313) rfl (by decide) ?_
  rintro d a s - ⟨x, rfl⟩
  refine y_run 1 rfl ?_
  refine y_if rfl (fun h => ?_) (fun h => ?_)
  · have h2 : x.toInt = 0 := h
    refine y_run 1 rfl ?_
    exact y_iret rfl ⟨rfl, fun x2 e => by cases e; exact Or.inl ⟨h2, rfl⟩⟩
  · have h2 : x.toInt ≠ 0 := h
    refine y_run 2 rfl ?_
    exact y_iret rfl ⟨rfl, fun x2 e => by cases e; exact Or.inr ⟨h2, rfl⟩⟩
theorem y_qo_loop {n d : Nat} {s : y_H} (hd : 3 ≤ d) (hT : w_T (y_Vn n) g_sh (y_mk g_sh s)) : ∀ (c : Nat) (z i : Int32) (S I : Nat), z.toInt = (S : Int) → S < 128 → (∀ p, p < 7 → S.testBit p = true → y_qd s p) → i.toInt = (I : Int) → I ≤ 7 → 7 - I ≤ c → y_W g_sh g_ts d g_t278 (y_qoQ n s) 4 [(0, .inr (.inr 67)), (1, .inl z), (2, .inl i)] [] s := by
  have hp := y_pairs hT
  have fin : ∀ (z : Int32) (S : Nat) (ls : q_U Int32), z.toInt = (S : Int) → S < 128 → (∀ p, p < 7 → S.testBit p = true → y_qd s p) → q_at ls 1 = some (.inl z) → y_W g_sh g_ts d g_t278 (y_qoQ n s) 31 ls [] s := by
    intro z S ls hz hS hq l1
    refine y_sub (ls1 := [(1, .inl z)]) (show ([1] : List Nat).Nodup by decide) (y_R_cons l1 y_R_nil) ?_
    refine y_run 1 rfl ?_
    exact y_iret rfl ⟨rfl, z, S, rfl, hz, hS, hq⟩
  intro c
  induction c with
  | zero =>
    intro z i S I hz hS hq hi hI hc
    refine y_run 3 rfl ?_
    refine y_ic rfl (fun _ => fin z S _ hz hS hq rfl) (fun h => ?_)
    have h2 : ¬ (s.1 65 48).toInt ≤ i.toInt := h
    omega
  | succ c ih =>
    intro z i S I hz hS hq hi hI hc
    refine y_run 3 rfl ?_
    refine y_ic rfl (fun _ => fin z S _ hz hS hq rfl) (fun h => ?_)
    have h2 : ¬ (s.1 65 48).toInt ≤ i.toInt := h
    have hi1 : (i + (Int32.ofInt 1)).toInt = i.toInt + 1 := y_add (x := i) (y := 1) (by show _ ≤ _ + (1 : Int); omega) (by show _ + (1 : Int) ≤ _; omega)
    have ei := y_toN hi (by omega)
    have ez := y_toN hz (by omega)
    have hb := y_bor S hS I (by omega)
    refine y_run 3 rfl ?_
    refine y_call (y_isQueuedF (V := y_Vn n)) 1 rfl (fun _ _ _ => rfl) (a := [.inr (.inr 67), .inl i]) rfl rfl (fun h hR => y_mayV (o := 65) (sz := 85) rfl hR) (by omega) ⟨hT, i, rfl⟩ (fun v s2 hQ => ?_)
    obtain ⟨rfl, hQ⟩ := hQ
    rcases hQ i rfl with ⟨rfl, i0, i1, is⟩ | rfl
    · refine y_call y_truthF 0 rfl (fun _ _ _ => rfl) (a := [.inl ((1 : Int32))]) rfl rfl (fun h hR => rfl) (by omega) ⟨_, rfl⟩ (fun v s3 hQt => ?_)
      obtain ⟨rfl, hQu⟩ := hQt
      rcases hQu _ rfl with ⟨h3, -⟩ | ⟨-, rfl⟩
      · exact absurd (show (1 : Int) = 0 from h3) (by omega)
      refine y_run 6 rfl ?_
      refine y_sub (ls1 := [(0, .inr (.inr 67)), (1, .inl ((z ||| (Int32.ofInt 1 <<< (i &&& 31))))), (2, .inl ((i + (Int32.ofInt 1))))]) (show ([0, 1, 2] : List Nat).Nodup by decide) (y_R_cons rfl (y_R_cons rfl (y_R_cons rfl y_R_nil))) ?_
      refine ih _ _ (S ||| 2 ^ I) (I + 1) ?_ hb.2.1 (fun p hp7 ht => ?_) (by rw [hi1, hi]; omega) (by omega) (by omega)
      · rw [ez, ei, hb.1, y_ofN (by omega)]
      · rw [Nat.testBit_or, y_b2, Bool.or_eq_true, decide_eq_true_eq] at ht
        rcases ht with ht | ht
        · exact hq p hp7 ht
        · subst ht
          exact ⟨by omega, by rw [show I = i.toInt.toNat by omega]; exact is⟩
    · refine y_call y_truthF 0 rfl (fun _ _ _ => rfl) (a := [.inl ((0 : Int32))]) rfl rfl (fun h hR => rfl) (by omega) ⟨_, rfl⟩ (fun v s3 hQt => ?_)
      obtain ⟨rfl, hQu⟩ := hQt
      rcases hQu _ rfl with ⟨-, rfl⟩ | ⟨h3, -⟩
      · refine y_run 6 rfl ?_
        refine y_sub (ls1 := [(0, .inr (.inr 67)), (1, .inl ((z ||| (Int32.ofInt 0 <<< (i &&& 31))))), (2, .inl ((i + (Int32.ofInt 1))))]) (show ([0, 1, 2] : List Nat).Nodup by decide) (y_R_cons rfl (y_R_cons rfl (y_R_cons rfl y_R_nil))) ?_
        refine ih _ _ S (I + 1) ?_ hS hq (by rw [hi1, hi]; omega) (by omega) (by omega)
        rw [ez, ei, hb.2.2, y_ofN (by omega)]
      · exact absurd rfl h3
theorem y_queuedOnes {n : Nat} : y_C g_sh g_ts 278 4 (fun a s => w_T (y_Vn n) g_sh (y_mk g_sh s) ∧ a = [.inr (.inr 67)]) (fun _ s v s2 => y_qoQ n s v s2) := by
  refine y_C.of (t := g_t278) rfl (by decide) ?_
  rintro d a s hd ⟨hT, rfl⟩
  refine y_run 4 rfl ?_
  refine y_sub (ls1 := [(0, .inr (.inr 67)), (1, .inl ((Int32.ofInt 0))), (2, .inl ((Int32.ofInt 0)))]) (show ([0, 1, 2] : List Nat).Nodup by decide) (y_R_cons rfl (y_R_cons rfl (y_R_cons rfl y_R_nil))) ?_
  exact y_qo_loop (by omega) hT 7 _ _ 0 0 rfl (by omega) (fun p _ h => by rw [Nat.zero_testBit] at h; cases h) rfl (by omega) (by omega)
/-- the wish: a place whose holder is of some, or its own -/
def y_wiQ (n S : Nat) (p : Int32) (s : y_H) (v : Option (q_V Int32)) (s2 : y_H) : Prop := w_T (y_Vn n) g_sh (y_mk g_sh s2) ∧ y_fr g_sh y_arK s s2 ∧ ∃ (z : Int32) (Z : Nat), v = some (.inl z) ∧ z.toInt = (Z : Int) ∧ (Z : Int) < (s.1 85 8).toInt ∧ (S.testBit (s.1 85 Z).toInt.toNat = true ∨ s.1 85 Z = p)
theorem y_now0 {V : w_V} {s : y_H} (hT : w_T V g_sh (y_mk g_sh s)) {k : Nat} (hk : k < 8) : 0 ≤ (s.1 85 k).toInt ∧ (s.1 85 k).toInt ≤ 6 := by
  have := y_rng (lo := 2147483648) (hi := 2147483654) (g := 0) hT (y_now6 k hk) (y_k85 k (by omega))
  omega
theorem y_now8 {V : w_V} {s : y_H} (hT : w_T V g_sh (y_mk g_sh s)) : 0 ≤ (s.1 85 8).toInt ∧ (s.1 85 8).toInt ≤ 7 := by
  have := y_rng (lo := 2147483648) (hi := 2147483655) (g := 0) hT (o := 85) (k := 8) rfl rfl
  omega
section WI
variable {n d S : Nat} {FM : w_U} {p w : Int32} {s0 : y_H}
theorem y_wi_loop (has : y_eAsTold (y_Vn n) FM) (hgo : y_eGoOn (y_Vn n)) (hsaid : y_eSaid (y_Vn n)) (hd : 6 ≤ d) (hw : w.toInt = (S : Int)) (hS : S < 128) (p0 : 0 ≤ p.toInt) (p6 : p.toInt ≤ 6) (hq : y_qd s0 p.toInt.toNat) : ∀ (c : Nat) (s : y_H) (best soon k : Int32), w_T (y_Vn n) g_sh (y_mk g_sh s) → y_fr g_sh y_arK s0 s → (best.toInt = -1 ∨ ∃ B : Nat, best.toInt = (B : Int) ∧ (B : Int) < (s0.1 85 8).toInt ∧ S.testBit (s0.1 85 B).toInt.toNat = true) → -1 ≤ k.toInt → k.toInt < (s0.1 85 8).toInt → k.toInt + 1 ≤ (c : Int) → y_W g_sh g_ts d g_t322 (y_wiQ n S p s0) 18 [(0, .inr (.inr 67)), (1, .inl p), (2, .inl w), (3, .inl best), (4, .inl soon), (5, .inl k)] [] s := by
  have inq : ∀ s s2 : y_H, w_T (y_Vn n) g_sh (y_mk g_sh s) → y_fr g_sh y_arK s0 s → y_fr g_sh y_flK s s2 → (∀ k, k < 28 → s2.1 86 k = s.1 85 k) → ∃ X : Nat, X < 8 ∧ (X : Int) < (s2.1 86 8).toInt ∧ s2.1 86 X = p := by
    intro s s2 hT hf hf2 he2
    obtain ⟨e48, hA⟩ := y_flAI hT hf2 he2
    refine y_AI_in hA p0 ?_ (by omega) ?_
    · rw [e48, y_th48 hf]
      have := hq.1
      omega
    · rw [he2 _ (by omega), y_th85 hf (by omega)]
      exact hq.2
  have fin : ∀ (s : y_H) (best : Int32) (ls : q_U Int32), w_T (y_Vn n) g_sh (y_mk g_sh s) → y_fr g_sh y_arK s0 s → (best.toInt = -1 ∨ ∃ B : Nat, best.toInt = (B : Int) ∧ (B : Int) < (s0.1 85 8).toInt ∧ S.testBit (s0.1 85 B).toInt.toNat = true) → q_at ls 0 = some (.inr (.inr 67)) → q_at ls 1 = some (.inl p) → q_at ls 3 = some (.inl best) → y_W g_sh g_ts d g_t322 (y_wiQ n S p s0) 89 ls [] s := by
    intro s best ls hT hf hb l0 l1 l3
    refine y_sub (ls1 := [(0, .inr (.inr 67)), (1, .inl p), (3, .inl best)]) (show ([0, 1, 3] : List Nat).Nodup by decide) (y_R_cons l0 (y_R_cons l1 (y_R_cons l3 y_R_nil))) ?_
    refine y_run 1 rfl ?_
    refine y_call (y_fillF has) 1 rfl (fun _ _ _ => rfl) (a := [.inr (.inr 67)]) rfl rfl (fun h hR => y_mayV (o := 65) (sz := 85) rfl hR) (by omega) ⟨hT, rfl⟩ (fun v s2 hQ => ?_)
    obtain ⟨rfl, hT2, hf2, he2⟩ := hQ
    have hf2b : y_fr g_sh y_arK s0 s2 := hf.tr (hf2.mono (by decide +kernel))
    refine y_run 1 rfl ?_
    refine y_if rfl (fun h => ?_) (fun _ => ?_)
    · have h2 : 0 ≤ best.toInt := h
      rcases hb with hb | ⟨B, b1, b2, b3⟩
      · omega
      refine y_run 1 rfl ?_
      exact y_iret rfl ⟨hT2, hf2b, best, B, rfl, b1, b2, Or.inl b3⟩
    · obtain ⟨X0, X8, hX0, eX0⟩ := inq s s2 hT hf hf2 he2
      refine y_run 2 rfl ?_
      refine y_call (y_placeOf (V := y_Vn n)) 1 rfl (fun _ _ _ => rfl) (a := [.inr (.inr 67), .inl p]) rfl rfl (fun h hR => y_mayV (o := 65) (sz := 85) rfl hR) (by omega) ⟨hT2, p, rfl⟩ (fun v s3 hQ => ?_)
      obtain ⟨rfl, hv⟩ := hQ p rfl
      rcases hv with ⟨-, hno⟩ | ⟨z, X, rfl, hz, hX, eX⟩
      · exact absurd eX0 (hno X0 hX0)
      have h8 := y_air8 hT2
      refine y_run 1 rfl ?_
      refine y_iret rfl ⟨hT2, hf2b, z, X, rfl, hz, ?_, Or.inr ?_⟩
      · rw [he2 8 (by omega), y_th85 hf (by omega)] at hX
        exact hX
      · rw [he2 X (by omega), y_th85 hf (by omega)] at eX
        exact eX
  intro c
  induction c with
  | zero =>
    intro s best soon k hT hf hb k0 k1 hc
    refine y_run 1 rfl ?_
    refine y_if rfl (fun _ => fin s best _ hT hf hb rfl rfl rfl) (fun h => ?_)
    have h2 : ¬ k.toInt < 0 := h
    omega
  | succ c ih =>
    intro s best soon k hT hf hb k0 k1 hc
    refine y_run 1 rfl ?_
    refine y_if rfl (fun _ => fin s best _ hT hf hb rfl rfl rfl) (fun h => ?_)
    have h2 : ¬ k.toInt < 0 := h
    generalize hK : k.toInt.toNat = K
    have e85 : ∀ j, j < 28 → s.1 85 j = s0.1 85 j := fun j hj => y_th85 hf hj
    have h8n := y_now8 hT
    rw [e85 8 (by omega)] at h8n
    have hnk := y_now0 hT (k := K) (by omega)
    obtain ⟨k', ek', hk'⟩ := y_dec1 (n := k) (by omega)
    have next : ∀ (s2 : y_H) (best2 soon2 : Int32) (ls : q_U Int32), w_T (y_Vn n) g_sh (y_mk g_sh s2) → y_fr g_sh y_arK s0 s2 → (best2.toInt = -1 ∨ ∃ B : Nat, best2.toInt = (B : Int) ∧ (B : Int) < (s0.1 85 8).toInt ∧ S.testBit (s0.1 85 B).toInt.toNat = true) → q_at ls 0 = some (.inr (.inr 67)) → q_at ls 1 = some (.inl p) → q_at ls 2 = some (.inl w) → q_at ls 3 = some (.inl best2) → q_at ls 4 = some (.inl soon2) → q_at ls 5 = some (.inl k) → y_W g_sh g_ts d g_t322 (y_wiQ n S p s0) 83 ls [] s2 := by
      intro s2 best2 soon2 ls hT2 hf2 hb2 l0 l1 l2 l3 l4 l5
      refine y_sub (ls1 := [(0, .inr (.inr 67)), (1, .inl p), (2, .inl w), (3, .inl best2), (4, .inl soon2), (5, .inl k)]) (show ([0, 1, 2, 3, 4, 5] : List Nat).Nodup by decide) (y_R_cons l0 (y_R_cons l1 (y_R_cons l2 (y_R_cons l3 (y_R_cons l4 (y_R_cons l5 y_R_nil)))))) ?_
      refine y_run 2 rfl ?_
      refine y_sub (ls1 := [(0, .inr (.inr 67)), (1, .inl p), (2, .inl w), (3, .inl best2), (4, .inl soon2), (5, .inl ((k + Int32.ofInt (-1))))]) (show ([0, 1, 2, 3, 4, 5] : List Nat).Nodup by decide) (y_R_cons rfl (y_R_cons rfl (y_R_cons rfl (y_R_cons rfl (y_R_cons rfl (y_R_cons rfl y_R_nil)))))) ?_
      rw [← ek']
      exact ih s2 best2 soon2 k' hT2 hf2 hb2 (by omega) (by omega) (by omega)
    refine y_run 4 rfl ?_
    refine y_ald (o := 85) (sz := 28) (j := K) rfl rfl (by omega) (by omega) (y_k85 _ (by omega)) ?_
    refine y_call (y_hasF (S := S) (K := (s.1 85 K).toInt.toNat) (x := w) (k := s.1 85 K) hw (by omega) hS (by omega)) 0 rfl (fun _ _ _ => rfl) (a := [.inl w, .inl ((s.1 85 K))]) rfl rfl (fun h hR => rfl) (by omega) rfl (fun v s2 hQ => ?_)
    obtain ⟨rfl, hv⟩ := hQ
    rcases hv with ⟨rfl, hbit⟩ | ⟨rfl, -⟩
    · refine y_if rfl (fun _ => ?_) (fun h => absurd (show (1 : Int) ≠ 0 by omega) h)
      refine y_run 1 rfl ?_
      refine y_call (y_fillF has) 1 rfl (fun _ _ _ => rfl) (a := [.inr (.inr 67)]) rfl rfl (fun h hR => y_mayV (o := 65) (sz := 85) rfl hR) (by omega) ⟨hT, rfl⟩ (fun v s3 hQ => ?_)
      obtain ⟨rfl, hT3, hf3, he3⟩ := hQ
      obtain ⟨X0, X8, hX0, eX0⟩ := inq s2 s3 hT hf hf3 he3
      refine y_run 5 rfl ?_
      refine y_ald (o := 85) (sz := 28) (j := K) rfl rfl (by omega) (by omega) (y_k85 _ (by omega)) ?_
      refine y_call (y_changesF (V := y_Vn n)) 1 rfl (fun _ _ _ => rfl) (a := [.inr (.inr 67), .inl p, .inl ((s3.1 85 K))]) rfl rfl (fun h hR => y_mayV (o := 65) (sz := 85) rfl hR) (by omega) ⟨hT3, p, s3.1 85 K, rfl, ⟨X0, hX0, eX0⟩, ⟨K, by rw [he3 8 (by omega), e85 8 (by omega)]; omega, by rw [he3 K (by omega), y_fl85 hf3 (by omega)]⟩⟩ (fun v s4 hQ => ?_)
      obtain ⟨rfl, hT4, hf4, -⟩ := hQ p _ rfl
      refine y_run 1 rfl ?_
      refine y_callN ⟨rfl, hgo⟩ 1 rfl (fun _ _ _ => rfl) (a := [.inr (.inr 67)]) rfl rfl (fun h hR => y_mayV (o := 65) (sz := 85) rfl hR) (by omega) hT4 ⟨⟨67, rfl, List.mem_cons_self⟩, True.intro⟩ (fun s5 hT5 hf5 => ?_)
      have hf5b : y_fr g_sh y_arK s0 s5 := ((hf.tr (hf3.mono (by decide +kernel))).tr (hf4.mono (by decide +kernel))).tr (hf5.mono (by decide +kernel))
      refine y_run 2 rfl ?_
      refine y_callI ⟨rfl, hsaid⟩ 1 rfl (fun _ _ _ => rfl) (a := [.inr (.inr 67), .inl p]) rfl rfl (fun h hR => y_mayV (o := 65) (sz := 85) rfl hR) (by omega) hT5 ⟨⟨67, rfl, List.mem_cons_self⟩, y_iv (by omega) (by omega), True.intro⟩ (fun z s6 hT6 hf6 _ _ => ?_)
      have hf6b : y_fr g_sh y_arK s0 s6 := hf5b.tr (hf6.mono rfl)
      refine y_run 1 rfl ?_
      refine y_ic rfl (fun _ => ?_) (fun _ => ?_)
      · refine y_run 4 rfl ?_
        refine y_callI ⟨rfl, hsaid⟩ 1 rfl (fun _ _ _ => rfl) (a := [.inr (.inr 67), .inl p]) rfl rfl (fun h hR => y_mayV (o := 65) (sz := 85) rfl hR) (by omega) hT6 ⟨⟨67, rfl, List.mem_cons_self⟩, y_iv (by omega) (by omega), True.intro⟩ (fun z2 s7 hT7 hf7 _ _ => ?_)
        refine y_run 1 rfl ?_
        refine next s7 k z2 _ hT7 (hf6b.tr (hf7.mono rfl)) (Or.inr ⟨K, by omega, by omega, ?_⟩) rfl rfl rfl rfl rfl rfl
        rw [← e85 K (by omega)]
        exact hbit
      · refine y_run 1 rfl ?_
        exact next s6 best soon _ hT6 hf6b hb rfl rfl rfl rfl rfl rfl
    · refine y_if rfl (fun h => absurd rfl h) (fun _ => ?_)
      refine y_run 1 rfl ?_
      exact next s2 best soon _ hT hf hb rfl rfl rfl rfl rfl rfl
end WI
theorem y_wishOf {n S : Nat} {FM : w_U} (has : y_eAsTold (y_Vn n) FM) (hgo : y_eGoOn (y_Vn n)) (hsaid : y_eSaid (y_Vn n)) {p w : Int32} (hw : w.toInt = (S : Int)) (hS : S < 128) (p0 : 0 ≤ p.toInt) (p6 : p.toInt ≤ 6) : y_C g_sh g_ts 322 7 (fun a s => w_T (y_Vn n) g_sh (y_mk g_sh s) ∧ a = [.inr (.inr 67), .inl p, .inl w] ∧ y_qd s p.toInt.toNat) (fun _ s v s2 => y_wiQ n S p s v s2) := by
  refine y_C.of (t := g_t322) rfl (by decide) ?_
  rintro d a s hd ⟨hT, rfl, hq⟩
  have h8 := y_now8 hT
  have hsb : (s.1 85 8 - (Int32.ofInt 1)).toInt = (s.1 85 8).toInt - 1 := y_sb (x := s.1 85 8) (y := 1) (by show _ ≤ _ - (1 : Int); omega) (by show _ - (1 : Int) ≤ _; omega)
  refine y_run 7 rfl ?_
  refine y_ald (o := 85) (sz := 28) (j := 8) rfl rfl rfl (by omega) rfl ?_
  refine y_run 3 rfl ?_
  refine y_sub (ls1 := [(0, .inr (.inr 67)), (1, .inl p), (2, .inl w), (3, .inl ((Int32.ofInt (-1)))), (4, .inl ((Int32.ofNat 1000000))), (5, .inl ((s.1 85 8 - (Int32.ofInt 1))))]) (show ([0, 1, 2, 3, 4, 5] : List Nat).Nodup by decide) (y_R_cons rfl (y_R_cons rfl (y_R_cons rfl (y_R_cons rfl (y_R_cons rfl (y_R_cons rfl y_R_nil)))))) ?_
  exact y_wi_loop has hgo hsaid (by omega) hw hS p0 p6 hq 7 s _ _ _ hT y_fr.rf (Or.inl rfl) (by omega) (by omega) (by omega)
theorem y_wishM {n : Nat} {FM : w_U} (has : y_eAsTold (y_Vn n) FM) (hgo : y_eGoOn (y_Vn n)) (hsaid : y_eSaid (y_Vn n)) : y_C g_sh g_ts 321 8 (fun a s => w_T (y_Vn n) g_sh (y_mk g_sh s) ∧ ∃ x : Int32, a = [.inr (.inr 67), .inl x]) (fun _ s v s2 => y_thQ n s v s2) := by
  refine y_C.of (t := g_t321) rfl (by decide) ?_
  rintro d a s hd ⟨hT, x, rfl⟩
  have hp := y_pairs hT
  refine y_run 2 rfl ?_
  refine y_call (y_isQueuedF (V := y_Vn n)) 1 rfl (fun _ _ _ => rfl) (a := [.inr (.inr 67), .inl x]) rfl rfl (fun h hR => y_mayV (o := 65) (sz := 85) rfl hR) (by omega) ⟨hT, x, rfl⟩ (fun v s2 hQ => ?_)
  obtain ⟨rfl, hQ⟩ := hQ
  rcases hQ x rfl with ⟨rfl, x0, x1, xs⟩ | rfl
  · refine y_if rfl (fun h => absurd (show (1 : Int) = 0 from h) (by omega)) (fun _ => ?_)
    refine y_run 3 rfl ?_
    refine y_call (y_queuedOnes (n := n)) 1 rfl (fun _ _ _ => rfl) (a := [.inr (.inr 67)]) rfl rfl (fun h hR => y_mayV (o := 65) (sz := 85) rfl hR) (by omega) ⟨hT, rfl⟩ (fun v s3 hQ => ?_)
    obtain ⟨rfl, w, S, rfl, hw, hS, -⟩ := hQ
    refine y_call (y_wishOf has hgo hsaid hw hS x0 (by omega)) 1 rfl (fun _ _ _ => rfl) (a := [.inr (.inr 67), .inl x, .inl w]) rfl rfl (fun h hR => y_mayV (o := 65) (sz := 85) rfl hR) (by omega) ⟨hT, rfl, by omega, xs⟩ (fun v s4 hQ => ?_)
    obtain ⟨hT4, hf4, z, Z, rfl, -⟩ := hQ
    refine y_run 1 rfl ?_
    exact y_iret rfl ⟨hT4, hf4, _, rfl⟩
  · refine y_if rfl (fun _ => ?_) (fun h => absurd rfl h)
    refine y_run 1 rfl ?_
    exact y_iret rfl ⟨hT, y_fr.rf, _, rfl⟩
