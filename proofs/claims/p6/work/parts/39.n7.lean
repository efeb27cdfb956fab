/-! by hand: roundOf, trade of the model -/
theorem y_bgt : ∀ S, S < 128 → ∀ A, A < 7 → S.testBit A = false → S < (S ||| 2 ^ A) := by decide +kernel
theorem y_ptr {s : y_H} {V : w_V} (hT : w_T V g_sh (y_mk g_sh s)) {j : Nat} (hj : j < 7) : 0 ≤ (s.1 94 j).toInt ∧ (s.1 94 j).toInt ≤ 6 := by
  have := y_rng (lo := 2147483648) (hi := 2147483654) (g := 0) hT (y_tyA (o := 94) (k := j) (tag := 100) (sz := 7) (A := .inl ((2147483648, 2147483654), 0)) rfl hj) (y_kdA (tag := 100) (sz := 7) (a := ((2147483648, 2147483654), 0)) rfl)
  omega
theorem y_ct {s : y_H} {V : w_V} (hT : w_T V g_sh (y_mk g_sh s)) {j : Nat} (hj : j < 7) : 0 ≤ (s.1 95 j).toInt ∧ (s.1 95 j).toInt ≤ 6 := by
  have := y_rng (lo := 2147483648) (hi := 2147483654) (g := 0) hT (y_tyA (o := 95) (k := j) (tag := 100) (sz := 7) (A := .inl ((2147483648, 2147483654), 0)) rfl hj) (y_kdA (tag := 100) (sz := 7) (a := ((2147483648, 2147483654), 0)) rfl)
  omega
theorem y_k94 {j : Nat} : y_kd g_sh 94 j = 0 := y_kdA (tag := 100) (sz := 7) (a := ((2147483648, 2147483654), 0)) rfl
theorem y_k95 {j : Nat} : y_kd g_sh 95 j = 0 := y_kdA (tag := 100) (sz := 7) (a := ((2147483648, 2147483654), 0)) rfl
def y_pf (s : y_H) (j : Nat) : Nat := (s.1 94 j).toInt.toNat
def y_roQ (s : y_H) (P : Nat) (v : Option (q_V Int32)) (s2 : y_H) : Prop := s2 = s ∧ ∃ (z : Int32) (Z : Nat), v = some (.inl z) ∧ z.toInt = (Z : Int) ∧ Z < 128 ∧ (y_cyc (y_pf s) P → Z.testBit P = true)
theorem y_ro_loop {V : w_V} {d : Nat} {s : y_H} {p : Int32} {P : Nat} (hd : 1 ≤ d) (hT : w_T V g_sh (y_mk g_sh s)) (hp : p.toInt = (P : Int)) (hP : P < 7) : ∀ (c : Nat) (z a : Int32) (S A I : Nat), z.toInt = (S : Int) → S < 128 → a.toInt = (A : Int) → A < 7 → A = y_itf (y_pf s) I P → 1 ≤ I → (∀ b, b < 7 → (S.testBit b = true ↔ ∃ k, k < I ∧ y_itf (y_pf s) k P = b)) → (∀ J, 1 ≤ J → y_itf (y_pf s) J P = P → (∀ k, 1 ≤ k → k < J → y_itf (y_pf s) k P ≠ P) → I ≤ J) → 128 - S ≤ c → y_W g_sh g_ts d g_t287 (y_roQ s P) 11 [(0, .inr (.inr 67)), (1, .inl p), (2, .inl z), (3, .inl a)] [] s := by
  have fin : ∀ (z a : Int32) (S A I : Nat) (ls : q_U Int32), z.toInt = (S : Int) → S < 128 → a.toInt = (A : Int) → A < 7 → A = y_itf (y_pf s) I P → 1 ≤ I → (∀ b, b < 7 → (S.testBit b = true ↔ ∃ k, k < I ∧ y_itf (y_pf s) k P = b)) → (∀ J, 1 ≤ J → y_itf (y_pf s) J P = P → (∀ k, 1 ≤ k → k < J → y_itf (y_pf s) k P ≠ P) → I ≤ J) → S.testBit A = true → q_at ls 1 = some (.inl p) → q_at ls 2 = some (.inl z) → q_at ls 3 = some (.inl a) → y_W g_sh g_ts d g_t287 (y_roQ s P) 35 ls [] s := by
    intro z a S A I ls hz hS ha hA eA hI hbits hmin hin l1 l2 l3
    refine y_sub (ls1 := [(1, .inl p), (2, .inl z), (3, .inl a)]) (show ([1, 2, 3] : List Nat).Nodup by decide) (y_R_cons l1 (y_R_cons l2 (y_R_cons l3 y_R_nil))) ?_
    have h0 : S.testBit P = true := (hbits P hP).mpr ⟨0, by omega, rfl⟩
    refine y_run 2 rfl ?_
    refine y_ic rfl (fun h => ?_) (fun h => ?_)
    · have hne : a.toInt ≠ p.toInt := h
      refine y_run 1 rfl ?_
      refine y_iret rfl ⟨rfl, _, 0, rfl, rfl, by omega, fun hc => ?_⟩
      exfalso
      obtain ⟨J, J1, J2, J3⟩ := y_cyc_min hc
      have hIJ := hmin J J1 J2 J3
      obtain ⟨k, k1, k2⟩ := (hbits A hA).mp hin
      have e1 : y_itf (y_pf s) (J - I + k) P = P := by
        rw [y_itf_add, k2, eA, ← y_itf_add, show J - I + I = J by omega]
        exact J2
      rcases Nat.eq_zero_or_pos k with hk | hk
      · subst hk
        have e2 : P = A := k2
        omega
      · exact J3 (J - I + k) (by omega) (by omega) e1
    · refine y_run 2 rfl ?_
      exact y_iret rfl ⟨rfl, z, S, rfl, hz, hS, fun _ => h0⟩
  intro c
  induction c with
  | zero => intro z a S A I hz hS; intros; omega
  | succ c ih =>
    intro z a S A I hz hS ha hA eA hI hbits hmin hc
    have ez := y_toN hz (by omega)
    have ea := y_toN ha (by omega)
    refine y_run 2 rfl ?_
    refine y_call (y_hasF (S := S) (K := A) (x := z) (k := a) hz ha hS hA) 0 rfl (fun _ _ _ => rfl) (a := [.inl z, .inl a]) rfl rfl (fun h hR => rfl) hd rfl (fun v s2 hQ => ?_)
    obtain ⟨rfl, hv⟩ := hQ
    rcases hv with ⟨rfl, hb⟩ | ⟨rfl, hb⟩
    · exact y_if rfl (fun _ => fin z a S A I _ hz hS ha hA eA hI hbits hmin hb rfl rfl rfl) (fun h => absurd (show (1 : Int) ≠ 0 by omega) h)
    · refine y_if rfl (fun h => absurd rfl h) (fun _ => ?_)
      have hor := y_bor S hS A hA
      have hgt := y_bgt S hS A hA hb
      have hr := y_ptr hT (j := A) hA
      refine y_run 9 rfl ?_
      refine y_ald (o := 94) (sz := 7) (j := A) rfl rfl ha (by omega) y_k94 ?_
      refine y_run 2 rfl ?_
      refine y_sub (ls1 := [(0, .inr (.inr 67)), (1, .inl p), (2, .inl ((z ||| (Int32.ofInt 1 <<< (a &&& 31))))), (3, .inl ((s2.1 94 A)))]) (show ([0, 1, 2, 3] : List Nat).Nodup by decide) (y_R_cons rfl (y_R_cons rfl (y_R_cons rfl (y_R_cons rfl y_R_nil)))) ?_
      refine ih _ _ (S ||| 2 ^ A) (s2.1 94 A).toInt.toNat (I + 1) ?_ hor.2.1 (by omega) (by omega) ?_ (by omega) (fun b hb7 => ?_) (fun J J1 J2 J3 => ?_) (by omega)
      · rw [ez, ea, hor.1, y_ofN (by omega)]
      · show _ = y_pf s2 (y_itf (y_pf s2) I P)
        rw [← eA]
        rfl
      · rw [Nat.testBit_or, y_b2, Bool.or_eq_true, decide_eq_true_eq, hbits b hb7]
        constructor
        · rintro (⟨k, k1, k2⟩ | h)
          · exact ⟨k, by omega, k2⟩
          · exact ⟨I, by omega, by rw [← eA]; exact h⟩
        · rintro ⟨k, k1, k2⟩
          rcases Nat.lt_or_ge k I with q | q
          · exact Or.inl ⟨k, q, k2⟩
          · rw [show k = I by omega, ← eA] at k2
            exact Or.inr k2
      · have hIJ := hmin J J1 J2 J3
        rcases Nat.lt_or_ge I J with q | q
        · exact q
        · exfalso
          rw [show J = I by omega, ← eA] at J2
          rw [J2] at hb
          have := (hbits P hP).mpr ⟨0, by omega, rfl⟩
          rw [hb] at this
          cases this
theorem y_roundOf {V : w_V} {p : Int32} {P : Nat} (hp : p.toInt = (P : Int)) (hP : P < 7) : y_C g_sh g_ts 287 2 (fun a s => w_T V g_sh (y_mk g_sh s) ∧ a = [.inr (.inr 67), .inl p]) (fun _ s v s2 => y_roQ s P v s2) := by
  refine y_C.of (t := g_t287) rfl (by decide) ?_
  rintro d a s hd ⟨hT, rfl⟩
  have ep := y_toN hp (by omega)
  have hsh := y_bsh P hP
  have hr := y_ptr hT (j := P) hP
  refine y_run 7 rfl ?_
  refine y_ald (o := 94) (sz := 7) (j := P) rfl rfl hp (by omega) y_k94 ?_
  refine y_run 1 rfl ?_
  refine y_sub (ls1 := [(0, .inr (.inr 67)), (1, .inl p), (2, .inl ((Int32.ofInt 1 <<< (p &&& 31)))), (3, .inl ((s.1 94 P)))]) (show ([0, 1, 2, 3] : List Nat).Nodup by decide) (y_R_cons rfl (y_R_cons rfl (y_R_cons rfl (y_R_cons rfl y_R_nil)))) ?_
  refine y_ro_loop (by omega) hT hp hP 128 _ _ (2 ^ P) (s.1 94 P).toInt.toNat 1 ?_ hsh.2 (by omega) (by omega) rfl (by omega) (fun b hb => ?_) (fun J J1 _ _ => J1) (Nat.sub_le _ _)
  · rw [ep, hsh.1, y_ofN (by omega)]
  · rw [y_b2, decide_eq_true_eq]
    constructor
    · intro h
      exact ⟨0, by omega, h⟩
    · rintro ⟨k, k1, k2⟩
      rw [show k = 0 by omega] at k2
      exact k2
abbrev y_trK : List (Nat × Nat) := [(266331, 266333), (266363, 266363), (266366, 266366), (266374, 266374), (299072, 299135), (303168, 303173), (352320, 352347), (356416, 356418), (360512, 360514), (364608, 364615), (368704, 368711), (376896, 376902), (385088, 385094), (389184, 389190)]
theorem y_trNo : ∀ k, k < 28 → w_inm y_trK (w_key 85 k) = false := by decide +kernel
theorem y_tr85 {s s2 : y_H} (hf : y_fr g_sh y_trK s s2) {k : Nat} (hk : k < 28) : s2.1 85 k = s.1 85 k := y_at85 hf hk (y_trNo k hk)
theorem y_tr48 {s s2 : y_H} (hf : y_fr g_sh y_trK s s2) : s2.1 65 48 = s.1 65 48 := hf.at (o := 65) (k := 48) (A := w_n 0 7 0) rfl rfl (by decide +kernel)
theorem y_at94 {ms : List (Nat × Nat)} {s s2 : y_H} (hf : y_fr g_sh ms s s2) (hm : w_ovl ms (w_key 94 0) (w_key 94 6) = false) {j : Nat} (hj : j < 7) : s2.1 94 j = s.1 94 j := hf.at (y_tyA (o := 94) (k := j) (tag := 100) (sz := 7) (A := .inl ((2147483648, 2147483654), 0)) rfl hj) y_k94 (w_ovl_no hm (w_key_le (Nat.zero_le j)) (w_key_le (by omega)))
theorem y_up94 {n : Nat} {s s0 : y_H} {o j : Nat} {x : Int32} (ho : o = 92 ∨ o = 94 ∨ o = 95) (hT : w_T (y_Vn n) g_sh (y_mk g_sh s)) (hf : y_fr g_sh y_trK s0 s) (hj : j < 7) (h0 : 0 ≤ x.toInt) (h6 : x.toInt ≤ 6) : w_T (y_Vn n) g_sh (y_mk g_sh (y_up s o j (.inl x))) ∧ y_fr g_sh y_trK s0 (y_up s o j (.inl x)) := by
  rcases ho with rfl | rfl | rfl
  · exact ⟨y_Tup (lo := 2147483648) (hi := 2147483654) (g := 0) hT (y_tyA (tag := 100) (sz := 7) (A := .inl ((2147483648, 2147483654), 0)) rfl hj) y_lik (y_pkA (sz := 7) (by decide +kernel) hj) (by omega) (by omega), hf.up y_lik (y_msA (sz := 7) (by decide +kernel) hj)⟩
  · exact ⟨y_Tup (lo := 2147483648) (hi := 2147483654) (g := 0) hT (y_tyA (tag := 100) (sz := 7) (A := .inl ((2147483648, 2147483654), 0)) rfl hj) y_k94 (y_pkA (sz := 7) (by decide +kernel) hj) (by omega) (by omega), hf.up y_k94 (y_msA (sz := 7) (by decide +kernel) hj)⟩
  · exact ⟨y_Tup (lo := 2147483648) (hi := 2147483654) (g := 0) hT (y_tyA (tag := 100) (sz := 7) (A := .inl ((2147483648, 2147483654), 0)) rfl hj) y_k95 (y_pkA (sz := 7) (by decide +kernel) hj) (by omega) (by omega), hf.up y_k95 (y_msA (sz := 7) (by decide +kernel) hj)⟩
theorem y_pf_eq (s : y_H) (j : Nat) : y_pf s j = (s.1 94 j).toInt.toNat := rfl
theorem y_itf_0 (f : Nat → Nat) (p : Nat) : y_itf f 0 p = p := rfl
theorem y_itf_S (f : Nat → Nat) (j p : Nat) : y_itf f (j + 1) p = f (y_itf f j p) := rfl
theorem y_pf_cyc {s sA : y_H} (hs : ∀ j, j < 7 → s.1 94 j = sA.1 94 j) (hr : ∀ j, j < 7 → 0 ≤ (s.1 94 j).toInt ∧ (s.1 94 j).toInt ≤ 6) {j : Nat} (hj : j < 7) (hc : y_cyc (y_pf sA) j) : y_cyc (y_pf s) j := by
  have ef : ∀ k, y_itf (y_pf s) k j = y_itf (y_pf sA) k j ∧ y_itf (y_pf sA) k j < 7 := by
    intro k
    induction k with
    | zero =>
      rw [y_itf_0, y_itf_0]
      exact ⟨rfl, hj⟩
    | succ k ihk =>
      have h1 := hr _ ihk.2
      have h2 := hs _ ihk.2
      have e1 : y_pf s (y_itf (y_pf s) k j) = y_pf sA (y_itf (y_pf sA) k j) := by
        rw [ihk.1, y_pf_eq s, y_pf_eq sA, h2]
      rw [y_itf_S, y_itf_S]
      refine ⟨e1, ?_⟩
      rw [y_pf_eq sA (y_itf (y_pf sA) k j), ← h2]
      omega
  obtain ⟨k, k1, k2⟩ := hc
  exact ⟨k, k1, by rw [(ef k).1]; exact k2⟩
section TRA
variable {n d L : Nat} {FM : w_U} {lf m : Int32} {s0 : y_H} {Q : Option (q_V Int32) → y_H → Prop}
/-- all of left point to one of left -/
theorem y_trA (has : y_eAsTold (y_Vn n) FM) (hgo : y_eGoOn (y_Vn n)) (hsaid : y_eSaid (y_Vn n)) (hd : 7 ≤ d) (hl : lf.toInt = (L : Int)) (hL : L < 128) (hq : ∀ p, p < 7 → L.testBit p = true → y_qd s0 p) (hexit : ∀ (s : y_H) (ls : q_U Int32), w_T (y_Vn n) g_sh (y_mk g_sh s) → y_fr g_sh y_trK s0 s → (∀ p, p < 7 → L.testBit p = true → L.testBit (y_pf s p) = true) → q_at ls 0 = some (.inr (.inr 67)) → q_at ls 1 = some (.inl lf) → q_at ls 2 = some (.inl m) → y_W g_sh g_ts d g_t312 Q 52 ls [] s) : ∀ (c : Nat) (s : y_H) (p : Int32) (P : Nat), w_T (y_Vn n) g_sh (y_mk g_sh s) → y_fr g_sh y_trK s0 s → (∀ j, j < P → L.testBit j = true → L.testBit (y_pf s j) = true) → p.toInt = (P : Int) → P ≤ 7 → 7 - P ≤ c → y_W g_sh g_ts d g_t312 Q 13 [(0, .inr (.inr 67)), (1, .inl lf), (2, .inl m), (3, .inl p)] [] s := by
  have out : ∀ (s : y_H) (P : Nat) (ls : q_U Int32), w_T (y_Vn n) g_sh (y_mk g_sh s) → y_fr g_sh y_trK s0 s → (∀ j, j < P → L.testBit j = true → L.testBit (y_pf s j) = true) → (s.1 65 48).toInt ≤ (P : Int) → q_at ls 0 = some (.inr (.inr 67)) → q_at ls 1 = some (.inl lf) → q_at ls 2 = some (.inl m) → y_W g_sh g_ts d g_t312 Q 52 ls [] s := by
    intro s P ls hT hf hA hP l0 l1 l2
    refine hexit s ls hT hf (fun p hp hb => hA p ?_ hb) l0 l1 l2
    have h1 := (hq p hp hb).1
    rw [← y_tr48 hf] at h1
    omega
  intro c
  induction c with
  | zero =>
    intro s p P hT hf hA hp hP hc
    have hpr := y_pairs hT
    refine y_run 3 rfl ?_
    refine y_ic rfl (fun _ => out s P _ hT hf hA (by omega) rfl rfl rfl) (fun h => ?_)
    have h2 : ¬ (s.1 65 48).toInt ≤ p.toInt := h
    omega
  | succ c ih =>
    intro s p P hT hf hA hp hP hc
    have hpr := y_pairs hT
    refine y_run 3 rfl ?_
    refine y_ic rfl (fun h => ?_) (fun h => ?_)
    · have h2 : (s.1 65 48).toInt ≤ p.toInt := h
      exact out s P _ hT hf hA (by omega) rfl rfl rfl
    have h2 : ¬ (s.1 65 48).toInt ≤ p.toInt := h
    have hi1 : (p + (Int32.ofInt 1)).toInt = p.toInt + 1 := y_add (x := p) (y := 1) (by show _ ≤ _ + (1 : Int); omega) (by show _ + (1 : Int) ≤ _; omega)
    have next : ∀ (s2 : y_H) (ls : q_U Int32), w_T (y_Vn n) g_sh (y_mk g_sh s2) → y_fr g_sh y_trK s0 s2 → (∀ j, j < P + 1 → L.testBit j = true → L.testBit (y_pf s2 j) = true) → ls = [(0, .inr (.inr 67)), (1, .inl lf), (2, .inl m), (3, .inl p)] → y_W g_sh g_ts d g_t312 Q 46 ls [] s2 := by
      rintro s2 ls hT2 hf2 hA2 rfl
      refine y_run 2 rfl ?_
      refine y_sub (ls1 := [(0, .inr (.inr 67)), (1, .inl lf), (2, .inl m), (3, .inl ((p + (Int32.ofInt 1))))]) (show ([0, 1, 2, 3] : List Nat).Nodup by decide) (y_R_cons rfl (y_R_cons rfl (y_R_cons rfl (y_R_cons rfl y_R_nil)))) ?_
      exact ih s2 _ (P + 1) hT2 hf2 hA2 (by rw [hi1, hp]; omega) (by omega) (by omega)
    refine y_run 2 rfl ?_
    refine y_call (y_hasF (S := L) (K := P) (x := lf) (k := p) hl hp hL (by omega)) 0 rfl (fun _ _ _ => rfl) (a := [.inl lf, .inl p]) rfl rfl (fun h hR => rfl) (by omega) rfl (fun v s2 hQ => ?_)
    obtain ⟨rfl, hv⟩ := hQ
    rcases hv with ⟨rfl, hb⟩ | ⟨rfl, hb⟩
    · refine y_if rfl (fun h => absurd (show (1 : Int) = 0 from h) (by omega)) (fun _ => ?_)
      have hqs : y_qd s2 p.toInt.toNat := by
        have h3 := hq P (by omega) hb
        unfold y_qd at h3 ⊢
        rw [y_tr48 hf, show p.toInt.toNat = P by omega, y_tr85 hf (by omega)]
        exact h3
      refine y_run 8 rfl ?_
      refine y_call (y_wishOf has hgo hsaid hl hL (p := p) (by omega) (by omega)) 1 rfl (fun _ _ _ => rfl) (a := [.inr (.inr 67), .inl p, .inl lf]) rfl rfl (fun h hR => y_mayV (o := 65) (sz := 85) rfl hR) hd ⟨hT, rfl, hqs⟩ (fun v s3 hQ => ?_)
      obtain ⟨hT3, hf3, z, Z, rfl, hz, hZ, hor⟩ := hQ
      have h8 := y_now8 hT
      have e85 : s3.1 85 Z = s2.1 85 Z := y_th85 hf3 (by omega)
      have hnz := y_now0 hT3 (k := Z) (by omega)
      refine y_ald (o := 85) (sz := 28) (j := Z) rfl rfl hz (by omega) (y_k85 _ (by omega)) ?_
      refine y_ast (o := 94) (sz := 7) (j := P) rfl rfl hp (by omega) y_k94 ?_
      have hf3b : y_fr g_sh y_trK s0 s3 := hf.tr (hf3.mono (by decide +kernel))
      obtain ⟨hT4, hf4⟩ := y_up94 (o := 94) (j := P) (x := s3.1 85 Z) (by omega) hT3 hf3b (by omega) hnz.1 hnz.2
      refine next _ _ hT4 hf4 (fun j hj hbj => ?_) rfl
      unfold y_pf
      by_cases e : j = P
      · rw [e, y_up_self, e85]
        rcases hor with hor | hor
        · exact hor
        · rw [hor, show p.toInt.toNat = P by omega]
          exact hb
      · rw [y_up_ne (by omega), y_at94 hf3 (by decide +kernel) (by omega)]
        exact hA j (by omega) hbj
    · refine y_if rfl (fun _ => ?_) (fun h => absurd rfl h)
      refine next s2 _ hT hf (fun j hj hbj => ?_) rfl
      by_cases e : j = P
      · rw [e, hb] at hbj
        cases hbj
      · exact hA j (by omega) hbj
/-- who is in a round goes out -/
theorem y_trB (hmem : y_eMem (y_Vn n)) (hd : 2 ≤ d) {sA : y_H} (hl : lf.toInt = (L : Int)) (hL : L < 128) (hq : ∀ p, p < 7 → L.testBit p = true → y_qd s0 p) (hexit : ∀ (s : y_H) (m o : Int32) (O : Nat) (ls : q_U Int32), w_T (y_Vn n) g_sh (y_mk g_sh s) → y_fr g_sh y_trK s0 s → o.toInt = (O : Int) → O < 128 → (∀ j, j < 7 → L.testBit j = true → y_cyc (y_pf sA) j → O.testBit j = true) → q_at ls 0 = some (.inr (.inr 67)) → q_at ls 1 = some (.inl lf) → q_at ls 2 = some (.inl m) → q_at ls 3 = some (.inl o) → y_W g_sh g_ts d g_t312 Q 121 ls [] s) : ∀ (c : Nat) (s : y_H) (m o p : Int32) (O P : Nat), w_T (y_Vn n) g_sh (y_mk g_sh s) → y_fr g_sh y_trK s0 s → (∀ j, j < 7 → s.1 94 j = sA.1 94 j) → o.toInt = (O : Int) → O < 128 → (∀ j, j < P → L.testBit j = true → y_cyc (y_pf sA) j → O.testBit j = true) → p.toInt = (P : Int) → P ≤ 7 → 7 - P ≤ c → y_W g_sh g_ts d g_t312 Q 57 [(0, .inr (.inr 67)), (1, .inl lf), (2, .inl m), (3, .inl o), (4, .inl p)] [] s := by
  have out : ∀ (s : y_H) (m o : Int32) (O P : Nat) (ls : q_U Int32), w_T (y_Vn n) g_sh (y_mk g_sh s) → y_fr g_sh y_trK s0 s → o.toInt = (O : Int) → O < 128 → (∀ j, j < P → L.testBit j = true → y_cyc (y_pf sA) j → O.testBit j = true) → (s.1 65 48).toInt ≤ (P : Int) → q_at ls 0 = some (.inr (.inr 67)) → q_at ls 1 = some (.inl lf) → q_at ls 2 = some (.inl m) → q_at ls 3 = some (.inl o) → y_W g_sh g_ts d g_t312 Q 121 ls [] s := by
    intro s m o O P ls hT hf ho hO hB hP l0 l1 l2 l3
    refine hexit s m o O ls hT hf ho hO (fun p hp hb => hB p ?_ hb) l0 l1 l2 l3
    have h1 := (hq p hp hb).1
    rw [← y_tr48 hf] at h1
    omega
  intro c
  induction c with
  | zero =>
    intro s m o p O P hT hf hs ho hO hB hp hP hc
    have hpr := y_pairs hT
    refine y_run 3 rfl ?_
    refine y_ic rfl (fun _ => out s m o O P _ hT hf ho hO hB (by omega) rfl rfl rfl rfl) (fun h => ?_)
    have h2 : ¬ (s.1 65 48).toInt ≤ p.toInt := h
    omega
  | succ c ih =>
    intro s m o p O P hT hf hs ho hO hB hp hP hc
    have hpr := y_pairs hT
    refine y_run 3 rfl ?_
    refine y_ic rfl (fun h => ?_) (fun h => ?_)
    · have h2 : (s.1 65 48).toInt ≤ p.toInt := h
      exact out s m o O P _ hT hf ho hO hB (by omega) rfl rfl rfl rfl
    have h2 : ¬ (s.1 65 48).toInt ≤ p.toInt := h
    have hi1 : (p + (Int32.ofInt 1)).toInt = p.toInt + 1 := y_add (x := p) (y := 1) (by show _ ≤ _ + (1 : Int); omega) (by show _ + (1 : Int) ≤ _; omega)
    have next : ∀ (s2 : y_H) (m2 o2 : Int32) (O2 : Nat) (ls : q_U Int32), w_T (y_Vn n) g_sh (y_mk g_sh s2) → y_fr g_sh y_trK s0 s2 → (∀ j, j < 7 → s2.1 94 j = sA.1 94 j) → o2.toInt = (O2 : Int) → O2 < 128 → (∀ j, j < P + 1 → L.testBit j = true → y_cyc (y_pf sA) j → O2.testBit j = true) → q_at ls 0 = some (.inr (.inr 67)) → q_at ls 1 = some (.inl lf) → q_at ls 2 = some (.inl m2) → q_at ls 3 = some (.inl o2) → q_at ls 4 = some (.inl p) → y_W g_sh g_ts d g_t312 Q 115 ls [] s2 := by
      intro s2 m2 o2 O2 ls hT2 hf2 hs2 ho2 hO2 hB2 l0 l1 l2 l3 l4
      refine y_sub (ls1 := [(0, .inr (.inr 67)), (1, .inl lf), (2, .inl m2), (3, .inl o2), (4, .inl p)]) (show ([0, 1, 2, 3, 4] : List Nat).Nodup by decide) (y_R_cons l0 (y_R_cons l1 (y_R_cons l2 (y_R_cons l3 (y_R_cons l4 y_R_nil))))) ?_
      refine y_run 2 rfl ?_
      refine y_sub (ls1 := [(0, .inr (.inr 67)), (1, .inl lf), (2, .inl m2), (3, .inl o2), (4, .inl ((p + (Int32.ofInt 1))))]) (show ([0, 1, 2, 3, 4] : List Nat).Nodup by decide) (y_R_cons rfl (y_R_cons rfl (y_R_cons rfl (y_R_cons rfl (y_R_cons rfl y_R_nil))))) ?_
      exact ih s2 m2 o2 _ O2 (P + 1) hT2 hf2 hs2 ho2 hO2 hB2 (by rw [hi1, hp]; omega) (by omega) (by omega)
    have el := y_toN hl (by omega)
    have eo := y_toN ho (by omega)
    have han := y_ban L hL O hO
    have hle : L &&& (127 ^^^ O) ≤ L := Nat.and_le_left
    have hx : (lf &&& (o ^^^ Int32.ofInt (-1))).toInt = ((L &&& (127 ^^^ O) : Nat) : Int) := by
      rw [el, eo, han, y_ofN (by omega)]
    refine y_run 6 rfl ?_
    refine y_call (y_hasF (S := L &&& (127 ^^^ O)) (K := P) (x := lf &&& (o ^^^ Int32.ofInt (-1))) (k := p) hx hp (by omega) (by omega)) 0 rfl (fun _ _ _ => rfl) (a := [.inl ((lf &&& (o ^^^ Int32.ofInt (-1)))), .inl p]) rfl rfl (fun h hR => rfl) (by omega) rfl (fun v s2 hQ => ?_)
    obtain ⟨rfl, hv⟩ := hQ
    rcases hv with ⟨rfl, hb⟩ | ⟨rfl, hb⟩
    · refine y_if rfl (fun _ => ?_) (fun h => absurd (show (1 : Int) ≠ 0 by omega) h)
      refine y_run 2 rfl ?_
      refine y_call (y_roundOf (V := y_Vn n) hp (by omega)) 1 rfl (fun _ _ _ => rfl) (a := [.inr (.inr 67), .inl p]) rfl rfl (fun h hR => y_mayV (o := 65) (sz := 85) rfl hR) (by omega) ⟨hT, rfl⟩ (fun v s3 hQ => ?_)
      obtain ⟨rfl, z, Z, rfl, hz, hZ, hcyc⟩ := hQ
      have ez := y_toN hz (by omega)
      have hoo := y_boo O hO Z hZ
      have fin : ∀ (s4 : y_H) (b : Int32) (ls : q_U Int32), w_T (y_Vn n) g_sh (y_mk g_sh s4) → y_fr g_sh y_trK s0 s4 → (∀ j, j < 7 → s4.1 94 j = sA.1 94 j) → q_at ls 0 = some (.inr (.inr 67)) → q_at ls 1 = some (.inl lf) → q_at ls 3 = some (.inl o) → q_at ls 4 = some (.inl p) → q_at ls 5 = some (.inl z) → y_W g_sh g_ts d g_t312 Q 105 ls [.inl b, .inl m] s4 := by
        intro s4 b ls hT4 hf4 hs4 l0 l1 l3 l4 l5
        refine y_sub (ls1 := [(0, .inr (.inr 67)), (1, .inl lf), (3, .inl o), (4, .inl p), (5, .inl z)]) (show ([0, 1, 3, 4, 5] : List Nat).Nodup by decide) (y_R_cons l0 (y_R_cons l1 (y_R_cons l3 (y_R_cons l4 (y_R_cons l5 y_R_nil))))) ?_
        refine y_call y_truthF 0 rfl (fun _ _ _ => rfl) (a := [.inl b]) rfl rfl (fun h hR => rfl) (by omega) ⟨_, rfl⟩ (fun v s5 hQ => ?_)
        obtain ⟨rfl, hQu⟩ := hQ
        have go : ∀ t : Int32, y_W g_sh g_ts d g_t312 Q 108 [(0, .inr (.inr 67)), (1, .inl lf), (3, .inl o), (4, .inl p), (5, .inl z)] [.inl t, .inl m] s5 := by
          intro t
          refine y_run 6 rfl ?_
          refine next s5 _ (o ||| z) (O ||| Z) _ hT4 hf4 hs4 ?_ hoo.2 (fun j hj hbj hcj => ?_) rfl rfl rfl rfl rfl
          · rw [eo, ez, hoo.1, y_ofN (by omega)]
          · rw [Nat.testBit_or, Bool.or_eq_true]
            by_cases e : j = P
            · subst e
              refine Or.inr (hcyc ?_)
              exact y_pf_cyc hs (fun i hi => y_ptr hT hi) (by omega) hcj
            · exact Or.inl (hB j (by omega) hbj hcj)
        rcases hQu _ rfl with ⟨-, rfl⟩ | ⟨-, rfl⟩
        · exact go _
        · exact go _
      refine y_run 3 rfl ?_
      refine y_callI ⟨rfl, hmem⟩ 0 rfl (fun _ _ _ => rfl) (a := [.inl z]) rfl rfl (fun h hR => rfl) (by omega) hT ⟨y_iv (by omega) (by omega), True.intro⟩ (fun mm s4 hT4 hf4 _ _ => ?_)
      have hf4b : y_fr g_sh y_trK s0 s4 := hf.tr (hf4.mono rfl)
      have hs4 : ∀ j, j < 7 → s4.1 94 j = sA.1 94 j := fun j hj => (y_at94 hf4 rfl hj).trans (hs j hj)
      refine y_run 1 rfl ?_
      refine y_ic rfl (fun _ => ?_) (fun _ => ?_)
      · refine y_run 1 rfl ?_
        exact fin s4 _ _ hT4 hf4b hs4 rfl rfl rfl rfl rfl
      · refine y_run 2 rfl ?_
        exact fin s4 _ _ hT4 hf4b hs4 rfl rfl rfl rfl rfl
    · refine y_if rfl (fun h => absurd rfl h) (fun _ => ?_)
      refine y_run 1 rfl ?_
      refine next s2 m o O _ hT hf hs ho hO (fun j hj hbj hcj => ?_) rfl rfl rfl rfl rfl
      by_cases e : j = P
      · subst e
        rw [Nat.testBit_and, Nat.testBit_xor, y_b127 j (by omega), hbj] at hb
        cases hx2 : O.testBit j with
        | true => rfl
        | false => rw [hx2] at hb; cases hb
      · exact hB j (by omega) hbj hcj
end TRA
