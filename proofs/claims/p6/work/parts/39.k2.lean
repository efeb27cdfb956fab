/-! by hand: the model's nextRow: the next row in rising order -/
/-- the first N are all different -/
def y_dst (f : Nat → Int32) (N : Nat) : Prop := ∀ i j, i < N → j < N → f i = f j → i = j
/-- a row as a number -/
def y_nm (f : Nat → Int32) : Nat → Nat
  | 0 => 0
  | n + 1 => y_nm f n * 8 + (f n).toInt.toNat
theorem y_nm_eq {f g : Nat → Int32} : ∀ n, (∀ i, i < n → f i = g i) → y_nm f n = y_nm g n := by
  intro n
  induction n with
  | zero => intro _; rfl
  | succ n ih =>
    intro h
    show y_nm f n * 8 + (f n).toInt.toNat = y_nm g n * 8 + (g n).toInt.toNat
    rw [ih (fun i hi => h i (by omega)), h n (by omega)]
theorem y_nm_lt {f g : Nat → Int32} {K : Nat} : ∀ n, (∀ i, i < n → 0 ≤ (f i).toInt ∧ (f i).toInt ≤ 7) → (∀ i, i < n → 0 ≤ (g i).toInt ∧ (g i).toInt ≤ 7) → K < n → (∀ i, i < K → f i = g i) → (f K).toInt < (g K).toInt → y_nm f n < y_nm g n := by
  intro n
  induction n with
  | zero => intro _ _ h; omega
  | succ n ih =>
    intro hf hg hK he hl
    show y_nm f n * 8 + (f n).toInt.toNat < y_nm g n * 8 + (g n).toInt.toNat
    have f1 := hf n (by omega)
    have g1 := hg n (by omega)
    rcases Nat.lt_or_ge K n with q | q
    · have := ih (fun i hi => hf i (by omega)) (fun i hi => hg i (by omega)) q he hl
      omega
    · have e : K = n := by omega
      subst e
      rw [y_nm_eq K he]
      omega
theorem y_nm_b {f : Nat → Int32} : ∀ n, (∀ i, i < n → 0 ≤ (f i).toInt ∧ (f i).toInt ≤ 7) → y_nm f n < 8 ^ n := by
  intro n
  induction n with
  | zero => intro _; show 0 < 1; omega
  | succ n ih =>
    intro h
    show y_nm f n * 8 + (f n).toInt.toNat < 8 ^ (n + 1)
    have h1 := ih (fun i hi => h i (by omega))
    have h2 := h n (by omega)
    rw [Nat.pow_succ]
    omega
theorem y_dst_sw {f g : Nat → Int32} {N a b : Nat} (h : y_dst f N) (ha : a < N) (hb : b < N) (e1 : g a = f b) (e2 : g b = f a) (e3 : ∀ i, i ≠ a → i ≠ b → g i = f i) : y_dst g N := by
  intro i j hi hj e
  have key : ∀ i, i < N → ∃ k, k < N ∧ g i = f k ∧ ((i = a ∧ k = b) ∨ (i = b ∧ k = a) ∨ (i ≠ a ∧ i ≠ b ∧ k = i)) := by
    intro i hi
    by_cases c1 : i = a
    · exact ⟨b, hb, by rw [c1, e1], Or.inl ⟨c1, rfl⟩⟩
    · by_cases c2 : i = b
      · exact ⟨a, ha, by rw [c2, e2], Or.inr (Or.inl ⟨c2, rfl⟩)⟩
      · exact ⟨i, hi, e3 i c1 c2, Or.inr (Or.inr ⟨c1, c2, rfl⟩)⟩
  obtain ⟨k, hk, ek, ck⟩ := key i hi
  obtain ⟨l, hl, el, cl⟩ := key j hj
  rw [ek, el] at e
  have := h k l hk hl e
  omega
abbrev y_rwK : List (Nat × Nat) := [(380992, 380998)]
theorem y_rwk {j : Nat} : y_kd g_sh 93 j = 0 := y_kdA (tag := 100) (sz := 7) (a := ((2147483648, 2147483654), 0)) rfl
theorem y_rwt {j : Nat} (hj : j < 7) : w_ty g_sh 93 j = some (.inl ((2147483648, 2147483654), 0)) := y_tyA (tag := 100) (sz := 7) (A := .inl ((2147483648, 2147483654), 0)) rfl hj
theorem y_rwr {V : w_V} {s : y_H} (hT : w_T V g_sh (y_mk g_sh s)) {j : Nat} (hj : j < 7) : 0 ≤ (s.1 93 j).toInt ∧ (s.1 93 j).toInt ≤ 6 := by
  have h := y_rng (lo := 2147483648) (hi := 2147483654) (g := 0) hT (o := 93) (k := j) (y_rwt hj) y_rwk
  omega
theorem y_rwUp {V : w_V} {s : y_H} {j : Nat} {v : Int32} (hT : w_T V g_sh (y_mk g_sh s)) (hj : j < 7) (h1 : 0 ≤ v.toInt) (h2 : v.toInt ≤ 6) : w_T V g_sh (y_mk g_sh (y_up s 93 j (.inl v))) :=
  y_Tup (lo := 2147483648) (hi := 2147483654) (g := 0) hT (y_rwt hj) y_rwk (y_pkA (sz := 7) (by decide +kernel) hj) (by omega) (by omega)
section RW
variable {V : w_V} {d : Nat} {t : q_T} {Q : Option (q_V Int32) → y_H → Prop} {p : Nat} {ls : q_U Int32} {st : List (q_V Int32)} {s : y_H}
theorem y_ald93 {r : List Nat} {x : Int32} {j : Nat} (hq : q_get t p = some (.iaload, 1, r)) (hx : x.toInt = (j : Int)) (hj : j < 7) (hw : y_W g_sh g_ts d t Q (p + 1) ls (.inl (s.1 93 j) :: st) s) : y_W g_sh g_ts d t Q p ls (.inl x :: .inr (.inr 95) :: st) s :=
  y_ald (o := 93) (sz := 7) (j := j) hq rfl hx hj y_rwk hw
theorem y_ast93 {r : List Nat} {x v : Int32} {j : Nat} (hq : q_get t p = some (.iastore, 1, r)) (hx : x.toInt = (j : Int)) (hj : j < 7) (hw : y_W g_sh g_ts d t Q (p + 1) ls st (y_up s 93 j (.inl v))) : y_W g_sh g_ts d t Q p ls (.inl v :: .inl x :: .inr (.inr 95) :: st) s :=
  y_ast (o := 93) (sz := 7) (j := j) hq rfl hx hj y_rwk hw
end RW
/-- two places of the row changed -/
def y_xrQ (V : w_V) (A B : Nat) (s : y_H) (v : Option (q_V Int32)) (s2 : y_H) : Prop := v = none ∧ w_T V g_sh (y_mk g_sh s2) ∧ y_fr g_sh y_rwK s s2 ∧ s2.1 93 A = s.1 93 B ∧ s2.1 93 B = s.1 93 A ∧ ∀ i, i ≠ A → i ≠ B → s2.1 93 i = s.1 93 i
theorem y_xr {V : w_V} : y_C g_sh g_ts 200 1 (fun a s => w_T V g_sh (y_mk g_sh s) ∧ ∃ (x y : Int32) (A B : Nat), a = [.inr (.inr 67), .inl x, .inl y] ∧ x.toInt = (A : Int) ∧ y.toInt = (B : Int) ∧ A < 7 ∧ B < 7) (fun a s v s2 => ∀ (x y : Int32) (A B : Nat), a = [.inr (.inr 67), .inl x, .inl y] → x.toInt = (A : Int) → y.toInt = (B : Int) → y_xrQ V A B s v s2) := by
  refine y_C.of (t := g_t200) rfl (by decide) ?_
  rintro d a s hd ⟨hT, x, y, A, B, rfl, hx, hy, hA, hB⟩
  have key : y_W g_sh g_ts d g_t200 (y_xrQ V A B s) 0 (q_args 0 [.inr (.inr 67), .inl x, .inl y]) [] s := by
    have rA := y_rwr hT hA
    have rB := y_rwr hT hB
    refine y_run 3 rfl ?_
    refine y_ald93 (j := A) rfl hx hA ?_
    refine y_run 7 rfl ?_
    refine y_ald93 (j := B) rfl hy hB ?_
    refine y_ast93 (j := A) rfl hx hA ?_
    have hT2 := y_rwUp (v := s.1 93 B) hT hA rB.1 rB.2
    have hf2 := (y_fr.rf (sh := g_sh) (ms := y_rwK) (s := s)).up (o := 93) (k := A) (v := .inl (s.1 93 B)) y_rwk (y_msA (sz := 7) (by decide +kernel) hA)
    refine y_run 4 rfl ?_
    refine y_ast93 (j := B) rfl hy hB ?_
    refine y_vret rfl ⟨rfl, y_rwUp hT2 hB rA.1 rA.2, hf2.up (o := 93) (k := B) (v := .inl (s.1 93 A)) y_rwk (y_msA (sz := 7) (by decide +kernel) hB), ?_, y_up_self, ?_⟩
    · by_cases e : A = B
      · subst e
        exact y_up_self
      · rw [y_up_ne (by omega), y_up_self]
    · intro i h1 h2
      rw [y_up_ne (by omega), y_up_ne (by omega)]
  intro h ns hR
  obtain ⟨v, h2, s2, he, hR2, hQ⟩ := key h ns hR
  refine ⟨v, h2, s2, he, hR2, fun x2 y2 A2 B2 e hx2 hy2 => ?_⟩
  cases e
  have e3 : A2 = A := by omega
  have e4 : B2 = B := by omega
  subst e3
  subst e4
  exact hQ
/-- a row further on -/
def y_nrQ (V : w_V) (N : Nat) (s : y_H) (v : Option (q_V Int32)) (s2 : y_H) : Prop := w_T V g_sh (y_mk g_sh s2) ∧ y_fr g_sh y_rwK s s2 ∧ (v = some (.inl 0) ∨ (v = some (.inl 1) ∧ y_dst (fun i => s2.1 93 i) N ∧ y_nm (fun i => s.1 93 i) N < y_nm (fun i => s2.1 93 i) N))
section NR
variable {V : w_V} {d : Nat} {N : Nat} {n0 : Int32} {s0 : y_H}
/-- what lies behind K is turned round -/
theorem y_nr3 (hd : 1 ≤ d) (hN : N ≤ 7) {K : Nat} (hK : K < N) (hT0 : w_T V g_sh (y_mk g_sh s0)) : ∀ (m : Nat) (s : y_H) (lo hi : Int32) (L : Nat), w_T V g_sh (y_mk g_sh s) → y_fr g_sh y_rwK s0 s → y_dst (fun i => s.1 93 i) N → (∀ i, i < K → s.1 93 i = s0.1 93 i) → (s0.1 93 K).toInt < (s.1 93 K).toInt → lo.toInt = (L : Int) → K < L → L ≤ 8 → hi.toInt < (N : Int) → -10 ≤ hi.toInt → hi.toInt - lo.toInt ≤ (m : Int) → y_W g_sh g_ts d g_t264 (y_nrQ V N s0) 78 [(0, .inr (.inr 67)), (4, .inl lo), (5, .inl hi)] [] s := by
  have fin : ∀ (s : y_H) (ls : q_U Int32), w_T V g_sh (y_mk g_sh s) → y_fr g_sh y_rwK s0 s → y_dst (fun i => s.1 93 i) N → (∀ i, i < K → s.1 93 i = s0.1 93 i) → (s0.1 93 K).toInt < (s.1 93 K).toInt → y_W g_sh g_ts d g_t264 (y_nrQ V N s0) 102 ls [] s := by
    intro s ls hT hf hD hp hl
    refine y_run 1 rfl ?_
    refine y_bret rfl (Or.inr rfl) ⟨hT, hf, Or.inr ⟨rfl, hD, ?_⟩⟩
    refine y_nm_lt (K := K) N (fun i hi => ?_) (fun i hi => ?_) hK (fun i hi => (hp i hi).symm) hl
    · have := y_rwr hT0 (j := i) (by omega)
      exact ⟨this.1, by omega⟩
    · have := y_rwr hT (j := i) (by omega)
      exact ⟨this.1, by omega⟩
  intro m
  induction m with
  | zero =>
    intro s lo hi L hT hf hD hp hl hlo hKL hL hhi hhi0 hm
    refine y_run 2 rfl ?_
    refine y_ic rfl (fun _ => fin s _ hT hf hD hp hl) (fun h => ?_)
    have h2 : ¬ hi.toInt ≤ lo.toInt := h
    omega
  | succ m ih =>
    intro s lo hi L hT hf hD hp hl hlo hKL hL hhi hhi0 hm
    refine y_run 2 rfl ?_
    refine y_ic rfl (fun _ => fin s _ hT hf hD hp hl) (fun h => ?_)
    have h2 : ¬ hi.toInt ≤ lo.toInt := h
    have a1 : (lo + Int32.ofInt 1).toInt = lo.toInt + 1 := y_add (x := lo) (y := 1) (by show _ ≤ _ + (1 : Int); omega) (by show _ + (1 : Int) ≤ _; omega)
    obtain ⟨hi', eh, ehi⟩ := y_dec1 (n := hi) (by omega)
    refine y_run 3 rfl ?_
    refine y_call (y_xr (V := V)) 1 rfl (fun _ _ _ => rfl) (a := [.inr (.inr 67), .inl lo, .inl hi]) rfl rfl (fun h hR => y_mayV (o := 65) (sz := 85) rfl hR) hd ⟨hT, lo, hi, L, hi.toInt.toNat, rfl, hlo, by omega, by omega, by omega⟩ (fun v s2 hQ => ?_)
    obtain ⟨rfl, hT2, hf2, e1, e2, e3⟩ := hQ lo hi L hi.toInt.toNat rfl hlo (by omega)
    refine y_run 3 rfl ?_
    refine y_sub (ls1 := [(0, .inr (.inr 67)), (4, .inl (lo + Int32.ofInt 1)), (5, .inl hi')]) (show ([0, 4, 5] : List Nat).Nodup by decide) (y_R_cons rfl (y_R_cons rfl (y_R_cons (by rw [eh]; rfl) y_R_nil))) ?_
    refine ih s2 _ hi' (L + 1) hT2 (hf.tr hf2) (y_dst_sw hD (a := L) (b := hi.toInt.toNat) (by omega) (by omega) e1 e2 e3) (fun i hi2 => ?_) ?_ (by rw [a1, hlo]; omega) (by omega) (by omega) (by omega) (by omega) (by omega)
    · rw [e3 i (by omega) (by omega)]
      exact hp i hi2
    · rw [e3 K (by omega) (by omega)]
      exact hl
/-- they change, and what lies behind is turned round -/
theorem y_nr2e (hd : 1 ≤ d) (hN : N ≤ 7) (hn : n0.toInt = (N : Int)) (hT0 : w_T V g_sh (y_mk g_sh s0)) (hD : y_dst (fun i => s0.1 93 i) N) {K J : Nat} {k j : Int32} (hk : k.toInt = (K : Int)) (hK : K + 1 < N) (hj : j.toInt = (J : Int)) (hKJ : K < J) (hJN : J < N) (hge : (s0.1 93 K).toInt ≤ (s0.1 93 J).toInt) : y_W g_sh g_ts d g_t264 (y_nrQ V N s0) 62 [(0, .inr (.inr 67)), (1, .inl n0), (2, .inl k), (3, .inl j)] [] s0 := by
  have hlt : (s0.1 93 K).toInt < (s0.1 93 J).toInt := by
    have hne : (s0.1 93 K).toInt ≠ (s0.1 93 J).toInt := fun e => by
      have := hD K J (by omega) hJN (Int32.toInt_inj.mp e)
      omega
    omega
  refine y_run 3 rfl ?_
  refine y_call (y_xr (V := V)) 1 rfl (fun _ _ _ => rfl) (a := [.inr (.inr 67), .inl k, .inl j]) rfl rfl (fun h hR => y_mayV (o := 65) (sz := 85) rfl hR) hd ⟨hT0, k, j, K, J, rfl, hk, hj, by omega, by omega⟩ (fun v s2 hQ => ?_)
  obtain ⟨rfl, hT2, hf2, e1, e2, e3⟩ := hQ k j K J rfl hk hj
  have a1 : (k + Int32.ofInt 1).toInt = k.toInt + 1 := y_add (x := k) (y := 1) (by show _ ≤ _ + (1 : Int); omega) (by show _ + (1 : Int) ≤ _; omega)
  have a2 : (n0 - Int32.ofInt 1).toInt = n0.toInt - 1 := y_sb (x := n0) (y := 1) (by show _ ≤ _ - (1 : Int); omega) (by show _ - (1 : Int) ≤ _; omega)
  refine y_run 8 rfl ?_
  refine y_sub (ls1 := [(0, .inr (.inr 67)), (4, .inl (k + Int32.ofInt 1)), (5, .inl (n0 - Int32.ofInt 1))]) (show ([0, 4, 5] : List Nat).Nodup by decide) (y_R_cons rfl (y_R_cons rfl (y_R_cons rfl y_R_nil))) ?_
  refine y_nr3 hd hN (K := K) (by omega) hT0 8 s2 _ _ (K + 1) hT2 hf2 (y_dst_sw hD (a := K) (b := J) (by omega) hJN e1 e2 e3) (fun i hi => e3 i (by omega) (by omega)) (by rw [e1]; exact hlt) (by rw [a1, hk]; omega) (by omega) (by omega) (by rw [a2]; omega) (by rw [a2]; omega) (by rw [a1, a2]; omega)
/-- from behind, the first that is no less -/
theorem y_nr2 (hd : 1 ≤ d) (hN : N ≤ 7) (hn : n0.toInt = (N : Int)) (hT0 : w_T V g_sh (y_mk g_sh s0)) (hD : y_dst (fun i => s0.1 93 i) N) {K : Nat} {k : Int32} (hk : k.toInt = (K : Int)) (hK : K + 1 < N) (hup : (s0.1 93 K).toInt ≤ (s0.1 93 (K + 1)).toInt) : ∀ (m : Nat) (j : Int32) (J : Nat), j.toInt = (J : Int) → K < J → J < N → J ≤ K + 1 + m → y_W g_sh g_ts d g_t264 (y_nrQ V N s0) 41 [(0, .inr (.inr 67)), (1, .inl n0), (2, .inl k), (3, .inl j)] [] s0 := by
  intro m
  induction m with
  | zero =>
    intro j J hj hKJ hJN hm
    have eJ : J = K + 1 := by omega
    refine y_run 3 rfl ?_
    refine y_ald93 (j := J) rfl hj (by omega) ?_
    refine y_run 3 rfl ?_
    refine y_ald93 (j := K) rfl hk (by omega) ?_
    refine y_ic rfl (fun _ => ?_) (fun h => ?_)
    · exact y_nr2e hd hN hn hT0 hD hk hK hj hKJ hJN (by rw [eJ]; exact hup)
    · have h2 : ¬ (s0.1 93 K).toInt ≤ (s0.1 93 J).toInt := h
      rw [eJ] at h2
      omega
  | succ m ih =>
    intro j J hj hKJ hJN hm
    refine y_run 3 rfl ?_
    refine y_ald93 (j := J) rfl hj (by omega) ?_
    refine y_run 3 rfl ?_
    refine y_ald93 (j := K) rfl hk (by omega) ?_
    refine y_ic rfl (fun h => ?_) (fun h => ?_)
    · exact y_nr2e hd hN hn hT0 hD hk hK hj hKJ hJN h
    · have h2 : ¬ (s0.1 93 K).toInt ≤ (s0.1 93 J).toInt := h
      have hne : J ≠ K + 1 := fun e => by
        rw [e] at h2
        omega
      obtain ⟨j', ej, ej2⟩ := y_dec1 (n := j) (by omega)
      refine y_run 2 rfl ?_
      refine y_sub (ls1 := [(0, .inr (.inr 67)), (1, .inl n0), (2, .inl k), (3, .inl j')]) (show ([0, 1, 2, 3] : List Nat).Nodup by decide) (y_R_cons rfl (y_R_cons rfl (y_R_cons rfl (y_R_cons (by rw [ej]; rfl) y_R_nil)))) ?_
      exact ih j' (J - 1) (by omega) (by omega) (by omega) (by omega)
/-- from behind, the first that is no more than the next -/
theorem y_nr1 (hd : 1 ≤ d) (hN : N ≤ 7) (hn : n0.toInt = (N : Int)) (hT0 : w_T V g_sh (y_mk g_sh s0)) (hD : y_dst (fun i => s0.1 93 i) N) : ∀ (m : Nat) (k : Int32), -2 ≤ k.toInt → k.toInt + 2 ≤ (N : Int) → k.toInt + 2 ≤ (m : Int) → y_W g_sh g_ts d g_t264 (y_nrQ V N s0) 4 [(0, .inr (.inr 67)), (1, .inl n0), (2, .inl k)] [] s0 := by
  have out : ∀ k : Int32, k.toInt < 0 → y_W g_sh g_ts d g_t264 (y_nrQ V N s0) 31 [(0, .inr (.inr 67)), (1, .inl n0), (2, .inl k)] [] s0 := by
    intro k h
    refine y_run 1 rfl ?_
    refine y_if rfl (fun h2 => absurd (show 0 ≤ k.toInt from h2) (by omega)) (fun _ => ?_)
    refine y_run 1 rfl ?_
    exact y_bret rfl (Or.inl rfl) ⟨hT0, y_fr.rf, Or.inl rfl⟩
  intro m
  induction m with
  | zero =>
    intro k h1 h2 h3
    refine y_run 1 rfl ?_
    refine y_if rfl (fun _ => out k (by omega)) (fun h => absurd (show k.toInt < 0 by omega) h)
  | succ m ih =>
    intro k h1 h2 h3
    refine y_run 1 rfl ?_
    refine y_if rfl (fun h => out k h) (fun h => ?_)
    have h4 : ¬ k.toInt < 0 := h
    have a1 : (k + Int32.ofInt 1).toInt = k.toInt + 1 := y_add (x := k) (y := 1) (by show _ ≤ _ + (1 : Int); omega) (by show _ + (1 : Int) ≤ _; omega)
    refine y_run 3 rfl ?_
    refine y_ald93 (j := k.toInt.toNat) rfl (by omega) (by omega) ?_
    refine y_run 5 rfl ?_
    refine y_ald93 (j := k.toInt.toNat + 1) rfl (by rw [a1]; omega) (by omega) ?_
    refine y_ic rfl (fun hle => ?_) (fun _ => ?_)
    · have hle2 : (s0.1 93 k.toInt.toNat).toInt ≤ (s0.1 93 (k.toInt.toNat + 1)).toInt := hle
      have a2 : (n0 - Int32.ofInt 1).toInt = n0.toInt - 1 := y_sb (x := n0) (y := 1) (by show _ ≤ _ - (1 : Int); omega) (by show _ - (1 : Int) ≤ _; omega)
      refine y_run 1 rfl ?_
      refine y_if rfl (fun _ => ?_) (fun h5 => absurd (show 0 ≤ k.toInt by omega) h5)
      refine y_run 4 rfl ?_
      refine y_sub (ls1 := [(0, .inr (.inr 67)), (1, .inl n0), (2, .inl k), (3, .inl (n0 - Int32.ofInt 1))]) (show ([0, 1, 2, 3] : List Nat).Nodup by decide) (y_R_cons rfl (y_R_cons rfl (y_R_cons rfl (y_R_cons rfl y_R_nil)))) ?_
      exact y_nr2 hd hN hn hT0 hD (K := k.toInt.toNat) (by omega) (by omega) hle2 8 _ (N - 1) (by rw [a2]; omega) (by omega) (by omega) (by omega)
    · obtain ⟨k', ek, ek2⟩ := y_dec1 (n := k) (by omega)
      refine y_run 2 rfl ?_
      refine y_sub (ls1 := [(0, .inr (.inr 67)), (1, .inl n0), (2, .inl k')]) (show ([0, 1, 2] : List Nat).Nodup by decide) (y_R_cons rfl (y_R_cons rfl (y_R_cons (by rw [ek]; rfl) y_R_nil))) ?_
      exact ih k' (by omega) (by omega) (by omega)
end NR
theorem y_nextRow {V : w_V} : y_C g_sh g_ts 264 2 (fun a s => w_T V g_sh (y_mk g_sh s) ∧ ∃ (x : Int32) (N : Nat), a = [.inr (.inr 67), .inl x] ∧ x.toInt = (N : Int) ∧ N ≤ 7 ∧ y_dst (fun i => s.1 93 i) N) (fun a s v s2 => ∀ (x : Int32) (N : Nat), a = [.inr (.inr 67), .inl x] → x.toInt = (N : Int) → y_nrQ V N s v s2) := by
  refine y_C.of (t := g_t264) rfl (by decide) ?_
  rintro d a s hd ⟨hT, x, N, rfl, hx, hN, hD⟩
  have key : y_W g_sh g_ts d g_t264 (y_nrQ V N s) 0 (q_args 0 [.inr (.inr 67), .inl x]) [] s := by
    have a2 : (x - Int32.ofInt 2).toInt = x.toInt - 2 := y_sb (x := x) (y := 2) (by show _ ≤ _ - (2 : Int); omega) (by show _ - (2 : Int) ≤ _; omega)
    refine y_run 4 rfl ?_
    refine y_sub (ls1 := [(0, .inr (.inr 67)), (1, .inl x), (2, .inl (x - Int32.ofInt 2))]) (show ([0, 1, 2] : List Nat).Nodup by decide) (y_R_cons rfl (y_R_cons rfl (y_R_cons rfl y_R_nil))) ?_
    exact y_nr1 (by omega) hN hx hT hD 8 _ (by rw [a2]; omega) (by rw [a2]; omega) (by rw [a2]; omega)
  intro h ns hR
  obtain ⟨v, h2, s2, he, hR2, hQ⟩ := key h ns hR
  refine ⟨v, h2, s2, he, hR2, fun x2 N2 e hx2 => ?_⟩
  cases e
  have e3 : N2 = N := by omega
  subst e3
  exact hQ
