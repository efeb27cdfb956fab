/-! by hand: the model's rows: keepAir, fill, act -/
def y_rgo (A : Option w_A) : Option (Nat × Nat) := match A with
  | some (.inl (J, 0)) => some J
  | _ => none
theorem y_rgo_ok {A : Option w_A} {J : Nat × Nat} (h : y_rgo A = some J) : A = some (.inl (J, 0)) := by
  unfold y_rgo at h
  split at h
  · cases h
    rfl
  · cases h
theorem y_tyP {o tag sz k : Nat} {l : List w_A} (h : g_sh[o]? = some (tag, sz, l)) (hk : k < sz) : w_ty g_sh o k = (l[k % l.length]?).map w_kz := by
  unfold w_ty
  rw [h]
  dsimp only
  rw [show Nat.blt k sz = true by rw [Nat.blt_eq]; exact hk, cond_true]
def y_nl : List w_A := [w_n 0 6 0, w_n 0 6 0, w_n 0 6 0, w_n 0 6 0, w_n 0 6 0, w_n 0 6 0, w_n 0 6 0, w_n 0 6 0, w_n 0 7 0, w_n 0 4 0, w_n 0 4 0, w_n 0 4 0, w_n 0 4 0, w_n 0 4 0, w_n 0 4 0, w_n 0 4 0, w_n 0 4 0, w_t 0, w_g 2147483647 2147483654 0, w_g 2147483647 2147483654 0, w_g 2147483647 2147483654 0, w_t 0, w_t 0, w_t 0, w_t 0, w_t 0, w_t 0, w_t 0]
theorem y_ty91 {j k : Nat} (hj : j < 40) (hk : k < 28) : w_ty g_sh 91 (28 * j + k) = w_ty g_sh 85 k := by
  rw [y_tyP (o := 91) (tag := 100) (sz := 1120) (l := y_nl) rfl (by omega), y_tyP (o := 85) (tag := 100) (sz := 28) (l := y_nl) rfl (by omega), show y_nl.length = 28 from rfl, show (28 * j + k) % 28 = k % 28 by omega]
theorem y_ty105 {j k : Nat} (hj : j < 3) (hk : k < 28) : w_ty g_sh 105 (28 * j + k) = w_ty g_sh 85 k := by
  rw [y_tyP (o := 105) (tag := 100) (sz := 84) (l := y_nl) rfl (by omega), y_tyP (o := 85) (tag := 100) (sz := 28) (l := y_nl) rfl (by omega), show y_nl.length = 28 from rfl, show (28 * j + k) % 28 = k % 28 by omega]
theorem y_k85 : ∀ k, k < 28 → y_kd g_sh 85 k = 0 := by decide +kernel
theorem y_k91 : ∀ k, k < 1120 → y_kd g_sh 91 k = 0 := by decide +kernel
theorem y_k105 : ∀ k, k < 84 → y_kd g_sh 105 k = 0 := by decide +kernel
theorem y_k104 : ∀ k, k < 3 → y_kd g_sh 104 k = 0 := by decide +kernel
theorem y_r85 : ∀ k, k < 28 → (y_rgo (w_ty g_sh 85 k)).isSome = true := by decide +kernel
def y_rowOK (f : Nat → Int32) : Prop := ∀ k, k < 28 → ∃ lo hi : Nat, w_ty g_sh 85 k = some (.inl ((lo, hi), 0)) ∧ (lo : Int) - 2147483648 ≤ (f k).toInt ∧ (f k).toInt ≤ (hi : Int) - 2147483648
theorem y_row85 {V : w_V} {s : y_H} (hT : w_T V g_sh (y_mk g_sh s)) : y_rowOK (s.1 85) := by
  intro k hk
  have h1 := y_r85 k hk
  rw [Option.isSome_iff_exists] at h1
  obtain ⟨⟨lo, hi⟩, e⟩ := h1
  have e2 := y_rgo_ok e
  exact ⟨lo, hi, e2, y_rng (lo := lo) (hi := hi) (g := 0) hT e2 (y_k85 k hk)⟩
theorem y_row91 {V : w_V} {s : y_H} (hT : w_T V g_sh (y_mk g_sh s)) {j : Nat} (hj : j < 40) : y_rowOK (fun k => s.1 91 (28 * j + k)) := by
  intro k hk
  have h1 := y_r85 k hk
  rw [Option.isSome_iff_exists] at h1
  obtain ⟨⟨lo, hi⟩, e⟩ := h1
  have e2 := y_rgo_ok e
  exact ⟨lo, hi, e2, y_rng (lo := lo) (hi := hi) (g := 0) hT ((y_ty91 hj hk).trans e2) (y_k91 _ (by omega))⟩
theorem y_row105 {V : w_V} {s : y_H} (hT : w_T V g_sh (y_mk g_sh s)) {j : Nat} (hj : j < 3) : y_rowOK (fun k => s.1 105 (28 * j + k)) := by
  intro k hk
  have h1 := y_r85 k hk
  rw [Option.isSome_iff_exists] at h1
  obtain ⟨⟨lo, hi⟩, e⟩ := h1
  have e2 := y_rgo_ok e
  exact ⟨lo, hi, e2, y_rng (lo := lo) (hi := hi) (g := 0) hT ((y_ty105 hj hk).trans e2) (y_k105 _ (by omega))⟩
theorem y_Tc85 {s : y_H} {f : Nat → Int32} (hT : w_T y_V0 g_sh (y_mk g_sh s)) (hf : y_rowOK f) : w_T y_V0 g_sh (y_mk g_sh (y_cp s 85 0 f 28)) := y_Tcp hT (fun k hk => by
  rw [Nat.zero_add]
  obtain ⟨lo, hi, e, r1, r2⟩ := hf k hk
  exact ⟨y_k85 k hk, lo, hi, e, r1, r2⟩)
theorem y_Tc91 {s : y_H} {f : Nat → Int32} {j : Nat} (hj : j < 40) (hT : w_T y_V0 g_sh (y_mk g_sh s)) (hf : y_rowOK f) : w_T y_V0 g_sh (y_mk g_sh (y_cp s 91 (28 * j) f 28)) := y_Tcp hT (fun k hk => by
  obtain ⟨lo, hi, e, r1, r2⟩ := hf k hk
  exact ⟨y_k91 _ (by omega), lo, hi, (y_ty91 hj hk).trans e, r1, r2⟩)
theorem y_Tc105 {s : y_H} {f : Nat → Int32} {j : Nat} (hj : j < 3) (hT : w_T y_V0 g_sh (y_mk g_sh s)) (hf : y_rowOK f) : w_T y_V0 g_sh (y_mk g_sh (y_cp s 105 (28 * j) f 28)) := y_Tcp hT (fun k hk => by
  obtain ⟨lo, hi, e, r1, r2⟩ := hf k hk
  exact ⟨y_k105 _ (by omega), lo, hi, (y_ty105 hj hk).trans e, r1, r2⟩)
theorem y_cpS2 {s : y_H} {o b n K : Nat} {f : Nat → Int32} {x : Int32} (hK : K = b + n) (hx : x = f n) : y_up (y_cp s o b f n) o K (.inl x) = y_cp s o b f (n + 1) := by
  rw [hK, hx]
  exact y_cpS
theorem y_keepAir_loop {d : Nat} {s : y_H} : ∀ (c : Nat) (i : Int32) (I : Nat), i.toInt = (I : Int) → I ≤ 28 → 28 - I ≤ c → y_W g_sh g_ts d g_t240 (fun v s2 => v = none ∧ s2 = y_cp s 85 0 (s.1 86) 28) 2 [(0, .inr (.inr 67)), (1, .inl i)] [] (y_cp s 85 0 (s.1 86) I) := by
  intro c
  induction c with
  | zero =>
    intro i I hi hI hc
    refine y_run 2 rfl ?_
    refine y_ic rfl (fun _ => y_vret rfl ⟨rfl, by rw [show I = 28 by omega]⟩) (fun h => ?_)
    have h2 : ¬ (28 : Int) ≤ i.toInt := h
    omega
  | succ c ih =>
    intro i I hi hI hc
    have hi1 : (i + (Int32.ofInt 1)).toInt = i.toInt + 1 := y_add (x := i) (y := 1) (by show _ ≤ _ + (1 : Int); omega) (by show _ + (1 : Int) ≤ _; omega)
    refine y_run 2 rfl ?_
    refine y_ic rfl (fun h => ?_) (fun h => ?_)
    · have h2 : (28 : Int) ≤ i.toInt := h
      exact y_vret rfl ⟨rfl, by rw [show I = 28 by omega]⟩
    have h2 : ¬ (28 : Int) ≤ i.toInt := h
    refine y_run 6 rfl ?_
    refine y_ald86 (j := I) rfl hi (by omega) ?_
    refine y_ast (o := 85) (sz := 28) (j := I) rfl rfl hi (by omega) (y_k85 I (by omega)) ?_
    refine y_run 2 rfl ?_
    refine y_sub (ls1 := [(0, .inr (.inr 67)), (1, .inl ((i + (Int32.ofInt 1))))]) (show ([0, 1] : List Nat).Nodup by decide) (y_R_cons rfl (y_R_cons rfl y_R_nil)) ?_
    have e := y_cpS2 (s := s) (o := 85) (b := 0) (n := I) (K := I) (f := s.1 86) (x := (y_cp s 85 0 (s.1 86) I).1 86 I) (by omega) (y_cp_ne (by omega))
    have key := ih (i + (Int32.ofInt 1)) (I + 1) (by rw [hi1, hi]; omega) (by omega) (by omega)
    rw [← e] at key
    exact key
/-- what is at hand is kept -/
theorem y_keepAir : y_C g_sh g_ts 240 1 (fun a _ => a = [.inr (.inr 67)]) (fun _ s v s2 => v = none ∧ s2 = y_cp s 85 0 (s.1 86) 28) := by
  refine y_C.of (t := g_t240) rfl (by decide) ?_
  rintro d a s hd rfl
  refine y_run 2 rfl ?_
  refine y_sub (ls1 := [(0, .inr (.inr 67)), (1, .inl ((Int32.ofInt 0)))]) (show ([0, 1] : List Nat).Nodup by decide) (y_R_cons rfl (y_R_cons rfl y_R_nil)) ?_
  have key := y_keepAir_loop (d := d) (s := s) 28 (Int32.ofInt 0) 0 rfl (by omega) (by omega)
  rw [y_cp0] at key
  exact key
/-! fill: what is now, at hand -/
def y_flQ (V : w_V) (s : y_H) (v : Option (q_V Int32)) (s2 : y_H) : Prop := v = none ∧ w_T V g_sh (y_mk g_sh s2) ∧ y_fr g_sh y_flK s s2 ∧ ∀ k, k < 28 → s2.1 86 k = s.1 85 k
theorem y_fill_loop {d : Nat} {s : y_H} {Q : Option (q_V Int32) → y_H → Prop} (hexit : ∀ ls, q_at ls 0 = some (.inr (.inr 67)) → y_W g_sh g_ts d g_t203 Q 26 ls [] (y_cp s 86 0 (s.1 85) 28)) : ∀ (c : Nat) (i : Int32) (I : Nat), i.toInt = (I : Int) → I ≤ 28 → 28 - I ≤ c → y_W g_sh g_ts d g_t203 Q 2 [(0, .inr (.inr 67)), (1, .inl i)] [] (y_cp s 86 0 (s.1 85) I) := by
  intro c
  induction c with
  | zero =>
    intro i I hi hI hc
    refine y_run 2 rfl ?_
    refine y_ic rfl (fun _ => by rw [show I = 28 by omega]; exact hexit _ rfl) (fun h => ?_)
    have h2 : ¬ (28 : Int) ≤ i.toInt := h
    omega
  | succ c ih =>
    intro i I hi hI hc
    have hi1 : (i + (Int32.ofInt 1)).toInt = i.toInt + 1 := y_add (x := i) (y := 1) (by show _ ≤ _ + (1 : Int); omega) (by show _ + (1 : Int) ≤ _; omega)
    refine y_run 2 rfl ?_
    refine y_ic rfl (fun h => ?_) (fun h => ?_)
    · have h2 : (28 : Int) ≤ i.toInt := h
      rw [show I = 28 by omega]
      exact hexit _ rfl
    have h2 : ¬ (28 : Int) ≤ i.toInt := h
    refine y_run 6 rfl ?_
    refine y_ald (o := 85) (sz := 28) (j := I) rfl rfl hi (by omega) (y_k85 I (by omega)) ?_
    refine y_ast (o := 86) (sz := 28) (j := I) rfl rfl hi (by omega) (y_airk I (by omega)) ?_
    refine y_run 2 rfl ?_
    refine y_sub (ls1 := [(0, .inr (.inr 67)), (1, .inl ((i + (Int32.ofInt 1))))]) (show ([0, 1] : List Nat).Nodup by decide) (y_R_cons rfl (y_R_cons rfl y_R_nil)) ?_
    have e := y_cpS2 (s := s) (o := 86) (b := 0) (n := I) (K := I) (f := s.1 85) (x := (y_cp s 86 0 (s.1 85) I).1 85 I) (by omega) (y_cp_ne (by omega))
    have key := ih (i + (Int32.ofInt 1)) (I + 1) (by rw [hi1, hi]; omega) (by omega) (by omega)
    rw [← e] at key
    exact key
def y_sub28 (k : Nat) : Bool := match y_rgo (w_ty g_sh 85 k), y_rgo (w_ty g_sh 86 k) with
  | some (a, b), some (c, d) => Nat.ble c a && Nat.ble b d
  | _, _ => false
theorem y_sub28_all : ∀ k, k < 28 → y_sub28 k = true := by decide +kernel
theorem y_sub28_ok {k : Nat} (hk : k < 28) : ∃ a b c d : Nat, w_ty g_sh 85 k = some (.inl ((a, b), 0)) ∧ w_ty g_sh 86 k = some (.inl ((c, d), 0)) ∧ c ≤ a ∧ b ≤ d := by
  have h := y_sub28_all k hk
  unfold y_sub28 at h
  split at h
  next a b c d h1 h2 =>
    rw [Bool.and_eq_true] at h
    exact ⟨a, b, c, d, y_rgo_ok h1, y_rgo_ok h2, Nat.le_of_ble_eq_true h.1, Nat.le_of_ble_eq_true h.2⟩
  next => cases h
theorem y_Tfill {V : w_V} {s : y_H} (hT : w_T V g_sh (y_mk g_sh s)) : w_T V g_sh (y_mk g_sh (y_cp s 86 0 (s.1 85) 28)) := by
  have h0 : w_T y_V0 g_sh (y_mk g_sh (y_cp s 86 0 (s.1 85) 28)) := y_Tcp (y_t0 hT) (fun k hk => by
    rw [Nat.zero_add]
    obtain ⟨a, b, c, d, h1, h2, h3, h4⟩ := y_sub28_ok hk
    have hr := y_rng (lo := a) (hi := b) (g := 0) hT h1 (y_k85 k hk)
    exact ⟨y_airk k hk, c, d, h2, by omega, by omega⟩)
  refine ⟨h0.1, V.2 _ _ (fun o k hk hm => y_mk_eq (y_cp_ne ?_) rfl) hT.2⟩
  rintro ⟨rfl, h1, h2⟩
  rw [y_airpk k (by omega)] at hm
  cases hm
theorem y_fillF {V : w_V} {FM : w_U} (has : y_eAsTold V FM) : y_C g_sh g_ts 203 2 (fun a s => w_T V g_sh (y_mk g_sh s) ∧ a = [.inr (.inr 67)]) (fun _ s v s2 => y_flQ V s v s2) := by
  refine y_C.of (t := g_t203) rfl (by decide) ?_
  rintro d a s hd ⟨hT, rfl⟩
  refine y_run 2 rfl ?_
  refine y_sub (ls1 := [(0, .inr (.inr 67)), (1, .inl ((Int32.ofInt 0)))]) (show ([0, 1] : List Nat).Nodup by decide) (y_R_cons rfl (y_R_cons rfl y_R_nil)) ?_
  have key := y_fill_loop (d := d) (s := s) (Q := y_flQ V s) (fun ls l0 => ?_) 28 (Int32.ofInt 0) 0 rfl (by omega) (by omega)
  · rw [y_cp0] at key
    exact key
  · refine y_sub (ls1 := [(0, .inr (.inr 67))]) (show ([0] : List Nat).Nodup by decide) (y_R_cons l0 y_R_nil) ?_
    refine y_run 1 rfl ?_
    refine y_callM has.2 (by rw [List.all_eq_true]; intro q hq; have e : q = ([], none, FM) := by simpa using hq
                             rw [e]; exact has.1) 1 rfl (fun _ _ _ => rfl) (a := [.inr (.inr 67)]) rfl rfl (fun h hR => y_mayV (o := 65) (sz := 85) rfl hR) (by omega) (y_Tfill hT) ⟨⟨67, rfl, List.mem_cons_self⟩, True.intro⟩ (fun v s2 hT2 hf2 hv => ?_)
    obtain ⟨q, hq, ho⟩ := hv
    have eq : q = ([], none, FM) := by simpa using hq
    subst eq
    have ev := y_ansV ho
    subst ev
    refine y_vret rfl ⟨rfl, hT2, (y_fr.cp y_fr.rf (by decide +kernel)).tr (hf2.mono (by decide +kernel)), fun k hk => ?_⟩
    have e1 := hf2.at (o := 86) (k := k) (A := (w_ty g_sh 86 k).getD w_l) (by
      obtain ⟨a, b, c, d, h1, h2, h3, h4⟩ := y_sub28_ok hk
      rw [h2]
      rfl) (y_airk k hk) (by
      have : ∀ k, k < 28 → w_inm [(266331, 266333), (266363, 266363), (266366, 266366), (356416, 356418), (360512, 360514), (364608, 364615), (368704, 368711)] (w_key 86 k) = false := by decide +kernel
      exact this k hk)
    rw [e1]
    have e2 := y_cp_in (s := s) (o := 86) (b := 0) (n := 28) (k := k) (f := s.1 85) hk
    rw [Nat.zero_add] at e2
    exact e2
