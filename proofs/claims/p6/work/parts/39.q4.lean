/-! by hand, of the class: bitsOf, blame -/
theorem y_orB : ∀ I, I < 7 → ∀ B, B < 2 ^ I → (Int32.ofNat B ||| (Int32.ofInt 1 <<< (Int32.ofNat I &&& 31))) = Int32.ofNat (B + 2 ^ I) := by decide +kernel
theorem y_or0 : ∀ B, B < 128 → (Int32.ofNat B ||| Int32.ofInt 0) = Int32.ofNat B := by decide +kernel
theorem y_addB : ∀ I, I < 7 → ∀ B, B < 2 ^ I → ∀ b, b < 7 → (B + 2 ^ I) / 2 ^ b % 2 = if b = I then 1 else B / 2 ^ b % 2 := by decide +kernel
theorem y_hiB : ∀ I, I < 7 → ∀ B, B < 2 ^ I → B / 2 ^ I % 2 = 0 := by decide +kernel
theorem y_pw7 : ∀ I, I ≤ 7 → 2 ^ I ≤ 128 := by decide
def y_boQ (w : Int32) (P : Nat) (s : y_H) (v : Option (q_V Int32)) (s2 : y_H) : Prop := s2 = s ∧ ∃ B : Nat, B < 128 ∧ v = some (.inl (Int32.ofNat B)) ∧ ∀ b, b < 7 → (B / 2 ^ b % 2 = 1 ↔ b < P ∧ (s.1 30 b).toInt = w.toInt)
theorem y_bo_loop {d P : Nat} {w p : Int32} {s : y_H} (hp : p.toInt = (P : Int)) (h7 : P ≤ 7) : ∀ (c : Nat) (i : Int32) (I B : Nat), i.toInt = (I : Int) → I ≤ P → P - I ≤ c → B < 2 ^ I → (∀ b, b < 7 → (B / 2 ^ b % 2 = 1 ↔ b < I ∧ (s.1 30 b).toInt = w.toInt)) → y_W g_sh g_ts d g_t140 (y_boQ w P s) 5 [(0, .inr (.inr 30)), (1, .inl w), (2, .inl p), (3, .inl ((Int32.ofNat B))), (4, .inl i)] [] s := by
  intro c
  induction c with
  | zero =>
    intro i I B hi hI hc hB hb
    have e : I = P := by omega
    subst e
    have p7 := y_pw7 I (by omega)
    refine y_run 2 rfl ?_
    refine y_ic rfl (fun _ => ?_) (fun h => ?_)
    · refine y_run 1 rfl ?_
      exact y_iret rfl ⟨rfl, B, by omega, rfl, hb⟩
    · have h2 : ¬ p.toInt ≤ i.toInt := h
      omega
  | succ c ih =>
    intro i I B hi hI hc hB hb
    have hi1 : (i + (Int32.ofInt 1)).toInt = i.toInt + 1 := y_add (x := i) (y := 1) (by show _ ≤ _ + (1 : Int); omega) (by show _ + (1 : Int) ≤ _; omega)
    refine y_run 2 rfl ?_
    refine y_ic rfl (fun h => ?_) (fun h => ?_)
    · have h2 : p.toInt ≤ i.toInt := h
      have e : I = P := by omega
      subst e
      have p7 := y_pw7 I (by omega)
      refine y_run 1 rfl ?_
      exact y_iret rfl ⟨rfl, B, by omega, rfl, hb⟩
    have h2 : ¬ p.toInt ≤ i.toInt := h
    have hI7 : I < 7 := by omega
    have ei : i = Int32.ofNat I := y_toN hi (by omega)
    have p7 := y_pw7 I (by omega)
    refine y_run 4 rfl ?_
    refine y_ald (o := 30) (sz := 7) (j := I) rfl rfl hi (by omega) y_k30 ?_
    refine y_run 1 rfl ?_
    refine y_ic rfl (fun h3 => ?_) (fun h3 => ?_)
    · have h4 : (s.1 30 I).toInt ≠ w.toInt := h3
      refine y_run 5 rfl ?_
      show y_W g_sh g_ts d g_t140 (y_boQ w P s) 5 _ [] s
      refine y_sub (ls1 := [(0, .inr (.inr 30)), (1, .inl w), (2, .inl p), (3, .inl ((Int32.ofNat B ||| Int32.ofInt 0))), (4, .inl ((i + (Int32.ofInt 1))))]) (show ([0, 1, 2, 3, 4] : List Nat).Nodup by decide) (y_R_cons rfl (y_R_cons rfl (y_R_cons rfl (y_R_cons rfl (y_R_cons rfl y_R_nil))))) ?_
      rw [y_or0 B (by omega)]
      refine ih (i + (Int32.ofInt 1)) (I + 1) B (by rw [hi1, hi]; omega) (by omega) (by omega) (by rw [Nat.pow_succ]; omega) (fun b hb7 => (hb b hb7).trans ⟨fun q => ⟨by omega, q.2⟩, fun q => ⟨?_, q.2⟩⟩)
      rcases Nat.lt_or_ge b I with q1 | q1
      · exact q1
      · have e : b = I := by omega
        subst e
        exact absurd q.2 h4
    · have h4 : (s.1 30 I).toInt = w.toInt := by
        have h5 : ¬ (s.1 30 I).toInt ≠ w.toInt := h3
        omega
      refine y_run 8 rfl ?_
      refine y_sub (ls1 := [(0, .inr (.inr 30)), (1, .inl w), (2, .inl p), (3, .inl ((Int32.ofNat B ||| (Int32.ofInt 1 <<< (i &&& 31))))), (4, .inl ((i + (Int32.ofInt 1))))]) (show ([0, 1, 2, 3, 4] : List Nat).Nodup by decide) (y_R_cons rfl (y_R_cons rfl (y_R_cons rfl (y_R_cons rfl (y_R_cons rfl y_R_nil))))) ?_
      rw [ei, y_orB I hI7 B hB, ← ei]
      refine ih (i + (Int32.ofInt 1)) (I + 1) (B + 2 ^ I) (by rw [hi1, hi]; omega) (by omega) (by omega) (by rw [Nat.pow_succ]; omega) (fun b hb7 => ?_)
      rw [y_addB I hI7 B hB b hb7]
      by_cases e : b = I
      · subst e
        rw [if_pos rfl]
        exact ⟨fun _ => ⟨by omega, h4⟩, fun _ => rfl⟩
      · rw [if_neg e]
        exact (hb b hb7).trans ⟨fun q => ⟨by omega, q.2⟩, fun q => ⟨by omega, q.2⟩⟩
theorem y_bitsC {w : Int32} {P : Nat} (h7 : P ≤ 7) : y_C g_sh g_ts 140 1 (fun a _ => ∃ p : Int32, p.toInt = (P : Int) ∧ a = [.inr (.inr 30), .inl w, .inl p]) (fun _ s v s2 => y_boQ w P s v s2) := by
  refine y_C.of (t := g_t140) rfl (by decide) ?_
  rintro d a s hd ⟨p, hp, rfl⟩
  refine y_run 4 rfl ?_
  refine y_sub (ls1 := [(0, .inr (.inr 30)), (1, .inl w), (2, .inl p), (3, .inl ((Int32.ofNat 0))), (4, .inl ((Int32.ofInt 0)))]) (show ([0, 1, 2, 3, 4] : List Nat).Nodup by decide) (y_R_cons rfl (y_R_cons rfl (y_R_cons rfl (y_R_cons rfl (y_R_cons rfl y_R_nil))))) ?_
  exact y_bo_loop hp h7 7 (Int32.ofInt 0) 0 0 rfl (by omega) (by omega) (by decide) (fun b _ => ⟨fun q => by rw [Nat.zero_div] at q; omega, fun q => by omega⟩)
theorem y_bitsOf {n : Nat} {w : Int32} : y_C g_sh g_ts 8 2 (fun a s => y_Td n s ∧ n ≤ 7 ∧ a = [.inr (.inr 2), .inl w]) (fun _ s v s2 => y_boQ w n s v s2) := by
  refine y_C.of (t := g_t8) rfl (by decide) ?_
  rintro d a s hd ⟨hD, h7, rfl⟩
  refine y_run 5 rfl ?_
  show y_W g_sh g_ts d g_t8 (y_boQ w n s) 9 [(0, .inr (.inr 2)), (1, .inl w)] [.inr (.inr (s.2.2 0 2)), .inl w, .inr (.inr 30)] s
  rcases hD with ⟨hr5, hn⟩ | ⟨hr5, hn⟩
  · rw [hr5]
    refine y_run 1 rfl ?_
    refine y_call (y_bitsC (w := w) (P := n) h7) 1 rfl (fun _ _ _ => rfl) (a := [.inr (.inr 30), .inl w, .inl ((s.1 3 4))]) rfl rfl (fun h hR => y_mayV (o := 28) (sz := 10) rfl hR) (by omega) ⟨_, hn, rfl⟩ (fun v s2 hQ => ?_)
    obtain ⟨rfl, B, hB, rfl, hb⟩ := hQ
    exact y_iret rfl ⟨rfl, B, hB, rfl, hb⟩
  · rw [hr5]
    refine y_run 1 rfl ?_
    refine y_call (y_bitsC (w := w) (P := n) h7) 1 rfl (fun _ _ _ => rfl) (a := [.inr (.inr 30), .inl w, .inl ((s.1 15 4))]) rfl rfl (fun h hR => y_mayV (o := 28) (sz := 10) rfl hR) (by omega) ⟨_, hn, rfl⟩ (fun v s2 hQ => ?_)
    obtain ⟨rfl, B, hB, rfl, hb⟩ := hQ
    exact y_iret rfl ⟨rfl, B, hB, rfl, hb⟩
/-! counting bits -/
def y_pop (B : Nat) : Nat := B / 1 % 2 + B / 2 % 2 + B / 4 % 2 + B / 8 % 2 + B / 16 % 2 + B / 32 % 2 + B / 64 % 2
theorem y_bcp : ∀ B, B < 128 → y_bc (Int32.ofNat B) = Int32.ofNat (y_pop B) := by decide +kernel
theorem y_pop7 (B : Nat) : y_pop B ≤ 7 := by
  unfold y_pop
  omega
theorem y_pg {line : Nat → Int32} : ∀ S : Nat, ∃ f : Nat → Nat, f 0 + f 1 + f 2 + f 3 + f 4 + f 5 + f 6 ≤ S ∧ ∀ b i : Nat, b < 7 → i < S → (line i).toInt = (b : Int) → 1 ≤ f b := by
  intro S
  induction S with
  | zero => exact ⟨fun _ => 0, Nat.le_refl 0, fun b i _ h => by omega⟩
  | succ S ih =>
    obtain ⟨f, h1, h2⟩ := ih
    by_cases hc : ∃ c : Nat, c < 7 ∧ (line S).toInt = (c : Int)
    · obtain ⟨c, c7, hc⟩ := hc
      refine ⟨fun b => if b = c then f b + 1 else f b, ?_, fun b i hb hi he => ?_⟩
      · have hcc : c = 0 ∨ c = 1 ∨ c = 2 ∨ c = 3 ∨ c = 4 ∨ c = 5 ∨ c = 6 := by omega
        rcases hcc with rfl | rfl | rfl | rfl | rfl | rfl | rfl <;> simp <;> omega
      · show 1 ≤ if b = c then f b + 1 else f b
        by_cases e : b = c
        · rw [if_pos e]
          omega
        · rw [if_neg e]
          rcases Nat.lt_or_ge i S with q | q
          · exact h2 b i hb q he
          · have e2 : i = S := by omega
            subst e2
            omega
    · refine ⟨f, by omega, fun b i hb hi he => ?_⟩
      rcases Nat.lt_or_ge i S with q | q
      · exact h2 b i hb q he
      · have e2 : i = S := by omega
        subst e2
        exact absurd ⟨b, hb, he⟩ hc
theorem y_pop_le {line : Nat → Int32} {S B : Nat} (h : ∀ b : Nat, b < 7 → B / 2 ^ b % 2 = 1 → ∃ i : Nat, i < S ∧ (line i).toInt = (b : Int)) : y_pop B ≤ S := by
  obtain ⟨f, h1, h2⟩ := y_pg (line := line) S
  have key : ∀ b : Nat, b < 7 → B / 2 ^ b % 2 ≤ f b := by
    intro b hb
    rcases (show B / 2 ^ b % 2 = 0 ∨ B / 2 ^ b % 2 = 1 by omega) with q | q
    · omega
    · obtain ⟨i, i1, i2⟩ := h b hb q
      have := h2 b i hb i1 i2
      omega
  have k0 : B / 1 % 2 ≤ f 0 := key 0 (by omega)
  have k1 : B / 2 % 2 ≤ f 1 := key 1 (by omega)
  have k2 : B / 4 % 2 ≤ f 2 := key 2 (by omega)
  have k3 : B / 8 % 2 ≤ f 3 := key 3 (by omega)
  have k4 : B / 16 % 2 ≤ f 4 := key 4 (by omega)
  have k5 : B / 32 % 2 ≤ f 5 := key 5 (by omega)
  have k6 : B / 64 % 2 ≤ f 6 := key 6 (by omega)
  unfold y_pop
  omega
theorem y_pop_mono {A B : Nat} (h : ∀ b, b < 7 → A / 2 ^ b % 2 ≤ B / 2 ^ b % 2) : y_pop A ≤ y_pop B := by
  have k0 : A / 1 % 2 ≤ B / 1 % 2 := h 0 (by omega)
  have k1 : A / 2 % 2 ≤ B / 2 % 2 := h 1 (by omega)
  have k2 : A / 4 % 2 ≤ B / 4 % 2 := h 2 (by omega)
  have k3 : A / 8 % 2 ≤ B / 8 % 2 := h 3 (by omega)
  have k4 : A / 16 % 2 ≤ B / 16 % 2 := h 4 (by omega)
  have k5 : A / 32 % 2 ≤ B / 32 % 2 := h 5 (by omega)
  have k6 : A / 64 % 2 ≤ B / 64 % 2 := h 6 (by omega)
  unfold y_pop
  omega
theorem y_subB {A B : Nat} (hA : A < 128) (hB : B < 128) (h : (Int32.ofNat A &&& (Int32.ofNat B ^^^ Int32.ofInt (-1))).toInt = 0) : ∀ b, b < 7 → A / 2 ^ b % 2 ≤ B / 2 ^ b % 2 := by
  intro b hb
  have h0 : (Int32.ofNat A &&& (Int32.ofNat B ^^^ Int32.ofInt (-1))) = 0 := Int32.toInt_inj.mp (h.trans rfl)
  have h1 : (BitVec.ofNat 32 A &&& (BitVec.ofNat 32 B ^^^ BitVec.ofInt 32 (-1))) = 0#32 := congrArg Int32.toBitVec h0
  have h2 := congrArg (fun v : BitVec 32 => v.getLsbD b) h1
  have hm : (BitVec.ofInt 32 (-1)) = BitVec.allOnes 32 := by decide
  rw [hm] at h2
  simp only [BitVec.getLsbD_and, BitVec.getLsbD_xor, BitVec.getLsbD_ofNat, BitVec.getLsbD_allOnes, BitVec.getLsbD_zero, show b < 32 by omega, decide_true, Bool.true_and, Bool.xor_true] at h2
  have t1 : A.testBit b = decide (A / 2 ^ b % 2 = 1) := Nat.testBit_eq_decide_div_mod_eq
  have t2 : B.testBit b = decide (B / 2 ^ b % 2 = 1) := Nat.testBit_eq_decide_div_mod_eq
  rw [t1, t2] at h2
  by_cases q1 : A / 2 ^ b % 2 = 1
  · by_cases q2 : B / 2 ^ b % 2 = 1
    · omega
    · simp [q1, q2] at h2
  · omega
theorem y_oth : ∀ x, x < 7 → ∀ B, B < 128 → (Int32.ofNat B &&& ((Int32.ofInt 1 <<< (Int32.ofNat x &&& 31)) ^^^ Int32.ofInt (-1))) = Int32.ofNat (B - B / 2 ^ x % 2 * 2 ^ x) ∧ y_pop (B - B / 2 ^ x % 2 * 2 ^ x) + B / 2 ^ x % 2 = y_pop B := by decide +kernel
theorem y_o4 : ∀ k, k < 8 → q_o1 4 (Int32.ofNat k) = some (q_ord.getD k 0) := by decide +kernel
theorem y_sb4 : ∀ Z, Z < 8 → ∀ A, A < Z → Int32.ofNat Z - 1 - Int32.ofNat A = Int32.ofNat (Z - 1 - A) := by decide +kernel
theorem y_orx : ∀ x, x < 7 → ∀ B, B < 128 → 0 ≤ (Int32.ofNat B ||| (Int32.ofInt 1 <<< (Int32.ofNat x &&& 31))).toInt ∧ (Int32.ofNat B ||| (Int32.ofInt 1 <<< (Int32.ofNat x &&& 31))).toInt < 128 := by decide +kernel
/-! blame -/
abbrev y_blK : List (Nat × Nat) := [(53312, 53341), (57408, 57413), (102464, 102493), (106560, 106565), (147520, 147539), (151616, 151622), (155712, 155719), (159808, 159812), (163904, 163906), (168000, 168002), (172096, 172098), (176192, 176199), (180288, 180295), (258112, 258239)]
abbrev y_eRnW (V : w_V) (r : Nat) (K : List (Nat × Nat)) (M : w_U) : Prop := y_inc K y_blK = true ∧ y_ex g_sh M = true ∧ w_Ent V g_sh g_ts (62, [w_r 2, w_n 0 127 0], [(66, w_r r)], K, [([], none, M)], 6)
abbrev y_ePtO (V : w_V) : Prop := y_ex g_sh [] = true ∧ w_Ent V g_sh g_ts (55, [w_t 0, w_t 0, w_n 0 1 0], [], [], [([], some (w_t 0), [])], 2)
section BLA
variable {n r : Nat} {K : List (Nat × Nat)} {M : w_U}
def y_blJ (n r : Nat) (s0 s : y_H) : Prop := w_T (y_Vn n) g_sh (y_mk g_sh s) ∧ y_fr g_sh y_blK s0 s ∧ s.2.2 0 2 = r
theorem y_bl1 {d : Nat} {Q : Option (q_V Int32) → y_H → Prop} {s0 : y_H} {x y : Int32} {B : Nat} (hrw : y_eRnW (y_Vn n) r K M) (hB : B < 128) (hd : 6 ≤ d) (hexit : ∀ (s : y_H) (ls : q_U Int32), y_blJ n r s0 s → q_at ls 0 = some (.inr (.inr 2)) → q_at ls 1 = some (.inl x) → q_at ls 2 = some (.inl y) → q_at ls 3 = some (.inl (Int32.ofNat B)) → y_W g_sh g_ts d g_t9 Q 78 ls [] s) : ∀ (c : Nat) (s : y_H) (e : Int32) (E : Nat), e.toInt = (E : Int) → E ≤ 128 → 128 - E ≤ c → y_blJ n r s0 s → y_W g_sh g_ts d g_t9 Q 30 [(0, .inr (.inr 2)), (1, .inl x), (2, .inl y), (3, .inl ((Int32.ofNat B))), (4, .inl e)] [] s := by
  have eB : (Int32.ofNat B).toInt = (B : Int) := Int32.toInt_ofNat_of_lt (by omega)
  intro c
  induction c with
  | zero =>
    intro s e E he hE hc hJ
    refine y_run 2 rfl ?_
    refine y_ic rfl (fun _ => hexit s _ hJ rfl rfl rfl rfl) (fun h => ?_)
    have h2 : ¬ (Int32.ofNat B).toInt < e.toInt := h
    omega
  | succ c ih =>
    intro s e E he hE hc hJ
    have he1 : (e + (Int32.ofInt 1)).toInt = e.toInt + 1 := y_add (x := e) (y := 1) (by show _ ≤ _ + (1 : Int); omega) (by show _ + (1 : Int) ≤ _; omega)
    refine y_run 2 rfl ?_
    refine y_ic rfl (fun _ => hexit s _ hJ rfl rfl rfl rfl) (fun h => ?_)
    have h2 : ¬ (Int32.ofNat B).toInt < e.toInt := h
    have next : ∀ s2 : y_H, y_blJ n r s0 s2 → y_W g_sh g_ts d g_t9 Q 72 [(0, .inr (.inr 2)), (1, .inl x), (2, .inl y), (3, .inl ((Int32.ofNat B))), (4, .inl e)] [] s2 := by
      intro s2 hJ2
      refine y_run 2 rfl ?_
      refine y_sub (ls1 := [(0, .inr (.inr 2)), (1, .inl x), (2, .inl y), (3, .inl ((Int32.ofNat B))), (4, .inl ((e + (Int32.ofInt 1))))]) (show ([0, 1, 2, 3, 4] : List Nat).Nodup by decide) (y_R_cons rfl (y_R_cons rfl (y_R_cons rfl (y_R_cons rfl (y_R_cons rfl y_R_nil))))) ?_
      exact ih s2 (e + (Int32.ofInt 1)) (E + 1) (by rw [he1, he]; omega) (by omega) (by omega) hJ2
    refine y_run 5 rfl ?_
    refine y_if rfl (fun _ => next s hJ) (fun _ => ?_)
    obtain ⟨hT, hf, hr⟩ := hJ
    obtain ⟨k1, k2, hE2⟩ := hrw
    have ha := y_and127 (x := Int32.ofNat B) (y := e ^^^ Int32.ofInt (-1)) (by omega) (by omega)
    refine y_run 6 rfl ?_
    refine y_callT hE2 (by simpa using k2) 1 rfl (fun _ _ _ => rfl) (a := [.inr (.inr 2), .inl ((Int32.ofNat B &&& (e ^^^ Int32.ofInt (-1))))]) rfl rfl (fun h hR => y_mayV (o := 0) (sz := 15) rfl hR) hd hT hr ⟨⟨2, rfl, List.mem_cons_self⟩, y_iv (by omega) (by omega), True.intro⟩ (fun v s2 hT2 hf2 hv => ?_)
    obtain ⟨q, hq, ho⟩ := hv
    have eq : q = ([], none, M) := by simpa using hq
    subst eq
    have ev := y_ansV ho
    subst ev
    have g2 := hf2.mono k1
    have r16 := y_rng (lo := 2147483648) (hi := 2147483903) (g := 0) hT2 (o := 36) (k := 16) rfl rfl
    refine y_run 6 rfl ?_
    refine y_call (y_bitCount (sh := g_sh)) 0 rfl (fun _ _ _ => rfl) (a := [.inl ((s2.1 36 16))]) rfl rfl (fun _ _ => rfl) (by omega) ⟨_, rfl⟩ (fun v s3 hQ => ?_)
    obtain ⟨rfl, hv⟩ := hQ
    have ev := hv _ rfl
    subst ev
    refine y_ast (o := 63) (sz := 128) (j := E) rfl rfl he (by omega) (y_kdA (tag := 100) (sz := 128) (a := ((0, 4294967295), 0)) rfl) ?_
    have bw := y_b32 (y_bc (s3.1 36 16))
    have t4 := y_Tup (lo := 0) (hi := 4294967295) (g := 0) (o := 63) (k := E) (x := y_bc (s3.1 36 16)) hT2 (y_tyA (tag := 100) (sz := 128) (A := w_t 0) rfl (by omega)) (y_kdA (tag := 100) (sz := 128) (a := ((0, 4294967295), 0)) rfl) (y_pkA (sz := 128) (by decide +kernel) (by omega)) (by omega) (by omega)
    have f4 := (hf.tr g2).up (o := 63) (k := E) (v := .inl (y_bc (s3.1 36 16))) (y_kdA (tag := 100) (sz := 128) (a := ((0, 4294967295), 0)) rfl) (y_msA (sz := 128) (by decide +kernel) (by omega))
    exact next _ ⟨t4, f4, (y_fr66 g2 (by decide +kernel)).trans hr⟩
theorem y_bl2 {d : Nat} {Q : Option (q_V Int32) → y_H → Prop} {s : y_H} {x y : Int32} {B X Z : Nat} (hB : B < 128) (hx : x.toInt = (X : Int)) (hX : X < 7) (hz : (s.1 28 1).toInt = (Z : Int)) (hZ : Z < 8) (hpop : y_pop (B - B / 2 ^ X % 2 * 2 ^ X) < Z) (hd : 1 ≤ d) (hexit : ∀ (ls : q_U Int32) (sum : Int32), q_at ls 0 = some (.inr (.inr 2)) → q_at ls 2 = some (.inl y) → q_at ls 4 = some (.inl sum) → y_W g_sh g_ts d g_t9 Q 175 ls [] s) : ∀ (c : Nat) (sum e : Int32) (E : Nat), e.toInt = (E : Int) → E ≤ 128 → 128 - E ≤ c → y_W g_sh g_ts d g_t9 Q 93 [(0, .inr (.inr 2)), (1, .inl x), (2, .inl y), (3, .inl ((Int32.ofNat B))), (4, .inl sum), (5, .inl ((Int32.ofNat (B - B / 2 ^ X % 2 * 2 ^ X)))), (6, .inl e)] [] s := by
  generalize hO : B - B / 2 ^ X % 2 * 2 ^ X = O at hpop
  have hO7 : O < 128 := by omega
  have eO : (Int32.ofNat O).toInt = (O : Int) := Int32.toInt_ofNat_of_lt (by omega)
  have ex : x = Int32.ofNat X := y_toN hx (by omega)
  have ez : s.1 28 1 = Int32.ofNat Z := y_toN hz (by omega)
  intro c
  induction c with
  | zero =>
    intro sum e E he hE hc
    refine y_run 2 rfl ?_
    refine y_ic rfl (fun _ => hexit _ sum rfl rfl rfl) (fun h => ?_)
    have h2 : ¬ (Int32.ofNat O).toInt < e.toInt := h
    omega
  | succ c ih =>
    intro sum e E he hE hc
    have he1 : (e + (Int32.ofInt 1)).toInt = e.toInt + 1 := y_add (x := e) (y := 1) (by show _ ≤ _ + (1 : Int); omega) (by show _ + (1 : Int) ≤ _; omega)
    refine y_run 2 rfl ?_
    refine y_ic rfl (fun _ => hexit _ sum rfl rfl rfl) (fun h => ?_)
    have h2 : ¬ (Int32.ofNat O).toInt < e.toInt := h
    have ee : e = Int32.ofNat E := y_toN he (by omega)
    have next : ∀ (sum2 : Int32) (ls : q_U Int32), q_at ls 0 = some (.inr (.inr 2)) → q_at ls 1 = some (.inl x) → q_at ls 2 = some (.inl y) → q_at ls 3 = some (.inl (Int32.ofNat B)) → q_at ls 4 = some (.inl sum2) → q_at ls 5 = some (.inl (Int32.ofNat O)) → q_at ls 6 = some (.inl e) → y_W g_sh g_ts d g_t9 Q 169 ls [] s := by
      intro sum2 ls l0 l1 l2 l3 l4 l5 l6
      refine y_sub (ls1 := [(0, .inr (.inr 2)), (1, .inl x), (2, .inl y), (3, .inl ((Int32.ofNat B))), (4, .inl sum2), (5, .inl ((Int32.ofNat O))), (6, .inl e)]) (show ([0, 1, 2, 3, 4, 5, 6] : List Nat).Nodup by decide) (y_R_cons l0 (y_R_cons l1 (y_R_cons l2 (y_R_cons l3 (y_R_cons l4 (y_R_cons l5 (y_R_cons l6 y_R_nil))))))) ?_
      refine y_run 2 rfl ?_
      refine y_sub (ls1 := [(0, .inr (.inr 2)), (1, .inl x), (2, .inl y), (3, .inl ((Int32.ofNat B))), (4, .inl sum2), (5, .inl ((Int32.ofNat O))), (6, .inl ((e + (Int32.ofInt 1))))]) (show ([0, 1, 2, 3, 4, 5, 6] : List Nat).Nodup by decide) (y_R_cons rfl (y_R_cons rfl (y_R_cons rfl (y_R_cons rfl (y_R_cons rfl (y_R_cons rfl (y_R_cons rfl y_R_nil))))))) ?_
      exact ih sum2 (e + (Int32.ofInt 1)) (E + 1) (by rw [he1, he]; omega) (by omega) (by omega)
    refine y_run 5 rfl ?_
    refine y_if rfl (fun _ => next sum _ rfl rfl rfl rfl rfl rfl rfl) (fun h3 => ?_)
    have h4 : (e &&& (Int32.ofNat O ^^^ Int32.ofInt (-1))).toInt = 0 := by
      have h5 : ¬ (e &&& (Int32.ofNat O ^^^ Int32.ofInt (-1))).toInt ≠ 0 := h3
      omega
    rw [ee] at h4
    have hE7 : E < 128 := by omega
    have hm := y_pop_mono (y_subB hE7 hO7 h4)
    have hp7 := y_pop7 E
    refine y_run 1 rfl ?_
    refine y_call (y_bitCount (sh := g_sh)) 0 rfl (fun _ _ _ => rfl) (a := [.inl e]) rfl rfl (fun _ _ => rfl) hd ⟨_, rfl⟩ (fun v s3 hQ => ?_)
    obtain ⟨rfl, hv⟩ := hQ
    have ev := hv _ rfl
    subst ev
    have eb : y_bc e = Int32.ofNat (y_pop E) := by rw [ee]; exact y_bcp E hE7
    rw [eb]
    refine y_run 1 rfl ?_
    refine y_mc2 (x := Int32.ofNat (y_pop E)) (z := q_ord.getD (y_pop E) 0) rfl rfl rfl (y_o4 _ (by omega)) ?_
    refine y_mc6 (y := Int32.ofNat (y_pop E)) (z := q_ord.getD (Z - 1 - y_pop E) 0) rfl rfl rfl rfl (by rw [ez, y_sb4 Z hZ _ (by omega)]; exact y_o4 _ (by omega)) ?_
    have ho := y_orx X hX E hE7
    obtain ⟨W1, hW1⟩ : ∃ W1 : Nat, (e ||| (Int32.ofInt 1 <<< (x &&& 31))).toInt = (W1 : Int) := ⟨(e ||| (Int32.ofInt 1 <<< (x &&& 31))).toInt.toNat, by rw [ee, ex]; omega⟩
    have hW2 : W1 < 128 := by
      rw [ee, ex] at hW1
      omega
    refine y_run 11 rfl ?_
    refine y_ald (o := 63) (sz := 128) (j := W1) rfl rfl hW1 hW2 (y_kdA (tag := 100) (sz := 128) (a := ((0, 4294967295), 0)) rfl) ?_
    refine y_run 3 rfl ?_
    refine y_ald (o := 63) (sz := 128) (j := E) rfl rfl he hE7 (y_kdA (tag := 100) (sz := 128) (a := ((0, 4294967295), 0)) rfl) ?_
    refine y_run 4 rfl ?_
    exact next _ _ rfl rfl rfl rfl rfl rfl rfl
theorem y_blameG (hrw : y_eRnW (y_Vn n) r K M) (hpt : y_ePtO (y_Vn n)) {d : Nat} {s : y_H} {x y : Int32} (hd : 6 ≤ d) (hT : w_T (y_Vn n) g_sh (y_mk g_sh s)) (hD : y_Td n s) (hr : s.2.2 0 2 = r) : y_W g_sh g_ts d g_t9 (y_pubQ n y_blK s) 0 [(0, .inr (.inr 2)), (1, .inl x), (2, .inl y)] [] s := by
  have hn7 := y_Td7 hT hD
  have hV := y_VT hT
  have no : ∀ ls, y_W g_sh g_ts d g_t9 (y_pubQ n y_blK s) 17 ls [] s := by
    intro ls
    refine y_run 1 rfl ?_
    exact y_iret rfl ⟨hT, y_fr.rf, _, rfl⟩
  refine y_run 2 rfl ?_
  refine y_call (y_inQueueC (V := y_Vn n) (n := n) (x := x)) 1 rfl (fun _ _ _ => rfl) (a := [.inr (.inr 2), .inl x]) rfl rfl (fun h hR => y_mayV (o := 0) (sz := 15) rfl hR) (by omega) ⟨hT, hD, rfl⟩ (fun v s2 hQ => ?_)
  obtain ⟨e2, hQ⟩ := hQ
  rw [e2]
  rcases hQ with ⟨rfl, x0, x1, xs⟩ | rfl
  rotate_left
  · exact y_if rfl (fun _ => no _) (fun h => absurd rfl h)
  refine y_if rfl (fun h => absurd (show (1 : Int) = 0 from h) (by omega)) (fun _ => ?_)
  refine y_run 1 rfl ?_
  refine y_if rfl (fun _ => no _) (fun hy0 => ?_)
  have hy1 : ¬ y.toInt < 0 := hy0
  refine y_run 2 rfl ?_
  refine y_ic rfl (fun hy2 => ?_) (fun _ => no _)
  have hy3 : y.toInt ≤ 1 := hy2
  have hr28 := y_rng (lo := 2147483648) (hi := 2147483655) (g := 0) hT (o := 28) (k := 1) rfl rfl
  refine y_run 2 rfl ?_
  refine y_call (y_bitsOf (n := n) (w := Int32.ofInt 0)) 1 rfl (fun _ _ _ => rfl) (a := [.inr (.inr 2), .inl ((Int32.ofInt 0))]) rfl rfl (fun h hR => y_mayV (o := 0) (sz := 15) rfl hR) (by omega) ⟨hD, hn7, rfl⟩ (fun v s3 hQ => ?_)
  obtain ⟨e3, B, hB, rfl, hb⟩ := hQ
  rw [e3]
  obtain ⟨X, hX⟩ : ∃ X : Nat, x.toInt = (X : Int) := ⟨x.toInt.toNat, by omega⟩
  obtain ⟨Z, hZ⟩ : ∃ Z : Nat, (s.1 28 1).toInt = (Z : Int) := ⟨(s.1 28 1).toInt.toNat, by omega⟩
  have hX7 : X < 7 := by omega
  have hbit : B / 2 ^ X % 2 = 1 := (hb X hX7).mpr ⟨by omega, by rw [show x.toInt.toNat = X by omega] at xs; exact xs⟩
  have hpB : y_pop B ≤ Z := by
    refine y_pop_le (line := s.1 29) (fun b hb7 h1 => ?_)
    obtain ⟨q1, q2⟩ := (hb b hb7).mp h1
    obtain ⟨i, i7, g1, g2⟩ := hV.2.2.1 b (by omega) hb7 q2
    exact ⟨i, by omega, g2⟩
  obtain ⟨o1, o2⟩ := y_oth X hX7 B hB
  refine y_run 3 rfl ?_
  refine y_sub (ls1 := [(0, .inr (.inr 2)), (1, .inl x), (2, .inl y), (3, .inl ((Int32.ofNat B))), (4, .inl ((Int32.ofInt 0)))]) (show ([0, 1, 2, 3, 4] : List Nat).Nodup by decide) (y_R_cons rfl (y_R_cons rfl (y_R_cons rfl (y_R_cons rfl (y_R_cons rfl y_R_nil))))) ?_
  refine y_bl1 (s0 := s) hrw hB hd (fun s4 ls hJ4 l0 l1 l2 l3 => ?_) 128 s (Int32.ofInt 0) 0 rfl (by omega) (by omega) ⟨hT, y_fr.rf, hr⟩
  obtain ⟨hT4, hf4, hr4⟩ := hJ4
  have e28 : s4.1 28 1 = s.1 28 1 := hf4.at (o := 28) (k := 1) (A := w_n 0 7 0) rfl rfl (by decide +kernel)
  refine y_sub (ls1 := [(0, .inr (.inr 2)), (1, .inl x), (2, .inl y), (3, .inl ((Int32.ofNat B)))]) (show ([0, 1, 2, 3] : List Nat).Nodup by decide) (y_R_cons l0 (y_R_cons l1 (y_R_cons l2 (y_R_cons l3 y_R_nil)))) ?_
  refine y_run 12 rfl ?_
  have ex : x = Int32.ofNat X := y_toN hX (by omega)
  refine y_sub (ls1 := [(0, .inr (.inr 2)), (1, .inl x), (2, .inl y), (3, .inl ((Int32.ofNat B))), (4, .inl ((Int32.ofInt 0))), (5, .inl ((Int32.ofNat B &&& ((Int32.ofInt 1 <<< (x &&& 31)) ^^^ Int32.ofInt (-1))))), (6, .inl ((Int32.ofInt 0)))]) (show ([0, 1, 2, 3, 4, 5, 6] : List Nat).Nodup by decide) (y_R_cons rfl (y_R_cons rfl (y_R_cons rfl (y_R_cons rfl (y_R_cons rfl (y_R_cons rfl (y_R_cons rfl y_R_nil))))))) ?_
  rw [show (Int32.ofNat B &&& ((Int32.ofInt 1 <<< (x &&& 31)) ^^^ Int32.ofInt (-1))) = Int32.ofNat (B - B / 2 ^ X % 2 * 2 ^ X) by rw [ex]; exact o1]
  refine y_bl2 (s := s4) (Z := Z) hB hX hX7 (by rw [e28]; exact hZ) (by omega) (by omega) (by omega) (fun ls sum m0 m2 m4 => ?_) 128 (Int32.ofInt 0) (Int32.ofInt 0) 0 rfl (by omega) (by omega)
  refine y_sub (ls1 := [(0, .inr (.inr 2)), (2, .inl y), (4, .inl sum)]) (show ([0, 2, 4] : List Nat).Nodup by decide) (y_R_cons m0 (y_R_cons m2 (y_R_cons m4 y_R_nil))) ?_
  refine y_run 1 rfl ?_
  refine y_mc5 (z := q_ord.getD Z 0) rfl rfl rfl (by rw [e28, y_toN hZ (by omega)]; exact y_o4 Z (by omega)) ?_
  refine y_run 1 rfl ?_
  refine y_callI hpt 0 rfl (fun _ _ _ => rfl) (a := [.inl sum, .inl ((q_ord.getD Z 0)), .inl y]) rfl rfl (fun _ _ => rfl) (by omega) hT4 ⟨y_ivall, y_ivall, y_iv (by omega) (by omega), True.intro⟩ (fun w s7 hT7 hf7 _ _ => ?_)
  exact y_iret rfl ⟨hT7, hf4.tr (hf7.mono (by decide +kernel)), _, rfl⟩
end BLA
theorem y_blameC {n : Nat} {K5 K17 : List (Nat × Nat)} {M5 M17 : w_U} (h5 : y_eRnW (y_Vn n) 5 K5 M5) (h17 : y_eRnW (y_Vn n) 17 K17 M17) (hpt : y_ePtO (y_Vn n)) : y_C g_sh g_ts 9 7 (fun a s => w_T (y_Vn n) g_sh (y_mk g_sh s) ∧ y_Td n s ∧ ∃ x y : Int32, a = [.inr (.inr 2), .inl x, .inl y]) (fun _ s v s2 => y_pubQ n y_blK s v s2) := by
  refine y_C.of (t := g_t9) rfl (by decide) ?_
  rintro d a s hd ⟨hT, hD, x, y, rfl⟩
  rcases hD with ⟨r5, hn⟩ | ⟨r5, hn⟩
  · exact y_blameG h5 hpt (by omega) hT (Or.inl ⟨r5, hn⟩) r5
  · exact y_blameG h17 hpt (by omega) hT (Or.inr ⟨r5, hn⟩) r5
