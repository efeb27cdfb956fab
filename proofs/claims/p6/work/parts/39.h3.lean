/-! by hand: what lies where, and the model's characters -/
theorem y_rng {V : w_V} {sh : w_Sh} {s : y_H} {o k lo hi g : Nat} (hT : w_T V sh (y_mk sh s)) (ht : w_ty sh o k = some (.inl ((lo, hi), g))) (hk : y_kd sh o k = 0) : (lo : Int) - 2147483648 ≤ (s.1 o k).toInt ∧ (s.1 o k).toInt ≤ (hi : Int) - 2147483648 := by
  obtain ⟨x, e, hx, -⟩ := hT.1 o k _ ht
  have e2 : y_mk sh s o k = .inl (s.1 o k) := by
    show y_v (y_kd sh o k) s o k = _
    rw [hk]
    rfl
  rw [e2] at e
  cases e
  have h1 := q_pc_int (s.1 o k)
  have h2 := hx.1
  have h3 := hx.2
  constructor <;> omega
theorem y_tyA {sh : w_Sh} {o k tag sz : Nat} {A : w_A} (h : sh[o]? = some (tag, sz, [A])) (hk : k < sz) : w_ty sh o k = some (w_kz A) := by
  unfold w_ty
  rw [h]
  dsimp only
  rw [show Nat.blt k sz = true by rw [Nat.blt_eq]; exact hk, cond_true]
  rw [show k % [A].length = 0 from Nat.mod_one k]
  rfl
theorem y_kdA {sh : w_Sh} {o k tag sz : Nat} {a : q_J × Nat} (h : sh[o]? = some (tag, sz, [.inl a])) : y_kd sh o k = 0 := by
  unfold y_kd
  rw [h]
  dsimp only
  rw [show k % [(Sum.inl a : w_A)].length = 0 from Nat.mod_one k]
  rfl
theorem y_add {x y : Int32} (h1 : -2147483648 ≤ x.toInt + y.toInt) (h2 : x.toInt + y.toInt ≤ 2147483647) : (x + y).toInt = x.toInt + y.toInt := by
  rw [Int32.toInt_add]
  apply Int.bmod_eq_of_le <;> omega
theorem y_sb {x y : Int32} (h1 : -2147483648 ≤ x.toInt - y.toInt) (h2 : x.toInt - y.toInt ≤ 2147483647) : (x - y).toInt = x.toInt - y.toInt := by
  rw [Int32.toInt_sub]
  apply Int.bmod_eq_of_le <;> omega
abbrev g_M : Nat := 67
/-- here(k): the character k behind at, or -1 -/
def y_hereQ (k : Int32) (s : y_H) (c : Int32) : Prop := ((s.1 65 4).toInt + k.toInt < (s.1 65 5).toInt ∧ c = s.1 66 ((s.1 65 4).toInt + k.toInt).toNat ∧ 0 ≤ c.toInt ∧ c.toInt ≤ 255) ∨ ((s.1 65 5).toInt ≤ (s.1 65 4).toInt + k.toInt ∧ c = -1)
theorem y_here {V : w_V} : y_C g_sh g_ts 219 1 (fun a s => w_T V g_sh (y_mk g_sh s) ∧ ∃ k : Int32, a = [.inr (.inr g_M), .inl k] ∧ 0 ≤ k.toInt ∧ k.toInt ≤ 1000000) (fun a s v s2 => s2 = s ∧ ∃ c : Int32, v = some (.inl c) ∧ ∀ k : Int32, a = [.inr (.inr g_M), .inl k] → y_hereQ k s c) := by
  refine y_C.of (t := g_t219) rfl (by decide) ?_
  rintro d a s - ⟨hT, k, rfl, hk1, hk2⟩
  have hat := y_rng (lo := 2147483648) (hi := 2147485248) (g := 0) hT (o := 65) (k := 4) rfl rfl
  have hsz := y_rng (lo := 2147483648) (hi := 2147485248) (g := 0) hT (o := 65) (k := 5) rfl rfl
  have hadd := y_add (x := s.1 65 4) (y := k) (by omega) (by omega)
  refine y_run 6 rfl ?_
  refine y_ic rfl (fun hc => ?_) (fun hc => ?_)
  · have hc2 : (s.1 65 5).toInt ≤ (s.1 65 4 + k).toInt := hc
    refine y_run 1 rfl ?_
    refine y_iret rfl ⟨rfl, -1, rfl, fun k2 h => ?_⟩
    cases h
    exact Or.inr ⟨by omega, rfl⟩
  · have hc2 : ¬ (s.1 65 5).toInt ≤ (s.1 65 4 + k).toInt := hc
    refine y_run 6 rfl ?_
    have hj : ((s.1 65 4).toInt + k.toInt).toNat < 1600 := by omega
    refine y_ald (o := 66) (sz := 1600) (j := ((s.1 65 4).toInt + k.toInt).toNat) rfl rfl (by rw [hadd]; omega) hj (y_kdA (tag := 100) (sz := 1600) (a := ((2147483648, 2147483903), 0)) rfl) ?_
    refine y_run 1 rfl ?_
    have hch := y_rng (lo := 2147483648) (hi := 2147483903) (g := 0) hT (o := 66) (k := ((s.1 65 4).toInt + k.toInt).toNat) (y_tyA (tag := 100) (sz := 1600) (A := .inl ((2147483648, 2147483903), 0)) rfl hj) (y_kdA (tag := 100) (sz := 1600) (a := ((2147483648, 2147483903), 0)) rfl)
    refine y_iret rfl ⟨rfl, _, rfl, fun k2 h => ?_⟩
    cases h
    exact Or.inl ⟨by omega, rfl, by omega, by omega⟩
/-- a test of one int -/
def y_test (k : Nat) (P : Int → Prop) : Prop := y_C g_sh g_ts k 1 (fun a _ => ∃ c : Int32, a = [.inl c]) (fun a s v s2 => s2 = s ∧ ∃ b : Int32, v = some (.inl b) ∧ ∀ c : Int32, a = [.inl c] → (b = 1 ∧ P c.toInt) ∨ (b = 0 ∧ ¬ P c.toInt))
theorem y_isLetter : y_test 231 (fun c => 97 ≤ c ∧ c ≤ 122) := by
  refine y_C.of (t := g_t231) rfl (by decide) ?_
  rintro d a s - ⟨c, rfl⟩
  refine y_run 2 rfl ?_
  refine y_ic rfl (fun hc => ?_) (fun hc => ?_)
  · have hc2 : c.toInt < 97 := hc
    refine y_run 1 rfl ?_
    exact y_bret rfl (Or.inl rfl) ⟨rfl, 0, rfl, fun c2 h => by cases h; exact Or.inr ⟨rfl, fun q => by omega⟩⟩
  · have hc2 : ¬ c.toInt < 97 := hc
    refine y_run 2 rfl ?_
    refine y_ic rfl (fun hd => ?_) (fun hd => ?_)
    · have hd2 : 122 < c.toInt := hd
      refine y_run 1 rfl ?_
      exact y_bret rfl (Or.inl rfl) ⟨rfl, 0, rfl, fun c2 h => by cases h; exact Or.inr ⟨rfl, fun q => by omega⟩⟩
    · have hd2 : ¬ 122 < c.toInt := hd
      refine y_run 2 rfl ?_
      exact y_bret rfl (Or.inr rfl) ⟨rfl, 1, rfl, fun c2 h => by cases h; exact Or.inl ⟨rfl, by omega, by omega⟩⟩
theorem y_isDigit : y_test 225 (fun c => 48 ≤ c ∧ c ≤ 57) := by
  refine y_C.of (t := g_t225) rfl (by decide) ?_
  rintro d a s - ⟨c, rfl⟩
  refine y_run 2 rfl ?_
  refine y_ic rfl (fun hc => ?_) (fun hc => ?_)
  · have hc2 : c.toInt < 48 := hc
    refine y_run 1 rfl ?_
    exact y_bret rfl (Or.inl rfl) ⟨rfl, 0, rfl, fun c2 h => by cases h; exact Or.inr ⟨rfl, fun q => by omega⟩⟩
  · have hc2 : ¬ c.toInt < 48 := hc
    refine y_run 2 rfl ?_
    refine y_ic rfl (fun hd => ?_) (fun hd => ?_)
    · have hd2 : 57 < c.toInt := hd
      refine y_run 1 rfl ?_
      exact y_bret rfl (Or.inl rfl) ⟨rfl, 0, rfl, fun c2 h => by cases h; exact Or.inr ⟨rfl, fun q => by omega⟩⟩
    · have hd2 : ¬ 57 < c.toInt := hd
      refine y_run 2 rfl ?_
      exact y_bret rfl (Or.inr rfl) ⟨rfl, 1, rfl, fun c2 h => by cases h; exact Or.inl ⟨rfl, by omega, by omega⟩⟩
