theorem q_ble_t {a b : Nat} (h : a ≤ b) : Nat.ble a b = true := Nat.ble_eq_true_of_le h
theorem q_ble_f {a b : Nat} (h : b < a) : Nat.ble a b = false := by
  cases hh : Nat.ble a b with
  | true => exact absurd (Nat.le_of_ble_eq_true hh) (by omega)
  | false => rfl
theorem q_jcm_ok {j : Nat} {a b : q_J} {t : Bool} {x y : Int32} (h : q_jcm j a b = some t) (hx : q_jr a x) (hy : q_jr b y) : q_cm j x y = some t := by
  rw [q_cm_pl (q_pc_int x) (q_pc_int y) j]
  obtain ⟨x1, x2⟩ := hx
  obtain ⟨y1, y2⟩ := hy
  generalize q_pc x = X at *
  generalize q_pc y = Y at *
  unfold q_jcm at h
  split at h
  · show some (Nat.beq X Y) = _
    cases hb : Nat.blt a.2 b.1 || Nat.blt b.2 a.1 with
    | true =>
      rw [hb] at h
      cases h
      rcases (Bool.or_eq_true _ _).mp hb with hb | hb
      · have := q_blt hb
        rw [q_beq_ne (by omega)]
      · have := q_blt hb
        rw [q_beq_ne (by omega)]
    | false =>
      rw [hb, cond_false] at h
      cases hc : q_jone a && (q_jone b && Nat.beq a.1 b.1) with
      | false => rw [hc] at h; cases h
      | true =>
        rw [hc] at h
        cases h
        simp only [Bool.and_eq_true] at hc
        have e1 := q_beq hc.1
        have e2 := q_beq hc.2.1
        have e3 := q_beq hc.2.2
        have e : X = Y := by omega
        rw [e, q_beq_self]
  · show some (!(Nat.beq X Y)) = _
    cases hb : Nat.blt a.2 b.1 || Nat.blt b.2 a.1 with
    | true =>
      rw [hb] at h
      cases h
      rcases (Bool.or_eq_true _ _).mp hb with hb | hb
      · have := q_blt hb
        rw [q_beq_ne (by omega)]
        rfl
      · have := q_blt hb
        rw [q_beq_ne (by omega)]
        rfl
    | false =>
      rw [hb, cond_false] at h
      cases hc : q_jone a && (q_jone b && Nat.beq a.1 b.1) with
      | false => rw [hc] at h; cases h
      | true =>
        rw [hc] at h
        cases h
        simp only [Bool.and_eq_true] at hc
        have e1 := q_beq hc.1
        have e2 := q_beq hc.2.1
        have e3 := q_beq hc.2.2
        have e : X = Y := by omega
        rw [e, q_beq_self]
        rfl
  · show some (Nat.ble (X + 1) Y) = _
    cases hb : Nat.blt a.2 b.1 with
    | true =>
      rw [hb] at h
      cases h
      have := q_blt hb
      rw [q_ble_t (by omega)]
    | false =>
      rw [hb, cond_false] at h
      cases hc : Nat.ble b.2 a.1 with
      | false => rw [hc] at h; cases h
      | true =>
        rw [hc] at h
        cases h
        have := Nat.le_of_ble_eq_true hc
        rw [q_ble_f (by omega)]
  · show some (Nat.ble Y X) = _
    cases hb : Nat.blt a.2 b.1 with
    | true =>
      rw [hb] at h
      cases h
      have := q_blt hb
      rw [q_ble_f (by omega)]
    | false =>
      rw [hb, cond_false] at h
      cases hc : Nat.ble b.2 a.1 with
      | false => rw [hc] at h; cases h
      | true =>
        rw [hc] at h
        cases h
        have := Nat.le_of_ble_eq_true hc
        rw [q_ble_t (by omega)]
  · show some (Nat.ble (Y + 1) X) = _
    cases hb : Nat.blt b.2 a.1 with
    | true =>
      rw [hb] at h
      cases h
      have := q_blt hb
      rw [q_ble_t (by omega)]
    | false =>
      rw [hb, cond_false] at h
      cases hc : Nat.ble a.2 b.1 with
      | false => rw [hc] at h; cases h
      | true =>
        rw [hc] at h
        cases h
        have := Nat.le_of_ble_eq_true hc
        rw [q_ble_f (by omega)]
  · show some (Nat.ble X Y) = _
    cases hb : Nat.blt b.2 a.1 with
    | true =>
      rw [hb] at h
      cases h
      have := q_blt hb
      rw [q_ble_f (by omega)]
    | false =>
      rw [hb, cond_false] at h
      cases hc : Nat.ble a.2 b.1 with
      | false => rw [hc] at h; cases h
      | true =>
        rw [hc] at h
        cases h
        have := Nat.le_of_ble_eq_true hc
        rw [q_ble_t (by omega)]
  · cases h
/-- by what is surely above 0 -/
def q_jdiv (a b : q_J) : Option q_J := bif Nat.ble b.1 2147483648 then none else bif Nat.ble 2147483648 a.1 then some ((a.1 - 2147483648) / (b.2 - 2147483648) + 2147483648, (a.2 - 2147483648) / (b.1 - 2147483648) + 2147483648) else some q_jall
theorem q_ne0 {y : Int32} (h : 2147483648 < q_pc y) : y ≠ 0 := by
  intro e
  subst e
  have h2 : q_pc 0 = 2147483648 := by decide
  omega
theorem q_div_int {x y : Int32} {u v : Nat} (hu : x.toInt = (u : Int)) (hv : y.toInt = (v : Int)) : (x / y).toInt = ((u / v : Nat) : Int) := by
  have h1 := q_pc_int x
  have h3 := q_pc_lt x
  have h2 : u / v ≤ u := Nat.div_le_self u v
  have e : (u : Int).tdiv (v : Int) = ((u / v : Nat) : Int) := (Int.ofNat_tdiv u v).symm
  rw [Int32.toInt_div, hu, hv, e]
  clear e
  generalize u / v = w at h2 ⊢
  apply Int.bmod_eq_of_le <;> omega
theorem q_jdiv_ok {a b z : q_J} {x y : Int32} (h : q_jdiv a b = some z) (hx : q_jr a x) (hy : q_jr b y) : y ≠ 0 ∧ q_jr z (x / y) := by
  unfold q_jdiv at h
  cases hb : Nat.ble b.1 2147483648 with
  | true => rw [hb] at h; cases h
  | false =>
    rw [hb, cond_false] at h
    have hb2 : 2147483648 < b.1 := by
      cases Nat.lt_or_ge 2147483648 b.1 with
      | inl q => exact q
      | inr q => rw [q_ble_t q] at hb; cases hb
    obtain ⟨x1, x2⟩ := hx
    obtain ⟨y1, y2⟩ := hy
    refine ⟨q_ne0 (by omega), ?_⟩
    cases ha : Nat.ble 2147483648 a.1 with
    | false =>
      rw [ha] at h
      cases h
      exact q_jall_ok _
    | true =>
      rw [ha] at h
      cases h
      have h1 := Nat.le_of_ble_eq_true ha
      have ex := q_pc_int x
      have ey := q_pc_int y
      have e := q_div_int (x := x) (y := y) (u := q_pc x - 2147483648) (v := q_pc y - 2147483648) (by omega) (by omega)
      have ez := q_pc_of e
      have m1 : (a.1 - 2147483648) / (b.2 - 2147483648) ≤ (q_pc x - 2147483648) / (q_pc y - 2147483648) := Nat.le_trans (Nat.div_le_div_right (by omega)) (Nat.div_le_div_left (by omega) (by omega))
      have m2 : (q_pc x - 2147483648) / (q_pc y - 2147483648) ≤ (a.2 - 2147483648) / (b.1 - 2147483648) := Nat.le_trans (Nat.div_le_div_right (by omega)) (Nat.div_le_div_left (by omega) (by omega))
      show (a.1 - 2147483648) / (b.2 - 2147483648) + 2147483648 ≤ _ ∧ _ ≤ (a.2 - 2147483648) / (b.1 - 2147483648) + 2147483648
      omega
