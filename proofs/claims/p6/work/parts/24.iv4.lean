def q_jrem (a b : q_J) : Option q_J := bif Nat.ble b.1 2147483648 then none else bif Nat.ble 2147483648 a.1 then some (2147483648, min a.2 (b.2 - 1)) else some q_jall
theorem q_rem_int {x y : Int32} {u v : Nat} (hu : x.toInt = (u : Int)) (hv : y.toInt = (v : Int)) (hv0 : 0 < v) : (x - x / y * y).toInt = ((u % v : Nat) : Int) := by
  have h1 := q_pc_int x
  have h3 := q_pc_lt x
  have e1 := q_div_int hu hv
  have h2 : u / v * v ≤ u := Nat.div_mul_le_self u v
  have h4 : u % v = u - u / v * v := by
    have := Nat.div_add_mod u v
    rw [Nat.mul_comm] at this
    omega
  have e2 : (x / y * y).toInt = ((u / v * v : Nat) : Int) := by
    rw [Int32.toInt_mul, e1, hv, ← Int.natCast_mul]
    generalize u / v * v = w at h2 ⊢
    apply Int.bmod_eq_of_le <;> omega
  rw [Int32.toInt_sub, hu, e2, h4]
  clear e1 e2 h4
  generalize u / v * v = w at h2 ⊢
  rw [Int.ofNat_sub h2]
  apply Int.bmod_eq_of_le <;> omega
theorem q_jrem_ok {a b z : q_J} {x y : Int32} (h : q_jrem a b = some z) (hx : q_jr a x) (hy : q_jr b y) : y ≠ 0 ∧ q_jr z (x - x / y * y) := by
  unfold q_jrem at h
  cases hb : Nat.ble b.1 2147483648 with
  | true => rw [hb] at h; cases h
  | false =>
    rw [hb, cond_false] at h
    have hb2 : 2147483648 < b.1 := by
      cases Nat.lt_or_ge 2147483648 b.1 with
      | inl q => exact q
      | inr q => rw [q_ble_t q] at hb; cases hb
    obtain ⟨x1, x2⟩ := hx
    obtain ⟨y1, y2⟩ := hy
    refine ⟨q_ne0 (by omega), ?_⟩
    cases ha : Nat.ble 2147483648 a.1 with
    | false =>
      rw [ha] at h
      cases h
      exact q_jall_ok _
    | true =>
      rw [ha] at h
      cases h
      have h1 := Nat.le_of_ble_eq_true ha
      have ex := q_pc_int x
      have ey := q_pc_int y
      have e := q_rem_int (x := x) (y := y) (u := q_pc x - 2147483648) (v := q_pc y - 2147483648) (by omega) (by omega) (by omega)
      have ez := q_pc_of e
      have m1 : (q_pc x - 2147483648) % (q_pc y - 2147483648) ≤ q_pc x - 2147483648 := Nat.mod_le _ _
      have m2 : (q_pc x - 2147483648) % (q_pc y - 2147483648) < q_pc y - 2147483648 := Nat.mod_lt _ (by omega)
      show 2147483648 ≤ _ ∧ _ ≤ min a.2 (b.2 - 1)
      omega
def q_jbyte : q_J := (2147483520, 2147483775)
theorem q_jbyte_ok (x : Int32) : q_jr q_jbyte x.toInt8.toInt32 := by
  have h1 := Int8.le_toInt x.toInt8
  have h2 := Int8.toInt_lt x.toInt8
  have e : x.toInt8.toInt32.toInt = x.toInt8.toInt := Int8.toInt_toInt32 _
  have ez := q_pc_of e
  show 2147483520 ≤ _ ∧ _ ≤ 2147483775
  omega
/-- narrowing: what is left of a where a stands so to b (t) -/
def q_jn (j : Nat) (t : Bool) (a b : q_J) : q_J := match j, t with
  | 0, true | 1, false => (max a.1 b.1, min a.2 b.2)
  | 0, false | 1, true => bif q_jone b then (bif Nat.beq a.1 b.1 then (a.1 + 1, a.2) else bif Nat.beq a.2 b.1 then (a.1, a.2 - 1) else a) else a
  | 2, true | 3, false => (a.1, min a.2 (b.2 - 1))
  | 2, false | 3, true => (max a.1 b.1, a.2)
  | 4, true | 5, false => (max a.1 (b.1 + 1), a.2)
  | 4, false | 5, true => (a.1, min a.2 b.2)
  | _, _ => a
