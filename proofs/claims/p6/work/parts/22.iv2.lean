/-- two told ints: what comes of them; else z -/
def q_jx (a b : q_J) (f : Int32 → Int32 → Int32) (z : q_J) : q_J := bif q_jone a && q_jone b then q_jc (f (q_at32 a.1) (q_at32 b.1)) else z
theorem q_jx_ok {a b z : q_J} {f : Int32 → Int32 → Int32} {x y : Int32} (hx : q_jr a x) (hy : q_jr b y) (hz : q_jr z (f x y)) : q_jr (q_jx a b f z) (f x y) := by
  unfold q_jx
  cases hb : q_jone a && q_jone b with
  | false => exact hz
  | true =>
    rw [Bool.and_eq_true] at hb
    have e1 := q_jone_ok hb.1 hx
    have e2 := q_jone_ok hb.2 hy
    rw [cond_true, ← e1, ← e2]
    exact q_jc_ok _
theorem q_en_pos {x : Int32} (h : 2147483648 ≤ q_pc x) : q_en x = q_pc x - 2147483648 := by
  have h1 := q_en_lt x
  unfold q_pc q_sg at *
  omega
theorem q_pc_small {x : Int32} (h : q_en x < 2147483648) : q_pc x = q_en x + 2147483648 := by
  unfold q_pc q_sg
  omega
def q_jmul (a b : q_J) : q_J := bif Nat.ble 2147483648 a.1 && (Nat.ble 2147483648 b.1 && Nat.blt ((a.2 - 2147483648) * (b.2 - 2147483648)) 2147483648) then ((a.1 - 2147483648) * (b.1 - 2147483648) + 2147483648, (a.2 - 2147483648) * (b.2 - 2147483648) + 2147483648) else q_jall
theorem q_jmul_ok {a b : q_J} {x y : Int32} (hx : q_jr a x) (hy : q_jr b y) : q_jr (q_jmul a b) (x * y) := by
  unfold q_jmul
  cases hb : Nat.ble 2147483648 a.1 && (Nat.ble 2147483648 b.1 && Nat.blt ((a.2 - 2147483648) * (b.2 - 2147483648)) 2147483648) with
  | false => exact q_jall_ok _
  | true =>
    simp only [Bool.and_eq_true] at hb
    have h1 := Nat.le_of_ble_eq_true hb.1
    have h2 := Nat.le_of_ble_eq_true hb.2.1
    have h3 := q_blt hb.2.2
    obtain ⟨x1, x2⟩ := hx
    obtain ⟨y1, y2⟩ := hy
    have ex := q_pc_int x
    have ey := q_pc_int y
    have m1 : (a.1 - 2147483648) * (b.1 - 2147483648) ≤ (q_pc x - 2147483648) * (q_pc y - 2147483648) := Nat.mul_le_mul (by omega) (by omega)
    have m2 : (q_pc x - 2147483648) * (q_pc y - 2147483648) ≤ (a.2 - 2147483648) * (b.2 - 2147483648) := Nat.mul_le_mul (by omega) (by omega)
    have ex2 : x.toInt = ((q_pc x - 2147483648 : Nat) : Int) := by omega
    have ey2 : y.toInt = ((q_pc y - 2147483648 : Nat) : Int) := by omega
    have e : (x * y).toInt = (((q_pc x - 2147483648) * (q_pc y - 2147483648) : Nat) : Int) := by
      rw [Int32.toInt_mul, ex2, ey2, ← Int.natCast_mul]
      apply Int.bmod_eq_of_le <;> omega
    have ez := q_pc_of e
    show (a.1 - 2147483648) * (b.1 - 2147483648) + 2147483648 ≤ _ ∧ _ ≤ (a.2 - 2147483648) * (b.2 - 2147483648) + 2147483648
    omega
theorem q_en_and (x y : Int32) : q_en (x &&& y) = q_en x &&& q_en y := by
  unfold q_en
  rw [Int32.toBitVec_and, BitVec.toNat_and]
theorem q_en_or (x y : Int32) : q_en (x ||| y) = q_en x ||| q_en y := by
  unfold q_en
  rw [Int32.toBitVec_or, BitVec.toNat_or]
theorem q_en_xor (x y : Int32) : q_en (x ^^^ y) = q_en x ^^^ q_en y := by
  unfold q_en
  rw [Int32.toBitVec_xor, BitVec.toNat_xor]
def q_jand (a b : q_J) : q_J := bif Nat.ble 2147483648 b.1 then (2147483648, b.2) else bif Nat.ble 2147483648 a.1 then (2147483648, a.2) else q_jall
theorem q_jand_ok {a b : q_J} {x y : Int32} (hx : q_jr a x) (hy : q_jr b y) : q_jr (q_jand a b) (x &&& y) := by
  unfold q_jand
  have e := q_en_and x y
  obtain ⟨x1, x2⟩ := hx
  obtain ⟨y1, y2⟩ := hy
  cases hb : Nat.ble 2147483648 b.1 with
  | true =>
    have h1 := Nat.le_of_ble_eq_true hb
    have e2 := q_en_pos (x := y) (by omega)
    have h2 : q_en (x &&& y) ≤ q_en y := by rw [e]; exact Nat.and_le_right
    have := q_pc_lt y
    have e3 := q_pc_small (x := x &&& y) (by omega)
    show 2147483648 ≤ q_pc (x &&& y) ∧ q_pc (x &&& y) ≤ b.2
    omega
  | false =>
    rw [cond_false]
    cases ha : Nat.ble 2147483648 a.1 with
    | true =>
      have h1 := Nat.le_of_ble_eq_true ha
      have e2 := q_en_pos (x := x) (by omega)
      have h2 : q_en (x &&& y) ≤ q_en x := by rw [e]; exact Nat.and_le_left
      have := q_pc_lt x
      have e3 := q_pc_small (x := x &&& y) (by omega)
      show 2147483648 ≤ q_pc (x &&& y) ∧ q_pc (x &&& y) ≤ a.2
      omega
    | false => exact q_jall_ok _
/-- or, xor of two below 2^k -/
def q_jor (a b : q_J) : q_J := bif Nat.ble 2147483648 a.1 && (Nat.ble 2147483648 b.1 && (Nat.blt a.2 4294967296 && Nat.blt b.2 4294967296)) then (2147483648, 2147483647 + 2 ^ (max (a.2 - 2147483648) (b.2 - 2147483648)).log2.succ) else q_jall
theorem q_jor_ok {a b : q_J} {x y z : Int32} (hz : ∀ k, q_en x < 2 ^ k → q_en y < 2 ^ k → q_en z < 2 ^ k) (hx : q_jr a x) (hy : q_jr b y) : q_jr (q_jor a b) z := by
  unfold q_jor
  cases hb : Nat.ble 2147483648 a.1 && (Nat.ble 2147483648 b.1 && (Nat.blt a.2 4294967296 && Nat.blt b.2 4294967296)) with
  | false => exact q_jall_ok _
  | true =>
    simp only [Bool.and_eq_true] at hb
    have h1 := Nat.le_of_ble_eq_true hb.1
    have h2 := Nat.le_of_ble_eq_true hb.2.1
    have h3 := q_blt hb.2.2.1
    have h4 := q_blt hb.2.2.2
    obtain ⟨x1, x2⟩ := hx
    obtain ⟨y1, y2⟩ := hy
    have ex := q_en_pos (x := x) (by omega)
    have ey := q_en_pos (x := y) (by omega)
    have hl : max (a.2 - 2147483648) (b.2 - 2147483648) < 2 ^ (max (a.2 - 2147483648) (b.2 - 2147483648)).log2.succ := Nat.lt_log2_self
    have hm1 : a.2 - 2147483648 ≤ max (a.2 - 2147483648) (b.2 - 2147483648) := Nat.le_max_left _ _
    have hm2 : b.2 - 2147483648 ≤ max (a.2 - 2147483648) (b.2 - 2147483648) := Nat.le_max_right _ _
    have g1 : q_en x ≤ a.2 - 2147483648 := by rw [ex]; exact Nat.sub_le_sub_right x2 _
    have g2 : q_en y ≤ b.2 - 2147483648 := by rw [ey]; exact Nat.sub_le_sub_right y2 _
    have hzz := hz _ (Nat.lt_of_le_of_lt (Nat.le_trans g1 hm1) hl) (Nat.lt_of_le_of_lt (Nat.le_trans g2 hm2) hl)
    generalize 2 ^ (max (a.2 - 2147483648) (b.2 - 2147483648)).log2.succ = B at hzz ⊢
    clear hl hm1 hm2
    have hz31 := hz 31 (by omega) (by omega)
    have e3 := q_pc_small (x := z) hz31
    show 2147483648 ≤ q_pc z ∧ q_pc z ≤ 2147483647 + B
    omega
theorem q_jor_or {a b : q_J} {x y : Int32} (hx : q_jr a x) (hy : q_jr b y) : q_jr (q_jor a b) (x ||| y) := q_jor_ok (fun k h1 h2 => by rw [q_en_or]; exact Nat.or_lt_two_pow h1 h2) hx hy
theorem q_jor_xor {a b : q_J} {x y : Int32} (hx : q_jr a x) (hy : q_jr b y) : q_jr (q_jor a b) (x ^^^ y) := q_jor_ok (fun k h1 h2 => by rw [q_en_xor]; exact Nat.xor_lt_two_pow h1 h2) hx hy
def q_jmax (a b : q_J) : q_J := (max a.1 b.1, max a.2 b.2)
theorem q_lt_pc {x y : Int32} : x < y ↔ q_pc x < q_pc y := by
  have ex := q_pc_int x
  have ey := q_pc_int y
  rw [Int32.lt_iff_toInt_lt]
  omega
theorem q_jmax_ok {a b : q_J} {x y : Int32} (hx : q_jr a x) (hy : q_jr b y) : q_jr (q_jmax a b) (if x < y then y else x) := by
  obtain ⟨x1, x2⟩ := hx
  obtain ⟨y1, y2⟩ := hy
  show max a.1 b.1 ≤ _ ∧ _ ≤ max a.2 b.2
  split
  next h =>
    have := q_lt_pc.mp h
    omega
  next h =>
    have h' : ¬ q_pc x < q_pc y := fun q => h (q_lt_pc.mpr q)
    omega
def q_jmin (a b : q_J) : q_J := (min a.1 b.1, min a.2 b.2)
theorem q_jmin_ok {a b : q_J} {x y : Int32} (hx : q_jr a x) (hy : q_jr b y) : q_jr (q_jmin a b) (if y < x then y else x) := by
  obtain ⟨x1, x2⟩ := hx
  obtain ⟨y1, y2⟩ := hy
  show min a.1 b.1 ≤ _ ∧ _ ≤ min a.2 b.2
  split
  next h =>
    have := q_lt_pc.mp h
    omega
  next h =>
    have h' : ¬ q_pc y < q_pc x := fun q => h (q_lt_pc.mpr q)
    omega
/-- the join of two -/
def q_jj (a b : q_J) : q_J := (min a.1 b.1, max a.2 b.2)
theorem q_jj_l {a b : q_J} {x : Int32} (hx : q_jr a x) : q_jr (q_jj a b) x := by
  obtain ⟨x1, x2⟩ := hx
  show min a.1 b.1 ≤ _ ∧ _ ≤ max a.2 b.2
  omega
theorem q_jj_r {a b : q_J} {x : Int32} (hx : q_jr b x) : q_jr (q_jj a b) x := by
  obtain ⟨x1, x2⟩ := hx
  show min a.1 b.1 ≤ _ ∧ _ ≤ max a.2 b.2
  omega
def q_jle (a b : q_J) : Bool := Nat.ble b.1 a.1 && Nat.ble a.2 b.2
theorem q_jle_ok {a b : q_J} {x : Int32} (h : q_jle a b = true) (hx : q_jr a x) : q_jr b x := by
  unfold q_jle at h
  rw [Bool.and_eq_true] at h
  have h1 := Nat.le_of_ble_eq_true h.1
  have h2 := Nat.le_of_ble_eq_true h.2
  obtain ⟨x1, x2⟩ := hx
  exact ⟨by omega, by omega⟩
/-- a compare that the bounds decide -/
def q_jcm (j : Nat) (a b : q_J) : Option Bool := match j with
  | 0 => bif Nat.blt a.2 b.1 || Nat.blt b.2 a.1 then some false else bif q_jone a && (q_jone b && Nat.beq a.1 b.1) then some true else none
  | 1 => bif Nat.blt a.2 b.1 || Nat.blt b.2 a.1 then some true else bif q_jone a && (q_jone b && Nat.beq a.1 b.1) then some false else none
  | 2 => bif Nat.blt a.2 b.1 then some true else bif Nat.ble b.2 a.1 then some false else none
  | 3 => bif Nat.blt a.2 b.1 then some false else bif Nat.ble b.2 a.1 then some true else none
  | 4 => bif Nat.blt b.2 a.1 then some true else bif Nat.ble a.2 b.1 then some false else none
  | 5 => bif Nat.blt b.2 a.1 then some false else bif Nat.ble a.2 b.1 then some true else none
  | _ => none
