/-! INTERVALS OF INTS: an int's place among all (the least one at 0) lies in l..u -/
theorem q_beq_self (k : Nat) : Nat.beq k k = true := by
  cases h : Nat.beq k k with
  | true => rfl
  | false => exact absurd rfl (Nat.ne_of_beq_eq_false h)
theorem q_beq_ne {a b : Nat} (h : a ≠ b) : Nat.beq a b = false := by
  cases hb : Nat.beq a b with
  | true => exact absurd (Nat.eq_of_beq_eq_true hb) h
  | false => rfl
def q_dc (c : Nat) : Int32 := Int32.ofNat c
def q_en (x : Int32) : Nat := x.toBitVec.toNat
theorem q_dc_en (x : Int32) : q_dc (q_en x) = x := by
  unfold q_dc q_en
  apply Int32.toBitVec_inj.mp
  rw [Int32.toBitVec_ofNat']
  simp
/-- an int's place among all, the least one at 0 -/
def q_sg (c : Nat) : Nat := (c + 2147483648) % 4294967296
/-- compares of places -/
def q_pl (j x y : Nat) : Option Bool := match j with
  | 0 => some (Nat.beq x y)
  | 1 => some (!(Nat.beq x y))
  | 2 => some (Nat.blt x y)
  | 3 => some (Nat.ble y x)
  | 4 => some (Nat.blt y x)
  | 5 => some (Nat.ble x y)
  | _ => none
/-- compares of what lies in l..u with y -/
def q_pb (j l u y : Nat) : Option Bool := match j with
  | 0 => bif Nat.blt y l || Nat.blt u y then some false else none
  | 1 => bif Nat.blt y l || Nat.blt u y then some true else none
  | 2 => bif Nat.blt u y then some true else bif Nat.ble y l then some false else none
  | 3 => bif Nat.blt u y then some false else bif Nat.ble y l then some true else none
  | 4 => bif Nat.blt y l then some true else bif Nat.ble u y then some false else none
  | 5 => bif Nat.blt y l then some false else bif Nat.ble u y then some true else none
  | _ => none
theorem q_dc_add (a b : Nat) : q_dc ((a + b) % 4294967296) = q_dc a + q_dc b := by
  unfold q_dc
  apply Int32.toBitVec_inj.mp
  rw [Int32.toBitVec_add, Int32.toBitVec_ofNat', Int32.toBitVec_ofNat', Int32.toBitVec_ofNat']
  apply BitVec.eq_of_toNat_eq
  simp
theorem q_dc_int {a : Nat} (ha : a < 4294967296) : (q_dc a).toInt = (q_sg a : Int) - 2147483648 := by
  unfold q_dc q_sg
  rw [← Int32.toInt_toBitVec, Int32.toBitVec_ofNat', BitVec.toInt_eq_toNat_bmod, BitVec.toNat_ofNat]
  unfold Int.bmod
  have e : (2 ^ 32 : Nat) = 4294967296 := by decide
  rw [e]
  dsimp only
  split <;> omega
theorem q_en_lt (x : Int32) : q_en x < 4294967296 := x.toBitVec.isLt
theorem q_en_int (x : Int32) : x.toInt = (q_sg (q_en x) : Int) - 2147483648 := by
  have h := q_dc_int (q_en_lt x)
  rw [q_dc_en] at h
  exact h
theorem q_sg_lt (a : Nat) : q_sg a < 4294967296 := Nat.mod_lt _ (by decide)
theorem q_cm_pl {x y : Int32} {X Y : Nat} (hx : x.toInt = (X : Int) - 2147483648) (hy : y.toInt = (Y : Int) - 2147483648) (j : Nat) : q_cm j x y = q_pl j X Y := by
  have heq : x = y ↔ X = Y := by
    rw [← Int32.toInt_inj]
    omega
  have hlt : x < y ↔ X < Y := by
    rw [Int32.lt_iff_toInt_lt]
    omega
  have hgt : y < x ↔ Y < X := by
    rw [Int32.lt_iff_toInt_lt]
    omega
  have hle : x ≤ y ↔ X ≤ Y := by
    rw [Int32.le_iff_toInt_le]
    omega
  have hge : y ≤ x ↔ Y ≤ X := by
    rw [Int32.le_iff_toInt_le]
    omega
  have b1 : decide (x = y) = Nat.beq X Y := by
    rw [Bool.eq_iff_iff, decide_eq_true_eq, heq]
    exact ⟨fun h => by subst h; exact q_beq_self X, q_beq⟩
  have bl : ∀ A B : Nat, Nat.ble A B = true ↔ A ≤ B := fun A B => ⟨Nat.le_of_ble_eq_true, Nat.ble_eq_true_of_le⟩
  rcases j with _ | _ | _ | _ | _ | _ | j
  · show some (decide (x = y)) = some (Nat.beq X Y)
    rw [b1]
  · show some (decide (x ≠ y)) = some (!(Nat.beq X Y))
    rw [← b1, decide_not]
  · show some (decide (x < y)) = some (Nat.ble (X + 1) Y)
    congr 1
    rw [Bool.eq_iff_iff, decide_eq_true_eq, hlt]
    exact (bl _ _).symm
  · show some (decide (y ≤ x)) = some (Nat.ble Y X)
    congr 1
    rw [Bool.eq_iff_iff, decide_eq_true_eq, hge]
    exact (bl _ _).symm
  · show some (decide (y < x)) = some (Nat.ble (Y + 1) X)
    congr 1
    rw [Bool.eq_iff_iff, decide_eq_true_eq, hgt]
    exact (bl _ _).symm
  · show some (decide (x ≤ y)) = some (Nat.ble X Y)
    congr 1
    rw [Bool.eq_iff_iff, decide_eq_true_eq, hle]
    exact (bl _ _).symm
  · rfl
theorem q_pb_pl {l u X Y : Nat} (h1 : l ≤ X) (h2 : X ≤ u) {j : Nat} {t : Bool} (h : q_pb j l u Y = some t) : q_pl j X Y = some t := by
  have bl : ∀ A B : Nat, Nat.ble A B = true ↔ A ≤ B := fun A B => ⟨Nat.le_of_ble_eq_true, Nat.ble_eq_true_of_le⟩
  have bt : ∀ A B : Nat, A ≤ B → Nat.ble A B = true := fun A B h => (bl A B).mpr h
  have bf : ∀ A B : Nat, B < A → Nat.ble A B = false := fun A B h => by
    cases hh : Nat.ble A B with
    | true => exact absurd ((bl A B).mp hh) (by omega)
    | false => rfl
  have lt : ∀ A B : Nat, Nat.blt A B = true → A < B := fun A B h => q_blt h
  have le : ∀ A B : Nat, Nat.ble A B = true → A ≤ B := fun A B h => (bl A B).mp h
  unfold q_pb at h
  split at h
  · cases hb : Nat.blt Y l || Nat.blt u Y with
    | false => rw [hb] at h; cases h
    | true =>
      rw [hb] at h
      cases h
      rcases (Bool.or_eq_true _ _).mp hb with hb | hb
      · have := lt _ _ hb
        show some (Nat.beq X Y) = _
        rw [q_beq_ne (by omega)]
      · have := lt _ _ hb
        show some (Nat.beq X Y) = _
        rw [q_beq_ne (by omega)]
  · cases hb : Nat.blt Y l || Nat.blt u Y with
    | false => rw [hb] at h; cases h
    | true =>
      rw [hb] at h
      cases h
      rcases (Bool.or_eq_true _ _).mp hb with hb | hb
      · have := lt _ _ hb
        show some (!(Nat.beq X Y)) = _
        rw [q_beq_ne (by omega)]
        rfl
      · have := lt _ _ hb
        show some (!(Nat.beq X Y)) = _
        rw [q_beq_ne (by omega)]
        rfl
  · cases hb : Nat.blt u Y with
    | true =>
      rw [hb] at h
      cases h
      have := lt _ _ hb
      show some (Nat.ble (X + 1) Y) = _
      rw [bt _ _ (by omega)]
    | false =>
      rw [hb, cond_false] at h
      cases hb2 : Nat.ble Y l with
      | false => rw [hb2] at h; cases h
      | true =>
        rw [hb2] at h
        cases h
        have := le _ _ hb2
        show some (Nat.ble (X + 1) Y) = _
        rw [bf _ _ (by omega)]
  · cases hb : Nat.blt u Y with
    | true =>
      rw [hb] at h
      cases h
      have := lt _ _ hb
      show some (Nat.ble Y X) = _
      rw [bf _ _ (by omega)]
    | false =>
      rw [hb, cond_false] at h
      cases hb2 : Nat.ble Y l with
      | false => rw [hb2] at h; cases h
      | true =>
        rw [hb2] at h
        cases h
        have := le _ _ hb2
        show some (Nat.ble Y X) = _
        rw [bt _ _ (by omega)]
  · cases hb : Nat.blt Y l with
    | true =>
      rw [hb] at h
      cases h
      have := lt _ _ hb
      show some (Nat.ble (Y + 1) X) = _
      rw [bt _ _ (by omega)]
    | false =>
      rw [hb, cond_false] at h
      cases hb2 : Nat.ble u Y with
      | false => rw [hb2] at h; cases h
      | true =>
        rw [hb2] at h
        cases h
        have := le _ _ hb2
        show some (Nat.ble (Y + 1) X) = _
        rw [bf _ _ (by omega)]
  · cases hb : Nat.blt Y l with
    | true =>
      rw [hb] at h
      cases h
      have := lt _ _ hb
      show some (Nat.ble X Y) = _
      rw [bf _ _ (by omega)]
    | false =>
      rw [hb, cond_false] at h
      cases hb2 : Nat.ble u Y with
      | false => rw [hb2] at h; cases h
      | true =>
        rw [hb2] at h
        cases h
        have := le _ _ hb2
        show some (Nat.ble X Y) = _
        rw [bt _ _ (by omega)]
  · cases h
theorem q_dc_small {a : Nat} (ha : a < 2147483648) : (q_dc a).toInt = (a : Int) := by
  rw [q_dc_int (by omega)]
  unfold q_sg
  omega
abbrev q_J : Type := Nat × Nat
/-- the place of an int: what it is and 2^31 -/
def q_pc (x : Int32) : Nat := q_sg (q_en x)
def q_jr (a : q_J) (x : Int32) : Prop := a.1 ≤ q_pc x ∧ q_pc x ≤ a.2
theorem q_pc_int (x : Int32) : x.toInt = (q_pc x : Int) - 2147483648 := q_en_int x
theorem q_pc_lt (x : Int32) : q_pc x < 4294967296 := q_sg_lt _
def q_jall : q_J := (0, 4294967295)
theorem q_jall_ok (x : Int32) : q_jr q_jall x := ⟨Nat.zero_le _, by have := q_pc_lt x; show q_pc x ≤ 4294967295; omega⟩
def q_jc (c : Int32) : q_J := (q_pc c, q_pc c)
theorem q_jc_ok (c : Int32) : q_jr (q_jc c) c := ⟨Nat.le_refl _, Nat.le_refl _⟩
/-- the int at a place -/
def q_at32 (s : Nat) : Int32 := q_dc ((s + 2147483648) % 4294967296)
theorem q_at32_ok {s : Nat} {x : Int32} (h : q_pc x = s) : q_at32 s = x := by
  have h3 := q_en_lt x
  have e3 : (s + 2147483648) % 4294967296 = q_en x := by
    rw [← h]
    unfold q_pc q_sg
    omega
  unfold q_at32
  rw [e3, q_dc_en]
def q_jone (a : q_J) : Bool := Nat.beq a.1 a.2
theorem q_jone_ok {a : q_J} {x : Int32} (h : q_jone a = true) (hx : q_jr a x) : x = q_at32 a.1 := by
  have e := q_beq h
  obtain ⟨h1, h2⟩ := hx
  exact (q_at32_ok (by omega)).symm
theorem q_pc_of {x : Int32} {v : Int} (h : x.toInt = v) : (q_pc x : Int) = v + 2147483648 := by
  have := q_pc_int x
  omega
def q_jadd (a b : q_J) : q_J := bif Nat.ble 2147483648 (a.1 + b.1) && Nat.blt (a.2 + b.2) 6442450944 then (a.1 + b.1 - 2147483648, a.2 + b.2 - 2147483648) else q_jall
theorem q_jadd_ok {a b : q_J} {x y : Int32} (hx : q_jr a x) (hy : q_jr b y) : q_jr (q_jadd a b) (x + y) := by
  unfold q_jadd
  cases hb : Nat.ble 2147483648 (a.1 + b.1) && Nat.blt (a.2 + b.2) 6442450944 with
  | false => exact q_jall_ok _
  | true =>
    rw [Bool.and_eq_true] at hb
    have h1 := Nat.le_of_ble_eq_true hb.1
    have h2 := q_blt hb.2
    obtain ⟨x1, x2⟩ := hx
    obtain ⟨y1, y2⟩ := hy
    have ex := q_pc_int x
    have ey := q_pc_int y
    have e : (x + y).toInt = x.toInt + y.toInt := by
      rw [Int32.toInt_add]
      apply Int.bmod_eq_of_le <;> omega
    have ez := q_pc_of e
    show a.1 + b.1 - 2147483648 ≤ _ ∧ _ ≤ a.2 + b.2 - 2147483648
    omega
def q_jsub (a b : q_J) : q_J := bif Nat.ble b.2 (a.1 + 2147483648) && Nat.blt (a.2 + 2147483648) (b.1 + 4294967296) then (a.1 + 2147483648 - b.2, a.2 + 2147483648 - b.1) else q_jall
theorem q_jsub_ok {a b : q_J} {x y : Int32} (hx : q_jr a x) (hy : q_jr b y) : q_jr (q_jsub a b) (x - y) := by
  unfold q_jsub
  cases hb : Nat.ble b.2 (a.1 + 2147483648) && Nat.blt (a.2 + 2147483648) (b.1 + 4294967296) with
  | false => exact q_jall_ok _
  | true =>
    rw [Bool.and_eq_true] at hb
    have h1 := Nat.le_of_ble_eq_true hb.1
    have h2 := q_blt hb.2
    obtain ⟨x1, x2⟩ := hx
    obtain ⟨y1, y2⟩ := hy
    have ex := q_pc_int x
    have ey := q_pc_int y
    have e : (x - y).toInt = x.toInt - y.toInt := by
      rw [Int32.toInt_sub]
      apply Int.bmod_eq_of_le <;> omega
    have ez := q_pc_of e
    show a.1 + 2147483648 - b.2 ≤ _ ∧ _ ≤ a.2 + 2147483648 - b.1
    omega
