/-! what the operations make of ranges -/
theorem w_en31 (y : Int32) : (y &&& 31).toBitVec.toNat = q_en y % 32 := by
  rw [Int32.toBitVec_and, BitVec.toNat_and]
  show q_en y &&& 31 = _
  exact Nat.and_two_pow_sub_one_eq_mod (q_en y) 5
theorem w_msb31 (y : Int32) : (y &&& 31).toBitVec.msb = false := by
  rw [BitVec.msb_eq_false_iff_two_mul_lt, w_en31]
  have := Nat.mod_lt (q_en y) (show 0 < 32 by decide)
  omega
theorem w_sm31 (y : Int32) : ((y &&& 31).toBitVec.smod 32).toNat = q_en y % 32 := by
  rw [BitVec.smod_eq]
  rw [w_msb31]
  have h2 : (32 : BitVec 32).msb = false := by decide
  rw [h2]
  show ((y &&& 31).toBitVec.umod 32).toNat = _
  rw [BitVec.umod_eq, BitVec.toNat_umod, w_en31]
  show q_en y % 32 % 32 = _
  exact Nat.mod_mod _ _
theorem w_en_shl (x y : Int32) : q_en (x <<< (y &&& 31)) = q_en x * 2 ^ (q_en y % 32) % 4294967296 := by
  unfold q_en
  rw [Int32.toBitVec_shiftLeft, BitVec.shiftLeft_eq', BitVec.toNat_shiftLeft, w_sm31, Nat.shiftLeft_eq]
  rfl
theorem w_jshl_ok {a b : q_J} {x y : Int32} (hx : q_jr a x) (hy : q_jr b y) : q_jr (w_jshl a b) (x <<< (y &&& 31)) := by
  unfold w_jshl
  cases hb : Nat.ble 2147483648 a.1 && (Nat.ble 2147483648 b.1 && (Nat.blt b.2 2147483679 && Nat.blt ((a.2 - 2147483648) * 2 ^ (b.2 - 2147483648)) 2147483648)) with
  | false => exact q_jall_ok _
  | true =>
    simp only [Bool.and_eq_true, Nat.ble_eq, Nat.blt_eq] at hb
    obtain ⟨h1, h2, h3, h4⟩ := hb
    obtain ⟨x1, x2⟩ := hx
    obtain ⟨y1, y2⟩ := hy
    have ex := q_en_pos (x := x) (by omega)
    have ey := q_en_pos (x := y) (by omega)
    have e := w_en_shl x y
    rw [ex, ey, Nat.mod_eq_of_lt (show q_pc y - 2147483648 < 32 by omega)] at e
    have p1 : 2 ^ (q_pc y - 2147483648) ≤ 2 ^ (b.2 - 2147483648) := Nat.pow_le_pow_right (by decide) (by omega)
    have p2 : 2 ^ (b.1 - 2147483648) ≤ 2 ^ (q_pc y - 2147483648) := Nat.pow_le_pow_right (by decide) (by omega)
    have m1 : (q_pc x - 2147483648) * 2 ^ (q_pc y - 2147483648) ≤ (a.2 - 2147483648) * 2 ^ (b.2 - 2147483648) := Nat.mul_le_mul (by omega) p1
    have m2 : (a.1 - 2147483648) * 2 ^ (b.1 - 2147483648) ≤ (q_pc x - 2147483648) * 2 ^ (q_pc y - 2147483648) := Nat.mul_le_mul (by omega) p2
    obtain ⟨Z, hZ⟩ : ∃ Z, Z = (q_pc x - 2147483648) * 2 ^ (q_pc y - 2147483648) := ⟨_, rfl⟩
    obtain ⟨U, hU⟩ : ∃ U, U = (a.2 - 2147483648) * 2 ^ (b.2 - 2147483648) := ⟨_, rfl⟩
    obtain ⟨V, hV⟩ : ∃ V, V = (a.1 - 2147483648) * 2 ^ (b.1 - 2147483648) := ⟨_, rfl⟩
    rw [← hZ, ← hU] at m1
    rw [← hZ, ← hV] at m2
    rw [← hZ] at e
    rw [← hU] at h4
    rw [← hU, ← hV]
    clear hZ hU hV p1 p2
    rw [Nat.mod_eq_of_lt (by omega)] at e
    have ez := q_pc_small (x := x <<< (y &&& 31)) (by omega)
    show V + 2147483648 ≤ _ ∧ _ ≤ U + 2147483648
    omega
theorem w_jshr_ok {a b : q_J} {x y : Int32} (hx : q_jr a x) : q_jr (w_jshr a b) (x >>> (y &&& 31)) := by
  unfold w_jshr
  cases hb : Nat.ble 2147483648 a.1 with
  | false => exact q_jall_ok _
  | true =>
    have h1 := Nat.le_of_ble_eq_true hb
    obtain ⟨x1, x2⟩ := hx
    have ex := q_en_pos (x := x) (by omega)
    have hl := q_pc_lt x
    have hm : x.toBitVec.msb = false := by
      rw [BitVec.msb_eq_false_iff_two_mul_lt]
      show 2 * q_en x < _
      omega
    have e : q_en (x >>> (y &&& 31)) = q_en x >>> (q_en y % 32) := by
      unfold q_en
      rw [Int32.toBitVec_shiftRight, BitVec.sshiftRight', BitVec.sshiftRight_eq_of_msb_false hm, BitVec.toNat_ushiftRight, w_sm31]
      rfl
    have hle : q_en x >>> (q_en y % 32) ≤ q_en x := Nat.shiftRight_le _ _
    have ez := q_pc_small (x := x >>> (y &&& 31)) (by omega)
    show 2147483648 ≤ _ ∧ _ ≤ a.2
    omega
theorem w_jusr_ok {a b : q_J} {x y : Int32} (hy : q_jr b y) : q_jr (w_jusr a b) (x.toUInt32 >>> (y.toUInt32 &&& Int32.toUInt32 31)).toInt32 := by
  unfold w_jusr
  cases hb : q_jone b && (Nat.blt 2147483648 b.1 && Nat.blt b.1 2147483680) with
  | false => exact q_jall_ok _
  | true =>
    simp only [Bool.and_eq_true, Nat.blt_eq] at hb
    obtain ⟨h0, h1, h2⟩ := hb
    have e0 := q_beq h0
    obtain ⟨y1, y2⟩ := hy
    have ey := q_en_pos (x := y) (by omega)
    have e : q_en (x.toUInt32 >>> (y.toUInt32 &&& Int32.toUInt32 31)).toInt32 = q_en x >>> (q_en y % 32 % 32) := by
      show (x.toUInt32 >>> (y.toUInt32 &&& Int32.toUInt32 31)).toNat = _
      rw [UInt32.toNat_shiftRight, UInt32.toNat_and]
      have h31 : q_en y &&& 31 = q_en y % 32 := Nat.and_two_pow_sub_one_eq_mod (q_en y) 5
      show q_en x >>> ((q_en y &&& 31) % 32) = _
      rw [h31]
    rw [ey, show q_pc y = b.1 by omega, Nat.mod_mod, Nat.mod_eq_of_lt (show b.1 - 2147483648 < 32 by omega)] at e
    have hx := q_en_lt x
    have hpos : 0 < 2 ^ (2147483680 - b.1) := Nat.pow_pos (by decide)
    have hlt : q_en x >>> (b.1 - 2147483648) < 2 ^ (2147483680 - b.1) := by
      rw [Nat.shiftRight_eq_div_pow, Nat.div_lt_iff_lt_mul (Nat.pow_pos (by decide)), ← Nat.pow_add, show 2147483680 - b.1 + (b.1 - 2147483648) = 32 by omega]
      exact hx
    have hle31 : 2 ^ (2147483680 - b.1) ≤ 2 ^ 31 := Nat.pow_le_pow_right (by decide) (by omega)
    have ez := q_pc_small (x := (x.toUInt32 >>> (y.toUInt32 &&& Int32.toUInt32 31)).toInt32) (by rw [e]; exact Nat.lt_of_lt_of_le hlt hle31)
    generalize 2 ^ (2147483680 - b.1) = P at *
    show 2147483648 ≤ _ ∧ _ ≤ 2147483647 + P
    omega
theorem w_neg0 {b : q_J} {y : Int32} (hb : Nat.blt b.2 2147483648 = true) (hy : q_jr b y) : y ≠ 0 := by
  have h := q_blt hb
  intro e
  subst e
  have h2 : q_pc 0 = 2147483648 := by decide
  have := hy.2
  omega
theorem w_o2_ok {j : Nat} {a b z : q_J} {x y : Int32} (h : w_o2 j a b = some z) (hx : q_jr a x) (hy : q_jr b y) : ∃ w, q_o2 j x y = some w ∧ q_jr z w := by
  rcases j with _ | _ | _ | _ | _ | _ | _ | _ | _ | _ | _ | _ | _ | j
  · cases h; exact ⟨_, rfl, q_jadd_ok hx hy⟩
  · cases h; exact ⟨_, rfl, q_jsub_ok hx hy⟩
  · cases h; exact ⟨_, rfl, q_jmul_ok hx hy⟩
  · cases h; exact ⟨_, rfl, q_jx_ok (f := fun x y => x &&& y) hx hy (q_jand_ok hx hy)⟩
  · cases h; exact ⟨_, rfl, q_jx_ok (f := fun x y => x ||| y) hx hy (q_jor_or hx hy)⟩
  · cases h; exact ⟨_, rfl, q_jx_ok (f := fun x y => x ^^^ y) hx hy (q_jor_xor hx hy)⟩
  · cases h; exact ⟨_, rfl, q_jx_ok (f := fun x y => x <<< (y &&& 31)) hx hy (w_jshl_ok hx hy)⟩
  · cases h; exact ⟨_, rfl, q_jx_ok (f := fun x y => x >>> (y &&& 31)) hx hy (w_jshr_ok hx)⟩
  · cases h; exact ⟨_, rfl, w_jusr_ok hy⟩
  · have h2 : w_jdv a b = some z := h
    unfold w_jdv at h2
    cases hb : Nat.blt b.2 2147483648 with
    | true =>
      rw [hb] at h2
      cases h2
      refine ⟨x / y, ?_, q_jall_ok _⟩
      show (if y = 0 then none else some (x / y)) = _
      rw [if_neg (w_neg0 hb hy)]
    | false =>
      rw [hb] at h2
      obtain ⟨h3, h4⟩ := q_jdiv_ok h2 hx hy
      refine ⟨x / y, ?_, h4⟩
      show (if y = 0 then none else some (x / y)) = _
      rw [if_neg h3]
  · have h2 : w_jrm a b = some z := h
    unfold w_jrm at h2
    cases hb : Nat.blt b.2 2147483648 with
    | true =>
      rw [hb] at h2
      cases h2
      refine ⟨x - x / y * y, ?_, q_jall_ok _⟩
      show (if y = 0 then none else some (x - x / y * y)) = _
      rw [if_neg (w_neg0 hb hy)]
    | false =>
      rw [hb] at h2
      obtain ⟨h3, h4⟩ := q_jrem_ok h2 hx hy
      refine ⟨x - x / y * y, ?_, h4⟩
      show (if y = 0 then none else some (x - x / y * y)) = _
      rw [if_neg h3]
  · cases h; exact ⟨_, rfl, q_jmax_ok hx hy⟩
  · cases h; exact ⟨_, rfl, q_jmin_ok hx hy⟩
  · cases h
theorem w_o1_ok {j : Nat} {a z : q_J} {x : Int32} (h : w_o1 j a = some z) (hx : q_jr a x) : ∃ w, q_o1 j x = some w ∧ q_jr z w := by
  rcases j with _ | _ | _ | _ | j
  · cases h
    refine ⟨-x, rfl, ?_⟩
    have := q_jsub_ok (q_jc_ok 0) hx
    rwa [show (0 : Int32) - x = -x from Int32.zero_sub x] at this
  · cases h; exact ⟨_, rfl, q_jbyte_ok x⟩
  · cases h
    refine ⟨_, rfl, ?_⟩
    have e : q_en (x.toUInt32 % 65536).toInt32 = q_en x % 65536 := by
      show (x.toUInt32 % 65536).toNat = _
      rw [UInt32.toNat_mod]
      rfl
    have hl := Nat.mod_lt (q_en x) (show 0 < 65536 by decide)
    have ez := q_pc_small (x := (x.toUInt32 % 65536).toInt32) (by omega)
    show 2147483648 ≤ _ ∧ _ ≤ 2147549183
    omega
  · cases h
    refine ⟨_, rfl, ?_⟩
    cases hb : Nat.ble 2147483648 a.1 with
    | false => exact q_jall_ok _
    | true =>
      have h1 := Nat.le_of_ble_eq_true hb
      have e : (0 : Int32) ≤ x := by
        rw [Int32.le_iff_toInt_le, q_pc_int x]
        have := hx.1
        show (0 : Int) ≤ _
        omega
      rw [if_pos e]
      exact hx
  · cases h
