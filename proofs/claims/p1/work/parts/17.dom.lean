/-! INTS THAT ARE NAMES: .inl c: the int c (mod 2^32); .inr (i, s, m): the name i, shifted right by s, then (m 1) its low byte, (m 2, 3) a byte once, twice -/
abbrev q_A : Type := Nat ⊕ (Nat × Nat × Nat)
def q_M32 : Nat := 4294967296
def q_dc (c : Nat) : Int32 := Int32.ofNat c
def q_en (x : Int32) : Nat := x.toBitVec.toNat
theorem q_dc_en (x : Int32) : q_dc (q_en x) = x := by
  unfold q_dc q_en
  apply Int32.toBitVec_inj.mp
  rw [Int32.toBitVec_ofNat']
  simp
/-- an int's place among all, the least one at 0 -/
def q_sg (c : Nat) : Nat := (c + 2147483648) % 4294967296
/-- what is told of the names: the and of name 5 with 63; bounds of the names 0, 1, 2; whether 0 and 1 differ -/
abbrev q_Kn : Type := Option Nat × List (Nat × Nat) × Bool
def q_bd (K : q_Kn) (i : Nat) : Nat × Nat := match K.2.1[i]? with
  | some q => q
  | none => (0, 4294967295)
def q_ds (x : Int32) : Nat → Int32
  | 0 => x
  | s + 1 => x >>> (Int32.ofNat (s + 1) &&& 31)
def q_d (ρ : Nat → Int32) : q_A → Int32
  | .inl c => q_dc c
  | .inr (i, s, m) => (match m with
    | 0 => q_ds (ρ i) s
    | 1 => q_ds (ρ i) s &&& 255
    | 2 => (q_ds (ρ i) s).toInt8.toInt32
    | _ => (q_ds (ρ i) s).toInt8.toInt32.toInt8.toInt32)
def q_a2 (K : q_Kn) (j : Nat) (a b : q_A) : Option q_A := match a, b with
  | .inl a, .inl b => bif Nat.beq j 0 then some (.inl ((a + b) % 4294967296)) else (match q_o2 j (q_dc a) (q_dc b) with
    | some z => some (.inl (q_en z))
    | none => none)
  | .inl 0, .inr t => bif Nat.beq j 0 then some (.inr t) else none
  | .inr (i, 0, 0), .inl b => bif Nat.beq j 7 then (bif Nat.blt b 32 then some (.inr (i, b, 0)) else none) else
      bif Nat.beq j 3 then (bif Nat.beq b 255 then some (.inr (i, 0, 1)) else bif Nat.beq b 63 && Nat.beq i 5 then (match K.1 with
        | some k => some (.inl k)
        | none => none) else none) else none
  | .inr (i, s + 1, 0), .inl b => bif Nat.beq j 3 && Nat.beq b 255 then some (.inr (i, s + 1, 1)) else none
  | _, _ => none
def q_a1 (j : Nat) (a : q_A) : Option q_A := match a with
  | .inl a => (match q_o1 j (q_dc a) with
    | some z => some (.inl (q_en z))
    | none => none)
  | .inr (i, s, 0) => bif Nat.beq j 1 then some (.inr (i, s, 2)) else none
  | .inr (i, s, 2) => bif Nat.beq j 1 then some (.inr (i, s, 3)) else none
  | _ => none
/-- compares of places -/
def q_pl (j x y : Nat) : Option Bool := match j with
  | 0 => some (Nat.beq x y)
  | 1 => some (!(Nat.beq x y))
  | 2 => some (Nat.blt x y)
  | 3 => some (Nat.ble y x)
  | 4 => some (Nat.blt y x)
  | 5 => some (Nat.ble x y)
  | _ => none
/-- compares of what lies in l..u with y -/
def q_pb (j l u y : Nat) : Option Bool := match j with
  | 0 => bif Nat.blt y l || Nat.blt u y then some false else none
  | 1 => bif Nat.blt y l || Nat.blt u y then some true else none
  | 2 => bif Nat.blt u y then some true else bif Nat.ble y l then some false else none
  | 3 => bif Nat.blt u y then some false else bif Nat.ble y l then some true else none
  | 4 => bif Nat.blt y l then some true else bif Nat.ble u y then some false else none
  | 5 => bif Nat.blt y l then some false else bif Nat.ble u y then some true else none
  | _ => none
def q_pe (j : Nat) (t : Bool) : Option Bool := match j with
  | 0 => some t
  | 1 => some (!t)
  | _ => none
def q_ac (K : q_Kn) (j : Nat) (a b : q_A) : Option Bool := match a, b with
  | .inl a, .inl b => bif Nat.blt a 4294967296 && Nat.blt b 4294967296 then q_pl j (q_sg a) (q_sg b) else none
  | .inr (i, 0, 0), .inl b => bif Nat.blt b 4294967296 then q_pb j (q_bd K i).1 (q_bd K i).2 (q_sg b) else none
  | .inr (i, 0, 0), .inr (i', 0, 0) => bif Nat.beq i i' then q_pe j true else bif K.2.2 && (Nat.beq i 0 && Nat.beq i' 1) then q_pe j false else none
  | _, _ => none
def q_ai (a : q_A) : Option Nat := match a with
  | .inl a => bif Nat.blt a 2147483648 then some a else none
  | _ => none
def q_ab (a : q_A) : Bool := match a with
  | .inl a => Nat.beq a 0 || Nat.beq a 1
  | _ => false
def q_at32 (a : q_A) : Option Int := match a with
  | .inl a => bif Nat.blt a 2147483648 then some (Int.ofNat a) else none
  | _ => none
def q_at64 (a : q_A) : Option Int64 := match a with
  | .inl a => some (q_dc a).toInt64
  | _ => none
def q_OA (K : q_Kn) : q_O q_A := (fun x => .inl (q_en x), q_a2 K, q_a1, q_ac K, q_ai, q_ab, q_at32, q_at64)
def q_K0 : q_Kn := (none, [], false)
