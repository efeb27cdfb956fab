/-! A SMALL MACHINE OF OUR OWN (q_): the instructions that the claim's classes use, over cells that are numbered from 0. What is true of its runs is carried to the claim's machine, instruction by instruction, by the rows behind it. Its ints are of a kind I with told operations O, so that the same runs may be made over ranges of numbers. -/
abbrev q_V (I : Type) : Type := I ⊕ (Int64 ⊕ Nat)
abbrev q_U (I : Type) : Type := List (Nat × q_V I)
abbrev q_C (I : Type) : Type := Nat × Nat × q_U I
abbrev q_H (I : Type) : Type := List (q_C I)
abbrev q_F (I : Type) : Type := Nat × q_U I × List (q_V I)
abbrev q_S (I : Type) : Type := q_F I × q_H I × Nat
abbrev q_R (I : Type) : Type := Option (q_V I) × q_H I × Nat
abbrev q_X (I : Type) : Type := Option (q_S I ⊕ q_R I)
abbrev q_O (I : Type) : Type := (Int32 → I) × (Nat → I → I → Option I) × (Nat → I → Option I) × (Nat → I → I → Option Bool) × (I → Option Nat) × (I → Bool) × (I → Option Int) × (I → Option Int64)
abbrev q_I : Type := Jvm.ClassFile.Instr × Nat × List Nat
abbrev q_T : Type := List (List q_I)
def q_at {α : Type} : List (Nat × α) → Nat → Option α
  | [], _ => none
  | q :: r, k => bif Nat.beq q.1 k then some q.2 else q_at r k
/-- 0 an int, 1 a reference, 2 a long, 3 null -/
def q_kind {I : Type} : q_V I → Nat
  | .inl _ => 0
  | .inr (.inl _) => 2
  | .inr (.inr 0) => 3
  | .inr (.inr (_ + 1)) => 1
def q_cat {I : Type} : q_V I → Nat
  | .inr (.inl _) => 2
  | _ => 1
def q_cats {I : Type} : List (q_V I) → Nat
  | [] => 0
  | v :: r => q_cat v + q_cats r
def q_args {I : Type} : Nat → List (q_V I) → q_U I
  | _, [] => []
  | i, v :: vs => (i, v) :: q_args (bif Nat.beq (q_cat v) 2 then i + 2 else i + 1) vs
def q_nx {I : Type} (n : Nat) (f : q_F I) (st : List (q_V I)) (h : q_H I) (ns : Nat) : q_X I := some (.inl ((f.1 + n, f.2.1, st), h, ns))
def q_ld {I : Type} (t i len : Nat) (f : q_F I) (h : q_H I) (ns : Nat) : q_X I :=
  match q_at f.2.1 i with
  | some v => bif Nat.beq (q_kind v) t then q_nx len f (v :: f.2.2) h ns else none
  | none => none
def q_keep1 {I : Type} (i : Nat) (q : Nat × q_V I) : Bool := !(q.1 == i) && !(q.1 + 1 == i && q_cat q.2 == 2)
def q_keep2 {I : Type} (i : Nat) (q : Nat × q_V I) : Bool := !(q.1 == i) && (!(q.1 == i + 1) && !(q.1 + 1 == i && q_cat q.2 == 2))
def q_st {I : Type} (t i len : Nat) (f : q_F I) (h : q_H I) (ns : Nat) : q_X I :=
  match f.2.2 with
  | v :: r => bif Nat.beq (q_kind v) t then some (.inl ((f.1 + len, (i, v) :: f.2.1.filter (bif Nat.beq t 2 then q_keep2 i else q_keep1 i), r), h, ns)) else none
  | [] => none
def q_iinc {I : Type} (O : q_O I) (i : Nat) (n : Int) (len : Nat) (f : q_F I) (h : q_H I) (ns : Nat) : q_X I :=
  match q_at f.2.1 i with
  | some (.inl x) => (match O.2.1 0 x (O.1 (Int32.ofInt n)) with
    | some y => some (.inl ((f.1 + len, (i, .inl y) :: f.2.1.filter (q_keep1 i), f.2.2), h, ns))
    | none => none)
  | _ => none
def q_b2 {I : Type} (O : q_O I) (j len : Nat) (f : q_F I) (h : q_H I) (ns : Nat) : q_X I :=
  match f.2.2 with
  | .inl y :: .inl x :: r => (match O.2.1 j x y with
    | some z => q_nx len f (.inl z :: r) h ns
    | none => none)
  | _ => none
def q_b1 {I : Type} (O : q_O I) (j len : Nat) (f : q_F I) (h : q_H I) (ns : Nat) : q_X I :=
  match f.2.2 with
  | .inl x :: r => (match O.2.2.1 j x with
    | some z => q_nx len f (.inl z :: r) h ns
    | none => none)
  | _ => none
def q_lo (j : Nat) (x y : Int64) : Option Int64 := match j with
  | 0 => some (x + y)
  | 1 => some (x * y)
  | 2 => some (x ||| y)
  | _ => none
def q_l2 {I : Type} (j len : Nat) (f : q_F I) (h : q_H I) (ns : Nat) : q_X I :=
  match f.2.2 with
  | .inr (.inl y) :: .inr (.inl x) :: r => (match q_lo j x y with
    | some z => q_nx len f (.inr (.inl z) :: r) h ns
    | none => none)
  | _ => none
def q_lshl {I : Type} (O : q_O I) (len : Nat) (f : q_F I) (h : q_H I) (ns : Nat) : q_X I :=
  match f.2.2 with
  | .inl y :: .inr (.inl x) :: r => (match O.2.2.2.2.2.2.2 y with
    | some z => q_nx len f (.inr (.inl (x <<< (z &&& 63))) :: r) h ns
    | none => none)
  | _ => none
def q_i2l {I : Type} (O : q_O I) (len : Nat) (f : q_F I) (h : q_H I) (ns : Nat) : q_X I :=
  match f.2.2 with
  | .inl y :: r => (match O.2.2.2.2.2.2.2 y with
    | some z => q_nx len f (.inr (.inl z) :: r) h ns
    | none => none)
  | _ => none
def q_lcmp {I : Type} (O : q_O I) (len : Nat) (f : q_F I) (h : q_H I) (ns : Nat) : q_X I :=
  match f.2.2 with
  | .inr (.inl y) :: .inr (.inl x) :: r => q_nx len f (.inl (O.1 (lg_cmp x y)) :: r) h ns
  | _ => none
def q_cn : Jvm.ClassFile.Cond → Nat
  | .eq => 0
  | .ne => 1
  | .lt => 2
  | .ge => 3
  | .gt => 4
  | .le => 5
def q_jmp {I : Type} (r : List Nat) (len : Nat) (t : Option Bool) (f : q_F I) (st : List (q_V I)) (h : q_H I) (ns : Nat) : q_X I :=
  match t, r with
  | some true, [tg] => some (.inl ((tg, f.2.1, st), h, ns))
  | some false, [_] => q_nx len f st h ns
  | _, _ => none
def q_if {I : Type} (O : q_O I) (j : Nat) (r : List Nat) (len : Nat) (f : q_F I) (h : q_H I) (ns : Nat) : q_X I :=
  match f.2.2 with
  | .inl x :: st => q_jmp r len (O.2.2.2.1 j x (O.1 0)) f st h ns
  | _ => none
def q_ic {I : Type} (O : q_O I) (j : Nat) (r : List Nat) (len : Nat) (f : q_F I) (h : q_H I) (ns : Nat) : q_X I :=
  match f.2.2 with
  | .inl y :: .inl x :: st => q_jmp r len (O.2.2.2.1 j x y) f st h ns
  | _ => none
/-- r: the default's target, then the others' -/
def q_tsw {I : Type} (O : q_O I) (lo hi : Int) (r : List Nat) (f : q_F I) (h : q_H I) (ns : Nat) : q_X I :=
  match f.2.2 with
  | .inl x :: st => (match (match O.2.2.2.1 2 x (O.1 (Int32.ofInt lo)), O.2.2.2.1 4 x (O.1 (Int32.ofInt hi)) with
      | some true, _ => r[0]?
      | some false, some true => r[0]?
      | some false, some false => (match O.2.2.2.2.2.2.1 x with
        | some v => r[(v - lo).toNat + 1]?
        | none => none)
      | _, _ => none) with
    | some tg => some (.inl ((tg, f.2.1, st), h, ns))
    | none => none)
  | _ => none
/-- r: the class, the field's place, its kind (0 int, 1 boolean, 2 long, 3 a reference) -/
def q_getf {I : Type} (r : List Nat) (len : Nat) (f : q_F I) (h : q_H I) (ns : Nat) : q_X I :=
  match r, f.2.2 with
  | ci :: k :: _, .inr (.inr (o + 2)) :: st => (match h[o]? with
    | some q => bif Nat.beq q.1 ci && Nat.blt k q.2.1 then (match q_at q.2.2 k with
        | some v => q_nx len f (v :: st) h ns
        | none => none) else none
    | none => none)
  | _, _ => none
def q_fit {I : Type} (O : q_O I) (kd : Nat) : q_V I → Bool
  | .inl x => Nat.beq kd 0 || (Nat.beq kd 1 && O.2.2.2.2.2.1 x)
  | .inr (.inl _) => Nat.beq kd 2
  | .inr (.inr _) => Nat.beq kd 3
def q_putf {I : Type} (O : q_O I) (r : List Nat) (len : Nat) (f : q_F I) (h : q_H I) (ns : Nat) : q_X I :=
  match r, f.2.2 with
  | ci :: k :: kd :: _, v :: .inr (.inr (o + 2)) :: st => (match h[o]? with
    | some q => bif Nat.beq q.1 ci && (Nat.blt k q.2.1 && q_fit O kd v) then q_nx len f st (h.set o (q.1, q.2.1, (k, v) :: q.2.2)) ns else none
    | none => none)
  | _, _ => none
/-- an array's element: an int's array, a long's -/
def q_el {I : Type} (O : q_O I) (q : q_C I) (i : Nat) : q_V I := match q_at q.2.2 i with
  | some v => v
  | none => bif Nat.beq q.1 103 then .inr (.inl 0) else .inl (O.1 0)
def q_ald {I : Type} (O : q_O I) (scr : Option (List I)) (tag kd len : Nat) (f : q_F I) (h : q_H I) (ns : Nat) : q_X I :=
  match f.2.2 with
  | .inl i :: .inr (.inr (o + 2)) :: st => (match h[o]?, O.2.2.2.2.1 i with
    | some q, some j => bif (Nat.beq q.1 tag || (Nat.beq tag 101 && Nat.beq q.1 102)) && (Nat.blt j q.2.1 && Nat.beq (q_kind (q_el O q j)) kd) then q_nx len f (q_el O q j :: st) h ns else none
    | _, _ => none)
  | .inl i :: .inr (.inr 1) :: st => (match scr, O.2.2.2.2.1 i with
    | some xs, some j => (match xs[j]? with
      | some x => bif Nat.beq tag 100 then q_nx len f (.inl x :: st) h ns else none
      | none => none)
    | _, _ => none)
  | _ => none
/-- what an array keeps of a value: 100 int, 101 byte, 102 boolean, 103 long -/
def q_kp {I : Type} (O : q_O I) (tag : Nat) (v : q_V I) : Option (q_V I) := match v with
  | .inl x => bif Nat.beq tag 100 then some v else bif Nat.beq tag 101 then (match O.2.2.1 1 x with
      | some y => some (.inl y)
      | none => none) else bif Nat.beq tag 102 && O.2.2.2.2.2.1 x then some v else none
  | .inr (.inl _) => bif Nat.beq tag 103 then some v else none
  | _ => none
def q_ast {I : Type} (O : q_O I) (tag len : Nat) (f : q_F I) (h : q_H I) (ns : Nat) : q_X I :=
  match f.2.2 with
  | v :: .inl i :: .inr (.inr (o + 2)) :: st => (match h[o]?, O.2.2.2.2.1 i with
    | some q, some j => bif (Nat.beq q.1 tag || (Nat.beq tag 101 && Nat.beq q.1 102)) && Nat.blt j q.2.1 then (match q_kp O q.1 v with
        | some w => q_nx len f st (h.set o (q.1, q.2.1, (j, w) :: q.2.2)) ns
        | none => none) else none
    | _, _ => none)
  | _ => none
def q_alen {I : Type} (O : q_O I) (scr : Option (List I)) (len : Nat) (f : q_F I) (h : q_H I) (ns : Nat) : q_X I :=
  match f.2.2 with
  | .inr (.inr (o + 2)) :: st => (match h[o]? with
    | some q => bif Nat.blt 99 q.1 && Nat.blt q.1 104 then q_nx len f (.inl (O.1 (Int32.ofNat q.2.1)) :: st) h ns else none
    | none => none)
  | .inr (.inr 1) :: st => (match scr with
    | some xs => q_nx len f (.inl (O.1 (Int32.ofNat xs.length)) :: st) h ns
    | none => none)
  | _ => none
def q_dup {I : Type} (len : Nat) (f : q_F I) (h : q_H I) (ns : Nat) : q_X I :=
  match f.2.2 with
  | v :: st => bif Nat.beq (q_cat v) 1 then q_nx len f (v :: v :: st) h ns else none
  | _ => none
def q_pop {I : Type} (len : Nat) (f : q_F I) (h : q_H I) (ns : Nat) : q_X I :=
  match f.2.2 with
  | v :: st => bif Nat.beq (q_cat v) 1 then q_nx len f st h ns else none
  | _ => none
def q_dup2 {I : Type} (len : Nat) (f : q_F I) (h : q_H I) (ns : Nat) : q_X I :=
  match f.2.2 with
  | v :: w :: st => bif Nat.beq (q_cat v) 1 && Nat.beq (q_cat w) 1 then q_nx len f (v :: w :: v :: w :: st) h ns else none
  | _ => none
def q_df {I : Type} (O : q_O I) : Nat → q_V I
  | 2 => .inr (.inl 0)
  | 3 => .inr (.inr 0)
  | _ => .inl (O.1 0)
def q_dfs {I : Type} (O : q_O I) : Nat → List Nat → q_U I
  | _, [] => []
  | i, k :: ks => (i, q_df O k) :: q_dfs O (i + 1) ks
/-- r: the class, then its fields' kinds -/
def q_new {I : Type} (O : q_O I) (r : List Nat) (len : Nat) (f : q_F I) (h : q_H I) (ns : Nat) : q_X I :=
  match r with
  | ci :: ks => q_nx len f (.inr (.inr (h.length + 2)) :: f.2.2) (h ++ [(ci, ks.length, q_dfs O 0 ks)]) (ns + ks.length)
  | _ => none
def q_newa {I : Type} (O : q_O I) (r : List Nat) (len : Nat) (f : q_F I) (h : q_H I) (ns : Nat) : q_X I :=
  match r, f.2.2 with
  | [tag], .inl n :: st => (match O.2.2.2.2.1 n with
    | some N => bif Nat.blt N 65536 then q_nx len f (.inr (.inr (h.length + 2)) :: st) (h ++ [(tag, N, [])]) (ns + N) else none
    | none => none)
  | _, _ => none
def q_cpy {I : Type} (O : q_O I) (q : q_C I) (sp dp : Nat) : Nat → q_U I → q_U I
  | 0, u => u
  | n + 1, u => (dp + n, q_el O q (sp + n)) :: q_cpy O q sp dp n u
def q_acpy {I : Type} (O : q_O I) (len : Nat) (f : q_F I) (h : q_H I) (ns : Nat) : q_X I :=
  match f.2.2 with
  | .inl n :: .inl dp :: .inr (.inr (d + 2)) :: .inl sp :: .inr (.inr (o + 2)) :: st => (match h[o]?, h[d]?, O.2.2.2.2.1 n, O.2.2.2.2.1 dp, O.2.2.2.2.1 sp with
    | some qs, some qd, some n, some dp, some sp => bif Nat.beq qs.1 100 && (Nat.beq qd.1 100 && (Nat.ble (sp + n) qs.2.1 && (Nat.ble (dp + n) qd.2.1 && Nat.ble (q_cats st) 8))) then
        q_nx len f st (h.set d (qd.1, qd.2.1, q_cpy O qs sp dp n qd.2.2)) ns else none
    | _, _, _, _, _ => none)
  | _ => none
/-- the top n values, the lowest first, and the rest -/
def q_take {I : Type} : Nat → List (q_V I) → List (q_V I) → Option (List (q_V I) × List (q_V I))
  | 0, st, a => some (a, st)
  | n + 1, v :: st, a => q_take n st (v :: a)
  | _ + 1, [], _ => none
def q_mayV {I : Type} (x : List Nat) (c : Option (q_C I)) : Bool := match c, x with
  | some q, [ci] => Nat.beq q.1 ci
  | _, _ => false
/-- whether a call may go out with these values: sv 0 static, 1 by the receiver (of the class ci), 2 a constructor -/
def q_may {I : Type} (sv : Nat) (x : List Nat) (a : List (q_V I)) (h : q_H I) : Bool := match sv, a with
  | 0, _ => true
  | 1, .inr (.inr (o + 2)) :: _ => q_mayV x (h[o]?)
  | 2, .inr (.inr (_ + 2)) :: _ => true
  | _, _ => false
/-- r: the method's number, how many values it takes, its locals, the receiver's class -/
def q_inv {I : Type} (cal : Nat → List (q_V I) → q_H I → Nat → Option (q_R I)) (sv : Nat) (r : List Nat) (len : Nat) (f : q_F I) (h : q_H I) (ns : Nat) : q_X I :=
  match r with
  | k :: na :: ml :: x => (match q_take na f.2.2 [] with
    | some (a, st) => bif Nat.ble (q_cats st) 8 && (Nat.ble (q_cats a) ml && q_may sv x a h) then (match cal k a h ns with
        | some (v, h', ns') => q_nx len f (v.toList ++ st) h' ns'
        | none => none) else none
    | none => none)
  | _ => none
/-- Math.abs -/
def q_abs {I : Type} (O : q_O I) (len : Nat) (f : q_F I) (h : q_H I) (ns : Nat) : q_X I :=
  match f.2.2 with
  | .inl x :: st => bif Nat.ble (q_cats st) 8 then (match O.2.2.1 3 x with
    | some z => q_nx len f (.inl z :: st) h ns
    | none => none) else none
  | _ => none
/-- Math.max (11), Math.min (12) -/
def q_mm {I : Type} (O : q_O I) (j len : Nat) (f : q_F I) (h : q_H I) (ns : Nat) : q_X I :=
  match f.2.2 with
  | .inl y :: .inl x :: st => bif Nat.ble (q_cats st) 8 then (match O.2.1 j x y with
    | some z => q_nx len f (.inl z :: st) h ns
    | none => none) else none
  | _ => none
/-- 0 abs, 1 max, 2 min -/
def q_math {I : Type} (O : q_O I) (v len : Nat) (f : q_F I) (h : q_H I) (ns : Nat) : q_X I := match v with
  | 0 => q_abs O len f h ns
  | 1 => q_mm O 11 len f h ns
  | _ => q_mm O 12 len f h ns
/-- a lookupswitch: where it goes is told by the instruction itself -/
def q_lsw {I : Type} (O : q_O I) (d : Int) (ps : List (Int × Int)) (f : q_F I) (h : q_H I) (ns : Nat) : q_X I :=
  match f.2.2 with
  | .inl x :: st => (match O.2.2.2.2.2.2.1 x with
    | some v => if 0 ≤ (f.1 : Int) + Op.lookupswitch.offset ps d v then some (.inl ((((f.1 : Int) + Op.lookupswitch.offset ps d v).toNat, f.2.1, st), h, ns)) else none
    | none => none)
  | _ => none
/-- Object's constructor does nothing -/
def q_obj {I : Type} (len : Nat) (f : q_F I) (h : q_H I) (ns : Nat) : q_X I :=
  match f.2.2 with
  | .inr (.inr (_ + 2)) :: st => bif Nat.ble (q_cats st) 8 then q_nx len f st h ns else none
  | _ => none
def q_iret {I : Type} (O : q_O I) (r : List Nat) (f : q_F I) (h : q_H I) (ns : Nat) : q_X I :=
  match r, f.2.2 with
  | [kd], [.inl x] => bif q_fit O kd (.inl x) then some (.inr (some (.inl x), h, ns)) else none
  | _, _ => none
def q_lret {I : Type} (f : q_F I) (h : q_H I) (ns : Nat) : q_X I :=
  match f.2.2 with
  | [.inr (.inl x)] => some (.inr (some (.inr (.inl x)), h, ns))
  | _ => none
def q_ret {I : Type} (f : q_F I) (h : q_H I) (ns : Nat) : q_X I :=
  match f.2.2 with
  | [] => some (.inr (none, h, ns))
  | _ => none
/-! the texts and the row that the class keeps in statics -/
def q_sl : List Nat := [11, 96]
def q_sb : List (List Int32) := [[59, 40, 41, 60, 62, 61, 43, 45, 42, 47, 37], [115, 104, 105, 112, 32, 112, 97, 105, 114, 32, 114, 97, 105, 108, 115, 32, 108, 97, 115, 116, 115, 32, 113, 117, 97, 114, 114, 101, 108, 115, 32, 100, 114, 97, 119, 32, 99, 117, 115, 116, 111, 109, 32, 110, 101, 101, 100, 115, 32, 108, 111, 118, 101, 32, 98, 101, 104, 105, 110, 100, 32, 108, 101, 102, 116, 32, 109, 105, 110, 117, 116, 101, 32, 115, 97, 105, 108, 115, 32, 119, 97, 105, 116, 115, 32, 111, 114, 32, 97, 110, 100, 32, 110, 111, 116, 32]]
def q_ord : List Int32 := [1, 1, 2, 6, 24, 120, 720, 5040]
def q_ixf (b : Int32) : List Int32 → Nat → Int32
  | [], _ => -1
  | x :: l, k => if x = b then Int32.ofNat k else q_ixf b l (k + 1)
/-- SIGNS.indexOf -/
def q_ixo (c : Int32) : Int32 := if c < 0 then -1 else if 255 < c then -1 else q_ixf c.toInt8.toInt32 (q_sb.getD 0 []) 0
/-- a text's char -/
def q_chr (i : Nat) (j : Nat) : Int32 := ((((q_sb.getD i []).getD j 0) &&& 255).toUInt32 % 65536).toInt32
/-- what this.f.g holds, an int -/
def q_f2 {I : Type} (c1 k1 c2 k2 : Nat) (f : q_F I) (h : q_H I) : Option I :=
  match q_at f.2.1 0 with
  | some (.inr (.inr (o + 2))) => (match h[o]? with
    | some q => bif Nat.beq q.1 c1 && Nat.blt k1 q.2.1 then (match q_at q.2.2 k1 with
      | some (.inr (.inr (o2 + 2))) => (match h[o2]? with
        | some q2 => bif Nat.beq q2.1 c2 && Nat.blt k2 q2.2.1 then (match q_at q2.2.2 k2 with
          | some (.inl x) => some x
          | _ => none) else none
        | none => none)
      | _ => none) else none
    | none => none)
  | _ => none
def q_m1 {I : Type} (O : q_O I) (j : Nat) (x : I) (len : Nat) (f : q_F I) (h : q_H I) (ns : Nat) : q_X I := match O.2.2.1 j x with
  | some z => q_nx len f (.inl z :: f.2.2) h ns
  | none => none
/-- several instructions at once that go over a static: [v] the int v; [j, i] the table j at local i; [j, c, k, c', k'] the table j at this.f.g; with i behind: at this.f.g - 1 - local i -/
def q_mac {I : Type} (O : q_O I) (len : Nat) (r : List Nat) (f : q_F I) (h : q_H I) (ns : Nat) : q_X I :=
  bif Nat.ble (q_cats f.2.2) 6 then (match r with
  | [v] => q_nx len f (.inl (O.1 (Int32.ofNat v)) :: f.2.2) h ns
  | [j, i] => (match q_at f.2.1 i with
    | some (.inl x) => q_m1 O j x len f h ns
    | _ => none)
  | [j, c1, k1, c2, k2] => (match q_f2 c1 k1 c2 k2 f h with
    | some x => q_m1 O j x len f h ns
    | none => none)
  | [j, c1, k1, c2, k2, i] => (match q_f2 c1 k1 c2 k2 f h, q_at f.2.1 i with
    | some x, some (.inl y) => (match O.2.1 1 x (O.1 1) with
      | some x1 => (match O.2.1 1 x1 y with
        | some x2 => q_m1 O j x2 len f h ns
        | none => none)
      | none => none)
    | _, _ => none)
  | _ => none) else none
theorem q_m1_spec {I : Type} {O : q_O I} {j len : Nat} {x0 : I} {f : q_F I} {h : q_H I} {ns : Nat} {x : q_S I ⊕ q_R I} (hs : q_m1 O j x0 len f h ns = some x) : ∃ z, x = .inl ((f.1 + len, f.2.1, .inl z :: f.2.2), h, ns) := by
  unfold q_m1 at hs
  split at hs
  next z _ => cases hs; exact ⟨z, rfl⟩
  next => cases hs
theorem q_mac_spec {I : Type} {O : q_O I} {len : Nat} {r : List Nat} {f : q_F I} {h : q_H I} {ns : Nat} {x : q_S I ⊕ q_R I} (hs : q_mac O len r f h ns = some x) : ∃ z, x = .inl ((f.1 + len, f.2.1, .inl z :: f.2.2), h, ns) := by
  unfold q_mac at hs
  cases hb : Nat.ble (q_cats f.2.2) 6 with
  | false => rw [hb] at hs; cases hs
  | true =>
    rw [hb, cond_true] at hs
    split at hs
    · cases hs
      exact ⟨_, rfl⟩
    · split at hs
      · exact q_m1_spec hs
      · cases hs
    · split at hs
      · exact q_m1_spec hs
      · cases hs
    · split at hs
      · split at hs
        · split at hs
          · exact q_m1_spec hs
          · cases hs
        · cases hs
      · cases hs
    · cases hs
def q_act {I : Type} (O : q_O I) (scr : Option (List I)) (cal : Nat → List (q_V I) → q_H I → Nat → Option (q_R I)) (ins : Jvm.ClassFile.Instr) (len : Nat) (r : List Nat) (f : q_F I) (h : q_H I) (ns : Nat) : q_X I :=
  match ins with
  | .aload_n k => q_ld 1 k.val len f h ns
  | .iload_n k => q_ld 0 k.val len f h ns
  | .lload_n k => q_ld 2 k.val len f h ns
  | .aload i => q_ld 1 i len f h ns
  | .iload i => q_ld 0 i len f h ns
  | .lload i => q_ld 2 i len f h ns
  | .astore_n k => q_st 1 k.val len f h ns
  | .istore_n k => q_st 0 k.val len f h ns
  | .lstore_n k => q_st 2 k.val len f h ns
  | .astore i => q_st 1 i len f h ns
  | .istore i => q_st 0 i len f h ns
  | .lstore i => q_st 2 i len f h ns
  | .iinc i n => q_iinc O i n len f h ns
  | .iconst n => q_nx len f (.inl (O.1 (Int32.ofInt n)) :: f.2.2) h ns
  | .bipush n => q_nx len f (.inl (O.1 (Int8.ofInt n).toInt32) :: f.2.2) h ns
  | .sipush n => q_nx len f (.inl (O.1 (Int16.ofInt n).toInt32) :: f.2.2) h ns
  | .lconst n => q_nx len f (.inr (.inl (Int64.ofNat n.val)) :: f.2.2) h ns
  | .ldc _ => (match r with
    | [v] => q_nx len f (.inl (O.1 (Int32.ofNat v)) :: f.2.2) h ns
    | _ => none)
  | .ldc_w _ => (match r with
    | [v] => q_nx len f (.inl (O.1 (Int32.ofNat v)) :: f.2.2) h ns
    | _ => none)
  | .ldc2_w _ => (match r with
    | [v] => q_nx len f (.inr (.inl (Int64.ofNat v)) :: f.2.2) h ns
    | _ => none)
  | .iadd => q_b2 O 0 len f h ns
  | .isub => q_b2 O 1 len f h ns
  | .imul => q_b2 O 2 len f h ns
  | .iand => q_b2 O 3 len f h ns
  | .ior => q_b2 O 4 len f h ns
  | .ixor => q_b2 O 5 len f h ns
  | .ishl => q_b2 O 6 len f h ns
  | .ishr => q_b2 O 7 len f h ns
  | .iushr => q_b2 O 8 len f h ns
  | .idiv => q_b2 O 9 len f h ns
  | .irem => q_b2 O 10 len f h ns
  | .ineg => q_b1 O 0 len f h ns
  | .i2b => q_b1 O 1 len f h ns
  | .i2c => q_b1 O 2 len f h ns
  | .i2l => q_i2l O len f h ns
  | .ladd => q_l2 0 len f h ns
  | .lmul => q_l2 1 len f h ns
  | .lor => q_l2 2 len f h ns
  | .lshl => q_lshl O len f h ns
  | .lcmp => q_lcmp O len f h ns
  | .dup => q_dup len f h ns
  | .dup2 => q_dup2 len f h ns
  | .pop => q_pop len f h ns
  | .ifCond cd _ => q_if O (q_cn cd) r len f h ns
  | .if_icmp cd _ => q_ic O (q_cn cd) r len f h ns
  | .goto _ => (match r with
    | [tg] => some (.inl ((tg, f.2.1, f.2.2), h, ns))
    | _ => none)
  | .tableswitch _ lo hi _ => q_tsw O lo hi r f h ns
  | .lookupswitch d ps => q_lsw O d ps.toList f h ns
  | .getfield _ => q_getf r len f h ns
  | .putfield _ => q_putf O r len f h ns
  | .iaload => q_ald O scr 100 0 len f h ns
  | .baload => q_ald O scr 101 0 len f h ns
  | .laload => q_ald O scr 103 2 len f h ns
  | .iastore => q_ast O 100 len f h ns
  | .bastore => q_ast O 101 len f h ns
  | .lastore => q_ast O 103 len f h ns
  | .arraylength => q_alen O scr len f h ns
  | .new _ => q_new O r len f h ns
  | .newarray _ => q_newa O r len f h ns
  | .invokevirtual _ => q_inv cal 1 r len f h ns
  | .invokestatic _ => (match r with
    | [] => q_acpy O len f h ns
    | [v] => q_math O v len f h ns
    | _ => q_inv cal 0 r len f h ns)
  | .invokespecial _ => (match r with
    | [] => q_obj len f h ns
    | _ => q_inv cal 2 r len f h ns)
  | .ireturn => q_iret O r f h ns
  | .lreturn => q_lret f h ns
  | .return_ => q_ret f h ns
  | .getstatic _ => q_mac O len r f h ns
  | _ => none
def q_get (t : q_T) (pc : Nat) : Option q_I := match t[pc / 16]? with
  | some r => r[pc % 16]?
  | none => none
def q_step {I : Type} (O : q_O I) (scr : Option (List I)) (cal : Nat → List (q_V I) → q_H I → Nat → Option (q_R I)) (t : q_T) (f : q_F I) (h : q_H I) (ns : Nat) : q_X I :=
  match q_get t f.1 with
  | some q => q_act O scr cal q.1 q.2.1 q.2.2 f h ns
  | none => none
/-- n steps at most, d calls deep at most -/
def q_exec {I : Type} (O : q_O I) (ts : List q_T) : Nat → Nat → q_T → q_F I → q_H I → Nat → Option (q_R I)
  | 0, _, _, _, _, _ => none
  | n + 1, d, t, f, h, ns =>
    match q_step O none (fun k a h ns => match d with
        | 0 => none
        | d + 1 => (match ts[k]? with
          | some t => q_exec O ts n d t (0, q_args 0 a, []) h ns
          | none => none)) t f h ns with
    | some (.inl s) => q_exec O ts n d t s.1 s.2.1 s.2.2
    | some (.inr r) => some r
    | none => none
def q_call {I : Type} (O : q_O I) (ts : List q_T) (n d : Nat) : Nat → List (q_V I) → q_H I → Nat → Option (q_R I) := fun k a h ns => match d with
  | 0 => none
  | d + 1 => (match ts[k]? with
    | some t => q_exec O ts n d t (0, q_args 0 a, []) h ns
    | none => none)
theorem q_exec_succ {I : Type} (O : q_O I) (ts : List q_T) (n d : Nat) (t : q_T) (f : q_F I) (h : q_H I) (ns : Nat) : q_exec O ts (n + 1) d t f h ns =
    match q_step O none (q_call O ts n d) t f h ns with
    | some (.inl s) => q_exec O ts n d t s.1 s.2.1 s.2.2
    | some (.inr r) => some r
    | none => none := rfl
/-- j steps of one frame, as far as they go on in it -/
def q_iter {I : Type} (O : q_O I) (scr : Option (List I)) (ts : List q_T) (n d : Nat) (t : q_T) : Nat → q_S I → Option (q_S I)
  | 0, s => some s
  | j + 1, s => match q_step O scr (q_call O ts n d) t s.1 s.2.1 s.2.2 with
    | some (.inl s') => q_iter O scr ts n d t j s'
    | _ => none
/-! the ints of the machine itself -/
def q_o2 (j : Nat) (x y : Int32) : Option Int32 := match j with
  | 0 => some (x + y)
  | 1 => some (x - y)
  | 2 => some (x * y)
  | 3 => some (x &&& y)
  | 4 => some (x ||| y)
  | 5 => some (x ^^^ y)
  | 6 => some (x <<< (y &&& 31))
  | 7 => some (x >>> (y &&& 31))
  | 8 => some (x.toUInt32 >>> (y.toUInt32 &&& Int32.toUInt32 31)).toInt32
  | 9 => if y = 0 then none else some (x / y)
  | 10 => if y = 0 then none else some (x - x / y * y)
  | 11 => some (if x < y then y else x)
  | 12 => some (if y < x then y else x)
  | _ => none
def q_o1 (j : Nat) (x : Int32) : Option Int32 := match j with
  | 0 => some (-x)
  | 1 => some x.toInt8.toInt32
  | 2 => some (x.toUInt32 % 65536).toInt32
  | 3 => some (if 0 ≤ x then x else 0 - x)
  | 4 => if x < 0 then none else if x < 8 then some (q_ord.getD x.toNatClampNeg 0) else none
  | 5 => some (q_ixo (x.toUInt32 % 65536).toInt32)
  | 6 => if x < 0 then none else if x < 96 then some (q_chr 1 x.toNatClampNeg) else none
  | _ => none
def q_cm (j : Nat) (x y : Int32) : Option Bool := match j with
  | 0 => some (decide (x = y))
  | 1 => some (decide (x ≠ y))
  | 2 => some (decide (x < y))
  | 3 => some (decide (y ≤ x))
  | 4 => some (decide (y < x))
  | 5 => some (decide (x ≤ y))
  | _ => none
def q_ix (x : Int32) : Option Nat := if x < 0 then none else some x.toNatClampNeg
def q_ib (x : Int32) : Bool := decide (x = 0) || decide (x = 1)
def q_O32 : q_O Int32 := (fun x => x, q_o2, q_o1, q_cm, q_ix, q_ib, fun x => some x.toInt, fun x => some x.toInt64)
