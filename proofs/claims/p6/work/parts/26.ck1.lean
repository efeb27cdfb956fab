/-! A CHECKER OF RANGES (w_): what lies in each cell keeps to a told range; a method's run is checked instruction by instruction over ranges of its locals and of its stack. A value is an int (its range, and the key of the place whose value it has: 0 none, i + 1 the local i, from 64 on a cell's slot), a long, or one of some references. -/
abbrev w_A : Type := (q_J × Nat) ⊕ (Unit ⊕ List Nat)
abbrev w_U : Type := List (Nat × w_A)
/-- locals, stack, what is known of slots beyond their told ranges -/
abbrev w_S : Type := w_U × List w_A × w_U
abbrev w_G : Type := Nat → Nat → q_V Int32
/-- of each cell: its tag, its size, the told ranges of its slots, by their places modulo the list's length -/
abbrev w_Sh : Type := List (Nat × Nat × List w_A)
def w_key (o k : Nat) : Nat := 64 + (o * 4096 + k)
def w_ko (g : Nat) : Nat := (g - 64) / 4096
def w_kk (g : Nat) : Nat := (g - 64) % 4096
def w_kz (A : w_A) : w_A := match A with
  | .inl (J, _) => .inl (J, 0)
  | _ => A
def w_ty (sh : w_Sh) (o k : Nat) : Option w_A := match sh[o]? with
  | some q => bif Nat.blt k q.2.1 then (q.2.2[k % q.2.2.length]?).map w_kz else none
  | none => none
def w_mt (a b : q_J) : q_J := (max a.1 b.1, min a.2 b.2)
def w_kn (sh : w_Sh) (M : w_U) (g : Nat) : Option w_A := match q_at M g with
  | some A => some A
  | none => w_ty sh (w_ko g) (w_kk g)
/-- a value's range, with what is known of the slot that it has come from -/
def w_ef (sh : w_Sh) (M : w_U) (A : w_A) : w_A := match A with
  | .inl (J, g) => bif Nat.blt g 64 then A else (match w_kn sh M g with
    | some (.inl (J2, _)) => .inl (w_mt J J2, g)
    | _ => A)
  | _ => A
def w_le1 (A B : w_A) : Bool := match A, B with
  | .inl (J, g), .inl (J2, g2) => q_jle J J2 && (Nat.beq g2 0 || Nat.beq g2 g)
  | .inr (.inl _), .inr (.inl _) => true
  | .inr (.inr l), .inr (.inr l2) => l.all (fun n => l2.any (fun m => Nat.beq m n))
  | _, _ => false
def w_leL (sh : w_Sh) (M : w_U) : List w_A → List w_A → Bool
  | [], [] => true
  | A :: as, B :: bs => w_le1 (w_ef sh M A) B && w_leL sh M as bs
  | _, _ => false
def w_leM (sh : w_Sh) (M M2 : w_U) : Bool := M2.all (fun q => Nat.ble 64 q.1 && (match w_kn sh M q.1 with
  | some A => w_le1 A q.2
  | none => false))
def w_leS (sh : w_Sh) (S S2 : w_S) : Bool := S2.1.all (fun q => match q_at S.1 q.1 with
  | some A => w_le1 (w_ef sh S.2.2 A) q.2
  | none => false) && (w_leL sh S.2.2 S.2.1 S2.2.1 && w_leM sh S.2.2 S2.2.2)
def w_ka (p : Nat → Bool) (A : w_A) : w_A := match A with
  | .inl (J, g) => bif p g then .inl (J, 0) else A
  | _ => A
/-- the keys that p names are no more what they were -/
def w_ks (p : Nat → Bool) (S : w_S) : w_S := (S.1.map (fun q => (q.1, w_ka p q.2)), S.2.1.map (w_ka p), (S.2.2.filter (fun q => !(p q.1))).map (fun q => (q.1, w_ka p q.2)))
def w_isL (A : w_A) : Bool := match A with
  | .inr (.inl _) => true
  | _ => false
def w_p3 (i g : Nat) : Bool := Nat.beq g (i + 1) || (Nat.beq g i || Nat.beq g (i + 2))
/-- a local's new value -/
def w_set (i : Nat) (A : w_A) (S : w_S) : w_S := ((i, A) :: S.1.filter (fun q => !(Nat.beq q.1 i) && (!(Nat.beq (q.1 + 1) i && w_isL q.2) && !(w_isL A && Nat.beq q.1 (i + 1)))), S.2.1, S.2.2)
def w_setM (g : Nat) (A : w_A) (S : w_S) : w_S := (S.1, S.2.1, (g, A) :: S.2.2.filter (fun q => !(Nat.beq q.1 g)))
/-- the int that lies at g is in J -/
def w_nr (g : Nat) (J : q_J) (S : w_S) : w_S := bif Nat.beq g 0 then S else bif Nat.blt g 64 then
    (match q_at S.1 (g - 1) with
      | some (.inl (_, g2)) => (fun S2 : w_S => bif Nat.ble 64 g2 then w_setM g2 (.inl (J, 0)) S2 else S2) ((g - 1, .inl (J, g2)) :: S.1.filter (fun q => !(Nat.beq q.1 (g - 1))), S.2.1, S.2.2)
      | _ => S)
  else w_setM g (.inl (J, 0)) S
def w_sw (j : Nat) : Nat := match j with
  | 2 => 4
  | 3 => 5
  | 4 => 2
  | 5 => 3
  | k => k
def w_b1 (j : Nat) (t : Bool) (a b : q_J × Nat) (S : w_S) : List w_S :=
  bif Nat.blt (q_jn j t a.1 b.1).2 (q_jn j t a.1 b.1).1 || Nat.blt (q_jn (w_sw j) t b.1 a.1).2 (q_jn (w_sw j) t b.1 a.1).1 then [] else [w_nr b.2 (q_jn (w_sw j) t b.1 a.1) (w_nr a.2 (q_jn j t a.1 b.1) S)]
/-- what may be behind a compare that comes out as t -/
def w_br (j : Nat) (t : Bool) (a b : q_J × Nat) (S : w_S) : List w_S := match j, t with
  | 0, false => w_b1 2 true a b S ++ w_b1 4 true a b S
  | 1, true => w_b1 2 true a b S ++ w_b1 4 true a b S
  | _, _ => w_b1 j t a b S
def w_jshl (a b : q_J) : q_J := bif Nat.ble 2147483648 a.1 && (Nat.ble 2147483648 b.1 && (Nat.blt b.2 2147483679 && Nat.blt ((a.2 - 2147483648) * 2 ^ (b.2 - 2147483648)) 2147483648)) then ((a.1 - 2147483648) * 2 ^ (b.1 - 2147483648) + 2147483648, (a.2 - 2147483648) * 2 ^ (b.2 - 2147483648) + 2147483648) else q_jall
def w_jshr (a _ : q_J) : q_J := bif Nat.ble 2147483648 a.1 then (2147483648, a.2) else q_jall
def w_jusr (_ b : q_J) : q_J := bif q_jone b && (Nat.blt 2147483648 b.1 && Nat.blt b.1 2147483680) then (2147483648, 2147483647 + 2 ^ (2147483680 - b.1)) else q_jall
def w_jdv (a b : q_J) : Option q_J := bif Nat.blt b.2 2147483648 then some q_jall else q_jdiv a b
def w_jrm (a b : q_J) : Option q_J := bif Nat.blt b.2 2147483648 then some q_jall else q_jrem a b
def w_o2 (j : Nat) (a b : q_J) : Option q_J := match j with
  | 0 => some (q_jadd a b)
  | 1 => some (q_jsub a b)
  | 2 => some (q_jmul a b)
  | 3 => some (q_jx a b (fun x y => x &&& y) (q_jand a b))
  | 4 => some (q_jx a b (fun x y => x ||| y) (q_jor a b))
  | 5 => some (q_jx a b (fun x y => x ^^^ y) (q_jor a b))
  | 6 => some (q_jx a b (fun x y => x <<< (y &&& 31)) (w_jshl a b))
  | 7 => some (q_jx a b (fun x y => x >>> (y &&& 31)) (w_jshr a b))
  | 8 => some (w_jusr a b)
  | 9 => w_jdv a b
  | 10 => w_jrm a b
  | 11 => some (q_jmax a b)
  | 12 => some (q_jmin a b)
  | _ => none
def w_o1 (j : Nat) (a : q_J) : Option q_J := match j with
  | 0 => some (q_jsub (q_jc 0) a)
  | 1 => some q_jbyte
  | 2 => some (2147483648, 2147549183)
  | 3 => some (bif Nat.ble 2147483648 a.1 then a else q_jall)
  | _ => none
def w_bit (J : q_J) : Bool := Nat.ble 2147483648 J.1 && Nat.ble J.2 2147483649
/-- a value that may stand in a slot of the range B -/
def w_fits (kd : Nat) (A B : w_A) : Bool := w_le1 A B && (match A with
  | .inl (J, _) => Nat.beq kd 0 || (Nat.beq kd 1 && w_bit J)
  | .inr (.inl _) => Nat.beq kd 2
  | .inr (.inr _) => Nat.beq kd 3)
/-- ranges of keys -/
def w_inm (ms : List (Nat × Nat)) (g : Nat) : Bool := ms.any (fun q => Nat.ble q.1 g && Nat.ble g q.2)
def w_cell (sh : w_Sh) (n : Nat) : Option (Nat × Nat × Nat × List w_A) := match n with
  | o + 2 => (match sh[o]? with
    | some q => some (o, q)
    | none => none)
  | _ => none
def w_jo (A B : w_A) : Option w_A := match A, B with
  | .inl (J, _), .inl (J2, _) => some (.inl (q_jj J J2, 0))
  | .inr (.inl _), .inr (.inl _) => some A
  | _, _ => none
/-- what lies in a slot, as a value that has come from there -/
def w_rd (sh : w_Sh) (M : w_U) (g : Nat) : Option w_A := match w_kn sh M g with
  | some (.inl (J, _)) => some (.inl (J, g))
  | some A => some A
  | none => none
/-- the field k of what lies at n -/
def w_gf (sh : w_Sh) (M : w_U) (ci k n : Nat) : Option w_A := match w_cell sh n with
  | some (o, tag, sz, _) => bif Nat.beq tag ci && (Nat.blt tag 100 && (Nat.blt k sz && Nat.blt k 4096)) then w_rd sh M (w_key o k) else none
  | none => none
def w_jos : List w_A → Option w_A
  | [] => none
  | [A] => some (w_kz A)
  | A :: l => (match w_jos l with
    | some B => w_jo A B
    | none => none)
/-- the told ranges of the places in J -/
def w_sub (l : List w_A) (J : q_J) : List w_A := bif Nat.blt ((J.1 - 2147483648) % l.length + (J.2 - J.1)) l.length then (l.drop ((J.1 - 2147483648) % l.length)).take (J.2 - J.1 + 1) else l
def w_tg (tg tag : Nat) : Bool := Nat.beq tg tag || (Nat.beq tag 101 && Nat.beq tg 102)
/-- an element of the row at n, its index in J -/
def w_el (sh : w_Sh) (M : w_U) (tag : Nat) (J : q_J) (n : Nat) : Option w_A := match w_cell sh n with
  | some (o, tg, sz, l) => bif w_tg tg tag && (Nat.ble 2147483648 J.1 && (Nat.blt J.2 (sz + 2147483648) && (Nat.ble 100 tg && Nat.ble sz 4096))) then
      (bif q_jone J then w_rd sh M (w_key o (J.1 - 2147483648)) else w_jos (w_sub l J)) else none
  | none => none
def w_kindb (A : w_A) (kd : Nat) : Bool := match A with
  | .inl _ => Nat.beq kd 0
  | .inr (.inl _) => Nat.beq kd 2
  | .inr (.inr l) => Nat.beq kd 1 && l.all (fun n => Nat.blt 0 n)
/-- a step to the next instruction, or to another -/
def w_to (pc : Nat) (S : w_S) : Option (List (Nat × w_S)) := some [(pc, S)]
def w_ld (sh : w_Sh) (t i pc : Nat) (S : w_S) : Option (List (Nat × w_S)) := match q_at S.1 i with
  | some A => bif w_kindb A t && Nat.blt i 63 then w_to pc (S.1, (match w_ef sh S.2.2 A with
      | .inl (J, _) => .inl (J, i + 1)
      | B => B) :: S.2.1, S.2.2) else none
  | none => none
def w_st (t i pc : Nat) (S : w_S) : Option (List (Nat × w_S)) := match (w_ks (w_p3 i) S).2.1 with
  | A :: r => bif w_kindb A t then w_to pc (w_set i A ((w_ks (w_p3 i) S).1, r, (w_ks (w_p3 i) S).2.2)) else none
  | [] => none
def w_ii (i : Nat) (n : Int) (pc : Nat) (S : w_S) : Option (List (Nat × w_S)) := match q_at S.1 i with
  | some (.inl (J, _)) => w_to pc (w_set i (.inl (q_jadd J (q_jc (Int32.ofInt n)), 0)) (w_ks (w_p3 i) S))
  | _ => none
def w_ps (pc : Nat) (A : w_A) (S : w_S) : Option (List (Nat × w_S)) := w_to pc (S.1, A :: S.2.1, S.2.2)
def w_2 (sh : w_Sh) (j pc : Nat) (S : w_S) : Option (List (Nat × w_S)) := match S.2.1 with
  | B :: A :: r => (match w_ef sh S.2.2 A, w_ef sh S.2.2 B with
    | .inl (J, _), .inl (J2, _) => (match w_o2 j J J2 with
      | some J3 => w_to pc (S.1, .inl (J3, 0) :: r, S.2.2)
      | none => none)
    | _, _ => none)
  | _ => none
def w_1 (sh : w_Sh) (j pc : Nat) (S : w_S) : Option (List (Nat × w_S)) := match S.2.1 with
  | A :: r => (match w_ef sh S.2.2 A with
    | .inl (J, _) => (match w_o1 j J with
      | some J3 => w_to pc (S.1, .inl (J3, 0) :: r, S.2.2)
      | none => none)
    | _ => none)
  | _ => none
def w_cond (sh : w_Sh) (j : Nat) (A B : w_A) (r : List Nat) (pc : Nat) (S : w_S) : Option (List (Nat × w_S)) := match w_ef sh S.2.2 A, w_ef sh S.2.2 B, r with
  | .inl a, .inl b, [tg] => bif Nat.blt j 6 then some ((w_br j true a b S).map (fun q => (tg, q)) ++ (w_br j false a b S).map (fun q => (pc, q))) else none
  | _, _, _ => none
def w_tb (lo : Int) (a : q_J × Nat) (S : w_S) : Nat → List Nat → List (Nat × w_S)
  | _, [] => []
  | k, tg :: r => (bif Nat.ble a.1.1 (lo + (k : Int) + 2147483648).toNat && Nat.ble (lo + (k : Int) + 2147483648).toNat a.1.2 then [(tg, w_nr a.2 ((lo + (k : Int) + 2147483648).toNat, (lo + (k : Int) + 2147483648).toNat) S)] else []) ++ w_tb lo a S (k + 1) r
def w_tsw (sh : w_Sh) (lo hi : Int) (r : List Nat) (S : w_S) : Option (List (Nat × w_S)) := match S.2.1, r with
  | A :: st, df :: tgs => (match w_ef sh S.2.2 A with
    | .inl a => bif decide (-2147483648 ≤ lo) && (decide (lo ≤ hi) && (decide (hi ≤ 2147483647) && decide (hi - lo + 1 = (tgs.length : Int)))) then some ((df, (S.1, st, S.2.2)) :: w_tb lo a (S.1, st, S.2.2) 0 tgs) else none
    | _ => none)
  | _, _ => none
def w_lsw (pc : Nat) (d : Int) (ps : List (Int × Int)) (S : w_S) : Option (List (Nat × w_S)) := match S.2.1 with
  | .inl _ :: st => bif decide (0 ≤ (pc : Int) + d) && ps.all (fun q => decide (0 ≤ (pc : Int) + q.2)) then some (((((pc : Int) + d).toNat), (S.1, st, S.2.2)) :: ps.map (fun q => (((pc : Int) + q.2).toNat, (S.1, st, S.2.2)))) else none
  | _ => none
def w_get (sh : w_Sh) (r : List Nat) (pc : Nat) (S : w_S) : Option (List (Nat × w_S)) := match r, S.2.1 with
  | ci :: k :: _, .inr (.inr [n]) :: st => (match w_gf sh S.2.2 ci k n with
    | some A => w_to pc (S.1, A :: st, S.2.2)
    | none => none)
  | _, _ => none
def w_put (sh : w_Sh) (ms : List (Nat × Nat)) (r : List Nat) (pc : Nat) (S : w_S) : Option (List (Nat × w_S)) := match r, S.2.1 with
  | ci :: k :: kd :: _, A :: .inr (.inr [n]) :: st => (match w_cell sh n with
    | some (o, tag, sz, _) => (match w_ty sh o k with
      | some B => bif Nat.beq tag ci && (Nat.blt tag 100 && (Nat.blt k sz && (Nat.blt k 4096 && (w_fits kd (w_ef sh S.2.2 A) (w_kz B) && (w_inm ms (w_key o k) && !(w_inm g_pk (w_key o k))))))) then
          w_to pc (w_setM (w_key o k) (w_kz (w_ef sh S.2.2 A)) (w_ks (Nat.beq (w_key o k)) (S.1, st, S.2.2))) else none
      | none => none)
    | none => none)
  | _, _ => none
def w_ale (sh : w_Sh) (tag kd pc : Nat) (S : w_S) : Option (List (Nat × w_S)) := match S.2.1 with
  | I :: .inr (.inr [n]) :: st => (match w_ef sh S.2.2 I with
    | .inl (J, _) => (match w_el sh S.2.2 tag J n with
      | some A => bif w_kindb A kd then w_to pc (S.1, A :: st, S.2.2) else none
      | none => none)
    | _ => none)
  | _ => none
/-- what a row keeps of a value -/
def w_kp (tg : Nat) (A : w_A) : Option w_A := match A with
  | .inl (J, _) => bif Nat.beq tg 100 then some (.inl (J, 0)) else bif Nat.beq tg 101 then some (.inl (q_jbyte, 0)) else bif Nat.beq tg 102 && w_bit J then some (.inl (J, 0)) else none
  | .inr (.inl _) => bif Nat.beq tg 103 then some A else none
  | _ => none
def w_ovl (ms : List (Nat × Nat)) (a b : Nat) : Bool := ms.any (fun q => Nat.ble q.1 b && Nat.ble a q.2)
def w_inr (ms : List (Nat × Nat)) (a b : Nat) : Bool := ms.any (fun q => Nat.ble q.1 a && Nat.ble b q.2)
def w_rng (a b g : Nat) : Bool := Nat.ble a g && Nat.ble g b
def w_ast (sh : w_Sh) (ms : List (Nat × Nat)) (tag pc : Nat) (S : w_S) : Option (List (Nat × w_S)) := match S.2.1 with
  | A :: I :: .inr (.inr [n]) :: st => (match w_ef sh S.2.2 I, w_cell sh n with
    | .inl (J, _), some (o, tg, sz, l) => (match w_kp tg (w_ef sh S.2.2 A) with
      | some B => bif w_tg tg tag && (Nat.ble 2147483648 J.1 && (Nat.blt J.2 (sz + 2147483648) && (Nat.ble 100 tg && (Nat.ble sz 4096 && (Nat.ble J.1 J.2 && (w_inr ms (w_key o (J.1 - 2147483648)) (w_key o (J.2 - 2147483648)) && !(w_ovl g_pk (w_key o (J.1 - 2147483648)) (w_key o (J.2 - 2147483648))))))))) then
          (bif q_jone J then (match w_ty sh o (J.1 - 2147483648) with
              | some C => bif w_le1 B (w_kz C) then w_to pc (w_setM (w_key o (J.1 - 2147483648)) B (w_ks (w_rng (w_key o (J.1 - 2147483648)) (w_key o (J.2 - 2147483648))) (S.1, st, S.2.2))) else none
              | none => none)
            else bif (w_sub l J).all (fun C => w_le1 B (w_kz C)) then w_to pc (w_ks (w_rng (w_key o (J.1 - 2147483648)) (w_key o (J.2 - 2147483648))) (S.1, st, S.2.2)) else none) else none
      | none => none)
    | _, _ => none)
  | _ => none
def w_aln (sh : w_Sh) (pc : Nat) (S : w_S) : Option (List (Nat × w_S)) := match S.2.1 with
  | .inr (.inr [n]) :: st => (match w_cell sh n with
    | some (_, tg, sz, _) => bif Nat.blt 99 tg && Nat.blt tg 104 then w_to pc (S.1, .inl (q_jc (Int32.ofNat sz), 0) :: st, S.2.2) else none
    | none => none)
  | _ => none
def w_cat (A : w_A) : Nat := bif w_isL A then 2 else 1
def w_cats : List w_A → Nat
  | [] => 0
  | A :: r => w_cat A + w_cats r
/-- System.arraycopy between rows of ints -/
def w_cpy (sh : w_Sh) (ms : List (Nat × Nat)) (pc : Nat) (S : w_S) : Option (List (Nat × w_S)) := match S.2.1 with
  | N :: D :: .inr (.inr [nd]) :: P :: .inr (.inr [ns]) :: st => (match w_ef sh S.2.2 N, w_ef sh S.2.2 D, w_ef sh S.2.2 P, w_cell sh nd, w_cell sh ns with
    | .inl (jn, _), .inl (jd, _), .inl (jp, _), some (d, td, zd, ld), some (_, tp, zp, lp) =>
      bif Nat.beq td 100 && (Nat.beq tp 100 && (Nat.ble 2147483648 jn.1 && (Nat.ble 2147483648 jd.1 && (Nat.ble 2147483648 jp.1 && (Nat.ble (jp.2 + jn.2) (zp + 4294967296) && (Nat.ble (jd.2 + jn.2) (zd + 4294967296) && (Nat.ble zd 4096 && (Nat.ble (w_cats st) 8 && (lp.all (fun B => ld.all (fun C => w_le1 (w_kz B) (w_kz C))) && (w_inr ms (w_key d (jd.1 - 2147483648)) (w_key d (zd - 1)) && (Nat.blt 0 lp.length && !(w_ovl g_pk (w_key d (jd.1 - 2147483648)) (w_key d (zd - 1)))))))))))))) then
        w_to pc (w_ks (w_rng (w_key d (jd.1 - 2147483648)) (w_key d (zd - 1))) (S.1, st, S.2.2)) else none
    | _, _, _, _, _ => none)
  | _ => none
def w_dup (pc : Nat) (S : w_S) : Option (List (Nat × w_S)) := match S.2.1 with
  | A :: st => bif w_isL A then none else w_to pc (S.1, A :: A :: st, S.2.2)
  | _ => none
def w_pop (pc : Nat) (S : w_S) : Option (List (Nat × w_S)) := match S.2.1 with
  | A :: st => bif w_isL A then none else w_to pc (S.1, st, S.2.2)
  | _ => none
def w_dp2 (pc : Nat) (S : w_S) : Option (List (Nat × w_S)) := match S.2.1 with
  | A :: B :: st => bif w_isL A || w_isL B then none else w_to pc (S.1, A :: B :: A :: B :: st, S.2.2)
  | _ => none
def w_mth (sh : w_Sh) (v pc : Nat) (S : w_S) : Option (List (Nat × w_S)) := match v, S.2.1 with
  | 0, _ :: st => bif Nat.ble (w_cats st) 8 then w_1 sh 3 pc S else none
  | 1, _ :: _ :: st => bif Nat.ble (w_cats st) 8 then w_2 sh 11 pc S else none
  | 2, _ :: _ :: st => bif Nat.ble (w_cats st) 8 then w_2 sh 12 pc S else none
  | _, _ => none
def w_l2 (pc : Nat) (S : w_S) : Option (List (Nat × w_S)) := match S.2.1 with
  | .inr (.inl _) :: .inr (.inl _) :: st => w_to pc (S.1, .inr (.inl ()) :: st, S.2.2)
  | _ => none
def w_lsh (pc : Nat) (S : w_S) : Option (List (Nat × w_S)) := match S.2.1 with
  | .inl _ :: .inr (.inl _) :: st => w_to pc (S.1, .inr (.inl ()) :: st, S.2.2)
  | _ => none
def w_i2l (pc : Nat) (S : w_S) : Option (List (Nat × w_S)) := match S.2.1 with
  | .inl _ :: st => w_to pc (S.1, .inr (.inl ()) :: st, S.2.2)
  | _ => none
def w_lcm (pc : Nat) (S : w_S) : Option (List (Nat × w_S)) := match S.2.1 with
  | .inr (.inl _) :: .inr (.inl _) :: st => w_to pc (S.1, .inl ((2147483647, 2147483649), 0) :: st, S.2.2)
  | _ => none
/-- a method's contract: its number, its values, what it wants of slots, the keys that it may write, its ends (of its values, by their places; its answer; of slots), how deep it calls -/
abbrev w_E : Type := Nat × List w_A × w_U × List (Nat × Nat) × List (List (Nat × q_J) × Option w_A × w_U) × Nat
def w_take : Nat → List w_A → List w_A → Option (List w_A × List w_A)
  | 0, st, a => some (a, st)
  | n + 1, A :: st, a => w_take n st (A :: a)
  | _ + 1, [], _ => none
def w_may (sh : w_Sh) (sv : Nat) (x : List Nat) (a : List w_A) : Bool := match sv, a with
  | 0, _ => true
  | 1, .inr (.inr [n]) :: _ => (match w_cell sh n, x with
    | some (_, tag, _, _), [ci] => Nat.beq tag ci
    | _, _ => false)
  | _, _ => false
def w_nrs (a : List w_A) : List (Nat × q_J) → w_S → Option w_S
  | [], S => some S
  | (j, J) :: r, S => (match a[j]? with
    | some (.inl (J0, g)) => bif Nat.blt (w_mt J J0).2 (w_mt J J0).1 then none else w_nrs a r (w_nr g (w_mt J J0) S)
    | _ => w_nrs a r S)
def w_pst : w_U → w_S → w_S
  | [], S => S
  | (g, A) :: r, S => w_pst r (w_setM g (w_kz A) S)
def w_inv (sh : w_Sh) (E0 E : w_E) (sv : Nat) (r : List Nat) (pc : Nat) (S : w_S) : Option (List (Nat × w_S)) := match r with
  | k :: na :: ml :: x => (match w_take na S.2.1 [] with
    | some (a, st) => bif Nat.beq E.1 k && (w_leL sh S.2.2 a E.2.1 && (w_leM sh S.2.2 E.2.2.1 && (Nat.ble (w_cats st) 8 && (Nat.ble (w_cats a) ml && (w_may sh sv x a && (E.2.2.2.1.all (fun q => w_inr E0.2.2.2.1 q.1 q.2 && Nat.ble 64 q.1) && Nat.blt E.2.2.2.2.2 E0.2.2.2.2.2)))))) then
        some (E.2.2.2.2.1.filterMap (fun q => match w_nrs ((a.map (w_ef sh S.2.2)).map (w_ka (w_inm E.2.2.2.1))) q.1 (w_pst q.2.2 (w_ks (w_inm E.2.2.2.1) (S.1, st, S.2.2))) with
          | some S2 => some (pc, (S2.1, q.2.1.toList.map w_kz ++ S2.2.1, S2.2.2))
          | none => none)) else none
    | none => none)
  | _ => none
/-- E0: the contract that is checked; E: that of the method called here -/
def w_act (sh : w_Sh) (E0 E : w_E) (ins : Jvm.ClassFile.Instr) (len : Nat) (r : List Nat) (p : Nat) (S : w_S) : Option (List (Nat × w_S)) :=
  match ins with
  | .aload_n k => w_ld sh 1 k.val (p + len) S
  | .iload_n k => w_ld sh 0 k.val (p + len) S
  | .lload_n k => w_ld sh 2 k.val (p + len) S
  | .aload i => w_ld sh 1 i (p + len) S
  | .iload i => w_ld sh 0 i (p + len) S
  | .lload i => w_ld sh 2 i (p + len) S
  | .astore_n k => w_st 1 k.val (p + len) S
  | .istore_n k => w_st 0 k.val (p + len) S
  | .lstore_n k => w_st 2 k.val (p + len) S
  | .astore i => w_st 1 i (p + len) S
  | .istore i => w_st 0 i (p + len) S
  | .lstore i => w_st 2 i (p + len) S
  | .iinc i n => w_ii i n (p + len) S
  | .iconst n => w_ps (p + len) (.inl (q_jc (Int32.ofInt n), 0)) S
  | .bipush n => w_ps (p + len) (.inl (q_jc (Int8.ofInt n).toInt32, 0)) S
  | .sipush n => w_ps (p + len) (.inl (q_jc (Int16.ofInt n).toInt32, 0)) S
  | .lconst _ => w_ps (p + len) (.inr (.inl ())) S
  | .ldc _ => (match r with
    | [v] => w_ps (p + len) (.inl (q_jc (Int32.ofNat v), 0)) S
    | _ => none)
  | .ldc_w _ => (match r with
    | [v] => w_ps (p + len) (.inl (q_jc (Int32.ofNat v), 0)) S
    | _ => none)
  | .ldc2_w _ => (match r with
    | [_] => w_ps (p + len) (.inr (.inl ())) S
    | _ => none)
  | .iadd => w_2 sh 0 (p + len) S
  | .isub => w_2 sh 1 (p + len) S
  | .imul => w_2 sh 2 (p + len) S
  | .iand => w_2 sh 3 (p + len) S
  | .ior => w_2 sh 4 (p + len) S
  | .ixor => w_2 sh 5 (p + len) S
  | .ishl => w_2 sh 6 (p + len) S
  | .ishr => w_2 sh 7 (p + len) S
  | .iushr => w_2 sh 8 (p + len) S
  | .idiv => w_2 sh 9 (p + len) S
  | .irem => w_2 sh 10 (p + len) S
  | .ineg => w_1 sh 0 (p + len) S
  | .i2b => w_1 sh 1 (p + len) S
  | .i2c => w_1 sh 2 (p + len) S
  | .i2l => w_i2l (p + len) S
  | .ladd => w_l2 (p + len) S
  | .lmul => w_l2 (p + len) S
  | .lor => w_l2 (p + len) S
  | .lshl => w_lsh (p + len) S
  | .lcmp => w_lcm (p + len) S
  | .dup => w_dup (p + len) S
  | .dup2 => w_dp2 (p + len) S
  | .pop => w_pop (p + len) S
  | .ifCond cd _ => (match S.2.1 with
    | A :: st => w_cond sh (q_cn cd) A (.inl (q_jc 0, 0)) r (p + len) (S.1, st, S.2.2)
    | _ => none)
  | .if_icmp cd _ => (match S.2.1 with
    | B :: A :: st => w_cond sh (q_cn cd) A B r (p + len) (S.1, st, S.2.2)
    | _ => none)
  | .goto _ => (match r with
    | [tg] => w_to tg S
    | _ => none)
  | .tableswitch _ lo hi _ => w_tsw sh lo hi r S
  | .lookupswitch d ps => w_lsw p d ps.toList S
  | .getfield _ => w_get sh r (p + len) S
  | .putfield _ => w_put sh E0.2.2.2.1 r (p + len) S
  | .iaload => w_ale sh 100 0 (p + len) S
  | .baload => w_ale sh 101 0 (p + len) S
  | .laload => w_ale sh 103 2 (p + len) S
  | .iastore => w_ast sh E0.2.2.2.1 100 (p + len) S
  | .bastore => w_ast sh E0.2.2.2.1 101 (p + len) S
  | .lastore => w_ast sh E0.2.2.2.1 103 (p + len) S
  | .arraylength => w_aln sh (p + len) S
  | .invokevirtual _ => w_inv sh E0 E 1 r (p + len) S
  | .invokestatic _ => (match r with
    | [] => w_cpy sh E0.2.2.2.1 (p + len) S
    | [v] => w_mth sh v (p + len) S
    | _ => w_inv sh E0 E 0 r (p + len) S)
  | _ => none
/-! ends -/
def w_po (sh : w_Sh) (nst : List Nat) (S : w_S) (rv : Option w_A) (q : List (Nat × q_J) × Option w_A × w_U) : Bool :=
  q.1.all (fun z => nst.any (fun i => Nat.beq i z.1) && (match q_at S.1 z.1 with
    | some A => (match w_ef sh S.2.2 A with
      | .inl (J, _) => q_jle J z.2
      | _ => false)
    | none => false)) && ((match rv, q.2.1 with
    | none, none => true
    | some A, some B => w_le1 (w_ef sh S.2.2 A) (w_kz B)
    | _, _ => false) && w_leM sh S.2.2 q.2.2)
def w_ret (sh : w_Sh) (nst : List Nat) (E0 : w_E) (ins : Jvm.ClassFile.Instr) (r : List Nat) (S : w_S) : Bool :=
  match ins with
  | .ireturn => (match r, S.2.1 with
    | [kd], [A] => (match w_ef sh S.2.2 A with
      | .inl (J, _) => (Nat.beq kd 0 || (Nat.beq kd 1 && w_bit J)) && E0.2.2.2.2.1.any (w_po sh nst S (some A))
      | _ => false)
    | _, _ => false)
  | .lreturn => (match S.2.1 with
    | [.inr (.inl u)] => E0.2.2.2.2.1.any (w_po sh nst S (some (.inr (.inl u))))
    | _ => false)
  | .return_ => (match S.2.1 with
    | [] => E0.2.2.2.2.1.any (w_po sh nst S none)
    | _ => false)
  | _ => false
/-! ranks: a number, and for each open loop its counter (the local, a weight, its bound, whether it goes up) -/
abbrev w_K : Type := Nat × List (Nat × Nat × Nat × Bool)
def w_tm (ls : q_U Int32) (t : Nat × Nat × Nat × Bool) : Nat := match q_at ls t.1 with
  | some (.inl x) => t.2.1 * (bif t.2.2.2 then t.2.2.1 - q_pc x else q_pc x - t.2.2.1)
  | _ => 0
def w_tms (ls : q_U Int32) : List (Nat × Nat × Nat × Bool) → Nat
  | [] => 0
  | t :: r => w_tm ls t + w_tms ls r
def w_ub (S : w_S) : List (Nat × Nat × Nat × Bool) → Option Nat
  | [] => some 0
  | t :: r => (match q_at S.1 t.1, w_ub S r with
    | some (.inl (J, _)), some n => some (t.2.1 * (bif t.2.2.2 then t.2.2.1 - J.1 else J.2 - t.2.2.1) + n)
    | _, _ => none)
def w_teq (t u : Nat × Nat × Nat × Bool) : Bool := Nat.beq t.1 u.1 && (Nat.beq t.2.1 u.2.1 && (Nat.beq t.2.2.1 u.2.2.1 && (t.2.2.2 == u.2.2.2)))
/-- the local that is stored into, and whether by a long -/
def w_sto (ins : Jvm.ClassFile.Instr) : Option (Nat × Bool) := match ins with
  | .astore_n k => some (k.val, false)
  | .istore_n k => some (k.val, false)
  | .lstore_n k => some (k.val, true)
  | .astore i => some (i, false)
  | .istore i => some (i, false)
  | .lstore i => some (i, true)
  | .iinc i _ => some (i, false)
  | _ => none
def w_stp (ins : Jvm.ClassFile.Instr) (i : Nat) : Bool := match w_sto ins with
  | some (k, lg) => Nat.beq i k || (lg && Nat.beq i (k + 1))
  | none => false
def w_inc (ins : Jvm.ClassFile.Instr) : Option (Nat × Int) := match ins with
  | .iinc i n => some (i, n)
  | _ => none
/-- what falls at a step: the counters that both have stay, the rest is less; or a counter has gone on -/
def w_dec (ins : Jvm.ClassFile.Instr) (S S2 : w_S) (c c2 : Nat) : List (Nat × Nat × Nat × Bool) → List (Nat × Nat × Nat × Bool) → Bool
  | t :: r, t2 :: r2 => bif w_teq t t2 then
      (match w_inc ins, q_at S.1 t.1 with
        | some (i, n), some (.inl (J, _)) => bif Nat.beq i t.1 then
            (match w_ub S2 r2 with
              | some u => bif t.2.2.2 then decide (0 ≤ n) && (decide (n ≤ 32767) && (Nat.ble (J.2 + n.toNat) t.2.2.1 && (Nat.blt (J.2 + n.toNat) 4294967296 && Nat.blt (c2 + u) (c + t.2.1 * n.toNat))))
                else decide (n ≤ 0) && (decide (-32768 ≤ n) && (Nat.ble (t.2.2.1 + (-n).toNat) J.1 && (Nat.blt J.2 4294967296 && Nat.blt (c2 + u) (c + t.2.1 * (-n).toNat))))
              | none => false)
            else bif w_stp ins t.1 then false else w_dec ins S S2 c c2 r r2
        | none, some (.inl _) => bif w_stp ins t.1 then false else w_dec ins S S2 c c2 r r2
        | _, _ => false)
    else (match w_ub S2 (t2 :: r2) with
      | some u => Nat.blt (c2 + u) c
      | none => false)
  | _, r2 => (match w_ub S2 r2 with
    | some u => Nat.blt (c2 + u) c
    | none => false)
/-- a place's certificate: which contract a call here uses, its rank, the states that may be here -/
abbrev w_Z : Type := List Nat × w_K × List w_S
abbrev w_Y : Type := List (List w_Z)
def w_yat (y : w_Y) (p : Nat) : Option w_Z := match y[p / 16]? with
  | some r => r[p % 16]?
  | none => none
def w_try (sh : w_Sh) (es : List w_E) (E0 : w_E) (y : w_Y) (p : Nat) (q : q_I) (K : w_K) (S : w_S) (j : Nat) : Bool := match es[j]? with
  | some E => (match w_act sh E0 E q.1 q.2.1 q.2.2 p S with
    | some L => L.all (fun s => match w_yat y s.1 with
      | some z2 => w_dec q.1 S s.2 K.1 z2.2.1.1 K.2 z2.2.1.2 && z2.2.2.any (w_leS sh s.2)
      | none => false)
    | none => false)
  | none => false
/-- no contract is told: the first -/
def w_cts (l : List Nat) : List Nat := match l with
  | [] => [0]
  | _ => l
def w_ok1 (sh : w_Sh) (nst : List Nat) (es : List w_E) (E0 : w_E) (y : w_Y) (p : Nat) (q : q_I) (z : w_Z) (S : w_S) : Bool :=
  w_ret sh nst E0 q.1 q.2.2 S || (w_cts z.1).any (w_try sh es E0 y p q z.2.1 S)
def w_row (sh : w_Sh) (nst : List Nat) (es : List w_E) (E0 : w_E) (y : w_Y) (t : q_T) (p : Nat) : Bool := match w_yat y p with
  | some z => (match z.2.2 with
    | [] => true
    | _ => (match q_get t p with
      | some q => nst.all (fun i => !(w_stp q.1 i)) && z.2.2.all (w_ok1 sh nst es E0 y p q z)
      | none => false))
  | none => true
def w_rows (sh : w_Sh) (nst : List Nat) (es : List w_E) (E0 : w_E) (y : w_Y) (t : q_T) : Nat → Bool
  | 0 => true
  | n + 1 => w_row sh nst es E0 y t n && w_rows sh nst es E0 y t n
def w_args : Nat → List w_A → w_U
  | _, [] => []
  | i, A :: as => (i, w_kz A) :: w_args (bif w_isL A then i + 2 else i + 1) as
def w_kzM (M : w_U) : w_U := M.map (fun q => (q.1, w_kz q.2))
/-- n: how many places there are -/
def w_chk (sh : w_Sh) (nst : List Nat) (es : List w_E) (E0 : w_E) (y : w_Y) (t : q_T) (n : Nat) : Bool :=
  Nat.beq (y.length * 16) n && ((nst.all (fun i => match E0.2.1[i]? with
    | some (.inl _) => true
    | _ => false) && (Nat.beq nst.length 0 || E0.2.1.all (fun A => !(w_isL A)))) && ((match w_yat y 0 with
    | some z => z.2.2.any (w_leS sh (w_args 0 E0.2.1, [], w_kzM E0.2.2.1))
    | none => false) && (Nat.blt 0 E0.2.2.2.2.2 && w_rows sh nst es E0 y t n)))
/-- a contract that nobody can call -/
def w_E9 : w_E := (0, [.inr (.inr [])], [], [], [], 0)
