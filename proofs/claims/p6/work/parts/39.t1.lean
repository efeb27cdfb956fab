/-! THE MACHINE AS A FUNCTION (u_): no steps are counted. Its heap is ints, longs, and the four references that change: the class's told, its unused one, the reader's, the trial's -/
abbrev u_K : Type := Nat × Nat × Nat × Nat
abbrev u_H : Type := (Nat → Nat → Int32) × (Nat → Nat → Int64) × u_K
abbrev u_R : Type := Option (Option (q_V Int32) × u_H)
def u_kn (o k : Nat) : Nat := bif Nat.beq o 0 then (bif Nat.beq k 2 then 0 else bif Nat.beq k 3 then 1 else 4) else bif Nat.beq o 27 then (bif Nat.beq k 1 then 2 else 4) else bif Nat.beq o 36 then (bif Nat.beq k 0 then 3 else 4) else 4
def u_kg (j : Nat) (K : u_K) : Nat := match j with
  | 0 => K.1
  | 1 => K.2.1
  | 2 => K.2.2.1
  | 3 => K.2.2.2
  | _ => 0
def u_ks (j n : Nat) (K : u_K) : u_K := match j with
  | 0 => (n, K.2)
  | 1 => (K.1, n, K.2.2)
  | 2 => (K.1, K.2.1, n, K.2.2.2)
  | 3 => (K.1, K.2.1, K.2.2.1, n)
  | _ => K
abbrev u_L : Type := (Nat → Int32) × (Nat → Int64) × List (Nat × Nat)
def u_l1 {α : Type} (f : Nat → α) (i : Nat) (x : α) : Nat → α := fun j => if j = i then x else f j
/-! greater numbers are not looked into -/
theorem u_kex (n : Int) : ∃ x : Int32, x = Int32.ofInt n := ⟨_, rfl⟩
noncomputable def u_k (n : Int) : Int32 := Classical.choose (u_kex n)
theorem u_k_eq (n : Int) : u_k n = Int32.ofInt n := Classical.choose_spec (u_kex n)
theorem u_kvex (n : Nat) : ∃ x : Int32, x = Int32.ofNat n := ⟨_, rfl⟩
noncomputable def u_kv (n : Nat) : Int32 := Classical.choose (u_kvex n)
theorem u_kv_eq (n : Nat) : u_kv n = Int32.ofNat n := Classical.choose_spec (u_kvex n)
theorem u_k6ex (n : Nat) : ∃ x : Int64, x = Int64.ofNat n := ⟨_, rfl⟩
noncomputable def u_k6 (n : Nat) : Int64 := Classical.choose (u_k6ex n)
theorem u_k6_eq (n : Nat) : u_k6 n = Int64.ofNat n := Classical.choose_spec (u_k6ex n)
noncomputable def u_lit (n : Int) : Int32 := match n with
  | .ofNat k => Int32.ofInt (.ofNat k)
  | .negSucc k => u_k (.negSucc k)
theorem u_lit_eq (n : Int) : u_lit n = Int32.ofInt n := by
  cases n with
  | ofNat k => rfl
  | negSucc k => exact u_k_eq _
def u_y (s : u_H) : y_H := (s.1, s.2.1, fun o k => u_kg (u_kn o k) s.2.2)
def u_up (s : u_H) (o k : Nat) (v : q_V Int32) : u_H := match v with
  | .inl x => (y_u s.1 o k x, s.2)
  | .inr (.inl x) => (s.1, y_u s.2.1 o k x, s.2.2)
  | .inr (.inr n) => (s.1, s.2.1, u_ks (u_kn o k) n s.2.2)
def u_in (x : Int32) (sz : Nat) : Bool := match q_ix x with
  | some j => Nat.blt j sz
  | none => false
def u_br {β : Type} (cd : Jvm.ClassFile.Cond) (x y : Int32) (a b : β) : β := match cd with
  | .eq => if x = y then a else b
  | .ne => if x = y then b else a
  | .lt => if x < y then a else b
  | .ge => if x < y then b else a
  | .gt => if y < x then a else b
  | .le => if y < x then b else a
def u_bo {α β : Type} (x : Option α) (z : β) (f : α → β) : β := match x with
  | some a => f a
  | none => z
def u_mayT (x : List Nat) (tag : Nat) : Bool := match x with
  | [ci] => Nat.beq tag ci
  | _ => false
def u_may (sv : Nat) (x : List Nat) (a : List (q_V Int32)) : Bool := bif Nat.beq sv 0 then true else (match a with
  | .inr (.inr n) :: _ => bif Nat.beq sv 1 then u_bo (y_ref g_sh n) false (fun q => u_mayT x q.2.1) else bif Nat.beq sv 2 then Nat.blt 1 n else false
  | _ => false)
def u_cpk (n dp sp : Int32) (so sd : Nat) : Bool := match q_ix n, q_ix dp, q_ix sp with
  | some n, some dp, some sp => Nat.ble (sp + n) so && Nat.ble (dp + n) sd
  | _, _, _ => false
def u_cp (f : Nat → Nat → Int32) (d dp o sp n : Nat) : Nat → Nat → Int32 := fun o2 k2 => if o2 = d ∧ dp ≤ k2 ∧ k2 < dp + n then f o (sp + (k2 - dp)) else f o2 k2
/-- what this.f.g holds, an int -/
def u_f2 (c1 k1 c2 k2 : Nat) (L : u_L) (s : u_H) : Option Int32 := match q_at L.2.2 0 with
  | some n => (match y_ref g_sh n with
    | some (o, tag, sz) => bif Nat.beq tag c1 && (Nat.blt tag 100 && Nat.blt k1 sz) then (match y_v (y_kd g_sh o k1) (u_y s) o k1 with
      | .inr (.inr n2) => (match y_ref g_sh n2 with
        | some (o2, tag2, sz2) => bif Nat.beq tag2 c2 && (Nat.blt tag2 100 && Nat.blt k2 sz2) then (match y_v (y_kd g_sh o2 k2) (u_y s) o2 k2 with
          | .inl x => some x
          | _ => none) else none
        | none => none)
      | _ => none) else none
    | none => none)
  | none => none
def u_ts {β : Type} (x : Int32) (d : β) : Int → List β → β
  | _, [] => d
  | lo, b :: r => if x = Int32.ofInt lo then b else u_ts x d (lo + 1) r
def u_ls {β : Type} (x : Int32) (d : β) : List (Int × β) → β
  | [] => d
  | q :: r => if x = Int32.ofInt q.1 then q.2 else u_ls x d r
section ACT
variable {β : Type}
variable (z : β) (g : Nat → u_L → List (q_V Int32) → u_H → β) (c : Nat → List (q_V Int32) → Nat → List (q_V Int32) → β) (e : Option (q_V Int32) → β)
variable (len : Nat) (r : List Nat) (p : Nat) (L : u_L) (st : List (q_V Int32)) (s : u_H)
def u_aGet : β := match r, st with
  | ci :: k :: _, .inr (.inr n) :: st2 => (match y_ref g_sh n with
    | some (o, tag, sz) => bif Nat.beq tag ci && (Nat.blt tag 100 && Nat.blt k sz) then g (p + len) L (y_v (y_kd g_sh o k) (u_y s) o k :: st2) s else z
    | none => z)
  | _, _ => z
def u_aPut : β := match r, st with
  | ci :: k :: kd :: _, v :: .inr (.inr n) :: st2 => (match y_ref g_sh n with
    | some (o, tag, sz) => bif Nat.beq tag ci && (Nat.blt tag 100 && Nat.blt k sz) then (match v with
      | .inl x => bif Nat.beq kd 0 then g (p + len) L st2 (y_u s.1 o k x, s.2) else bif Nat.beq kd 1 then (if q_ib x = true then g (p + len) L st2 (y_u s.1 o k x, s.2) else z) else z
      | .inr (.inl x) => bif Nat.beq kd 2 then g (p + len) L st2 (s.1, y_u s.2.1 o k x, s.2.2) else z
      | .inr (.inr n) => bif Nat.beq kd 3 then g (p + len) L st2 (s.1, s.2.1, u_ks (u_kn o k) n s.2.2) else z) else z
    | none => z)
  | _, _ => z
def u_aLd (kd : Nat) : β := match st with
  | .inl i :: .inr (.inr n) :: st2 => (match y_ref g_sh n with
    | some (o, tag, sz) => (bif Nat.beq kd 0 then (bif Nat.beq tag 100 then (if u_in i sz = true then g (p + len) L (.inl (s.1 o i.toNatClampNeg) :: st2) s else z) else z) else bif Nat.beq kd 1 then (bif Nat.beq tag 101 || Nat.beq tag 102 then (if u_in i sz = true then g (p + len) L (.inl (s.1 o i.toNatClampNeg) :: st2) s else z) else z) else bif Nat.beq tag 103 then (if u_in i sz = true then g (p + len) L (.inr (.inl (s.2.1 o i.toNatClampNeg)) :: st2) s else z) else z)
    | none => z)
  | _ => z
def u_aIst : β := match st with
  | .inl v :: .inl i :: .inr (.inr n) :: st2 => (match y_ref g_sh n with
    | some (o, tag, sz) => bif Nat.beq tag 100 then (if u_in i sz = true then g (p + len) L st2 (y_u s.1 o i.toNatClampNeg v, s.2) else z) else z
    | none => z)
  | _ => z
def u_aBst : β := match st with
  | .inl v :: .inl i :: .inr (.inr n) :: st2 => (match y_ref g_sh n with
    | some (o, tag, sz) => bif Nat.beq tag 101 then (if u_in i sz = true then g (p + len) L st2 (y_u s.1 o i.toNatClampNeg v.toInt8.toInt32, s.2) else z) else bif Nat.beq tag 102 then (if u_in i sz = true then (if q_ib v = true then g (p + len) L st2 (y_u s.1 o i.toNatClampNeg v, s.2) else z) else z) else z
    | none => z)
  | _ => z
def u_aLst : β := match st with
  | .inr (.inl v) :: .inl i :: .inr (.inr n) :: st2 => (match y_ref g_sh n with
    | some (o, tag, sz) => bif Nat.beq tag 103 then (if u_in i sz = true then g (p + len) L st2 (s.1, y_u s.2.1 o i.toNatClampNeg v, s.2.2) else z) else z
    | none => z)
  | _ => z
def u_aLen : β := match st with
  | .inr (.inr n) :: st2 => (match y_ref g_sh n with
    | some (_, tag, sz) => bif Nat.blt 99 tag && Nat.blt tag 104 then g (p + len) L (.inl (Int32.ofNat sz) :: st2) s else z
    | none => z)
  | _ => z
def u_aCpy : β := match st with
  | .inl n :: .inl dp :: .inr (.inr d) :: .inl sp :: .inr (.inr o) :: st2 => (match y_ref g_sh o with
    | some (o, to, zo) => (match y_ref g_sh d with
      | some (d, td, zd) => bif Nat.beq to 100 && (Nat.beq td 100 && Nat.ble (q_cats st2) 8) then (if u_cpk n dp sp zo zd = true then g (p + len) L st2 (u_cp s.1 d dp.toNatClampNeg o sp.toNatClampNeg n.toNatClampNeg, s.2) else z) else z
      | none => z)
    | none => z)
  | _ => z
def u_aInv (sv : Nat) : β := match r with
  | k :: na :: ml :: x => (match q_take na st [] with
    | some (a, st2) => bif Nat.ble (q_cats st2) 8 && (Nat.ble (q_cats a) ml && u_may sv x a) then c k a (p + len) st2 else z
    | none => z)
  | _ => z
def u_aMac : β := bif Nat.ble (q_cats st) 6 then (match r with
  | [v] => g (p + len) L (.inl (Int32.ofNat v) :: st) s
  | [j, i] => u_bo (q_o1 j (L.1 i)) z (fun y => g (p + len) L (.inl y :: st) s)
  | [j, c1, k1, c2, k2] => (match u_f2 c1 k1 c2 k2 L s with
    | some x => u_bo (q_o1 j x) z (fun y => g (p + len) L (.inl y :: st) s)
    | none => z)
  | [j, c1, k1, c2, k2, i] => (match u_f2 c1 k1 c2 k2 L s with
    | some x => u_bo (q_o1 j (x - 1 - L.1 i)) z (fun w => g (p + len) L (.inl w :: st) s)
    | none => z)
  | _ => z) else z
def u_aMth (v : Nat) : β := bif Nat.beq v 0 then (match st with
  | .inl x :: st2 => bif Nat.ble (q_cats st2) 8 then g (p + len) L (.inl (if 0 ≤ x then x else 0 - x) :: st2) s else z
  | _ => z) else (match st with
  | .inl y :: .inl x :: st2 => bif Nat.ble (q_cats st2) 8 then (bif Nat.beq v 1 then g (p + len) L (.inl (if x < y then y else x) :: st2) s else g (p + len) L (.inl (if y < x then y else x) :: st2) s) else z
  | _ => z)
def u_aDiv (j : Nat) : β := match st with
  | .inl y :: .inl x :: st2 => if y = 0 then z else g (p + len) L (.inl (bif Nat.beq j 9 then x / y else x - x / y * y) :: st2) s
  | _ => z
def u_aIf (cd : Jvm.ClassFile.Cond) : β := match r, st with
  | [tg], .inl x :: st2 => u_br cd x 0 (g tg L st2 s) (g (p + len) L st2 s)
  | _, _ => z
def u_aIc (cd : Jvm.ClassFile.Cond) : β := match r, st with
  | [tg], .inl y :: .inl x :: st2 => u_br cd x y (g tg L st2 s) (g (p + len) L st2 s)
  | _, _ => z
def u_aTsw (lo hi : Int) : β := match r, st with
  | d :: tgs, .inl x :: st2 => bif decide (-2147483648 ≤ lo ∧ lo ≤ hi ∧ hi ≤ 2147483647 ∧ hi - lo + 1 = (tgs.length : Int)) then u_ts x (g d L st2 s) lo (tgs.map fun tg => g tg L st2 s) else z
  | _, _ => z
def u_aLsw (d : Int) (ps : List (Int × Int)) : β := match st with
  | .inl x :: st2 => bif decide (0 ≤ (p : Int) + d) && ps.all (fun q => decide (-2147483648 ≤ q.1 ∧ q.1 ≤ 2147483647 ∧ 0 ≤ (p : Int) + q.2)) then u_ls x (g ((p : Int) + d).toNat L st2 s) (ps.map fun q => (q.1, g ((p : Int) + q.2).toNat L st2 s)) else z
  | _ => z
/-- one step, told by what becomes of it: z nothing, g it goes on, c a call, e it comes back -/
noncomputable def u_act (ins : Jvm.ClassFile.Instr) : β := match ins with
  | .goto _ => (match r with
    | [tg] => g tg L st s
    | _ => z)
  | .ifCond cd _ => u_aIf z g len r p L st s cd
  | .if_icmp cd _ => u_aIc z g len r p L st s cd
  | .idiv => u_aDiv z g len p L st s 9
  | .irem => u_aDiv z g len p L st s 10
  | .tableswitch _ lo hi _ => u_aTsw z g r L st s lo hi
  | .lookupswitch d ps => u_aLsw z g p L st s d ps.toList
  | .getfield _ => u_aGet z g len r p L st s
  | .putfield _ => u_aPut z g len r p L st s
  | .iaload => u_aLd z g len p L st s 0
  | .baload => u_aLd z g len p L st s 1
  | .laload => u_aLd z g len p L st s 2
  | .iastore => u_aIst z g len p L st s
  | .bastore => u_aBst z g len p L st s
  | .lastore => u_aLst z g len p L st s
  | .arraylength => u_aLen z g len p L st s
  | .invokevirtual _ => u_aInv z c len r p st 1
  | .invokestatic _ => (match r with
    | [] => u_aCpy z g len p L st s
    | [v] => u_aMth z g len p L st s v
    | _ => u_aInv z c len r p st 0)
  | .invokespecial _ => (match r, st with
    | [], .inr (.inr (_ + 2)) :: st2 => bif Nat.ble (q_cats st2) 8 then g (p + len) L st2 s else z
    | [], _ => z
    | _, _ => u_aInv z c len r p st 2)
  | .ireturn => (match r, st with
    | [kd], [.inl x] => bif Nat.beq kd 0 then e (some (.inl x)) else bif Nat.beq kd 1 then (if q_ib x = true then e (some (.inl x)) else z) else z
    | _, _ => z)
  | .lreturn => (match st with
    | [.inr (.inl x)] => e (some (.inr (.inl x)))
    | _ => z)
  | .return_ => (match st with
    | [] => e none
    | _ => z)
  | .getstatic _ => u_aMac z g len r p L st s
  | .new _ => z
  | .newarray _ => z
  | .aload_n k => u_bo (q_at L.2.2 k.val) z (fun n => g (p + len) L (.inr (.inr n) :: st) s)
  | .aload k => u_bo (q_at L.2.2 k) z (fun n => g (p + len) L (.inr (.inr n) :: st) s)
  | .iload_n k => g (p + len) L (.inl (L.1 k.val) :: st) s
  | .iload k => g (p + len) L (.inl (L.1 k) :: st) s
  | .lload_n k => g (p + len) L (.inr (.inl (L.2.1 k.val)) :: st) s
  | .lload k => g (p + len) L (.inr (.inl (L.2.1 k)) :: st) s
  | .istore_n k => (match st with
    | .inl x :: st2 => g (p + len) (u_l1 L.1 k.val x, L.2) st2 s
    | _ => z)
  | .istore k => (match st with
    | .inl x :: st2 => g (p + len) (u_l1 L.1 k x, L.2) st2 s
    | _ => z)
  | .lstore_n k => (match st with
    | .inr (.inl x) :: st2 => g (p + len) (L.1, u_l1 L.2.1 k.val x, L.2.2) st2 s
    | _ => z)
  | .lstore k => (match st with
    | .inr (.inl x) :: st2 => g (p + len) (L.1, u_l1 L.2.1 k x, L.2.2) st2 s
    | _ => z)
  | .astore_n k => (match st with
    | .inr (.inr n) :: st2 => g (p + len) (L.1, L.2.1, (k.val, n) :: L.2.2) st2 s
    | _ => z)
  | .astore k => (match st with
    | .inr (.inr n) :: st2 => g (p + len) (L.1, L.2.1, (k, n) :: L.2.2) st2 s
    | _ => z)
  | .iconst n => g (p + len) L (.inl (u_lit n) :: st) s
  | .bipush n => g (p + len) L (.inl (u_lit n) :: st) s
  | .sipush n => g (p + len) L (.inl (u_k n) :: st) s
  | .ldc _ => (match r with
    | [v] => g (p + len) L (.inl (u_kv v) :: st) s
    | _ => z)
  | .ldc_w _ => (match r with
    | [v] => g (p + len) L (.inl (u_kv v) :: st) s
    | _ => z)
  | .ldc2_w _ => (match r with
    | [v] => g (p + len) L (.inr (.inl (u_k6 v)) :: st) s
    | _ => z)
  | .iinc k n => g (p + len) (u_l1 L.1 k (L.1 k + u_lit n), L.2) st s
  | _ => (match y_n ins r [] st with
    | some q => g (p + len) L q.2 s
    | none => z)
end ACT
abbrev u_Da : Type := (Nat × u_L × List (q_V Int32) × u_H) ⊕ ((Nat × List (q_V Int32) × Nat × List (q_V Int32)) ⊕ Option (q_V Int32))
noncomputable def u_D (q : q_I) (p : Nat) (L : u_L) (st : List (q_V Int32)) (s : u_H) : Option u_Da := u_act none (fun p2 L2 st2 s2 => some (.inl (p2, L2, st2, s2))) (fun k a p2 st2 => some (.inr (.inl (k, a, p2, st2)))) (fun v => some (.inr (.inr v))) q.2.1 q.2.2 p L st s q.1
def u_rv {β : Type} (z : β) (g : Nat → u_L → List (q_V Int32) → u_H → β) (c : Nat → List (q_V Int32) → Nat → List (q_V Int32) → β) (e : Option (q_V Int32) → β) (D : Option u_Da) : β := match D with
  | none => z
  | some (.inl (p2, L2, st2, s2)) => g p2 L2 st2 s2
  | some (.inr (.inl (k, a, p2, st2))) => c k a p2 st2
  | some (.inr (.inr v)) => e v
theorem u_cd {β γ : Type} (f : β → γ) (b : Bool) (x y : β) : f (bif b then x else y) = bif b then f x else f y := by cases b <;> rfl
theorem u_ci {β γ : Type} (f : β → γ) {c : Prop} {d : Decidable c} (x y : β) : f (@ite β c d x y) = @ite γ c d (f x) (f y) := by cases d <;> rfl
theorem u_brf {β γ : Type} (f : β → γ) (cd : Jvm.ClassFile.Cond) (x y : Int32) (a b : β) : f (u_br cd x y a b) = u_br cd x y (f a) (f b) := by
  cases cd <;> exact u_ci f _ _
theorem u_bof {α β γ : Type} (f : β → γ) (x : Option α) (z : β) (h : α → β) : f (u_bo x z h) = u_bo x (f z) (fun a => f (h a)) := by cases x <;> rfl
theorem u_tsf {β γ : Type} (f : β → γ) (x : Int32) (d : β) : ∀ (l : List β) (lo : Int), f (u_ts x d lo l) = u_ts x (f d) lo (l.map f)
  | [], _ => rfl
  | b :: r, lo => by
    show f (if x = Int32.ofInt lo then b else u_ts x d (lo + 1) r) = (if x = Int32.ofInt lo then f b else u_ts x (f d) (lo + 1) (r.map f))
    rw [u_ci f, u_tsf f x d r (lo + 1)]
theorem u_lsf {β γ : Type} (f : β → γ) (x : Int32) (d : β) : ∀ (l : List (Int × β)), f (u_ls x d l) = u_ls x (f d) (l.map fun q => (q.1, f q.2))
  | [] => rfl
  | b :: r => by
    show f (if x = Int32.ofInt b.1 then b.2 else u_ls x d r) = (if x = Int32.ofInt b.1 then f b.2 else u_ls x (f d) (r.map fun q => (q.1, f q.2)))
    rw [u_ci f, u_lsf f x d r]
section NAT
variable {β γ : Type} (f : β → γ)
variable (z : β) (g : Nat → u_L → List (q_V Int32) → u_H → β) (c : Nat → List (q_V Int32) → Nat → List (q_V Int32) → β) (e : Option (q_V Int32) → β)
variable (len : Nat) (r : List Nat) (p : Nat) (L : u_L) (st : List (q_V Int32)) (s : u_H)
theorem u_nGet : f (u_aGet z g len r p L st s) = u_aGet (f z) (fun p2 L2 st2 s2 => f (g p2 L2 st2 s2)) len r p L st s := by
  unfold u_aGet
  split
  · split
    · exact u_cd f _ _ _
    · rfl
  · rfl
theorem u_nPut : f (u_aPut z g len r p L st s) = u_aPut (f z) (fun p2 L2 st2 s2 => f (g p2 L2 st2 s2)) len r p L st s := by
  unfold u_aPut
  split
  · split
    · rw [u_cd f]
      congr 1
      split
      · rw [u_cd f, u_cd f, u_ci f]
      · rw [u_cd f]
      · rw [u_cd f]
    · rfl
  · rfl
theorem u_nLd (kd : Nat) : f (u_aLd z g len p L st s kd) = u_aLd (f z) (fun p2 L2 st2 s2 => f (g p2 L2 st2 s2)) len p L st s kd := by
  unfold u_aLd
  split
  · split
    · rw [u_cd f, u_cd f, u_ci f, u_cd f, u_cd f, u_ci f, u_cd f, u_ci f]
    · rfl
  · rfl
theorem u_nIst : f (u_aIst z g len p L st s) = u_aIst (f z) (fun p2 L2 st2 s2 => f (g p2 L2 st2 s2)) len p L st s := by
  unfold u_aIst
  split
  · split
    · rw [u_cd f, u_ci f]
    · rfl
  · rfl
theorem u_nBst : f (u_aBst z g len p L st s) = u_aBst (f z) (fun p2 L2 st2 s2 => f (g p2 L2 st2 s2)) len p L st s := by
  unfold u_aBst
  split
  · split
    · rw [u_cd f, u_ci f, u_cd f, u_ci f, u_ci f]
    · rfl
  · rfl
theorem u_nLst : f (u_aLst z g len p L st s) = u_aLst (f z) (fun p2 L2 st2 s2 => f (g p2 L2 st2 s2)) len p L st s := by
  unfold u_aLst
  split
  · split
    · rw [u_cd f, u_ci f]
    · rfl
  · rfl
theorem u_nLen : f (u_aLen z g len p L st s) = u_aLen (f z) (fun p2 L2 st2 s2 => f (g p2 L2 st2 s2)) len p L st s := by
  unfold u_aLen
  split
  · split
    · rw [u_cd f]
    · rfl
  · rfl
theorem u_nCpy : f (u_aCpy z g len p L st s) = u_aCpy (f z) (fun p2 L2 st2 s2 => f (g p2 L2 st2 s2)) len p L st s := by
  unfold u_aCpy
  split
  · split
    · split
      · rw [u_cd f, u_ci f]
      · rfl
    · rfl
  · rfl
theorem u_nInv (sv : Nat) : f (u_aInv z c len r p st sv) = u_aInv (f z) (fun k a p2 st2 => f (c k a p2 st2)) len r p st sv := by
  unfold u_aInv
  split
  · split
    · rw [u_cd f]
    · rfl
  · rfl
theorem u_nMac : f (u_aMac z g len r p L st s) = u_aMac (f z) (fun p2 L2 st2 s2 => f (g p2 L2 st2 s2)) len r p L st s := by
  unfold u_aMac
  rw [u_cd f]
  congr 1
  split
  · rfl
  · rw [u_bof f]
  · split
    · rw [u_bof f]
    · rfl
  · split
    · rw [u_bof f]
    · rfl
  · rfl
theorem u_nMth (v : Nat) : f (u_aMth z g len p L st s v) = u_aMth (f z) (fun p2 L2 st2 s2 => f (g p2 L2 st2 s2)) len p L st s v := by
  unfold u_aMth
  rw [u_cd f]
  congr 1
  · split
    · rw [u_cd f]
    · rfl
  · split
    · rw [u_cd f, u_cd f]
    · rfl
theorem u_nDiv (j : Nat) : f (u_aDiv z g len p L st s j) = u_aDiv (f z) (fun p2 L2 st2 s2 => f (g p2 L2 st2 s2)) len p L st s j := by
  unfold u_aDiv
  split
  · rw [u_ci f]
  · rfl
theorem u_nIf (cd : Jvm.ClassFile.Cond) : f (u_aIf z g len r p L st s cd) = u_aIf (f z) (fun p2 L2 st2 s2 => f (g p2 L2 st2 s2)) len r p L st s cd := by
  unfold u_aIf
  split
  · rw [u_brf f]
  · rfl
theorem u_nIc (cd : Jvm.ClassFile.Cond) : f (u_aIc z g len r p L st s cd) = u_aIc (f z) (fun p2 L2 st2 s2 => f (g p2 L2 st2 s2)) len r p L st s cd := by
  unfold u_aIc
  split
  · rw [u_brf f]
  · rfl
theorem u_nTsw (lo hi : Int) : f (u_aTsw z g r L st s lo hi) = u_aTsw (f z) (fun p2 L2 st2 s2 => f (g p2 L2 st2 s2)) r L st s lo hi := by
  unfold u_aTsw
  split
  · rw [u_cd f, u_tsf f, List.map_map]
    rfl
  · rfl
theorem u_nLsw (d : Int) (ps : List (Int × Int)) : f (u_aLsw z g p L st s d ps) = u_aLsw (f z) (fun p2 L2 st2 s2 => f (g p2 L2 st2 s2)) p L st s d ps := by
  unfold u_aLsw
  split
  · rw [u_cd f, u_lsf f, List.map_map]
    rfl
  · rfl
theorem u_nat (ins : Jvm.ClassFile.Instr) : f (u_act z g c e len r p L st s ins) = u_act (f z) (fun p2 L2 st2 s2 => f (g p2 L2 st2 s2)) (fun k a p2 st2 => f (c k a p2 st2)) (fun v => f (e v)) len r p L st s ins := by
  unfold u_act
  split
  · split <;> rfl
  · exact u_nIf f z g len r p L st s _
  · exact u_nIc f z g len r p L st s _
  · exact u_nDiv f z g len p L st s _
  · exact u_nDiv f z g len p L st s _
  · exact u_nTsw f z g r L st s _ _
  · exact u_nLsw f z g p L st s _ _
  · exact u_nGet f z g len r p L st s
  · exact u_nPut f z g len r p L st s
  · exact u_nLd f z g len p L st s _
  · exact u_nLd f z g len p L st s _
  · exact u_nLd f z g len p L st s _
  · exact u_nIst f z g len p L st s
  · exact u_nBst f z g len p L st s
  · exact u_nLst f z g len p L st s
  · exact u_nLen f z g len p L st s
  · exact u_nInv f z c len r p st _
  · split
    · exact u_nCpy f z g len p L st s
    · exact u_nMth f z g len p L st s _
    · exact u_nInv f z c len r p st _
  · split
    · rw [u_cd f]
    · rfl
    · exact u_nInv f z c len r p st _
  · split
    · rw [u_cd f, u_cd f, u_ci f]
    · rfl
  · split <;> rfl
  · split <;> rfl
  · exact u_nMac f z g len r p L st s
  · rfl
  · rfl
  · rw [u_bof f]
  · rw [u_bof f]
  · rfl
  · rfl
  · rfl
  · rfl
  · split <;> rfl
  · split <;> rfl
  · split <;> rfl
  · split <;> rfl
  · split <;> rfl
  · split <;> rfl
  · rfl
  · rfl
  · rfl
  · split <;> rfl
  · split <;> rfl
  · split <;> rfl
  · rfl
  · split <;> rfl
theorem u_actD (q : q_I) : u_act z g c e q.2.1 q.2.2 p L st s q.1 = u_rv z g c e (u_D q p L st s) := by
  unfold u_D
  rw [u_nat (u_rv z g c e)]
  rfl
end NAT
