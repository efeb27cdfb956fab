def q_z {I : Type} (q : q_I) (O : q_O I) (scr : Option (List I)) (cal : Nat → List (q_V I) → q_H I → Nat → Option (q_R I)) (f : q_F I) (h : q_H I) (ns : Nat) : q_X I := q_act O scr cal q.1 q.2.1 q.2.2 f h ns
section QUICK2
variable {I P : Type}
noncomputable def q_f_ld (t i len : Nat) : q_Y I P := fun _ _ _ _ k pc ls st F ns => match q_fat ls i with
  | some v => bif Nat.beq (q_kind v) t then k (pc + len) ls (v :: st) F ns else none
  | none => none
/-- what changes the frame alone -/
def q_f_fr (n : q_O I → q_F I → Option (q_F I)) : q_Y I P := fun O _ _ _ k pc ls st F ns => match n O (pc, ls, st) with
  | some (pc, ls, st) => k pc ls st F ns
  | none => none
def q_fo {I : Type} (x : q_X I) : Option (q_F I) := match x with
  | some (.inl s) => some s.1
  | _ => none
def q_f_st (t i len : Nat) : q_Y I P := q_f_fr (fun _ f => q_fo (q_st t i len f [] 0))
def q_f_iinc (i : Nat) (n : Int) (len : Nat) : q_Y I P := q_f_fr (fun O f => q_fo (q_iinc O i n len f [] 0))
def q_f_k (c : Int32) (len : Nat) : q_Y I P := fun O _ _ _ k pc ls st F ns => k (pc + len) ls (.inl (O.1 c) :: st) F ns
def q_f_lk (c : Int64) (len : Nat) : q_Y I P := fun _ _ _ _ k pc ls st F ns => k (pc + len) ls (.inr (.inl c) :: st) F ns
def q_f_b2 (j len : Nat) : q_Y I P := fun O _ _ _ k pc ls st F ns => match st with
  | .inl y :: .inl x :: r => (match O.2.1 j x y with
    | some z => k (pc + len) ls (.inl z :: r) F ns
    | none => none)
  | _ => none
def q_f_b1 (j len : Nat) : q_Y I P := q_f_fr (fun O f => q_fo (q_b1 O j len f [] 0))
def q_f_i2l (len : Nat) : q_Y I P := q_f_fr (fun O f => q_fo (q_i2l O len f [] 0))
def q_f_l2 (j len : Nat) : q_Y I P := q_f_fr (fun _ f => q_fo (q_l2 j len f [] 0))
def q_f_lshl (len : Nat) : q_Y I P := q_f_fr (fun O f => q_fo (q_lshl O len f [] 0))
def q_f_lcmp (len : Nat) : q_Y I P := q_f_fr (fun O f => q_fo (q_lcmp O len f [] 0))
def q_f_dup (len : Nat) : q_Y I P := q_f_fr (fun _ f => q_fo (q_dup len f [] 0))
def q_f_dup2 (len : Nat) : q_Y I P := q_f_fr (fun _ f => q_fo (q_dup2 len f [] 0))
def q_f_pop (len : Nat) : q_Y I P := q_f_fr (fun _ f => q_fo (q_pop len f [] 0))
def q_f_tsw (lo hi : Int) (r : List Nat) : q_Y I P := q_f_fr (fun O f => q_fo (q_tsw O lo hi r f [] 0))
def q_f_abs (len : Nat) : q_Y I P := q_f_fr (fun O f => q_fo (q_abs O len f [] 0))
def q_f_obj (len : Nat) : q_Y I P := q_f_fr (fun _ f => q_fo (q_obj len f [] 0))
def q_f_jmp (r : List Nat) (len : Nat) (t : Option Bool) (k : q_Kf I P) (pc : Nat) (ls : q_U I) (st : List (q_V I)) (F : q_Hf I) (ns : Nat) : Option P := match t, r with
  | some true, [tg] => k tg ls st F ns
  | some false, [_] => k (pc + len) ls st F ns
  | _, _ => none
def q_f_if (j : Nat) (r : List Nat) (len : Nat) : q_Y I P := fun O _ _ _ k pc ls st F ns => match st with
  | .inl x :: st => q_f_jmp r len (O.2.2.2.1 j x (O.1 0)) k pc ls st F ns
  | _ => none
def q_f_ic (j : Nat) (r : List Nat) (len : Nat) : q_Y I P := fun O _ _ _ k pc ls st F ns => match st with
  | .inl y :: .inl x :: st => q_f_jmp r len (O.2.2.2.1 j x y) k pc ls st F ns
  | _ => none
def q_f_goto (tg : Nat) : q_Y I P := fun _ _ _ _ k _ ls st F ns => k tg ls st F ns
noncomputable def q_f_getf (r : List Nat) (len : Nat) : q_Y I P := fun _ _ _ _ kk pc ls st F ns => match r, st with
  | ci :: k :: _, .inr (.inr (o + 2)) :: st => (match q_mg F.2 o with
    | some q => bif Nat.beq q.1 ci && Nat.blt k q.2.1 then (match q_mg q.2.2 k with
        | some v => kk (pc + len) ls (v :: st) F ns
        | none => none) else none
    | none => none)
  | _, _ => none
noncomputable def q_f_putf (r : List Nat) (len : Nat) : q_Y I P := fun O _ _ _ kk pc ls st F ns => match r, st with
  | ci :: k :: kd :: _, v :: .inr (.inr (o + 2)) :: st => (match q_mg F.2 o with
    | some q => bif Nat.beq q.1 ci && (Nat.blt k q.2.1 && q_fit O kd v) then kk (pc + len) ls st (F.1, q_ms F.2 o (q.1, q.2.1, q_ms q.2.2 k v)) ns else none
    | none => none)
  | _, _ => none
noncomputable def q_f_el (O : q_O I) (q : q_Cf I) (i : Nat) : q_V I := match q_mg q.2.2 i with
  | some v => v
  | none => bif Nat.beq q.1 103 then .inr (.inl 0) else .inl (O.1 0)
noncomputable def q_f_ald (tag kd len : Nat) : q_Y I P := fun O scr _ _ kk pc ls st F ns => match st with
  | .inl i :: .inr (.inr (o + 2)) :: st => (match q_mg F.2 o, O.2.2.2.2.1 i with
    | some q, some j => bif (Nat.beq q.1 tag || (Nat.beq tag 101 && Nat.beq q.1 102)) && (Nat.blt j q.2.1 && Nat.beq (q_kind (q_f_el O q j)) kd) then kk (pc + len) ls (q_f_el O q j :: st) F ns else none
    | _, _ => none)
  | .inl i :: .inr (.inr 1) :: st => (match scr, O.2.2.2.2.1 i with
    | some xs, some j => (match xs[j]? with
      | some x => bif Nat.beq tag 100 then kk (pc + len) ls (.inl x :: st) F ns else none
      | none => none)
    | _, _ => none)
  | _ => none
noncomputable def q_f_ast (tag len : Nat) : q_Y I P := fun O _ _ _ kk pc ls st F ns => match st with
  | v :: .inl i :: .inr (.inr (o + 2)) :: st => (match q_mg F.2 o, O.2.2.2.2.1 i with
    | some q, some j => bif (Nat.beq q.1 tag || (Nat.beq tag 101 && Nat.beq q.1 102)) && Nat.blt j q.2.1 then (match q_kp O q.1 v with
        | some w => kk (pc + len) ls st (F.1, q_ms F.2 o (q.1, q.2.1, q_ms q.2.2 j w)) ns
        | none => none) else none
    | _, _ => none)
  | _ => none
noncomputable def q_f_alen (len : Nat) : q_Y I P := fun O scr _ _ kk pc ls st F ns => match st with
  | .inr (.inr (o + 2)) :: st => (match q_mg F.2 o with
    | some q => bif Nat.blt 99 q.1 && Nat.blt q.1 104 then kk (pc + len) ls (.inl (O.1 (Int32.ofNat q.2.1)) :: st) F ns else none
    | none => none)
  | .inr (.inr 1) :: st => (match scr with
    | some xs => kk (pc + len) ls (.inl (O.1 (Int32.ofNat xs.length)) :: st) F ns
    | none => none)
  | _ => none
noncomputable def q_f_dfs (O : q_O I) : Nat → List Nat → q_Mp (q_V I)
  | _, [] => q_m0
  | i, k :: ks => q_ms (q_f_dfs O (i + 1) ks) i (q_df O k)
noncomputable def q_f_new (r : List Nat) (len : Nat) : q_Y I P := fun O _ _ _ kk pc ls st F ns => match r with
  | ci :: ks => kk (pc + len) ls (.inr (.inr (F.1 + 2)) :: st) (F.1 + 1, q_ms F.2 F.1 (ci, ks.length, q_f_dfs O 0 ks)) (ns + ks.length)
  | _ => none
noncomputable def q_f_newa (r : List Nat) (len : Nat) : q_Y I P := fun O _ _ _ kk pc ls st F ns => match r, st with
  | [tag], .inl n :: st => (match O.2.2.2.2.1 n with
    | some N => bif Nat.blt N 65536 then kk (pc + len) ls (.inr (.inr (F.1 + 2)) :: st) (F.1 + 1, q_ms F.2 F.1 (tag, N, q_m0)) (ns + N) else none
    | none => none)
  | _, _ => none
noncomputable def q_f_cpy (O : q_O I) (q : q_Cf I) (sp dp : Nat) : Nat → q_Mp (q_V I) → q_Mp (q_V I)
  | 0, u => u
  | n + 1, u => q_ms (q_f_cpy O q sp dp n u) (dp + n) (q_f_el O q (sp + n))
noncomputable def q_f_acpy (len : Nat) : q_Y I P := fun O _ _ _ kk pc ls st F ns => match st with
  | .inl n :: .inl dp :: .inr (.inr (d + 2)) :: .inl sp :: .inr (.inr (o + 2)) :: st => (match q_mg F.2 o, q_mg F.2 d, O.2.2.2.2.1 n, O.2.2.2.2.1 dp, O.2.2.2.2.1 sp with
    | some qs, some qd, some n, some dp, some sp => bif Nat.beq qs.1 100 && (Nat.beq qd.1 100 && (Nat.ble (sp + n) qs.2.1 && (Nat.ble (dp + n) qd.2.1 && Nat.ble (q_cats st) 8))) then
        kk (pc + len) ls st (F.1, q_ms F.2 d (qd.1, qd.2.1, q_f_cpy O qs sp dp n qd.2.2)) ns else none
    | _, _, _, _, _ => none)
  | _ => none
def q_f_mayV (x : List Nat) (c : Option (q_Cf I)) : Bool := match c, x with
  | some q, [ci] => Nat.beq q.1 ci
  | _, _ => false
noncomputable def q_f_may (sv : Nat) (x : List Nat) (a : List (q_V I)) (F : q_Hf I) : Bool := match sv, a with
  | 0, _ => true
  | 1, .inr (.inr (o + 2)) :: _ => q_f_mayV x (q_mg F.2 o)
  | 2, .inr (.inr (_ + 2)) :: _ => true
  | _, _ => false
noncomputable def q_f_inv (sv : Nat) (r : List Nat) (len : Nat) : q_Y I P := fun _ _ cal _ kk pc ls st F ns => match r with
  | k :: na :: ml :: x => (match q_take na st [] with
    | some (a, st) => bif Nat.ble (q_cats st) 8 && (Nat.ble (q_cats a) ml && q_f_may sv x a F) then (match cal k a F ns with
        | some (v, F', ns') => kk (pc + len) ls (v.toList ++ st) F' ns'
        | none => none) else none
    | none => none)
  | _ => none
def q_f_iret (r : List Nat) : q_Y I P := fun O _ _ rt _ _ _ st F ns => match r, st with
  | [kd], [.inl x] => bif q_fit O kd (.inl x) then rt (some (.inl x), F, ns) else none
  | _, _ => none
def q_f_lret : q_Y I P := fun _ _ _ rt _ _ _ st F ns => match st with
  | [.inr (.inl x)] => rt (some (.inr (.inl x)), F, ns)
  | _ => none
def q_f_ret : q_Y I P := fun _ _ _ rt _ _ _ st F ns => match st with
  | [] => rt (none, F, ns)
  | _ => none
def q_f_no : q_Y I P := fun _ _ _ _ _ _ _ _ _ _ => none
noncomputable def q_y (q : q_I) : q_Y I P := match q.1 with
  | .aload_n k => q_f_ld 1 k.val q.2.1
  | .iload_n k => q_f_ld 0 k.val q.2.1
  | .lload_n k => q_f_ld 2 k.val q.2.1
  | .aload i => q_f_ld 1 i q.2.1
  | .iload i => q_f_ld 0 i q.2.1
  | .lload i => q_f_ld 2 i q.2.1
  | .astore_n k => q_f_st 1 k.val q.2.1
  | .istore_n k => q_f_st 0 k.val q.2.1
  | .lstore_n k => q_f_st 2 k.val q.2.1
  | .astore i => q_f_st 1 i q.2.1
  | .istore i => q_f_st 0 i q.2.1
  | .lstore i => q_f_st 2 i q.2.1
  | .iinc i n => q_f_iinc i n q.2.1
  | .iconst n => q_f_k (Int32.ofInt n) q.2.1
  | .bipush n => q_f_k (Int8.ofInt n).toInt32 q.2.1
  | .sipush n => q_f_k (Int16.ofInt n).toInt32 q.2.1
  | .lconst n => q_f_lk (Int64.ofNat n.val) q.2.1
  | .ldc _ => (match q.2.2 with
    | [v] => q_f_k (Int32.ofNat v) q.2.1
    | _ => q_f_no)
  | .ldc_w _ => (match q.2.2 with
    | [v] => q_f_k (Int32.ofNat v) q.2.1
    | _ => q_f_no)
  | .ldc2_w _ => (match q.2.2 with
    | [v] => q_f_lk (Int64.ofNat v) q.2.1
    | _ => q_f_no)
  | .iadd => q_f_b2 0 q.2.1
  | .isub => q_f_b2 1 q.2.1
  | .imul => q_f_b2 2 q.2.1
  | .iand => q_f_b2 3 q.2.1
  | .ior => q_f_b2 4 q.2.1
  | .ixor => q_f_b2 5 q.2.1
  | .ishl => q_f_b2 6 q.2.1
  | .ishr => q_f_b2 7 q.2.1
  | .iushr => q_f_b2 8 q.2.1
  | .idiv => q_f_b2 9 q.2.1
  | .irem => q_f_b2 10 q.2.1
  | .ineg => q_f_b1 0 q.2.1
  | .i2b => q_f_b1 1 q.2.1
  | .i2c => q_f_b1 2 q.2.1
  | .i2l => q_f_i2l q.2.1
  | .ladd => q_f_l2 0 q.2.1
  | .lmul => q_f_l2 1 q.2.1
  | .lor => q_f_l2 2 q.2.1
  | .lshl => q_f_lshl q.2.1
  | .lcmp => q_f_lcmp q.2.1
  | .dup => q_f_dup q.2.1
  | .dup2 => q_f_dup2 q.2.1
  | .pop => q_f_pop q.2.1
  | .ifCond cd _ => q_f_if (q_cn cd) q.2.2 q.2.1
  | .if_icmp cd _ => q_f_ic (q_cn cd) q.2.2 q.2.1
  | .goto _ => (match q.2.2 with
    | [tg] => q_f_goto tg
    | _ => q_f_no)
  | .tableswitch _ lo hi _ => q_f_tsw lo hi q.2.2
  | .getfield _ => q_f_getf q.2.2 q.2.1
  | .putfield _ => q_f_putf q.2.2 q.2.1
  | .iaload => q_f_ald 100 0 q.2.1
  | .baload => q_f_ald 101 0 q.2.1
  | .laload => q_f_ald 103 2 q.2.1
  | .iastore => q_f_ast 100 q.2.1
  | .bastore => q_f_ast 101 q.2.1
  | .lastore => q_f_ast 103 q.2.1
  | .arraylength => q_f_alen q.2.1
  | .new _ => q_f_new q.2.2 q.2.1
  | .newarray _ => q_f_newa q.2.2 q.2.1
  | .invokevirtual _ => q_f_inv 1 q.2.2 q.2.1
  | .invokestatic _ => (match q.2.2 with
    | [] => q_f_acpy q.2.1
    | [_] => q_f_abs q.2.1
    | _ => q_f_inv 0 q.2.2 q.2.1)
  | .invokespecial _ => (match q.2.2 with
    | [] => q_f_obj q.2.1
    | _ => q_f_inv 2 q.2.2 q.2.1)
  | .ireturn => q_f_iret q.2.2
  | .lreturn => q_f_lret
  | .return_ => q_f_ret
  | _ => q_f_no
abbrev q_YT (I P : Type) : Type := List (List (q_Y I P))
noncomputable def q_yt (t : q_T) : q_YT I P := t.map (fun r => r.map q_y)
noncomputable def q_fetch (t : q_YT I P) (pc : Nat) : Option (q_Y I P) := match q_hget t (pc / 16) with
  | some r => q_hget r (pc % 16)
  | none => none
noncomputable def q_fcal (fs : List (q_YT I (q_Rf I))) (ih : Nat → q_YT I (q_Rf I) → q_Kf I (q_Rf I)) (d : Nat) : q_Lf I := fun k a F ns => match d with
  | 0 => none
  | d + 1 => (match q_hget fs k with
    | some t => ih d t 0 (q_args 0 a) [] F ns
    | none => none)
noncomputable def q_frun (O : q_O I) (fs : List (q_YT I (q_Rf I))) (n : Nat) : Nat → q_YT I (q_Rf I) → q_Kf I (q_Rf I) :=
  Nat.rec (motive := fun _ => Nat → q_YT I (q_Rf I) → q_Kf I (q_Rf I)) (fun _ _ _ _ _ _ _ => none) (fun _ ih d t pc ls st F ns => match q_fetch t pc with
    | some y => y O none (q_fcal fs ih d) some (ih d t) pc ls st F ns
    | none => none) n
abbrev q_Sf (I : Type) : Type := Nat × q_U I × List (q_V I) × q_Hf I × Nat
/-- the frame of t, until it stands at pe -/
noncomputable def q_ftill (O : q_O I) (scr : Option (List I)) (fs : List (q_YT I (q_Rf I))) (n d : Nat) (t : q_YT I (q_Sf I)) (pe : Nat) (j : Nat) : q_Kf I (q_Sf I) :=
  Nat.rec (motive := fun _ => q_Kf I (q_Sf I)) (fun _ _ _ _ _ => none) (fun _ ih pc ls st F ns => bif Nat.beq pc pe then some (pc, ls, st, F, ns) else match q_fetch t pc with
    | some y => y O scr (q_fcal fs (q_frun O fs n) d) (fun _ => none) ih pc ls st F ns
    | none => none) j
end QUICK2
