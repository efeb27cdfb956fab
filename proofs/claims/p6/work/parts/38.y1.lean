/-! BY HAND (y_): the machine over a heap that is three functions (ints, longs, references), so that a stretch of code without a choice is run by rfl -/
abbrev y_H : Type := (Nat → Nat → Int32) × (Nat → Nat → Int64) × (Nat → Nat → Nat)
def y_k1 (A : Option w_A) : Nat := match A with
  | some (.inr (.inl _)) => 2
  | some (.inr (.inr [n])) => n + 4
  | some (.inr (.inr _)) => 3
  | _ => 0
/-- what kind a slot has: 0 an int, 2 a long, 3 a reference, n + 4 the reference n and no other -/
def y_kd (sh : w_Sh) (o k : Nat) : Nat := match sh[o]? with
  | some q => y_k1 (q.2.2[k % q.2.2.length]?)
  | none => 0
def y_v (kd : Nat) (s : y_H) (o k : Nat) : q_V Int32 := match kd with
  | 0 => .inl (s.1 o k)
  | 2 => .inr (.inl (s.2.1 o k))
  | n + 4 => .inr (.inr n)
  | _ => .inr (.inr (s.2.2 o k))
def y_mk (sh : w_Sh) (s : y_H) : w_G := fun o k => y_v (y_kd sh o k) s o k
def y_u {α : Type} (f : Nat → Nat → α) (o k : Nat) (x : α) : Nat → Nat → α := fun o2 k2 => if o2 = o ∧ k2 = k then x else f o2 k2
def y_up (s : y_H) (o k : Nat) (v : q_V Int32) : y_H := match v with
  | .inl x => (y_u s.1 o k x, s.2.1, s.2.2)
  | .inr (.inl x) => (s.1, y_u s.2.1 o k x, s.2.2)
  | .inr (.inr x) => (s.1, s.2.1, y_u s.2.2 o k x)
def y_vk (v : q_V Int32) : Nat := match v with
  | .inl _ => 0
  | .inr (.inl _) => 2
  | .inr (.inr _) => 3
theorem y_up_mk {sh : w_Sh} {s : y_H} {o k : Nat} {v : q_V Int32} (h : y_kd sh o k = y_vk v) : y_mk sh (y_up s o k v) = w_up (y_mk sh s) o k v := by
  funext o2 k2
  by_cases e : o2 = o ∧ k2 = k
  · obtain ⟨rfl, rfl⟩ := e
    rw [w_up_self]
    show y_v (y_kd sh o2 k2) (y_up s o2 k2 v) o2 k2 = v
    rw [h]
    rcases v with x | x | x
    · show Sum.inl (y_u s.1 o2 k2 x o2 k2) = _
      rw [show y_u s.1 o2 k2 x o2 k2 = x from if_pos ⟨rfl, rfl⟩]
    · show Sum.inr (Sum.inl (y_u s.2.1 o2 k2 x o2 k2)) = _
      rw [show y_u s.2.1 o2 k2 x o2 k2 = x from if_pos ⟨rfl, rfl⟩]
    · show Sum.inr (Sum.inr (y_u s.2.2 o2 k2 x o2 k2)) = _
      rw [show y_u s.2.2 o2 k2 x o2 k2 = x from if_pos ⟨rfl, rfl⟩]
  · rw [w_up_ne e]
    show y_v (y_kd sh o2 k2) (y_up s o k v) o2 k2 = y_v (y_kd sh o2 k2) s o2 k2
    rcases v with x | x | x
    · have e1 : (y_up s o k (.inl x)).1 o2 k2 = s.1 o2 k2 := if_neg e
      unfold y_v
      split
      · rw [e1]
      · rfl
      · rfl
      · rfl
    · have e1 : (y_up s o k (.inr (.inl x))).2.1 o2 k2 = s.2.1 o2 k2 := if_neg e
      unfold y_v
      split
      · rfl
      · rw [e1]
      · rfl
      · rfl
    · have e1 : (y_up s o k (.inr (.inr x))).2.2 o2 k2 = s.2.2 o2 k2 := if_neg e
      unfold y_v
      split
      · rfl
      · rfl
      · rfl
      · rw [e1]
/-- a heap that keeps to its kinds is such a one -/
theorem y_of {V : w_V} {sh : w_Sh} {h : q_H Int32} {σ : w_G} (hR : w_Rep sh h σ) (hT : w_T V sh σ) (hl : ∀ (o : Nat) (q : Nat × Nat × List w_A), sh[o]? = some q → 0 < q.2.2.length) : ∃ s, w_Rep sh h (y_mk sh s) ∧ ∀ o k A, w_ty sh o k = some A → y_mk sh s o k = σ o k := by
  have key : ∀ o k, ∃ (v : Int32 × Int64 × Nat), ∀ A, w_ty sh o k = some A → σ o k = y_v (y_kd sh o k) (fun _ _ => v.1, fun _ _ => v.2.1, fun _ _ => v.2.2) o k := by
    intro o k
    cases hA : w_ty sh o k with
    | none => exact ⟨(0, 0, 0), fun A h => by cases h⟩
    | some A =>
      have hin := hT.1 o k A hA
      have hkd : y_kd sh o k = y_k1 (some A) := by
        unfold w_ty at hA
        unfold y_kd
        split at hA
        next q hq =>
          obtain ⟨-, hA⟩ := w_bs hA
          rw [Option.map_eq_some_iff] at hA
          obtain ⟨B, hB, rfl⟩ := hA
          rw [hq]
          dsimp only
          rw [hB]
          rcases B with ⟨J, g⟩ | u | l
          · rfl
          · rfl
          · rfl
        next => cases hA
      rcases A with ⟨J, g⟩ | u | l
      · obtain ⟨x, e, -, -⟩ := hin
        exact ⟨(x, 0, 0), fun A2 _ => by rw [hkd, e]; rfl⟩
      · obtain ⟨x, e⟩ := hin
        exact ⟨(0, x, 0), fun A2 _ => by rw [hkd, e]; rfl⟩
      · obtain ⟨x, e, hm⟩ := hin
        refine ⟨(0, 0, x), fun A2 _ => ?_⟩
        rw [hkd, e]
        rcases l with _ | ⟨n, _ | ⟨m, l⟩⟩
        · cases hm
        · have e2 : x = n := by simpa using hm
          rw [e2]
          rfl
        · rfl
  refine ⟨(fun o k => (Classical.choose (key o k)).1, fun o k => (Classical.choose (key o k)).2.1, fun o k => (Classical.choose (key o k)).2.2), ?_⟩
  have heq : ∀ o k A, w_ty sh o k = some A → y_mk sh (fun o k => (Classical.choose (key o k)).1, fun o k => (Classical.choose (key o k)).2.1, fun o k => (Classical.choose (key o k)).2.2) o k = σ o k := by
    intro o k A hA
    have := Classical.choose_spec (key o k) A hA
    rw [this]
    rfl
  refine ⟨⟨hR.1, ?_⟩, heq⟩
  intro o q hq k hk
  have h1 := hR.1 o
  rw [hq] at h1
  cases hs : sh[o]? with
  | none => rw [hs] at h1; cases h1
  | some z =>
    rw [hs] at h1
    have e2 : q.2.1 = z.2.1 := by
      have := Option.some.inj h1
      exact congrArg Prod.snd this
    have hty : ∃ A, w_ty sh o k = some A := by
      unfold w_ty
      rw [hs]
      dsimp only
      rw [show Nat.blt k z.2.1 = true by rw [Nat.blt_eq, ← e2]; exact hk, cond_true]
      have hlt : k % z.2.2.length < z.2.2.length := Nat.mod_lt _ (hl o z hs)
      rw [List.getElem?_eq_getElem hlt]
      exact ⟨_, rfl⟩
    obtain ⟨A, hA⟩ := hty
    rw [heq o k A hA]
    exact hR.2 o q hq k hk
/-- what is to be shown at a place: the run ends, with Q -/
def y_W (sh : w_Sh) (ts : List q_T) (d : Nat) (t : q_T) (Q : Option (q_V Int32) → y_H → Prop) (p : Nat) (ls : q_U Int32) (st : List (q_V Int32)) (s : y_H) : Prop := ∀ h ns, w_Rep sh h (y_mk sh s) → ∃ v h2 s2, q_Ends q_O32 ts d t (p, ls, st) h ns (v, h2, ns) ∧ w_Rep sh h2 (y_mk sh s2) ∧ Q v s2
abbrev y_X : Type := Option (Nat × q_U Int32 × List (q_V Int32) × y_H)
def y_ref (sh : w_Sh) (n : Nat) : Option (Nat × Nat × Nat) := match n with
  | o + 2 => (match sh[o]? with
    | some q => some (o, q.1, q.2.1)
    | none => none)
  | _ => none
abbrev y_N : Type := Option (q_U Int32 × List (q_V Int32))
def y_ld (t i : Nat) (ls : q_U Int32) (st : List (q_V Int32)) : y_N := match q_at ls i with
  | some v => bif Nat.beq (q_kind v) t then some (ls, v :: st) else none
  | none => none
def y_st (t i : Nat) (ls : q_U Int32) (st : List (q_V Int32)) : y_N := match st with
  | v :: r => bif Nat.beq (q_kind v) t then some ((i, v) :: ls.filter (bif Nat.beq t 2 then q_keep2 i else q_keep1 i), r) else none
  | [] => none
def y_ii (i : Nat) (n : Int) (ls : q_U Int32) (st : List (q_V Int32)) : y_N := match q_at ls i with
  | some (.inl x) => some ((i, .inl (x + Int32.ofInt n)) :: ls.filter (q_keep1 i), st)
  | _ => none
def y_2 (j : Nat) (ls : q_U Int32) (st : List (q_V Int32)) : y_N := match st with
  | .inl y :: .inl x :: r => (match q_o2 j x y with
    | some z => some (ls, .inl z :: r)
    | none => none)
  | _ => none
def y_1 (j : Nat) (ls : q_U Int32) (st : List (q_V Int32)) : y_N := match st with
  | .inl x :: r => (match q_o1 j x with
    | some z => some (ls, .inl z :: r)
    | none => none)
  | _ => none
def y_l2 (j : Nat) (ls : q_U Int32) (st : List (q_V Int32)) : y_N := match st with
  | .inr (.inl y) :: .inr (.inl x) :: r => (match q_lo j x y with
    | some z => some (ls, .inr (.inl z) :: r)
    | none => none)
  | _ => none
/-- an instruction that neither jumps nor looks into the heap -/
def y_n (ins : Jvm.ClassFile.Instr) (r : List Nat) (ls : q_U Int32) (st : List (q_V Int32)) : y_N := match ins with
  | .aload_n k => y_ld 1 k.val ls st
  | .iload_n k => y_ld 0 k.val ls st
  | .lload_n k => y_ld 2 k.val ls st
  | .aload i => y_ld 1 i ls st
  | .iload i => y_ld 0 i ls st
  | .lload i => y_ld 2 i ls st
  | .astore_n k => y_st 1 k.val ls st
  | .istore_n k => y_st 0 k.val ls st
  | .lstore_n k => y_st 2 k.val ls st
  | .astore i => y_st 1 i ls st
  | .istore i => y_st 0 i ls st
  | .lstore i => y_st 2 i ls st
  | .iinc i n => y_ii i n ls st
  | .iconst n => some (ls, .inl (Int32.ofInt n) :: st)
  | .bipush n => some (ls, .inl (Int8.ofInt n).toInt32 :: st)
  | .sipush n => some (ls, .inl (Int16.ofInt n).toInt32 :: st)
  | .lconst n => some (ls, .inr (.inl (Int64.ofNat n.val)) :: st)
  | .ldc _ | .ldc_w _ => (match r with
    | [v] => some (ls, .inl (Int32.ofNat v) :: st)
    | _ => none)
  | .ldc2_w _ => (match r with
    | [v] => some (ls, .inr (.inl (Int64.ofNat v)) :: st)
    | _ => none)
  | .iadd => y_2 0 ls st
  | .isub => y_2 1 ls st
  | .imul => y_2 2 ls st
  | .iand => y_2 3 ls st
  | .ior => y_2 4 ls st
  | .ixor => y_2 5 ls st
  | .ishl => y_2 6 ls st
  | .ishr => y_2 7 ls st
  | .iushr => y_2 8 ls st
  | .ineg => y_1 0 ls st
  | .i2b => y_1 1 ls st
  | .i2c => y_1 2 ls st
  | .i2l => (match st with
    | .inl y :: r => some (ls, .inr (.inl y.toInt64) :: r)
    | _ => none)
  | .ladd => y_l2 0 ls st
  | .lmul => y_l2 1 ls st
  | .lor => y_l2 2 ls st
  | .lshl => (match st with
    | .inl y :: .inr (.inl x) :: r => some (ls, .inr (.inl (x <<< (y.toInt64 &&& 63))) :: r)
    | _ => none)
  | .lcmp => (match st with
    | .inr (.inl y) :: .inr (.inl x) :: r => some (ls, .inl (lg_cmp x y) :: r)
    | _ => none)
  | .dup => (match st with
    | v :: r => bif Nat.beq (q_cat v) 1 then some (ls, v :: v :: r) else none
    | _ => none)
  | .dup2 => (match st with
    | v :: w :: r => bif Nat.beq (q_cat v) 1 && Nat.beq (q_cat w) 1 then some (ls, v :: w :: v :: w :: r) else none
    | _ => none)
  | .pop => (match st with
    | v :: r => bif Nat.beq (q_cat v) 1 then some (ls, r) else none
    | _ => none)
  | .invokestatic _ => (match r, st with
    | [1], .inl y :: .inl x :: st => bif Nat.ble (q_cats st) 8 then some (ls, .inl (if x < y then y else x) :: st) else none
    | [2], .inl y :: .inl x :: st => bif Nat.ble (q_cats st) 8 then some (ls, .inl (if y < x then y else x) :: st) else none
    | _, _ => none)
  | _ => none
/-- what a field's reading, writing, a row's length make of stack and heap -/
def y_h (sh : w_Sh) (ins : Jvm.ClassFile.Instr) (r : List Nat) (st : List (q_V Int32)) (s : y_H) : Option (List (q_V Int32) × y_H) := match ins with
  | .getfield _ => (match r, st with
    | ci :: k :: _, .inr (.inr n) :: st => (match y_ref sh n with
      | some (o, tag, sz) => bif Nat.beq tag ci && (Nat.blt tag 100 && Nat.blt k sz) then some (y_v (y_kd sh o k) s o k :: st, s) else none
      | none => none)
    | _, _ => none)
  | .putfield _ => (match r, st with
    | ci :: k :: kd :: _, v :: .inr (.inr n) :: st => (match y_ref sh n with
      | some (o, tag, sz) => bif Nat.beq tag ci && (Nat.blt tag 100 && (Nat.blt k sz && (Nat.beq (y_kd sh o k) (y_vk v) && q_fit q_O32 kd v))) then some (st, y_up s o k v) else none
      | none => none)
    | _, _ => none)
  | .arraylength => (match st with
    | .inr (.inr n) :: st => (match y_ref sh n with
      | some (_, tag, sz) => bif Nat.blt 99 tag && Nat.blt tag 104 then some (.inl (Int32.ofNat sz) :: st, s) else none
      | none => none)
    | _ => none)
  | _ => none
def y_isG (ins : Jvm.ClassFile.Instr) : Bool := match ins with
  | .goto _ => true
  | _ => false
/-- which kind of step: 0 the heap, 1 a jump, 2 neither -/
def y_sort (ins : Jvm.ClassFile.Instr) : Nat := match ins with
  | .getfield _ | .putfield _ | .arraylength => 0
  | .goto _ => 1
  | _ => 2
def y_act (sh : w_Sh) (ins : Jvm.ClassFile.Instr) (len : Nat) (r : List Nat) (p : Nat) (ls : q_U Int32) (st : List (q_V Int32)) (s : y_H) : y_X := match y_sort ins with
  | 0 => (match y_h sh ins r st s with
    | some (st2, s2) => some (p + len, ls, st2, s2)
    | none => none)
  | 1 => (match r with
    | [tg] => some (tg, ls, st, s)
    | _ => none)
  | _ => (match y_n ins r ls st with
    | some (ls2, st2) => some (p + len, ls2, st2, s)
    | none => none)
def y_it (sh : w_Sh) (t : q_T) : Nat → Nat → q_U Int32 → List (q_V Int32) → y_H → y_X
  | 0, p, ls, st, s => some (p, ls, st, s)
  | n + 1, p, ls, st, s => (match q_get t p with
    | some q => (match y_act sh q.1 q.2.1 q.2.2 p ls st s with
      | some (p2, ls2, st2, s2) => y_it sh t n p2 ls2 st2 s2
      | none => none)
    | none => none)
