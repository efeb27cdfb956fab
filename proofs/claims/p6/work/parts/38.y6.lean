/-! more locals do no harm: a loop is shown for the locals that matter, in any order -/
def y_isL (i : Jvm.ClassFile.Instr) : Bool := match i with
  | .aload_n _ | .iload_n _ | .lload_n _ | .aload _ | .iload _ | .lload _ | .astore_n _ | .istore_n _ | .lstore_n _ | .astore _ | .istore _ | .lstore _ | .iinc _ _ | .getstatic _ => true
  | _ => false
def y_m (ls2 : q_U Int32) (X : q_X Int32) : q_X Int32 := match X with
  | some (.inl (f, h, n)) => some (.inl ((f.1, ls2, f.2.2), h, n))
  | some (.inr q) => some (.inr q)
  | none => none
section NL
variable {cal : Nat → List (q_V Int32) → q_H Int32 → Nat → Option (q_R Int32)} {j len p : Nat} {r : List Nat} {ls ls2 : q_U Int32} {st : List (q_V Int32)} {h : q_H Int32} {ns : Nat}
theorem y_cond {α : Type} {f : α → α} {c : Bool} {x : α} {z : α} (hz : f z = z) : f (bif c then x else z) = bif c then f x else z := by
  cases c
  · exact hz
  · rfl
theorem y_nl_b2 : q_b2 q_O32 j len (p, ls2, st) h ns = y_m ls2 (q_b2 q_O32 j len (p, ls, st) h ns) := by
  unfold q_b2
  dsimp only
  repeat' (first | rfl | split)
theorem y_nl_b1 : q_b1 q_O32 j len (p, ls2, st) h ns = y_m ls2 (q_b1 q_O32 j len (p, ls, st) h ns) := by
  unfold q_b1
  dsimp only
  repeat' (first | rfl | split)
theorem y_nl_l2 : q_l2 j len (p, ls2, st) h ns = y_m ls2 (q_l2 j len (p, ls, st) h ns) := by
  unfold q_l2
  dsimp only
  repeat' (first | rfl | split)
theorem y_nl_lsh : q_lshl q_O32 len (p, ls2, st) h ns = y_m ls2 (q_lshl q_O32 len (p, ls, st) h ns) := by
  unfold q_lshl
  dsimp only
  repeat' (first | rfl | split)
theorem y_nl_i2l : q_i2l q_O32 len (p, ls2, st) h ns = y_m ls2 (q_i2l q_O32 len (p, ls, st) h ns) := by
  unfold q_i2l
  dsimp only
  repeat' (first | rfl | split)
theorem y_nl_lcm : q_lcmp q_O32 len (p, ls2, st) h ns = y_m ls2 (q_lcmp q_O32 len (p, ls, st) h ns) := by
  unfold q_lcmp
  dsimp only
  repeat' (first | rfl | split)
theorem y_nl_dup : q_dup len (p, ls2, st) h ns = y_m ls2 (q_dup len (p, ls, st) h ns) := by
  unfold q_dup
  dsimp only
  split
  · rw [y_cond (f := y_m ls2) rfl]
    rfl
  · rfl
theorem y_nl_pop : q_pop len (p, ls2, st) h ns = y_m ls2 (q_pop len (p, ls, st) h ns) := by
  unfold q_pop
  dsimp only
  split
  · rw [y_cond (f := y_m ls2) rfl]
    rfl
  · rfl
theorem y_nl_dup2 : q_dup2 len (p, ls2, st) h ns = y_m ls2 (q_dup2 len (p, ls, st) h ns) := by
  unfold q_dup2
  dsimp only
  split
  · rw [y_cond (f := y_m ls2) rfl]
    rfl
  · rfl
theorem y_nl_jmp {t : Option Bool} {st2 : List (q_V Int32)} : q_jmp r len t (p, ls2, st) st2 h ns = y_m ls2 (q_jmp r len t (p, ls, st) st2 h ns) := by
  unfold q_jmp
  dsimp only
  repeat' (first | rfl | split)
theorem y_nl_if : q_if q_O32 j r len (p, ls2, st) h ns = y_m ls2 (q_if q_O32 j r len (p, ls, st) h ns) := by
  unfold q_if
  dsimp only
  split
  · exact y_nl_jmp
  · rfl
theorem y_nl_ic : q_ic q_O32 j r len (p, ls2, st) h ns = y_m ls2 (q_ic q_O32 j r len (p, ls, st) h ns) := by
  unfold q_ic
  dsimp only
  split
  · exact y_nl_jmp
  · rfl
theorem y_nl_tsw {lo hi : Int} : q_tsw q_O32 lo hi r (p, ls2, st) h ns = y_m ls2 (q_tsw q_O32 lo hi r (p, ls, st) h ns) := by
  unfold q_tsw
  dsimp only
  split
  · repeat' (first | rfl | split)
  · rfl
theorem y_nl_lsw {a : Int} {ps : List (Int × Int)} : q_lsw q_O32 a ps (p, ls2, st) h ns = y_m ls2 (q_lsw q_O32 a ps (p, ls, st) h ns) := by
  unfold q_lsw
  dsimp only
  repeat' (first | rfl | split)
theorem y_nl_get : q_getf r len (p, ls2, st) h ns = y_m ls2 (q_getf r len (p, ls, st) h ns) := by
  unfold q_getf
  dsimp only
  split
  · split
    · rw [y_cond (f := y_m ls2) rfl]
      congr 1
      all_goals (split <;> rfl)
    · rfl
  · rfl
theorem y_nl_put : q_putf q_O32 r len (p, ls2, st) h ns = y_m ls2 (q_putf q_O32 r len (p, ls, st) h ns) := by
  unfold q_putf
  dsimp only
  split
  · split
    · rw [y_cond (f := y_m ls2) rfl]
      rfl
    · rfl
  · rfl
theorem y_nl_ald {tag kd : Nat} : q_ald q_O32 none tag kd len (p, ls2, st) h ns = y_m ls2 (q_ald q_O32 none tag kd len (p, ls, st) h ns) := by
  unfold q_ald
  dsimp only
  split
  · split
    · rw [y_cond (f := y_m ls2) rfl]
      rfl
    · rfl
  · rfl
  · rfl
theorem y_nl_ast {tag : Nat} : q_ast q_O32 tag len (p, ls2, st) h ns = y_m ls2 (q_ast q_O32 tag len (p, ls, st) h ns) := by
  unfold q_ast
  dsimp only
  split
  · split
    · rw [y_cond (f := y_m ls2) rfl]
      congr 1
      all_goals (split <;> rfl)
    · rfl
  · rfl
theorem y_nl_aln : q_alen q_O32 none len (p, ls2, st) h ns = y_m ls2 (q_alen q_O32 none len (p, ls, st) h ns) := by
  unfold q_alen
  dsimp only
  split
  · split
    · rw [y_cond (f := y_m ls2) rfl]
      rfl
    · rfl
  · rfl
  · rfl
theorem y_nl_new : q_new q_O32 r len (p, ls2, st) h ns = y_m ls2 (q_new q_O32 r len (p, ls, st) h ns) := by
  unfold q_new
  dsimp only
  repeat' (first | rfl | split)
theorem y_nl_newa : q_newa q_O32 r len (p, ls2, st) h ns = y_m ls2 (q_newa q_O32 r len (p, ls, st) h ns) := by
  unfold q_newa
  dsimp only
  split
  · split
    · rw [y_cond (f := y_m ls2) rfl]
      rfl
    · rfl
  · rfl
theorem y_nl_cpy : q_acpy q_O32 len (p, ls2, st) h ns = y_m ls2 (q_acpy q_O32 len (p, ls, st) h ns) := by
  unfold q_acpy
  dsimp only
  split
  · split
    · rw [y_cond (f := y_m ls2) rfl]
      rfl
    · rfl
  · rfl
theorem y_nl_inv {sv : Nat} : q_inv cal sv r len (p, ls2, st) h ns = y_m ls2 (q_inv cal sv r len (p, ls, st) h ns) := by
  unfold q_inv
  dsimp only
  split
  · split
    · rw [y_cond (f := y_m ls2) rfl]
      congr 1
      all_goals (split <;> rfl)
    · rfl
  · rfl
theorem y_nl_mm : q_mm q_O32 j len (p, ls2, st) h ns = y_m ls2 (q_mm q_O32 j len (p, ls, st) h ns) := by
  unfold q_mm
  dsimp only
  split
  · rw [y_cond (f := y_m ls2) rfl]
    congr 1
    all_goals (split <;> rfl)
  · rfl
theorem y_nl_abs : q_abs q_O32 len (p, ls2, st) h ns = y_m ls2 (q_abs q_O32 len (p, ls, st) h ns) := by
  unfold q_abs
  dsimp only
  split
  · rw [y_cond (f := y_m ls2) rfl]
    congr 1
    all_goals (split <;> rfl)
  · rfl
theorem y_nl_math {v : Nat} : q_math q_O32 v len (p, ls2, st) h ns = y_m ls2 (q_math q_O32 v len (p, ls, st) h ns) := by
  rcases v with _ | _ | v
  · exact y_nl_abs
  · exact y_nl_mm (j := 11)
  · exact y_nl_mm (j := 12)
theorem y_nl_obj : q_obj len (p, ls2, st) h ns = y_m ls2 (q_obj len (p, ls, st) h ns) := by
  unfold q_obj
  dsimp only
  split
  · rw [y_cond (f := y_m ls2) rfl]
    rfl
  · rfl
theorem y_nl_iret : q_iret q_O32 r (p, ls2, st) h ns = y_m ls2 (q_iret q_O32 r (p, ls, st) h ns) := by
  unfold q_iret
  dsimp only
  split
  · rw [y_cond (f := y_m ls2) rfl]
    rfl
  · rfl
theorem y_nl_lret : q_lret (p, ls2, st) h ns = y_m ls2 (q_lret (p, ls, st) h ns) := by
  unfold q_lret
  dsimp only
  repeat' (first | rfl | split)
theorem y_nl_ret : q_ret (p, ls2, st) h ns = y_m ls2 (q_ret (p, ls, st) h ns) := by
  unfold q_ret
  dsimp only
  repeat' (first | rfl | split)
end NL
theorem y_noloc {cal : Nat → List (q_V Int32) → q_H Int32 → Nat → Option (q_R Int32)} {i : Jvm.ClassFile.Instr} {len : Nat} {r : List Nat} {p : Nat} {ls ls2 : q_U Int32} {st : List (q_V Int32)} {h : q_H Int32} {ns : Nat} (hn : y_isL i = false) : q_act q_O32 none cal i len r (p, ls2, st) h ns = y_m ls2 (q_act q_O32 none cal i len r (p, ls, st) h ns) := by
  cases i with
  | aload_n k => cases hn
  | iload_n k => cases hn
  | lload_n k => cases hn
  | aload k => cases hn
  | iload k => cases hn
  | lload k => cases hn
  | astore_n k => cases hn
  | istore_n k => cases hn
  | lstore_n k => cases hn
  | astore k => cases hn
  | istore k => cases hn
  | lstore k => cases hn
  | iinc k n => cases hn
  | getstatic k => cases hn
  | iconst n => rfl
  | bipush n => rfl
  | sipush n => rfl
  | lconst n => rfl
  | ldc k => rcases r with _ | ⟨v, _ | ⟨w, r⟩⟩ <;> rfl
  | ldc_w k => rcases r with _ | ⟨v, _ | ⟨w, r⟩⟩ <;> rfl
  | ldc2_w k => rcases r with _ | ⟨v, _ | ⟨w, r⟩⟩ <;> rfl
  | iadd => exact y_nl_b2 (j := 0)
  | isub => exact y_nl_b2 (j := 1)
  | imul => exact y_nl_b2 (j := 2)
  | iand => exact y_nl_b2 (j := 3)
  | ior => exact y_nl_b2 (j := 4)
  | ixor => exact y_nl_b2 (j := 5)
  | ishl => exact y_nl_b2 (j := 6)
  | ishr => exact y_nl_b2 (j := 7)
  | iushr => exact y_nl_b2 (j := 8)
  | idiv => exact y_nl_b2 (j := 9)
  | irem => exact y_nl_b2 (j := 10)
  | ineg => exact y_nl_b1 (j := 0)
  | i2b => exact y_nl_b1 (j := 1)
  | i2c => exact y_nl_b1 (j := 2)
  | i2l => exact y_nl_i2l
  | ladd => exact y_nl_l2 (j := 0)
  | lmul => exact y_nl_l2 (j := 1)
  | lor => exact y_nl_l2 (j := 2)
  | lshl => exact y_nl_lsh
  | lcmp => exact y_nl_lcm
  | dup => exact y_nl_dup
  | dup2 => exact y_nl_dup2
  | pop => exact y_nl_pop
  | ifCond cd k => exact y_nl_if
  | if_icmp cd k => exact y_nl_ic
  | goto k => rcases r with _ | ⟨v, _ | ⟨w, r⟩⟩ <;> rfl
  | tableswitch a lo hi l => exact y_nl_tsw
  | lookupswitch a l => exact y_nl_lsw
  | getfield k => exact y_nl_get
  | putfield k => exact y_nl_put
  | iaload => exact y_nl_ald
  | baload => exact y_nl_ald
  | laload => exact y_nl_ald
  | iastore => exact y_nl_ast
  | bastore => exact y_nl_ast
  | lastore => exact y_nl_ast
  | arraylength => exact y_nl_aln
  | new k => exact y_nl_new
  | newarray k => exact y_nl_newa
  | invokevirtual k => exact y_nl_inv
  | invokestatic k =>
    rcases r with _ | ⟨v, _ | ⟨w, r⟩⟩
    · exact y_nl_cpy
    · exact y_nl_math
    · exact y_nl_inv
  | invokespecial k =>
    rcases r with _ | ⟨v, r⟩
    · exact y_nl_obj
    · exact y_nl_inv
  | ireturn => exact y_nl_iret
  | lreturn => exact y_nl_lret
  | return_ => exact y_nl_ret
  | _ => rfl
