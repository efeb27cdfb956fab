theorem q_nx_nr {I : Type} {n : Nat} {f : q_F I} {st : List (q_V I)} {h : q_H I} {ns : Nat} {x : q_R I} : ¬ q_nx n f st h ns = some (.inr x) := fun hh => by cases hh
theorem q_jmp_nr {I : Type} {r : List Nat} {n : Nat} {t : Option Bool} {f : q_F I} {st : List (q_V I)} {h : q_H I} {ns : Nat} {x : q_R I} : ¬ q_jmp r n t f st h ns = some (.inr x) := by
  intro hh
  unfold q_jmp at hh
  split at hh <;> cases hh
/-- only the three returns end a frame -/
theorem q_noret {I : Type} {O : q_O I} {scr : Option (List I)} {cal : Nat → List (q_V I) → q_H I → Nat → Option (q_R I)} {ins : Jvm.ClassFile.Instr} {len : Nat} {r : List Nat} {f : q_F I} {h : q_H I} {ns : Nat} {x : q_R I} (h1 : ins ≠ .ireturn) (h2 : ins ≠ .lreturn) (h3 : ins ≠ .return_) : ¬ q_act O scr cal ins len r f h ns = some (.inr x) := by
  have hld : ∀ t i len, ¬ q_ld t i len f h ns = some (.inr x) := by
    intro t i len hh
    unfold q_ld at hh
    split at hh
    · next v _ => cases hb : Nat.beq (q_kind v) t <;> rw [hb] at hh <;> cases hh
    · cases hh
  have hst : ∀ t i len, ¬ q_st t i len f h ns = some (.inr x) := by
    intro t i len hh
    unfold q_st at hh
    split at hh
    · next v _ _ => cases hb : Nat.beq (q_kind v) t <;> rw [hb] at hh <;> cases hh
    · cases hh
  have hb2 : ∀ j len, ¬ q_b2 O j len f h ns = some (.inr x) := by
    intro j len hh
    unfold q_b2 at hh
    split at hh
    · split at hh <;> cases hh
    · cases hh
  have hb1 : ∀ j len, ¬ q_b1 O j len f h ns = some (.inr x) := by
    intro j len hh
    unfold q_b1 at hh
    split at hh
    · split at hh <;> cases hh
    · cases hh
  have hl2 : ∀ j len, ¬ q_l2 j len f h ns = some (.inr x) := by
    intro j len hh
    unfold q_l2 at hh
    split at hh
    · split at hh <;> cases hh
    · cases hh
  have hald : ∀ tag kd len, ¬ q_ald O scr tag kd len f h ns = some (.inr x) := by
    intro tag kd len hh
    unfold q_ald at hh
    split at hh
    · split at hh
      · next q j _ _ => cases hb : (Nat.beq q.1 tag || (Nat.beq tag 101 && Nat.beq q.1 102)) && (Nat.blt j q.2.1 && Nat.beq (q_kind (q_el O q j)) kd) <;> rw [hb] at hh <;> cases hh
      · cases hh
    · split at hh
      · split at hh
        · cases hb : Nat.beq tag 100 <;> rw [hb] at hh <;> cases hh
        · cases hh
      · cases hh
    · cases hh
  have hast : ∀ tag len, ¬ q_ast O tag len f h ns = some (.inr x) := by
    intro tag len hh
    unfold q_ast at hh
    split at hh
    · split at hh
      · next q j _ _ =>
        cases hb : (Nat.beq q.1 tag || (Nat.beq tag 101 && Nat.beq q.1 102)) && Nat.blt j q.2.1
        · rw [hb] at hh; cases hh
        · rw [hb, cond_true] at hh
          split at hh <;> cases hh
      · cases hh
    · cases hh
  have hinv : ∀ sv r, ¬ q_inv cal sv r len f h ns = some (.inr x) := by
    intro sv r hh
    unfold q_inv at hh
    split at hh
    · next k na ml y =>
      split at hh
      · next a st _ =>
        cases hb : Nat.ble (q_cats st) 8 && (Nat.ble (q_cats a) ml && q_may sv y a h)
        · rw [hb] at hh; cases hh
        · rw [hb, cond_true] at hh
          split at hh <;> cases hh
      · cases hh
    · cases hh
  intro hs
  cases ins with
  | aload_n k => exact hld _ _ _ hs
  | aload k => exact hld _ _ _ hs
  | iload_n k => exact hld _ _ _ hs
  | iload k => exact hld _ _ _ hs
  | lload_n k => exact hld _ _ _ hs
  | lload k => exact hld _ _ _ hs
  | astore_n k => exact hst _ _ _ hs
  | astore k => exact hst _ _ _ hs
  | istore_n k => exact hst _ _ _ hs
  | istore k => exact hst _ _ _ hs
  | lstore_n k => exact hst _ _ _ hs
  | lstore k => exact hst _ _ _ hs
  | iadd => exact hb2 0 _ hs
  | isub => exact hb2 1 _ hs
  | imul => exact hb2 2 _ hs
  | iand => exact hb2 3 _ hs
  | ior => exact hb2 4 _ hs
  | ixor => exact hb2 5 _ hs
  | ishl => exact hb2 6 _ hs
  | ishr => exact hb2 7 _ hs
  | iushr => exact hb2 8 _ hs
  | idiv => exact hb2 9 _ hs
  | irem => exact hb2 10 _ hs
  | ineg => exact hb1 0 _ hs
  | i2b => exact hb1 1 _ hs
  | i2c => exact hb1 2 _ hs
  | ladd => exact hl2 0 _ hs
  | lmul => exact hl2 1 _ hs
  | lor => exact hl2 2 _ hs
  | iaload => exact hald _ _ _ hs
  | baload => exact hald _ _ _ hs
  | laload => exact hald _ _ _ hs
  | iastore => exact hast _ _ hs
  | bastore => exact hast _ _ hs
  | lastore => exact hast _ _ hs
  | invokevirtual i => exact hinv _ _ hs
  | iinc i n =>
    replace hs : q_iinc O i n len f h ns = some (.inr x) := hs
    unfold q_iinc at hs
    split at hs
    · split at hs <;> cases hs
    · cases hs
  | ldc i =>
    rcases r with _ | ⟨tg, _ | _⟩
    · cases hs
    · cases hs
    · cases hs
  | ldc_w i =>
    rcases r with _ | ⟨tg, _ | _⟩
    · cases hs
    · cases hs
    · cases hs
  | ldc2_w i =>
    rcases r with _ | ⟨tg, _ | _⟩
    · cases hs
    · cases hs
    · cases hs
  | i2l =>
    replace hs : q_i2l O len f h ns = some (.inr x) := hs
    unfold q_i2l at hs
    split at hs
    · split at hs <;> cases hs
    · cases hs
  | lshl =>
    replace hs : q_lshl O len f h ns = some (.inr x) := hs
    unfold q_lshl at hs
    split at hs
    · split at hs <;> cases hs
    · cases hs
  | lcmp =>
    replace hs : q_lcmp O len f h ns = some (.inr x) := hs
    unfold q_lcmp at hs
    split at hs <;> cases hs
  | dup =>
    replace hs : q_dup len f h ns = some (.inr x) := hs
    unfold q_dup at hs
    split at hs
    · next v _ _ => cases hb : Nat.beq (q_cat v) 1 <;> rw [hb] at hs <;> cases hs
    · cases hs
  | pop =>
    replace hs : q_pop len f h ns = some (.inr x) := hs
    unfold q_pop at hs
    split at hs
    · next v _ _ => cases hb : Nat.beq (q_cat v) 1 <;> rw [hb] at hs <;> cases hs
    · cases hs
  | dup2 =>
    replace hs : q_dup2 len f h ns = some (.inr x) := hs
    unfold q_dup2 at hs
    split at hs
    · next v w _ _ => cases hb : Nat.beq (q_cat v) 1 && Nat.beq (q_cat w) 1 <;> rw [hb] at hs <;> cases hs
    · cases hs
  | ifCond cd off =>
    replace hs : q_if O (q_cn cd) r len f h ns = some (.inr x) := hs
    unfold q_if at hs
    split at hs
    · exact q_jmp_nr hs
    · cases hs
  | if_icmp cd off =>
    replace hs : q_ic O (q_cn cd) r len f h ns = some (.inr x) := hs
    unfold q_ic at hs
    split at hs
    · exact q_jmp_nr hs
    · cases hs
  | goto off =>
    rcases r with _ | ⟨tg, _ | _⟩
    · cases hs
    · cases hs
    · cases hs
  | tableswitch dflt lo hi offs =>
    replace hs : q_tsw O lo hi r f h ns = some (.inr x) := hs
    unfold q_tsw at hs
    split at hs
    · split at hs <;> cases hs
    · cases hs
  | lookupswitch d ps =>
    replace hs : q_lsw O d ps.toList f h ns = some (.inr x) := hs
    unfold q_lsw at hs
    split at hs
    · split at hs
      · split at hs <;> cases hs
      · cases hs
    · cases hs
  | getfield i =>
    replace hs : q_getf r len f h ns = some (.inr x) := hs
    unfold q_getf at hs
    split at hs
    · next ci k _ _ _ _ =>
      split at hs
      · next q _ =>
        cases hb : Nat.beq q.1 ci && Nat.blt k q.2.1
        · rw [hb] at hs; cases hs
        · rw [hb, cond_true] at hs
          split at hs <;> cases hs
      · cases hs
    · cases hs
  | putfield i =>
    replace hs : q_putf O r len f h ns = some (.inr x) := hs
    unfold q_putf at hs
    split at hs
    · next ci k kd _ v _ _ _ =>
      split at hs
      · next q _ => cases hb : Nat.beq q.1 ci && (Nat.blt k q.2.1 && q_fit O kd v) <;> rw [hb] at hs <;> cases hs
      · cases hs
    · cases hs
  | arraylength =>
    replace hs : q_alen O scr len f h ns = some (.inr x) := hs
    unfold q_alen at hs
    split at hs
    · split at hs
      · next q _ => cases hb : Nat.blt 99 q.1 && Nat.blt q.1 104 <;> rw [hb] at hs <;> cases hs
      · cases hs
    · split at hs <;> cases hs
    · cases hs
  | new i =>
    replace hs : q_new O r len f h ns = some (.inr x) := hs
    unfold q_new at hs
    split at hs <;> cases hs
  | newarray a =>
    replace hs : q_newa O r len f h ns = some (.inr x) := hs
    unfold q_newa at hs
    split at hs
    · split at hs
      · next N _ => cases hb : Nat.blt N 65536 <;> rw [hb] at hs <;> cases hs
      · cases hs
    · cases hs
  | invokestatic i =>
    rcases r with _ | ⟨k, r⟩
    · replace hs : q_acpy O len f h ns = some (.inr x) := hs
      unfold q_acpy at hs
      split at hs
      · next st _ =>
        split at hs
        · next qs qd n dp sp _ _ _ _ _ => cases hb : Nat.beq qs.1 100 && (Nat.beq qd.1 100 && (Nat.ble (sp + n) qs.2.1 && (Nat.ble (dp + n) qd.2.1 && Nat.ble (q_cats st) 8))) <;> rw [hb] at hs <;> cases hs
        · cases hs
      · cases hs
    rcases r with _ | ⟨k2, r⟩
    · have hmm : ∀ j, ¬ q_mm O j len f h ns = some (.inr x) := by
        intro j hs
        unfold q_mm at hs
        split at hs
        · next y z st _ =>
          cases hb : Nat.ble (q_cats st) 8
          · rw [hb] at hs
            cases hs
          · rw [hb, cond_true] at hs
            split at hs
            · cases hs
            · cases hs
        · cases hs
      rcases k with _ | _ | k
      · replace hs : q_abs O len f h ns = some (.inr x) := hs
        unfold q_abs at hs
        split at hs
        · next y st _ =>
          cases hb : Nat.ble (q_cats st) 8
          · rw [hb] at hs
            cases hs
          · rw [hb, cond_true] at hs
            split at hs
            · cases hs
            · cases hs
        · cases hs
      · exact hmm 11 hs
      · exact hmm 12 hs
    · exact hinv _ _ hs
  | invokespecial i =>
    rcases r with _ | ⟨k, r⟩
    · replace hs : q_obj len f h ns = some (.inr x) := hs
      unfold q_obj at hs
      split at hs
      · next st _ => cases hb : Nat.ble (q_cats st) 8 <;> rw [hb] at hs <;> cases hs
      · cases hs
    · exact hinv _ _ hs
  | ireturn => exact h1 rfl
  | lreturn => exact h2 rfl
  | return_ => exact h3 rfl
  | getstatic i =>
    obtain ⟨z, hz⟩ := q_mac_spec (show q_mac O len r f h ns = some (.inr x) from hs)
    cases hz
  | _ => cases hs
