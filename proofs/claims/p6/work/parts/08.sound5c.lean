theorem q_act_ret_same {I : Type} {O : q_O I} {scr : Option (List I)} {cal : Nat → List (q_V I) → q_H I → Nat → Option (q_R I)} {ins : Jvm.ClassFile.Instr} {len : Nat} {r : List Nat} {f : q_F I} {h : q_H I} {ns : Nat} {v : Option (q_V I)} {h' : q_H I} {ns' : Nat} (hs : q_act O scr cal ins len r f h ns = some (.inr (v, h', ns'))) : h' = h ∧ ns' = ns := by
  by_cases h1 : ins = .ireturn
  · subst h1
    replace hs : q_iret O r f h ns = some (.inr (v, h', ns')) := hs
    simp only [q_iret, cond_eq_ite] at hs
    repeat' split at hs
    all_goals cases hs
    exact ⟨rfl, rfl⟩
  · by_cases h2 : ins = .lreturn
    · subst h2
      replace hs : q_lret f h ns = some (.inr (v, h', ns')) := hs
      simp only [q_lret] at hs
      repeat' split at hs
      all_goals cases hs
      exact ⟨rfl, rfl⟩
    · by_cases h3 : ins = .return_
      · subst h3
        replace hs : q_ret f h ns = some (.inr (v, h', ns')) := hs
        simp only [q_ret] at hs
        repeat' split at hs
        all_goals cases hs
        exact ⟨rfl, rfl⟩
      · exact absurd hs (q_noret h1 h2 h3)
theorem q_act_len {I : Type} {O : q_O I} {scr : Option (List I)} {cal : Nat → List (q_V I) → q_H I → Nat → Option (q_R I)} (hcal : ∀ k a h ns v h' ns', cal k a h ns = some (v, h', ns') → h.length ≤ h'.length ∧ ns ≤ ns') {ins : Jvm.ClassFile.Instr} {len : Nat} {r : List Nat} {f f' : q_F I} {h h' : q_H I} {ns ns' : Nat} (hs : q_act O scr cal ins len r f h ns = some (.inl (f', h', ns'))) : h.length ≤ h'.length ∧ ns ≤ ns' := by
  have hnx : ∀ {n : Nat} {st : List (q_V I)}, q_nx n f st h ns = some (.inl (f', h', ns')) → h.length ≤ h'.length ∧ ns ≤ ns' := fun hh => by cases hh; exact ⟨Nat.le_refl _, Nat.le_refl _⟩
  have hld : ∀ t i len, q_ld t i len f h ns = some (.inl (f', h', ns')) → h.length ≤ h'.length ∧ ns ≤ ns' := by
    intro t i len hs
    simp only [q_ld, q_nx, cond_eq_ite] at hs
    repeat' split at hs
    all_goals cases hs
    all_goals exact ⟨Nat.le_refl _, Nat.le_refl _⟩
  have hst : ∀ t i len, q_st t i len f h ns = some (.inl (f', h', ns')) → h.length ≤ h'.length ∧ ns ≤ ns' := by
    intro t i len hs
    simp only [q_st, q_nx] at hs
    split at hs
    · next v _ _ =>
      cases hb : Nat.beq (q_kind v) t <;> rw [hb] at hs <;> cases hs
      exact ⟨Nat.le_refl _, Nat.le_refl _⟩
    · cases hs
  have hb2 : ∀ j len, q_b2 O j len f h ns = some (.inl (f', h', ns')) → h.length ≤ h'.length ∧ ns ≤ ns' := by
    intro j len hs
    simp only [q_b2, q_nx] at hs
    repeat' split at hs
    all_goals cases hs
    all_goals exact ⟨Nat.le_refl _, Nat.le_refl _⟩
  have hb1 : ∀ j len, q_b1 O j len f h ns = some (.inl (f', h', ns')) → h.length ≤ h'.length ∧ ns ≤ ns' := by
    intro j len hs
    simp only [q_b1, q_nx] at hs
    repeat' split at hs
    all_goals cases hs
    all_goals exact ⟨Nat.le_refl _, Nat.le_refl _⟩
  have hl2 : ∀ j len, q_l2 j len f h ns = some (.inl (f', h', ns')) → h.length ≤ h'.length ∧ ns ≤ ns' := by
    intro j len hs
    simp only [q_l2, q_nx] at hs
    repeat' split at hs
    all_goals cases hs
    all_goals exact ⟨Nat.le_refl _, Nat.le_refl _⟩
  have hjmp : ∀ {r len t st}, q_jmp r len t f st h ns = some (.inl (f', h', ns')) → h.length ≤ h'.length ∧ ns ≤ ns' := by
    intro r len t st hs
    simp only [q_jmp, q_nx] at hs
    repeat' split at hs
    all_goals cases hs
    all_goals exact ⟨Nat.le_refl _, Nat.le_refl _⟩
  have hald : ∀ tag kd len, q_ald O scr tag kd len f h ns = some (.inl (f', h', ns')) → h.length ≤ h'.length ∧ ns ≤ ns' := by
    intro tag kd len hs
    simp only [q_ald, q_nx, cond_eq_ite] at hs
    repeat' split at hs
    all_goals cases hs
    all_goals exact ⟨Nat.le_refl _, Nat.le_refl _⟩
  have hast : ∀ tag len, q_ast O tag len f h ns = some (.inl (f', h', ns')) → h.length ≤ h'.length ∧ ns ≤ ns' := by
    intro tag len hs
    simp only [q_ast, q_nx, cond_eq_ite] at hs
    repeat' split at hs
    all_goals cases hs
    all_goals exact ⟨by rw [List.length_set]; exact Nat.le_refl _, Nat.le_refl _⟩
  have hinv : ∀ sv r, q_inv cal sv r len f h ns = some (.inl (f', h', ns')) → h.length ≤ h'.length ∧ ns ≤ ns' := by
    intro sv r hs
    simp only [q_inv, q_nx, cond_eq_ite] at hs
    split at hs
    · split at hs
      · split at hs
        · split at hs
          · next v h2 ns2 hc =>
            cases hs
            exact hcal _ _ _ _ _ _ _ hc
          · cases hs
        · cases hs
      · cases hs
    · cases hs
  cases ins with
  | aload_n k => exact hld _ _ _ hs
  | aload k => exact hld _ _ _ hs
  | iload_n k => exact hld _ _ _ hs
  | iload k => exact hld _ _ _ hs
  | lload_n k => exact hld _ _ _ hs
  | lload k => exact hld _ _ _ hs
  | astore_n k => exact hst _ _ _ hs
  | astore k => exact hst _ _ _ hs
  | istore_n k => exact hst _ _ _ hs
  | istore k => exact hst _ _ _ hs
  | lstore_n k => exact hst _ _ _ hs
  | lstore k => exact hst _ _ _ hs
  | iconst n => exact hnx hs
  | bipush n => exact hnx hs
  | sipush n => exact hnx hs
  | lconst n => exact hnx hs
  | iadd => exact hb2 0 _ hs
  | isub => exact hb2 1 _ hs
  | imul => exact hb2 2 _ hs
  | iand => exact hb2 3 _ hs
  | ior => exact hb2 4 _ hs
  | ixor => exact hb2 5 _ hs
  | ishl => exact hb2 6 _ hs
  | ishr => exact hb2 7 _ hs
  | iushr => exact hb2 8 _ hs
  | idiv => exact hb2 9 _ hs
  | irem => exact hb2 10 _ hs
  | ineg => exact hb1 0 _ hs
  | i2b => exact hb1 1 _ hs
  | i2c => exact hb1 2 _ hs
  | ladd => exact hl2 0 _ hs
  | lmul => exact hl2 1 _ hs
  | lor => exact hl2 2 _ hs
  | iaload => exact hald _ _ _ hs
  | baload => exact hald _ _ _ hs
  | laload => exact hald _ _ _ hs
  | iastore => exact hast _ _ hs
  | bastore => exact hast _ _ hs
  | lastore => exact hast _ _ hs
  | invokevirtual i => exact hinv _ _ hs
  | iinc i n =>
    replace hs : q_iinc O i n len f h ns = some (.inl (f', h', ns')) := hs
    simp only [q_iinc] at hs
    repeat' split at hs
    all_goals cases hs
    all_goals exact ⟨Nat.le_refl _, Nat.le_refl _⟩
  | ldc i =>
    rcases r with _ | ⟨tg, _ | _⟩
    · cases hs
    · exact hnx hs
    · cases hs
  | ldc_w i =>
    rcases r with _ | ⟨tg, _ | _⟩
    · cases hs
    · exact hnx hs
    · cases hs
  | ldc2_w i =>
    rcases r with _ | ⟨tg, _ | _⟩
    · cases hs
    · exact hnx hs
    · cases hs
  | i2l =>
    replace hs : q_i2l O len f h ns = some (.inl (f', h', ns')) := hs
    simp only [q_i2l, q_nx] at hs
    repeat' split at hs
    all_goals cases hs
    all_goals exact ⟨Nat.le_refl _, Nat.le_refl _⟩
  | lshl =>
    replace hs : q_lshl O len f h ns = some (.inl (f', h', ns')) := hs
    simp only [q_lshl, q_nx] at hs
    repeat' split at hs
    all_goals cases hs
    all_goals exact ⟨Nat.le_refl _, Nat.le_refl _⟩
  | lcmp =>
    replace hs : q_lcmp O len f h ns = some (.inl (f', h', ns')) := hs
    simp only [q_lcmp, q_nx] at hs
    repeat' split at hs
    all_goals cases hs
    all_goals exact ⟨Nat.le_refl _, Nat.le_refl _⟩
  | dup =>
    replace hs : q_dup len f h ns = some (.inl (f', h', ns')) := hs
    simp only [q_dup, q_nx, cond_eq_ite] at hs
    repeat' split at hs
    all_goals cases hs
    all_goals exact ⟨Nat.le_refl _, Nat.le_refl _⟩
  | pop =>
    replace hs : q_pop len f h ns = some (.inl (f', h', ns')) := hs
    simp only [q_pop, q_nx, cond_eq_ite] at hs
    repeat' split at hs
    all_goals cases hs
    all_goals exact ⟨Nat.le_refl _, Nat.le_refl _⟩
  | dup2 =>
    replace hs : q_dup2 len f h ns = some (.inl (f', h', ns')) := hs
    simp only [q_dup2, q_nx, cond_eq_ite] at hs
    repeat' split at hs
    all_goals cases hs
    all_goals exact ⟨Nat.le_refl _, Nat.le_refl _⟩
  | ifCond cd off =>
    replace hs : q_if O (q_cn cd) r len f h ns = some (.inl (f', h', ns')) := hs
    unfold q_if at hs
    split at hs
    · exact hjmp hs
    · cases hs
  | if_icmp cd off =>
    replace hs : q_ic O (q_cn cd) r len f h ns = some (.inl (f', h', ns')) := hs
    unfold q_ic at hs
    split at hs
    · exact hjmp hs
    · cases hs
  | goto off =>
    rcases r with _ | ⟨tg, _ | _⟩
    · cases hs
    · cases hs; exact ⟨Nat.le_refl _, Nat.le_refl _⟩
    · cases hs
  | tableswitch dflt lo hi offs =>
    replace hs : q_tsw O lo hi r f h ns = some (.inl (f', h', ns')) := hs
    unfold q_tsw at hs
    split at hs
    · split at hs
      · cases hs; exact ⟨Nat.le_refl _, Nat.le_refl _⟩
      · cases hs
    · cases hs
  | lookupswitch d ps =>
    replace hs : q_lsw O d ps.toList f h ns = some (.inl (f', h', ns')) := hs
    unfold q_lsw at hs
    split at hs
    · split at hs
      · split at hs
        · cases hs; exact ⟨Nat.le_refl _, Nat.le_refl _⟩
        · cases hs
      · cases hs
    · cases hs
  | getfield i =>
    replace hs : q_getf r len f h ns = some (.inl (f', h', ns')) := hs
    simp only [q_getf, q_nx, cond_eq_ite] at hs
    repeat' split at hs
    all_goals cases hs
    all_goals exact ⟨Nat.le_refl _, Nat.le_refl _⟩
  | putfield i =>
    replace hs : q_putf O r len f h ns = some (.inl (f', h', ns')) := hs
    simp only [q_putf, q_nx, cond_eq_ite] at hs
    repeat' split at hs
    all_goals cases hs
    all_goals exact ⟨by rw [List.length_set]; exact Nat.le_refl _, Nat.le_refl _⟩
  | arraylength =>
    replace hs : q_alen O scr len f h ns = some (.inl (f', h', ns')) := hs
    simp only [q_alen, q_nx, cond_eq_ite] at hs
    repeat' split at hs
    all_goals cases hs
    all_goals exact ⟨Nat.le_refl _, Nat.le_refl _⟩
  | new i =>
    replace hs : q_new O r len f h ns = some (.inl (f', h', ns')) := hs
    simp only [q_new, q_nx] at hs
    split at hs
    · cases hs; exact ⟨by simp, by omega⟩
    · cases hs
  | newarray a =>
    replace hs : q_newa O r len f h ns = some (.inl (f', h', ns')) := hs
    simp only [q_newa, q_nx, cond_eq_ite] at hs
    repeat' split at hs
    all_goals cases hs
    all_goals exact ⟨by simp, by omega⟩
  | invokestatic i =>
    rcases r with _ | ⟨k, r⟩
    · replace hs : q_acpy O len f h ns = some (.inl (f', h', ns')) := hs
      simp only [q_acpy, q_nx, cond_eq_ite] at hs
      repeat' split at hs
      all_goals cases hs
      all_goals exact ⟨by rw [List.length_set]; exact Nat.le_refl _, Nat.le_refl _⟩
    rcases r with _ | ⟨k2, r⟩
    · rcases k with _ | _ | k
      · replace hs : q_abs O len f h ns = some (.inl (f', h', ns')) := hs
        simp only [q_abs, q_nx, cond_eq_ite] at hs
        repeat' split at hs
        all_goals cases hs
        all_goals exact ⟨Nat.le_refl _, Nat.le_refl _⟩
      · replace hs : q_mm O 11 len f h ns = some (.inl (f', h', ns')) := hs
        simp only [q_mm, q_nx, cond_eq_ite] at hs
        repeat' split at hs
        all_goals cases hs
        all_goals exact ⟨Nat.le_refl _, Nat.le_refl _⟩
      · replace hs : q_mm O 12 len f h ns = some (.inl (f', h', ns')) := hs
        simp only [q_mm, q_nx, cond_eq_ite] at hs
        repeat' split at hs
        all_goals cases hs
        all_goals exact ⟨Nat.le_refl _, Nat.le_refl _⟩
    · exact hinv _ _ hs
  | invokespecial i =>
    rcases r with _ | ⟨k, r⟩
    · replace hs : q_obj len f h ns = some (.inl (f', h', ns')) := hs
      simp only [q_obj, q_nx, cond_eq_ite] at hs
      repeat' split at hs
      all_goals cases hs
      all_goals exact ⟨Nat.le_refl _, Nat.le_refl _⟩
    · exact hinv _ _ hs
  | ireturn =>
    replace hs : q_iret O r f h ns = some (.inl (f', h', ns')) := hs
    simp only [q_iret, cond_eq_ite] at hs
    repeat' split at hs
    all_goals cases hs
  | lreturn =>
    replace hs : q_lret f h ns = some (.inl (f', h', ns')) := hs
    simp only [q_lret] at hs
    repeat' split at hs
    all_goals cases hs
  | return_ =>
    replace hs : q_ret f h ns = some (.inl (f', h', ns')) := hs
    simp only [q_ret] at hs
    repeat' split at hs
    all_goals cases hs
  | getstatic i =>
    obtain ⟨z, hz⟩ := q_mac_spec (show q_mac O len r f h ns = some (.inl (f', h', ns')) from hs)
    cases hz
    exact ⟨Nat.le_refl _, Nat.le_refl _⟩
  | _ => cases hs
