/-! the machine's steps behind it -/
theorem y_ref_ok {sh : w_Sh} {h : q_H Int32} {σ : w_G} (hR : w_Rep sh h σ) {n o tag sz : Nat} (hc : y_ref sh n = some (o, tag, sz)) : n = o + 2 ∧ ∃ u, h[o]? = some (tag, sz, u) := by
  unfold y_ref at hc
  split at hc
  next o2 =>
    split at hc
    next q hq =>
      cases hc
      refine ⟨rfl, ?_⟩
      have h1 := hR.1 o
      rw [hq] at h1
      cases hh : h[o]? with
      | none => rw [hh] at h1; cases h1
      | some z =>
        rw [hh] at h1
        obtain ⟨t1, s1, u1⟩ := z
        simp at h1
        exact ⟨u1, by rw [h1.1, h1.2]⟩
    next => cases hc
  next => cases hc
/-- the heap and the room don't matter to these -/
theorem y_free {cal cal2 : Nat → List (q_V Int32) → q_H Int32 → Nat → Option (q_R Int32)} {i : Jvm.ClassFile.Instr} {len : Nat} {r : List Nat} {f f2 : q_F Int32} {h1 : q_H Int32} {n1 : Nat} (hn : y_isH i = false) (hs : q_act q_O32 none cal i len r f [] 0 = some (.inl (f2, h1, n1))) (h : q_H Int32) (ns : Nat) : q_act q_O32 none cal2 i len r f h ns = some (.inl (f2, h, ns)) := by
  have ld : ∀ t k, q_ld t k len f [] 0 = some (.inl (f2, h1, n1)) → q_ld t k len f h ns = some (.inl (f2, h, ns)) := by
    intro t k hs
    unfold q_ld at hs ⊢
    split at hs
    next v hv =>
      obtain ⟨hb, hs⟩ := w_bs hs
      cases hs
      rw [hb]
      rfl
    next => cases hs
  have sto : ∀ t k, q_st t k len f [] 0 = some (.inl (f2, h1, n1)) → q_st t k len f h ns = some (.inl (f2, h, ns)) := by
    intro t k hs
    unfold q_st at hs ⊢
    split at hs
    next v r hv =>
      obtain ⟨hb, hs⟩ := w_bs hs
      cases hs
      rw [hb]
      rfl
    next => cases hs
  have b2 : ∀ j, q_b2 q_O32 j len f [] 0 = some (.inl (f2, h1, n1)) → q_b2 q_O32 j len f h ns = some (.inl (f2, h, ns)) := by
    intro j hs
    unfold q_b2 at hs ⊢
    split at hs
    next y x r hv =>
      split at hs
      next z hz =>
        cases hs
        rfl
      next => cases hs
    next => cases hs
  have b1 : ∀ j, q_b1 q_O32 j len f [] 0 = some (.inl (f2, h1, n1)) → q_b1 q_O32 j len f h ns = some (.inl (f2, h, ns)) := by
    intro j hs
    unfold q_b1 at hs ⊢
    split at hs
    next x r hv =>
      split at hs
      next z hz =>
        cases hs
        rfl
      next => cases hs
    next => cases hs
  have l2 : ∀ j, q_l2 j len f [] 0 = some (.inl (f2, h1, n1)) → q_l2 j len f h ns = some (.inl (f2, h, ns)) := by
    intro j hs
    unfold q_l2 at hs ⊢
    split at hs
    next y x r hv =>
      split at hs
      next z hz =>
        cases hs
        rfl
      next => cases hs
    next => cases hs
  have jmp : ∀ t st, q_jmp r len t f st [] 0 = some (.inl (f2, h1, n1)) → q_jmp r len t f st h ns = some (.inl (f2, h, ns)) := by
    intro t st hs
    unfold q_jmp at hs ⊢
    split at hs
    · cases hs
      rfl
    · cases hs
      rfl
    · cases hs
  have nx : ∀ st, q_nx len f st [] 0 = some (.inl (f2, h1, n1)) → q_nx len f st h ns = some (.inl (f2, h, ns)) := by
    intro st hs
    cases hs
    rfl
  cases i with
  | aload_n k => exact ld _ _ hs
  | iload_n k => exact ld _ _ hs
  | lload_n k => exact ld _ _ hs
  | aload k => exact ld _ _ hs
  | iload k => exact ld _ _ hs
  | lload k => exact ld _ _ hs
  | astore_n k => exact sto _ _ hs
  | istore_n k => exact sto _ _ hs
  | lstore_n k => exact sto _ _ hs
  | astore k => exact sto _ _ hs
  | istore k => exact sto _ _ hs
  | lstore k => exact sto _ _ hs
  | iinc k n =>
    have hs2 : q_iinc q_O32 k n len f [] 0 = some (.inl (f2, h1, n1)) := hs
    show q_iinc q_O32 k n len f h ns = _
    unfold q_iinc at hs2 ⊢
    split at hs2
    next x hx =>
      split at hs2
      next y hy =>
        cases hs2
        rfl
      next => cases hs2
    next => cases hs2
  | iconst n => exact nx _ hs
  | bipush n => exact nx _ hs
  | sipush n => exact nx _ hs
  | lconst n => exact nx _ hs
  | ldc k =>
    rcases r with _ | ⟨v, _ | ⟨w, r⟩⟩
    · cases hs
    · exact nx _ hs
    · cases hs
  | ldc_w k =>
    rcases r with _ | ⟨v, _ | ⟨w, r⟩⟩
    · cases hs
    · exact nx _ hs
    · cases hs
  | ldc2_w k =>
    rcases r with _ | ⟨v, _ | ⟨w, r⟩⟩
    · cases hs
    · exact nx _ hs
    · cases hs
  | iadd => exact b2 0 hs
  | isub => exact b2 1 hs
  | imul => exact b2 2 hs
  | iand => exact b2 3 hs
  | ior => exact b2 4 hs
  | ixor => exact b2 5 hs
  | ishl => exact b2 6 hs
  | ishr => exact b2 7 hs
  | iushr => exact b2 8 hs
  | idiv => exact b2 9 hs
  | irem => exact b2 10 hs
  | ineg => exact b1 0 hs
  | i2b => exact b1 1 hs
  | i2c => exact b1 2 hs
  | i2l =>
    have hs2 : q_i2l q_O32 len f [] 0 = some (.inl (f2, h1, n1)) := hs
    show q_i2l q_O32 len f h ns = _
    unfold q_i2l at hs2 ⊢
    split at hs2
    next y r hv =>
      split at hs2
      next z hz =>
        cases hs2
        rfl
      next => cases hs2
    next => cases hs2
  | ladd => exact l2 0 hs
  | lmul => exact l2 1 hs
  | lor => exact l2 2 hs
  | lshl =>
    have hs2 : q_lshl q_O32 len f [] 0 = some (.inl (f2, h1, n1)) := hs
    show q_lshl q_O32 len f h ns = _
    unfold q_lshl at hs2 ⊢
    split at hs2
    next y r hv =>
      split at hs2
      next z hz =>
        cases hs2
        rfl
      next => cases hs2
    next => cases hs2
  | lcmp =>
    have hs2 : q_lcmp q_O32 len f [] 0 = some (.inl (f2, h1, n1)) := hs
    show q_lcmp q_O32 len f h ns = _
    unfold q_lcmp at hs2 ⊢
    split at hs2
    next y r hv =>
      cases hs2
      rfl
    next => cases hs2
  | dup =>
    have hs2 : q_dup len f [] 0 = some (.inl (f2, h1, n1)) := hs
    show q_dup len f h ns = _
    unfold q_dup at hs2 ⊢
    split at hs2
    next y r hv =>
      obtain ⟨hb, hs2⟩ := w_bs hs2
      cases hs2
      rw [hb]
      rfl
    next => cases hs2
  | dup2 =>
    have hs2 : q_dup2 len f [] 0 = some (.inl (f2, h1, n1)) := hs
    show q_dup2 len f h ns = _
    unfold q_dup2 at hs2 ⊢
    split at hs2
    next y r hv =>
      obtain ⟨hb, hs2⟩ := w_bs hs2
      cases hs2
      rw [hb]
      rfl
    next => cases hs2
  | pop =>
    have hs2 : q_pop len f [] 0 = some (.inl (f2, h1, n1)) := hs
    show q_pop len f h ns = _
    unfold q_pop at hs2 ⊢
    split at hs2
    next y r hv =>
      obtain ⟨hb, hs2⟩ := w_bs hs2
      cases hs2
      rw [hb]
      rfl
    next => cases hs2
  | ifCond cd k =>
    have hs2 : q_if q_O32 (q_cn cd) r len f [] 0 = some (.inl (f2, h1, n1)) := hs
    show q_if q_O32 (q_cn cd) r len f h ns = _
    unfold q_if at hs2 ⊢
    split at hs2
    next x st hv => exact jmp _ _ hs2
    next => cases hs2
  | if_icmp cd k =>
    have hs2 : q_ic q_O32 (q_cn cd) r len f [] 0 = some (.inl (f2, h1, n1)) := hs
    show q_ic q_O32 (q_cn cd) r len f h ns = _
    unfold q_ic at hs2 ⊢
    split at hs2
    next x st hv => exact jmp _ _ hs2
    next => cases hs2
  | goto k =>
    rcases r with _ | ⟨v, _ | ⟨w, r⟩⟩
    · cases hs
    · cases hs
      rfl
    · cases hs
  | tableswitch a lo hi l =>
    have hs2 : q_tsw q_O32 lo hi r f [] 0 = some (.inl (f2, h1, n1)) := hs
    show q_tsw q_O32 lo hi r f h ns = _
    unfold q_tsw at hs2 ⊢
    split at hs2
    next x st hv =>
      split at hs2
      next tg htg =>
        cases hs2
        rfl
      next => cases hs2
    next => cases hs2
  | lookupswitch a l =>
    have hs2 : q_lsw q_O32 a l.toList f [] 0 = some (.inl (f2, h1, n1)) := hs
    show q_lsw q_O32 a l.toList f h ns = _
    unfold q_lsw at hs2 ⊢
    split at hs2
    next x st hv =>
      split at hs2
      next tg htg =>
        split at hs2
        next h0 =>
          cases hs2
          rw [if_pos h0]
        next => cases hs2
      next => cases hs2
    next => cases hs2
  | getfield k => cases hn
  | putfield k => cases hn
  | arraylength => cases hn
  | iaload => cases hn
  | baload => cases hn
  | laload => cases hn
  | iastore => cases hn
  | bastore => cases hn
  | lastore => cases hn
  | new k => cases hn
  | newarray k => cases hn
  | invokevirtual k => cases hn
  | invokespecial k => cases hn
  | invokestatic k => cases hn
  | ireturn =>
    have hs2 : q_iret q_O32 r f [] 0 = some (.inl (f2, h1, n1)) := hs
    unfold q_iret at hs2
    split at hs2
    · obtain ⟨hb, hs2⟩ := w_bs hs2
      cases hs2
    · cases hs2
  | lreturn =>
    have hs2 : q_lret f [] 0 = some (.inl (f2, h1, n1)) := hs
    unfold q_lret at hs2
    split at hs2 <;> cases hs2
  | return_ =>
    have hs2 : q_ret f [] 0 = some (.inl (f2, h1, n1)) := hs
    unfold q_ret at hs2
    split at hs2 <;> cases hs2
  | _ => exact w_nn (show (none : Option (q_S Int32 ⊕ q_R Int32)) = some (.inl (f2, h1, n1)) from hs)
