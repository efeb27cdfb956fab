/-! the machine's steps behind it -/
theorem y_ref_ok {sh : w_Sh} {h : q_H Int32} {σ : w_G} (hR : w_Rep sh h σ) {n o tag sz : Nat} (hc : y_ref sh n = some (o, tag, sz)) : n = o + 2 ∧ ∃ u, h[o]? = some (tag, sz, u) := by
  unfold y_ref at hc
  split at hc
  next o2 =>
    split at hc
    next q hq =>
      cases hc
      refine ⟨rfl, ?_⟩
      have h1 := hR.1 o
      rw [hq] at h1
      cases hh : h[o]? with
      | none => rw [hh] at h1; cases h1
      | some z =>
        rw [hh] at h1
        obtain ⟨t1, s1, u1⟩ := z
        simp at h1
        exact ⟨u1, by rw [h1.1, h1.2]⟩
    next => cases hc
  next => cases hc
theorem y_n_ok {cal : Nat → List (q_V Int32) → q_H Int32 → Nat → Option (q_R Int32)} {i : Jvm.ClassFile.Instr} {len : Nat} {r : List Nat} {p : Nat} {ls ls2 : q_U Int32} {st st2 : List (q_V Int32)} {h : q_H Int32} {ns : Nat} (hs : y_n i r ls st = some (ls2, st2)) : q_act q_O32 none cal i len r (p, ls, st) h ns = some (.inl ((p + len, ls2, st2), h, ns)) := by
  have ld : ∀ t k, y_ld t k ls st = some (ls2, st2) → q_ld t k len (p, ls, st) h ns = some (.inl ((p + len, ls2, st2), h, ns)) := by
    intro t k hs
    unfold y_ld at hs
    unfold q_ld
    dsimp only
    split at hs
    next v hv =>
      obtain ⟨hb, hs⟩ := w_bs hs
      cases hs
      rw [hv]
      dsimp only
      rw [hb]
      rfl
    next => cases hs
  have sto : ∀ t k, y_st t k ls st = some (ls2, st2) → q_st t k len (p, ls, st) h ns = some (.inl ((p + len, ls2, st2), h, ns)) := by
    intro t k hs
    unfold y_st at hs
    unfold q_st
    split at hs
    next v r =>
      obtain ⟨hb, hs⟩ := w_bs hs
      cases hs
      dsimp only
      rw [hb]
      rfl
    next => cases hs
  have b2 : ∀ j, y_2 j ls st = some (ls2, st2) → q_b2 q_O32 j len (p, ls, st) h ns = some (.inl ((p + len, ls2, st2), h, ns)) := by
    intro j hs
    unfold y_2 at hs
    unfold q_b2
    split at hs
    next y x r =>
      split at hs
      next z hz =>
        cases hs
        dsimp only
        rw [show q_O32.2.1 j _ _ = some z from hz]
        rfl
      next => cases hs
    next => cases hs
  have b1 : ∀ j, y_1 j ls st = some (ls2, st2) → q_b1 q_O32 j len (p, ls, st) h ns = some (.inl ((p + len, ls2, st2), h, ns)) := by
    intro j hs
    unfold y_1 at hs
    unfold q_b1
    split at hs
    next x r =>
      split at hs
      next z hz =>
        cases hs
        dsimp only
        rw [show q_O32.2.2.1 j _ = some z from hz]
        rfl
      next => cases hs
    next => cases hs
  have l2 : ∀ j, y_l2 j ls st = some (ls2, st2) → q_l2 j len (p, ls, st) h ns = some (.inl ((p + len, ls2, st2), h, ns)) := by
    intro j hs
    unfold y_l2 at hs
    unfold q_l2
    split at hs
    next y x r =>
      split at hs
      next z hz =>
        cases hs
        dsimp only
        rw [hz]
        rfl
      next => cases hs
    next => cases hs
  have nx : ∀ v : q_V Int32, some (ls, v :: st) = some (ls2, st2) → q_nx len (p, ls, st) (v :: st) h ns = some (.inl ((p + len, ls2, st2), h, ns)) := by
    intro v hs
    cases hs
    rfl
  unfold y_n at hs
  split at hs
  · exact ld _ _ hs
  · exact ld _ _ hs
  · exact ld _ _ hs
  · exact ld _ _ hs
  · exact ld _ _ hs
  · exact ld _ _ hs
  · exact sto _ _ hs
  · exact sto _ _ hs
  · exact sto _ _ hs
  · exact sto _ _ hs
  · exact sto _ _ hs
  · exact sto _ _ hs
  · next k n =>
    show q_iinc q_O32 k n len (p, ls, st) h ns = _
    unfold y_ii at hs
    unfold q_iinc
    dsimp only
    split at hs
    next x hx =>
      cases hs
      rw [hx]
      rfl
    next => cases hs
  · exact nx _ hs
  · exact nx _ hs
  · exact nx _ hs
  · exact nx _ hs
  · rcases r with _ | ⟨v, _ | ⟨w, r⟩⟩
    · cases hs
    · exact nx _ hs
    · cases hs
  · rcases r with _ | ⟨v, _ | ⟨w, r⟩⟩
    · cases hs
    · exact nx _ hs
    · cases hs
  · rcases r with _ | ⟨v, _ | ⟨w, r⟩⟩
    · cases hs
    · exact nx _ hs
    · cases hs
  · exact b2 0 hs
  · exact b2 1 hs
  · exact b2 2 hs
  · exact b2 3 hs
  · exact b2 4 hs
  · exact b2 5 hs
  · exact b2 6 hs
  · exact b2 7 hs
  · exact b2 8 hs
  · exact b1 0 hs
  · exact b1 1 hs
  · exact b1 2 hs
  · split at hs
    · cases hs
      rfl
    · cases hs
  · exact l2 0 hs
  · exact l2 1 hs
  · exact l2 2 hs
  · split at hs
    · cases hs
      rfl
    · cases hs
  · split at hs
    · cases hs
      rfl
    · cases hs
  · split at hs
    next v r =>
      obtain ⟨hb, hs⟩ := w_bs hs
      cases hs
      show q_dup len (p, _, v :: r) h ns = _
      unfold q_dup
      dsimp only
      rw [hb]
      rfl
    next => cases hs
  · split at hs
    next v w r =>
      obtain ⟨hb, hs⟩ := w_bs hs
      cases hs
      show q_dup2 len (p, _, v :: w :: r) h ns = _
      unfold q_dup2
      dsimp only
      rw [hb]
      rfl
    next => cases hs
  · split at hs
    next v r =>
      obtain ⟨hb, hs⟩ := w_bs hs
      cases hs
      show q_pop len (p, _, v :: _) h ns = _
      unfold q_pop
      dsimp only
      rw [hb]
      rfl
    next => cases hs
  · split at hs
    next y x st0 =>
      obtain ⟨hb, hs⟩ := w_bs hs
      cases hs
      show q_mm q_O32 11 len (p, _, .inl y :: .inl x :: st0) h ns = _
      unfold q_mm
      dsimp only
      rw [hb]
      rfl
    next y x st0 =>
      obtain ⟨hb, hs⟩ := w_bs hs
      cases hs
      show q_mm q_O32 12 len (p, _, .inl y :: .inl x :: st0) h ns = _
      unfold q_mm
      dsimp only
      rw [hb]
      rfl
    next => cases hs
  · cases hs
