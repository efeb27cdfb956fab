theorem y_act_ok {sh : w_Sh} {cal : Nat → List (q_V Int32) → q_H Int32 → Nat → Option (q_R Int32)} {ins : Jvm.ClassFile.Instr} {len : Nat} {r : List Nat} {p p2 : Nat} {ls ls2 : q_U Int32} {st st2 : List (q_V Int32)} {s s2 : y_H} {h : q_H Int32} {ns : Nat} (hR : w_Rep sh h (y_mk sh s)) (hs : y_act sh ins len r p ls st s = some (p2, ls2, st2, s2)) : ∃ h2, q_act q_O32 none cal ins len r (p, ls, st) h ns = some (.inl ((p2, ls2, st2), h2, ns)) ∧ w_Rep sh h2 (y_mk sh s2) := by
  unfold y_act at hs
  split at hs
  · split at hs
    next st3 s3 hh =>
      cases hs
      unfold y_h at hh
      split at hh
      · split at hh
        next ci k rr n st0 =>
          split at hh
          next o tag sz hc =>
            obtain ⟨hb, hh⟩ := w_bs hh
            cases hh
            simp only [Bool.and_eq_true, Nat.beq_eq, Nat.blt_eq] at hb
            obtain ⟨b1, b2, b3⟩ := hb
            obtain ⟨rfl, u, hu⟩ := y_ref_ok hR hc
            have hv := (hR.2 o _ hu k b3).1 b2
            refine ⟨h, ?_, hR⟩
            show q_getf (ci :: k :: rr) len (p, _, .inr (.inr (o + 2)) :: st0) h ns = _
            unfold q_getf
            dsimp only
            rw [hu]
            dsimp only
            rw [show (Nat.beq tag ci && Nat.blt k sz) = true by rw [Bool.and_eq_true, Nat.beq_eq, Nat.blt_eq]; exact ⟨b1, b3⟩, cond_true]
            rw [show q_at u k = some (y_mk sh _ o k) from hv]
            rfl
          next => cases hh
        next => cases hh
      · split at hh
        next ci k kd rr v n st0 =>
          split at hh
          next o tag sz hc =>
            obtain ⟨hb, hh⟩ := w_bs hh
            cases hh
            simp only [Bool.and_eq_true, Nat.beq_eq, Nat.blt_eq] at hb
            obtain ⟨b1, b2, b3, b4, b5⟩ := hb
            obtain ⟨rfl, u, hu⟩ := y_ref_ok hR hc
            refine ⟨h.set o (tag, sz, (k, v) :: u), ?_, ?_⟩
            · show q_putf q_O32 (ci :: k :: kd :: rr) len (p, _, v :: .inr (.inr (o + 2)) :: _) h ns = _
              unfold q_putf
              dsimp only
              rw [hu]
              dsimp only
              rw [show (Nat.beq tag ci && (Nat.blt k sz && q_fit q_O32 kd v)) = true by rw [Bool.and_eq_true, Bool.and_eq_true, Nat.beq_eq, Nat.blt_eq]; exact ⟨b1, b3, b5⟩, cond_true]
              rfl
            · rw [y_up_mk b4]
              exact w_Rep_set hR hu v
          next => cases hh
        next => cases hh
      · split at hh
        next n st0 =>
          split at hh
          next o tag sz hc =>
            obtain ⟨hb, hh⟩ := w_bs hh
            cases hh
            obtain ⟨rfl, u, hu⟩ := y_ref_ok hR hc
            refine ⟨h, ?_, hR⟩
            show q_alen q_O32 none len (p, _, .inr (.inr (o + 2)) :: st0) h ns = _
            unfold q_alen
            dsimp only
            rw [hu]
            dsimp only
            rw [hb]
            rfl
          next => cases hh
        next => cases hh
      · cases hh
    next => cases hs
  next hsort =>
    have hg : ∃ k, ins = .goto k := by
      unfold y_sort at hsort
      split at hsort
      · cases hsort
      · cases hsort
      · cases hsort
      · exact ⟨_, rfl⟩
      · cases hsort
    obtain ⟨k, rfl⟩ := hg
    split at hs
    · cases hs
      exact ⟨h, rfl, hR⟩
    · cases hs
  · split at hs
    next ls3 st3 hn =>
      cases hs
      exact ⟨h, y_n_ok hn, hR⟩
    next => cases hs
