theorem y_math {v len : Nat} {f f2 : q_F Int32} {h1 : q_H Int32} {n1 : Nat} (hs : q_math q_O32 v len f [] 0 = some (.inl (f2, h1, n1))) (h : q_H Int32) (ns : Nat) : q_math q_O32 v len f h ns = some (.inl (f2, h, ns)) := by
  have mm : ∀ j, q_mm q_O32 j len f [] 0 = some (.inl (f2, h1, n1)) → q_mm q_O32 j len f h ns = some (.inl (f2, h, ns)) := by
    intro j hs
    unfold q_mm at hs ⊢
    split at hs
    next y x st hv =>
      obtain ⟨hb, hs⟩ := w_bs hs
      split at hs
      next z hz =>
        cases hs
        rw [hb]
        rfl
      next => cases hs
    next => cases hs
  rcases v with _ | _ | v
  · have hs2 : q_abs q_O32 len f [] 0 = some (.inl (f2, h1, n1)) := hs
    show q_abs q_O32 len f h ns = _
    unfold q_abs at hs2 ⊢
    split at hs2
    next x st hv =>
      obtain ⟨hb, hs2⟩ := w_bs hs2
      split at hs2
      next z hz =>
        cases hs2
        rw [hb]
        rfl
      next => cases hs2
    next => cases hs2
  · exact mm 11 hs
  · exact mm 12 hs
theorem y_act_ok {sh : w_Sh} {cal : Nat → List (q_V Int32) → q_H Int32 → Nat → Option (q_R Int32)} {ins : Jvm.ClassFile.Instr} {len : Nat} {r : List Nat} {p p2 : Nat} {ls ls2 : q_U Int32} {st st2 : List (q_V Int32)} {s s2 : y_H} {h : q_H Int32} {ns : Nat} (hR : w_Rep sh h (y_mk sh s)) (hs : y_act sh ins len r p ls st s = some (p2, ls2, st2, s2)) : ∃ h2, q_act q_O32 none cal ins len r (p, ls, st) h ns = some (.inl ((p2, ls2, st2), h2, ns)) ∧ w_Rep sh h2 (y_mk sh s2) := by
  unfold y_act at hs
  cases hb : y_isH ins with
  | false =>
    rw [hb, cond_false] at hs
    split at hs
    next f h1 n1 hf =>
      cases hs
      exact ⟨h, y_free hb hf h ns, hR⟩
    next => cases hs
  | true =>
    rw [hb, cond_true] at hs
    clear hb
    unfold y_actH at hs
    split at hs
    ·   rename_i i
        have hs2 : y_getf sh r (p + len) ls st s = some (p2, ls2, st2, s2) := hs
        unfold y_getf at hs2
        split at hs2
        next ci k rr n st =>
          split at hs2
          next o tag sz hc =>
            obtain ⟨hb, hs2⟩ := w_bs hs2
            cases hs2
            simp only [Bool.and_eq_true, Nat.beq_eq, Nat.blt_eq] at hb
            obtain ⟨b1, b2, b3⟩ := hb
            obtain ⟨rfl, u, hu⟩ := y_ref_ok hR hc
            have hv := (hR.2 o _ hu k b3).1 b2
            refine ⟨h, ?_, hR⟩
            show q_getf (ci :: k :: rr) len (p, ls, .inr (.inr (o + 2)) :: st) h ns = _
            unfold q_getf
            dsimp only
            rw [hu]
            dsimp only
            rw [show (Nat.beq tag ci && Nat.blt k sz) = true by rw [Bool.and_eq_true, Nat.beq_eq, Nat.blt_eq]; exact ⟨b1, b3⟩, cond_true]
            rw [show q_at u k = some (y_mk sh s o k) from hv]
            rfl
          next => cases hs2
        next => cases hs2
    ·   rename_i i
        have hs2 : y_putf sh r (p + len) ls st s = some (p2, ls2, st2, s2) := hs
        unfold y_putf at hs2
        split at hs2
        next ci k kd rr v n st =>
          split at hs2
          next o tag sz hc =>
            obtain ⟨hb, hs2⟩ := w_bs hs2
            cases hs2
            simp only [Bool.and_eq_true, Nat.beq_eq, Nat.blt_eq] at hb
            obtain ⟨b1, b2, b3, b4, b5⟩ := hb
            obtain ⟨rfl, u, hu⟩ := y_ref_ok hR hc
            refine ⟨h.set o (tag, sz, (k, v) :: u), ?_, ?_⟩
            · show q_putf q_O32 (ci :: k :: kd :: rr) len (p, _, v :: .inr (.inr (o + 2)) :: _) h ns = _
              unfold q_putf
              dsimp only
              rw [hu]
              dsimp only
              rw [show (Nat.beq tag ci && (Nat.blt k sz && q_fit q_O32 kd v)) = true by rw [Bool.and_eq_true, Bool.and_eq_true, Nat.beq_eq, Nat.blt_eq]; exact ⟨b1, b3, b5⟩, cond_true]
              rfl
            · rw [y_up_mk b4]
              exact w_Rep_set hR hu v
          next => cases hs2
        next => cases hs2
    ·   have hs2 : y_alen sh (p + len) ls st s = some (p2, ls2, st2, s2) := hs
        unfold y_alen at hs2
        split at hs2
        next n st =>
          split at hs2
          next o tag sz hc =>
            obtain ⟨hb, hs2⟩ := w_bs hs2
            cases hs2
            obtain ⟨rfl, u, hu⟩ := y_ref_ok hR hc
            refine ⟨h, ?_, hR⟩
            show q_alen q_O32 none len (p, ls, .inr (.inr (o + 2)) :: st) h ns = _
            unfold q_alen
            dsimp only
            rw [hu]
            dsimp only
            rw [hb]
            rfl
          next => cases hs2
        next => cases hs2
    ·   rename_i i
        rcases r with _ | ⟨v, _ | ⟨w, r⟩⟩
        · exact w_nn hs
        · have hs2 : (match q_math q_O32 v len (p, ls, st) [] 0 with
            | some (.inl (f, _, _)) => some (f.1, f.2.1, f.2.2, s)
            | _ => none) = some (p2, ls2, st2, s2) := hs
          split at hs2
          next f h1 n1 hf =>
            cases hs2
            exact ⟨h, y_math hf h ns, hR⟩
          next => cases hs2
        · exact w_nn hs
    · cases hs
