def y_R (ls1 ls2 : q_U Int32) : Prop := ∀ i v, q_at ls1 i = some v → q_at ls2 i = some v
def y_nd (ls : q_U Int32) : Prop := (ls.map Prod.fst).Nodup
theorem y_nd_at : ∀ (l : q_U Int32) (k : Nat) (v : q_V Int32), y_nd l → (k, v) ∈ l → q_at l k = some v
  | [], _, _, _, h => by cases h
  | q :: r, k, v, hn, h => by
    have hn2 : q.1 ∉ r.map Prod.fst ∧ (r.map Prod.fst).Nodup := List.nodup_cons.mp hn
    rcases List.mem_cons.mp h with e | h
    · subst e
      exact w_at_cons _ _ _
    · have hne : q.1 ≠ k := by
        intro e
        apply hn2.1
        rw [e]
        exact List.mem_map.mpr ⟨(k, v), h, rfl⟩
      show (bif Nat.beq q.1 k then some q.2 else q_at r k) = _
      rw [q_beq_ne hne, cond_false]
      exact y_nd_at r k v hn2.2 h
theorem y_R_filter {ls1 ls2 : q_U Int32} {pr : Nat × q_V Int32 → Bool} (hn : y_nd ls1) (hR : y_R ls1 ls2) : y_R (ls1.filter pr) (ls2.filter pr) := by
  intro i v h
  have hm := w_at_mem _ _ _ h
  rw [List.mem_filter] at hm
  exact w_at_filter _ _ _ (hR i v (y_nd_at _ _ _ hn hm.1)) hm.2
theorem y_nd_filter {ls : q_U Int32} {pr : Nat × q_V Int32 → Bool} (hn : y_nd ls) : y_nd (ls.filter pr) := List.Nodup.sublist (List.Sublist.map _ List.filter_sublist) hn
theorem y_nd_store {ls : q_U Int32} {pr : Nat × q_V Int32 → Bool} {i : Nat} {v : q_V Int32} (hn : y_nd ls) (hp : ∀ w, pr (i, w) = false) : y_nd ((i, v) :: ls.filter pr) := by
  refine List.nodup_cons.mpr ⟨?_, y_nd_filter hn⟩
  intro h
  have h2 : i ∈ (ls.filter pr).map Prod.fst := h
  rw [List.mem_map] at h2
  obtain ⟨q, hq, e⟩ := h2
  rw [List.mem_filter] at hq
  have h3 := hq.2
  obtain ⟨k, w⟩ := q
  have e2 : k = i := e
  subst e2
  rw [hp w] at h3
  cases h3
theorem y_R_store {ls1 ls2 : q_U Int32} {pr : Nat × q_V Int32 → Bool} {i : Nat} {v : q_V Int32} (hn : y_nd ls1) (hR : y_R ls1 ls2) : y_R ((i, v) :: ls1.filter pr) ((i, v) :: ls2.filter pr) := by
  intro j w h
  rcases Nat.decEq i j with e | e
  · rw [w_at_cons_ne e] at h ⊢
    exact y_R_filter hn hR j w h
  · subst e
    rw [w_at_cons] at h ⊢
    exact h
theorem y_keep1 {i : Nat} (w : q_V Int32) : q_keep1 i (i, w) = false := by
  unfold q_keep1
  simp
theorem y_keep2 {i : Nat} (w : q_V Int32) : q_keep2 i (i, w) = false := by
  unfold q_keep2
  simp
theorem y_f2_sub {ls1 ls2 : q_U Int32} (hR : y_R ls1 ls2) {p : Nat} {st : List (q_V Int32)} {h : q_H Int32} {c1 k1 c2 k2 : Nat} {x : Int32} (hs : q_f2 c1 k1 c2 k2 (p, ls1, st) h = some x) : q_f2 c1 k1 c2 k2 (p, ls2, st) h = some x := by
  unfold q_f2 at hs ⊢
  dsimp only at hs ⊢
  cases hv : q_at ls1 0 with
  | none => rw [hv] at hs; cases hs
  | some v =>
    rw [hv] at hs
    rw [hR 0 v hv]
    exact hs
theorem y_m1_sub {ls1 ls2 : q_U Int32} {p : Nat} {st : List (q_V Int32)} {h : q_H Int32} {ns j len : Nat} {x : Int32} {X : q_S Int32 ⊕ q_R Int32} (hs : q_m1 q_O32 j x len (p, ls1, st) h ns = some X) : ∃ z, X = .inl ((p + len, ls1, .inl z :: st), h, ns) ∧ q_m1 q_O32 j x len (p, ls2, st) h ns = some (.inl ((p + len, ls2, .inl z :: st), h, ns)) := by
  unfold q_m1 at hs ⊢
  split at hs
  next z hz =>
    cases hs
    first
      | exact ⟨z, rfl, rfl⟩
      | (rw [hz]; exact ⟨z, rfl, rfl⟩)
  next => cases hs
theorem y_mac_sub {ls1 ls2 : q_U Int32} (hR : y_R ls1 ls2) {p : Nat} {st : List (q_V Int32)} {h : q_H Int32} {ns len : Nat} {r : List Nat} {X : q_S Int32 ⊕ q_R Int32} (hs : q_mac q_O32 len r (p, ls1, st) h ns = some X) : ∃ z, X = .inl ((p + len, ls1, .inl z :: st), h, ns) ∧ q_mac q_O32 len r (p, ls2, st) h ns = some (.inl ((p + len, ls2, .inl z :: st), h, ns)) := by
  unfold q_mac at hs ⊢
  dsimp only at hs ⊢
  cases hb : Nat.ble (q_cats st) 6 with
  | false => rw [hb] at hs; cases hs
  | true =>
    rw [hb, cond_true] at hs
    rw [cond_true]
    rcases r with _ | ⟨j, _ | ⟨c1, _ | ⟨k1, _ | ⟨c2, _ | ⟨k2, _ | ⟨i, _ | ⟨w, r⟩⟩⟩⟩⟩⟩⟩
    · cases hs
    · cases hs
      exact ⟨_, rfl, rfl⟩
    · dsimp only at hs ⊢
      cases hv : q_at ls1 c1 with
      | none => rw [hv] at hs; cases hs
      | some v =>
        rw [hv] at hs
        rw [hR c1 v hv]
        rcases v with x | y
        · exact y_m1_sub hs
        · cases hs
    · cases hs
    · cases hs
    · dsimp only at hs ⊢
      cases hv : q_f2 c1 k1 c2 k2 (p, ls1, st) h with
      | none => rw [hv] at hs; cases hs
      | some x =>
        rw [hv] at hs
        rw [y_f2_sub hR hv]
        exact y_m1_sub hs
    · dsimp only at hs ⊢
      cases hv : q_f2 c1 k1 c2 k2 (p, ls1, st) h with
      | none => rw [hv] at hs; cases hs
      | some x =>
        rw [hv] at hs
        rw [y_f2_sub hR hv]
        cases hw : q_at ls1 i with
        | none => rw [hw] at hs; cases hs
        | some v =>
          rw [hw] at hs
          rw [hR i v hw]
          rcases v with y | y
          · exact y_m1_sub hs
          · cases hs
    · cases hs
/-- a step with fewer locals is one with more -/
theorem y_sub_act {cal : Nat → List (q_V Int32) → q_H Int32 → Nat → Option (q_R Int32)} {ins : Jvm.ClassFile.Instr} {len : Nat} {r : List Nat} {p : Nat} {ls1 ls2 : q_U Int32} {st : List (q_V Int32)} {h : q_H Int32} {ns : Nat} (hn : y_nd ls1) (hR : y_R ls1 ls2) {X : q_S Int32 ⊕ q_R Int32} (hs : q_act q_O32 none cal ins len r (p, ls1, st) h ns = some X) : (∃ q, X = .inr q ∧ q_act q_O32 none cal ins len r (p, ls2, st) h ns = some (.inr q)) ∨ ∃ p3 l3 l4 st3 h3 n3, X = .inl ((p3, l3, st3), h3, n3) ∧ q_act q_O32 none cal ins len r (p, ls2, st) h ns = some (.inl ((p3, l4, st3), h3, n3)) ∧ y_nd l3 ∧ y_R l3 l4 := by
  have ld : ∀ t k, q_ld t k len (p, ls1, st) h ns = some X → ∃ p3 l3 l4 st3 h3 n3, X = .inl ((p3, l3, st3), h3, n3) ∧ q_ld t k len (p, ls2, st) h ns = some (.inl ((p3, l4, st3), h3, n3)) ∧ y_nd l3 ∧ y_R l3 l4 := by
    intro t k hs
    unfold q_ld at hs ⊢
    dsimp only at hs ⊢
    split at hs
    next v hv =>
      obtain ⟨hb, hs⟩ := w_bs hs
      cases hs
      rw [hR k v hv]
      dsimp only
      rw [hb]
      exact ⟨_, _, ls2, _, _, _, rfl, rfl, hn, hR⟩
    next => cases hs
  have sto : ∀ t k, q_st t k len (p, ls1, st) h ns = some X → ∃ p3 l3 l4 st3 h3 n3, X = .inl ((p3, l3, st3), h3, n3) ∧ q_st t k len (p, ls2, st) h ns = some (.inl ((p3, l4, st3), h3, n3)) ∧ y_nd l3 ∧ y_R l3 l4 := by
    intro t k hs
    unfold q_st at hs ⊢
    dsimp only at hs ⊢
    split at hs
    next v st2 =>
      obtain ⟨hb, hs⟩ := w_bs hs
      cases hs
      rw [hb]
      refine ⟨_, _, _, _, _, _, rfl, rfl, y_nd_store hn ?_, y_R_store hn hR⟩
      intro w
      cases Nat.beq t 2
      · exact y_keep1 w
      · exact y_keep2 w
    next => cases hs
  cases hl : y_isL ins with
  | false =>
    have e := y_noloc (cal := cal) (len := len) (r := r) (p := p) (ls := ls1) (ls2 := ls2) (st := st) (h := h) (ns := ns) hl
    rw [hs] at e
    rcases X with ⟨⟨p3, l3, st3⟩, h3, n3⟩ | q
    · refine Or.inr ⟨p3, l3, ls2, st3, h3, n3, rfl, e, ?_⟩
      have e2 := y_noloc (cal := cal) (len := len) (r := r) (p := p) (ls := ls1) (ls2 := ls1) (st := st) (h := h) (ns := ns) hl
      rw [hs] at e2
      have e3 : l3 = ls1 := by
        have := Option.some.inj e2
        injection this with e4
        injection e4 with e5 e6
        injection e5 with e7 e8
        injection e8 with e9 e10
      rw [e3]
      exact ⟨hn, hR⟩
    · exact Or.inl ⟨q, rfl, e⟩
  | true =>
    refine Or.inr ?_
    unfold y_isL at hl
    split at hl
    · exact ld _ _ hs
    · exact ld _ _ hs
    · exact ld _ _ hs
    · exact ld _ _ hs
    · exact ld _ _ hs
    · exact ld _ _ hs
    · exact sto _ _ hs
    · exact sto _ _ hs
    · exact sto _ _ hs
    · exact sto _ _ hs
    · exact sto _ _ hs
    · exact sto _ _ hs
    · next k n =>
      have hs2 : q_iinc q_O32 k n len (p, ls1, st) h ns = some X := hs
      show ∃ p3 l3 l4 st3 h3 n3, X = .inl ((p3, l3, st3), h3, n3) ∧ q_iinc q_O32 k n len (p, ls2, st) h ns = some (.inl ((p3, l4, st3), h3, n3)) ∧ y_nd l3 ∧ y_R l3 l4
      unfold q_iinc at hs2 ⊢
      dsimp only at hs2 ⊢
      split at hs2
      next x hx =>
        rw [hR k _ hx]
        cases hs2
        exact ⟨_, _, _, _, _, _, rfl, rfl, y_nd_store hn (fun w => y_keep1 w), y_R_store hn hR⟩
      next => cases hs2
    · obtain ⟨z, rfl, e⟩ := y_mac_sub (ls2 := ls2) hR (show q_mac q_O32 len r (p, ls1, st) h ns = some X from hs)
      exact ⟨_, _, ls2, _, _, _, rfl, e, hn, hR⟩
    · cases hl
theorem y_sub_exec (ts : List q_T) {d : Nat} {t : q_T} : ∀ (n : Nat) (p : Nat) (ls1 ls2 : q_U Int32) (st : List (q_V Int32)) (h : q_H Int32) (ns : Nat) (r : q_R Int32), y_nd ls1 → y_R ls1 ls2 → q_exec q_O32 ts n d t (p, ls1, st) h ns = some r → q_exec q_O32 ts n d t (p, ls2, st) h ns = some r := by
  intro n
  induction n with
  | zero => intro p ls1 ls2 st h ns r _ _ hs; cases hs
  | succ n ih =>
    intro p ls1 ls2 st h ns r hn hR hs
    rw [q_exec_succ] at hs ⊢
    unfold q_step at hs ⊢
    dsimp only at hs ⊢
    cases hq : q_get t p with
    | none => rw [hq] at hs; cases hs
    | some q =>
      rw [hq] at hs
      dsimp only at hs ⊢
      cases ha : q_act q_O32 none (q_call q_O32 ts n d) q.1 q.2.1 q.2.2 (p, ls1, st) h ns with
      | none => rw [ha] at hs; cases hs
      | some X =>
        rw [ha] at hs
        rcases y_sub_act hn hR ha with ⟨z, rfl, e⟩ | ⟨p3, l3, l4, st3, h3, n3, rfl, e, hn3, hR3⟩
        · rw [e]
          exact hs
        · rw [e]
          exact ih p3 l3 l4 st3 h3 n3 r hn3 hR3 hs
/-- the locals that matter -/
theorem y_sub {sh : w_Sh} {ts : List q_T} {d : Nat} {t : q_T} {Q : Option (q_V Int32) → y_H → Prop} {p : Nat} {ls1 ls2 : q_U Int32} {st : List (q_V Int32)} {s : y_H} (hn : y_nd ls1) (hR : y_R ls1 ls2) (hw : y_W sh ts d t Q p ls1 st s) : y_W sh ts d t Q p ls2 st s := by
  intro h ns hh
  obtain ⟨v, h2, s2, ⟨n, he⟩, hR2, hQ⟩ := hw h ns hh
  exact ⟨v, h2, s2, ⟨n, y_sub_exec ts n p ls1 ls2 st h ns _ hn hR he⟩, hR2, hQ⟩
theorem y_R_nil {ls : q_U Int32} : y_R [] ls := fun i v h => by cases h
theorem y_R_cons {k : Nat} {v : q_V Int32} {l ls : q_U Int32} (h : q_at ls k = some v) (hr : y_R l ls) : y_R ((k, v) :: l) ls := by
  intro i w hi
  rcases Nat.decEq k i with e | e
  · rw [w_at_cons_ne e] at hi
    exact hr i w hi
  · subst e
    rw [w_at_cons] at hi
    cases hi
    exact h
