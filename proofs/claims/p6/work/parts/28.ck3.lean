theorem w_at_filter_eq {α : Type} {p : Nat × α → Bool} {k : Nat} (hp : ∀ v, p (k, v) = true) : ∀ (l : List (Nat × α)), q_at (l.filter p) k = q_at l k
  | [] => rfl
  | q :: r => by
    have ih := w_at_filter_eq hp r
    cases hb : Nat.beq q.1 k with
    | true =>
      have e := q_beq hb
      have hq : p q = true := by
        have := hp q.2
        rw [← e] at this
        exact this
      rw [List.filter_cons_of_pos hq]
      unfold q_at
      rw [hb]
      rfl
    | false =>
      cases hq : p q with
      | true =>
        rw [List.filter_cons_of_pos hq]
        unfold q_at
        rw [hb]
        exact ih
      | false =>
        rw [List.filter_cons_of_neg (by simp [hq]), ih]
        show q_at r k = (bif Nat.beq q.1 k then some q.2 else q_at r k)
        rw [hb, cond_false]
theorem w_at_cons {α : Type} (i : Nat) (v : α) (l : List (Nat × α)) : q_at ((i, v) :: l) i = some v := by
  unfold q_at
  rw [q_beq_self]
  rfl
theorem w_at_cons_ne {α : Type} {i k : Nat} (h : i ≠ k) (v : α) (l : List (Nat × α)) : q_at ((i, v) :: l) k = q_at l k := by
  show (bif Nat.beq i k then some v else q_at l k) = _
  rw [q_beq_ne h]
  rfl
/-- what a store into the local i leaves of the others -/
def w_kept (i : Nat) (v : q_V Int32) (ls ls2 : q_U Int32) : Prop := q_at ls2 i = some v ∧ (∀ j w, q_at ls j = some w → j ≠ i → (q_cat w = 2 → j + 1 ≠ i) → (q_cat v = 2 → j ≠ i + 1) → q_at ls2 j = some w) ∧ ∀ j, j ≠ i → j + 1 ≠ i → j ≠ i + 1 → q_at ls2 j = q_at ls j
theorem w_keep1 {i : Nat} {v : q_V Int32} {ls : q_U Int32} : w_kept i v ls ((i, v) :: ls.filter (q_keep1 i)) := by
  refine ⟨w_at_cons _ _ _, ?_, ?_⟩
  · intro j w h h1 h2 _
    rw [w_at_cons_ne (fun e => h1 e.symm)]
    refine w_at_filter _ _ _ h ?_
    unfold q_keep1
    cases hc : q_cat w == 2 with
    | false => simp [h1]
    | true =>
      have : q_cat w = 2 := by simpa using hc
      simp [h1, h2 this]
  · intro j h1 h2 _
    rw [w_at_cons_ne (fun e => h1 e.symm)]
    refine w_at_filter_eq (fun w => ?_) _
    unfold q_keep1
    simp [h1, h2]
theorem w_keep2 {i : Nat} {v : q_V Int32} {ls : q_U Int32} (hv : q_cat v = 2) : w_kept i v ls ((i, v) :: ls.filter (q_keep2 i)) := by
  refine ⟨w_at_cons _ _ _, ?_, ?_⟩
  · intro j w h h1 h2 h3
    rw [w_at_cons_ne (fun e => h1 e.symm)]
    refine w_at_filter _ _ _ h ?_
    unfold q_keep2
    have h4 := h3 hv
    cases hc : q_cat w == 2 with
    | false => simp [h1, h4]
    | true =>
      have : q_cat w = 2 := by simpa using hc
      simp [h1, h4, h2 this]
  · intro j h1 h2 h3
    rw [w_at_cons_ne (fun e => h1 e.symm)]
    refine w_at_filter_eq (fun w => ?_) _
    unfold q_keep2
    simp [h1, h2, h3]
theorem w_kept_val {i : Nat} {v : q_V Int32} {ls ls2 : q_U Int32} {σ : w_G} (h : w_kept i v ls ls2) : ∀ g, g ≠ 0 → w_p3 i g = false → w_val ls2 σ g = w_val ls σ g := by
  intro g hg hp
  unfold w_p3 at hp
  simp only [Bool.or_eq_false_iff] at hp
  have h1 : g ≠ i + 1 := Nat.ne_of_beq_eq_false hp.1
  have h2 : g ≠ i := Nat.ne_of_beq_eq_false hp.2.1
  have h3 : g ≠ i + 2 := Nat.ne_of_beq_eq_false hp.2.2
  unfold w_val
  rw [h.2.2 (g - 1) (by omega) (by omega) (by omega)]
theorem w_isL_cat {ls : q_U Int32} {σ : w_G} {A : w_A} {v : q_V Int32} (h : w_in ls σ A v) : q_cat v = 2 ↔ w_isL A = true := by
  have := w_in_isL h
  rw [← this]
  simp
/-- a store, of a value that is in A behind it -/
theorem w_set_ok {i : Nat} {v : q_V Int32} {ls ls2 : q_U Int32} {σ : w_G} {S : w_S} {st : List (q_V Int32)} {A : w_A} (hk : w_kept i v ls ls2) (h : w_ok ls σ S st) (hA : w_in ls2 σ A v) : w_ok ls2 σ (w_set i A (w_ks (w_p3 i) S)) st := by
  have hs := w_kept_val (σ := σ) hk
  obtain ⟨h1, h2, h3⟩ := h
  refine ⟨?_, w_kas_ok hs _ _ h2, w_kM_ok hs h3⟩
  intro q hq
  rcases List.mem_cons.mp hq with e | hq
  · subst e
    exact ⟨v, hk.1, hA⟩
  · rw [List.mem_filter] at hq
    obtain ⟨hm, hc⟩ := hq
    have hm2 : q ∈ S.1.map (fun q => (q.1, w_ka (w_p3 i) q.2)) := hm
    rw [List.mem_map] at hm2
    obtain ⟨q0, hq0, rfl⟩ := hm2
    obtain ⟨w, e, hw⟩ := h1 q0 hq0
    have hw2 := w_ka_ok hs hw
    simp only [Bool.and_eq_true, Bool.not_eq_true', Bool.and_eq_false_iff] at hc
    obtain ⟨c1, c2, c3⟩ := hc
    refine ⟨w, hk.2.1 _ _ e (Nat.ne_of_beq_eq_false c1) ?_ ?_, hw2⟩
    · intro hcw
      have := (w_isL_cat hw2).mp hcw
      rcases c2 with c2 | c2
      · exact Nat.ne_of_beq_eq_false c2
      · rw [this] at c2
        cases c2
    · intro hcv
      have := (w_isL_cat hA).mp hcv
      rcases c3 with c3 | c3
      · rw [this] at c3
        cases c3
      · exact Nat.ne_of_beq_eq_false c3
/-! narrowing -/
theorem w_setM_ok {g : Nat} {A : w_A} {ls : q_U Int32} {σ : w_G} {S : w_S} {st : List (q_V Int32)} (hg : 64 ≤ g) (hA : w_in ls σ A (σ (w_ko g) (w_kk g))) (h : w_ok ls σ S st) : w_ok ls σ (w_setM g A S) st := by
  obtain ⟨h1, h2, h3⟩ := h
  refine ⟨h1, h2, ?_⟩
  intro q hq
  rcases List.mem_cons.mp hq with e | hq
  · subst e
    exact ⟨hg, hA⟩
  · rw [List.mem_filter] at hq
    exact h3 q hq.1
theorem w_val_hi {ls : q_U Int32} {σ : w_G} {g : Nat} (h : 64 ≤ g) : w_val ls σ g = some (σ (w_ko g) (w_kk g)) := by
  unfold w_val
  cases hb : Nat.blt g 64 with
  | false => rfl
  | true => have := q_blt hb; omega
theorem w_nr_ok {g : Nat} {J : q_J} {ls : q_U Int32} {σ : w_G} {S : w_S} {st : List (q_V Int32)} {x : Int32} (hx : q_jr J x) (hg : g = 0 ∨ w_val ls σ g = some (.inl x)) (h : w_ok ls σ S st) : w_ok ls σ (w_nr g J S) st := by
  unfold w_nr
  cases h0 : Nat.beq g 0 with
  | true => exact h
  | false =>
    have hg0 : g ≠ 0 := Nat.ne_of_beq_eq_false h0
    have hv := hg.resolve_left hg0
    rw [cond_false]
    cases hb : Nat.blt g 64 with
    | true =>
      rw [cond_true]
      split
      next J1 g2 hat =>
        obtain ⟨h1, h2, h3⟩ := h
        obtain ⟨v, e, y, rfl, hy, hk⟩ := h1 _ (w_at_mem _ _ _ hat)
        have hv2 := hv
        unfold w_val at hv2
        rw [hb, cond_true] at hv2
        have e2 : q_at ls (g - 1) = some (.inl y) := e
        rw [e2] at hv2
        cases hv2
        have hok : w_ok ls σ ((g - 1, .inl (J, g2)) :: S.1.filter (fun q => !(Nat.beq q.1 (g - 1))), S.2.1, S.2.2) st := by
          refine ⟨?_, h2, h3⟩
          intro q hq
          rcases List.mem_cons.mp hq with e3 | hq
          · subst e3
            exact ⟨_, e2, _, rfl, hx, hk⟩
          · rw [List.mem_filter] at hq
            exact h1 q hq.1
        show w_ok ls σ (bif Nat.ble 64 g2 then w_setM g2 (.inl (J, 0)) _ else _) st
        cases hb2 : Nat.ble 64 g2 with
        | false => exact hok
        | true =>
          have hg2 := Nat.le_of_ble_eq_true hb2
          refine w_setM_ok hg2 ?_ hok
          rcases hk with hk | hk
          · omega
          · rw [w_val_hi hg2] at hk
            rw [Option.some.inj hk]
            exact ⟨_, rfl, hx, Or.inl rfl⟩
      next => exact h
    | false =>
      rw [cond_false]
      have hg2 : 64 ≤ g := by
        rcases Nat.lt_or_ge g 64 with hh | hh
        · have : Nat.blt g 64 = true := by rw [Nat.blt_eq]; exact hh
          rw [this] at hb
          cases hb
        · exact hh
      refine w_setM_ok hg2 ?_ h
      rw [w_val_hi hg2] at hv
      rw [Option.some.inj hv]
      exact ⟨_, rfl, hx, Or.inl rfl⟩
theorem w_cm_sw {j : Nat} {x y : Int32} {t : Bool} (h : q_cm j x y = some t) : q_cm (w_sw j) y x = some t := by
  rcases j with _ | _ | _ | _ | _ | _ | j
  · have e : decide (x = y) = t := Option.some.inj h
    show some (decide (y = x)) = some t
    rw [← e]
    congr 1
    exact decide_eq_decide.mpr ⟨Eq.symm, Eq.symm⟩
  · have e : decide (x ≠ y) = t := Option.some.inj h
    show some (decide (y ≠ x)) = some t
    rw [← e]
    congr 1
    exact decide_eq_decide.mpr ⟨Ne.symm, Ne.symm⟩
  · have e : decide (x < y) = t := Option.some.inj h
    show some (decide (x < y)) = some t
    rw [e]
  · have e : decide (y ≤ x) = t := Option.some.inj h
    show some (decide (y ≤ x)) = some t
    rw [e]
  · have e : decide (y < x) = t := Option.some.inj h
    show some (decide (y < x)) = some t
    rw [e]
  · have e : decide (x ≤ y) = t := Option.some.inj h
    show some (decide (x ≤ y)) = some t
    rw [e]
  · cases h
/-- a value that is an int, of its range, come from where it says -/
def w_iv (ls : q_U Int32) (σ : w_G) (a : q_J × Nat) (x : Int32) : Prop := q_jr a.1 x ∧ (a.2 = 0 ∨ w_val ls σ a.2 = some (.inl x))
theorem w_b1_ok {j : Nat} {t : Bool} {a b : q_J × Nat} {ls : q_U Int32} {σ : w_G} {S : w_S} {st : List (q_V Int32)} {x y : Int32} (hc : q_cm j x y = some t) (hx : w_iv ls σ a x) (hy : w_iv ls σ b y) (h : w_ok ls σ S st) : ∃ S2 ∈ w_b1 j t a b S, w_ok ls σ S2 st := by
  have n1 := q_jn_ok hc hx.1 hy.1
  have n2 := q_jn_ok (w_cm_sw hc) hy.1 hx.1
  unfold w_b1
  have hb : (Nat.blt (q_jn j t a.1 b.1).2 (q_jn j t a.1 b.1).1 || Nat.blt (q_jn (w_sw j) t b.1 a.1).2 (q_jn (w_sw j) t b.1 a.1).1) = false := by
    rw [Bool.or_eq_false_iff]
    constructor
    · cases hb : Nat.blt (q_jn j t a.1 b.1).2 (q_jn j t a.1 b.1).1 with
      | false => rfl
      | true => have := q_blt hb; have := n1.1; have := n1.2; omega
    · cases hb : Nat.blt (q_jn (w_sw j) t b.1 a.1).2 (q_jn (w_sw j) t b.1 a.1).1 with
      | false => rfl
      | true => have := q_blt hb; have := n2.1; have := n2.2; omega
  rw [hb, cond_false]
  exact ⟨_, List.mem_cons_self, w_nr_ok n2 hy.2 (w_nr_ok n1 hx.2 h)⟩
theorem w_ne_two {x y : Int32} (h : x ≠ y) : q_cm 2 x y = some true ∨ q_cm 4 x y = some true := by
  have h1 := q_cm_pl (q_pc_int x) (q_pc_int y) 2
  have h2 := q_cm_pl (q_pc_int x) (q_pc_int y) 4
  rw [h1, h2]
  have hne : q_pc x ≠ q_pc y := by
    intro e
    apply h
    rw [← Int32.toInt_inj, q_pc_int x, q_pc_int y, e]
  rcases Nat.lt_or_gt_of_ne hne with hh | hh
  · left
    show some (Nat.ble (q_pc x + 1) (q_pc y)) = _
    rw [q_ble_t (by omega)]
  · right
    show some (Nat.ble (q_pc y + 1) (q_pc x)) = _
    rw [q_ble_t (by omega)]
theorem w_br_ok {j : Nat} {t : Bool} {a b : q_J × Nat} {ls : q_U Int32} {σ : w_G} {S : w_S} {st : List (q_V Int32)} {x y : Int32} (hc : q_cm j x y = some t) (hx : w_iv ls σ a x) (hy : w_iv ls σ b y) (h : w_ok ls σ S st) : ∃ S2 ∈ w_br j t a b S, w_ok ls σ S2 st := by
  have hne : x ≠ y → ∃ S2 ∈ w_b1 2 true a b S ++ w_b1 4 true a b S, w_ok ls σ S2 st := by
    intro hn
    rcases w_ne_two hn with h2 | h2
    · obtain ⟨S2, hm, ho⟩ := w_b1_ok h2 hx hy h
      exact ⟨S2, List.mem_append_left _ hm, ho⟩
    · obtain ⟨S2, hm, ho⟩ := w_b1_ok h2 hx hy h
      exact ⟨S2, List.mem_append_right _ hm, ho⟩
  unfold w_br
  split
  · refine hne ?_
    have e : decide (x = y) = false := Option.some.inj hc
    exact of_decide_eq_false e
  · refine hne ?_
    have e : decide (x ≠ y) = true := Option.some.inj hc
    exact of_decide_eq_true e
  · exact w_b1_ok hc hx hy h
