theorem q_pl_facts {j X Y : Nat} {t : Bool} (h : q_pl j X Y = some t) : (j = 0 → (t = true ↔ X = Y)) ∧ (j = 1 → (t = true ↔ X ≠ Y)) ∧ (j = 2 → (t = true ↔ X < Y)) ∧ (j = 3 → (t = true ↔ Y ≤ X)) ∧ (j = 4 → (t = true ↔ Y < X)) ∧ (j = 5 → (t = true ↔ X ≤ Y)) := by
  have bl : ∀ A B : Nat, Nat.ble A B = true ↔ A ≤ B := fun A B => ⟨Nat.le_of_ble_eq_true, Nat.ble_eq_true_of_le⟩
  have be : ∀ A B : Nat, Nat.beq A B = true ↔ A = B := fun A B => ⟨q_beq, fun e => by subst e; exact q_beq_self A⟩
  rcases j with _ | _ | _ | _ | _ | _ | j
  · have e : t = Nat.beq X Y := (Option.some.inj h).symm
    refine ⟨fun _ => by rw [e]; exact be X Y, ?_, ?_, ?_, ?_, ?_⟩ <;> (intro hj; omega)
  · have e : t = !(Nat.beq X Y) := (Option.some.inj h).symm
    refine ⟨?_, fun _ => ?_, ?_, ?_, ?_, ?_⟩ <;> first | (intro hj; omega) | skip
    rw [e, Bool.not_eq_true', ← Bool.not_eq_true]
    exact not_congr (be X Y)
  · have e : t = Nat.ble (X + 1) Y := (Option.some.inj h).symm
    refine ⟨?_, ?_, fun _ => by rw [e]; exact bl _ _, ?_, ?_, ?_⟩ <;> (intro hj; omega)
  · have e : t = Nat.ble Y X := (Option.some.inj h).symm
    refine ⟨?_, ?_, ?_, fun _ => by rw [e]; exact bl _ _, ?_, ?_⟩ <;> (intro hj; omega)
  · have e : t = Nat.ble (Y + 1) X := (Option.some.inj h).symm
    refine ⟨?_, ?_, ?_, ?_, fun _ => by rw [e]; exact bl _ _, ?_⟩ <;> (intro hj; omega)
  · have e : t = Nat.ble X Y := (Option.some.inj h).symm
    refine ⟨?_, ?_, ?_, ?_, ?_, fun _ => by rw [e]; exact bl _ _⟩ <;> (intro hj; omega)
  · cases h
theorem q_jn_ne {a b : q_J} {X Y : Nat} (x1 : a.1 ≤ X) (x2 : X ≤ a.2) (y1 : b.1 ≤ Y) (y2 : Y ≤ b.2) (hne : X ≠ Y) : (bif q_jone b then (bif Nat.beq a.1 b.1 then (a.1 + 1, a.2) else bif Nat.beq a.2 b.1 then (a.1, a.2 - 1) else a) else a : q_J).1 ≤ X ∧ X ≤ (bif q_jone b then (bif Nat.beq a.1 b.1 then (a.1 + 1, a.2) else bif Nat.beq a.2 b.1 then (a.1, a.2 - 1) else a) else a : q_J).2 := by
  cases hb : q_jone b with
  | false => exact ⟨x1, x2⟩
  | true =>
    have e := q_beq hb
    rw [cond_true]
    cases h1 : Nat.beq a.1 b.1 with
    | true =>
      have e1 := q_beq h1
      show a.1 + 1 ≤ X ∧ X ≤ a.2
      omega
    | false =>
      rw [cond_false]
      cases h2 : Nat.beq a.2 b.1 with
      | true =>
        have e2 := q_beq h2
        show a.1 ≤ X ∧ X ≤ a.2 - 1
        omega
      | false => exact ⟨x1, x2⟩
theorem q_jn_ok {j : Nat} {t : Bool} {a b : q_J} {x y : Int32} (h : q_cm j x y = some t) (hx : q_jr a x) (hy : q_jr b y) : q_jr (q_jn j t a b) x := by
  rw [q_cm_pl (q_pc_int x) (q_pc_int y) j] at h
  obtain ⟨x1, x2⟩ := hx
  obtain ⟨y1, y2⟩ := hy
  unfold q_jr
  generalize q_pc x = X at *
  generalize q_pc y = Y at *
  obtain ⟨f0, f1, f2, f3, f4, f5⟩ := q_pl_facts h
  unfold q_jn
  split
  · have := (f0 rfl).mp rfl
    show max a.1 b.1 ≤ X ∧ X ≤ min a.2 b.2
    omega
  · have : X = Y := Classical.byContradiction fun q => by have := (f1 rfl).mpr q; cases this
    show max a.1 b.1 ≤ X ∧ X ≤ min a.2 b.2
    omega
  · exact q_jn_ne x1 x2 y1 y2 (fun q => by have := (f0 rfl).mpr q; cases this)
  · exact q_jn_ne x1 x2 y1 y2 ((f1 rfl).mp rfl)
  · have := (f2 rfl).mp rfl
    show a.1 ≤ X ∧ X ≤ min a.2 (b.2 - 1)
    omega
  · have : ¬ Y ≤ X := fun q => by have := (f3 rfl).mpr q; cases this
    show a.1 ≤ X ∧ X ≤ min a.2 (b.2 - 1)
    omega
  · have : ¬ X < Y := fun q => by have := (f2 rfl).mpr q; cases this
    show max a.1 b.1 ≤ X ∧ X ≤ a.2
    omega
  · have := (f3 rfl).mp rfl
    show max a.1 b.1 ≤ X ∧ X ≤ a.2
    omega
  · have := (f4 rfl).mp rfl
    show max a.1 (b.1 + 1) ≤ X ∧ X ≤ a.2
    omega
  · have : ¬ X ≤ Y := fun q => by have := (f5 rfl).mpr q; cases this
    show max a.1 (b.1 + 1) ≤ X ∧ X ≤ a.2
    omega
  · have : ¬ Y < X := fun q => by have := (f4 rfl).mpr q; cases this
    show a.1 ≤ X ∧ X ≤ min a.2 b.2
    omega
  · have := (f5 rfl).mp rfl
    show a.1 ≤ X ∧ X ≤ min a.2 b.2
    omega
  · exact ⟨x1, x2⟩
