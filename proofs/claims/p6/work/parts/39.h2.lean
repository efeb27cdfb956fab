/-! by hand: the model's divisor, a loop whose second number falls -/
theorem y_toIntB (x : Int32) : -2147483648 ≤ x.toInt ∧ x.toInt ≤ 2147483647 := by
  have h1 := q_pc_int x
  have h2 := q_pc_lt x
  omega
theorem y_rem {x y : Int32} (hx : 0 ≤ x.toInt) (hy : 0 < y.toInt) : (x - x / y * y).toInt = x.toInt % y.toInt ∧ 0 ≤ (x - x / y * y).toInt ∧ (x - x / y * y).toInt < y.toInt := by
  have hx2 : x.toInt = ((x.toInt.toNat : Nat) : Int) := by omega
  have hy2 : y.toInt = ((y.toInt.toNat : Nat) : Int) := by omega
  have e := q_rem_int hx2 hy2 (by omega)
  have h1 : x.toInt.toNat % y.toInt.toNat < y.toInt.toNat := Nat.mod_lt _ (by omega)
  have e2 : ((x.toInt.toNat % y.toInt.toNat : Nat) : Int) = x.toInt % y.toInt := by
    rw [Int.natCast_emod, ← hx2, ← hy2]
  omega
theorem y_irem {sh : w_Sh} {ts : List q_T} {d : Nat} {t : q_T} {Q : Option (q_V Int32) → y_H → Prop} {p : Nat} {ls : q_U Int32} {st : List (q_V Int32)} {s : y_H} {len : Nat} {r : List Nat} {x y : Int32} (hq : q_get t p = some (.irem, len, r)) (hy : y.toInt ≠ 0) (hw : y_W sh ts d t Q (p + len) ls (.inl (x - x / y * y) :: st) s) : y_W sh ts d t Q p ls (.inl y :: .inl x :: st) s := by
  refine y_W.step (fun h ns hR => ⟨0, h, ?_, hR⟩) hw
  have hy0 : y ≠ 0 := fun e => by subst e; exact hy rfl
  unfold q_step
  dsimp only
  rw [hq]
  show q_b2 q_O32 10 len (p, ls, .inl y :: .inl x :: st) h ns = _
  unfold q_b2
  dsimp only
  rw [show q_O32.2.1 10 x y = some (x - x / y * y) from if_neg hy0]
  rfl
/-- the loop: y falls; the answer is above 0 where x is, or y -/
theorem y_div_loop {sh : w_Sh} {d : Nat} {Q : Option (q_V Int32) → y_H → Prop} {s : y_H} (hQ : ∀ v : Int32, 0 ≤ v.toInt → Q (some (.inl v)) s) : ∀ (n : Nat) (x y : Int32), 0 ≤ x.toInt → y.toInt ≤ (n : Int) → y_W sh g_ts d g_t194 Q 22 [(2, .inl x), (3, .inl y)] [] s := by
  intro n
  induction n with
  | zero =>
    intro x y hx hy
    refine y_run 1 rfl ?_
    refine y_if rfl (fun _ => ?_) (fun hc => absurd (show y.toInt ≤ 0 by omega) hc)
    refine y_run 1 rfl ?_
    exact y_iret rfl (hQ x hx)
  | succ n ih =>
    intro x y hx hy
    refine y_run 1 rfl ?_
    refine y_if rfl (fun _ => ?_) (fun hc => ?_)
    · refine y_run 1 rfl ?_
      exact y_iret rfl (hQ x hx)
    · have hy0 : 0 < y.toInt := by
        have hc2 : ¬ y.toInt ≤ 0 := hc
        omega
      refine y_run 2 rfl ?_
      refine y_irem rfl (by omega) ?_
      refine y_run 6 rfl ?_
      have hr := y_rem hx hy0
      refine y_sub (ls1 := [(2, .inl y), (3, .inl (x - x / y * y))]) (show ([2, 3] : List Nat).Nodup by decide) (y_R_cons rfl (y_R_cons rfl y_R_nil)) (ih y _ (by omega) (by omega))
theorem y_neg {x : Int32} (h : x.toInt < 0) (h2 : -2147483648 < x.toInt) : (-x).toInt = - x.toInt := by
  have hb := y_toIntB x
  rw [Int32.toInt_neg]
  apply Int.bmod_eq_of_le <;> omega
/-- divisor, of a first number that is no least int: it ends, its answer is not below 0 -/
theorem y_divisor {sh : w_Sh} : y_C sh g_ts 194 1 (fun a _ => ∃ x y, a = [.inl x, .inl y] ∧ -2147483648 < x.toInt) (fun _ s v s2 => s2 = s ∧ ∃ w : Int32, v = some (.inl w) ∧ 0 ≤ w.toInt) := by
  refine y_C.of (t := g_t194) rfl (by decide) ?_
  rintro d a s - ⟨x, y, rfl, hx⟩
  have hloop : ∀ (x y : Int32) (l : q_U Int32), 0 ≤ x.toInt → y_W sh g_ts d g_t194 (fun v s2 => s2 = s ∧ ∃ w : Int32, v = some (.inl w) ∧ 0 ≤ w.toInt) 22 ((3, .inl y) :: (2, .inl x) :: l) [] s := by
    intro x y l hx
    refine y_sub (ls1 := [(2, .inl x), (3, .inl y)]) (show ([2, 3] : List Nat).Nodup by decide) (y_R_cons rfl (y_R_cons rfl y_R_nil)) ?_
    exact y_div_loop (fun v hv => ⟨rfl, v, rfl, hv⟩) y.toInt.toNat x y hx (by omega)
  have hsec : ∀ (x0 : Int32) (l : q_U Int32), 0 ≤ x0.toInt → l = [(0, .inl x), (1, .inl y)] → y_W sh g_ts d g_t194 (fun v s2 => s2 = s ∧ ∃ w : Int32, v = some (.inl w) ∧ 0 ≤ w.toInt) 11 ((2, .inl x0) :: l) [] s := by
    rintro x0 l h0 rfl
    refine y_run 1 rfl ?_
    refine y_if rfl (fun _ => ?_) (fun _ => ?_)
    · refine y_run 2 rfl ?_
      exact hloop _ _ _ h0
    · refine y_run 4 rfl ?_
      exact hloop _ _ _ h0
  refine y_run 1 rfl ?_
  refine y_if rfl (fun hc => ?_) (fun hc => ?_)
  · refine y_run 2 rfl ?_
    exact hsec _ _ hc rfl
  · have hc2 : ¬ 0 ≤ x.toInt := hc
    refine y_run 4 rfl ?_
    refine hsec _ _ ?_ rfl
    show 0 ≤ (-x).toInt
    rw [y_neg (by omega) hx]
    omega
