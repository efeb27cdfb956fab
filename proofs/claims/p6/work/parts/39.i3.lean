/-! by hand: divisor of a first number above 0 is above 0 -/
theorem y_div_loop1 {sh : w_Sh} {d : Nat} {Q : Option (q_V Int32) → y_H → Prop} {s : y_H} (hQ : ∀ v : Int32, 1 ≤ v.toInt → Q (some (.inl v)) s) : ∀ (n : Nat) (x y : Int32), 1 ≤ x.toInt → y.toInt ≤ (n : Int) → y_W sh g_ts d g_t194 Q 22 [(2, .inl x), (3, .inl y)] [] s := by
  intro n
  induction n with
  | zero =>
    intro x y hx hy
    refine y_run 1 rfl ?_
    refine y_if rfl (fun _ => ?_) (fun hc => absurd (show y.toInt ≤ 0 by omega) hc)
    refine y_run 1 rfl ?_
    exact y_iret rfl (hQ x hx)
  | succ n ih =>
    intro x y hx hy
    refine y_run 1 rfl ?_
    refine y_if rfl (fun _ => ?_) (fun hc => ?_)
    · refine y_run 1 rfl ?_
      exact y_iret rfl (hQ x hx)
    · have hy0 : 0 < y.toInt := by
        have hc2 : ¬ y.toInt ≤ 0 := hc
        omega
      refine y_run 2 rfl ?_
      refine y_irem rfl (by omega) ?_
      refine y_run 6 rfl ?_
      have hr := y_rem (show 0 ≤ x.toInt by omega) hy0
      exact y_sub (ls1 := [(2, .inl y), (3, .inl (x - x / y * y))]) (show ([2, 3] : List Nat).Nodup by decide) (y_R_cons rfl (y_R_cons rfl y_R_nil)) (ih y _ (by omega) (by omega))
theorem y_divisor1 {sh : w_Sh} : y_C sh g_ts 194 1 (fun a _ => ∃ x y, a = [.inl x, .inl y] ∧ 1 ≤ x.toInt) (fun _ s v s2 => s2 = s ∧ ∃ w : Int32, v = some (.inl w) ∧ 1 ≤ w.toInt) := by
  refine y_C.of (t := g_t194) rfl (by decide) ?_
  rintro d a s - ⟨x, y, rfl, hx⟩
  have hloop : ∀ (x y : Int32) (l : q_U Int32), 1 ≤ x.toInt → y_W sh g_ts d g_t194 (fun v s2 => s2 = s ∧ ∃ w : Int32, v = some (.inl w) ∧ 1 ≤ w.toInt) 22 ((3, .inl y) :: (2, .inl x) :: l) [] s := by
    intro x y l hx
    refine y_sub (ls1 := [(2, .inl x), (3, .inl y)]) (show ([2, 3] : List Nat).Nodup by decide) (y_R_cons rfl (y_R_cons rfl y_R_nil)) ?_
    exact y_div_loop1 (fun v hv => ⟨rfl, v, rfl, hv⟩) y.toInt.toNat x y hx (by omega)
  refine y_run 1 rfl ?_
  refine y_if rfl (fun hc => ?_) (fun hc => absurd (show 0 ≤ x.toInt by omega) hc)
  refine y_run 3 rfl ?_
  refine y_if rfl (fun _ => ?_) (fun _ => ?_)
  · refine y_run 2 rfl ?_
    exact hloop _ _ _ hx
  · refine y_run 4 rfl ?_
    exact hloop _ _ _ hx
/-- for the checker -/
theorem y_divisorE {V : w_V} : w_Ent V g_sh g_ts (194, [w_n 1 2147483647 0, w_t 0], [], [], [([], some (w_n 1 2147483647 0), [])], 1) := by
  refine y_C.toE g_shok g_pkok rfl ?_
  refine y_C.weak y_divisor1 (Nat.le_refl 1) ?_ ?_
  · rintro a s ⟨-, ha, -⟩
    rcases a with _ | ⟨v1, _ | ⟨v2, _ | ⟨v3, a⟩⟩⟩
    · exact ha.elim
    · exact ha.2.elim
    · obtain ⟨⟨x, rfl, hx, -⟩, ⟨y, rfl, -, -⟩, -⟩ := ha
      have h1 : 2147483649 ≤ q_pc x := hx.1
      have h2 := q_pc_int x
      exact ⟨x, y, rfl, by omega⟩
    · exact ha.2.2.elim
  · rintro a s v s2 ⟨hT, -, -⟩ ⟨rfl, w, rfl, hw⟩
    refine ⟨hT, y_fr.rf, _, List.mem_cons_self, (fun z hz => by cases hz), ?_, (fun q hq => by cases hq)⟩
    have hb := y_toIntB w
    exact y_iv (by omega) (by omega)
theorem y_bitCountE7 {V : w_V} : w_Ent V g_sh g_ts (325, [w_n 0 127 0], [], [], [([], some (w_n 0 7 0), [])], 1) := by
  refine y_C.toE g_shok g_pkok rfl ?_
  refine y_C.weak y_bitCount (Nat.le_refl 1) ?_ ?_
  · rintro a s ⟨-, ha, -⟩
    rcases a with _ | ⟨v1, _ | ⟨v2, a⟩⟩
    · exact ha.elim
    · obtain ⟨⟨x, rfl, hx, -⟩, -⟩ := ha
      exact ⟨x, rfl⟩
    · exact ha.2.elim
  · rintro a s v s2 ⟨hT, ha, -⟩ ⟨rfl, hv⟩
    rcases a with _ | ⟨v1, _ | ⟨v2, a⟩⟩
    · exact ha.elim
    · obtain ⟨⟨x, rfl, hx, -⟩, -⟩ := ha
      have h1 : 2147483648 ≤ q_pc x := hx.1
      have h2 : q_pc x ≤ 2147483775 := hx.2
      have h3 := q_pc_int x
      have hxc : x = Int32.ofNat x.toInt.toNat := by
        have e := q_at32_ok (x := x) rfl
        rw [← Int32.toInt_inj]
        have := w_ofInt (n := ((x.toInt.toNat : Nat) : Int)) (by omega) (by omega)
        have e2 : Int32.ofNat x.toInt.toNat = Int32.ofInt ((x.toInt.toNat : Nat) : Int) := rfl
        rw [e2, this]
        omega
      have hb := y_bc7 x.toInt.toNat (by omega)
      rw [← hxc] at hb
      rw [hv x rfl]
      refine ⟨hT, y_fr.rf, _, List.mem_cons_self, (fun z hz => by cases hz), ?_, (fun q hq => by cases hq)⟩
      exact y_iv (by omega) (by omega)
    · exact ha.2.elim
