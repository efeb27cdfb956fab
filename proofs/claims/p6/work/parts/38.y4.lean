section YW
variable {sh : w_Sh} {ts : List q_T} {d : Nat} {t : q_T} {Q : Option (q_V Int32) → y_H → Prop} {p : Nat} {ls : q_U Int32} {st : List (q_V Int32)} {s : y_H}
/-- one step -/
theorem y_W.step {p2 : Nat} {ls2 : q_U Int32} {st2 : List (q_V Int32)} {s2 : y_H} (hs : ∀ h ns, w_Rep sh h (y_mk sh s) → ∃ n h2, q_step q_O32 none (q_call q_O32 ts n d) t (p, ls, st) h ns = some (.inl ((p2, ls2, st2), h2, ns)) ∧ w_Rep sh h2 (y_mk sh s2)) (hw : y_W sh ts d t Q p2 ls2 st2 s2) : y_W sh ts d t Q p ls st s := by
  intro h ns hR
  obtain ⟨n, h2, hq, hR2⟩ := hs h ns hR
  obtain ⟨v, h3, s3, he, hR3, hQ⟩ := hw h2 ns hR2
  exact ⟨v, h3, s3, q_Ends.step hq he, hR3, hQ⟩
/-- a stretch of code without a choice: hs by rfl -/
theorem y_run (n : Nat) {p2 : Nat} {ls2 : q_U Int32} {st2 : List (q_V Int32)} {s2 : y_H} (hs : y_it sh t n p ls st s = some (p2, ls2, st2, s2)) (hw : y_W sh ts d t Q p2 ls2 st2 s2) : y_W sh ts d t Q p ls st s := by
  induction n generalizing p ls st s with
  | zero =>
    cases hs
    exact hw
  | succ n ih =>
    unfold y_it at hs
    split at hs
    next q hq =>
      split at hs
      next p3 ls3 st3 s3 ha =>
        refine y_W.step (p2 := p3) (ls2 := ls3) (st2 := st3) (s2 := s3) (fun h ns hR => ?_) (ih hs)
        obtain ⟨h2, hx, hR2⟩ := y_act_ok (cal := q_call q_O32 ts 0 d) (ns := ns) hR ha
        refine ⟨0, h2, ?_, hR2⟩
        unfold q_step
        dsimp only
        rw [hq]
        exact hx
      next => cases hs
    next => cases hs
abbrev y_cmp (cd : Jvm.ClassFile.Cond) (a b : Int) : Prop := match cd with
  | .eq => a = b
  | .ne => a ≠ b
  | .lt => a < b
  | .ge => b ≤ a
  | .gt => b < a
  | .le => a ≤ b
theorem y_cm (cd : Jvm.ClassFile.Cond) (x y : Int32) : (y_cmp cd x.toInt y.toInt ∧ q_cm (q_cn cd) x y = some true) ∨ (¬ y_cmp cd x.toInt y.toInt ∧ q_cm (q_cn cd) x y = some false) := by
  have dd : ∀ (P R : Prop) [Decidable R], (P ↔ R) → (P ∧ some (decide R) = some true) ∨ (¬ P ∧ some (decide R) = some false) := by
    intro P R _ h
    by_cases hR : R
    · exact Or.inl ⟨h.mpr hR, by rw [decide_eq_true hR]⟩
    · exact Or.inr ⟨fun q => hR (h.mp q), by rw [decide_eq_false hR]⟩
  cases cd with
  | eq => exact dd _ _ Int32.toInt_inj
  | ne => exact dd _ _ (not_congr Int32.toInt_inj)
  | lt => exact dd _ _ Int32.lt_iff_toInt_lt.symm
  | ge => exact dd _ _ Int32.le_iff_toInt_le.symm
  | gt => exact dd _ _ Int32.lt_iff_toInt_lt.symm
  | le => exact dd _ _ Int32.le_iff_toInt_le.symm
theorem y_ic {cd : Jvm.ClassFile.Cond} {off : Int} {len tg : Nat} {x y : Int32} (hq : q_get t p = some (.if_icmp cd off, len, [tg])) (h1 : y_cmp cd x.toInt y.toInt → y_W sh ts d t Q tg ls st s) (h2 : ¬ y_cmp cd x.toInt y.toInt → y_W sh ts d t Q (p + len) ls st s) : y_W sh ts d t Q p ls (.inl y :: .inl x :: st) s := by
  rcases y_cm cd x y with ⟨hc, hb⟩ | ⟨hc, hb⟩
  · refine y_W.step (fun h ns hR => ⟨0, h, ?_, hR⟩) (h1 hc)
    unfold q_step
    dsimp only
    rw [hq]
    show q_jmp [tg] len (q_cm (q_cn cd) x y) _ st h ns = _
    rw [hb]
    rfl
  · refine y_W.step (fun h ns hR => ⟨0, h, ?_, hR⟩) (h2 hc)
    unfold q_step
    dsimp only
    rw [hq]
    show q_jmp [tg] len (q_cm (q_cn cd) x y) _ st h ns = _
    rw [hb]
    rfl
theorem y_if {cd : Jvm.ClassFile.Cond} {off : Int} {len tg : Nat} {x : Int32} (hq : q_get t p = some (.ifCond cd off, len, [tg])) (h1 : y_cmp cd x.toInt 0 → y_W sh ts d t Q tg ls st s) (h2 : ¬ y_cmp cd x.toInt 0 → y_W sh ts d t Q (p + len) ls st s) : y_W sh ts d t Q p ls (.inl x :: st) s := by
  rcases y_cm cd x 0 with ⟨hc, hb⟩ | ⟨hc, hb⟩
  · refine y_W.step (fun h ns hR => ⟨0, h, ?_, hR⟩) (h1 hc)
    unfold q_step
    dsimp only
    rw [hq]
    show q_jmp [tg] len (q_cm (q_cn cd) x 0) _ st h ns = _
    rw [hb]
    rfl
  · refine y_W.step (fun h ns hR => ⟨0, h, ?_, hR⟩) (h2 hc)
    unfold q_step
    dsimp only
    rw [hq]
    show q_jmp [tg] len (q_cm (q_cn cd) x 0) _ st h ns = _
    rw [hb]
    rfl
theorem y_ix {x : Int32} {j : Nat} (hx : x.toInt = (j : Int)) : q_ix x = some j := by
  have e := q_pc_int x
  rw [w_ix (by omega)]
  rw [show q_pc x - 2147483648 = j by omega]
/-- an element of a row of ints -/
theorem y_ald {len : Nat} {r : List Nat} {n o sz j : Nat} {x : Int32} (hq : q_get t p = some (.iaload, len, r)) (hr : y_ref sh n = some (o, 100, sz)) (hx : x.toInt = (j : Int)) (hj : j < sz) (hk : y_kd sh o j = 0) (hw : y_W sh ts d t Q (p + len) ls (.inl (s.1 o j) :: st) s) : y_W sh ts d t Q p ls (.inl x :: .inr (.inr n) :: st) s := by
  refine y_W.step (fun h ns hR => ⟨0, h, ?_, hR⟩) hw
  obtain ⟨rfl, u, hu⟩ := y_ref_ok hR hr
  have hel := (hR.2 o _ hu j hj).2 (Nat.le_refl 100)
  have hv : y_mk sh s o j = .inl (s.1 o j) := by
    show y_v (y_kd sh o j) s o j = _
    rw [hk]
    rfl
  unfold q_step
  dsimp only
  rw [hq]
  show q_ald q_O32 none 100 0 len (p, ls, .inl x :: .inr (.inr (o + 2)) :: st) h ns = _
  unfold q_ald
  dsimp only
  rw [hu, show q_O32.2.2.2.2.1 x = some j from y_ix hx]
  dsimp only
  rw [hel, hv]
  rw [show ((Nat.beq 100 100 || (Nat.beq 100 101 && Nat.beq 100 102)) && (Nat.blt j sz && Nat.beq (q_kind (.inl (s.1 o j) : q_V Int32)) 0)) = true by
    rw [Bool.and_eq_true, Bool.and_eq_true, Nat.blt_eq]
    exact ⟨rfl, hj, rfl⟩, cond_true]
  rfl
/-- an int into a row of ints -/
theorem y_ast {len : Nat} {r : List Nat} {n o sz j : Nat} {x v : Int32} (hq : q_get t p = some (.iastore, len, r)) (hr : y_ref sh n = some (o, 100, sz)) (hx : x.toInt = (j : Int)) (hj : j < sz) (hk : y_kd sh o j = 0) (hw : y_W sh ts d t Q (p + len) ls st (y_up s o j (.inl v))) : y_W sh ts d t Q p ls (.inl v :: .inl x :: .inr (.inr n) :: st) s := by
  refine y_W.step (fun h ns hR => ?_) hw
  obtain ⟨rfl, u, hu⟩ := y_ref_ok hR hr
  refine ⟨0, h.set o (100, sz, (j, .inl v) :: u), ?_, ?_⟩
  · unfold q_step
    dsimp only
    rw [hq]
    show q_ast q_O32 100 len (p, ls, .inl v :: .inl x :: .inr (.inr (o + 2)) :: st) h ns = _
    unfold q_ast
    dsimp only
    rw [hu, show q_O32.2.2.2.2.1 x = some j from y_ix hx]
    dsimp only
    rw [show ((Nat.beq 100 100 || (Nat.beq 100 101 && Nat.beq 100 102)) && Nat.blt j sz) = true by
      rw [Bool.and_eq_true, Nat.blt_eq]
      exact ⟨rfl, hj⟩, cond_true]
    rfl
  · rw [y_up_mk (by rw [hk]; rfl)]
    exact w_Rep_set hR hu _
theorem y_iret {len : Nat} {x : Int32} (hq : q_get t p = some (.ireturn, len, [0])) (hQ : Q (some (.inl x)) s) : y_W sh ts d t Q p ls [.inl x] s := by
  intro h ns hR
  refine ⟨some (.inl x), h, s, q_Ends.ret (n := 0) ?_, hR, hQ⟩
  unfold q_step
  dsimp only
  rw [hq]
  rfl
theorem y_bret {len : Nat} {x : Int32} (hq : q_get t p = some (.ireturn, len, [1])) (hx : x = 0 ∨ x = 1) (hQ : Q (some (.inl x)) s) : y_W sh ts d t Q p ls [.inl x] s := by
  intro h ns hR
  refine ⟨some (.inl x), h, s, q_Ends.ret (n := 0) ?_, hR, hQ⟩
  unfold q_step
  dsimp only
  rw [hq]
  rcases hx with rfl | rfl <;> rfl
theorem y_vret {len : Nat} {r : List Nat} (hq : q_get t p = some (.return_, len, r)) (hQ : Q none s) : y_W sh ts d t Q p ls [] s := by
  intro h ns hR
  refine ⟨none, h, s, q_Ends.ret (n := 0) ?_, hR, hQ⟩
  unfold q_step
  dsimp only
  rw [hq]
  rfl
end YW
