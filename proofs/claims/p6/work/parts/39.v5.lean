/-! the statics at the start, as the Statement gives them -/
def g_tm (i : Nat) : Term := match i with
  | 0 => .string "GoodbyeQuay$Reader" 75
  | _ => .string "GoodbyeQuay$Reader" 95
set_option maxRecDepth 100000 in
theorem g_e0 : ∀ j, j < 11 → (Cond.eq (.elem (.field (.string "GoodbyeQuay$Reader" 75) "java/lang/String" "value" "[B") (.int (Int32.ofNat j))) (.int ((q_sb.getD 0 []).getD j 0))) ∈ flatC (Jvm.Cond.and given_1 narrow_1) := by decide +kernel
set_option maxRecDepth 100000 in
theorem g_e1 : ∀ j, j < 96 → (Cond.eq (.elem (.field (.string "GoodbyeQuay$Reader" 95) "java/lang/String" "value" "[B") (.int (Int32.ofNat j))) (.int ((q_sb.getD 1 []).getD j 0))) ∈ flatC (Jvm.Cond.and given_1 narrow_1) := by decide +kernel
set_option maxRecDepth 100000 in
theorem g_e2 : ∀ j, j < 8 → (Cond.eq (.elem (.static "GoodbyeQuay" "ORDERS_OF" "[I") (.int (Int32.ofNat j))) (.int (q_ord.getD j 0))) ∈ flatC (Jvm.Cond.and given_1 narrow_1) := by decide +kernel
theorem g_ST {s : State} {b : Addr} (hts : ∀ w ∈ lw_tbl, w.before #[Value.ref b] s = true) (hgv : (Jvm.Cond.and given_1 narrow_1).before #[Value.ref b] s = true) : q_ST s.heap.size s := by
  have hs := flat_of_before _ hgv
  have hA : ∀ a : Nat, a < s.heap.size → ¬ q_SA s.heap.size a := fun a h1 h2 => by
    have h3 : s.heap.size ≤ a := h2
    omega
  have two : ∀ {P : Nat → Prop}, P 0 → P 1 → ∀ i, i < 2 → P i := fun h0 h1 i hi => by
    rcases (show i = 0 ∨ i = 1 by omega) with rfl | rfl
    · exact h0
    · exact h1
  obtain ⟨K, V, hS, hK⟩ := vk_Sof (args := #[Value.ref b]) (s := s) (N := 2) (tm := g_tm) (len := q_sl) (byt := q_sb) (A := q_SA s.heap.size) (two (by decide) (by decide))
    (two (hs (Cond.exactly (.string "GoodbyeQuay$Reader" 75) "java/lang/String") (by decide +kernel)) (hs (Cond.exactly (.string "GoodbyeQuay$Reader" 95) "java/lang/String") (by decide +kernel)))
    (two (hs (Cond.eq (.field (.string "GoodbyeQuay$Reader" 75) "java/lang/String" "coder" "B") (.int 0)) (by decide +kernel)) (hs (Cond.eq (.field (.string "GoodbyeQuay$Reader" 95) "java/lang/String" "coder" "B") (.int 0)) (by decide +kernel)))
    (two (hs (Cond.arrayOf (.field (.string "GoodbyeQuay$Reader" 75) "java/lang/String" "value" "[B") .byte) (by decide +kernel)) (hs (Cond.arrayOf (.field (.string "GoodbyeQuay$Reader" 95) "java/lang/String" "value" "[B") .byte) (by decide +kernel)))
    (two (hs (Cond.eq (.length (.field (.string "GoodbyeQuay$Reader" 75) "java/lang/String" "value" "[B")) (.int (Int32.ofNat 11))) (by decide +kernel)) (hs (Cond.eq (.length (.field (.string "GoodbyeQuay$Reader" 95) "java/lang/String" "value" "[B")) (.int (Int32.ofNat 96))) (by decide +kernel)))
    (two (fun j hj => hs _ (g_e0 j hj)) (fun j hj => hs _ (g_e1 j hj)))
    (fun i j hi hj hij => by
      rcases (show i = 0 ∨ i = 1 by omega) with rfl | rfl
      · rcases (show j = 0 ∨ j = 1 by omega) with rfl | rfl
        · exact absurd rfl hij
        · exact Or.inr (hs (Cond.not (Cond.eq (.string "GoodbyeQuay$Reader" 95) (.string "GoodbyeQuay$Reader" 75))) (by decide +kernel))
      · rcases (show j = 0 ∨ j = 1 by omega) with rfl | rfl
        · exact Or.inl (hs (Cond.not (Cond.eq (.string "GoodbyeQuay$Reader" 95) (.string "GoodbyeQuay$Reader" 75))) (by decide +kernel))
        · exact absurd rfl hij) hA
  obtain ⟨t, ht, hT⟩ := va_Tof (args := #[Value.ref b]) (s := s) (tm := .static "GoodbyeQuay" "ORDERS_OF" "[I") (ty := .int) (N := 8) (f := fun j => .int (q_ord.getD j 0)) (A := q_SA s.heap.size) (by decide) (hs _ (by decide +kernel)) (va_eqt (hs (Cond.eq (.length (.static "GoodbyeQuay" "ORDERS_OF" "[I")) (.int (Int32.ofNat 8))) (by decide +kernel))) (fun j hj => va_eqt (hs _ (g_e2 j hj))) hA
  refine ⟨K, V, t, ⟨hS, va_Zof (hts _ (by decide +kernel)) (hts _ (by decide +kernel)) (va_eqi (hs _ (by decide +kernel))) hA, va_Zqof (hts _ (by decide +kernel)) (hts _ (by decide +kernel)) (hs _ (by decide +kernel)) hA⟩, ?_, ?_, va_Zref (hts _ (by decide +kernel)) (hts _ (by decide +kernel)) ht hA, hT⟩
  · exact vk_R.of (A := #[Value.ref b]) (hts (Cond.stringRef "GoodbyeQuay$Reader" 75 ";()<>=+-*/%") (by decide +kernel)) (hK 0 (by decide))
  · exact vk_R.of (A := #[Value.ref b]) (hts (Cond.stringRef "GoodbyeQuay$Reader" 95 "ship pair rails lasts quarrels draw custom needs love behind left minute sails waits or and not ") (by decide +kernel)) (hK 1 (by decide))
