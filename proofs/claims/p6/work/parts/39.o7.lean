/-! by hand: the model's quay -/
abbrev y_qaK : List (Nat × Nat) := [(266322, 266322), (266325, 266325), (266329, 266329), (266351, 266356)]
abbrev y_qbK : List (Nat × Nat) := [(286784, 287103), (290880, 291199)]
abbrev y_qcK : List (Nat × Nat) := [(266331, 266333), (266363, 266363), (266366, 266366), (266370, 266371), (266374, 266374), (266382, 266382), (327744, 327748), (331840, 331844), (335936, 335943), (340032, 340039), (344128, 344135), (348224, 348251), (352320, 352347), (356416, 356418), (360512, 360514), (364608, 364615), (368704, 368711), (426048, 426050)]
abbrev y_qyK : List (Nat × Nat) := [(266305, 266313), (266321, 266329), (266331, 266333), (266345, 266360), (266363, 266363), (266366, 266366), (266370, 266371), (266374, 266374), (266382, 266382), (274496, 274507), (278592, 278911), (282688, 283007), (286784, 287103), (290880, 291199), (294976, 295135), (307264, 307268), (311360, 311364), (315456, 315462), (319552, 319558), (323648, 323654), (327744, 327748), (331840, 331844), (335936, 335943), (340032, 340039), (344128, 344135), (348224, 348251), (352320, 352347), (356416, 356418), (360512, 360514), (364608, 364615), (368704, 368711), (426048, 426050)]
def y_qJ (K : List (Nat × Nat)) (s0 s : y_H) : Prop := w_T y_V0 g_sh (y_mk g_sh s) ∧ y_fr g_sh K s0 s
theorem y_qJ_up {K : List (Nat × Nat)} {s0 s : y_H} {o j sz lo hi : Nat} {x : Int32} (h : y_qJ K s0 s) (hs : g_sh[o]? = some (100, sz, [.inl ((lo, hi), 0)])) (hj : j < sz) (hm : w_inr K (w_key o 0) (w_key o (sz - 1)) = true) (h1 : (lo : Int) - 2147483648 ≤ x.toInt) (h2 : x.toInt ≤ (hi : Int) - 2147483648) : y_qJ K s0 (y_up s o j (.inl x)) :=
  ⟨y_Tup0 (lo := lo) (hi := hi) h.1 (y_tyA hs hj) (y_kdA hs) h1 h2, h.2.up (y_kdA hs) (y_msA hm hj)⟩
theorem y_qR {s : y_H} {o j sz lo hi : Nat} (hT : w_T y_V0 g_sh (y_mk g_sh s)) (hs : g_sh[o]? = some (100, sz, [.inl ((lo, hi), 0)])) (hj : j < sz) : (lo : Int) - 2147483648 ≤ (s.1 o j).toInt ∧ (s.1 o j).toInt ≤ (hi : Int) - 2147483648 := y_rng (lo := lo) (hi := hi) (g := 0) hT (y_tyA hs hj) (y_kdA hs)
theorem y_qFr {K : List (Nat × Nat)} {s0 s : y_H} {o j sz lo hi : Nat} (h : y_fr g_sh K s0 s) (hs : g_sh[o]? = some (100, sz, [.inl ((lo, hi), 0)])) (hj : j < sz) (hm : w_ovl K (w_key o 0) (w_key o (sz - 1)) = false) : s.1 o j = s0.1 o j := h.at (y_tyA hs hj) (y_kdA hs) (w_ovl_no hm (w_key_le (Nat.zero_le j)) (w_key_le (by omega)))
theorem y_VC_fr {n : Nat} {K : List (Nat × Nat)} {s s2 : y_H} (hf : y_fr g_sh K s s2) (hm : w_ovl K 0 266303 = false) (h : y_VC n s.1) : y_VC n s2.1 := by
  have h1 : y_VC n (fun o k => if o < 65 then s2.1 o k else s.1 o k) := by
    refine y_VC_eq (fun o k hk hp => ?_) h
    show (if o < 65 then s2.1 o k else s.1 o k) = s.1 o k
    by_cases ho : o < 65
    · rw [if_pos ho]
      obtain ⟨A, hA⟩ := y_pk_ok g_pkok hk hp
      exact hf.at hA (y_pk0 hk hp) (w_ovl_no hm (Nat.zero_le _) (by unfold w_key; omega))
    · rw [if_neg ho]
  exact y_VC_eq2 (fun o k ho => (if_pos ho).symm) h1
theorem y_qu1 {d : Nat} {s0 : y_H} {Q : Option (q_V Int32) → y_H → Prop} (hm : (s0.1 65 18).toInt ≤ 320) (hexit : ∀ (s : y_H) (ls : q_U Int32), y_qJ y_qbK s0 s → (∀ j : Nat, (j : Int) < (s0.1 65 18).toInt → s.1 70 j = s0.1 68 j ∧ s.1 71 j = s0.1 69 j) → q_at ls 0 = some (.inr (.inr 67)) → y_W g_sh g_ts d g_t275 Q 136 ls [] s) : ∀ (c : Nat) (s : y_H) (i : Int32) (I : Nat), i.toInt = (I : Int) → I ≤ 320 → 320 - I ≤ c → y_qJ y_qbK s0 s → (∀ j : Nat, j < I → s.1 70 j = s0.1 68 j ∧ s.1 71 j = s0.1 69 j) → y_W g_sh g_ts d g_t275 Q 98 [(0, .inr (.inr 67)), (1, .inl i)] [] s := by
  intro c
  induction c with
  | zero =>
    intro s i I hi hI hc hJ hr
    have ef : s.1 65 18 = s0.1 65 18 := hJ.2.at (o := 65) (k := 18) (A := w_n 0 320 0) rfl rfl (by decide +kernel)
    refine y_run 3 rfl ?_
    refine y_ic rfl (fun h => ?_) (fun h => ?_)
    · have h2 : (s.1 65 18).toInt ≤ i.toInt := h
      rw [ef] at h2
      exact hexit s _ hJ (fun j hj => hr j (by omega)) rfl
    have h2 : ¬ (s.1 65 18).toInt ≤ i.toInt := h
    rw [ef] at h2
    omega
  | succ c ih =>
    intro s i I hi hI hc hJ hr
    have ef : s.1 65 18 = s0.1 65 18 := hJ.2.at (o := 65) (k := 18) (A := w_n 0 320 0) rfl rfl (by decide +kernel)
    have hi1 : (i + (Int32.ofInt 1)).toInt = i.toInt + 1 := y_add (x := i) (y := 1) (by show _ ≤ _ + (1 : Int); omega) (by show _ + (1 : Int) ≤ _; omega)
    refine y_run 3 rfl ?_
    refine y_ic rfl (fun h => ?_) (fun h => ?_)
    · have h2 : (s.1 65 18).toInt ≤ i.toInt := h
      rw [ef] at h2
      exact hexit s _ hJ (fun j hj => hr j (by omega)) rfl
    have h2 : ¬ (s.1 65 18).toInt ≤ i.toInt := h
    rw [ef] at h2
    have hIm : I < 320 := by omega
    refine y_run 6 rfl ?_
    refine y_ald (o := 68) (sz := 320) (j := I) rfl rfl hi (by omega) (y_kdA (tag := 100) (sz := 320) (a := ((2147483648, 2147483651), 0)) rfl) ?_
    refine y_ast (o := 70) (sz := 320) (j := I) rfl rfl hi (by omega) (y_kdA (tag := 100) (sz := 320) (a := ((2147483648, 2147483651), 0)) rfl) ?_
    have b0 := y_qR (s := s) (o := 68) (sz := 320) (lo := 2147483648) (hi := 2147483651) (j := I) hJ.1 rfl (by omega)
    have hJ0 := y_qJ_up (o := 70) (sz := 320) (lo := 2147483648) (hi := 2147483651) (j := I) (x := s.1 68 I) hJ rfl (by omega) (by decide +kernel) b0.1 b0.2
    refine y_run 6 rfl ?_
    refine y_ald (o := 69) (sz := 320) (j := I) rfl rfl hi (by omega) (y_kdA (tag := 100) (sz := 320) (a := ((0, 4294967295), 0)) rfl) ?_
    refine y_ast (o := 71) (sz := 320) (j := I) rfl rfl hi (by omega) (y_kdA (tag := 100) (sz := 320) (a := ((0, 4294967295), 0)) rfl) ?_
    have b1 := y_qR (s := (y_up s 70 I (.inl (s.1 68 I)))) (o := 69) (sz := 320) (lo := 0) (hi := 4294967295) (j := I) hJ0.1 rfl (by omega)
    have hJ1 := y_qJ_up (o := 71) (sz := 320) (lo := 0) (hi := 4294967295) (j := I) (x := (y_up s 70 I (.inl (s.1 68 I))).1 69 I) hJ0 rfl (by omega) (by decide +kernel) b1.1 b1.2
    refine y_run 2 rfl ?_
    refine y_sub (ls1 := [(0, .inr (.inr 67)), (1, .inl ((i + (Int32.ofInt 1))))]) (show ([0, 1] : List Nat).Nodup by decide) (y_R_cons rfl (y_R_cons rfl y_R_nil)) ?_
    refine ih _ (i + (Int32.ofInt 1)) (I + 1) (by rw [hi1, hi]; omega) (by omega) (by omega) hJ1 (fun j hj => ?_)
    have e68 : ∀ j, j < 320 → s.1 68 j = s0.1 68 j := fun j hj => y_qFr (o := 68) (sz := 320) (lo := 2147483648) (hi := 2147483651) hJ.2 rfl hj (by decide +kernel)
    have e69 : ∀ j, j < 320 → s.1 69 j = s0.1 69 j := fun j hj => y_qFr (o := 69) (sz := 320) (lo := 0) (hi := 4294967295) hJ.2 rfl hj (by decide +kernel)
    by_cases e : j = I
    · subst e
      exact ⟨(y_up_ne (by omega)).trans (y_up_self.trans (e68 j hIm)), y_up_self.trans ((y_up_ne (by omega)).trans (e69 j hIm))⟩
    · exact ⟨(y_up_ne (by omega)).trans ((y_up_ne (by omega)).trans (hr j (by omega)).1), (y_up_ne (by omega)).trans ((y_up_ne (by omega)).trans (hr j (by omega)).2)⟩
theorem y_qu2 {d : Nat} {s0 : y_H} {Q : Option (q_V Int32) → y_H → Prop} (hm : (s0.1 65 47).toInt ≤ 5) (hexit : ∀ (s : y_H) (ls : q_U Int32), y_qJ y_qcK s0 s → q_at ls 0 = some (.inr (.inr 67)) → y_W g_sh g_ts d g_t275 Q 176 ls [] s) : ∀ (c : Nat) (s : y_H) (i : Int32) (I : Nat), i.toInt = (I : Int) → I ≤ 5 → 5 - I ≤ c → y_qJ y_qcK s0 s → y_W g_sh g_ts d g_t275 Q 138 [(0, .inr (.inr 67)), (1, .inl i)] [] s := by
  intro c
  induction c with
  | zero =>
    intro s i I hi hI hc hJ
    have ef : s.1 65 47 = s0.1 65 47 := hJ.2.at (o := 65) (k := 47) (A := w_n 0 5 0) rfl rfl (by decide +kernel)
    refine y_run 3 rfl ?_
    refine y_ic rfl (fun h => ?_) (fun h => ?_)
    · have h2 : (s.1 65 47).toInt ≤ i.toInt := h
      rw [ef] at h2
      exact hexit s _ hJ rfl
    have h2 : ¬ (s.1 65 47).toInt ≤ i.toInt := h
    rw [ef] at h2
    omega
  | succ c ih =>
    intro s i I hi hI hc hJ
    have ef : s.1 65 47 = s0.1 65 47 := hJ.2.at (o := 65) (k := 47) (A := w_n 0 5 0) rfl rfl (by decide +kernel)
    have hi1 : (i + (Int32.ofInt 1)).toInt = i.toInt + 1 := y_add (x := i) (y := 1) (by show _ ≤ _ + (1 : Int); omega) (by show _ + (1 : Int) ≤ _; omega)
    refine y_run 3 rfl ?_
    refine y_ic rfl (fun h => ?_) (fun h => ?_)
    · have h2 : (s.1 65 47).toInt ≤ i.toInt := h
      rw [ef] at h2
      exact hexit s _ hJ rfl
    have h2 : ¬ (s.1 65 47).toInt ≤ i.toInt := h
    rw [ef] at h2
    have hIm : I < 5 := by omega
    refine y_run 6 rfl ?_
    refine y_ald (o := 75) (sz := 5) (j := I) rfl rfl hi (by omega) (y_kdA (tag := 100) (sz := 5) (a := ((2147483648, 2147493647), 0)) rfl) ?_
    refine y_ast (o := 80) (sz := 5) (j := I) rfl rfl hi (by omega) (y_kdA (tag := 100) (sz := 5) (a := ((2147483648, 2147493647), 0)) rfl) ?_
    have b0 := y_qR (s := s) (o := 75) (sz := 5) (lo := 2147483648) (hi := 2147493647) (j := I) hJ.1 rfl (by omega)
    have hJ0 := y_qJ_up (o := 80) (sz := 5) (lo := 2147483648) (hi := 2147493647) (j := I) (x := s.1 75 I) hJ rfl (by omega) (by decide +kernel) b0.1 b0.2
    refine y_run 6 rfl ?_
    refine y_ald (o := 76) (sz := 5) (j := I) rfl rfl hi (by omega) (y_kdA (tag := 100) (sz := 5) (a := ((2147483648, 2147493647), 0)) rfl) ?_
    refine y_ast (o := 81) (sz := 5) (j := I) rfl rfl hi (by omega) (y_kdA (tag := 100) (sz := 5) (a := ((2147483648, 2147493647), 0)) rfl) ?_
    have b1 := y_qR (s := (y_up s 80 I (.inl (s.1 75 I)))) (o := 76) (sz := 5) (lo := 2147483648) (hi := 2147493647) (j := I) hJ0.1 rfl (by omega)
    have hJ1 := y_qJ_up (o := 81) (sz := 5) (lo := 2147483648) (hi := 2147493647) (j := I) (x := (y_up s 80 I (.inl (s.1 75 I))).1 76 I) hJ0 rfl (by omega) (by decide +kernel) b1.1 b1.2
    refine y_run 2 rfl ?_
    refine y_sub (ls1 := [(0, .inr (.inr 67)), (1, .inl ((i + (Int32.ofInt 1))))]) (show ([0, 1] : List Nat).Nodup by decide) (y_R_cons rfl (y_R_cons rfl y_R_nil)) ?_
    exact ih _ (i + (Int32.ofInt 1)) (I + 1) (by rw [hi1, hi]; omega) (by omega) (by omega) hJ1
theorem y_qu3 {d : Nat} {s0 : y_H} {Q : Option (q_V Int32) → y_H → Prop} (hm : (s0.1 65 48).toInt ≤ 7) (hexit : ∀ (s : y_H) (ls : q_U Int32), y_qJ y_qcK s0 s → q_at ls 0 = some (.inr (.inr 67)) → y_W g_sh g_ts d g_t275 Q 228 ls [] s) : ∀ (c : Nat) (s : y_H) (i : Int32) (I : Nat), i.toInt = (I : Int) → I ≤ 7 → 7 - I ≤ c → y_qJ y_qcK s0 s → y_W g_sh g_ts d g_t275 Q 178 [(0, .inr (.inr 67)), (1, .inl i)] [] s := by
  intro c
  induction c with
  | zero =>
    intro s i I hi hI hc hJ
    have ef : s.1 65 48 = s0.1 65 48 := hJ.2.at (o := 65) (k := 48) (A := w_n 0 7 0) rfl rfl (by decide +kernel)
    refine y_run 3 rfl ?_
    refine y_ic rfl (fun h => ?_) (fun h => ?_)
    · have h2 : (s.1 65 48).toInt ≤ i.toInt := h
      rw [ef] at h2
      exact hexit s _ hJ rfl
    have h2 : ¬ (s.1 65 48).toInt ≤ i.toInt := h
    rw [ef] at h2
    omega
  | succ c ih =>
    intro s i I hi hI hc hJ
    have ef : s.1 65 48 = s0.1 65 48 := hJ.2.at (o := 65) (k := 48) (A := w_n 0 7 0) rfl rfl (by decide +kernel)
    have hi1 : (i + (Int32.ofInt 1)).toInt = i.toInt + 1 := y_add (x := i) (y := 1) (by show _ ≤ _ + (1 : Int); omega) (by show _ + (1 : Int) ≤ _; omega)
    refine y_run 3 rfl ?_
    refine y_ic rfl (fun h => ?_) (fun h => ?_)
    · have h2 : (s.1 65 48).toInt ≤ i.toInt := h
      rw [ef] at h2
      exact hexit s _ hJ rfl
    have h2 : ¬ (s.1 65 48).toInt ≤ i.toInt := h
    rw [ef] at h2
    have hIm : I < 7 := by omega
    refine y_run 6 rfl ?_
    refine y_ald (o := 77) (sz := 7) (j := I) rfl rfl hi (by omega) (y_kdA (tag := 100) (sz := 7) (a := ((2147483648, 2147483652), 0)) rfl) ?_
    refine y_ast (o := 82) (sz := 8) (j := I) rfl rfl hi (by omega) (y_kdA (tag := 100) (sz := 8) (a := ((2147483648, 2147483652), 0)) rfl) ?_
    have b0 := y_qR (s := s) (o := 77) (sz := 7) (lo := 2147483648) (hi := 2147483652) (j := I) hJ.1 rfl (by omega)
    have hJ0 := y_qJ_up (o := 82) (sz := 8) (lo := 2147483648) (hi := 2147483652) (j := I) (x := s.1 77 I) hJ rfl (by omega) (by decide +kernel) b0.1 b0.2
    refine y_run 6 rfl ?_
    refine y_ald (o := 78) (sz := 7) (j := I) rfl rfl hi (by omega) (y_kdA (tag := 100) (sz := 7) (a := ((0, 4294967295), 0)) rfl) ?_
    refine y_ast (o := 83) (sz := 8) (j := I) rfl rfl hi (by omega) (y_kdA (tag := 100) (sz := 8) (a := ((0, 4294967295), 0)) rfl) ?_
    have b1 := y_qR (s := (y_up s 82 I (.inl (s.1 77 I)))) (o := 78) (sz := 7) (lo := 0) (hi := 4294967295) (j := I) hJ0.1 rfl (by omega)
    have hJ1 := y_qJ_up (o := 83) (sz := 8) (lo := 0) (hi := 4294967295) (j := I) (x := (y_up s 82 I (.inl (s.1 77 I))).1 78 I) hJ0 rfl (by omega) (by decide +kernel) b1.1 b1.2
    refine y_run 6 rfl ?_
    refine y_ald (o := 79) (sz := 7) (j := I) rfl rfl hi (by omega) (y_kdA (tag := 100) (sz := 7) (a := ((0, 4294967295), 0)) rfl) ?_
    refine y_ast (o := 84) (sz := 8) (j := I) rfl rfl hi (by omega) (y_kdA (tag := 100) (sz := 8) (a := ((0, 4294967295), 0)) rfl) ?_
    have b2 := y_qR (s := (y_up (y_up s 82 I (.inl (s.1 77 I))) 83 I (.inl ((y_up s 82 I (.inl (s.1 77 I))).1 78 I)))) (o := 79) (sz := 7) (lo := 0) (hi := 4294967295) (j := I) hJ1.1 rfl (by omega)
    have hJ2 := y_qJ_up (o := 84) (sz := 8) (lo := 0) (hi := 4294967295) (j := I) (x := (y_up (y_up s 82 I (.inl (s.1 77 I))) 83 I (.inl ((y_up s 82 I (.inl (s.1 77 I))).1 78 I))).1 79 I) hJ1 rfl (by omega) (by decide +kernel) b2.1 b2.2
    refine y_run 2 rfl ?_
    refine y_sub (ls1 := [(0, .inr (.inr 67)), (1, .inl ((i + (Int32.ofInt 1))))]) (show ([0, 1] : List Nat).Nodup by decide) (y_R_cons rfl (y_R_cons rfl y_R_nil)) ?_
    exact ih _ (i + (Int32.ofInt 1)) (I + 1) (by rw [hi1, hi]; omega) (by omega) (by omega) hJ2
theorem y_qu4 {d : Nat} {s : y_H} {Q : Option (q_V Int32) → y_H → Prop} (hexit : ∀ ls : q_U Int32, q_at ls 0 = some (.inr (.inr 67)) → y_W g_sh g_ts d g_t275 Q 276 ls [] (y_cp s 104 0 (fun _ => Int32.ofInt 0) 3)) : ∀ (c : Nat) (i : Int32) (I : Nat), i.toInt = (I : Int) → I ≤ 3 → 3 - I ≤ c → y_W g_sh g_ts d g_t275 Q 258 [(0, .inr (.inr 67)), (1, .inl i)] [] (y_cp s 104 0 (fun _ => Int32.ofInt 0) I) := by
  intro c
  induction c with
  | zero =>
    intro i I hi hI hc
    refine y_run 2 rfl ?_
    refine y_ic rfl (fun _ => by rw [show I = 3 by omega]; exact hexit _ rfl) (fun h => ?_)
    have h2 : ¬ (3 : Int) ≤ i.toInt := h
    omega
  | succ c ih =>
    intro i I hi hI hc
    have hi1 : (i + (Int32.ofInt 1)).toInt = i.toInt + 1 := y_add (x := i) (y := 1) (by show _ ≤ _ + (1 : Int); omega) (by show _ + (1 : Int) ≤ _; omega)
    refine y_run 2 rfl ?_
    refine y_ic rfl (fun h => ?_) (fun h => ?_)
    · have h2 : (3 : Int) ≤ i.toInt := h
      rw [show I = 3 by omega]
      exact hexit _ rfl
    have h2 : ¬ (3 : Int) ≤ i.toInt := h
    refine y_run 4 rfl ?_
    refine y_bast (o := 104) (sz := 3) (j := I) rfl rfl hi (by omega) (y_k104 _ (by omega)) (Or.inl rfl) ?_
    refine y_run 2 rfl ?_
    refine y_sub (ls1 := [(0, .inr (.inr 67)), (1, .inl ((i + (Int32.ofInt 1))))]) (show ([0, 1] : List Nat).Nodup by decide) (y_R_cons rfl (y_R_cons rfl y_R_nil)) ?_
    have e := y_cpS2 (s := s) (o := 104) (b := 0) (n := I) (K := I) (f := fun _ => Int32.ofInt 0) (x := Int32.ofInt 0) (by omega) rfl
    have key := ih (i + (Int32.ofInt 1)) (I + 1) (by rw [hi1, hi]; omega) (by omega) (by omega)
    rw [← e] at key
    exact key
theorem y_quRow {s : y_H} {n : Int32} (hn : n.toInt ≤ 7) (h0 : 0 ≤ n.toInt) (e8 : s.1 86 8 = n) (hq : ∀ p : Nat, (p : Int) < n.toInt → (s.1 86 p).toInt = (p : Int)) (hs : ∀ j, j < 8 → s.1 86 (9 + j) = 0) (hr : ∀ r, r < 3 → (s.1 86 (18 + r)).toInt = -1) (h6 : ∀ k, k < 8 → (s.1 86 k).toInt ≤ 6) : y_AI n.toInt (s.1 86) := by
  refine ⟨⟨fun p hp hm _ => ⟨p, by omega, by rw [e8]; exact hm, hq p hm⟩, ?_⟩, h6, fun r hr2 => by have := hr r hr2; omega⟩
  have c1 : y_cn (fun r => y_occ (s.1 86 (18 + r))) 3 = 0 := y_cn_0 3 (fun r hr2 => if_neg (by have := hr r hr2; omega))
  have c2 : y_cn (fun p => y_x34 (s.1 86 (9 + p))) 7 = 0 := y_cn_0 7 (fun j hj => if_neg (by rw [hs j (by omega)]; exact (show ¬ (3 : Int) ≤ 0 by omega)))
  rw [e8, c1, c2]
  omega
abbrev y_qyQ (n : Nat) (s : y_H) (v : Option (q_V Int32)) (s2 : y_H) : Prop := y_pubQ n y_qyK s v s2 ∧ (s2.1 65 1).toInt = 0
/-- the end of a good quay: what was told is laid, nothing is kept of what was -/
theorem y_qu5 {n d : Nat} {FM : w_U} {s s3 : y_H} (hd : 2 ≤ d) (has : y_eAsTold y_V0 FM) (hF : y_fr g_sh y_qyK s s3) (hC : y_VC n s.1) (hFD : ∃ D, y_FD D s3.1) (ht : (s3.1 65 1).toInt = 0) : ∀ (s5 : y_H) (ls : q_U Int32), y_qJ y_qcK s3 s5 → q_at ls 0 = some (.inr (.inr 67)) → y_W g_sh g_ts d g_t275 (y_qyQ n s) 228 ls [] s5 := by
    intro s5 ls hJ5 l0
    refine y_sub (ls1 := [(0, .inr (.inr 67))]) (show ([0] : List Nat).Nodup by decide) (y_R_cons l0 y_R_nil) ?_
    refine y_run 1 rfl ?_
    refine y_call (y_layTold has) 1 rfl (fun _ _ _ => rfl) (a := [.inr (.inr 67)]) rfl rfl (fun h hR => y_mayV (o := 65) (sz := 85) rfl hR) (by omega) ⟨hJ5.1, rfl⟩ (fun v s6 hQ => ?_)
    obtain ⟨rfl, hT6, hf6, e8, hq6, hs6, hr6, hk6⟩ := hQ
    have hJ6 : y_qJ y_qcK s3 s6 := ⟨hT6, hJ5.2.tr (hf6.mono (by decide +kernel))⟩
    have e48 : s6.1 65 48 = s5.1 65 48 := hf6.at (o := 65) (k := 48) (A := w_n 0 7 0) rfl rfl (by decide +kernel)
    have rp := y_rng (lo := 2147483648) (hi := 2147483655) (g := 0) hJ5.1 (o := 65) (k := 48) rfl rfl
    have hA6 := y_quRow (by omega) (by omega) e8 hq6 hs6 hr6 hk6
    rw [← e48] at hA6
    refine y_run 1 rfl ?_
    refine y_call y_keepAir 1 rfl (fun _ _ _ => rfl) (a := [.inr (.inr 67)]) rfl rfl (fun h hR => y_mayV (o := 65) (sz := 85) rfl hR) (by omega) rfl (fun v s7 hQ => ?_)
    obtain ⟨rfl, rfl⟩ := hQ
    have t7 := y_Tc85 hT6 (y_rowAir hT6 hA6)
    have t8a := y_Tup0 (lo := 2147483648) (hi := 2147483688) (o := 65) (k := 66) (x := Int32.ofInt 0) t7 rfl rfl (show _ ≤ (0 : Int) by omega) (show (0 : Int) ≤ _ by omega)
    have t8b := y_Tup0 (lo := 2147483648) (hi := 2147483688) (o := 65) (k := 67) (x := Int32.ofInt 0) t8a rfl rfl (show _ ≤ (0 : Int) by omega) (show (0 : Int) ≤ _ by omega)
    have t8c := y_Tup0 (lo := 2147483648) (hi := 2147483678) (o := 65) (k := 78) (x := Int32.ofInt 0) t8b rfl rfl (show _ ≤ (0 : Int) by omega) (show (0 : Int) ≤ _ by omega)
    have t8 := y_Tup0 (lo := 2147483648) (hi := 2147483655) (o := 65) (k := 70) (x := Int32.ofInt 0) t8c rfl rfl (show _ ≤ (0 : Int) by omega) (show (0 : Int) ≤ _ by omega)
    have f8 : y_fr g_sh y_qcK s3 (y_up (y_up (y_up (y_up (y_cp s6 85 0 (s6.1 86) 28) 65 66 (.inl (Int32.ofInt 0))) 65 67 (.inl (Int32.ofInt 0))) 65 78 (.inl (Int32.ofInt 0))) 65 70 (.inl (Int32.ofInt 0))) := ((((hJ6.2.cp (o := 85) (b := 0) (n := 28) (f := s6.1 86) (by decide +kernel)).up (o := 65) (k := 66) (v := .inl (Int32.ofInt 0)) rfl (by decide +kernel)).up (o := 65) (k := 67) (v := .inl (Int32.ofInt 0)) rfl (by decide +kernel)).up (o := 65) (k := 78) (v := .inl (Int32.ofInt 0)) rfl (by decide +kernel)).up (o := 65) (k := 70) (v := .inl (Int32.ofInt 0)) rfl (by decide +kernel)
    have u66 : ((y_up (y_up (y_up (y_up (y_cp s6 85 0 (s6.1 86) 28) 65 66 (.inl (Int32.ofInt 0))) 65 67 (.inl (Int32.ofInt 0))) 65 78 (.inl (Int32.ofInt 0))) 65 70 (.inl (Int32.ofInt 0))).1 65 66).toInt = 0 := rfl
    have u67 : ((y_up (y_up (y_up (y_up (y_cp s6 85 0 (s6.1 86) 28) 65 66 (.inl (Int32.ofInt 0))) 65 67 (.inl (Int32.ofInt 0))) 65 78 (.inl (Int32.ofInt 0))) 65 70 (.inl (Int32.ofInt 0))).1 65 67).toInt = 0 := rfl
    have uR : y_Rw ((y_up (y_up (y_up (y_up (y_cp s6 85 0 (s6.1 86) 28) 65 66 (.inl (Int32.ofInt 0))) 65 67 (.inl (Int32.ofInt 0))) 65 78 (.inl (Int32.ofInt 0))) 65 70 (.inl (Int32.ofInt 0))).1 65 48).toInt ((y_up (y_up (y_up (y_up (y_cp s6 85 0 (s6.1 86) 28) 65 66 (.inl (Int32.ofInt 0))) 65 67 (.inl (Int32.ofInt 0))) 65 78 (.inl (Int32.ofInt 0))) 65 70 (.inl (Int32.ofInt 0))).1 85) := by
      have a1 : (y_up (y_up (y_up (y_up (y_cp s6 85 0 (s6.1 86) 28) 65 66 (.inl (Int32.ofInt 0))) 65 67 (.inl (Int32.ofInt 0))) 65 78 (.inl (Int32.ofInt 0))) 65 70 (.inl (Int32.ofInt 0))).1 65 48 = s6.1 65 48 := (y_up_ne (by omega)).trans ((y_up_ne (by omega)).trans ((y_up_ne (by omega)).trans ((y_up_ne (by omega)).trans (y_cp_ne (by omega)))))
      rw [a1]
      refine y_Rw_eq (fun k hk _ => ?_) hA6.1
      have e := y_cp_in (s := s6) (o := 85) (b := 0) (n := 28) (k := k) (f := s6.1 86) (by omega)
      rw [Nat.zero_add] at e
      exact (y_up_ne (by omega)).trans ((y_up_ne (by omega)).trans ((y_up_ne (by omega)).trans ((y_up_ne (by omega)).trans e)))
    refine y_run 14 rfl ?_
    refine y_sub (ls1 := [(0, .inr (.inr 67)), (1, .inl ((Int32.ofInt 0)))]) (show ([0, 1] : List Nat).Nodup by decide) (y_R_cons rfl (y_R_cons rfl y_R_nil)) ?_
    show y_W g_sh g_ts d g_t275 (y_qyQ n s) 258 [(0, .inr (.inr 67)), (1, .inl ((Int32.ofInt 0)))] [] (y_up (y_up (y_up (y_up (y_cp s6 85 0 (s6.1 86) 28) 65 66 (.inl (Int32.ofInt 0))) 65 67 (.inl (Int32.ofInt 0))) 65 78 (.inl (Int32.ofInt 0))) 65 70 (.inl (Int32.ofInt 0)))
    revert t8 f8 u66 u67 uR
    generalize y_up (y_up (y_up (y_up (y_cp s6 85 0 (s6.1 86) 28) 65 66 (.inl (Int32.ofInt 0))) 65 67 (.inl (Int32.ofInt 0))) 65 78 (.inl (Int32.ofInt 0))) 65 70 (.inl (Int32.ofInt 0)) = s8
    intro t8 f8 u66 u67 uR
    have key := y_qu4 (d := d) (s := s8) (Q := y_qyQ n s) (fun ls l0 => ?_) 3 (Int32.ofInt 0) 0 rfl (by omega) (by omega)
    · rw [y_cp0] at key
      exact key
    · refine y_sub (ls1 := [(0, .inr (.inr 67))]) (show ([0] : List Nat).Nodup by decide) (y_R_cons l0 y_R_nil) ?_
      refine y_run 2 rfl ?_
      have t9 : w_T y_V0 g_sh (y_mk g_sh (y_cp s8 104 0 (fun _ => Int32.ofInt 0) 3)) := y_Tcp t8 (fun k hk => by
        rw [Nat.zero_add]
        exact ⟨y_k104 _ (by omega), 2147483648, 2147483649, y_tyA (tag := 102) (sz := 3) (A := w_n 0 1 0) rfl (by omega), (show _ ≤ (0 : Int) by omega), (show (0 : Int) ≤ _ by omega)⟩)
      have f9 := f8.cp (o := 104) (b := 0) (n := 3) (f := fun _ => Int32.ofInt 0) (by decide +kernel)
      have fA : y_fr g_sh y_qyK s (y_cp s8 104 0 (fun _ => Int32.ofInt 0) 3) := hF.tr (f9.mono (by decide +kernel))
      have ev : ∀ o k, o ≠ 104 → (y_cp s8 104 0 (fun _ => Int32.ofInt 0) 3).1 o k = s8.1 o k := fun o k h => y_cp_ne (by omega)
      refine y_iret rfl ⟨⟨y_TV t9 ⟨?_, ⟨?_, ?_, ?_, ?_⟩, y_VC_fr fA (by decide +kernel) hC⟩, fA, _, rfl⟩, ?_⟩
      · exact y_FD_eq2 (f9.at (o := 65) (k := 18) (A := w_n 0 320 0) rfl rfl (by decide +kernel)) (fun i hi => y_qFr (o := 70) (sz := 320) (lo := 2147483648) (hi := 2147483651) f9 rfl hi (by decide +kernel)) (fun i hi => y_qFr (o := 71) (sz := 320) (lo := 0) (hi := 4294967295) f9 rfl hi (by decide +kernel)) hFD
      · rw [ev 65 48 (by omega)]
        exact y_Rw_eq (fun k _ _ => ev 85 k (by omega)) uR
      · rw [ev 65 66 (by omega), ev 65 67 (by omega), u66, u67]
        exact ⟨by omega, by omega, by omega⟩
      · intro j hj hlt
        rw [ev 65 66 (by omega), ev 65 67 (by omega), u66, u67] at hlt
        omega
      · intro b hb hne
        have e := y_cp_in (s := s8) (o := 104) (b := 0) (n := 3) (k := b) (f := fun _ => Int32.ofInt 0) (by omega)
        rw [Nat.zero_add] at e
        rw [e] at hne
        exact absurd rfl hne
      · rw [f9.at (o := 65) (k := 1) (A := w_n 0 1600 0) rfl rfl (by decide +kernel)]
        exact ht
theorem y_qpb {s : y_H} {x : Int32} (hx : x = 0 ∨ x = 1) : y_it g_sh g_t275 1 74 [(0, .inr (.inr 67))] [.inl x, .inr (.inr 67)] s = some (77, [(0, .inr (.inr 67))], [], y_up s 65 25 (.inl x)) := by
  rcases hx with rfl | rfl <;> rfl
theorem y_quayM {n : Nat} {FM : w_U} (H : y_RE (y_Vn n)) (has : y_eAsTold y_V0 FM) : y_C g_sh g_ts 275 9 (fun a s => w_T (y_Vn n) g_sh (y_mk g_sh s) ∧ a = [.inr (.inr 67)]) (fun _ s v s2 => y_qyQ n s v s2) := by
  refine y_C.of (t := g_t275) rfl (by decide) ?_
  rintro d a s hd ⟨hT, rfl⟩
  refine y_run 1 rfl ?_
  refine y_call (y_readAllF H) 1 rfl (fun _ _ _ => rfl) (a := [.inr (.inr 67)]) rfl rfl (fun h hR => y_mayV (o := 65) (sz := 85) rfl hR) (by omega) ⟨hT, rfl⟩ (fun v s1 hQ => ?_)
  obtain ⟨rfl, hT1, hf1, ht1, hb1⟩ := hQ
  have hf1b : y_fr g_sh y_qyK s s1 := hf1.mono (by decide +kernel)
  have hC : y_VC n s.1 := (y_VT hT).2.2
  refine y_run 2 rfl ?_
  refine y_if rfl (fun h => ?_) (fun h => ?_)
  · have h2 : (s1.1 65 2).toInt ≤ 0 := h
    have rf := y_rng (lo := 2147483648) (hi := 2147483653) (g := 0) hT1 (o := 65) (k := 2) rfl rfl
    have hb := hb1 (by omega)
    have r0 := y_rng (lo := 2147483648) (hi := 2147483653) (g := 0) hT1 (o := 65) (k := 41) rfl rfl
    have t0 := y_Tup0 (lo := 2147483648) (hi := 2147483653) (o := 65) (k := 47) (x := s1.1 65 41) (y_t0 hT1) rfl rfl (by omega) (by omega)
    have r1 := y_rng (lo := 2147483648) (hi := 2147483655) (g := 0) hT1 (o := 65) (k := 42) rfl rfl
    have t1 := y_Tup0 (lo := 2147483648) (hi := 2147483655) (o := 65) (k := 48) (x := s1.1 65 42) t0 rfl rfl (by omega) (by omega)
    have r2 := y_rng (lo := 0) (hi := 4294967295) (g := 0) hT1 (o := 65) (k := 43) rfl rfl
    have t2 := y_Tup0 (lo := 0) (hi := 4294967295) (o := 65) (k := 49) (x := s1.1 65 43) t1 rfl rfl (by omega) (by omega)
    have r3 := hb.1
    have t3 := y_Tup0 (lo := 2147483649) (hi := 2147483650) (o := 65) (k := 50) (x := s1.1 65 44) t2 rfl rfl (by omega) (by omega)
    have r4 := y_rng (lo := 0) (hi := 4294967295) (g := 0) hT1 (o := 65) (k := 45) rfl rfl
    have t4 := y_Tup0 (lo := 0) (hi := 4294967295) (o := 65) (k := 51) (x := s1.1 65 45) t3 rfl rfl (by omega) (by omega)
    have r5 := y_rng (lo := 0) (hi := 4294967295) (g := 0) hT1 (o := 65) (k := 46) rfl rfl
    have t5 := y_Tup0 (lo := 0) (hi := 4294967295) (o := 65) (k := 52) (x := s1.1 65 46) t4 rfl rfl (by omega) (by omega)
    have r6 := y_rng (lo := 2147483648) (hi := 2147483709) (g := 0) hT1 (o := 65) (k := 20) rfl rfl
    have t6 := y_Tup0 (lo := 2147483648) (hi := 2147483709) (o := 65) (k := 21) (x := s1.1 65 20) t5 rfl rfl (by omega) (by omega)
    have r7 := y_rng (lo := 2147483648) (hi := 2147483649) (g := 0) hT1 (o := 65) (k := 24) rfl rfl
    have t7 := y_Tup0 (lo := 2147483648) (hi := 2147483649) (o := 65) (k := 25) (x := s1.1 65 24) t6 rfl rfl (by omega) (by omega)
    have fa : y_fr g_sh y_qaK s1 (y_up (y_up (y_up (y_up (y_up (y_up (y_up (y_up s1 65 47 (.inl (s1.1 65 41))) 65 48 (.inl (s1.1 65 42))) 65 49 (.inl (s1.1 65 43))) 65 50 (.inl (s1.1 65 44))) 65 51 (.inl (s1.1 65 45))) 65 52 (.inl (s1.1 65 46))) 65 21 (.inl (s1.1 65 20))) 65 25 (.inl (s1.1 65 24))) := (((((((((y_fr.rf (sh := g_sh) (ms := y_qaK) (s := s1)).up (o := 65) (k := 47) (v := .inl (s1.1 65 41)) rfl (by decide +kernel)).up (o := 65) (k := 48) (v := .inl (s1.1 65 42)) rfl (by decide +kernel)).up (o := 65) (k := 49) (v := .inl (s1.1 65 43)) rfl (by decide +kernel)).up (o := 65) (k := 50) (v := .inl (s1.1 65 44)) rfl (by decide +kernel)).up (o := 65) (k := 51) (v := .inl (s1.1 65 45)) rfl (by decide +kernel)).up (o := 65) (k := 52) (v := .inl (s1.1 65 46)) rfl (by decide +kernel)).up (o := 65) (k := 21) (v := .inl (s1.1 65 20)) rfl (by decide +kernel)).up (o := 65) (k := 25) (v := .inl (s1.1 65 24)) rfl (by decide +kernel))
    have u : ∀ o k, ¬ (o = 65 ∧ (k = 21 ∨ k = 25 ∨ (47 ≤ k ∧ k ≤ 52))) → (y_up (y_up (y_up (y_up (y_up (y_up (y_up (y_up s1 65 47 (.inl (s1.1 65 41))) 65 48 (.inl (s1.1 65 42))) 65 49 (.inl (s1.1 65 43))) 65 50 (.inl (s1.1 65 44))) 65 51 (.inl (s1.1 65 45))) 65 52 (.inl (s1.1 65 46))) 65 21 (.inl (s1.1 65 20))) 65 25 (.inl (s1.1 65 24))).1 o k = s1.1 o k := fun o k h => (y_up_ne (by omega)).trans ((y_up_ne (by omega)).trans ((y_up_ne (by omega)).trans ((y_up_ne (by omega)).trans ((y_up_ne (by omega)).trans ((y_up_ne (by omega)).trans ((y_up_ne (by omega)).trans (y_up_ne (by omega))))))))
    have hx : s1.1 65 24 = 0 ∨ s1.1 65 24 = 1 := by
      have q : (s1.1 65 24).toInt = 0 ∨ (s1.1 65 24).toInt = 1 := by omega
      rcases q with q | q
      · exact Or.inl (Int32.toInt_inj.mp q)
      · exact Or.inr (Int32.toInt_inj.mp q)
    refine y_run 31 rfl ?_
    show y_W g_sh g_ts d g_t275 (y_qyQ n s) 74 [(0, .inr (.inr 67))] [.inl (s1.1 65 24), .inr (.inr 67)] (y_up (y_up (y_up (y_up (y_up (y_up (y_up s1 65 47 (.inl (s1.1 65 41))) 65 48 (.inl (s1.1 65 42))) 65 49 (.inl (s1.1 65 43))) 65 50 (.inl (s1.1 65 44))) 65 51 (.inl (s1.1 65 45))) 65 52 (.inl (s1.1 65 46))) 65 21 (.inl (s1.1 65 20)))
    refine y_run 1 (y_qpb hx) ?_
    refine y_run 3 rfl ?_
    show y_W g_sh g_ts d g_t275 (y_qyQ n s) 82 [(0, .inr (.inr 67))] [.inl (s1.1 65 24), .inr (.inr 67)] (y_up (y_up (y_up (y_up (y_up (y_up (y_up (y_up s1 65 47 (.inl (s1.1 65 41))) 65 48 (.inl (s1.1 65 42))) 65 49 (.inl (s1.1 65 43))) 65 50 (.inl (s1.1 65 44))) 65 51 (.inl (s1.1 65 45))) 65 52 (.inl (s1.1 65 46))) 65 21 (.inl (s1.1 65 20))) 65 25 (.inl (s1.1 65 24)))
    revert t7 fa u
    generalize y_up (y_up (y_up (y_up (y_up (y_up (y_up (y_up s1 65 47 (.inl (s1.1 65 41))) 65 48 (.inl (s1.1 65 42))) 65 49 (.inl (s1.1 65 43))) 65 50 (.inl (s1.1 65 44))) 65 51 (.inl (s1.1 65 45))) 65 52 (.inl (s1.1 65 46))) 65 21 (.inl (s1.1 65 20))) 65 25 (.inl (s1.1 65 24)) = s2
    intro t2 fa u
    have rm := y_rng (lo := 2147483648) (hi := 2147483968) (g := 0) hT1 (o := 65) (k := 17) rfl rfl
    have go : ∀ F : Int32, 0 ≤ F.toInt → F.toInt ≤ 320 → (F.toInt = 0 ∨ (F = s1.1 65 17 ∧ (s1.1 65 24).toInt ≠ 0)) → y_W g_sh g_ts d g_t275 (y_qyQ n s) 93 [(0, .inr (.inr 67))] [.inl F, .inr (.inr 67)] s2 := by
      intro F hF0 hF1 hF
      have t3 := y_Tup0 (lo := 2147483648) (hi := 2147483968) (o := 65) (k := 18) (x := F) t2 rfl rfl (by omega) (by omega)
      have fb := fa.up (o := 65) (k := 18) (v := .inl F) rfl (by decide +kernel)
      have e18 : (y_up s2 65 18 (.inl F)).1 65 18 = F := y_up_self
      have ut : (y_up s2 65 18 (.inl F)).1 65 1 = s1.1 65 1 := (y_up_ne (by omega)).trans (u 65 1 (by omega))
      have ur : ∀ o k, o ≠ 65 → (y_up s2 65 18 (.inl F)).1 o k = s1.1 o k := fun o k h => (y_up_ne (by omega)).trans (u o k (by omega))
      refine y_run 3 rfl ?_
      refine y_sub (ls1 := [(0, .inr (.inr 67)), (1, .inl ((Int32.ofInt 0)))]) (show ([0, 1] : List Nat).Nodup by decide) (y_R_cons rfl (y_R_cons rfl y_R_nil)) ?_
      show y_W g_sh g_ts d g_t275 (y_qyQ n s) 98 [(0, .inr (.inr 67)), (1, .inl ((Int32.ofInt 0)))] [] (y_up s2 65 18 (.inl F))
      revert t3 fb e18 ut ur
      generalize y_up s2 65 18 (.inl F) = s0
      intro t3 fb e18 ut ur
      refine y_qu1 (s0 := s0) (by rw [e18]; exact hF1) (fun s3 ls hJ3 hr l0 => ?_) 320 s0 (Int32.ofInt 0) 0 rfl (by omega) (by omega) ⟨t3, y_fr.rf⟩ (fun j hj => by omega)
      have f3 : y_fr g_sh y_qyK s s3 := (hf1b.tr (fb.mono (by decide +kernel))).tr (hJ3.2.mono (by decide +kernel))
      have g18 : s3.1 65 18 = F := (hJ3.2.at (o := 65) (k := 18) (A := w_n 0 320 0) rfl rfl (by decide +kernel)).trans e18
      have ht3 : (s3.1 65 1).toInt = 0 := by
        rw [hJ3.2.at (o := 65) (k := 1) (A := w_n 0 1600 0) rfl rfl (by decide +kernel), ut]
        exact ht1
      have hFD : ∃ D, y_FD D s3.1 := by
        rcases hF with hF | ⟨hF, hne⟩
        · refine ⟨fun _ => 0, rfl, by rw [g18]; exact hF1, fun i hi => ?_⟩
          rw [g18] at hi
          omega
        · obtain ⟨M, e, hM, hM2, D, D0, -, DD⟩ := hb.2.2 hne
          refine ⟨D, D0, by rw [g18]; exact hF1, fun i hi => ?_⟩
          rw [g18] at hi
          rw [e18] at hr
          obtain ⟨r1, r2⟩ := hr i hi
          rw [r1, r2, ur 68 i (by omega), ur 69 i (by omega)]
          rw [hF, hM] at hi
          exact DD i (by omega)
      have rs := y_rng (lo := 2147483648) (hi := 2147483653) (g := 0) hJ3.1 (o := 65) (k := 47) rfl rfl
      have rq := y_rng (lo := 2147483648) (hi := 2147483655) (g := 0) hJ3.1 (o := 65) (k := 48) rfl rfl
      refine y_sub (ls1 := [(0, .inr (.inr 67))]) (show ([0] : List Nat).Nodup by decide) (y_R_cons l0 y_R_nil) ?_
      refine y_run 2 rfl ?_
      refine y_sub (ls1 := [(0, .inr (.inr 67)), (1, .inl ((Int32.ofInt 0)))]) (show ([0, 1] : List Nat).Nodup by decide) (y_R_cons rfl (y_R_cons rfl y_R_nil)) ?_
      refine y_qu2 (s0 := s3) (by omega) (fun s4 ls hJ4 l0 => ?_) 5 s3 (Int32.ofInt 0) 0 rfl (by omega) (by omega) ⟨hJ3.1, y_fr.rf⟩
      refine y_sub (ls1 := [(0, .inr (.inr 67))]) (show ([0] : List Nat).Nodup by decide) (y_R_cons l0 y_R_nil) ?_
      refine y_run 2 rfl ?_
      refine y_sub (ls1 := [(0, .inr (.inr 67)), (1, .inl ((Int32.ofInt 0)))]) (show ([0, 1] : List Nat).Nodup by decide) (y_R_cons rfl (y_R_cons rfl y_R_nil)) ?_
      exact y_qu3 (s0 := s3) (by omega) (y_qu5 (by omega) has f3 hC hFD ht3) 7 s4 (Int32.ofInt 0) 0 rfl (by omega) (by omega) hJ4
    refine y_if rfl (fun h => ?_) (fun h => ?_)
    · refine y_run 1 rfl ?_
      exact go (Int32.ofInt 0) (show (0 : Int) ≤ 0 by omega) (show (0 : Int) ≤ 320 by omega) (Or.inl rfl)
    · have hne : (s1.1 65 24).toInt ≠ 0 := h
      refine y_run 3 rfl ?_
      show y_W g_sh g_ts d g_t275 (y_qyQ n s) 93 [(0, .inr (.inr 67))] [.inl (s2.1 65 17), .inr (.inr 67)] s2
      rw [u 65 17 (by omega)]
      exact go (s1.1 65 17) (by omega) (by omega) (Or.inr ⟨rfl, hne⟩)
  · refine y_run 1 rfl ?_
    exact y_iret rfl ⟨⟨hT1, hf1b, _, rfl⟩, ht1⟩
