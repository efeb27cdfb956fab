/-! by hand: the class's State.loadFrom -/
def y_lod (s : y_H) (f : Nat → Int32) : y_H := (y_up (y_up (y_up (y_up (y_up (y_up (y_cp (y_cp (y_cp (y_cp s 29 0 f 7) 30 0 (fun k => f (7 + k)) 7) 31 0 (fun k => f (14 + k)) 2) 32 0 (fun k => f (16 + k)) 2) 28 1 (.inl (f 18))) 28 3 (.inl (f 19))) 28 6 (.inl (f 20))) 28 7 (.inl (f 21))) 28 8 (.inl (f 22))) 28 9 (.inl (f 23)))
theorem y_ald2 {d : Nat} {t : q_T} {Q : Option (q_V Int32) → y_H → Prop} {p : Nat} {ls : q_U Int32} {st : List (q_V Int32)} {s : y_H} {len : Nat} {r : List Nat} {n o sz j : Nat} {x v : Int32} (hq : q_get t p = some (.iaload, len, r)) (hr : y_ref g_sh n = some (o, 100, sz)) (hx : x.toInt = (j : Int)) (hj : j < sz) (hk : y_kd g_sh o j = 0) (hv : s.1 o j = v) (hw : y_W g_sh g_ts d t Q (p + len) ls (.inl v :: st) s) : y_W g_sh g_ts d t Q p ls (.inl x :: .inr (.inr n) :: st) s := by
  subst hv
  exact y_ald hq hr hx hj hk hw
theorem y_lod_in {s : y_H} {f : Nat → Int32} : ∀ m, m < 24 → (y_lod s f).1 (y_so m).1 (y_so m).2 = f m := by
  intro m hm
  unfold y_lod
  by_cases c0 : m < 7
  · rw [show y_so m = (29, m) from if_pos c0]
    have e := y_cp_in (s := s) (o := 29) (b := 0) (n := 7) (k := m) (f := f) c0
    rw [Nat.zero_add] at e
    exact (y_up_ne (by omega)).trans ((y_up_ne (by omega)).trans ((y_up_ne (by omega)).trans ((y_up_ne (by omega)).trans ((y_up_ne (by omega)).trans ((y_up_ne (by omega)).trans ((y_cp_ne (by omega)).trans ((y_cp_ne (by omega)).trans ((y_cp_ne (by omega)).trans (e)))))))))
  by_cases c1 : m < 14
  · rw [show y_so m = (30, m - 7) by unfold y_so; rw [if_neg c0, if_pos c1]]
    have e := y_cp_in (s := (y_cp s 29 0 f 7)) (o := 30) (b := 0) (n := 7) (k := m - 7) (f := fun k => f (7 + k)) (by omega)
    rw [Nat.zero_add, show 7 + (m - 7) = m by omega] at e
    exact (y_up_ne (by omega)).trans ((y_up_ne (by omega)).trans ((y_up_ne (by omega)).trans ((y_up_ne (by omega)).trans ((y_up_ne (by omega)).trans ((y_up_ne (by omega)).trans ((y_cp_ne (by omega)).trans ((y_cp_ne (by omega)).trans (e))))))))
  by_cases c2 : m < 16
  · rw [show y_so m = (31, m - 14) by unfold y_so; rw [if_neg c0, if_neg c1, if_pos c2]]
    have e := y_cp_in (s := (y_cp (y_cp s 29 0 f 7) 30 0 (fun k => f (7 + k)) 7)) (o := 31) (b := 0) (n := 2) (k := m - 14) (f := fun k => f (14 + k)) (by omega)
    rw [Nat.zero_add, show 14 + (m - 14) = m by omega] at e
    exact (y_up_ne (by omega)).trans ((y_up_ne (by omega)).trans ((y_up_ne (by omega)).trans ((y_up_ne (by omega)).trans ((y_up_ne (by omega)).trans ((y_up_ne (by omega)).trans ((y_cp_ne (by omega)).trans (e)))))))
  by_cases c3 : m < 18
  · rw [show y_so m = (32, m - 16) by unfold y_so; rw [if_neg c0, if_neg c1, if_neg c2, if_pos c3]]
    have e := y_cp_in (s := (y_cp (y_cp (y_cp s 29 0 f 7) 30 0 (fun k => f (7 + k)) 7) 31 0 (fun k => f (14 + k)) 2)) (o := 32) (b := 0) (n := 2) (k := m - 16) (f := fun k => f (16 + k)) (by omega)
    rw [Nat.zero_add, show 16 + (m - 16) = m by omega] at e
    exact (y_up_ne (by omega)).trans ((y_up_ne (by omega)).trans ((y_up_ne (by omega)).trans ((y_up_ne (by omega)).trans ((y_up_ne (by omega)).trans ((y_up_ne (by omega)).trans (e))))))
  obtain rfl | rfl | rfl | rfl | rfl | rfl : m = 18 ∨ m = 19 ∨ m = 20 ∨ m = 21 ∨ m = 22 ∨ m = 23 := by omega
  · exact (y_up_ne (by decide)).trans ((y_up_ne (by decide)).trans ((y_up_ne (by decide)).trans ((y_up_ne (by decide)).trans ((y_up_ne (by decide)).trans (y_up_self)))))
  · exact (y_up_ne (by decide)).trans ((y_up_ne (by decide)).trans ((y_up_ne (by decide)).trans ((y_up_ne (by decide)).trans (y_up_self))))
  · exact (y_up_ne (by decide)).trans ((y_up_ne (by decide)).trans ((y_up_ne (by decide)).trans (y_up_self)))
  · exact (y_up_ne (by decide)).trans ((y_up_ne (by decide)).trans (y_up_self))
  · exact (y_up_ne (by decide)).trans (y_up_self)
  · exact y_up_self
theorem y_lod_ne {s : y_H} {f : Nat → Int32} {o k : Nat} (h : ¬ ∃ m, m < 24 ∧ y_so m = (o, k)) : (y_lod s f).1 o k = s.1 o k := by
  unfold y_lod
  refine (y_up_ne (fun z => h ⟨23, by omega, by rw [z.1, z.2]; rfl⟩)).trans ?_
  refine (y_up_ne (fun z => h ⟨22, by omega, by rw [z.1, z.2]; rfl⟩)).trans ?_
  refine (y_up_ne (fun z => h ⟨21, by omega, by rw [z.1, z.2]; rfl⟩)).trans ?_
  refine (y_up_ne (fun z => h ⟨20, by omega, by rw [z.1, z.2]; rfl⟩)).trans ?_
  refine (y_up_ne (fun z => h ⟨19, by omega, by rw [z.1, z.2]; rfl⟩)).trans ?_
  refine (y_up_ne (fun z => h ⟨18, by omega, by rw [z.1, z.2]; rfl⟩)).trans ?_
  refine (y_cp_ne (fun z => h ⟨16 + k, by omega, by unfold y_so; rw [if_neg (by omega), if_neg (by omega), if_neg (by omega), if_pos (by omega), z.1, show 16 + k - 16 = k by omega]⟩)).trans ?_
  refine (y_cp_ne (fun z => h ⟨14 + k, by omega, by unfold y_so; rw [if_neg (by omega), if_neg (by omega), if_pos (by omega), z.1, show 14 + k - 14 = k by omega]⟩)).trans ?_
  refine (y_cp_ne (fun z => h ⟨7 + k, by omega, by unfold y_so; rw [if_neg (by omega), if_pos (by omega), z.1, show 7 + k - 7 = k by omega]⟩)).trans ?_
  refine (y_cp_ne (fun z => h ⟨k, by omega, by unfold y_so; rw [if_pos (by omega), z.1]⟩)).trans ?_
  rfl
theorem y_so_bg : ∀ m, m < 24 → w_inm y_bgK (w_key (y_so m).1 (y_so m).2) = true := by decide +kernel
theorem y_lod_fr {s : y_H} {f : Nat → Int32} : y_fr g_sh y_bgK s (y_lod s f) := by
  intro o k A hA hn
  refine y_mk_eq (y_lod_ne ?_) rfl
  rintro ⟨m, hm, e⟩
  have := y_so_bg m hm
  rw [e] at this
  rw [this] at hn
  cases hn
theorem y_lod_T {s : y_H} {f : Nat → Int32} (hT : w_T y_V0 g_sh (y_mk g_sh s)) (hf : ∀ k, k < 24 → ∃ lo hi : Nat, (y_sl[k]?).map w_kz = some (.inl ((lo, hi), 0)) ∧ (lo : Int) - 2147483648 ≤ (f k).toInt ∧ (f k).toInt ≤ (hi : Int) - 2147483648) : w_T y_V0 g_sh (y_mk g_sh (y_lod s f)) := by
  refine y_T0of hT ?_
  intro o k A hA
  by_cases h : ∃ m, m < 24 ∧ y_so m = (o, k)
  · obtain ⟨m, hm, e⟩ := h
    obtain ⟨lo, hi, e1, e2⟩ := y_so_rg hm
    obtain ⟨lo2, hi2, e3, r1, r2⟩ := hf m hm
    have h3 := (y_so_ty m hm).2.2
    have h4 := y_lod_in (s := s) (f := f) m hm
    rw [e] at e2 h3 h4
    rw [e1] at e3
    cases e3
    have e5 : A = .inl ((lo, hi), 0) := Option.some.inj (hA.symm.trans e2)
    refine Or.inr ⟨lo, hi, e5, h3, ?_, ?_⟩
    · rw [h4]; exact r1
    · rw [h4]; exact r2
  · exact Or.inl (y_mk_eq (y_lod_ne h) rfl)
theorem y_lod34T {s : y_H} {j : Nat} (hj : j < 41) (hT : w_T y_V0 g_sh (y_mk g_sh s)) : w_T y_V0 g_sh (y_mk g_sh (y_lod s (fun k => s.1 34 (24 * j + k)))) := y_lod_T hT (fun k hk => by
  obtain ⟨lo, hi, e1, e2⟩ := y_so_rg hk
  exact ⟨lo, hi, e1, y_rng (lo := lo) (hi := hi) (g := 0) hT ((y_ty34 hj hk).trans e1) (y_k34 _ (by omega))⟩)
theorem y_loadFrom34 : y_C g_sh g_ts 146 1 (fun a s => ∃ (x : Int32) (j : Nat), a = [.inr (.inr 30), .inr (.inr 36), .inl x] ∧ x.toInt = 24 * (j : Int) ∧ j < 41) (fun a s v s2 => ∀ (x : Int32) (j : Nat), a = [.inr (.inr 30), .inr (.inr 36), .inl x] → x.toInt = 24 * (j : Int) → v = none ∧ s2 = y_lod s (fun k => s.1 34 (24 * j + k))) := by
  refine y_C.of (t := g_t146) rfl (by decide) ?_
  rintro d a s hd ⟨x, j, rfl, hx, hj⟩
  generalize hb : 24 * j = b
  have x24 : (x + (Int8.ofInt 24).toInt32).toInt = x.toInt + 24 := y_add (x := x) (y := 24) (by show _ ≤ _ + (24 : Int); omega) (by show _ + (24 : Int) ≤ _; omega)
  refine y_run 1 rfl ?_
  refine y_if rfl (fun h => ?_) (fun h => ?_)
  · have h2 : x.toInt < 0 := h
    omega
  refine y_run 5 rfl ?_
  refine y_ic rfl (fun h => ?_) (fun h => ?_)
  rotate_left
  · have h2 : ¬ (x + (Int8.ofInt 24).toInt32).toInt ≤ 984 := h
    omega
  have xb : x.toInt = (b : Int) := by omega
  refine y_run 8 rfl ?_
  refine y_acp (s2 := (y_cp s 29 0 (fun k => s.1 34 (b + k)) 7)) (o1 := 34) (z1 := 984) (o2 := 29) (z2 := 7) (N := 7) (dp := 0) (sp := b + 0) rfl rfl rfl rfl rfl xb (by omega) (by omega) (by decide) (fun k hk => y_k34 k hk) (fun _ _ => y_k29) (y_cp_cg rfl (fun k hk => rfl)) ?_
  have i0 : (x + Int32.ofInt 7).toInt = ((b + 7 : Nat) : Int) := by
    rw [y_add (x := x) (y := Int32.ofInt 7) (by show _ ≤ _ + (7 : Int); omega) (by show _ + (7 : Int) ≤ _; omega)]
    show _ + (7 : Int) = _
    omega
  refine y_run 1 rfl ?_
  refine y_run 6 rfl ?_
  refine y_acp (s2 := (y_cp (y_cp s 29 0 (fun k => s.1 34 (b + k)) 7) 30 0 (fun k => (fun k => s.1 34 (b + k)) (7 + k)) 7)) (o1 := 34) (z1 := 984) (o2 := 30) (z2 := 7) (N := 7) (dp := 0) (sp := b + 7) rfl rfl rfl rfl rfl i0 (by omega) (by omega) (by decide) (fun k hk => y_k34 k hk) (fun _ _ => y_k30) (y_cp_cg rfl (fun k hk => by show (y_cp s 29 0 (fun k => s.1 34 (b + k)) 7).1 34 (b + 7 + k) = s.1 34 (b + (7 + k)); rw [Nat.add_assoc]; exact (y_cp_ne (by omega)).trans (rfl))) ?_
  have i1 : ((x + Int32.ofInt 7) + Int32.ofInt 7).toInt = ((b + 14 : Nat) : Int) := by
    rw [y_add (x := (x + Int32.ofInt 7)) (y := Int32.ofInt 7) (by show _ ≤ _ + (7 : Int); omega) (by show _ + (7 : Int) ≤ _; omega)]
    show _ + (7 : Int) = _
    omega
  refine y_run 1 rfl ?_
  refine y_run 6 rfl ?_
  refine y_acp (s2 := (y_cp (y_cp (y_cp s 29 0 (fun k => s.1 34 (b + k)) 7) 30 0 (fun k => (fun k => s.1 34 (b + k)) (7 + k)) 7) 31 0 (fun k => (fun k => s.1 34 (b + k)) (14 + k)) 2)) (o1 := 34) (z1 := 984) (o2 := 31) (z2 := 2) (N := 2) (dp := 0) (sp := b + 14) rfl rfl rfl rfl rfl i1 (by omega) (by omega) (by decide) (fun k hk => y_k34 k hk) (fun _ _ => y_k31) (y_cp_cg rfl (fun k hk => by show (y_cp (y_cp s 29 0 (fun k => s.1 34 (b + k)) 7) 30 0 (fun k => (fun k => s.1 34 (b + k)) (7 + k)) 7).1 34 (b + 14 + k) = s.1 34 (b + (14 + k)); rw [Nat.add_assoc]; exact (y_cp_ne (by omega)).trans ((y_cp_ne (by omega)).trans (rfl)))) ?_
  have i2 : (((x + Int32.ofInt 7) + Int32.ofInt 7) + Int32.ofInt 2).toInt = ((b + 16 : Nat) : Int) := by
    rw [y_add (x := ((x + Int32.ofInt 7) + Int32.ofInt 7)) (y := Int32.ofInt 2) (by show _ ≤ _ + (2 : Int); omega) (by show _ + (2 : Int) ≤ _; omega)]
    show _ + (2 : Int) = _
    omega
  refine y_run 1 rfl ?_
  refine y_run 6 rfl ?_
  refine y_acp (s2 := (y_cp (y_cp (y_cp (y_cp s 29 0 (fun k => s.1 34 (b + k)) 7) 30 0 (fun k => (fun k => s.1 34 (b + k)) (7 + k)) 7) 31 0 (fun k => (fun k => s.1 34 (b + k)) (14 + k)) 2) 32 0 (fun k => (fun k => s.1 34 (b + k)) (16 + k)) 2)) (o1 := 34) (z1 := 984) (o2 := 32) (z2 := 2) (N := 2) (dp := 0) (sp := b + 16) rfl rfl rfl rfl rfl i2 (by omega) (by omega) (by decide) (fun k hk => y_k34 k hk) (fun _ _ => y_k32) (y_cp_cg rfl (fun k hk => by show (y_cp (y_cp (y_cp s 29 0 (fun k => s.1 34 (b + k)) 7) 30 0 (fun k => (fun k => s.1 34 (b + k)) (7 + k)) 7) 31 0 (fun k => (fun k => s.1 34 (b + k)) (14 + k)) 2).1 34 (b + 16 + k) = s.1 34 (b + (16 + k)); rw [Nat.add_assoc]; exact (y_cp_ne (by omega)).trans ((y_cp_ne (by omega)).trans ((y_cp_ne (by omega)).trans (rfl))))) ?_
  have i3 : ((((x + Int32.ofInt 7) + Int32.ofInt 7) + Int32.ofInt 2) + Int32.ofInt 2).toInt = ((b + 18 : Nat) : Int) := by
    rw [y_add (x := (((x + Int32.ofInt 7) + Int32.ofInt 7) + Int32.ofInt 2)) (y := Int32.ofInt 2) (by show _ ≤ _ + (2 : Int); omega) (by show _ + (2 : Int) ≤ _; omega)]
    show _ + (2 : Int) = _
    omega
  refine y_run 1 rfl ?_
  refine y_sub (ls1 := [(0, .inr (.inr 30)), (1, .inr (.inr 36)), (3, .inl (((((x + Int32.ofInt 7) + Int32.ofInt 7) + Int32.ofInt 2) + Int32.ofInt 2)))]) (show ([0, 1, 3] : List Nat).Nodup by decide) (y_R_cons rfl (y_R_cons rfl (y_R_cons rfl y_R_nil))) ?_
  generalize ((((x + Int32.ofInt 7) + Int32.ofInt 7) + Int32.ofInt 2) + Int32.ofInt 2) = w at i3 ⊢
  refine y_run 3 rfl ?_
  refine y_ald2 (v := s.1 34 (b + 18)) (o := 34) (sz := 984) (j := b + 18) rfl rfl i3 (by omega) (y_k34 _ (by omega)) ((y_cp_ne (by omega)).trans ((y_cp_ne (by omega)).trans ((y_cp_ne (by omega)).trans ((y_cp_ne (by omega)).trans (rfl))))) ?_
  refine y_run 1 rfl ?_
  have w1 : (w + Int32.ofInt 1).toInt = ((b + 19 : Nat) : Int) := by
    rw [y_add (x := w) (y := Int32.ofInt 1) (by show _ ≤ _ + (1 : Int); omega) (by show _ + (1 : Int) ≤ _; omega)]
    show _ + (1 : Int) = _
    omega
  refine y_run 5 rfl ?_
  refine y_ald2 (v := s.1 34 (b + 19)) (o := 34) (sz := 984) (j := b + 19) rfl rfl w1 (by omega) (y_k34 _ (by omega)) ((y_up_ne (by omega)).trans ((y_cp_ne (by omega)).trans ((y_cp_ne (by omega)).trans ((y_cp_ne (by omega)).trans ((y_cp_ne (by omega)).trans (rfl)))))) ?_
  refine y_run 1 rfl ?_
  have w2 : (w + Int32.ofInt 2).toInt = ((b + 20 : Nat) : Int) := by
    rw [y_add (x := w) (y := Int32.ofInt 2) (by show _ ≤ _ + (2 : Int); omega) (by show _ + (2 : Int) ≤ _; omega)]
    show _ + (2 : Int) = _
    omega
  refine y_run 5 rfl ?_
  refine y_ald2 (v := s.1 34 (b + 20)) (o := 34) (sz := 984) (j := b + 20) rfl rfl w2 (by omega) (y_k34 _ (by omega)) ((y_up_ne (by omega)).trans ((y_up_ne (by omega)).trans ((y_cp_ne (by omega)).trans ((y_cp_ne (by omega)).trans ((y_cp_ne (by omega)).trans ((y_cp_ne (by omega)).trans (rfl))))))) ?_
  refine y_run 1 rfl ?_
  have w3 : (w + Int32.ofInt 3).toInt = ((b + 21 : Nat) : Int) := by
    rw [y_add (x := w) (y := Int32.ofInt 3) (by show _ ≤ _ + (3 : Int); omega) (by show _ + (3 : Int) ≤ _; omega)]
    show _ + (3 : Int) = _
    omega
  refine y_run 5 rfl ?_
  refine y_ald2 (v := s.1 34 (b + 21)) (o := 34) (sz := 984) (j := b + 21) rfl rfl w3 (by omega) (y_k34 _ (by omega)) ((y_up_ne (by omega)).trans ((y_up_ne (by omega)).trans ((y_up_ne (by omega)).trans ((y_cp_ne (by omega)).trans ((y_cp_ne (by omega)).trans ((y_cp_ne (by omega)).trans ((y_cp_ne (by omega)).trans (rfl)))))))) ?_
  refine y_run 1 rfl ?_
  have w4 : (w + Int32.ofInt 4).toInt = ((b + 22 : Nat) : Int) := by
    rw [y_add (x := w) (y := Int32.ofInt 4) (by show _ ≤ _ + (4 : Int); omega) (by show _ + (4 : Int) ≤ _; omega)]
    show _ + (4 : Int) = _
    omega
  refine y_run 5 rfl ?_
  refine y_ald2 (v := s.1 34 (b + 22)) (o := 34) (sz := 984) (j := b + 22) rfl rfl w4 (by omega) (y_k34 _ (by omega)) ((y_up_ne (by omega)).trans ((y_up_ne (by omega)).trans ((y_up_ne (by omega)).trans ((y_up_ne (by omega)).trans ((y_cp_ne (by omega)).trans ((y_cp_ne (by omega)).trans ((y_cp_ne (by omega)).trans ((y_cp_ne (by omega)).trans (rfl))))))))) ?_
  refine y_run 1 rfl ?_
  have w5 : (w + Int32.ofInt 5).toInt = ((b + 23 : Nat) : Int) := by
    rw [y_add (x := w) (y := Int32.ofInt 5) (by show _ ≤ _ + (5 : Int); omega) (by show _ + (5 : Int) ≤ _; omega)]
    show _ + (5 : Int) = _
    omega
  refine y_run 5 rfl ?_
  refine y_ald2 (v := s.1 34 (b + 23)) (o := 34) (sz := 984) (j := b + 23) rfl rfl w5 (by omega) (y_k34 _ (by omega)) ((y_up_ne (by omega)).trans ((y_up_ne (by omega)).trans ((y_up_ne (by omega)).trans ((y_up_ne (by omega)).trans ((y_up_ne (by omega)).trans ((y_cp_ne (by omega)).trans ((y_cp_ne (by omega)).trans ((y_cp_ne (by omega)).trans ((y_cp_ne (by omega)).trans (rfl)))))))))) ?_
  refine y_run 1 rfl ?_
  refine y_vret rfl (fun x2 j2 e hx2 => ?_)
  cases e
  have ej : j2 = j := by omega
  subst ej
  rw [hb]
  exact ⟨rfl, rfl⟩
theorem y_lod35T {s : y_H} {j : Nat} (hj : j < 3) (hT : w_T y_V0 g_sh (y_mk g_sh s)) : w_T y_V0 g_sh (y_mk g_sh (y_lod s (fun k => s.1 35 (24 * j + k)))) := y_lod_T hT (fun k hk => by
  obtain ⟨lo, hi, e1, e2⟩ := y_so_rg hk
  exact ⟨lo, hi, e1, y_rng (lo := lo) (hi := hi) (g := 0) hT ((y_ty35 hj hk).trans e1) (y_k35 _ (by omega))⟩)
theorem y_loadFrom35 : y_C g_sh g_ts 146 1 (fun a s => ∃ (x : Int32) (j : Nat), a = [.inr (.inr 30), .inr (.inr 37), .inl x] ∧ x.toInt = 24 * (j : Int) ∧ j < 3) (fun a s v s2 => ∀ (x : Int32) (j : Nat), a = [.inr (.inr 30), .inr (.inr 37), .inl x] → x.toInt = 24 * (j : Int) → v = none ∧ s2 = y_lod s (fun k => s.1 35 (24 * j + k))) := by
  refine y_C.of (t := g_t146) rfl (by decide) ?_
  rintro d a s hd ⟨x, j, rfl, hx, hj⟩
  generalize hb : 24 * j = b
  have x24 : (x + (Int8.ofInt 24).toInt32).toInt = x.toInt + 24 := y_add (x := x) (y := 24) (by show _ ≤ _ + (24 : Int); omega) (by show _ + (24 : Int) ≤ _; omega)
  refine y_run 1 rfl ?_
  refine y_if rfl (fun h => ?_) (fun h => ?_)
  · have h2 : x.toInt < 0 := h
    omega
  refine y_run 5 rfl ?_
  refine y_ic rfl (fun h => ?_) (fun h => ?_)
  rotate_left
  · have h2 : ¬ (x + (Int8.ofInt 24).toInt32).toInt ≤ 72 := h
    omega
  have xb : x.toInt = (b : Int) := by omega
  refine y_run 8 rfl ?_
  refine y_acp (s2 := (y_cp s 29 0 (fun k => s.1 35 (b + k)) 7)) (o1 := 35) (z1 := 72) (o2 := 29) (z2 := 7) (N := 7) (dp := 0) (sp := b + 0) rfl rfl rfl rfl rfl xb (by omega) (by omega) (by decide) (fun k hk => y_k35 k hk) (fun _ _ => y_k29) (y_cp_cg rfl (fun k hk => rfl)) ?_
  have i0 : (x + Int32.ofInt 7).toInt = ((b + 7 : Nat) : Int) := by
    rw [y_add (x := x) (y := Int32.ofInt 7) (by show _ ≤ _ + (7 : Int); omega) (by show _ + (7 : Int) ≤ _; omega)]
    show _ + (7 : Int) = _
    omega
  refine y_run 1 rfl ?_
  refine y_run 6 rfl ?_
  refine y_acp (s2 := (y_cp (y_cp s 29 0 (fun k => s.1 35 (b + k)) 7) 30 0 (fun k => (fun k => s.1 35 (b + k)) (7 + k)) 7)) (o1 := 35) (z1 := 72) (o2 := 30) (z2 := 7) (N := 7) (dp := 0) (sp := b + 7) rfl rfl rfl rfl rfl i0 (by omega) (by omega) (by decide) (fun k hk => y_k35 k hk) (fun _ _ => y_k30) (y_cp_cg rfl (fun k hk => by show (y_cp s 29 0 (fun k => s.1 35 (b + k)) 7).1 35 (b + 7 + k) = s.1 35 (b + (7 + k)); rw [Nat.add_assoc]; exact (y_cp_ne (by omega)).trans (rfl))) ?_
  have i1 : ((x + Int32.ofInt 7) + Int32.ofInt 7).toInt = ((b + 14 : Nat) : Int) := by
    rw [y_add (x := (x + Int32.ofInt 7)) (y := Int32.ofInt 7) (by show _ ≤ _ + (7 : Int); omega) (by show _ + (7 : Int) ≤ _; omega)]
    show _ + (7 : Int) = _
    omega
  refine y_run 1 rfl ?_
  refine y_run 6 rfl ?_
  refine y_acp (s2 := (y_cp (y_cp (y_cp s 29 0 (fun k => s.1 35 (b + k)) 7) 30 0 (fun k => (fun k => s.1 35 (b + k)) (7 + k)) 7) 31 0 (fun k => (fun k => s.1 35 (b + k)) (14 + k)) 2)) (o1 := 35) (z1 := 72) (o2 := 31) (z2 := 2) (N := 2) (dp := 0) (sp := b + 14) rfl rfl rfl rfl rfl i1 (by omega) (by omega) (by decide) (fun k hk => y_k35 k hk) (fun _ _ => y_k31) (y_cp_cg rfl (fun k hk => by show (y_cp (y_cp s 29 0 (fun k => s.1 35 (b + k)) 7) 30 0 (fun k => (fun k => s.1 35 (b + k)) (7 + k)) 7).1 35 (b + 14 + k) = s.1 35 (b + (14 + k)); rw [Nat.add_assoc]; exact (y_cp_ne (by omega)).trans ((y_cp_ne (by omega)).trans (rfl)))) ?_
  have i2 : (((x + Int32.ofInt 7) + Int32.ofInt 7) + Int32.ofInt 2).toInt = ((b + 16 : Nat) : Int) := by
    rw [y_add (x := ((x + Int32.ofInt 7) + Int32.ofInt 7)) (y := Int32.ofInt 2) (by show _ ≤ _ + (2 : Int); omega) (by show _ + (2 : Int) ≤ _; omega)]
    show _ + (2 : Int) = _
    omega
  refine y_run 1 rfl ?_
  refine y_run 6 rfl ?_
  refine y_acp (s2 := (y_cp (y_cp (y_cp (y_cp s 29 0 (fun k => s.1 35 (b + k)) 7) 30 0 (fun k => (fun k => s.1 35 (b + k)) (7 + k)) 7) 31 0 (fun k => (fun k => s.1 35 (b + k)) (14 + k)) 2) 32 0 (fun k => (fun k => s.1 35 (b + k)) (16 + k)) 2)) (o1 := 35) (z1 := 72) (o2 := 32) (z2 := 2) (N := 2) (dp := 0) (sp := b + 16) rfl rfl rfl rfl rfl i2 (by omega) (by omega) (by decide) (fun k hk => y_k35 k hk) (fun _ _ => y_k32) (y_cp_cg rfl (fun k hk => by show (y_cp (y_cp (y_cp s 29 0 (fun k => s.1 35 (b + k)) 7) 30 0 (fun k => (fun k => s.1 35 (b + k)) (7 + k)) 7) 31 0 (fun k => (fun k => s.1 35 (b + k)) (14 + k)) 2).1 35 (b + 16 + k) = s.1 35 (b + (16 + k)); rw [Nat.add_assoc]; exact (y_cp_ne (by omega)).trans ((y_cp_ne (by omega)).trans ((y_cp_ne (by omega)).trans (rfl))))) ?_
  have i3 : ((((x + Int32.ofInt 7) + Int32.ofInt 7) + Int32.ofInt 2) + Int32.ofInt 2).toInt = ((b + 18 : Nat) : Int) := by
    rw [y_add (x := (((x + Int32.ofInt 7) + Int32.ofInt 7) + Int32.ofInt 2)) (y := Int32.ofInt 2) (by show _ ≤ _ + (2 : Int); omega) (by show _ + (2 : Int) ≤ _; omega)]
    show _ + (2 : Int) = _
    omega
  refine y_run 1 rfl ?_
  refine y_sub (ls1 := [(0, .inr (.inr 30)), (1, .inr (.inr 37)), (3, .inl (((((x + Int32.ofInt 7) + Int32.ofInt 7) + Int32.ofInt 2) + Int32.ofInt 2)))]) (show ([0, 1, 3] : List Nat).Nodup by decide) (y_R_cons rfl (y_R_cons rfl (y_R_cons rfl y_R_nil))) ?_
  generalize ((((x + Int32.ofInt 7) + Int32.ofInt 7) + Int32.ofInt 2) + Int32.ofInt 2) = w at i3 ⊢
  refine y_run 3 rfl ?_
  refine y_ald2 (v := s.1 35 (b + 18)) (o := 35) (sz := 72) (j := b + 18) rfl rfl i3 (by omega) (y_k35 _ (by omega)) ((y_cp_ne (by omega)).trans ((y_cp_ne (by omega)).trans ((y_cp_ne (by omega)).trans ((y_cp_ne (by omega)).trans (rfl))))) ?_
  refine y_run 1 rfl ?_
  have w1 : (w + Int32.ofInt 1).toInt = ((b + 19 : Nat) : Int) := by
    rw [y_add (x := w) (y := Int32.ofInt 1) (by show _ ≤ _ + (1 : Int); omega) (by show _ + (1 : Int) ≤ _; omega)]
    show _ + (1 : Int) = _
    omega
  refine y_run 5 rfl ?_
  refine y_ald2 (v := s.1 35 (b + 19)) (o := 35) (sz := 72) (j := b + 19) rfl rfl w1 (by omega) (y_k35 _ (by omega)) ((y_up_ne (by omega)).trans ((y_cp_ne (by omega)).trans ((y_cp_ne (by omega)).trans ((y_cp_ne (by omega)).trans ((y_cp_ne (by omega)).trans (rfl)))))) ?_
  refine y_run 1 rfl ?_
  have w2 : (w + Int32.ofInt 2).toInt = ((b + 20 : Nat) : Int) := by
    rw [y_add (x := w) (y := Int32.ofInt 2) (by show _ ≤ _ + (2 : Int); omega) (by show _ + (2 : Int) ≤ _; omega)]
    show _ + (2 : Int) = _
    omega
  refine y_run 5 rfl ?_
  refine y_ald2 (v := s.1 35 (b + 20)) (o := 35) (sz := 72) (j := b + 20) rfl rfl w2 (by omega) (y_k35 _ (by omega)) ((y_up_ne (by omega)).trans ((y_up_ne (by omega)).trans ((y_cp_ne (by omega)).trans ((y_cp_ne (by omega)).trans ((y_cp_ne (by omega)).trans ((y_cp_ne (by omega)).trans (rfl))))))) ?_
  refine y_run 1 rfl ?_
  have w3 : (w + Int32.ofInt 3).toInt = ((b + 21 : Nat) : Int) := by
    rw [y_add (x := w) (y := Int32.ofInt 3) (by show _ ≤ _ + (3 : Int); omega) (by show _ + (3 : Int) ≤ _; omega)]
    show _ + (3 : Int) = _
    omega
  refine y_run 5 rfl ?_
  refine y_ald2 (v := s.1 35 (b + 21)) (o := 35) (sz := 72) (j := b + 21) rfl rfl w3 (by omega) (y_k35 _ (by omega)) ((y_up_ne (by omega)).trans ((y_up_ne (by omega)).trans ((y_up_ne (by omega)).trans ((y_cp_ne (by omega)).trans ((y_cp_ne (by omega)).trans ((y_cp_ne (by omega)).trans ((y_cp_ne (by omega)).trans (rfl)))))))) ?_
  refine y_run 1 rfl ?_
  have w4 : (w + Int32.ofInt 4).toInt = ((b + 22 : Nat) : Int) := by
    rw [y_add (x := w) (y := Int32.ofInt 4) (by show _ ≤ _ + (4 : Int); omega) (by show _ + (4 : Int) ≤ _; omega)]
    show _ + (4 : Int) = _
    omega
  refine y_run 5 rfl ?_
  refine y_ald2 (v := s.1 35 (b + 22)) (o := 35) (sz := 72) (j := b + 22) rfl rfl w4 (by omega) (y_k35 _ (by omega)) ((y_up_ne (by omega)).trans ((y_up_ne (by omega)).trans ((y_up_ne (by omega)).trans ((y_up_ne (by omega)).trans ((y_cp_ne (by omega)).trans ((y_cp_ne (by omega)).trans ((y_cp_ne (by omega)).trans ((y_cp_ne (by omega)).trans (rfl))))))))) ?_
  refine y_run 1 rfl ?_
  have w5 : (w + Int32.ofInt 5).toInt = ((b + 23 : Nat) : Int) := by
    rw [y_add (x := w) (y := Int32.ofInt 5) (by show _ ≤ _ + (5 : Int); omega) (by show _ + (5 : Int) ≤ _; omega)]
    show _ + (5 : Int) = _
    omega
  refine y_run 5 rfl ?_
  refine y_ald2 (v := s.1 35 (b + 23)) (o := 35) (sz := 72) (j := b + 23) rfl rfl w5 (by omega) (y_k35 _ (by omega)) ((y_up_ne (by omega)).trans ((y_up_ne (by omega)).trans ((y_up_ne (by omega)).trans ((y_up_ne (by omega)).trans ((y_up_ne (by omega)).trans ((y_cp_ne (by omega)).trans ((y_cp_ne (by omega)).trans ((y_cp_ne (by omega)).trans ((y_cp_ne (by omega)).trans (rfl)))))))))) ?_
  refine y_run 1 rfl ?_
  refine y_vret rfl (fun x2 j2 e hx2 => ?_)
  cases e
  have ej : j2 = j := by omega
  subst ej
  rw [hb]
  exact ⟨rfl, rfl⟩
