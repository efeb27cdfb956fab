/-! by hand: rows copied; the class's State.saveTo -/
theorem y_acp {d : Nat} {t : q_T} {Q : Option (q_V Int32) → y_H → Prop} {p : Nat} {ls : q_U Int32} {st : List (q_V Int32)} {s s2 : y_H} {ix len n1 n2 o1 o2 z1 z2 sp dp N : Nat} {xn xd xp : Int32} (hq : q_get t p = some (.invokestatic ix, len, [])) (h1 : y_ref g_sh n1 = some (o1, 100, z1)) (h2 : y_ref g_sh n2 = some (o2, 100, z2)) (hn : xn.toInt = (N : Int)) (hd : xd.toInt = (dp : Int)) (hp : xp.toInt = (sp : Int)) (b1 : sp + N ≤ z1) (b2 : dp + N ≤ z2) (hc : q_cats st ≤ 8) (k1 : ∀ k, k < z1 → y_kd g_sh o1 k = 0) (k2 : ∀ k, k < z2 → y_kd g_sh o2 k = 0) (he : y_cp s o2 dp (fun k => s.1 o1 (sp + k)) N = s2) (hw : y_W g_sh g_ts d t Q (p + len) ls st s2) : y_W g_sh g_ts d t Q p ls (.inl xn :: .inl xd :: .inr (.inr n2) :: .inl xp :: .inr (.inr n1) :: st) s := by
  subst he
  refine y_W.step (fun h ns hR => ?_) hw
  obtain ⟨rfl, us, hus⟩ := y_ref_ok hR h1
  obtain ⟨rfl, ud, hud⟩ := y_ref_ok hR h2
  have hlt : o2 < h.length := by
    rcases Nat.lt_or_ge o2 h.length with q | q
    · exact q
    · rw [List.getElem?_eq_none q] at hud
      cases hud
  refine ⟨0, h.set o2 (100, z2, q_cpy q_O32 (100, z1, us) sp dp N ud), ?_, ?_⟩
  · unfold q_step
    dsimp only
    rw [hq]
    show q_acpy q_O32 len (p, ls, .inl xn :: .inl xd :: .inr (.inr (o2 + 2)) :: .inl xp :: .inr (.inr (o1 + 2)) :: st) h ns = _
    unfold q_acpy
    dsimp only
    rw [hus, hud, show q_O32.2.2.2.2.1 xn = some N from y_ix hn, show q_O32.2.2.2.2.1 xd = some dp from y_ix hd, show q_O32.2.2.2.2.1 xp = some sp from y_ix hp]
    dsimp only
    rw [show (Nat.beq 100 100 && (Nat.beq 100 100 && (Nat.ble (sp + N) z1 && (Nat.ble (dp + N) z2 && Nat.ble (q_cats st) 8)))) = true by
      rw [q_ble_t b1, q_ble_t b2, q_ble_t hc]
      rfl, cond_true]
    rfl
  · constructor
    · intro o
      rw [← hR.1 o]
      rcases Nat.decEq o o2 with e | e
      · rw [List.getElem?_set_ne (fun q => e q.symm)]
      · subst e
        rw [List.getElem?_set_self hlt, hud]
        rfl
    · intro o q hq k hk
      rcases Nat.decEq o o2 with e | e
      · rw [List.getElem?_set_ne (fun q => e q.symm)] at hq
        rw [y_mk_eq (y_cp_ne (fun z => e z.1)) rfl]
        exact hR.2 o q hq k hk
      · subst e
        rw [List.getElem?_set_self hlt] at hq
        cases hq
        refine ⟨fun ht => absurd ht (Nat.lt_irrefl 100), fun _ => ?_⟩
        rw [q_cpy_at]
        by_cases hc : dp ≤ k ∧ k < dp + N
        · rw [if_pos hc, (hR.2 o1 _ hus (sp + (k - dp)) (show sp + (k - dp) < z1 by omega)).2 (Nat.le_refl 100)]
          show y_v (y_kd g_sh o1 (sp + (k - dp))) s o1 (sp + (k - dp)) = y_v (y_kd g_sh o k) _ o k
          rw [k1 _ (by omega), k2 k hk]
          show (Sum.inl (s.1 o1 (sp + (k - dp))) : q_V Int32) = Sum.inl (if o = o ∧ dp ≤ k ∧ k < dp + N then s.1 o1 (sp + (k - dp)) else s.1 o k)
          rw [if_pos ⟨rfl, hc⟩]
        · rw [if_neg hc, y_mk_eq (y_cp_ne (fun z => hc z.2)) rfl]
          exact (hR.2 o _ hud k hk).2 (Nat.le_refl 100)
theorem y_cp_cg {s : y_H} {o b n c : Nat} {f g : Nat → Int32} (hc : c = b) (h : ∀ k, k < n → g k = f k) : y_cp s o c g n = y_cp s o b f n := by
  subst hc
  refine Prod.ext ?_ rfl
  funext o2 k
  show (if o2 = o ∧ c ≤ k ∧ k < c + n then g (k - c) else s.1 o2 k) = if o2 = o ∧ c ≤ k ∧ k < c + n then f (k - c) else s.1 o2 k
  by_cases e : o2 = o ∧ c ≤ k ∧ k < c + n
  · rw [if_pos e, if_pos e, h (k - c) (by omega)]
  · rw [if_neg e, if_neg e]
theorem y_cp_app {s : y_H} {o b n m c N : Nat} {f g : Nat → Int32} (hc : c = b + n) (hN : N = n + m) (hg : ∀ k, k < m → g k = f (n + k)) : y_cp (y_cp s o b f n) o c g m = y_cp s o b f N := by
  subst hc hN
  refine Prod.ext ?_ rfl
  funext o2 k
  show (if o2 = o ∧ b + n ≤ k ∧ k < b + n + m then g (k - (b + n)) else if o2 = o ∧ b ≤ k ∧ k < b + n then f (k - b) else s.1 o2 k) = if o2 = o ∧ b ≤ k ∧ k < b + (n + m) then f (k - b) else s.1 o2 k
  by_cases e : o2 = o ∧ b + n ≤ k ∧ k < b + n + m
  · rw [if_pos e, if_pos (by omega), hg _ (by omega)]
    congr 1
    omega
  · rw [if_neg e]
    by_cases e2 : o2 = o ∧ b ≤ k ∧ k < b + n
    · rw [if_pos e2, if_pos (by omega)]
    · rw [if_neg e2, if_neg (by omega)]
/-- where a row's k-th int comes from -/
def y_so (k : Nat) : Nat × Nat := if k < 7 then (29, k) else if k < 14 then (30, k - 7) else if k < 16 then (31, k - 14) else if k < 18 then (32, k - 16) else if k = 18 then (28, 1) else if k = 19 then (28, 3) else (28, k - 14)
def y_srow (s : y_H) (k : Nat) : Int32 := s.1 (y_so k).1 (y_so k).2
def y_sl : List w_A := [w_n 0 6 0, w_n 0 6 0, w_n 0 6 0, w_n 0 6 0, w_n 0 6 0, w_n 0 6 0, w_n 0 6 0, w_n 0 4 0, w_n 0 4 0, w_n 0 4 0, w_n 0 4 0, w_n 0 4 0, w_n 0 4 0, w_n 0 4 0, w_g 2147483647 2147483654 0, w_g 2147483647 2147483654 0, w_t 0, w_t 0, w_n 0 7 0, w_t 0, w_t 0, w_t 0, w_t 0, w_t 0]
theorem y_so_ty : ∀ k, k < 24 → y_rgo (w_ty g_sh (y_so k).1 (y_so k).2) = y_rgo ((y_sl[k]?).map w_kz) ∧ (y_rgo ((y_sl[k]?).map w_kz)).isSome = true ∧ y_kd g_sh (y_so k).1 (y_so k).2 = 0 := by decide +kernel
theorem y_so_rg {k : Nat} (hk : k < 24) : ∃ lo hi : Nat, (y_sl[k]?).map w_kz = some (.inl ((lo, hi), 0)) ∧ w_ty g_sh (y_so k).1 (y_so k).2 = some (.inl ((lo, hi), 0)) := by
  obtain ⟨h1, h2, -⟩ := y_so_ty k hk
  rw [Option.isSome_iff_exists] at h2
  obtain ⟨⟨lo, hi⟩, e⟩ := h2
  exact ⟨lo, hi, y_rgo_ok e, y_rgo_ok (h1.trans e)⟩
theorem y_k34 : ∀ k, k < 984 → y_kd g_sh 34 k = 0 := by decide +kernel
theorem y_k35 : ∀ k, k < 72 → y_kd g_sh 35 k = 0 := by decide +kernel
theorem y_k31 {k : Nat} : y_kd g_sh 31 k = 0 := y_kdA (tag := 100) (sz := 2) (a := ((2147483647, 2147483654), 0)) rfl
theorem y_k32 {k : Nat} : y_kd g_sh 32 k = 0 := y_kdA (tag := 100) (sz := 2) (a := ((0, 4294967295), 0)) rfl
theorem y_ast2 {d : Nat} {t : q_T} {Q : Option (q_V Int32) → y_H → Prop} {p : Nat} {ls : q_U Int32} {st : List (q_V Int32)} {s s2 : y_H} {len : Nat} {r : List Nat} {n o sz j : Nat} {x v : Int32} (hq : q_get t p = some (.iastore, len, r)) (hr : y_ref g_sh n = some (o, 100, sz)) (hx : x.toInt = (j : Int)) (hj : j < sz) (hk : y_kd g_sh o j = 0) (he : y_up s o j (.inl v) = s2) (hw : y_W g_sh g_ts d t Q (p + len) ls st s2) : y_W g_sh g_ts d t Q p ls (.inl v :: .inl x :: .inr (.inr n) :: st) s := by
  subst he
  exact y_ast hq hr hx hj hk hw
theorem y_ty34 {j k : Nat} (hj : j < 41) (hk : k < 24) : w_ty g_sh 34 (24 * j + k) = (y_sl[k]?).map w_kz := by
  rw [y_tyP (o := 34) (tag := 100) (sz := 984) (l := y_sl) rfl (by omega), show y_sl.length = 24 from rfl, show (24 * j + k) % 24 = k by omega]
theorem y_sv34T {s : y_H} {j : Nat} (hj : j < 41) (hT : w_T y_V0 g_sh (y_mk g_sh s)) : w_T y_V0 g_sh (y_mk g_sh (y_cp s 34 (24 * j) (y_srow s) 24)) := y_Tcp hT (fun k hk => by
  obtain ⟨lo, hi, e1, e2⟩ := y_so_rg hk
  exact ⟨y_k34 _ (by omega), lo, hi, (y_ty34 hj hk).trans e1, y_rng (lo := lo) (hi := hi) (g := 0) hT e2 (y_so_ty k hk).2.2⟩)
theorem y_ty35 {j k : Nat} (hj : j < 3) (hk : k < 24) : w_ty g_sh 35 (24 * j + k) = (y_sl[k]?).map w_kz := by
  rw [y_tyP (o := 35) (tag := 100) (sz := 72) (l := y_sl) rfl (by omega), show y_sl.length = 24 from rfl, show (24 * j + k) % 24 = k by omega]
theorem y_sv35T {s : y_H} {j : Nat} (hj : j < 3) (hT : w_T y_V0 g_sh (y_mk g_sh s)) : w_T y_V0 g_sh (y_mk g_sh (y_cp s 35 (24 * j) (y_srow s) 24)) := y_Tcp hT (fun k hk => by
  obtain ⟨lo, hi, e1, e2⟩ := y_so_rg hk
  exact ⟨y_k35 _ (by omega), lo, hi, (y_ty35 hj hk).trans e1, y_rng (lo := lo) (hi := hi) (g := 0) hT e2 (y_so_ty k hk).2.2⟩)
theorem y_saveTo34 : y_C g_sh g_ts 149 1 (fun a s => ∃ (x : Int32) (j : Nat), a = [.inr (.inr 30), .inr (.inr 36), .inl x] ∧ x.toInt = 24 * (j : Int) ∧ j < 41) (fun a s v s2 => ∀ (x : Int32) (j : Nat), a = [.inr (.inr 30), .inr (.inr 36), .inl x] → x.toInt = 24 * (j : Int) → v = none ∧ s2 = y_cp s 34 (24 * j) (y_srow s) 24) := by
  refine y_C.of (t := g_t149) rfl (by decide) ?_
  rintro d a s hd ⟨x, j, rfl, hx, hj⟩
  generalize hb : 24 * j = b
  have x24 : (x + (Int8.ofInt 24).toInt32).toInt = x.toInt + 24 := y_add (x := x) (y := 24) (by show _ ≤ _ + (24 : Int); omega) (by show _ + (24 : Int) ≤ _; omega)
  refine y_run 1 rfl ?_
  refine y_if rfl (fun h => ?_) (fun h => ?_)
  · have h2 : x.toInt < 0 := h
    omega
  refine y_run 5 rfl ?_
  refine y_ic rfl (fun h => ?_) (fun h => ?_)
  rotate_left
  · have h2 : ¬ (x + (Int8.ofInt 24).toInt32).toInt ≤ 984 := h
    omega
  have xb : x.toInt = (b : Int) := by omega
  refine y_run 8 rfl ?_
  refine y_acp (s2 := (y_cp s 34 b (y_srow s) 7)) (o1 := 29) (z1 := 7) (o2 := 34) (z2 := 984) (N := 7) (dp := b + 0) (sp := 0) rfl rfl rfl rfl xb rfl (by omega) (by omega) (by decide) (fun _ _ => y_k29) (fun k hk => y_k34 k hk) (y_cp_cg rfl (fun k hk => by show s.1 29 (0 + k) = y_srow s k; rw [Nat.zero_add]; unfold y_srow y_so; rw [if_pos hk])) ?_
  have i0 : (x + Int32.ofInt 7).toInt = ((b + 7 : Nat) : Int) := by
    rw [y_add (x := x) (y := Int32.ofInt 7) (by show _ ≤ _ + (7 : Int); omega) (by show _ + (7 : Int) ≤ _; omega)]
    show _ + (7 : Int) = _
    omega
  refine y_run 1 rfl ?_
  refine y_run 6 rfl ?_
  refine y_acp (s2 := (y_cp s 34 b (y_srow s) 14)) (o1 := 30) (z1 := 7) (o2 := 34) (z2 := 984) (N := 7) (dp := b + 7) (sp := 0) rfl rfl rfl rfl i0 rfl (by omega) (by omega) (by decide) (fun _ _ => y_k30) (fun k hk => y_k34 k hk) (y_cp_app rfl rfl (fun k hk => by show (y_cp s 34 b (y_srow s) 7).1 30 (0 + k) = y_srow s (7 + k); rw [y_cp_ne (by omega), Nat.zero_add]; unfold y_srow y_so; rw [if_neg (by omega), if_pos (by omega)]; show s.1 30 k = s.1 30 (7 + k - 7); rw [show 7 + k - 7 = k by omega])) ?_
  have i1 : ((x + Int32.ofInt 7) + Int32.ofInt 7).toInt = ((b + 14 : Nat) : Int) := by
    rw [y_add (x := (x + Int32.ofInt 7)) (y := Int32.ofInt 7) (by show _ ≤ _ + (7 : Int); omega) (by show _ + (7 : Int) ≤ _; omega)]
    show _ + (7 : Int) = _
    omega
  refine y_run 1 rfl ?_
  refine y_run 6 rfl ?_
  refine y_acp (s2 := (y_cp s 34 b (y_srow s) 16)) (o1 := 31) (z1 := 2) (o2 := 34) (z2 := 984) (N := 2) (dp := b + 14) (sp := 0) rfl rfl rfl rfl i1 rfl (by omega) (by omega) (by decide) (fun _ _ => y_k31) (fun k hk => y_k34 k hk) (y_cp_app rfl rfl (fun k hk => by show (y_cp s 34 b (y_srow s) 14).1 31 (0 + k) = y_srow s (14 + k); rw [y_cp_ne (by omega), Nat.zero_add]; unfold y_srow y_so; rw [if_neg (by omega), if_neg (by omega), if_pos (by omega)]; show s.1 31 k = s.1 31 (14 + k - 14); rw [show 14 + k - 14 = k by omega])) ?_
  have i2 : (((x + Int32.ofInt 7) + Int32.ofInt 7) + Int32.ofInt 2).toInt = ((b + 16 : Nat) : Int) := by
    rw [y_add (x := ((x + Int32.ofInt 7) + Int32.ofInt 7)) (y := Int32.ofInt 2) (by show _ ≤ _ + (2 : Int); omega) (by show _ + (2 : Int) ≤ _; omega)]
    show _ + (2 : Int) = _
    omega
  refine y_run 1 rfl ?_
  refine y_run 6 rfl ?_
  refine y_acp (s2 := (y_cp s 34 b (y_srow s) 18)) (o1 := 32) (z1 := 2) (o2 := 34) (z2 := 984) (N := 2) (dp := b + 16) (sp := 0) rfl rfl rfl rfl i2 rfl (by omega) (by omega) (by decide) (fun _ _ => y_k32) (fun k hk => y_k34 k hk) (y_cp_app rfl rfl (fun k hk => by show (y_cp s 34 b (y_srow s) 16).1 32 (0 + k) = y_srow s (16 + k); rw [y_cp_ne (by omega), Nat.zero_add]; unfold y_srow y_so; rw [if_neg (by omega), if_neg (by omega), if_neg (by omega), if_pos (by omega)]; show s.1 32 k = s.1 32 (16 + k - 16); rw [show 16 + k - 16 = k by omega])) ?_
  have i3 : ((((x + Int32.ofInt 7) + Int32.ofInt 7) + Int32.ofInt 2) + Int32.ofInt 2).toInt = ((b + 18 : Nat) : Int) := by
    rw [y_add (x := (((x + Int32.ofInt 7) + Int32.ofInt 7) + Int32.ofInt 2)) (y := Int32.ofInt 2) (by show _ ≤ _ + (2 : Int); omega) (by show _ + (2 : Int) ≤ _; omega)]
    show _ + (2 : Int) = _
    omega
  refine y_run 1 rfl ?_
  refine y_sub (ls1 := [(0, .inr (.inr 30)), (1, .inr (.inr 36)), (3, .inl (((((x + Int32.ofInt 7) + Int32.ofInt 7) + Int32.ofInt 2) + Int32.ofInt 2)))]) (show ([0, 1, 3] : List Nat).Nodup by decide) (y_R_cons rfl (y_R_cons rfl (y_R_cons rfl y_R_nil))) ?_
  generalize ((((x + Int32.ofInt 7) + Int32.ofInt 7) + Int32.ofInt 2) + Int32.ofInt 2) = w at i3 ⊢
  refine y_run 4 rfl ?_
  refine y_ast2 (s2 := y_cp s 34 b (y_srow s) 19) (o := 34) (sz := 984) (j := b + 18) rfl rfl i3 (by omega) (y_k34 _ (by omega)) (y_cpS2 rfl (show (y_cp s 34 b (y_srow s) 18).1 28 1 = y_srow s 18 from y_cp_ne (by omega))) ?_
  have w1 : (w + Int32.ofInt 1).toInt = ((b + 19 : Nat) : Int) := by
    rw [y_add (x := w) (y := Int32.ofInt 1) (by show _ ≤ _ + (1 : Int); omega) (by show _ + (1 : Int) ≤ _; omega)]
    show _ + (1 : Int) = _
    omega
  refine y_run 6 rfl ?_
  refine y_ast2 (s2 := y_cp s 34 b (y_srow s) 20) (o := 34) (sz := 984) (j := b + 19) rfl rfl w1 (by omega) (y_k34 _ (by omega)) (y_cpS2 rfl (show (y_cp s 34 b (y_srow s) 19).1 28 3 = y_srow s 19 from y_cp_ne (by omega))) ?_
  have w2 : (w + Int32.ofInt 2).toInt = ((b + 20 : Nat) : Int) := by
    rw [y_add (x := w) (y := Int32.ofInt 2) (by show _ ≤ _ + (2 : Int); omega) (by show _ + (2 : Int) ≤ _; omega)]
    show _ + (2 : Int) = _
    omega
  refine y_run 6 rfl ?_
  refine y_ast2 (s2 := y_cp s 34 b (y_srow s) 21) (o := 34) (sz := 984) (j := b + 20) rfl rfl w2 (by omega) (y_k34 _ (by omega)) (y_cpS2 rfl (show (y_cp s 34 b (y_srow s) 20).1 28 6 = y_srow s 20 from y_cp_ne (by omega))) ?_
  have w3 : (w + Int32.ofInt 3).toInt = ((b + 21 : Nat) : Int) := by
    rw [y_add (x := w) (y := Int32.ofInt 3) (by show _ ≤ _ + (3 : Int); omega) (by show _ + (3 : Int) ≤ _; omega)]
    show _ + (3 : Int) = _
    omega
  refine y_run 6 rfl ?_
  refine y_ast2 (s2 := y_cp s 34 b (y_srow s) 22) (o := 34) (sz := 984) (j := b + 21) rfl rfl w3 (by omega) (y_k34 _ (by omega)) (y_cpS2 rfl (show (y_cp s 34 b (y_srow s) 21).1 28 7 = y_srow s 21 from y_cp_ne (by omega))) ?_
  have w4 : (w + Int32.ofInt 4).toInt = ((b + 22 : Nat) : Int) := by
    rw [y_add (x := w) (y := Int32.ofInt 4) (by show _ ≤ _ + (4 : Int); omega) (by show _ + (4 : Int) ≤ _; omega)]
    show _ + (4 : Int) = _
    omega
  refine y_run 6 rfl ?_
  refine y_ast2 (s2 := y_cp s 34 b (y_srow s) 23) (o := 34) (sz := 984) (j := b + 22) rfl rfl w4 (by omega) (y_k34 _ (by omega)) (y_cpS2 rfl (show (y_cp s 34 b (y_srow s) 22).1 28 8 = y_srow s 22 from y_cp_ne (by omega))) ?_
  have w5 : (w + Int32.ofInt 5).toInt = ((b + 23 : Nat) : Int) := by
    rw [y_add (x := w) (y := Int32.ofInt 5) (by show _ ≤ _ + (5 : Int); omega) (by show _ + (5 : Int) ≤ _; omega)]
    show _ + (5 : Int) = _
    omega
  refine y_run 6 rfl ?_
  refine y_ast2 (s2 := y_cp s 34 b (y_srow s) 24) (o := 34) (sz := 984) (j := b + 23) rfl rfl w5 (by omega) (y_k34 _ (by omega)) (y_cpS2 rfl (show (y_cp s 34 b (y_srow s) 23).1 28 9 = y_srow s 23 from y_cp_ne (by omega))) ?_
  refine y_vret rfl (fun x2 j2 e hx2 => ?_)
  cases e
  have ej : j2 = j := by omega
  subst ej
  rw [hb]
  exact ⟨rfl, rfl⟩
theorem y_saveTo35 : y_C g_sh g_ts 149 1 (fun a s => ∃ (x : Int32) (j : Nat), a = [.inr (.inr 30), .inr (.inr 37), .inl x] ∧ x.toInt = 24 * (j : Int) ∧ j < 3) (fun a s v s2 => ∀ (x : Int32) (j : Nat), a = [.inr (.inr 30), .inr (.inr 37), .inl x] → x.toInt = 24 * (j : Int) → v = none ∧ s2 = y_cp s 35 (24 * j) (y_srow s) 24) := by
  refine y_C.of (t := g_t149) rfl (by decide) ?_
  rintro d a s hd ⟨x, j, rfl, hx, hj⟩
  generalize hb : 24 * j = b
  have x24 : (x + (Int8.ofInt 24).toInt32).toInt = x.toInt + 24 := y_add (x := x) (y := 24) (by show _ ≤ _ + (24 : Int); omega) (by show _ + (24 : Int) ≤ _; omega)
  refine y_run 1 rfl ?_
  refine y_if rfl (fun h => ?_) (fun h => ?_)
  · have h2 : x.toInt < 0 := h
    omega
  refine y_run 5 rfl ?_
  refine y_ic rfl (fun h => ?_) (fun h => ?_)
  rotate_left
  · have h2 : ¬ (x + (Int8.ofInt 24).toInt32).toInt ≤ 72 := h
    omega
  have xb : x.toInt = (b : Int) := by omega
  refine y_run 8 rfl ?_
  refine y_acp (s2 := (y_cp s 35 b (y_srow s) 7)) (o1 := 29) (z1 := 7) (o2 := 35) (z2 := 72) (N := 7) (dp := b + 0) (sp := 0) rfl rfl rfl rfl xb rfl (by omega) (by omega) (by decide) (fun _ _ => y_k29) (fun k hk => y_k35 k hk) (y_cp_cg rfl (fun k hk => by show s.1 29 (0 + k) = y_srow s k; rw [Nat.zero_add]; unfold y_srow y_so; rw [if_pos hk])) ?_
  have i0 : (x + Int32.ofInt 7).toInt = ((b + 7 : Nat) : Int) := by
    rw [y_add (x := x) (y := Int32.ofInt 7) (by show _ ≤ _ + (7 : Int); omega) (by show _ + (7 : Int) ≤ _; omega)]
    show _ + (7 : Int) = _
    omega
  refine y_run 1 rfl ?_
  refine y_run 6 rfl ?_
  refine y_acp (s2 := (y_cp s 35 b (y_srow s) 14)) (o1 := 30) (z1 := 7) (o2 := 35) (z2 := 72) (N := 7) (dp := b + 7) (sp := 0) rfl rfl rfl rfl i0 rfl (by omega) (by omega) (by decide) (fun _ _ => y_k30) (fun k hk => y_k35 k hk) (y_cp_app rfl rfl (fun k hk => by show (y_cp s 35 b (y_srow s) 7).1 30 (0 + k) = y_srow s (7 + k); rw [y_cp_ne (by omega), Nat.zero_add]; unfold y_srow y_so; rw [if_neg (by omega), if_pos (by omega)]; show s.1 30 k = s.1 30 (7 + k - 7); rw [show 7 + k - 7 = k by omega])) ?_
  have i1 : ((x + Int32.ofInt 7) + Int32.ofInt 7).toInt = ((b + 14 : Nat) : Int) := by
    rw [y_add (x := (x + Int32.ofInt 7)) (y := Int32.ofInt 7) (by show _ ≤ _ + (7 : Int); omega) (by show _ + (7 : Int) ≤ _; omega)]
    show _ + (7 : Int) = _
    omega
  refine y_run 1 rfl ?_
  refine y_run 6 rfl ?_
  refine y_acp (s2 := (y_cp s 35 b (y_srow s) 16)) (o1 := 31) (z1 := 2) (o2 := 35) (z2 := 72) (N := 2) (dp := b + 14) (sp := 0) rfl rfl rfl rfl i1 rfl (by omega) (by omega) (by decide) (fun _ _ => y_k31) (fun k hk => y_k35 k hk) (y_cp_app rfl rfl (fun k hk => by show (y_cp s 35 b (y_srow s) 14).1 31 (0 + k) = y_srow s (14 + k); rw [y_cp_ne (by omega), Nat.zero_add]; unfold y_srow y_so; rw [if_neg (by omega), if_neg (by omega), if_pos (by omega)]; show s.1 31 k = s.1 31 (14 + k - 14); rw [show 14 + k - 14 = k by omega])) ?_
  have i2 : (((x + Int32.ofInt 7) + Int32.ofInt 7) + Int32.ofInt 2).toInt = ((b + 16 : Nat) : Int) := by
    rw [y_add (x := ((x + Int32.ofInt 7) + Int32.ofInt 7)) (y := Int32.ofInt 2) (by show _ ≤ _ + (2 : Int); omega) (by show _ + (2 : Int) ≤ _; omega)]
    show _ + (2 : Int) = _
    omega
  refine y_run 1 rfl ?_
  refine y_run 6 rfl ?_
  refine y_acp (s2 := (y_cp s 35 b (y_srow s) 18)) (o1 := 32) (z1 := 2) (o2 := 35) (z2 := 72) (N := 2) (dp := b + 16) (sp := 0) rfl rfl rfl rfl i2 rfl (by omega) (by omega) (by decide) (fun _ _ => y_k32) (fun k hk => y_k35 k hk) (y_cp_app rfl rfl (fun k hk => by show (y_cp s 35 b (y_srow s) 16).1 32 (0 + k) = y_srow s (16 + k); rw [y_cp_ne (by omega), Nat.zero_add]; unfold y_srow y_so; rw [if_neg (by omega), if_neg (by omega), if_neg (by omega), if_pos (by omega)]; show s.1 32 k = s.1 32 (16 + k - 16); rw [show 16 + k - 16 = k by omega])) ?_
  have i3 : ((((x + Int32.ofInt 7) + Int32.ofInt 7) + Int32.ofInt 2) + Int32.ofInt 2).toInt = ((b + 18 : Nat) : Int) := by
    rw [y_add (x := (((x + Int32.ofInt 7) + Int32.ofInt 7) + Int32.ofInt 2)) (y := Int32.ofInt 2) (by show _ ≤ _ + (2 : Int); omega) (by show _ + (2 : Int) ≤ _; omega)]
    show _ + (2 : Int) = _
    omega
  refine y_run 1 rfl ?_
  refine y_sub (ls1 := [(0, .inr (.inr 30)), (1, .inr (.inr 37)), (3, .inl (((((x + Int32.ofInt 7) + Int32.ofInt 7) + Int32.ofInt 2) + Int32.ofInt 2)))]) (show ([0, 1, 3] : List Nat).Nodup by decide) (y_R_cons rfl (y_R_cons rfl (y_R_cons rfl y_R_nil))) ?_
  generalize ((((x + Int32.ofInt 7) + Int32.ofInt 7) + Int32.ofInt 2) + Int32.ofInt 2) = w at i3 ⊢
  refine y_run 4 rfl ?_
  refine y_ast2 (s2 := y_cp s 35 b (y_srow s) 19) (o := 35) (sz := 72) (j := b + 18) rfl rfl i3 (by omega) (y_k35 _ (by omega)) (y_cpS2 rfl (show (y_cp s 35 b (y_srow s) 18).1 28 1 = y_srow s 18 from y_cp_ne (by omega))) ?_
  have w1 : (w + Int32.ofInt 1).toInt = ((b + 19 : Nat) : Int) := by
    rw [y_add (x := w) (y := Int32.ofInt 1) (by show _ ≤ _ + (1 : Int); omega) (by show _ + (1 : Int) ≤ _; omega)]
    show _ + (1 : Int) = _
    omega
  refine y_run 6 rfl ?_
  refine y_ast2 (s2 := y_cp s 35 b (y_srow s) 20) (o := 35) (sz := 72) (j := b + 19) rfl rfl w1 (by omega) (y_k35 _ (by omega)) (y_cpS2 rfl (show (y_cp s 35 b (y_srow s) 19).1 28 3 = y_srow s 19 from y_cp_ne (by omega))) ?_
  have w2 : (w + Int32.ofInt 2).toInt = ((b + 20 : Nat) : Int) := by
    rw [y_add (x := w) (y := Int32.ofInt 2) (by show _ ≤ _ + (2 : Int); omega) (by show _ + (2 : Int) ≤ _; omega)]
    show _ + (2 : Int) = _
    omega
  refine y_run 6 rfl ?_
  refine y_ast2 (s2 := y_cp s 35 b (y_srow s) 21) (o := 35) (sz := 72) (j := b + 20) rfl rfl w2 (by omega) (y_k35 _ (by omega)) (y_cpS2 rfl (show (y_cp s 35 b (y_srow s) 20).1 28 6 = y_srow s 20 from y_cp_ne (by omega))) ?_
  have w3 : (w + Int32.ofInt 3).toInt = ((b + 21 : Nat) : Int) := by
    rw [y_add (x := w) (y := Int32.ofInt 3) (by show _ ≤ _ + (3 : Int); omega) (by show _ + (3 : Int) ≤ _; omega)]
    show _ + (3 : Int) = _
    omega
  refine y_run 6 rfl ?_
  refine y_ast2 (s2 := y_cp s 35 b (y_srow s) 22) (o := 35) (sz := 72) (j := b + 21) rfl rfl w3 (by omega) (y_k35 _ (by omega)) (y_cpS2 rfl (show (y_cp s 35 b (y_srow s) 21).1 28 7 = y_srow s 21 from y_cp_ne (by omega))) ?_
  have w4 : (w + Int32.ofInt 4).toInt = ((b + 22 : Nat) : Int) := by
    rw [y_add (x := w) (y := Int32.ofInt 4) (by show _ ≤ _ + (4 : Int); omega) (by show _ + (4 : Int) ≤ _; omega)]
    show _ + (4 : Int) = _
    omega
  refine y_run 6 rfl ?_
  refine y_ast2 (s2 := y_cp s 35 b (y_srow s) 23) (o := 35) (sz := 72) (j := b + 22) rfl rfl w4 (by omega) (y_k35 _ (by omega)) (y_cpS2 rfl (show (y_cp s 35 b (y_srow s) 22).1 28 8 = y_srow s 22 from y_cp_ne (by omega))) ?_
  have w5 : (w + Int32.ofInt 5).toInt = ((b + 23 : Nat) : Int) := by
    rw [y_add (x := w) (y := Int32.ofInt 5) (by show _ ≤ _ + (5 : Int); omega) (by show _ + (5 : Int) ≤ _; omega)]
    show _ + (5 : Int) = _
    omega
  refine y_run 6 rfl ?_
  refine y_ast2 (s2 := y_cp s 35 b (y_srow s) 24) (o := 35) (sz := 72) (j := b + 23) rfl rfl w5 (by omega) (y_k35 _ (by omega)) (y_cpS2 rfl (show (y_cp s 35 b (y_srow s) 23).1 28 9 = y_srow s 23 from y_cp_ne (by omega))) ?_
  refine y_vret rfl (fun x2 j2 e hx2 => ?_)
  cases e
  have ej : j2 = j := by omega
  subst ej
  rw [hb]
  exact ⟨rfl, rfl⟩
