/-! the switches, the plain instructions; a whole step; runs -/
theorem u_ofI {v : Int} (h1 : -2147483648 ≤ v) (h2 : v ≤ 2147483647) (x : Int32) : (x = Int32.ofInt v) ↔ x.toInt = v := by
  constructor
  · intro e
    rw [e]
    exact Int32.toInt_ofInt_of_le h1 (by omega)
  · intro e
    rw [← Int32.toInt_inj, e, Int32.toInt_ofInt_of_le h1 (by omega)]
theorem u_ts_eq {β : Type} {x : Int32} {d : β} : ∀ (l : List β) (lo : Int), -2147483648 ≤ lo → lo + (l.length : Int) ≤ 2147483648 → ((x.toInt < lo ∨ lo + (l.length : Int) ≤ x.toInt) → u_ts x d lo l = d) ∧ ∀ (i : Nat) (b : β), x.toInt = lo + (i : Int) → l[i]? = some b → u_ts x d lo l = b
  | [], _, _, _ => ⟨fun _ => rfl, fun _ _ _ h => by cases h⟩
  | b :: r, lo, h1, h2 => by
    have hl : ((b :: r).length : Int) = (r.length : Int) + 1 := by simp
    have ih := u_ts_eq (x := x) (d := d) r (lo + 1) (by omega) (by omega)
    have hi := u_ofI (v := lo) (by omega) (by omega) x
    constructor
    · intro h
      show (if x = Int32.ofInt lo then b else u_ts x d (lo + 1) r) = d
      rw [if_neg (fun e => by have := hi.mp e; omega)]
      exact ih.1 (by omega)
    · intro i c hx hc
      show (if x = Int32.ofInt lo then b else u_ts x d (lo + 1) r) = c
      rcases i with _ | i
      · rw [if_pos (hi.mpr (by simpa using hx))]
        exact Option.some.inj hc
      · rw [if_neg (fun e => by have := hi.mp e; omega)]
        exact ih.2 i c (by omega) (by simpa using hc)
theorem u_ls_eq {β : Type} {x : Int32} {p d : Int} {f : Nat → β} : ∀ ps : List (Int × Int), ps.all (fun q => decide (-2147483648 ≤ q.1 ∧ q.1 ≤ 2147483647 ∧ 0 ≤ p + q.2)) = true → u_ls x (f (p + d).toNat) (ps.map fun q => (q.1, f (p + q.2).toNat)) = f (p + Op.lookupswitch.offset ps d x.toInt).toNat
  | [], _ => rfl
  | (a, o) :: r, h => by
    rw [List.all_cons, Bool.and_eq_true] at h
    have h1 := of_decide_eq_true h.1
    have hi := u_ofI (v := a) h1.1 h1.2.1 x
    show (if x = Int32.ofInt a then f (p + o).toNat else u_ls x (f (p + d).toNat) (r.map fun q => (q.1, f (p + q.2).toNat))) = _
    rw [Op.lookupswitch.offset_cons]
    by_cases e : a = x.toInt
    · rw [if_pos e, if_pos (hi.mpr e.symm)]
    · rw [if_neg e, if_neg (fun q => e (hi.mp q).symm)]
      exact u_ls_eq r h.2
theorem u_offs {p d : Int} {v : Int} : ∀ ps : List (Int × Int), 0 ≤ p + d → ps.all (fun q => decide (-2147483648 ≤ q.1 ∧ q.1 ≤ 2147483647 ∧ 0 ≤ p + q.2)) = true → 0 ≤ p + Op.lookupswitch.offset ps d v
  | [], h, _ => h
  | (a, o) :: r, hd, h => by
    rw [List.all_cons, Bool.and_eq_true] at h
    have h1 := of_decide_eq_true h.1
    rw [Op.lookupswitch.offset_cons]
    split
    · exact h1.2.2
    · exact u_offs r hd h.2
theorem u_i8 {n : Int} (h : decide (-128 ≤ n ∧ n ≤ 127) = true) : (Int8.ofInt n).toInt32 = Int32.ofInt n := by
  have h1 := of_decide_eq_true h
  rw [← Int32.toInt_inj, Int8.toInt_toInt32, Int8.toInt_ofInt_of_le (by omega) (by omega), Int32.toInt_ofInt_of_le (by omega) (by omega)]
theorem u_i16 {n : Int} (h : decide (-32768 ≤ n ∧ n ≤ 32767) = true) : (Int16.ofInt n).toInt32 = Int32.ofInt n := by
  have h1 := of_decide_eq_true h
  rw [← Int32.toInt_inj, Int16.toInt_toInt32, Int16.toInt_ofInt_of_le (by omega) (by omega), Int32.toInt_ofInt_of_le (by omega) (by omega)]
section SIM2
variable {cal : u_Cal} {len : Nat} {r : List Nat} {p : Nat} {ls : q_U Int32} {L : u_L} {st : List (q_V Int32)} {s : u_H} {h : q_H Int32} {ns : Nat} {X : q_S Int32 ⊕ q_R Int32}
theorem u_sTsw {lo hi : Int} (hk : ∀ d tgs, r = d :: tgs → decide (-2147483648 ≤ lo ∧ lo ≤ hi ∧ hi ≤ 2147483647 ∧ hi - lo + 1 = (tgs.length : Int)) = true) (hR : u_Rep h s) (hL : u_LR ls L) (hX : q_tsw q_O32 lo hi r (p, ls, st) h ns = some X) : u_S cal ls s h ns X (u_aTsw none u_dg r L st s lo hi) := by
  unfold q_tsw at hX
  dsimp only at hX
  split at hX
  next x st0 =>
    rcases r with _ | ⟨d, tgs⟩
    · exfalso
      split at hX
      next tg htg =>
        split at htg
        · cases htg
        · cases htg
        · split at htg <;> cases htg
        · cases htg
      next => cases hX
    · have hk1 := hk d tgs rfl
      have hk2 := of_decide_eq_true hk1
      obtain ⟨k1, k2, k3, k4⟩ := hk2
      unfold u_aTsw
      dsimp only
      rw [hk1, cond_true]
      have hts := u_ts_eq (x := x) (d := u_dg d L st0 s) (tgs.map fun tg => u_dg tg L st0 s) lo k1 (by rw [List.length_map]; omega)
      rw [List.length_map] at hts
      have e1 : q_O32.2.2.2.1 2 x (q_O32.1 (Int32.ofInt lo)) = some (decide (x < Int32.ofInt lo)) := rfl
      have e2 : q_O32.2.2.2.1 4 x (q_O32.1 (Int32.ofInt hi)) = some (decide (Int32.ofInt hi < x)) := rfl
      have e3 : q_O32.2.2.2.2.2.2.1 x = some x.toInt := rfl
      have i1 : x < Int32.ofInt lo ↔ x.toInt < lo := by rw [Int32.lt_iff_toInt_lt, Int32.toInt_ofInt_of_le k1 (by omega)]
      have i2 : Int32.ofInt hi < x ↔ hi < x.toInt := by rw [Int32.lt_iff_toInt_lt, Int32.toInt_ofInt_of_le (by omega) (by omega)]
      rw [e1, e2] at hX
      by_cases c1 : x.toInt < lo
      · rw [decide_eq_true (i1.mpr c1)] at hX
        cases hX
        rw [hts.1 (Or.inl c1)]
        exact u_S.go hR hL
      · rw [decide_eq_false (fun q => c1 (i1.mp q))] at hX
        by_cases c2 : hi < x.toInt
        · rw [decide_eq_true (i2.mpr c2)] at hX
          cases hX
          rw [hts.1 (Or.inr (by omega))]
          exact u_S.go hR hL
        · rw [decide_eq_false (fun q => c2 (i2.mp q))] at hX
          dsimp only at hX
          rw [e3] at hX
          dsimp only at hX
          rw [List.getElem?_cons_succ] at hX
          split at hX
          next tg htg =>
            cases hX
            rw [hts.2 (x.toInt - lo).toNat (u_dg tg L st0 s) (by omega) (by rw [List.getElem?_map, htg]; rfl)]
            exact u_S.go hR hL
          next => cases hX
  next => cases hX
theorem u_sLsw {d : Int} {ps : List (Int × Int)} (hk : (decide (0 ≤ (p : Int) + d) && ps.all (fun q => decide (-2147483648 ≤ q.1 ∧ q.1 ≤ 2147483647 ∧ 0 ≤ (p : Int) + q.2))) = true) (hR : u_Rep h s) (hL : u_LR ls L) (hX : q_lsw q_O32 d ps (p, ls, st) h ns = some X) : u_S cal ls s h ns X (u_aLsw none u_dg p L st s d ps) := by
  unfold q_lsw at hX
  dsimp only at hX
  split at hX
  next x st0 =>
    have e3 : q_O32.2.2.2.2.2.2.1 x = some x.toInt := rfl
    rw [e3] at hX
    dsimp only at hX
    have hk2 := hk
    rw [Bool.and_eq_true] at hk2
    rw [if_pos (u_offs ps (of_decide_eq_true hk2.1) hk2.2)] at hX
    cases hX
    unfold u_aLsw
    dsimp only
    rw [hk, cond_true]
    rw [u_ls_eq (f := fun tg => u_dg tg L st0 s) ps hk2.2]
    exact u_S.go hR hL
  next => cases hX
theorem u_pl {ins : Jvm.ClassFile.Instr} {st2 : List (q_V Int32)} (hR : u_Rep h s) (hL : u_LR ls L) (hy : ∃ l, y_n ins r [] st = some (l, st2)) (hX : X = .inl ((p + len, ls, st2), h, ns)) : u_S cal ls s h ns X (match y_n ins r [] st with
    | some q => u_dg (p + len) L q.2 s
    | none => none) := by
  subst hX
  obtain ⟨l, hy⟩ := hy
  rw [hy]
  exact u_S.go hR hL
theorem u_sLdI {i : Nat} (hR : u_Rep h s) (hL : u_LR ls L) (hX : q_ld 0 i len (p, ls, st) h ns = some X) : u_S cal ls s h ns X (u_dg (p + len) L (.inl (L.1 i) :: st) s) := by
  unfold q_ld at hX
  dsimp only at hX
  split at hX
  next v hv =>
    obtain ⟨hb, hX⟩ := w_bs hX
    cases hX
    rcases v with x | x | _ | n
    · have e : L.1 i = x := hL.2 _ _ hv
      rw [e]
      exact u_S.go hR hL
    · cases hb
    · cases hb
    · cases hb
  next => cases hX
theorem u_sLdL {i : Nat} (hR : u_Rep h s) (hL : u_LR ls L) (hX : q_ld 2 i len (p, ls, st) h ns = some X) : u_S cal ls s h ns X (u_dg (p + len) L (.inr (.inl (L.2.1 i)) :: st) s) := by
  unfold q_ld at hX
  dsimp only at hX
  split at hX
  next v hv =>
    obtain ⟨hb, hX⟩ := w_bs hX
    cases hX
    rcases v with x | x | _ | n
    · cases hb
    · have e : L.2.1 i = x := hL.2 _ _ hv
      rw [e]
      exact u_S.go hR hL
    · cases hb
    · cases hb
  next => cases hX
theorem u_sLdR {i : Nat} (hR : u_Rep h s) (hL : u_LR ls L) (hX : q_ld 1 i len (p, ls, st) h ns = some X) : u_S cal ls s h ns X (u_bo (q_at L.2.2 i) none (fun n => u_dg (p + len) L (.inr (.inr n) :: st) s)) := by
  unfold q_ld at hX
  dsimp only at hX
  split at hX
  next v hv =>
    obtain ⟨hb, hX⟩ := w_bs hX
    cases hX
    rcases v with x | x | n
    · cases hb
    · cases hb
    · have e : q_at L.2.2 i = some n := hL.2 _ _ hv
      rw [e]
      exact u_S.go hR hL
  next => cases hX
/-- a store -/
theorem u_LRst {i : Nat} {v : q_V Int32} {pr : Nat × q_V Int32 → Bool} {L2 : u_L} (hL : u_LR ls L) (hp : ∀ w, pr (i, w) = false) (h1 : match v with
  | .inl x => L2.1 i = x
  | .inr (.inl x) => L2.2.1 i = x
  | .inr (.inr n) => q_at L2.2.2 i = some n) (h2 : ∀ j, j ≠ i → L2.1 j = L.1 j ∧ L2.2.1 j = L.2.1 j ∧ q_at L2.2.2 j = q_at L.2.2 j) : u_LR ((i, v) :: ls.filter pr) L2 := by
  refine ⟨y_nd_store hL.1 hp, fun j w hj => ?_⟩
  rcases Nat.decEq i j with e | e
  · rw [w_at_cons_ne e] at hj
    have h3 := hL.2 j w (u_ndat hL.1 hj)
    have h4 := h2 j (fun q => e q.symm)
    rcases w with x | x | n
    · exact h4.1.trans h3
    · exact h4.2.1.trans h3
    · exact h4.2.2.trans h3
  · subst e
    rw [w_at_cons] at hj
    cases hj
    exact h1
theorem u_keep {t i : Nat} (w : q_V Int32) : (bif Nat.beq t 2 then q_keep2 i else q_keep1 i) (i, w) = false := by
  cases Nat.beq t 2
  · exact y_keep1 w
  · exact y_keep2 w
theorem u_sSt {t i : Nat} (hR : u_Rep h s) (hL : u_LR ls L) (hX : q_st t i len (p, ls, st) h ns = some X) : ∃ v st2, st = v :: st2 ∧ Nat.beq (q_kind v) t = true ∧ ∀ L2 : u_L, (match v with
  | .inl x => L2.1 i = x
  | .inr (.inl x) => L2.2.1 i = x
  | .inr (.inr n) => q_at L2.2.2 i = some n) → (∀ j, j ≠ i → L2.1 j = L.1 j ∧ L2.2.1 j = L.2.1 j ∧ q_at L2.2.2 j = q_at L.2.2 j) → u_S cal ls s h ns X (u_dg (p + len) L2 st2 s) := by
  unfold q_st at hX
  dsimp only at hX
  split at hX
  next v st2 =>
    obtain ⟨hb, hX⟩ := w_bs hX
    cases hX
    exact ⟨v, st2, rfl, hb, fun L2 h1 h2 => u_S.go hR (u_LRst hL (fun w => u_keep w) h1 h2)⟩
  next => cases hX
theorem u_sStI {i : Nat} (hR : u_Rep h s) (hL : u_LR ls L) (hX : q_st 0 i len (p, ls, st) h ns = some X) : ∃ x st2, st = .inl x :: st2 ∧ u_S cal ls s h ns X (u_dg (p + len) (u_l1 L.1 i x, L.2) st2 s) := by
  obtain ⟨v, st2, rfl, hb, H⟩ := u_sSt (cal := cal) hR hL hX
  rcases v with x | x | _ | n
  · exact ⟨x, st2, rfl, H _ (if_pos rfl) (fun j hj => ⟨if_neg hj, rfl, rfl⟩)⟩
  · cases hb
  · cases hb
  · cases hb
theorem u_sStL {i : Nat} (hR : u_Rep h s) (hL : u_LR ls L) (hX : q_st 2 i len (p, ls, st) h ns = some X) : ∃ x st2, st = .inr (.inl x) :: st2 ∧ u_S cal ls s h ns X (u_dg (p + len) (L.1, u_l1 L.2.1 i x, L.2.2) st2 s) := by
  obtain ⟨v, st2, rfl, hb, H⟩ := u_sSt (cal := cal) hR hL hX
  rcases v with x | x | _ | n
  · cases hb
  · exact ⟨x, st2, rfl, H _ (if_pos rfl) (fun j hj => ⟨rfl, if_neg hj, rfl⟩)⟩
  · cases hb
  · cases hb
theorem u_sStR {i : Nat} (hR : u_Rep h s) (hL : u_LR ls L) (hX : q_st 1 i len (p, ls, st) h ns = some X) : ∃ n st2, st = .inr (.inr n) :: st2 ∧ u_S cal ls s h ns X (u_dg (p + len) (L.1, L.2.1, (i, n) :: L.2.2) st2 s) := by
  obtain ⟨v, st2, rfl, hb, H⟩ := u_sSt (cal := cal) hR hL hX
  rcases v with x | x | n
  · cases hb
  · cases hb
  · exact ⟨n, st2, rfl, H _ (w_at_cons _ _ _) (fun j hj => ⟨rfl, rfl, w_at_cons_ne (fun q => hj q.symm) _ _⟩)⟩
theorem u_sIi {i : Nat} {n : Int} (hR : u_Rep h s) (hL : u_LR ls L) (hX : q_iinc q_O32 i n len (p, ls, st) h ns = some X) : u_S cal ls s h ns X (u_dg (p + len) (u_l1 L.1 i (L.1 i + u_lit n), L.2) st s) := by
  rw [u_lit_eq]
  unfold q_iinc at hX
  dsimp only at hX
  split at hX
  next x hx =>
    split at hX
    next y hy =>
      cases hX
      have e : y = x + Int32.ofInt n := (Option.some.inj hy).symm
      have e2 : L.1 i = x := hL.2 _ _ hx
      subst e
      rw [e2]
      exact u_S.go hR (u_LRst hL (fun w => y_keep1 w) (if_pos rfl) (fun j hj => ⟨if_neg hj, rfl, rfl⟩))
    next => cases hX
  next => cases hX
theorem u_pB2 {j : Nat} (hX : q_b2 q_O32 j len (p, ls, st) h ns = some X) : ∃ st2, y_2 j [] st = some ([], st2) ∧ X = .inl ((p + len, ls, st2), h, ns) := by
  unfold q_b2 at hX
  dsimp only at hX
  split at hX
  next y x r =>
    split at hX
    next z hz =>
      cases hX
      unfold y_2
      dsimp only
      rw [show q_o2 j x y = some z from hz]
      exact ⟨_, rfl, rfl⟩
    next => cases hX
  next => cases hX
theorem u_pB1 {j : Nat} (hX : q_b1 q_O32 j len (p, ls, st) h ns = some X) : ∃ st2, y_1 j [] st = some ([], st2) ∧ X = .inl ((p + len, ls, st2), h, ns) := by
  unfold q_b1 at hX
  dsimp only at hX
  split at hX
  next x r =>
    split at hX
    next z hz =>
      cases hX
      unfold y_1
      dsimp only
      rw [show q_o1 j x = some z from hz]
      exact ⟨_, rfl, rfl⟩
    next => cases hX
  next => cases hX
theorem u_pL2 {j : Nat} (hX : q_l2 j len (p, ls, st) h ns = some X) : ∃ st2, y_l2 j [] st = some ([], st2) ∧ X = .inl ((p + len, ls, st2), h, ns) := by
  unfold q_l2 at hX
  dsimp only at hX
  split at hX
  next y x r =>
    split at hX
    next z hz =>
      cases hX
      unfold y_l2
      dsimp only
      rw [hz]
      exact ⟨_, rfl, rfl⟩
    next => cases hX
  next => cases hX
theorem u_stepS {rk : Nat} {q : q_I} (hq : u_qok rk q = true) (hl : u_lok p q = true) (hR : u_Rep h s) (hL : u_LR ls L) (hX : q_act q_O32 none cal q.1 q.2.1 q.2.2 (p, ls, st) h ns = some X) : u_S cal ls s h ns X (u_D q p L st s) := by
  obtain ⟨ins, len, r⟩ := q
  dsimp only at hX
  unfold q_act at hX
  split at hX
  · exact u_sLdR hR hL hX
  · exact u_sLdI hR hL hX
  · exact u_sLdL hR hL hX
  · exact u_sLdR hR hL hX
  · exact u_sLdI hR hL hX
  · exact u_sLdL hR hL hX
  · obtain ⟨x, st2, rfl, hS⟩ := u_sStR (cal := cal) hR hL hX
    exact hS
  · obtain ⟨x, st2, rfl, hS⟩ := u_sStI (cal := cal) hR hL hX
    exact hS
  · obtain ⟨x, st2, rfl, hS⟩ := u_sStL (cal := cal) hR hL hX
    exact hS
  · obtain ⟨x, st2, rfl, hS⟩ := u_sStR (cal := cal) hR hL hX
    exact hS
  · obtain ⟨x, st2, rfl, hS⟩ := u_sStI (cal := cal) hR hL hX
    exact hS
  · obtain ⟨x, st2, rfl, hS⟩ := u_sStL (cal := cal) hR hL hX
    exact hS
  · exact u_sIi hR hL hX
  · cases hX
    rw [show q_O32.1 (Int32.ofInt _) = u_lit _ from (u_lit_eq _).symm]
    exact u_S.go hR hL
  · cases hX
    rw [(u_i8 hq).trans (u_lit_eq _).symm]
    exact u_S.go hR hL
  · cases hX
    rw [(u_i16 hq).trans (u_k_eq _).symm]
    exact u_S.go hR hL
  · cases hX
    exact u_S.go hR hL
  · rcases r with _ | ⟨v, _ | ⟨w, r⟩⟩
    · cases hX
    · cases hX
      rw [show q_O32.1 (Int32.ofNat v) = u_kv v from (u_kv_eq v).symm]
      exact u_S.go hR hL
    · cases hX
  · rcases r with _ | ⟨v, _ | ⟨w, r⟩⟩
    · cases hX
    · cases hX
      rw [show q_O32.1 (Int32.ofNat v) = u_kv v from (u_kv_eq v).symm]
      exact u_S.go hR hL
    · cases hX
  · rcases r with _ | ⟨v, _ | ⟨w, r⟩⟩
    · cases hX
    · cases hX
      rw [show Int64.ofNat v = u_k6 v from (u_k6_eq v).symm]
      exact u_S.go hR hL
    · cases hX
  · obtain ⟨b, h1, h2⟩ := u_pB2 hX
    exact u_pl (ins := .iadd) hR hL ⟨_, h1⟩ h2
  · obtain ⟨b, h1, h2⟩ := u_pB2 hX
    exact u_pl (ins := .isub) hR hL ⟨_, h1⟩ h2
  · obtain ⟨b, h1, h2⟩ := u_pB2 hX
    exact u_pl (ins := .imul) hR hL ⟨_, h1⟩ h2
  · obtain ⟨b, h1, h2⟩ := u_pB2 hX
    exact u_pl (ins := .iand) hR hL ⟨_, h1⟩ h2
  · obtain ⟨b, h1, h2⟩ := u_pB2 hX
    exact u_pl (ins := .ior) hR hL ⟨_, h1⟩ h2
  · obtain ⟨b, h1, h2⟩ := u_pB2 hX
    exact u_pl (ins := .ixor) hR hL ⟨_, h1⟩ h2
  · obtain ⟨b, h1, h2⟩ := u_pB2 hX
    exact u_pl (ins := .ishl) hR hL ⟨_, h1⟩ h2
  · obtain ⟨b, h1, h2⟩ := u_pB2 hX
    exact u_pl (ins := .ishr) hR hL ⟨_, h1⟩ h2
  · obtain ⟨b, h1, h2⟩ := u_pB2 hX
    exact u_pl (ins := .iushr) hR hL ⟨_, h1⟩ h2
  · exact u_sDiv (Or.inl rfl) hR hL hX
  · exact u_sDiv (Or.inr rfl) hR hL hX
  · obtain ⟨b, h1, h2⟩ := u_pB1 hX
    exact u_pl (ins := .ineg) hR hL ⟨_, h1⟩ h2
  · obtain ⟨b, h1, h2⟩ := u_pB1 hX
    exact u_pl (ins := .i2b) hR hL ⟨_, h1⟩ h2
  · obtain ⟨b, h1, h2⟩ := u_pB1 hX
    exact u_pl (ins := .i2c) hR hL ⟨_, h1⟩ h2
  · unfold q_i2l at hX
    dsimp only at hX
    rcases st with _ | ⟨(y | y), st⟩
    · cases hX
    · cases hX
      exact u_S.go hR hL
    · cases hX
  · obtain ⟨b, h1, h2⟩ := u_pL2 hX
    exact u_pl (ins := .ladd) hR hL ⟨_, h1⟩ h2
  · obtain ⟨b, h1, h2⟩ := u_pL2 hX
    exact u_pl (ins := .lmul) hR hL ⟨_, h1⟩ h2
  · obtain ⟨b, h1, h2⟩ := u_pL2 hX
    exact u_pl (ins := .lor) hR hL ⟨_, h1⟩ h2
  · unfold q_lshl at hX
    dsimp only at hX
    split at hX
    · cases hX
      exact u_S.go hR hL
    · cases hX
  · unfold q_lcmp at hX
    dsimp only at hX
    split at hX
    · cases hX
      exact u_S.go hR hL
    · cases hX
  · unfold q_dup at hX
    dsimp only at hX
    split at hX
    next v st0 =>
      obtain ⟨hb, hX⟩ := w_bs hX
      cases hX
      refine u_pl (ins := .dup) (st2 := v :: v :: st0) hR hL ⟨[], ?_⟩ rfl
      show (bif Nat.beq (q_cat v) 1 then some ([], v :: v :: st0) else none) = _
      rw [hb]
      rfl
    · cases hX
  · unfold q_dup2 at hX
    dsimp only at hX
    split at hX
    next v w st0 =>
      obtain ⟨hb, hX⟩ := w_bs hX
      cases hX
      refine u_pl (ins := .dup2) (st2 := v :: w :: v :: w :: st0) hR hL ⟨[], ?_⟩ rfl
      show (bif Nat.beq (q_cat v) 1 && Nat.beq (q_cat w) 1 then some ([], v :: w :: v :: w :: st0) else none) = _
      rw [hb]
      rfl
    · cases hX
  · unfold q_pop at hX
    dsimp only at hX
    split at hX
    next v st0 =>
      obtain ⟨hb, hX⟩ := w_bs hX
      cases hX
      refine u_pl (ins := .pop) (st2 := st0) hR hL ⟨[], ?_⟩ rfl
      show (bif Nat.beq (q_cat v) 1 then some ([], st0) else none) = _
      rw [hb]
      rfl
    · cases hX
  · exact u_sIf hR hL hX
  · exact u_sIc hR hL hX
  · rcases r with _ | ⟨v, _ | ⟨w, r⟩⟩
    · cases hX
    · cases hX
      exact u_S.go hR hL
    · cases hX
  · exact u_sTsw (fun d tgs e => by subst e; exact hq) hR hL hX
  · exact u_sLsw hl hR hL hX
  · exact u_sGet hR hL (fun ci r2 e => by subst e; exact hq) hX
  · exact u_sPut hR hL (fun ci k kd r2 e => by subst e; exact hq) hX
  · exact u_sLd (Or.inl ⟨rfl, rfl, rfl⟩) hR hL hX
  · exact u_sLd (Or.inr (Or.inl ⟨rfl, rfl, rfl⟩)) hR hL hX
  · exact u_sLd (Or.inr (Or.inr ⟨rfl, rfl, rfl⟩)) hR hL hX
  · exact u_sIst hR hL hX
  · exact u_sBst hR hL hX
  · exact u_sLst hR hL hX
  · exact u_sLen hR hL hX
  · cases hq
  · cases hq
  · exact u_sInv hR hL hX
  · rcases r with _ | ⟨v, _ | ⟨w, r⟩⟩
    · exact u_sCpy hR hL hX
    · exact u_sMth hR hL hX
    · exact u_sInv (sv := 0) hR hL hX
  · rcases r with _ | ⟨v, r⟩
    · have hX2 : q_obj len (p, ls, st) h ns = some X := hX
      unfold q_obj at hX2
      dsimp only at hX2
      split at hX2
      next o st0 =>
        obtain ⟨hb, hX2⟩ := w_bs hX2
        cases hX2
        show u_S cal ls s h ns _ (bif Nat.ble (q_cats st0) 8 then u_dg (p + len) L st0 s else none)
        rw [hb]
        exact u_S.go hR hL
      next => cases hX2
    · exact u_sInv (sv := 2) hR hL hX
  · unfold q_iret at hX
    dsimp only at hX
    split at hX
    next kd x =>
      obtain ⟨hb, hX⟩ := w_bs hX
      cases hX
      refine Or.inr (Or.inr ⟨some (.inl x), ns, ?_, rfl⟩)
      have h5 : (Nat.beq kd 0 || (Nat.beq kd 1 && q_ib x)) = true := hb
      rw [Bool.or_eq_true, Bool.and_eq_true] at h5
      rcases h5 with h5 | h5
      · have h6 := Nat.eq_of_beq_eq_true h5
        subst h6
        rfl
      · have h6 := Nat.eq_of_beq_eq_true h5.1
        subst h6
        show (if q_ib x = true then u_de (some (.inl x)) else none) = _
        rw [if_pos h5.2]
    next => cases hX
  · unfold q_lret at hX
    dsimp only at hX
    split at hX
    next x =>
      cases hX
      exact Or.inr (Or.inr ⟨some (.inr (.inl x)), ns, rfl, rfl⟩)
    next => cases hX
  · unfold q_ret at hX
    dsimp only at hX
    split at hX
    · cases hX
      exact Or.inr (Or.inr ⟨none, ns, rfl, rfl⟩)
    · cases hX
  · exact u_sMac hR hL (fun j c1 k1 c2 k2 e => by subst e; exact hq) (fun j c1 k1 c2 k2 i e => by subst e; exact hq) hX
  · cases hX
end SIM2
/-- what a call of the machine's kinds gives -/
def u_bi (o : u_R) (f : Int32 → u_H → u_R) : u_R := match o with
  | some (some (.inl x), s2) => f x s2
  | _ => none
def u_bl (o : u_R) (f : Int64 → u_H → u_R) : u_R := match o with
  | some (some (.inr (.inl x)), s2) => f x s2
  | _ => none
def u_bv (o : u_R) (f : u_H → u_R) : u_R := match o with
  | some (none, s2) => f s2
  | _ => none
abbrev u_C : Type := Nat → List (q_V Int32) → u_H → u_R
abbrev u_P : Type := Nat → u_L → List (q_V Int32) → u_H → u_R
def u_kc (uc : u_C) (k : u_P) (L : u_L) (s : u_H) (kk : Nat) (a : List (q_V Int32)) (p2 : Nat) (st2 : List (q_V Int32)) : u_R := bif Nat.beq (u_rk kk) 0 then (u_bv (uc kk a s) fun s2 => k p2 L st2 s2) else bif Nat.beq (u_rk kk) 1 then (u_bi (uc kk a s) fun x s2 => k p2 L (.inl x :: st2) s2) else (u_bl (uc kk a s) fun x s2 => k p2 L (.inr (.inl x) :: st2) s2)
noncomputable def u_f (uc : u_C) (k : u_P) (q : q_I) (p : Nat) (L : u_L) (st : List (q_V Int32)) (s : u_H) : u_R := u_act none k (u_kc uc k L s) (fun v => some (v, s)) q.2.1 q.2.2 p L st s q.1
def u_fD (uc : u_C) (k : u_P) (L : u_L) (s : u_H) (D : Option u_Da) : u_R := u_rv none k (u_kc uc k L s) (fun v => some (v, s)) D
theorem u_f_eq (uc : u_C) (k : u_P) (q : q_I) (p : Nat) (L : u_L) (st : List (q_V Int32)) (s : u_H) : u_f uc k q p L st s = u_fD uc k L s (u_D q p L st s) := u_actD _ _ _ _ _ _ _ _ _
/-- a call's values as locals -/
def u_as : Nat → List (q_V Int32) → u_L → u_L
  | _, [], L => L
  | i, .inl x :: vs, L => u_as (i + 1) vs (u_l1 L.1 i x, L.2)
  | i, .inr (.inl x) :: vs, L => u_as (i + 2) vs (L.1, u_l1 L.2.1 i x, L.2.2)
  | i, .inr (.inr n) :: vs, L => u_as (i + 1) vs (L.1, L.2.1, (i, n) :: L.2.2)
def u_z1 : Nat → Int32 := fun _ => 0
def u_z2 : Nat → Int64 := fun _ => 0
def u_ag (a : List (q_V Int32)) : u_L := u_as 0 a (u_z1, u_z2, [])
theorem u_as_lo : ∀ (a : List (q_V Int32)) (i j : Nat) (L : u_L), j < i → (u_as i a L).1 j = L.1 j ∧ (u_as i a L).2.1 j = L.2.1 j ∧ q_at (u_as i a L).2.2 j = q_at L.2.2 j
  | [], _, _, _, _ => ⟨rfl, rfl, rfl⟩
  | .inl x :: vs, i, j, L, h => by
    obtain ⟨h1, h2, h3⟩ := u_as_lo vs (i + 1) j (u_l1 L.1 i x, L.2) (by omega)
    exact ⟨h1.trans (if_neg (by omega)), h2, h3⟩
  | .inr (.inl x) :: vs, i, j, L, h => by
    obtain ⟨h1, h2, h3⟩ := u_as_lo vs (i + 2) j (L.1, u_l1 L.2.1 i x, L.2.2) (by omega)
    exact ⟨h1, h2.trans (if_neg (by omega)), h3⟩
  | .inr (.inr n) :: vs, i, j, L, h => by
    obtain ⟨h1, h2, h3⟩ := u_as_lo vs (i + 1) j (L.1, L.2.1, (i, n) :: L.2.2) (by omega)
    exact ⟨h1, h2, h3.trans (w_at_cons_ne (by omega) _ _)⟩
theorem u_args_lo : ∀ (a : List (q_V Int32)) (i j : Nat), j ∈ (q_args i a).map Prod.fst → i ≤ j
  | [], _, _, h => by cases h
  | v :: vs, i, j, h => by
    have h2 : j ∈ i :: (q_args (bif Nat.beq (q_cat v) 2 then i + 2 else i + 1) vs).map Prod.fst := h
    rcases List.mem_cons.mp h2 with e | h3
    · omega
    · have := u_args_lo vs _ j h3
      cases hb : Nat.beq (q_cat v) 2 with
      | true => rw [hb, cond_true] at this; omega
      | false => rw [hb, cond_false] at this; omega
theorem u_args_LR : ∀ (a : List (q_V Int32)) (i : Nat) (L : u_L), u_LR (q_args i a) (u_as i a L)
  | [], _, _ => ⟨List.nodup_nil, fun _ _ h => by cases h⟩
  | v :: vs, i, L => by
    have key : ∀ (i2 : Nat) (L2 : u_L), i < i2 → (bif Nat.beq (q_cat v) 2 then i + 2 else i + 1) = i2 → (match v with
        | .inl x => L2.1 i = x
        | .inr (.inl x) => L2.2.1 i = x
        | .inr (.inr n) => q_at L2.2.2 i = some n) → u_LR (q_args i (v :: vs)) (u_as i2 vs L2) := by
      intro i2 L2 hlt he hm
      have ih := u_args_LR vs i2 L2
      have e : q_args i (v :: vs) = (i, v) :: q_args i2 vs := by
        show (i, v) :: q_args (bif Nat.beq (q_cat v) 2 then i + 2 else i + 1) vs = _
        rw [he]
      rw [e]
      refine ⟨List.nodup_cons.mpr ⟨fun hh => ?_, ih.1⟩, fun j w hj => ?_⟩
      · have := u_args_lo vs i2 i hh
        omega
      · rcases Nat.decEq i j with e2 | e2
        · rw [w_at_cons_ne e2] at hj
          exact ih.2 j w hj
        · subst e2
          rw [w_at_cons] at hj
          cases hj
          have hl := u_as_lo vs i2 i L2 hlt
          rcases v with x | x | n
          · exact hl.1.trans hm
          · exact hl.2.1.trans hm
          · exact hl.2.2.trans hm
    rcases v with x | x | n
    · exact key (i + 1) (u_l1 L.1 i x, L.2) (by omega) rfl (if_pos rfl)
    · exact key (i + 2) (L.1, u_l1 L.2.1 i x, L.2.2) (by omega) rfl (if_pos rfl)
    · exact key (i + 1) (L.1, L.2.1, (i, n) :: L.2.2) (by omega) (by rcases n with _ | n <;> rfl) (w_at_cons _ _ _)
noncomputable def u_x : Nat → Nat → q_T → Nat → u_L → List (q_V Int32) → u_H → u_R
  | 0, _, _, _, _, _, _ => none
  | n + 1, d, t, p, L, st, s => match q_get t p with
    | some q => u_fD (fun k a s => match d with
        | 0 => none
        | d + 1 => (match g_ts[k]? with
          | some t => u_x n d t 0 (u_ag a) [] s
          | none => none)) (fun p2 L2 st2 s2 => u_x n d t p2 L2 st2 s2) L s (u_D q p L st s)
    | none => none
noncomputable def u_xc (n d : Nat) : u_C := fun k a s => match d with
  | 0 => none
  | d + 1 => (match g_ts[k]? with
    | some t => u_x n d t 0 (u_ag a) [] s
    | none => none)
theorem u_x_succ (n d : Nat) (t : q_T) (p : Nat) (L : u_L) (st : List (q_V Int32)) (s : u_H) : u_x (n + 1) d t p L st s = match q_get t p with
    | some q => u_fD (u_xc n d) (u_x n d t) L s (u_D q p L st s)
    | none => none := rfl
/-- what comes back is of the method's kind -/
def u_kdv (rk : Nat) (v : Option (q_V Int32)) : Prop := (rk = 0 ∧ v = none) ∨ (rk = 1 ∧ ∃ x, v = some (.inl x)) ∨ (rk = 2 ∧ ∃ x, v = some (.inr (.inl x)))
theorem u_Dret {rk : Nat} {q : q_I} {p : Nat} {ls : q_U Int32} {st : List (q_V Int32)} {s : u_H} {cal : u_Cal} {h : q_H Int32} {ns ns2 : Nat} {v : Option (q_V Int32)} (hq : u_qok rk q = true) (hX : q_act q_O32 none cal q.1 q.2.1 q.2.2 (p, ls, st) h ns = some (.inr (v, h, ns2))) : u_kdv rk v := by
  obtain ⟨ins, len, r⟩ := q
  by_cases r1 : ins = .ireturn
  · subst r1
    have hk : rk = 1 := Nat.eq_of_beq_eq_true hq
    have hX2 : q_iret q_O32 r (p, ls, st) h ns = some (.inr (v, h, ns2)) := hX
    unfold q_iret at hX2
    dsimp only at hX2
    split at hX2
    next kd x =>
      obtain ⟨-, hX2⟩ := w_bs hX2
      cases hX2
      exact Or.inr (Or.inl ⟨hk, x, rfl⟩)
    next => cases hX2
  by_cases r2 : ins = .lreturn
  · subst r2
    have hk : rk = 2 := Nat.eq_of_beq_eq_true hq
    have hX2 : q_lret (p, ls, st) h ns = some (.inr (v, h, ns2)) := hX
    unfold q_lret at hX2
    dsimp only at hX2
    split at hX2
    next x =>
      cases hX2
      exact Or.inr (Or.inr ⟨hk, x, rfl⟩)
    next => cases hX2
  by_cases r3 : ins = .return_
  · subst r3
    have hk : rk = 0 := Nat.eq_of_beq_eq_true hq
    have hX2 : q_ret (p, ls, st) h ns = some (.inr (v, h, ns2)) := hX
    unfold q_ret at hX2
    dsimp only at hX2
    split at hX2
    next =>
      cases hX2
      exact Or.inl ⟨hk, rfl⟩
    next => cases hX2
  exact absurd hX (q_noret r1 r2 r3)
/-- what is called is of those that make no objects -/
theorem u_Dcall {rk : Nat} {q : q_I} {p : Nat} {L : u_L} {st : List (q_V Int32)} {s : u_H} {k p2 : Nat} {a st2 : List (q_V Int32)} (hq : u_qok rk q = true) (hD : u_D q p L st s = some (.inr (.inl (k, a, p2, st2)))) : u_ok k = true := by
  obtain ⟨ins, len, r⟩ := q
  -- the same step with a call's handler that keeps the good ones alone
  have key : u_D (ins, len, r) p L st s = u_act none u_dg (fun k a p2 st2 => bif u_ok k then u_dc k a p2 st2 else none) u_de len r p L st s ins := by
    have inv : ∀ sv, (∀ k na ml x, r = k :: na :: ml :: x → u_ok k = true) → u_aInv none u_dc len r p st sv = u_aInv none (fun k a p2 st2 => bif u_ok k then u_dc k a p2 st2 else none) len r p st sv := by
      intro sv hk
      unfold u_aInv
      split
      next k na ml x =>
        split
        · simp only [hk k na ml x rfl, cond_true]
        · rfl
      next => rfl
    by_cases i1 : ∃ j, ins = .invokevirtual j
    · obtain ⟨j, rfl⟩ := i1
      exact inv 1 (fun k na ml x e => by subst e; exact hq)
    by_cases i2 : ∃ j, ins = .invokestatic j
    · obtain ⟨j, rfl⟩ := i2
      rcases r with _ | ⟨v, _ | ⟨w, r⟩⟩
      · rfl
      · rfl
      · exact inv 0 (fun k na ml x e => by cases e; exact hq)
    by_cases i3 : ∃ j, ins = .invokespecial j
    · obtain ⟨j, rfl⟩ := i3
      rcases r with _ | ⟨v, r⟩
      · rfl
      · exact inv 2 (fun k na ml x e => by cases e; exact hq)
    show u_act none u_dg u_dc u_de len r p L st s ins = _
    unfold u_act
    split <;> first
      | rfl
      | (exact absurd ⟨_, rfl⟩ i1)
      | (exact absurd ⟨_, rfl⟩ i2)
      | (exact absurd ⟨_, rfl⟩ i3)
  rw [key, u_actD none u_dg (fun k a p2 st2 => bif u_ok k then u_dc k a p2 st2 else none) u_de p L st s (ins, len, r)] at hD
  unfold u_rv at hD
  split at hD
  · cases hD
  · cases hD
  · next k2 a2 p3 st3 _ =>
    dsimp only at hD
    cases hk : u_ok k2 with
    | false =>
      rw [hk] at hD
      cases hD
    | true =>
      rw [hk] at hD
      cases hD
      exact hk
  · cases hD
theorem u_simx : ∀ (n d kk : Nat) (t : q_T), u_ok kk = true → g_ts[kk]? = some t → ∀ (p : Nat) (ls : q_U Int32) (L : u_L) (st : List (q_V Int32)) (s : u_H) (h : q_H Int32) (ns : Nat) (r : q_R Int32), u_Rep h s → u_LR ls L → q_exec q_O32 g_ts n d t (p, ls, st) h ns = some r → u_kdv (u_rk kk) r.1 ∧ ∃ s2, u_x n d t p L st s = some (r.1, s2) ∧ u_Rep r.2.1 s2 := by
  intro n
  induction n with
  | zero => intro d kk t hk ht p ls L st s h ns r hR hL he; cases he
  | succ n ih =>
    intro d kk t hk ht p ls L st s h ns r hR hL he
    have htab := u_tab hk ht
    rw [q_exec_succ] at he
    rw [u_x_succ]
    unfold q_step at he
    dsimp only at he
    cases hq : q_get t p with
    | none => rw [hq] at he; cases he
    | some q =>
      rw [hq] at he
      dsimp only at he ⊢
      obtain ⟨hqo, hlo⟩ := u_get_ok htab hq
      cases hact : q_act q_O32 none (q_call q_O32 g_ts n d) q.1 q.2.1 q.2.2 (p, ls, st) h ns with
      | none => rw [hact] at he; cases he
      | some X =>
        rw [hact] at he
        have hs := u_stepS hqo hlo hR hL hact
        rcases hs with ⟨p2, ls2, L2, st2, h2, ns2, s2, rfl, hD, hR2, hL2⟩ | ⟨k, a, p2, st2, v, h2, ns2, hD, hcal, rfl⟩ | ⟨v, ns2, hD, rfl⟩
        · rw [hD]
          exact ih d kk t hk ht p2 ls2 L2 st2 s2 h2 ns2 r hR2 hL2 he
        · rw [hD]
          have hko : u_ok k = true := u_Dcall hqo hD
          unfold q_call at hcal
          rcases d with _ | d
          · cases hcal
          · dsimp only at hcal
            cases hgt : g_ts[k]? with
            | none => rw [hgt] at hcal; cases hcal
            | some t2 =>
              rw [hgt] at hcal
              obtain ⟨kd, s2, hx, hR2⟩ := ih d k t2 hko hgt 0 (q_args 0 a) (u_ag a) [] s h ns _ hR (u_args_LR a 0 _) hcal
              have hxc : u_xc n (d + 1) k a s = some (v, s2) := by
                unfold u_xc
                dsimp only
                rw [hgt]
                exact hx
              obtain ⟨kd3, s3, hx3, hR3⟩ := ih (d + 1) kk t hk ht p2 ls L (v.toList ++ st2) s2 h2 ns2 r hR2 hL he
              refine ⟨kd3, s3, ?_, hR3⟩
              show u_kc (u_xc n (d + 1)) (u_x n (d + 1) t) L s k a p2 st2 = _
              unfold u_kc
              rw [hxc]
              rcases kd with ⟨e1, e2⟩ | ⟨e1, x, e2⟩ | ⟨e1, x, e2⟩
              · have e2 : v = none := e2
                subst e2
                rw [e1]
                exact hx3
              · have e2 : v = some (.inl x) := e2
                subst e2
                rw [e1]
                exact hx3
              · have e2 : v = some (.inr (.inl x)) := e2
                subst e2
                rw [e1]
                exact hx3
        · rw [hD]
          cases he
          exact ⟨u_Dret (s := s) hqo hact, s, rfl, hR⟩
/-! without a count of steps -/
theorem u_fD_mono {uc uc2 : u_C} {k k2 : u_P} (h1 : ∀ kk a s r, uc kk a s = some r → uc2 kk a s = some r) (h2 : ∀ p L st s r, k p L st s = some r → k2 p L st s = some r) {L : u_L} {s : u_H} {D : Option u_Da} {r : Option (q_V Int32) × u_H} (h : u_fD uc k L s D = some r) : u_fD uc2 k2 L s D = some r := by
  rcases D with _ | ⟨p2, L2, st2, s2⟩ | ⟨kk, a, p2, st2⟩ | v
  · cases h
  · exact h2 _ _ _ _ _ h
  · have h3 : u_kc uc k L s kk a p2 st2 = some r := h
    show u_kc uc2 k2 L s kk a p2 st2 = some r
    unfold u_kc at h3 ⊢
    cases hb : Nat.beq (u_rk kk) 0 with
    | true =>
      rw [hb, cond_true] at h3
      rw [cond_true]
      unfold u_bv at h3 ⊢
      split at h3
      next s2 e =>
        rw [h1 _ _ _ _ e]
        exact h2 _ _ _ _ _ h3
      next => cases h3
    | false =>
      rw [hb, cond_false] at h3
      rw [cond_false]
      cases hb1 : Nat.beq (u_rk kk) 1 with
      | true =>
        rw [hb1, cond_true] at h3
        rw [cond_true]
        unfold u_bi at h3 ⊢
        split at h3
        next x s2 e =>
          rw [h1 _ _ _ _ e]
          exact h2 _ _ _ _ _ h3
        next => cases h3
      | false =>
        rw [hb1, cond_false] at h3
        rw [cond_false]
        unfold u_bl at h3 ⊢
        split at h3
        next x s2 e =>
          rw [h1 _ _ _ _ e]
          exact h2 _ _ _ _ _ h3
        next => cases h3
  · exact h
theorem u_x_mono : ∀ (n m d e : Nat) (t : q_T) (p : Nat) (L : u_L) (st : List (q_V Int32)) (s : u_H) (r : Option (q_V Int32) × u_H), n ≤ m → d ≤ e → u_x n d t p L st s = some r → u_x m e t p L st s = some r := by
  intro n
  induction n with
  | zero => intro m d e t p L st s r _ _ h; cases h
  | succ n ih =>
    intro m d e t p L st s r hm hd h
    rcases m with _ | m
    · omega
    · rw [u_x_succ] at h ⊢
      cases hq : q_get t p with
      | none => rw [hq] at h; cases h
      | some q =>
        rw [hq] at h
        dsimp only at h ⊢
        refine u_fD_mono (fun kk a s r hh => ?_) (fun p L st s r hh => ih m d e t p L st s r (by omega) hd hh) h
        unfold u_xc at hh ⊢
        rcases d with _ | d
        · cases hh
        · rcases e with _ | e
          · omega
          · dsimp only at hh ⊢
            split at hh
            next t2 ht =>
              exact ih m d e t2 0 (u_ag a) [] s r (by omega) (by omega) hh
            next => cases hh
theorem u_ex1 (t : q_T) (p : Nat) (L : u_L) (st : List (q_V Int32)) (s : u_H) : ∃ o : u_R, ∀ r, o = some r ↔ ∃ n, u_x n n t p L st s = some r := by
  by_cases hh : ∃ r n, u_x n n t p L st s = some r
  · obtain ⟨r0, m, hm⟩ := hh
    refine ⟨some r0, fun r => ⟨fun e => ?_, fun e => ?_⟩⟩
    · cases e
      exact ⟨m, hm⟩
    · obtain ⟨n, hn⟩ := e
      have a1 := u_x_mono n (max n m) n (max n m) t p L st s r (Nat.le_max_left _ _) (Nat.le_max_left _ _) hn
      have a2 := u_x_mono m (max n m) m (max n m) t p L st s _ (Nat.le_max_right _ _) (Nat.le_max_right _ _) hm
      rw [a1] at a2
      exact a2.symm
  · refine ⟨none, fun r => ⟨fun e => ?_, fun e => ?_⟩⟩
    · cases e
    · obtain ⟨n, hn⟩ := e
      exact absurd ⟨r, n, hn⟩ hh
theorem u_ex : ∃ U : q_T → u_P, ∀ t p L st s r, U t p L st s = some r ↔ ∃ n, u_x n n t p L st s = some r := ⟨fun t p L st s => Classical.choose (u_ex1 t p L st s), fun t p L st s => Classical.choose_spec (u_ex1 t p L st s)⟩
noncomputable def u : q_T → u_P := Classical.choose u_ex
theorem u_iff {t : q_T} {p : Nat} {L : u_L} {st : List (q_V Int32)} {s : u_H} {r : Option (q_V Int32) × u_H} : u t p L st s = some r ↔ ∃ n, u_x n n t p L st s = some r := Classical.choose_spec u_ex t p L st s r
/-- a method's call -/
noncomputable def u_c : u_C := fun k a s => match g_ts[k]? with
  | some t => u t 0 (u_ag a) [] s
  | none => none
theorem u_le {n d : Nat} {t : q_T} {p : Nat} {L : u_L} {st : List (q_V Int32)} {s : u_H} {r : Option (q_V Int32) × u_H} (h : u_x n d t p L st s = some r) : u t p L st s = some r := u_iff.mpr ⟨max n d, u_x_mono n _ d _ t p L st s r (Nat.le_max_left _ _) (Nat.le_max_right _ _) h⟩
theorem u_lec {n d : Nat} {k : Nat} {a : List (q_V Int32)} {s : u_H} {r : Option (q_V Int32) × u_H} (h : u_xc n d k a s = some r) : u_c k a s = some r := by
  unfold u_xc at h
  unfold u_c
  rcases d with _ | d
  · cases h
  · dsimp only at h
    split at h
    next t ht => exact u_le h
    next => cases h
theorem u_cge {k : Nat} {a : List (q_V Int32)} {s : u_H} {r : Option (q_V Int32) × u_H} (h : u_c k a s = some r) : ∃ n, ∀ m d, n ≤ m → n ≤ d → u_xc m (d + 1) k a s = some r := by
  unfold u_c at h
  split at h
  next t ht =>
    obtain ⟨n, hn⟩ := u_iff.mp h
    refine ⟨n, fun m d hm hd => ?_⟩
    unfold u_xc
    dsimp only
    rw [ht]
    exact u_x_mono n m n d t 0 (u_ag a) [] s r hm hd hn
  next => cases h
/-- the function's own equation -/
theorem u_eq (t : q_T) (p : Nat) (L : u_L) (st : List (q_V Int32)) (s : u_H) : u t p L st s = match q_get t p with
    | some q => u_fD u_c (u t) L s (u_D q p L st s)
    | none => none := by
  have up : ∀ r, u t p L st s = some r → (match q_get t p with
    | some q => u_fD u_c (u t) L s (u_D q p L st s)
    | none => none) = some r := by
    intro r h
    obtain ⟨n, hn⟩ := u_iff.mp h
    rcases n with _ | n
    · cases hn
    · rw [u_x_succ] at hn
      cases hq : q_get t p with
      | none => rw [hq] at hn; cases hn
      | some q =>
        rw [hq] at hn
        dsimp only at hn ⊢
        exact u_fD_mono (fun kk a s r hh => u_lec hh) (fun p L st s r hh => u_le hh) hn
  have down : ∀ r, (match q_get t p with
    | some q => u_fD u_c (u t) L s (u_D q p L st s)
    | none => none) = some r → u t p L st s = some r := by
    intro r h
    cases hq : q_get t p with
    | none => rw [hq] at h; cases h
    | some q =>
      rw [hq] at h
      dsimp only at h
      have fin : ∀ N, u_fD (u_xc N (N + 1)) (u_x N (N + 1) t) L s (u_D q p L st s) = some r → u t p L st s = some r := by
        intro N hN
        refine u_le (n := N + 1) (d := N + 1) ?_
        rw [u_x_succ, hq]
        exact hN
      have kk : ∀ p2 L2 st2 s2, u t p2 L2 st2 s2 = some r → ∃ n, ∀ N, n ≤ N → u_x N (N + 1) t p2 L2 st2 s2 = some r := by
        intro p2 L2 st2 s2 hh
        obtain ⟨n, hn⟩ := u_iff.mp hh
        exact ⟨n, fun N hN => u_x_mono n N n (N + 1) t p2 L2 st2 s2 r hN (by omega) hn⟩
      cases hD : u_D q p L st s with
      | none => rw [hD] at h; cases h
      | some D =>
        rw [hD] at h fin
        rcases D with ⟨p2, L2, st2, s2⟩ | ⟨k, a, p2, st2⟩ | v
        · obtain ⟨n, hn⟩ := kk _ _ _ _ h
          exact fin n (hn n (Nat.le_refl n))
        · have h3 : u_kc u_c (u t) L s k a p2 st2 = some r := h
          have fin2 : ∀ N, u_kc (u_xc N (N + 1)) (u_x N (N + 1) t) L s k a p2 st2 = some r → u t p L st s = some r := fin
          unfold u_kc at h3 fin2
          cases hb : Nat.beq (u_rk k) 0 with
          | true =>
            rw [hb, cond_true] at h3
            simp only [hb, cond_true] at fin2
            unfold u_bv at h3 fin2
            split at h3
            next s2 e =>
              obtain ⟨n, hn⟩ := u_cge e
              obtain ⟨m, hm⟩ := kk _ _ _ _ h3
              refine fin2 (max n m) ?_
              rw [hn _ _ (Nat.le_max_left n m) (Nat.le_max_left n m)]
              exact hm _ (Nat.le_max_right n m)
            next => cases h3
          | false =>
            rw [hb, cond_false] at h3
            simp only [hb, cond_false] at fin2
            cases hb1 : Nat.beq (u_rk k) 1 with
            | true =>
              rw [hb1, cond_true] at h3
              simp only [hb1, cond_true] at fin2
              unfold u_bi at h3 fin2
              split at h3
              next x s2 e =>
                obtain ⟨n, hn⟩ := u_cge e
                obtain ⟨m, hm⟩ := kk _ _ _ _ h3
                refine fin2 (max n m) ?_
                rw [hn _ _ (Nat.le_max_left n m) (Nat.le_max_left n m)]
                exact hm _ (Nat.le_max_right n m)
              next => cases h3
            | false =>
              rw [hb1, cond_false] at h3
              simp only [hb1, cond_false] at fin2
              unfold u_bl at h3 fin2
              split at h3
              next x s2 e =>
                obtain ⟨n, hn⟩ := u_cge e
                obtain ⟨m, hm⟩ := kk _ _ _ _ h3
                refine fin2 (max n m) ?_
                rw [hn _ _ (Nat.le_max_left n m) (Nat.le_max_left n m)]
                exact hm _ (Nat.le_max_right n m)
              next => cases h3
        · exact fin 0 h
  cases hx : u t p L st s with
  | some r => exact (up r hx).symm
  | none =>
    symm
    cases hy : (match q_get t p with
    | some q => u_fD u_c (u t) L s (u_D q p L st s)
    | none => none) with
    | none => rfl
    | some r =>
      rw [down r hy] at hx
      cases hx
/-- a run of the machine is the function's -/
theorem u_simc {k n d : Nat} {a : List (q_V Int32)} {s : u_H} {h : q_H Int32} {ns : Nat} {r : q_R Int32} (hk : u_ok k = true) (hR : u_Rep h s) (he : q_call q_O32 g_ts n d k a h ns = some r) : ∃ s2, u_c k a s = some (r.1, s2) ∧ u_Rep r.2.1 s2 := by
  unfold q_call at he
  rcases d with _ | d
  · cases he
  · dsimp only at he
    unfold u_c
    split at he
    next t ht =>
      obtain ⟨-, s2, hx, hR2⟩ := u_simx n d k t hk ht 0 (q_args 0 a) (u_ag a) [] s h ns r hR (u_args_LR a 0 _) he
      refine ⟨s2, ?_, hR2⟩
      rw [ht]
      exact u_le hx
    next => cases he
/-! to be unfolded: at a place of stops the tree ends; the four references are taken to be A's -/
def u_isT (q : q_I) (st : List (q_V Int32)) : Option (Nat × List (q_V Int32)) := match q.1 with
  | .getfield _ => (match q.2.2, st with
    | ci :: k :: _, .inr (.inr n) :: st2 => (match y_ref g_sh n with
      | some (o, tag, sz) => bif Nat.beq tag ci && (Nat.blt tag 100 && (Nat.blt k sz && (Nat.blt (u_kn o k) 4 && Nat.beq (y_kd g_sh o k) 3))) then some (u_kn o k, st2) else none
      | none => none)
    | _, _ => none)
  | _ => none
noncomputable def u_g1 (A : u_K) (t : q_T) (k : u_P) (p : Nat) (L : u_L) (st : List (q_V Int32)) (s : u_H) : u_R := match q_get t p with
  | some q => (match u_isT q st with
    | some j => if u_kg j.1 s.2.2 = u_kg j.1 A then k (p + q.2.1) L (.inr (.inr (u_kg j.1 A)) :: j.2) s else u t (p + q.2.1) L (.inr (.inr (u_kg j.1 s.2.2)) :: j.2) s
    | none => u_act none k (u_kc u_c k L s) (fun v => some (v, s)) q.2.1 q.2.2 p L st s q.1)
  | none => none
noncomputable def u_go (A : u_K) (stops : List Nat) (t : q_T) : Nat → u_P
  | 0, p, L, st, s => u t p L st s
  | n + 1, p, L, st, s => bif stops.any (Nat.beq p) then u t p L st s else u_g1 A t (u_go A stops t n) p L st s
theorem u_g1_eq (A : u_K) (t : q_T) (p : Nat) (L : u_L) (st : List (q_V Int32)) (s : u_H) : u_g1 A t (u t) p L st s = u t p L st s := by
  rw [u_eq t p L st s]
  unfold u_g1
  cases hq : q_get t p with
  | none => rfl
  | some q =>
    dsimp only
    have e := u_f_eq u_c (u t) q p L st s
    have e1 : u_f u_c (u t) q p L st s = u_act none (u t) (u_kc u_c (u t) L s) (fun v => some (v, s)) q.2.1 q.2.2 p L st s q.1 := rfl
    rw [← e, e1]
    cases hT : u_isT q st with
    | none => rfl
    | some j =>
      dsimp only
      have hst : u_act none (u t) (u_kc u_c (u t) L s) (fun v => some (v, s)) q.2.1 q.2.2 p L st s q.1 = u t (p + q.2.1) L (.inr (.inr (u_kg j.1 s.2.2)) :: j.2) s := by
        obtain ⟨ins, len, r⟩ := q
        unfold u_isT at hT
        dsimp only at hT
        split at hT
        next ix =>
          split at hT
          next ci k rr n st2 =>
            split at hT
            next o tag sz hr =>
              obtain ⟨hb, hT⟩ := w_bs hT
              cases hT
              simp only [Bool.and_eq_true] at hb
              obtain ⟨b1, b2, b3, b4, b5⟩ := hb
              show u_aGet none (u t) len (ci :: k :: rr) p L (.inr (.inr n) :: st2) s = _
              unfold u_aGet
              dsimp only
              rw [hr]
              dsimp only
              rw [b1, b2, b3]
              simp only [Bool.and_self, cond_true]
              rw [Nat.eq_of_beq_eq_true b5]
              rfl
            next => cases hT
          next => cases hT
        next => cases hT
      rw [hst]
      by_cases hb : u_kg j.1 s.2.2 = u_kg j.1 A
      · rw [if_pos hb, hb]
      · rw [if_neg hb]
theorem u_go_eq (A : u_K) (stops : List Nat) (t : q_T) : ∀ n, u_go A stops t n = u t := by
  intro n
  induction n with
  | zero => rfl
  | succ n ih =>
    funext p L st s
    show (bif stops.any (Nat.beq p) then u t p L st s else u_g1 A t (u_go A stops t n) p L st s) = _
    rw [ih, u_g1_eq]
    cases stops.any (Nat.beq p) <;> rfl
/-- the tree at a place: the rest by rfl -/
theorem u_E (A : u_K) (stops : List Nat) (n : Nat) (t : q_T) (p : Nat) (L : u_L) (st : List (q_V Int32)) (s : u_H) : u t p L st s = u_g1 A t (u_go A stops t n) p L st s := by
  rw [u_go_eq, u_g1_eq]
theorem u_cE {k : Nat} {t : q_T} (ht : g_ts[k]? = some t) (a : List (q_V Int32)) (s : u_H) : u_c k a s = u t 0 (u_ag a) [] s := by
  unfold u_c
  rw [ht]
