/-! the model's row of open signs, looked at -/
def mR (O : List Nat) (s : u_H) : Prop := (∀ x ∈ O, fv x) ∧ ∀ j x, O.reverse[j]? = some x → s.1 72 j = zi (fe x)
theorem mR_top {x : Nat} {O : List Nat} {s : u_H} (h : mR (x :: O) s) : fv x ∧ s.1 72 O.length = zi (fe x) ∧ mR O s := by
  refine ⟨h.1 x List.mem_cons_self, h.2 O.length x ?_, fun y hy => h.1 y (List.mem_cons_of_mem _ hy), fun j y hj => h.2 j y ?_⟩
  · rw [List.reverse_cons, List.getElem?_append_right (by rw [List.length_reverse]; exact Nat.le_refl _), List.length_reverse, Nat.sub_self]
    rfl
  · rw [List.reverse_cons]
    have hlt : j < O.reverse.length := by
      rcases Nat.lt_or_ge j O.reverse.length with q | q
      · exact q
      · rw [List.getElem?_eq_none q] at hj
        cases hj
    rw [List.getElem?_append_left hlt]
    exact hj
theorem fe20 {x : Nat} (h : fv x) : zi (fe x) = Int32.ofInt 20 ↔ x = 40 := by
  obtain ⟨f1, f2, f3⟩ := fe_all h
  rw [show Int32.ofInt 20 = zi 20 from rfl, zk_iff (by omega) (by omega)]
  exact f2
theorem ti_lt {a : Nat} (ha : a ≤ 6) : zi a < Int32.ofInt 4 ↔ a < 4 := zi_lt (a := a) (b := 4) (by omega) (by omega)
theorem ti_gt {a : Nat} (ha : a ≤ 6) : Int32.ofInt 4 < zi a ↔ 4 < a := zi_lt (a := 4) (b := a) (by omega) (by omega)
theorem ti_eq {a : Nat} (ha : a ≤ 6) : zi a = Int32.ofInt 4 ↔ a = 4 := zk_iff (a := a) (b := 4) (by omega) (by omega)
/-- mayNot -/
theorem m_mn {O : List Nat} {s : u_H} {r : Option (q_V Int32) × u_H} (h : mO O s) (hl : O.length < 4000) (hr : u_c 257 [.inr (.inr 67)] s = some r) : r = (some (.inl (zb (f_mn O))), s) := by
  cases O with
  | nil =>
    rw [b_257, h.1] at hr
    rw [if_pos (show zi ([] : List Nat).length = 0 from rfl)] at hr
    cases hr
    rfl
  | cons x O =>
    obtain ⟨t1, t2, t3⟩ := mO_top h
    have hlen : (x :: O).length = O.length + 1 := rfl
    have hsub : zi (O.length + 1) - Int32.ofInt 1 = zi O.length := zi_sub (a := O.length + 1) (b := 1) (by omega)
    rw [b_257, t1, if_neg (by rw [show (0 : Int32) = zi 0 from rfl, zi_inj (by omega) (by omega)]; omega), hsub, zi_clamp (by omega), t3] at hr
    by_cases hi : u_in (zi O.length) 160 = true
    · rw [if_pos hi, if_pos hi] at hr
      by_cases h40 : x = 40
      · rw [if_pos ((fe20 t2).mpr h40)] at hr
        cases hr
        rw [f_mn_cons, decide_eq_true h40]
        rfl
      · rw [if_neg (fun q => h40 ((fe20 t2).mp q)), m_tight t2 h40, u_biS] at hr
        rw [f_mn_cons, decide_eq_false h40]
        have h6 := f_ti6 x
        by_cases h4 : f_ti x < 4
        · rw [if_pos ((ti_lt h6).mpr h4)] at hr
          cases hr
          rw [decide_eq_true h4]
          rfl
        · rw [if_neg (fun q => h4 ((ti_lt h6).mp q))] at hr
          cases hr
          rw [decide_eq_false h4]
          rfl
    · rw [if_neg hi] at hr
      cases hr
/-- hasRelation -/
theorem m_hr7 : ∀ (O : List Nat) (s : u_H) (li : Nat → Int32) (ll : Nat → Int64) (r : Option (q_V Int32) × u_H), mR O s → O.length < 4000 → li 1 = zi O.length - Int32.ofInt 1 → u g_t218 7 (li, ll, [(0, 67)]) [] s = some r → r = (some (.inl (zb (f_hr O))), s) := by
  intro O
  induction O with
  | nil =>
    intro s li ll r h hl h1 hr
    have hn : li 1 < 0 := by
      rw [h1]
      decide
    rw [b_218_7, if_pos hn, b_218_41, if_pos hn] at hr
    cases hr
    rfl
  | cons x O ih =>
    intro s li ll r h hl h1 hr
    obtain ⟨t2, t3, t4⟩ := mR_top h
    have hlen : (x :: O).length = O.length + 1 := rfl
    have hsub : zi (O.length + 1) - Int32.ofInt 1 = zi O.length := zi_sub (a := O.length + 1) (b := 1) (by omega)
    have h2 : li 1 = zi O.length := h1.trans hsub
    have h6 := f_ti6 x
    rw [b_218_7, h2, if_neg (zi_nonneg (by omega)), zi_clamp (by omega), t3] at hr
    by_cases hi : u_in (zi O.length) 160 = true
    · rw [if_pos hi, if_pos hi] at hr
      by_cases h40 : x = 40
      · rw [if_pos ((fe20 t2).mpr h40), b_218_41, h2, if_neg (zi_nonneg (by omega)), zi_clamp (by omega), t3, if_pos hi, if_pos ((fe20 t2).mpr h40)] at hr
        cases hr
        rw [f_hr_cons, if_pos h40]
        rfl
      · rw [if_neg (fun q => h40 ((fe20 t2).mp q)), m_tight t2 h40, u_biS] at hr
        rw [f_hr_cons, if_neg h40]
        by_cases h4 : 4 < f_ti x
        · rw [if_pos ((ti_gt h6).mpr h4)] at hr
          rw [if_pos h4]
          refine ih s (u_l1 li 1 (zi O.length - Int32.ofInt 1)) ll r t4 (by omega) (u_l1E _ _ _) ?_
          have e : zi O.length + u_k (-1) = zi O.length - Int32.ofInt 1 := by
            rw [u_k_eq, Int32.sub_eq_add_neg]
            exact congrArg (zi O.length + ·) (by decide)
          rw [← e]
          exact hr
        · rw [if_neg (fun q => h4 ((ti_gt h6).mp q)), b_218_41, h2, if_neg (zi_nonneg (by omega)), zi_clamp (by omega), t3, if_pos hi, if_neg (fun q => h40 ((fe20 t2).mp q)), if_pos hi, m_tight t2 h40, u_biS] at hr
          rw [if_neg h4]
          by_cases h5 : f_ti x = 4
          · rw [if_pos ((ti_eq h6).mpr h5)] at hr
            cases hr
            rw [decide_eq_true h5]
            rfl
          · rw [if_neg (fun q => h5 ((ti_eq h6).mp q))] at hr
            cases hr
            rw [decide_eq_false h5]
            rfl
    · rw [if_neg hi] at hr
      cases hr
theorem m_hr {O : List Nat} {s : u_H} {r : Option (q_V Int32) × u_H} (h : mO O s) (hl : O.length < 4000) (hr : u_c 218 [.inr (.inr 67)] s = some r) : r = (some (.inl (zb (f_hr O))), s) := by
  rw [b_218, h.1] at hr
  exact m_hr7 O s _ _ r h.2 hl (u_l1E _ _ _) hr
/-- hasBracket -/
theorem hb_any : ∀ O : List Nat, f_hb O = O.any (fun x => decide (x = 40)) := by
  intro O
  induction O with
  | nil => rfl
  | cons x O ih =>
    rw [List.any_cons, ← ih]
    rfl
theorem m_hb4 {O : List Nat} {s : u_H} (h : mO O s) (hl : O.length < 4000) : ∀ (m i : Nat) (b : Bool) (li : Nat → Int32) (ll : Nat → Int64) (r : Option (q_V Int32) × u_H), i + m = O.length → li 2 = zi i → li 1 = zb b → u g_t217 4 (li, ll, [(0, 67)]) [] s = some r → r = (some (.inl (zb (b || (O.reverse.drop i).any (fun x => decide (x = 40))))), s) := by
  intro m
  induction m with
  | zero =>
    intro i b li ll r hm h2 h1 hr
    rw [b_217_4, h2, h.1, if_neg (by rw [zi_lt (by omega) (by omega)]; omega), h1, if_pos (by cases b <;> decide)] at hr
    cases hr
    rw [List.drop_eq_nil_of_le (by rw [List.length_reverse]; omega), List.any_nil, Bool.or_false]
  | succ m ih =>
    intro i b li ll r hm h2 h1 hr
    have hlt : i < O.reverse.length := by
      rw [List.length_reverse]
      omega
    rw [b_217_4, h2, h.1, if_pos (by rw [zi_lt (by omega) (by omega)]; omega), zi_clamp (by omega), zi_one] at hr
    have hx := h.2.2 i O.reverse[i] (List.getElem?_eq_getElem hlt)
    have hv := h.2.1 O.reverse[i] (List.mem_reverse.mp (List.getElem_mem hlt))
    rw [List.drop_eq_getElem_cons hlt, List.any_cons, ← Bool.or_assoc]
    by_cases hb : b = true
    · rw [h1, hb, if_neg (show ¬ zb true = 0 from zb_yes)] at hr
      rw [hb, Bool.true_or]
      exact ih (i + 1) true _ ll r (by omega) (u_l1E _ _ _) ((u_l1N (by omega)).trans (u_l1E _ _ _)) hr
    · have hb : b = false := by
        cases b
        · rfl
        · exact absurd rfl hb
      rw [h1, hb, if_pos (show zb false = 0 from zb_no)] at hr
      rw [hb, Bool.false_or]
      by_cases hi : u_in (zi i) 160 = true
      · rw [if_pos hi, hx] at hr
        by_cases h40 : O.reverse[i] = 40
        · rw [if_pos ((fe20 hv).mpr h40)] at hr
          rw [decide_eq_true h40]
          exact ih (i + 1) true _ ll r (by omega) (u_l1E _ _ _) ((u_l1N (by omega)).trans (u_l1E _ _ _)) hr
        · rw [if_neg (fun q => h40 ((fe20 hv).mp q))] at hr
          rw [decide_eq_false h40]
          exact ih (i + 1) false _ ll r (by omega) (u_l1E _ _ _) ((u_l1N (by omega)).trans (u_l1E _ _ _)) hr
      · rw [if_neg hi] at hr
        cases hr
theorem m_hb {O : List Nat} {s : u_H} {r : Option (q_V Int32) × u_H} (h : mO O s) (hl : O.length < 4000) (hr : u_c 217 [.inr (.inr 67)] s = some r) : r = (some (.inl (zb (f_hb O))), s) := by
  rw [b_217] at hr
  have := m_hb4 h hl O.length 0 false _ _ r (by omega) (u_l1E _ _ _) ((u_l1N (by omega)).trans (u_l1E _ _ _)) hr
  rw [this, List.drop_zero, List.any_reverse, Bool.false_or, hb_any]
