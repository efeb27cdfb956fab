/-! the model's row of open signs -/
def mN (ch : Nat → Int32) (n : Nat) (τ : f_T) (s : u_H) : Prop := tx_V ch n τ ∧ (s.1 65 7 = zi τ.1 ∧ s.1 65 6 = tx_so τ.2.1 ∧ s.1 65 4 = zi τ.2.2.2 ∧ (τ.2.1 = 274 → s.1 65 8 = zi τ.2.2.1) ∧ (256 ≤ τ.2.1 → τ.2.1 ≤ 273 → s.2.1 65 9 = zl (tx_nW (tx_let ch τ.1 (τ.2.2.2 - τ.1)))) ∧ s.1 65 2 = 0 ∧ s.1 65 3 = u_k (-1))
/-- a class's state beside it, for what was shown of both -/
theorem mN_j {ch : Nat → Int32} {n : Nat} {τ : f_T} {s : u_H} (h : mN ch n τ s) : ∃ sC, jN ch n τ sC s := by
  refine ⟨(fun _ k => if k = 3 then zi τ.1 else if k = 4 then zi τ.2.1 else if k = 2 then zi τ.2.2.2 else if k = 8 then (if τ.2.1 = 276 then Int32.ofInt 1 else 0) else if k = 9 then (if τ.2.1 = 276 then zi τ.1 else u_k (-1)) else zi τ.2.2.1, fun _ _ => zl (tx_nN (tx_let ch τ.1 (τ.2.2.2 - τ.1))), (0, 0, 0, 0)), h.1, ⟨rfl, rfl, fun a => ⟨rfl, ?_, ?_⟩, fun _ => rfl, fun _ _ => rfl, fun a => ⟨?_, ?_⟩⟩, h.2⟩
  · show (if τ.2.1 = 276 then Int32.ofInt 1 else 0) = 0
    rw [if_neg a]
  · show (if τ.2.1 = 276 then zi τ.1 else u_k (-1)) = _
    rw [if_neg a]
  · show (if τ.2.1 = 276 then Int32.ofInt 1 else 0) = _
    rw [if_pos a]
  · show (if τ.2.1 = 276 then zi τ.1 else u_k (-1)) = _
    rw [if_pos a]
def fe (x : Nat) : Nat := if x = 40 then 20 else if x = 272 then 21 else if x = 271 then 38 else if x = 270 then 124 else x
def fv (x : Nat) : Prop := x = 40 ∨ f_ti x ≠ 0
theorem fv_l {x : Nat} (h : fv x) : x = 40 ∨ x = 270 ∨ x = 271 ∨ x = 272 ∨ x = 60 ∨ x = 61 ∨ x = 62 ∨ x = 43 ∨ x = 45 ∨ x = 42 ∨ x = 47 ∨ x = 37 := by
  rcases h with h | h
  · exact Or.inl h
  · unfold f_ti at h
    repeat' split at h
    all_goals omega
theorem fe_all {x : Nat} (h : fv x) : fe x < 200 ∧ (fe x = 20 ↔ x = 40) ∧ (fe x = 21 ↔ x = 272) := by
  rcases fv_l h with q | q | q | q | q | q | q | q | q | q | q | q <;> subst q <;> decide
theorem m_tight {x : Nat} (h : fv x) (h40 : x ≠ 40) (s : u_H) : u_c 308 [.inl (zi (fe x))] s = some (some (.inl (zi (f_ti x))), s) := by
  rw [b_308]
  rcases fv_l h with q | q | q | q | q | q | q | q | q | q | q | q <;> subst q
  · exact absurd rfl h40
  all_goals (simp (config := { decide := true }) [fe, f_ti]; try rfl)
def mO (O : List Nat) (s : u_H) : Prop := s.1 65 19 = zi O.length ∧ (∀ x ∈ O, fv x) ∧ ∀ j x, O.reverse[j]? = some x → s.1 72 j = zi (fe x)
def f_dc : List Nat → Nat
  | [] => 0
  | x :: O => f_dc O + (if x = 40 ∨ x = 272 then 1 else 0)
theorem mO_top {x : Nat} {O : List Nat} {s : u_H} (h : mO (x :: O) s) : s.1 65 19 = zi (O.length + 1) ∧ fv x ∧ s.1 72 O.length = zi (fe x) := by
  refine ⟨h.1, h.2.1 x List.mem_cons_self, h.2.2 O.length x ?_⟩
  rw [List.reverse_cons, List.getElem?_append_right (by rw [List.length_reverse]; exact Nat.le_refl _), List.length_reverse, Nat.sub_self]
  rfl
theorem mO_pop {x : Nat} {O : List Nat} {s s2 : u_H} (h : mO (x :: O) s) (h1 : s2.1 65 19 = zi O.length) (h2 : ∀ j, s2.1 72 j = s.1 72 j) : mO O s2 := by
  refine ⟨h1, fun y hy => h.2.1 y (List.mem_cons_of_mem _ hy), fun j y hj => ?_⟩
  rw [h2 j]
  refine h.2.2 j y ?_
  rw [List.reverse_cons]
  have hlt : j < O.reverse.length := by
    rcases Nat.lt_or_ge j O.reverse.length with q | q
    · exact q
    · rw [List.getElem?_eq_none q] at hj
      cases hj
  rw [List.getElem?_append_left hlt]
  exact hj
theorem mO_push {x : Nat} {O : List Nat} {s s2 : u_H} (h : mO O s) (hx : fv x) (h1 : s2.1 65 19 = zi (O.length + 1)) (h2 : s2.1 72 O.length = zi (fe x)) (h3 : ∀ j, j ≠ O.length → s2.1 72 j = s.1 72 j) : mO (x :: O) s2 := by
  refine ⟨h1, fun y hy => ?_, fun j y hj => ?_⟩
  · rcases List.mem_cons.mp hy with q | q
    · rw [q]
      exact hx
    · exact h.2.1 y q
  · rw [List.reverse_cons] at hj
    by_cases e : j = O.length
    · subst e
      rw [List.getElem?_append_right (by rw [List.length_reverse]; exact Nat.le_refl _), List.length_reverse, Nat.sub_self] at hj
      have e2 : x = y := Option.some.inj hj
      rw [h2, e2]
    · rw [h3 j e]
      have hlt : j < O.reverse.length := by
        have h5 : j < (O.reverse ++ [x]).length := by
          rcases Nat.lt_or_ge j (O.reverse ++ [x]).length with q | q
          · exact q
          · rw [List.getElem?_eq_none q] at hj
            cases hj
        rw [List.length_append, List.length_reverse] at h5
        rw [List.length_reverse]
        have : [x].length = 1 := rfl
        omega
      rw [List.getElem?_append_left hlt] at hj
      exact h.2.2 j y hj
/-- a step of the code, as the model keeps it -/
def ms (x : Int) : Int32 × Int32 := if x < 0 then (Int32.ofInt 1, if x = -1 then Int32.ofInt 2 else if x = -2 then Int32.ofInt 0 else if x = -3 then Int32.ofInt 1 else if x = -4 then Int32.ofInt 3 else if x = -5 then Int32.ofInt 4 else Int32.ofInt 5) else if x < 10000 then (Int32.ofInt 0, Int32.ofInt x) else if x = 10272 then (Int32.ofInt 2, Int32.ofInt 0) else (Int32.ofInt 3, zi (fe (x - 10000).toNat))
def mQ (out : List Int) (s : u_H) : Prop := s.1 65 17 = zi out.length ∧ ∀ k x, out[k]? = some x → s.1 68 k = (ms x).1 ∧ s.1 69 k = (ms x).2
/-- what the formula writes, tokens aside -/
def tx_F (o k : Nat) : Prop := (o = 65 ∧ (k = 17 ∨ k = 19 ∨ k = 23)) ∨ o = 68 ∨ o = 69 ∨ o = 72
def tx_Q (o k : Nat) : Prop := (o = 65 ∧ k = 17) ∨ o = 68 ∨ o = 69
theorem m_add {out : List Int} {s : u_H} {x : Int} {p1 p2 : Int32} {r : Option (q_V Int32) × u_H} (h : mQ out s) (hl : out.length < 4000) (hx : ms x = (p1, p2)) (hr : u_c 176 [.inr (.inr 67), .inl p1, .inl p2] s = some r) : r.1 = none ∧ mQ (out ++ [x]) r.2 ∧ u_fr tx_Q s r.2 := by
  rw [b_176, h.1] at hr
  by_cases hi : u_in (zi out.length) 320 = true
  · rw [if_pos hi, if_pos hi, zi_clamp (by omega), zi_one] at hr
    cases hr
    refine ⟨rfl, ⟨?_, fun k y hk => ?_⟩, ?_⟩
    · show y_u (y_u (y_u s.1 68 out.length p1) 69 out.length p2) 65 17 (zi (out.length + 1)) 65 17 = zi (out ++ [x]).length
      rw [y_uE, List.length_append]
      rfl
    · show y_u (y_u (y_u s.1 68 out.length p1) 69 out.length p2) 65 17 (zi (out.length + 1)) 68 k = (ms y).1 ∧ y_u (y_u (y_u s.1 68 out.length p1) 69 out.length p2) 65 17 (zi (out.length + 1)) 69 k = (ms y).2
      have e1 : y_u (y_u (y_u s.1 68 out.length p1) 69 out.length p2) 65 17 (zi (out.length + 1)) 68 k = y_u s.1 68 out.length p1 68 k := by rw [y_uN (by omega), y_uN (by omega)]
      have e2 : y_u (y_u (y_u s.1 68 out.length p1) 69 out.length p2) 65 17 (zi (out.length + 1)) 69 k = y_u (y_u s.1 68 out.length p1) 69 out.length p2 69 k := y_uN (by omega)
      rw [e1, e2]
      by_cases e : k = out.length
      · subst e
        rw [List.getElem?_append_right (Nat.le_refl _), Nat.sub_self] at hk
        have e3 : x = y := Option.some.inj hk
        rw [y_uE, y_uE, ← e3, hx]
        exact ⟨rfl, rfl⟩
      · have hlt : k < out.length := by
          have h5 : k < (out ++ [x]).length := by
            rcases Nat.lt_or_ge k (out ++ [x]).length with q | q
            · exact q
            · rw [List.getElem?_eq_none q] at hk
              cases hk
          rw [List.length_append] at h5
          have : [x].length = 1 := rfl
          omega
        rw [List.getElem?_append_left hlt] at hk
        rw [y_uN (by omega), y_uN (by omega), y_uN (by omega)]
        exact h.2 k y hk
    · exact u_fr.wi (u_fr.wi (u_fr.wi (f := s.1) (r := s.2) u_fr.rf (Or.inr (Or.inl rfl))) (Or.inr (Or.inr rfl))) (Or.inl ⟨rfl, rfl⟩)
  · rw [if_neg hi] at hr
    cases hr
theorem ms_not : ms 10272 = (Int32.ofInt 2, Int32.ofInt 0) := by decide
theorem ms_op {x : Nat} (h : fv x) (h1 : x ≠ 40) (h2 : x ≠ 272) : ms (10000 + (x : Int)) = (Int32.ofInt 3, zi (fe x)) := by
  rcases fv_l h with q | q | q | q | q | q | q | q | q | q | q | q <;> subst q
  · exact absurd rfl h1
  · decide
  · decide
  · exact absurd rfl h2
  all_goals decide
theorem mQ_w {out : List Int} {s : u_H} {o k : Nat} {x : Int32} {r : (Nat → Nat → Int64) × u_K} (h : mQ out s) (h1 : ¬ (o = 65 ∧ k = 17)) (h2 : o ≠ 68) (h3 : o ≠ 69) : mQ out (y_u s.1 o k x, r) := by
  refine ⟨?_, fun j y hj => ?_⟩
  · show y_u s.1 o k x 65 17 = _
    rw [y_uN (by omega)]
    exact h.1
  · show y_u s.1 o k x 68 j = _ ∧ y_u s.1 o k x 69 j = _
    rw [y_uN (by omega), y_uN (by omega)]
    exact h.2 j y hj
/-- what close does -/
theorem m_close {m : Nat} (hm : m ≤ 6) : ∀ (O : List Nat) (out : List Int) (dp : Nat) (s : u_H) (li : Nat → Int32) (ll : Nat → Int64) (r : Option (q_V Int32) × u_H), li 1 = zi m → mO O s → mQ out s → O.length + out.length < 4000 → f_dc O ≤ dp → dp < 4000 → s.1 65 23 = zi dp → u g_t187 0 (li, ll, [(0, 67)]) [] s = some r → r.1 = none ∧ mO (f_cl m O).2.1 r.2 ∧ mQ (out ++ (f_cl m O).1) r.2 ∧ r.2.1 65 23 = zi (dp - (f_cl m O).2.2) ∧ u_fr tx_F s r.2 := by
  intro O
  induction O with
  | nil =>
    intro out dp s li ll r h1 hO hQ hl hdc hdp hd hr
    have h19 : s.1 65 19 = 0 := hO.1
    rw [b_187_0, h19, if_neg (by decide)] at hr
    cases hr
    refine ⟨rfl, hO, ?_, hd, u_fr.rf⟩
    show mQ (out ++ []) s
    rw [List.append_nil]
    exact hQ
  | cons x O ih =>
    intro out dp s li ll r h1 hO hQ hl hdc hdp hd hr
    obtain ⟨t1, t2, t3⟩ := mO_top hO
    have hlen : (x :: O).length = O.length + 1 := rfl
    have hsub : zi (O.length + 1) - Int32.ofInt 1 = zi O.length := zi_sub (a := O.length + 1) (b := 1) (by omega)
    obtain ⟨f1, f2, f3⟩ := fe_all t2
    have h20 : zi (fe x) = Int32.ofInt 20 ↔ x = 40 := by
      rw [show Int32.ofInt 20 = zi 20 from rfl, zk_iff (by omega) (by omega)]
      exact f2
    have h21 : zi (fe x) = Int32.ofInt 21 ↔ x = 272 := by
      rw [show Int32.ofInt 21 = zi 21 from rfl, zk_iff (by omega) (by omega)]
      exact f3
    have hpos : (0 : Int32) < zi (O.length + 1) := by
      rw [show (0 : Int32) = zi 0 from rfl, zi_lt (by omega) (by omega)]
      omega
    rw [b_187_0, t1, if_pos hpos, hsub, zi_clamp (by omega), t3, h1] at hr
    by_cases hi : u_in (zi O.length) 160 = true
    · rw [if_pos hi] at hr
      by_cases h40 : x = 40
      · rw [if_pos (h20.mpr h40)] at hr
        cases hr
        have e : f_cl m (x :: O) = ([], x :: O, 0) := by
          rw [f_cl_cons, if_neg (fun q => q.1 h40)]
        rw [e]
        refine ⟨rfl, hO, ?_, hd, u_fr.rf⟩
        show mQ (out ++ []) s
        rw [List.append_nil]
        exact hQ
      · rw [if_neg (fun q => h40 (h20.mp q)), if_pos hi, m_tight t2 h40, u_biS] at hr
        have hti6 := f_ti6 x
        have hcmp : zi (f_ti x) < zi m ↔ f_ti x < m := zi_lt (by omega) (by omega)
        by_cases hlt : f_ti x < m
        · rw [if_pos (hcmp.mpr hlt)] at hr
          cases hr
          have e : f_cl m (x :: O) = ([], x :: O, 0) := by
            rw [f_cl_cons, if_neg (fun q => by omega)]
          rw [e]
          refine ⟨rfl, hO, ?_, hd, u_fr.rf⟩
          show mQ (out ++ []) s
          rw [List.append_nil]
          exact hQ
        · rw [if_neg (fun q => hlt (hcmp.mp q)), t1, hsub, if_pos hi, zi_clamp (by omega), t3] at hr
          have e : f_cl m (x :: O) = ((10000 + (x : Int)) :: (f_cl m O).1, (f_cl m O).2.1, (f_cl m O).2.2 + (if x = 272 then 1 else 0)) := by
            rw [f_cl_cons, if_pos ⟨h40, by omega⟩]
          have hQ1 : mQ out (y_u s.1 65 19 (zi O.length), s.2) := mQ_w hQ (by omega) (by omega) (by omega)
          have fr1 : u_fr tx_F s (y_u s.1 65 19 (zi O.length), s.2) := u_fr.wi (f := s.1) (r := s.2) u_fr.rf (Or.inl ⟨rfl, Or.inr (Or.inl rfl)⟩)
          have frQ : ∀ {a b : u_H}, u_fr tx_Q a b → u_fr tx_F a b := fun f => f.mono (fun o k q => by
            rcases q with q | q | q
            · exact Or.inl ⟨q.1, Or.inl q.2⟩
            · exact Or.inr (Or.inl q)
            · exact Or.inr (Or.inr (Or.inl q)))
          by_cases h272 : x = 272
          · rw [if_pos (h21.mpr h272)] at hr
            cases ha : u_c 176 [.inr (.inr 67), .inl (Int32.ofInt 2), .inl (Int32.ofInt 0)] (y_u s.1 65 19 (zi O.length), s.2) with
            | none => rw [ha] at hr; cases hr
            | some ra =>
              obtain ⟨va, sa⟩ := ra
              obtain ⟨a1, a2, a3⟩ := m_add (x := 10272) hQ1 (by omega) ms_not ha
              have a1 : va = none := a1
              subst a1
              rw [ha, u_bvS] at hr
              have d1 : sa.1 65 23 = zi dp := by
                rw [a3.i (fun q => by rcases q with q | q | q <;> omega)]
                exact (show y_u s.1 65 19 (zi O.length) 65 23 = s.1 65 23 from y_uN (by omega)).trans hd
              have hdp1 : 1 ≤ dp := by
                have hd0 : f_dc (x :: O) = f_dc O + (if x = 40 ∨ x = 272 then 1 else 0) := rfl
                rw [if_pos (Or.inr h272)] at hd0
                omega
              have hdcO : f_dc O ≤ dp - 1 := by
                have hd0 : f_dc (x :: O) = f_dc O + (if x = 40 ∨ x = 272 then 1 else 0) := rfl
                rw [if_pos (Or.inr h272)] at hd0
                omega
              rw [d1, show zi dp - Int32.ofInt 1 = zi (dp - 1) from zi_sub (b := 1) hdp1] at hr
              have hOb : mO O (y_u sa.1 65 23 (zi (dp - 1)), sa.2) := by
                refine mO_pop hO ?_ (fun j => ?_)
                · show y_u sa.1 65 23 (zi (dp - 1)) 65 19 = _
                  rw [y_uN (by omega), a3.i (fun q => by rcases q with q | q | q <;> omega)]
                  exact y_uE s.1 65 19 _
                · show y_u sa.1 65 23 (zi (dp - 1)) 72 j = _
                  rw [y_uN (by omega), a3.i (fun q => by rcases q with q | q | q <;> omega)]
                  show y_u s.1 65 19 (zi O.length) 72 j = _
                  rw [y_uN (by omega)]
              have hQb : mQ (out ++ [10272]) (y_u sa.1 65 23 (zi (dp - 1)), sa.2) := mQ_w a2 (by omega) (by omega) (by omega)
              obtain ⟨g1, g2, g3, g4, g5⟩ := ih (out ++ [10272]) (dp - 1) _ li ll r h1 hOb hQb (by rw [List.length_append]; show O.length + (out.length + 1) < 4000; omega) hdcO (by omega) (y_uE sa.1 65 23 _) hr
              have frb : u_fr tx_F sa (y_u sa.1 65 23 (zi (dp - 1)), sa.2) := u_fr.wi (f := sa.1) (r := sa.2) u_fr.rf (Or.inl ⟨rfl, Or.inr (Or.inr rfl)⟩)
              refine ⟨g1, ?_, ?_, ?_, ((fr1.tr (frQ a3)).tr frb).tr g5⟩
              · rw [e]
                exact g2
              · rw [e, h272]
                rw [List.append_assoc] at g3
                exact g3
              · rw [e, if_pos h272, g4]
                show zi (dp - 1 - (f_cl m O).2.2) = zi (dp - ((f_cl m O).2.2 + 1))
                exact congrArg zi (by omega)
          · rw [if_neg (fun q => h272 (h21.mp q)), if_pos hi] at hr
            cases ha : u_c 176 [.inr (.inr 67), .inl (Int32.ofInt 3), .inl (zi (fe x))] (y_u s.1 65 19 (zi O.length), s.2) with
            | none => rw [ha] at hr; cases hr
            | some ra =>
              obtain ⟨va, sa⟩ := ra
              obtain ⟨a1, a2, a3⟩ := m_add (x := 10000 + (x : Int)) hQ1 (by omega) (ms_op t2 h40 h272) ha
              have a1 : va = none := a1
              subst a1
              rw [ha, u_bvS] at hr
              have d1 : sa.1 65 23 = zi dp := by
                rw [a3.i (fun q => by rcases q with q | q | q <;> omega)]
                exact (show y_u s.1 65 19 (zi O.length) 65 23 = s.1 65 23 from y_uN (by omega)).trans hd
              have hdcO : f_dc O ≤ dp := by
                have hd0 : f_dc (x :: O) = f_dc O + (if x = 40 ∨ x = 272 then 1 else 0) := rfl
                omega
              have hOb : mO O sa := by
                refine mO_pop hO ?_ (fun j => ?_)
                · rw [a3.i (fun q => by rcases q with q | q | q <;> omega)]
                  exact y_uE s.1 65 19 _
                · rw [a3.i (fun q => by rcases q with q | q | q <;> omega)]
                  show y_u s.1 65 19 (zi O.length) 72 j = _
                  rw [y_uN (by omega)]
              obtain ⟨g1, g2, g3, g4, g5⟩ := ih (out ++ [10000 + (x : Int)]) dp sa li ll r h1 hOb a2 (by rw [List.length_append]; show O.length + (out.length + 1) < 4000; omega) hdcO hdp d1 hr
              refine ⟨g1, ?_, ?_, ?_, (fr1.tr (frQ a3)).tr g5⟩
              · rw [e]
                exact g2
              · rw [e]
                rw [List.append_assoc] at g3
                exact g3
              · rw [e, if_neg h272]
                exact g4
    · rw [if_neg hi] at hr
      cases hr
