/-! THE FORMULA, PURE: a descent, as the class reads it, and a row of open signs, as the model does. A token: its start, its kind (the class's numbers), its number, where the next begins -/
abbrev f_T : Type := Nat × Nat × Nat × Nat
abbrev f_R : Type := (Nat × Nat) ⊕ (f_T × List Int × Nat)
abbrev f_X : Type := f_T → List Int → Nat → Option f_R
def f_st (τ : f_T) : Nat := τ.1
def f_k (τ : f_T) : Nat := τ.2.1
/-- how tight a sign binds; 0: no sign -/
def f_ti (k : Nat) : Nat := if k = 270 then 1 else if k = 271 then 2 else if k = 272 then 3 else if k = 60 ∨ k = 61 ∨ k = 62 then 4 else if k = 43 ∨ k = 45 then 5 else if k = 42 ∨ k = 47 ∨ k = 37 then 6 else 0
def f_val (τ : f_T) : Int := if f_k τ = 274 then (τ.2.2.1 : Int) else -1 - ((f_k τ : Int) - 262)
abbrev f_kn (k : Nat) : Prop := k = 274 ∨ (262 ≤ k ∧ k ≤ 267)
abbrev f_sg (k : Nat) : Prop := f_ti k ≠ 0 ∧ k ≠ 272
def f_no (τ : f_T) : Option f_R := some (.inl (2, f_st τ))
def f_bd (r : Option f_R) (g : f_X) : Option f_R := match r with
  | some (.inl f) => some (.inl f)
  | some (.inr (τ, c, u)) => g τ c u
  | none => none
section FA
variable (A : f_T → f_T)
def f_ad (τ : f_T) (c : List Int) (u : Nat) : Option f_R := if f_k (A τ) = 276 then some (.inl (1, f_st (A τ))) else some (.inr (A τ, c, u))
def f_unit (F : f_X) (d : Nat) : f_X := fun τ c u => if f_k τ = 40 then (if 30 ≤ u ∨ d = 0 then f_no τ else f_bd (f_ad A τ c (u + 1)) fun τ c u => f_bd (F τ c u) fun τ c u => if f_k τ = 41 then f_ad A τ c u else f_no τ) else if f_kn (f_k τ) ∧ u < 30 then f_ad A τ (c ++ [f_val τ]) (u + 1) else f_no τ
def f_lp (m : Nat) (X : f_X) : Nat → f_X
  | 0 => fun _ _ _ => none
  | n + 1 => fun τ c u => if f_ti (f_k τ) = m then f_bd (f_ad A τ c u) fun τ1 c u => f_bd (X τ1 c u) fun τ2 c u => f_lp m X n τ2 (c ++ [(10000 + f_k τ : Int)]) u else some (.inr (τ, c, u))
def f_bin (m : Nat) (X : f_X) (n : Nat) : f_X := fun τ c u => f_bd (X τ c u) (f_lp A m X n)
def f_sum (F : f_X) (d n : Nat) : f_X := f_bin A 5 (f_bin A 6 (f_unit A F d) n) n
def f_rel (S : f_X) : f_X := fun τ c u => f_bd (S τ c u) fun τ c u => if f_ti (f_k τ) = 4 then f_bd (f_ad A τ c u) fun τ1 c u => f_bd (S τ1 c u) fun τ2 c u => some (.inr (τ2, c ++ [(10000 + f_k τ : Int)], u)) else some (.inr (τ, c, u))
def f_one (n : Nat) : Nat → f_X
  | 0 => fun τ c u => if f_k τ = 272 then f_no τ else f_rel A (f_sum A (fun _ _ _ => none) 0 n) τ c u
  | d + 1 => fun τ c u => if f_k τ = 272 then f_bd (f_ad A τ c u) fun τ c u => f_bd (f_one n d τ c u) fun τ c u => some (.inr (τ, c ++ [10272], u)) else f_rel A (f_sum A (f_bin A 1 (f_bin A 2 (f_one n d) n) n) (d + 1) n) τ c u
def f_form (n d : Nat) : f_X := f_bin A 1 (f_bin A 2 (f_one A n d) n) n
/-! the model's row of open signs, the last first; 40 a bracket -/
def f_cl (m : Nat) : List Nat → List Int × List Nat × Nat
  | [] => ([], [], 0)
  | x :: O => if x ≠ 40 ∧ m ≤ f_ti x then ((10000 + x : Int) :: (f_cl m O).1, (f_cl m O).2.1, (f_cl m O).2.2 + (if x = 272 then 1 else 0)) else ([], x :: O, 0)
def f_hr : List Nat → Bool
  | [] => false
  | x :: O => if x = 40 then false else if 4 < f_ti x then f_hr O else decide (f_ti x = 4)
def f_hb : List Nat → Bool
  | [] => false
  | x :: O => decide (x = 40) || f_hb O
def f_mn : List Nat → Bool
  | [] => true
  | x :: _ => decide (x = 40) || decide (f_ti x < 4)
def f_wr (τ : f_T) : Option f_R := some (.inl (if f_k τ = 276 then 1 else 2, f_st τ))
def f_op : Nat → Bool → f_T → List Nat → List Int → Nat → Nat → Option f_R
  | 0, _, _, _, _, _, _ => none
  | n + 1, true, τ, O, out, u, dp => if f_k τ = 272 ∧ f_mn O = true then (if 6 < dp then f_wr τ else f_op n true (A τ) (272 :: O) out u (dp + 1)) else if f_k τ = 40 then (if u = 30 ∨ 6 < dp then f_wr τ else f_op n true (A τ) (40 :: O) out (u + 1) (dp + 1)) else if f_kn (f_k τ) ∧ u ≠ 30 then f_op n false (A τ) O (out ++ [f_val τ]) (u + 1) dp else f_wr τ
  | n + 1, false, τ, O, out, u, dp => if f_k τ = 41 ∧ f_hb O = true then f_op n false (A τ) (f_cl 0 O).2.1.tail (out ++ (f_cl 0 O).1) u (dp - (f_cl 0 O).2.2 - 1) else if f_sg (f_k τ) ∧ ¬ (f_ti (f_k τ) = 4 ∧ f_hr O = true) then f_op n true (A τ) (f_k τ :: (f_cl (f_ti (f_k τ)) O).2.1) (out ++ (f_cl (f_ti (f_k τ)) O).1) u (dp - (f_cl (f_ti (f_k τ)) O).2.2) else if f_hb O = true then f_wr τ else if f_k τ = 59 then some (.inr (τ, out ++ (f_cl 0 O).1, u)) else f_wr τ
end FA
/-! rows of open signs -/
def f_em (pe : List Nat) : List Int := pe.map (fun x : Nat => (10000 + (x : Int) : Int))
def f_ns : List Nat → Nat
  | [] => 0
  | x :: O => f_ns O + (if x = 272 then 1 else 0)
def f_tp (m : Nat) (O : List Nat) : Prop := ∀ x O2, O = x :: O2 → x = 40 ∨ f_ti x < m
def f_ge (m : Nat) (pe : List Nat) : Prop := ∀ x ∈ pe, x ≠ 40 ∧ m ≤ f_ti x
theorem f_cl_cons {m x : Nat} {O : List Nat} : f_cl m (x :: O) = if x ≠ 40 ∧ m ≤ f_ti x then ((10000 + x : Int) :: (f_cl m O).1, (f_cl m O).2.1, (f_cl m O).2.2 + (if x = 272 then 1 else 0)) else ([], x :: O, 0) := rfl
theorem f_hr_cons {x : Nat} {O : List Nat} : f_hr (x :: O) = if x = 40 then false else if 4 < f_ti x then f_hr O else decide (f_ti x = 4) := rfl
theorem f_mn_cons {x : Nat} {O : List Nat} : f_mn (x :: O) = (decide (x = 40) || decide (f_ti x < 4)) := rfl
theorem f_ge_nil {m : Nat} : f_ge m [] := fun x h => by cases h
theorem f_ge_le {m k : Nat} {pe : List Nat} (h : f_ge m pe) (hk : k ≤ m) : f_ge k pe := fun x hx => ⟨(h x hx).1, Nat.le_trans hk (h x hx).2⟩
theorem f_ge_app {m : Nat} {p q : List Nat} (h1 : f_ge m p) (h2 : f_ge m q) : f_ge m (p ++ q) := fun x hx => by
  rcases List.mem_append.mp hx with h | h
  · exact h1 x h
  · exact h2 x h
theorem f_ge_one {m x : Nat} (h : x ≠ 40) (h2 : m ≤ f_ti x) : f_ge m [x] := fun y hy => by
  rcases List.mem_singleton.mp hy with rfl
  exact ⟨h, h2⟩
theorem f_tp_le {m k : Nat} {O : List Nat} (h : f_tp m O) (hk : m ≤ k) : f_tp k O := fun x O2 e => by
  rcases h x O2 e with q | q
  · exact Or.inl q
  · exact Or.inr (by omega)
theorem f_tp_cons {m x : Nat} {O : List Nat} (h : x = 40 ∨ f_ti x < m) : f_tp m (x :: O) := fun y O2 e => by
  cases e
  exact h
theorem f_cl_tp {m : Nat} {O : List Nat} (h : f_tp m O) : f_cl m O = ([], O, 0) := by
  cases O with
  | nil => rfl
  | cons x O =>
    rw [f_cl_cons]
    rcases h x O rfl with q | q
    · rw [if_neg (fun h => h.1 q)]
    · rw [if_neg (fun h => by omega)]
theorem f_cl_app {m : Nat} {O : List Nat} : ∀ pe : List Nat, f_ge m pe → f_cl m (pe ++ O) = (f_em pe ++ (f_cl m O).1, (f_cl m O).2.1, (f_cl m O).2.2 + f_ns pe) := by
  intro pe
  induction pe with
  | nil =>
    intro _
    show f_cl m O = ((f_cl m O).1, (f_cl m O).2.1, (f_cl m O).2.2 + 0)
    rw [Nat.add_zero]
  | cons x pe ih =>
    intro h
    have hx := h x List.mem_cons_self
    have h2 := ih (fun y hy => h y (List.mem_cons_of_mem _ hy))
    show f_cl m (x :: (pe ++ O)) = _
    rw [f_cl_cons, if_pos hx, h2]
    show ((10000 + x : Int) :: (f_em pe ++ (f_cl m O).1), (f_cl m O).2.1, (f_cl m O).2.2 + f_ns pe + (if x = 272 then 1 else 0)) = ((10000 + x : Int) :: (f_em pe ++ (f_cl m O).1), (f_cl m O).2.1, (f_cl m O).2.2 + (f_ns pe + (if x = 272 then 1 else 0)))
    rw [Nat.add_assoc]
theorem f_hb_app {m : Nat} {O : List Nat} : ∀ pe : List Nat, f_ge m pe → f_hb (pe ++ O) = f_hb O := by
  intro pe
  induction pe with
  | nil => intro _; rfl
  | cons x pe ih =>
    intro h
    have hx := h x List.mem_cons_self
    show (decide (x = 40) || f_hb (pe ++ O)) = _
    rw [decide_eq_false hx.1, Bool.false_or]
    exact ih (fun y hy => h y (List.mem_cons_of_mem _ hy))
theorem f_hr_app {O : List Nat} : ∀ pe : List Nat, f_ge 5 pe → f_hr (pe ++ O) = f_hr O := by
  intro pe
  induction pe with
  | nil => intro _; rfl
  | cons x pe ih =>
    intro h
    have hx := h x List.mem_cons_self
    show f_hr (x :: (pe ++ O)) = _
    rw [f_hr_cons, if_neg hx.1, if_pos (show 4 < f_ti x by have := hx.2; omega)]
    exact ih (fun y hy => h y (List.mem_cons_of_mem _ hy))
theorem f_hr_tp {O : List Nat} (h : f_tp 4 O) : f_hr O = false := by
  cases O with
  | nil => rfl
  | cons x O =>
    rw [f_hr_cons]
    rcases h x O rfl with q | q
    · rw [if_pos q]
    · by_cases e : x = 40
      · rw [if_pos e]
      · rw [if_neg e, if_neg (by omega)]
        exact decide_eq_false (by omega)
theorem f_mn_tp {O : List Nat} (h : f_tp 4 O) : f_mn O = true := by
  cases O with
  | nil => rfl
  | cons x O =>
    rw [f_mn_cons]
    rcases h x O rfl with q | q
    · rw [decide_eq_true q, Bool.true_or]
    · rw [decide_eq_true q, Bool.or_true]
theorem f_mn_no {x : Nat} {O : List Nat} (h : x ≠ 40) (h2 : 4 ≤ f_ti x) : f_mn (x :: O) = false := by
  rw [f_mn_cons, decide_eq_false h, decide_eq_false (by omega), Bool.or_false]
theorem f_em_app {p q : List Nat} : f_em (p ++ q) = f_em p ++ f_em q := List.map_append
theorem f_ns_app : ∀ {p q : List Nat}, f_ns (p ++ q) = f_ns p + f_ns q := by
  intro p q
  induction p with
  | nil => show f_ns q = 0 + f_ns q; omega
  | cons x p ih =>
    show f_ns (p ++ q) + _ = f_ns p + _ + f_ns q
    rw [ih]
    omega
theorem f_wr2 {τ : f_T} (h : f_k τ ≠ 276) : f_wr τ = some (.inl (2, f_st τ)) := by
  unfold f_wr
  rw [if_neg h]
theorem f_wr1 {τ : f_T} (h : f_k τ = 276) : f_wr τ = some (.inl (1, f_st τ)) := by
  unfold f_wr
  rw [if_pos h]
section FS
variable {A : f_T → f_T}
/-- at a bad token both ways end -/
theorem f_bad {n : Nat} {τ : f_T} (h : f_k τ = 276) {b : Bool} {O : List Nat} {out : List Int} {u dp : Nat} : f_op A (n + 1) b τ O out u dp = some (.inl (1, f_st τ)) := by
  have e0 : ¬ (f_k τ = 272 ∧ f_mn O = true) := fun q => by omega
  have e1 : ¬ f_k τ = 40 := by omega
  have e2 : ¬ (f_kn (f_k τ) ∧ u ≠ 30) := fun q => by
    have := q.1
    unfold f_kn at this
    omega
  have e3 : ¬ (f_k τ = 41 ∧ f_hb O = true) := fun q => by omega
  have e4 : ¬ (f_sg (f_k τ) ∧ ¬ (f_ti (f_k τ) = 4 ∧ f_hr O = true)) := fun q => by
    have := q.1.1
    rw [h] at this
    exact this (by decide)
  have e5 : ¬ f_k τ = 59 := by omega
  cases b with
  | true =>
    unfold f_op
    rw [if_neg e0, if_neg e1, if_neg e2]
    exact f_wr1 h
  | false =>
    unfold f_op
    rw [if_neg e3, if_neg e4, f_wr1 h, if_neg e5]
    split <;> rfl
/-- a sign that is not taken, within brackets or not -/
theorem f_op_mono : ∀ (n : Nat) (b : Bool) (τ : f_T) (O : List Nat) (out : List Int) (u dp : Nat) (r : f_R), f_op A n b τ O out u dp = some r → f_op A (n + 1) b τ O out u dp = some r := by
  intro n
  induction n with
  | zero => intro b τ O out u dp r h; unfold f_op at h; cases h
  | succ n ih =>
    intro b τ O out u dp r h
    cases b with
    | true =>
      unfold f_op at h ⊢
      split
      · rename_i q
        rw [if_pos q] at h
        split
        · rename_i q2
          rw [if_pos q2] at h
          exact h
        · rename_i q2
          rw [if_neg q2] at h
          exact ih _ _ _ _ _ _ _ h
      · rename_i q
        rw [if_neg q] at h
        split
        · rename_i q2
          rw [if_pos q2] at h
          split
          · rename_i q3
            rw [if_pos q3] at h
            exact h
          · rename_i q3
            rw [if_neg q3] at h
            exact ih _ _ _ _ _ _ _ h
        · rename_i q2
          rw [if_neg q2] at h
          split
          · rename_i q3
            rw [if_pos q3] at h
            exact ih _ _ _ _ _ _ _ h
          · rename_i q3
            rw [if_neg q3] at h
            exact h
    | false =>
      unfold f_op at h ⊢
      split
      · rename_i q
        rw [if_pos q] at h
        exact ih _ _ _ _ _ _ _ h
      · rename_i q
        rw [if_neg q] at h
        split
        · rename_i q2
          rw [if_pos q2] at h
          exact ih _ _ _ _ _ _ _ h
        · rename_i q2
          rw [if_neg q2] at h
          exact h
section FO
variable {n : Nat} {τ : f_T} {O : List Nat} {out : List Int} {u dp : Nat}
theorem f_oNot (h : f_k τ = 272) (hm : f_mn O = true) (hd : ¬ 6 < dp) : f_op A (n + 1) true τ O out u dp = f_op A n true (A τ) (272 :: O) out u (dp + 1) := by
  rw [f_op, if_pos ⟨h, hm⟩, if_neg hd]
theorem f_oNotX (h : f_k τ = 272) (hm : f_mn O = true) (hd : 6 < dp) : f_op A (n + 1) true τ O out u dp = f_wr τ := by
  rw [f_op, if_pos ⟨h, hm⟩, if_pos hd]
theorem f_oBr (h : f_k τ = 40) (hd : ¬ (u = 30 ∨ 6 < dp)) : f_op A (n + 1) true τ O out u dp = f_op A n true (A τ) (40 :: O) out (u + 1) (dp + 1) := by
  rw [f_op, if_neg (fun q => by omega), if_pos h, if_neg hd]
theorem f_oBrX (h : f_k τ = 40) (hd : u = 30 ∨ 6 < dp) : f_op A (n + 1) true τ O out u dp = f_wr τ := by
  rw [f_op, if_neg (fun q => by omega), if_pos h, if_pos hd]
theorem f_oVal (h : f_kn (f_k τ)) (hu : u ≠ 30) : f_op A (n + 1) true τ O out u dp = f_op A n false (A τ) O (out ++ [f_val τ]) (u + 1) dp := by
  unfold f_kn at h
  rw [f_op, if_neg (fun q => by omega), if_neg (by omega), if_pos ⟨h, hu⟩]
theorem f_oX (h1 : ¬ (f_k τ = 272 ∧ f_mn O = true)) (h2 : f_k τ ≠ 40) (h3 : ¬ (f_kn (f_k τ) ∧ u ≠ 30)) : f_op A (n + 1) true τ O out u dp = f_wr τ := by
  rw [f_op, if_neg h1, if_neg h2, if_neg h3]
theorem f_sCl (h : f_k τ = 41) (hb : f_hb O = true) : f_op A (n + 1) false τ O out u dp = f_op A n false (A τ) (f_cl 0 O).2.1.tail (out ++ (f_cl 0 O).1) u (dp - (f_cl 0 O).2.2 - 1) := by
  rw [f_op, if_pos ⟨h, hb⟩]
theorem f_sSg (h : f_sg (f_k τ)) (hb : ¬ (f_ti (f_k τ) = 4 ∧ f_hr O = true)) : f_op A (n + 1) false τ O out u dp = f_op A n true (A τ) (f_k τ :: (f_cl (f_ti (f_k τ)) O).2.1) (out ++ (f_cl (f_ti (f_k τ)) O).1) u (dp - (f_cl (f_ti (f_k τ)) O).2.2) := by
  have e : ¬ (f_k τ = 41 ∧ f_hb O = true) := fun q => by
    have := h.1
    rw [q.1] at this
    exact this (by decide)
  rw [f_op, if_neg e, if_pos ⟨h, hb⟩]
theorem f_sBr (h : ¬ (f_k τ = 41 ∧ f_hb O = true)) (hs : ¬ (f_sg (f_k τ) ∧ ¬ (f_ti (f_k τ) = 4 ∧ f_hr O = true))) (hb : f_hb O = true) : f_op A (n + 1) false τ O out u dp = f_wr τ := by
  rw [f_op, if_neg h, if_neg hs, if_pos hb]
theorem f_sEnd (h : ¬ (f_k τ = 41 ∧ f_hb O = true)) (hs : ¬ (f_sg (f_k τ) ∧ ¬ (f_ti (f_k τ) = 4 ∧ f_hr O = true))) (hb : f_hb O = false) : f_op A (n + 1) false τ O out u dp = if f_k τ = 59 then some (.inr (τ, out ++ (f_cl 0 O).1, u)) else f_wr τ := by
  rw [f_op, if_neg h, if_neg hs, if_neg (by rw [hb]; exact Bool.false_ne_true)]
end FO
theorem f_ti6 (k : Nat) : f_ti k ≤ 6 := by
  unfold f_ti
  repeat' split
  all_goals omega
/-- what a descent's answer says of the row of open signs -/
def f_end (A : f_T → f_T) (lp : Nat) (O : List Nat) (out c0 : List Int) (bs : Nat) (b : Bool) (τ : f_T) (Oi : List Nat) (oi : List Int) (u dp : Nat) (r : f_R) : Prop := match r with
  | .inl f => ∃ k, f_op A k b τ Oi oi u dp = some (.inl f)
  | .inr (τ2, c2, u2) => f_k τ2 ≠ 276 ∧ u2 ≤ 30 ∧ ∃ (pe : List Nat) (o2 e : List Int) (k : Nat), f_ge lp pe ∧ c2 = c0 ++ e ∧ o2 ++ f_em pe = out ++ e ∧ (f_sg (f_k τ2) → f_ti (f_k τ2) < lp ∨ (f_ti (f_k τ2) = 4 ∧ f_hr (pe ++ O) = true)) ∧ ∀ n, f_op A (n + k) b τ Oi oi u dp = f_op A n false τ2 (pe ++ O) o2 u2 (bs + f_ns pe)
def f_sim (A : f_T → f_T) (lc lp d : Nat) (X : f_X) : Prop := ∀ τ c u r, X τ c u = some r → f_k τ ≠ 276 → u ≤ 30 → ∀ O, f_tp lc O → (5 ≤ lc → ¬ (f_k τ = 272 ∧ f_mn O = true)) → ∀ out, f_end A lp O out c (7 - d) true τ O out u (7 - d) r
/-- the ways that a next token may go -/
theorem f_adC {τ : f_T} {c : List Int} {u : Nat} {g : f_X} {r : f_R} (h : f_bd (f_ad A τ c u) g = some r) : (f_k (A τ) = 276 ∧ r = .inl (1, f_st (A τ))) ∨ (f_k (A τ) ≠ 276 ∧ g (A τ) c u = some r) := by
  unfold f_ad at h
  by_cases q : f_k (A τ) = 276
  · rw [if_pos q] at h
    cases h
    exact Or.inl ⟨q, rfl⟩
  · rw [if_neg q] at h
    exact Or.inr ⟨q, h⟩
theorem f_adC0 {τ : f_T} {c : List Int} {u : Nat} {r : f_R} (h : f_ad A τ c u = some r) : (f_k (A τ) = 276 ∧ r = .inl (1, f_st (A τ))) ∨ (f_k (A τ) ≠ 276 ∧ r = .inr (A τ, c, u)) := by
  unfold f_ad at h
  by_cases q : f_k (A τ) = 276
  · rw [if_pos q] at h
    cases h
    exact Or.inl ⟨q, rfl⟩
  · rw [if_neg q] at h
    cases h
    exact Or.inr ⟨q, rfl⟩
theorem f_bdC {r0 : Option f_R} {g : f_X} {r : f_R} (h : f_bd r0 g = some r) : (∃ f, r0 = some (.inl f) ∧ r = .inl f) ∨ ∃ τ c u, r0 = some (.inr (τ, c, u)) ∧ g τ c u = some r := by
  rcases r0 with _ | f | ⟨τ, c, u⟩
  · cases h
  · cases h
    exact Or.inl ⟨f, rfl, rfl⟩
  · exact Or.inr ⟨τ, c, u, rfl, h⟩
theorem f_unitS {F : f_X} {d : Nat} (hd : d ≤ 7) (hF : d = 0 ∨ f_sim A 1 1 (d - 1) F) : f_sim A 7 7 d (f_unit A F d) := by
  intro τ c u r h hk hu O hO hn out
  unfold f_unit at h
  by_cases h40 : f_k τ = 40
  · rw [if_pos h40] at h
    by_cases hx : 30 ≤ u ∨ d = 0
    · rw [if_pos hx] at h
      cases h
      refine ⟨1, ?_⟩
      rw [f_oBrX (n := 0) h40 (by omega)]
      exact f_wr2 hk
    rw [if_neg hx] at h
    have hF2 : f_sim A 1 1 (d - 1) F := by
      rcases hF with q | q
      · exact absurd (Or.inr q) hx
      · exact q
    have e1 : ∀ n, f_op A (n + 1) true τ O out u (7 - d) = f_op A n true (A τ) (40 :: O) out (u + 1) (7 - d + 1) := fun n => f_oBr h40 (by omega)
    have ed : 7 - d + 1 = 7 - (d - 1) := by omega
    rcases f_adC h with ⟨q, rfl⟩ | ⟨q, h⟩
    · exact ⟨2, by rw [e1 1, f_bad (n := 0) q]⟩
    rcases f_bdC h with ⟨f, h0, rfl⟩ | ⟨τ1, c1, u1, h0, h2⟩
    · obtain ⟨k, hk2⟩ := hF2 _ _ _ _ h0 q (by omega) (40 :: O) (f_tp_cons (Or.inl rfl)) (fun q => by omega) out
      exact ⟨k + 1, by rw [e1 k, ed]; exact hk2⟩
    obtain ⟨k1, u1', pe, o2, e, k, hp, hc, ho, hs, hop⟩ := hF2 _ _ _ _ h0 q (by omega) (40 :: O) (f_tp_cons (Or.inl rfl)) (fun q => by omega) out
    have hb : f_hb (pe ++ 40 :: O) = true := by
      rw [f_hb_app pe hp]
      rfl
    have e2 : ∀ n, f_op A (n + k + 1) true τ O out u (7 - d) = f_op A n false τ1 (pe ++ 40 :: O) o2 u1 (7 - (d - 1) + f_ns pe) := fun n => by rw [e1, ed]; exact hop n
    by_cases h41 : f_k τ1 = 41
    · rw [if_pos h41] at h2
      have ecl : f_cl 0 (pe ++ 40 :: O) = (f_em pe, 40 :: O, f_ns pe) := by
        rw [f_cl_app pe (f_ge_le hp (Nat.zero_le 1)), f_cl_tp (f_tp_cons (Or.inl rfl))]
        show (f_em pe ++ [], 40 :: O, 0 + f_ns pe) = _
        rw [List.append_nil, Nat.zero_add]
      have e3 : ∀ n, f_op A (n + 1 + k + 1) true τ O out u (7 - d) = f_op A n false (A τ1) O (out ++ e) u1 (7 - d) := fun n => by
        rw [e2 (n + 1), f_sCl h41 hb, ecl]
        show f_op A n false (A τ1) O (o2 ++ f_em pe) u1 _ = _
        rw [ho, show 7 - (d - 1) + f_ns pe - f_ns pe - 1 = 7 - d by omega]
      rcases f_adC0 h2 with ⟨q2, rfl⟩ | ⟨q2, rfl⟩
      · exact ⟨1 + 1 + k + 1, by rw [e3 1, f_bad (n := 0) q2]⟩
      · refine ⟨q2, u1', [], out ++ e, e, k + 2, f_ge_nil, hc, List.append_nil _, fun _ => Or.inl (by have := f_ti6 (f_k (A τ1)); omega), fun n => ?_⟩
        rw [show n + (k + 2) = n + 1 + k + 1 by omega, e3 n]
        rfl
    · rw [if_neg h41] at h2
      cases h2
      refine ⟨1 + k + 1, ?_⟩
      rw [e2 1, f_sBr (n := 0) (fun q => h41 q.1) (fun q => ?_) hb]
      · exact f_wr2 k1
      · rcases hs q.1 with q2 | q2
        · exact q.1.1 (by omega)
        · exact q.2 q2
  rw [if_neg h40] at h
  by_cases hv : f_kn (f_k τ) ∧ u < 30
  · rw [if_pos hv] at h
    have e1 : ∀ n, f_op A (n + 1) true τ O out u (7 - d) = f_op A n false (A τ) O (out ++ [f_val τ]) (u + 1) (7 - d) := fun n => f_oVal hv.1 (by omega)
    rcases f_adC0 h with ⟨q, rfl⟩ | ⟨q, rfl⟩
    · exact ⟨1 + 1, by rw [e1 1, f_bad (n := 0) q]⟩
    · exact ⟨q, by omega, [], out ++ [f_val τ], [f_val τ], 1, f_ge_nil, rfl, List.append_nil _, fun _ => Or.inl (by have := f_ti6 (f_k (A τ)); omega), fun n => e1 n⟩
  · rw [if_neg hv] at h
    cases h
    refine ⟨1, ?_⟩
    rw [f_oX (n := 0) (hn (by omega)) h40 (fun q => hv ⟨q.1, by have := q.2; omega⟩)]
    exact f_wr2 hk
theorem f_lpS {m lc d : Nat} {X : f_X} (hX : f_sim A lc (m + 1) d X) (hm : m < lc) (hm1 : m = 1 ∨ m = 2 ∨ m = 5 ∨ m = 6) (h5 : 5 ≤ lc → 5 ≤ m) {O : List Nat} (hO : f_tp m O) {out c0 : List Int} : ∀ (n : Nat) (τ : f_T) (c : List Int) (u : Nat) (r : f_R), f_lp A m X n τ c u = some r → f_k τ ≠ 276 → u ≤ 30 → ∀ (pe : List Nat) (o2 e : List Int), f_ge m pe → c = c0 ++ e → o2 ++ f_em pe = out ++ e → (f_sg (f_k τ) → f_ti (f_k τ) < m + 1 ∨ (f_ti (f_k τ) = 4 ∧ f_hr (pe ++ O) = true)) → f_end A m O out c0 (7 - d) false τ (pe ++ O) o2 u (7 - d + f_ns pe) r := by
  intro n
  induction n with
  | zero => intro τ c u r h; cases h
  | succ n ih =>
    intro τ c u r h hk hu pe o2 e hp hc ho hs
    unfold f_lp at h
    by_cases ht : f_ti (f_k τ) = m
    · rw [if_pos ht] at h
      have hne : f_k τ ≠ 272 := fun q => by
        rw [q] at ht
        have : (3 : Nat) = m := ht
        omega
      have hsg : f_sg (f_k τ) := ⟨by omega, hne⟩
      have ecl : f_cl m (pe ++ O) = (f_em pe, O, f_ns pe) := by
        rw [f_cl_app pe hp, f_cl_tp hO]
        show (f_em pe ++ [], O, 0 + f_ns pe) = _
        rw [List.append_nil, Nat.zero_add]
      have e1 : ∀ n, f_op A (n + 1) false τ (pe ++ O) o2 u (7 - d + f_ns pe) = f_op A n true (A τ) (f_k τ :: O) (out ++ e) u (7 - d) := fun n => by
        rw [f_sSg hsg (fun q => by omega), ht, ecl]
        show f_op A n true (A τ) (f_k τ :: O) (o2 ++ f_em pe) u (7 - d + f_ns pe - f_ns pe) = _
        rw [ho, Nat.add_sub_cancel]
      have h40 : f_k τ ≠ 40 := fun q => by
        rw [q] at ht
        have : (0 : Nat) = m := ht
        omega
      rcases f_adC h with ⟨q, rfl⟩ | ⟨q, h⟩
      · exact ⟨1 + 1, by rw [e1 1, f_bad (n := 0) q]⟩
      have hX2 := fun r2 (hr : X (A τ) c u = some r2) => hX _ _ _ r2 hr q hu (f_k τ :: O) (f_tp_cons (Or.inr (by omega))) (fun q2 q3 => by
        have := f_mn_no (x := f_k τ) (O := O) h40 (by have := h5 q2; omega)
        rw [this] at q3
        exact absurd q3.2 Bool.false_ne_true) (out ++ e)
      rcases f_bdC h with ⟨f, h0, rfl⟩ | ⟨τ1, c1, u1, h0, h2⟩
      · obtain ⟨k, hk2⟩ := hX2 _ h0
        exact ⟨k + 1, by rw [e1 k]; exact hk2⟩
      obtain ⟨k1, u1', pe1, o3, e3, k, hp1, hc1, ho1, hs1, hop⟩ := hX2 _ h0
      have hp2 : f_ge m (pe1 ++ [f_k τ]) := f_ge_app (f_ge_le hp1 (Nat.le_succ m)) (f_ge_one h40 (by omega))
      have hns : f_ns (pe1 ++ [f_k τ]) = f_ns pe1 := by
        rw [f_ns_app]
        show f_ns pe1 + (0 + (if f_k τ = 272 then 1 else 0)) = _
        rw [if_neg hne]
        omega
      have key := ih τ1 _ u1 r h2 k1 u1' (pe1 ++ [f_k τ]) o3 (e ++ e3 ++ [(10000 + f_k τ : Int)]) hp2 (by rw [hc1, hc]; simp [List.append_assoc]) (by
        rw [f_em_app, ← List.append_assoc, ho1]
        show (out ++ e ++ e3) ++ [(10000 + f_k τ : Int)] = _
        simp [List.append_assoc]) (fun q2 => by
        rw [List.append_assoc]
        exact hs1 q2)
      have e2 : ∀ n, f_op A (n + k + 1) false τ (pe ++ O) o2 u (7 - d + f_ns pe) = f_op A n false τ1 (pe1 ++ [f_k τ] ++ O) o3 u1 (7 - d + f_ns (pe1 ++ [f_k τ])) := fun n => by
        rw [e1, hop n, hns, List.append_assoc]
        rfl
      rcases r with f | ⟨τ2, c2, u2⟩
      · obtain ⟨k2, hk2⟩ := key
        exact ⟨k2 + k + 1, by rw [e2]; exact hk2⟩
      · obtain ⟨a1, a2, pe3, o4, e4, k4, b1, b2, b3, b4, b5⟩ := key
        refine ⟨a1, a2, pe3, o4, e4, k4 + k + 1, b1, b2, b3, b4, fun n => ?_⟩
        rw [show n + (k4 + k + 1) = n + k4 + k + 1 by omega, e2]
        exact b5 n
    · rw [if_neg ht] at h
      cases h
      refine ⟨hk, hu, pe, o2, e, 0, hp, hc, ho, fun q => ?_, fun n => rfl⟩
      rcases hs q with q2 | q2
      · exact Or.inl (by omega)
      · exact Or.inr q2
theorem f_binS {m lc d n : Nat} {X : f_X} (hX : f_sim A lc (m + 1) d X) (hm : m < lc) (hm1 : m = 1 ∨ m = 2 ∨ m = 5 ∨ m = 6) (h5 : 5 ≤ lc → 5 ≤ m) : f_sim A m m d (f_bin A m X n) := by
  intro τ c u r h hk hu O hO hn out
  unfold f_bin at h
  rcases f_bdC h with ⟨f, h0, rfl⟩ | ⟨τ1, c1, u1, h0, h2⟩
  · exact hX _ _ _ _ h0 hk hu O (f_tp_le hO (by omega)) (fun q => hn (h5 q)) out
  · obtain ⟨k1, u1', pe, o2, e, k, hp, hc, ho, hs, hop⟩ := hX _ _ _ _ h0 hk hu O (f_tp_le hO (by omega)) (fun q => hn (h5 q)) out
    have key := f_lpS (A := A) hX hm hm1 h5 hO (out := out) (c0 := c) n τ1 c1 u1 r h2 k1 u1' pe o2 e (f_ge_le hp (Nat.le_succ m)) hc ho hs
    rcases r with f | ⟨τ2, c2, u2⟩
    · obtain ⟨k2, hk2⟩ := key
      exact ⟨k2 + k, by rw [hop]; exact hk2⟩
    · obtain ⟨a1, a2, pe3, o4, e4, k4, b1, b2, b3, b4, b5⟩ := key
      refine ⟨a1, a2, pe3, o4, e4, k4 + k, b1, b2, b3, b4, fun n => ?_⟩
      rw [← Nat.add_assoc, hop]
      exact b5 n
theorem f_relS {d : Nat} {S : f_X} (hS : f_sim A 5 5 d S) {τ : f_T} {c : List Int} {u : Nat} {r : f_R} (h : f_rel A S τ c u = some r) (hk : f_k τ ≠ 276) (h272 : f_k τ ≠ 272) (hu : u ≤ 30) {O : List Nat} (hO : f_tp 4 O) {out : List Int} : f_end A 3 O out c (7 - d) true τ O out u (7 - d) r := by
  unfold f_rel at h
  rcases f_bdC h with ⟨f, h0, rfl⟩ | ⟨τ1, c1, u1, h0, h2⟩
  · exact hS _ _ _ _ h0 hk hu O (f_tp_le hO (by omega)) (fun _ q => h272 q.1) out
  obtain ⟨k1, u1', pe, o2, e, k, hp, hc, ho, hs, hop⟩ := hS _ _ _ _ h0 hk hu O (f_tp_le hO (by omega)) (fun _ q => h272 q.1) out
  have hp4 := f_ge_le hp (show 4 ≤ 5 by omega)
  by_cases ht : f_ti (f_k τ1) = 4
  · rw [if_pos ht] at h2
    have hne : f_k τ1 ≠ 272 := fun q => by
      rw [q] at ht
      exact absurd ht (by decide)
    have h40 : f_k τ1 ≠ 40 := fun q => by
      rw [q] at ht
      exact absurd ht (by decide)
    have hr0 : f_hr (pe ++ O) = false := by
      rw [f_hr_app pe hp]
      exact f_hr_tp hO
    have ecl : f_cl 4 (pe ++ O) = (f_em pe, O, f_ns pe) := by
      rw [f_cl_app pe hp4, f_cl_tp hO]
      show (f_em pe ++ [], O, 0 + f_ns pe) = _
      rw [List.append_nil, Nat.zero_add]
    have e1 : ∀ n, f_op A (n + 1 + k) true τ O out u (7 - d) = f_op A n true (A τ1) (f_k τ1 :: O) (out ++ e) u1 (7 - d) := fun n => by
      rw [hop (n + 1), f_sSg ⟨by omega, hne⟩ (fun q => by rw [hr0] at q; exact absurd q.2 Bool.false_ne_true), ht, ecl]
      show f_op A n true (A τ1) (f_k τ1 :: O) (o2 ++ f_em pe) u1 (7 - d + f_ns pe - f_ns pe) = _
      rw [ho, Nat.add_sub_cancel]
    rcases f_adC h2 with ⟨q, rfl⟩ | ⟨q, h2⟩
    · exact ⟨1 + 1 + k, by rw [e1 1, f_bad (n := 0) q]⟩
    have hS2 := fun r2 (hr : S (A τ1) c1 u1 = some r2) => hS _ _ _ r2 hr q u1' (f_k τ1 :: O) (f_tp_cons (Or.inr (by omega))) (fun _ q3 => by
      have := f_mn_no (x := f_k τ1) (O := O) h40 (by omega)
      rw [this] at q3
      exact absurd q3.2 Bool.false_ne_true) (out ++ e)
    rcases f_bdC h2 with ⟨f, h5, rfl⟩ | ⟨τ2, c2, u2, h5, h3⟩
    · obtain ⟨k2, hk2⟩ := hS2 _ h5
      exact ⟨k2 + 1 + k, by rw [e1 k2]; exact hk2⟩
    cases h3
    obtain ⟨a1, a2, pe2, o3, e3, k2, b1, b2, b3, b4, b5⟩ := hS2 _ h5
    refine ⟨a1, a2, pe2 ++ [f_k τ1], o3, e ++ e3 ++ [(10000 + f_k τ1 : Int)], k2 + 1 + k, f_ge_app (f_ge_le b1 (by omega)) (f_ge_one h40 (by omega)), by rw [b2, hc]; simp [List.append_assoc], ?_, fun q2 => ?_, fun n => ?_⟩
    · rw [f_em_app, ← List.append_assoc, b3]
      show (out ++ e ++ e3) ++ [(10000 + f_k τ1 : Int)] = _
      simp [List.append_assoc]
    · have hr1 : f_hr (pe2 ++ [f_k τ1] ++ O) = true := by
        rw [List.append_assoc, f_hr_app pe2 b1]
        show f_hr (f_k τ1 :: O) = true
        rw [f_hr_cons, if_neg h40, if_neg (by omega)]
        exact decide_eq_true ht
      by_cases q4 : f_ti (f_k τ2) = 4
      · exact Or.inr ⟨q4, hr1⟩
      · rcases b4 q2 with q5 | q5
        · refine Or.inl ?_
          have h3 : f_ti (f_k τ2) ≠ 3 := fun q6 => by
            have : f_k τ2 = 272 := by
              revert q6
              unfold f_ti
              repeat' split
              all_goals omega
            exact q2.2 this
          omega
        · exact absurd q5.1 q4
    · rw [show n + (k2 + 1 + k) = (n + k2) + 1 + k by omega, e1, b5 n, f_ns_app]
      show _ = f_op A n false τ2 (pe2 ++ [f_k τ1] ++ O) o3 u2 (7 - d + (f_ns pe2 + (0 + (if f_k τ1 = 272 then 1 else 0))))
      rw [if_neg hne, List.append_assoc]
      rfl
  · rw [if_neg ht] at h2
    cases h2
    refine ⟨k1, u1', pe, o2, e, k, f_ge_le hp (by omega), hc, ho, fun q => ?_, hop⟩
    have h3 : f_ti (f_k τ1) ≠ 3 := fun q6 => by
      have : f_k τ1 = 272 := by
        revert q6
        unfold f_ti
        repeat' split
        all_goals omega
      exact q.2 this
    rcases hs q with q5 | q5
    · exact Or.inl (by omega)
    · exact absurd q5.1 ht
theorem f_sumS {F : f_X} {d n : Nat} (hd : d ≤ 7) (hF : d = 0 ∨ f_sim A 1 1 (d - 1) F) : f_sim A 5 5 d (f_sum A F d n) := f_binS (f_binS (f_unitS hd hF) (by omega) (by omega) (by omega)) (by omega) (by omega) (by omega)
theorem f_formS {n d : Nat} (h1 : f_sim A 4 3 d (f_one A n d)) : f_sim A 1 1 d (f_form A n d) := f_binS (f_binS h1 (by omega) (by omega) (by omega)) (by omega) (by omega) (by omega)
theorem f_oneS {n : Nat} : ∀ d, d ≤ 7 → f_sim A 4 3 d (f_one A n d) := by
  intro d
  induction d with
  | zero =>
    intro _ τ c u r h hk hu O hO hn out
    unfold f_one at h
    by_cases q : f_k τ = 272
    · rw [if_pos q] at h
      cases h
      refine ⟨1, ?_⟩
      rw [f_oNotX (n := 0) q (f_mn_tp hO) (by omega)]
      exact f_wr2 hk
    · rw [if_neg q] at h
      exact f_relS (f_sumS (by omega) (Or.inl rfl)) h hk q hu hO
  | succ d ih =>
    intro hd τ c u r h hk hu O hO hn out
    have ih2 := ih (by omega)
    unfold f_one at h
    by_cases q : f_k τ = 272
    · rw [if_pos q] at h
      have e1 : ∀ n, f_op A (n + 1) true τ O out u (7 - (d + 1)) = f_op A n true (A τ) (272 :: O) out u (7 - d) := fun n => by
        rw [f_oNot q (f_mn_tp hO) (by omega), show 7 - (d + 1) + 1 = 7 - d by omega]
      rcases f_adC h with ⟨q2, rfl⟩ | ⟨q2, h⟩
      · exact ⟨1 + 1, by rw [e1 1, f_bad (n := 0) q2]⟩
      have hI := fun r2 (hr : f_one A n d (A τ) c u = some r2) => ih2 _ _ _ r2 hr q2 hu (272 :: O) (f_tp_cons (Or.inr (by decide))) (fun q3 => by omega) out
      rcases f_bdC h with ⟨f, h0, rfl⟩ | ⟨τ1, c1, u1, h0, h2⟩
      · obtain ⟨k, hk2⟩ := hI _ h0
        exact ⟨k + 1, by rw [e1 k]; exact hk2⟩
      cases h2
      obtain ⟨a1, a2, pe, o2, e, k, b1, b2, b3, b4, b5⟩ := hI _ h0
      refine ⟨a1, a2, pe ++ [272], o2, e ++ [10272], k + 1, f_ge_app b1 (f_ge_one (by omega) (by decide)), by rw [b2]; simp [List.append_assoc], ?_, fun q3 => ?_, fun m => ?_⟩
      · rw [f_em_app, ← List.append_assoc, b3]
        show (out ++ e) ++ [(10000 + (272 : Nat) : Int)] = _
        simp [List.append_assoc]
      · rw [List.append_assoc]
        exact b4 q3
      · rw [← Nat.add_assoc, e1, b5 m, f_ns_app, List.append_assoc]
        show _ = f_op A m false τ1 (pe ++ ([272] ++ O)) o2 u1 (7 - (d + 1) + (f_ns pe + 1))
        rw [show 7 - (d + 1) + (f_ns pe + 1) = 7 - d + f_ns pe by omega]
        rfl
    · rw [if_neg q] at h
      exact f_relS (f_sumS hd (Or.inr (f_formS ih2))) h hk q hu hO
/-- a formula, and what must be behind it -/
def f_fin (r : f_R) : f_R := match r with
  | .inl f => .inl f
  | .inr (τ2, c, u) => if f_k τ2 = 59 then .inr (τ2, c, u) else .inl (2, f_st τ2)
theorem f_top {n : Nat} {τ : f_T} {r : f_R} (h : f_form A n 7 τ [] 0 = some r) (hk : f_k τ ≠ 276) : ∃ k, f_op A k true τ [] [] 0 0 = some (f_fin r) := by
  have key := f_formS (A := A) (n := n) (f_oneS 7 (Nat.le_refl 7)) τ [] 0 r h hk (Nat.zero_le _) [] (fun x O2 e => by cases e) (fun q => by omega) []
  rcases r with f | ⟨τ2, c, u⟩
  · exact key
  · obtain ⟨a1, a2, pe, o2, e, k, b1, b2, b3, b4, b5⟩ := key
    refine ⟨1 + k, ?_⟩
    have hb : f_hb (pe ++ []) = false := f_hb_app pe b1
    rw [b5 1, f_sEnd (n := 0) (fun q => by rw [hb] at q; exact absurd q.2 Bool.false_ne_true) (fun q => ?_) hb]
    · have ecl : f_cl 0 (pe ++ []) = (f_em pe, [], f_ns pe) := by
        rw [f_cl_app pe (f_ge_le b1 (Nat.zero_le 1))]
        show (f_em pe ++ [], [], 0 + f_ns pe) = _
        rw [List.append_nil, Nat.zero_add]
      rw [ecl]
      show (if f_k τ2 = 59 then some (.inr (τ2, o2 ++ f_em pe, u)) else f_wr τ2) = _
      rw [b3, ← b2, f_wr2 a1]
      show _ = some ((if f_k τ2 = 59 then .inr (τ2, c, u) else .inl (2, f_st τ2)) : f_R)
      split <;> rfl
    · rcases b4 q.1 with q2 | q2
      · exact q.1.1 (by omega)
      · exact q.2 q2
end FS
