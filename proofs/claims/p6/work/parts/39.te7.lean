/-! A FORMULA'S PROGRAM, as told, is sound: how high the row of values stands -/
section FV
def fSt (x : Int) : Prop := (-6 ≤ x ∧ x < 10000) ∨ ∃ k : Nat, f_ti k ≠ 0 ∧ x = (10000 + k : Int)
def fH : List Int → Nat → Option Nat
  | [], h => some h
  | x :: c, h => if x < 10000 then fH c (h + 1) else if x = 10272 then (if 0 < h then fH c h else none) else (if 1 < h then fH c (h - 1) else none)
def fN : List Int → Nat
  | [] => 0
  | x :: c => fN c + (if x < 10000 then 1 else 0)
theorem fH_cons {x : Int} {c : List Int} {h : Nat} : fH (x :: c) h = if x < 10000 then fH c (h + 1) else if x = 10272 then (if 0 < h then fH c h else none) else (if 1 < h then fH c (h - 1) else none) := rfl
theorem fN_cons {x : Int} {c : List Int} : fN (x :: c) = fN c + (if x < 10000 then 1 else 0) := rfl
theorem fH_app : ∀ (c e : List Int) (h : Nat), fH (c ++ e) h = (fH c h).bind (fH e)
  | [], _, _ => rfl
  | x :: c, e, h => by
    show fH (x :: (c ++ e)) h = _
    rw [fH_cons, fH_cons]
    by_cases a : x < 10000
    · rw [if_pos a, if_pos a]
      exact fH_app c e (h + 1)
    · rw [if_neg a, if_neg a]
      by_cases b : x = 10272
      · rw [if_pos b, if_pos b]
        by_cases g : 0 < h
        · rw [if_pos g, if_pos g]
          exact fH_app c e h
        · rw [if_neg g, if_neg g]
          rfl
      · rw [if_neg b, if_neg b]
        by_cases g : 1 < h
        · rw [if_pos g, if_pos g]
          exact fH_app c e (h - 1)
        · rw [if_neg g, if_neg g]
          rfl
theorem fN_app : ∀ (c e : List Int), fN (c ++ e) = fN c + fN e
  | [], e => by
    show fN e = 0 + fN e
    omega
  | x :: c, e => by
    show fN (x :: (c ++ e)) = _
    rw [fN_cons, fN_cons, fN_app c e]
    omega
theorem o_bind {α β : Type} (x : α) (f : α → Option β) : (some x).bind f = f x := rfl
theorem fN_op (k : Nat) : fN [(10000 + k : Int)] = 0 := by
  rw [fN_cons, if_neg (by omega)]
  rfl
theorem fH_op {k h : Nat} (hk : k ≠ 272) : fH [(10000 + k : Int)] (h + 1 + 1) = some (h + 1) := by
  rw [fH_cons, if_neg (by omega), if_neg (by omega), if_pos (by omega), show h + 1 + 1 - 1 = h + 1 by omega]
  rfl
variable {A : f_T → f_T} {P : f_T → Prop}
def fW (u : Nat) (e : List Int) (u2 : Nat) : Prop := u ≤ u2 ∧ (u ≤ 30 → u2 ≤ 30) ∧ u + fN e ≤ u2 ∧ ∀ x ∈ e, fSt x
def fGd (P : f_T → Prop) (X : f_X) : Prop := ∀ τ c u τ2 c2 u2, P τ → X τ c u = some (.inr (τ2, c2, u2)) → P τ2 ∧ ∃ e, c2 = c ++ e ∧ fW u e u2 ∧ ∀ h, fH e h = some (h + 1)
def fGl (P : f_T → Prop) (X : f_X) : Prop := ∀ τ c u τ2 c2 u2, P τ → X τ c u = some (.inr (τ2, c2, u2)) → P τ2 ∧ ∃ e, c2 = c ++ e ∧ fW u e u2 ∧ ∀ h, fH e (h + 1) = some (h + 1)
theorem fW_app {u v w : Nat} {e f : List Int} (h : fW u e v) (h2 : fW v f w) : fW u (e ++ f) w := by
  obtain ⟨a1, a2, a3, a4⟩ := h
  obtain ⟨b1, b2, b3, b4⟩ := h2
  refine ⟨by omega, fun q => b2 (a2 q), ?_, fun x hx => ?_⟩
  · rw [fN_app]
    omega
  · rcases List.mem_append.mp hx with q | q
    · exact a4 x q
    · exact b4 x q
theorem fW_op {u k : Nat} (h : f_ti k ≠ 0) : fW u [(10000 + k : Int)] u := by
  refine ⟨Nat.le_refl _, fun q => q, ?_, fun x hx => ?_⟩
  · rw [fN_op]
    omega
  · rcases List.mem_singleton.mp hx with rfl
    exact Or.inr ⟨k, h, rfl⟩
theorem f_bd_r {r : Option f_R} {g : f_X} {x : f_T × List Int × Nat} (h : f_bd r g = some (.inr x)) : ∃ τ c u, r = some (.inr (τ, c, u)) ∧ g τ c u = some (.inr x) := by
  cases r with
  | none => cases h
  | some r =>
    cases r with
    | inl f =>
      have h : (some (Sum.inl f) : Option f_R) = some (.inr x) := h
      injection h with h
      injection h
    | inr p =>
      obtain ⟨τ, c, u⟩ := p
      exact ⟨τ, c, u, rfl, h⟩
theorem f_ad_r {τ τ2 : f_T} {c c2 : List Int} {u u2 : Nat} (h : f_ad A τ c u = some (.inr (τ2, c2, u2))) : τ2 = A τ ∧ c2 = c ∧ u2 = u := by
  unfold f_ad at h
  split at h
  · injection h with h
    injection h
  · injection h with h
    injection h with h
    injection h with h1 h
    injection h with h2 h3
    exact ⟨h1.symm, h2.symm, h3.symm⟩
theorem f_no_r {τ : f_T} {x : f_T × List Int × Nat} (h : f_no τ = some (.inr x)) : False := by
  unfold f_no at h
  injection h with h
  injection h
theorem f_some_r {τ τ2 : f_T} {c c2 : List Int} {u u2 : Nat} (h : (some (.inr (τ, c, u)) : Option f_R) = some (.inr (τ2, c2, u2))) : τ2 = τ ∧ c2 = c ∧ u2 = u := by
  injection h with h
  injection h with h
  injection h with h1 h
  injection h with h2 h3
  exact ⟨h1.symm, h2.symm, h3.symm⟩
theorem fGd_unit (hA : ∀ τ, P τ → P (A τ)) (hP : ∀ τ, P τ → τ.2.2.1 < 10000) {F : f_X} {d : Nat} (hF : fGd P F) : fGd P (f_unit A F d) := by
  intro τ c u τ2 c2 u2 hp h
  unfold f_unit at h
  by_cases a : f_k τ = 40
  · rw [if_pos a] at h
    by_cases b : 30 ≤ u ∨ d = 0
    · rw [if_pos b] at h
      exact (f_no_r h).elim
    · rw [if_neg b] at h
      obtain ⟨τ3, c3, u3, h1, h⟩ := f_bd_r h
      obtain ⟨e31, e32, e33⟩ := f_ad_r h1
      rw [e31, e32, e33] at h
      obtain ⟨τ4, c4, u4, h2, h⟩ := f_bd_r h
      obtain ⟨p4, e, e1, ⟨w1, w2, w3, w4⟩, e3⟩ := hF _ _ _ _ _ _ (hA _ hp) h2
      have h : (if f_k τ4 = 41 then f_ad A τ4 c4 u4 else f_no τ4) = some (.inr (τ2, c2, u2)) := h
      by_cases g : f_k τ4 = 41
      · rw [if_pos g] at h
        obtain ⟨q1, q2, q3⟩ := f_ad_r h
        rw [q1, q2, q3]
        exact ⟨hA _ p4, e, e1, ⟨by omega, fun q => w2 (by omega), by omega, w4⟩, e3⟩
      · rw [if_neg g] at h
        exact (f_no_r h).elim
  · rw [if_neg a] at h
    by_cases b : f_kn (f_k τ) ∧ u < 30
    · rw [if_pos b] at h
      obtain ⟨q1, q2, q3⟩ := f_ad_r h
      have hv : -6 ≤ f_val τ ∧ f_val τ < 10000 := by
        unfold f_val
        have hp2 := hP τ hp
        obtain ⟨b1, b2⟩ := b
        by_cases z : f_k τ = 274
        · rw [if_pos z]
          omega
        · rw [if_neg z]
          have : 262 ≤ f_k τ ∧ f_k τ ≤ 267 := by
            rcases b1 with q | q
            · exact absurd q z
            · exact q
          omega
      rw [q1, q2, q3]
      refine ⟨hA _ hp, [f_val τ], rfl, ⟨by omega, fun _ => by omega, ?_, fun x hx => ?_⟩, fun h => ?_⟩
      · rw [fN_cons, if_pos hv.2]
        show u + (0 + 1) ≤ u + 1
        omega
      · rcases List.mem_singleton.mp hx with rfl
        exact Or.inl hv
      · rw [fH_cons, if_pos hv.2]
        rfl
    · rw [if_neg b] at h
      exact (f_no_r h).elim
theorem fGl_lp (hA : ∀ τ, P τ → P (A τ)) {X : f_X} {m : Nat} (h0 : m ≠ 0) (h3 : m ≠ 3) (hX : fGd P X) : ∀ n, fGl P (f_lp A m X n)
  | 0 => fun τ c u τ2 c2 u2 hp h => by
    have h : (none : Option f_R) = some (.inr (τ2, c2, u2)) := h
    cases h
  | n + 1 => by
    intro τ c u τ2 c2 u2 hp h
    have h : (if f_ti (f_k τ) = m then f_bd (f_ad A τ c u) fun τ1 c u => f_bd (X τ1 c u) fun τ2 c u => f_lp A m X n τ2 (c ++ [(10000 + f_k τ : Int)]) u else some (.inr (τ, c, u))) = some (.inr (τ2, c2, u2)) := h
    by_cases a : f_ti (f_k τ) = m
    · rw [if_pos a] at h
      obtain ⟨τ3, c3, u3, h1, h⟩ := f_bd_r h
      obtain ⟨e31, e32, e33⟩ := f_ad_r h1
      rw [e31, e32, e33] at h
      obtain ⟨τ4, c4, u4, h2, h⟩ := f_bd_r h
      obtain ⟨p4, e, e1, w, e3⟩ := hX _ _ _ _ _ _ (hA _ hp) h2
      obtain ⟨p5, f, g1, v, g3⟩ := fGl_lp hA h0 h3 hX n _ _ _ _ _ _ p4 h
      have hk : f_k τ ≠ 272 := fun q => by
        rw [q] at a
        exact h3 a.symm
      refine ⟨p5, e ++ [(10000 + f_k τ : Int)] ++ f, by rw [g1, e1]; simp only [List.append_assoc], fW_app (fW_app w (fW_op (by rw [a]; exact h0))) v, fun h => ?_⟩
      rw [fH_app, fH_app, e3, o_bind, fH_op hk, o_bind]
      exact g3 h
    · rw [if_neg a] at h
      obtain ⟨q1, q2, q3⟩ := f_some_r h
      rw [q1, q2, q3]
      exact ⟨hp, [], (List.append_nil c).symm, ⟨Nat.le_refl _, fun q => q, Nat.le_refl _, fun x hx => by cases hx⟩, fun h => rfl⟩
theorem fGd_bin (hA : ∀ τ, P τ → P (A τ)) {X : f_X} {m n : Nat} (h0 : m ≠ 0) (h3 : m ≠ 3) (hX : fGd P X) : fGd P (f_bin A m X n) := by
  intro τ c u τ2 c2 u2 hp h
  have h : f_bd (X τ c u) (f_lp A m X n) = some (.inr (τ2, c2, u2)) := h
  obtain ⟨τ3, c3, u3, h1, h⟩ := f_bd_r h
  obtain ⟨p4, e, e1, w, e3⟩ := hX _ _ _ _ _ _ hp h1
  obtain ⟨p5, f, g1, v, g3⟩ := fGl_lp hA h0 h3 hX n _ _ _ _ _ _ p4 h
  refine ⟨p5, e ++ f, by rw [g1, e1, List.append_assoc], fW_app w v, fun h => ?_⟩
  rw [fH_app, e3, o_bind]
  exact g3 h
theorem fGd_sum (hA : ∀ τ, P τ → P (A τ)) (hP : ∀ τ, P τ → τ.2.2.1 < 10000) {F : f_X} {d n : Nat} (hF : fGd P F) : fGd P (f_sum A F d n) := fGd_bin hA (by omega) (by omega) (fGd_bin hA (by omega) (by omega) (fGd_unit hA hP hF))
theorem fGd_rel (hA : ∀ τ, P τ → P (A τ)) {S : f_X} (hS : fGd P S) : fGd P (f_rel A S) := by
  intro τ c u τ2 c2 u2 hp h
  unfold f_rel at h
  obtain ⟨τ3, c3, u3, h1, h⟩ := f_bd_r h
  obtain ⟨p4, e, e1, w, e3⟩ := hS _ _ _ _ _ _ hp h1
  have h : (if f_ti (f_k τ3) = 4 then f_bd (f_ad A τ3 c3 u3) fun τ1 c u => f_bd (S τ1 c u) fun τ2 c u => some (.inr (τ2, c ++ [(10000 + f_k τ3 : Int)], u)) else some (.inr (τ3, c3, u3))) = some (.inr (τ2, c2, u2)) := h
  by_cases a : f_ti (f_k τ3) = 4
  · rw [if_pos a] at h
    obtain ⟨τ5, c5, u5, h5, h⟩ := f_bd_r h
    obtain ⟨e51, e52, e53⟩ := f_ad_r h5
    rw [e51, e52, e53] at h
    obtain ⟨τ6, c6, u6, h6, h⟩ := f_bd_r h
    obtain ⟨p6, f, g1, v, g3⟩ := hS _ _ _ _ _ _ (hA _ p4) h6
    obtain ⟨q1, q2, q3⟩ := f_some_r h
    rw [q1, q2, q3]
    have hk : f_k τ3 ≠ 272 := fun q => by
      rw [q] at a
      have : (3 : Nat) = 4 := a
      omega
    refine ⟨p6, e ++ f ++ [(10000 + f_k τ3 : Int)], by rw [g1, e1]; simp only [List.append_assoc], fW_app (fW_app w v) (fW_op (by rw [a]; omega)), fun h => ?_⟩
    rw [fH_app, fH_app, e3, o_bind, g3, o_bind]
    exact fH_op hk
  · rw [if_neg a] at h
    obtain ⟨q1, q2, q3⟩ := f_some_r h
    rw [q1, q2, q3]
    exact ⟨p4, e, e1, w, e3⟩
theorem fGd_one (hA : ∀ τ, P τ → P (A τ)) (hP : ∀ τ, P τ → τ.2.2.1 < 10000) {n : Nat} : ∀ d, fGd P (f_one A n d)
  | 0 => by
    intro τ c u τ2 c2 u2 hp h
    have h : (if f_k τ = 272 then f_no τ else f_rel A (f_sum A (fun _ _ _ => none) 0 n) τ c u) = some (.inr (τ2, c2, u2)) := h
    by_cases a : f_k τ = 272
    · rw [if_pos a] at h
      exact (f_no_r h).elim
    · rw [if_neg a] at h
      exact fGd_rel hA (fGd_sum hA hP (F := fun _ _ _ => none) (fun τ c u τ2 c2 u2 hp h => by cases h)) _ _ _ _ _ _ hp h
  | d + 1 => by
    intro τ c u τ2 c2 u2 hp h
    have h : (if f_k τ = 272 then f_bd (f_ad A τ c u) fun τ c u => f_bd (f_one A n d τ c u) fun τ c u => some (.inr (τ, c ++ [10272], u)) else f_rel A (f_sum A (f_bin A 1 (f_bin A 2 (f_one A n d) n) n) (d + 1) n) τ c u) = some (.inr (τ2, c2, u2)) := h
    by_cases a : f_k τ = 272
    · rw [if_pos a] at h
      obtain ⟨τ3, c3, u3, h1, h⟩ := f_bd_r h
      obtain ⟨e31, e32, e33⟩ := f_ad_r h1
      rw [e31, e32, e33] at h
      obtain ⟨τ4, c4, u4, h2, h⟩ := f_bd_r h
      obtain ⟨p4, e, e1, w, e3⟩ := fGd_one hA hP d _ _ _ _ _ _ (hA _ hp) h2
      obtain ⟨q1, q2, q3⟩ := f_some_r h
      rw [q1, q2, q3]
      refine ⟨p4, e ++ [10272], by rw [e1, List.append_assoc], fW_app w (fW_op (k := 272) (by decide)), fun h => ?_⟩
      rw [fH_app, e3, o_bind]
      rw [fH_cons, if_neg (by omega), if_pos rfl, if_pos (by omega)]
      rfl
    · rw [if_neg a] at h
      exact fGd_rel hA (fGd_sum hA hP (fGd_bin hA (by omega) (by omega) (fGd_bin hA (by omega) (by omega) (fGd_one hA hP d)))) _ _ _ _ _ _ hp h
/-- a program as told: no more than 30 values, each step one of those that there are -/
def fV (c : List Int) (w : Nat) : Prop := w ≤ 30 ∧ fN c ≤ w ∧ (∀ h, fH c h = some (h + 1)) ∧ ∀ x ∈ c, fSt x
theorem fV_form (hA : ∀ τ, P τ → P (A τ)) (hP : ∀ τ, P τ → τ.2.2.1 < 10000) {n d w : Nat} {τ τ2 : f_T} {c : List Int} (hp : P τ) (h : f_form A n d τ [] 0 = some (.inr (τ2, c, w))) : fV c w := by
  have g : fGd P (f_form A n d) := fGd_bin hA (by omega) (by omega) (fGd_bin hA (by omega) (by omega) (fGd_one hA hP d))
  obtain ⟨-, e, e1, ⟨w1, w2, w3, w4⟩, e3⟩ := g _ _ _ _ _ _ hp h
  have e1 : c = e := e1
  subst e1
  exact ⟨w2 (by omega), by omega, e3, w4⟩
end FV
