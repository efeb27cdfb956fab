/-! THE SAME RUNS, QUICK TO REDUCE: maps in sixteen buckets for heap and cells; a table's entries are what is done there; what goes on is a function -/
noncomputable def q_hget {α : Type} (h : List α) : Nat → Option α :=
  List.rec (motive := fun _ => Nat → Option α) (fun _ => none) (fun x _ ih o => Nat.rec (motive := fun _ => Option α) (some x) (fun n _ => ih n) o) h
noncomputable def q_fat {α : Type} (u : List (Nat × α)) : Nat → Option α :=
  List.rec (motive := fun _ => Nat → Option α) (fun _ => none) (fun q _ ih k => Bool.rec (motive := fun _ => Option α) (ih k) (some q.2) (Nat.beq q.1 k)) u
noncomputable def q_mod {α : Type} (m : List α) : Nat → (α → α) → List α :=
  List.rec (motive := fun _ => Nat → (α → α) → List α) (fun _ _ => []) (fun x xs ih o g => Nat.rec (motive := fun _ => List α) (g x :: xs) (fun n _ => x :: ih n g) o) m
noncomputable def q_rp {α : Type} (k : Nat) (v : α) (b : List (Nat × α)) : List (Nat × α) :=
  List.rec (motive := fun _ => List (Nat × α)) [(k, v)] (fun q r ih => Bool.rec (motive := fun _ => List (Nat × α)) (q :: ih) ((k, v) :: r) (Nat.beq q.1 k)) b
abbrev q_Mp (α : Type) : Type := List (List (Nat × α))
def q_m0 {α : Type} : q_Mp α := [[], [], [], [], [], [], [], [], [], [], [], [], [], [], [], []]
noncomputable def q_mg {α : Type} (m : q_Mp α) (k : Nat) : Option α := match q_hget m (k % 16) with
  | some b => q_fat b k
  | none => none
noncomputable def q_ms {α : Type} (m : q_Mp α) (k : Nat) (v : α) : q_Mp α := q_mod m (k % 16) (q_rp k v)
theorem q_hget_eq {α : Type} : ∀ (h : List α) (o : Nat), q_hget h o = h[o]?
  | [], _ => rfl
  | _ :: _, 0 => rfl
  | x :: xs, o + 1 => by
    show q_hget xs o = _
    rw [q_hget_eq xs o, List.getElem?_cons_succ]
theorem q_fat_cons {α : Type} (q : Nat × α) (u : List (Nat × α)) (k : Nat) : q_fat (q :: u) k = bif Nat.beq q.1 k then some q.2 else q_fat u k := by
  show (Bool.rec (motive := fun _ => Option α) (q_fat u k) (some q.2) (Nat.beq q.1 k)) = _
  cases Nat.beq q.1 k <;> rfl
theorem q_fat_eq {α : Type} : ∀ (u : List (Nat × α)) (k : Nat), q_fat u k = q_at u k
  | [], _ => rfl
  | q :: u, k => by
    rw [q_fat_cons, q_fat_eq u k]
    rfl
theorem q_mod_len {α : Type} : ∀ (m : List α) (i : Nat) (g : α → α), (q_mod m i g).length = m.length
  | [], _, _ => rfl
  | _ :: _, 0, _ => rfl
  | x :: xs, i + 1, g => by
    show (x :: q_mod xs i g).length = _
    rw [List.length_cons, q_mod_len xs i g, List.length_cons]
theorem q_mod_get {α : Type} : ∀ (m : List α) (i : Nat) (g : α → α) (j : Nat), q_hget (q_mod m i g) j = if i = j then (q_hget m j).map g else q_hget m j
  | [], i, g, j => by
    show none = _
    split <;> rfl
  | x :: xs, 0, g, 0 => rfl
  | x :: xs, 0, g, j + 1 => by
    rw [if_neg (by omega)]
    rfl
  | x :: xs, i + 1, g, 0 => by
    rw [if_neg (by omega)]
    rfl
  | x :: xs, i + 1, g, j + 1 => by
    show q_hget (q_mod xs i g) j = if i + 1 = j + 1 then (q_hget xs j).map g else q_hget xs j
    rw [q_mod_get xs i g j]
    by_cases h : i = j
    · rw [if_pos h, if_pos (by omega)]
    · rw [if_neg h, if_neg (by omega)]
theorem q_rp_cons {α : Type} (k : Nat) (v : α) (q : Nat × α) (b : List (Nat × α)) : q_rp k v (q :: b) = bif Nat.beq q.1 k then (k, v) :: b else q :: q_rp k v b := by
  show (Bool.rec (motive := fun _ => List (Nat × α)) (q :: q_rp k v b) ((k, v) :: b) (Nat.beq q.1 k)) = _
  cases Nat.beq q.1 k <;> rfl
theorem q_beq_self (k : Nat) : Nat.beq k k = true := by
  cases h : Nat.beq k k with
  | true => rfl
  | false => exact absurd rfl (Nat.ne_of_beq_eq_false h)
theorem q_beq_ne {a b : Nat} (h : a ≠ b) : Nat.beq a b = false := by
  cases hb : Nat.beq a b with
  | true => exact absurd (Nat.eq_of_beq_eq_true hb) h
  | false => rfl
theorem q_rp_get {α : Type} (k : Nat) (v : α) (k' : Nat) : ∀ (b : List (Nat × α)), q_fat (q_rp k v b) k' = if k = k' then some v else q_fat b k'
  | [] => by
    show q_fat [(k, v)] k' = _
    rw [q_fat_cons]
    by_cases h : k = k'
    · subst h
      rw [q_beq_self, if_pos rfl]
      rfl
    · rw [q_beq_ne h, if_neg h]
      rfl
  | q :: b => by
    rw [q_rp_cons]
    cases hq : Nat.beq q.1 k with
    | true =>
      have e := q_beq hq
      rw [cond_true, q_fat_cons]
      by_cases h : k = k'
      · subst h
        rw [if_pos rfl, q_beq_self]
        rfl
      · rw [if_neg h, q_beq_ne h, cond_false, q_fat_cons, e, q_beq_ne h]
        rfl
    | false =>
      rw [cond_false, q_fat_cons, q_rp_get k v k' b, q_fat_cons]
      by_cases h : k = k'
      · subst h
        rw [if_pos rfl, if_pos rfl, hq]
        rfl
      · rw [if_neg h, if_neg h]
theorem q_ms_len {α : Type} (m : q_Mp α) (k : Nat) (v : α) : (q_ms m k v).length = m.length := q_mod_len _ _ _
theorem q_ms_get {α : Type} {m : q_Mp α} (hm : m.length = 16) (k : Nat) (v : α) (k' : Nat) : q_mg (q_ms m k v) k' = if k = k' then some v else q_mg m k' := by
  unfold q_mg q_ms
  rw [q_mod_get]
  by_cases h : k % 16 = k' % 16
  · rw [if_pos h]
    have hlt : k' % 16 < m.length := by rw [hm]; exact Nat.mod_lt _ (by decide)
    rw [q_hget_eq, List.getElem?_eq_getElem hlt]
    show q_fat (q_rp k v _) k' = _
    rw [q_rp_get]
  · rw [if_neg h, if_neg (fun e => h (by rw [e]))]
theorem q_m0_get {α : Type} (k : Nat) : q_mg (q_m0 (α := α)) k = none := by
  unfold q_mg
  rw [q_hget_eq]
  cases hb : (q_m0 (α := α))[k % 16]? with
  | none => rfl
  | some b =>
    have h1 := List.mem_of_getElem? hb
    simp only [q_m0, List.mem_cons, List.not_mem_nil, or_false, or_self] at h1
    subst h1
    rfl
abbrev q_Cf (I : Type) : Type := Nat × Nat × q_Mp (q_V I)
abbrev q_Hf (I : Type) : Type := Nat × q_Mp (q_Cf I)
abbrev q_Rf (I : Type) : Type := Option (q_V I) × q_Hf I × Nat
abbrev q_Kf (I P : Type) : Type := Nat → q_U I → List (q_V I) → q_Hf I → Nat → Option P
abbrev q_Lf (I : Type) : Type := Nat → List (q_V I) → q_Hf I → Nat → Option (q_Rf I)
abbrev q_Y (I P : Type) : Type := q_O I → Option (List I) → q_Lf I → (q_Rf I → Option P) → q_Kf I P → Nat → q_U I → List (q_V I) → q_Hf I → Nat → Option P
/-- the same cell, the same heap -/
def q_rc {I : Type} (c : q_Cf I) (q : q_C I) : Prop := c.1 = q.1 ∧ c.2.1 = q.2.1 ∧ c.2.2.length = 16 ∧ ∀ k, q_mg c.2.2 k = q_at q.2.2 k
def q_rh {I : Type} (F : q_Hf I) (h : q_H I) : Prop := F.1 = h.length ∧ F.2.length = 16 ∧ ∀ o c, q_mg F.2 o = some c → ∃ q, h[o]? = some q ∧ q_rc c q
theorem q_rh_set {I : Type} {F : q_Hf I} {h : q_H I} (H : q_rh F h) {o : Nat} {q0 : q_C I} (ho : h[o]? = some q0) {c : q_Cf I} {q : q_C I} (hc : q_rc c q) : q_rh (F.1, q_ms F.2 o c) (h.set o q) := by
  obtain ⟨h1, h2, h3⟩ := H
  refine ⟨by rw [List.length_set]; exact h1, by rw [q_ms_len]; exact h2, fun o' c' hg => ?_⟩
  have hlt : o < h.length := (List.getElem?_eq_some_iff.mp ho).1
  replace hg : q_mg (q_ms F.2 o c) o' = some c' := hg
  rw [q_ms_get h2] at hg
  by_cases e : o = o'
  · subst e
    rw [if_pos rfl] at hg
    cases hg
    exact ⟨q, by rw [List.getElem?_set_self hlt], hc⟩
  · rw [if_neg e] at hg
    rw [List.getElem?_set_ne e]
    exact h3 o' c' hg
theorem q_rh_app {I : Type} {F : q_Hf I} {h : q_H I} (H : q_rh F h) {c : q_Cf I} {q : q_C I} (hc : q_rc c q) : q_rh (F.1 + 1, q_ms F.2 F.1 c) (h ++ [q]) := by
  obtain ⟨h1, h2, h3⟩ := H
  refine ⟨by rw [List.length_append, ← h1]; rfl, by rw [q_ms_len]; exact h2, fun o' c' hg => ?_⟩
  replace hg : q_mg (q_ms F.2 F.1 c) o' = some c' := hg
  rw [q_ms_get h2] at hg
  by_cases e : F.1 = o'
  · subst e
    rw [if_pos rfl] at hg
    cases hg
    exact ⟨q, by rw [h1, List.getElem?_append_right (Nat.le_refl _), Nat.sub_self]; rfl, hc⟩
  · rw [if_neg e] at hg
    obtain ⟨q', hq', hc'⟩ := h3 o' c' hg
    exact ⟨q', by rw [List.getElem?_append_left (List.getElem?_eq_some_iff.mp hq').1]; exact hq', hc'⟩
theorem q_rc_put {I : Type} {c : q_Cf I} {q : q_C I} (hc : q_rc c q) (k : Nat) (v : q_V I) : q_rc (c.1, c.2.1, q_ms c.2.2 k v) (q.1, q.2.1, (k, v) :: q.2.2) := by
  obtain ⟨h1, h2, h3, h4⟩ := hc
  refine ⟨h1, h2, by show (q_ms c.2.2 k v).length = 16; rw [q_ms_len]; exact h3, fun k' => ?_⟩
  show q_mg (q_ms c.2.2 k v) k' = q_at ((k, v) :: q.2.2) k'
  rw [q_ms_get h3, q_at_cons, h4 k']
