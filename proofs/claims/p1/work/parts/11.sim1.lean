/-! RUNS OVER OTHER INTS: where the ints of a run are names that d tells, and the operations keep to it, the told run is one of the machine's ints -/
def q_mV {A : Type} (d : A → Int32) : q_V A → q_V Int32
  | .inl a => .inl (d a)
  | .inr x => .inr x
def q_mU {A : Type} (d : A → Int32) (u : q_U A) : q_U Int32 := u.map (fun q => (q.1, q_mV d q.2))
def q_mC {A : Type} (d : A → Int32) (c : q_C A) : q_C Int32 := (c.1, c.2.1, q_mU d c.2.2)
def q_mH {A : Type} (d : A → Int32) (h : q_H A) : q_H Int32 := h.map (q_mC d)
def q_mL {A : Type} (d : A → Int32) (st : List (q_V A)) : List (q_V Int32) := st.map (q_mV d)
def q_mF {A : Type} (d : A → Int32) (f : q_F A) : q_F Int32 := (f.1, q_mU d f.2.1, q_mL d f.2.2)
def q_mS {A : Type} (d : A → Int32) (s : q_S A) : q_S Int32 := (q_mF d s.1, q_mH d s.2.1, s.2.2)
def q_mR {A : Type} (d : A → Int32) (r : q_R A) : q_R Int32 := (r.1.map (q_mV d), q_mH d r.2.1, r.2.2)
def q_mX {A : Type} (d : A → Int32) : q_S A ⊕ q_R A → q_S Int32 ⊕ q_R Int32
  | .inl s => .inl (q_mS d s)
  | .inr r => .inr (q_mR d r)
/-- the operations keep to what d tells -/
def q_Hm {A : Type} (O : q_O A) (d : A → Int32) : Prop :=
  (∀ c, d (O.1 c) = c) ∧ (∀ j a b z, O.2.1 j a b = some z → q_o2 j (d a) (d b) = some (d z)) ∧ (∀ j a z, O.2.2.1 j a = some z → q_o1 j (d a) = some (d z)) ∧ (∀ j a b t, O.2.2.2.1 j a b = some t → q_cm j (d a) (d b) = some t) ∧ (∀ a j, O.2.2.2.2.1 a = some j → q_ix (d a) = some j) ∧ (∀ a, O.2.2.2.2.2.1 a = true → q_ib (d a) = true) ∧ (∀ a v, O.2.2.2.2.2.2.1 a = some v → v = (d a).toInt) ∧ (∀ a v, O.2.2.2.2.2.2.2 a = some v → v = (d a).toInt64)
section SIM
variable {A : Type} {d : A → Int32} {O : q_O A}
theorem q_m_kind (v : q_V A) : q_kind (q_mV d v) = q_kind v := by
  rcases v with a | y | n
  · rfl
  · rfl
  · rcases n with _ | n <;> rfl
theorem q_m_cat (v : q_V A) : q_cat (q_mV d v) = q_cat v := by rcases v with a | y | n <;> rfl
theorem q_m_cats : ∀ st : List (q_V A), q_cats (q_mL d st) = q_cats st
  | [] => rfl
  | v :: st => by
    show q_cat (q_mV d v) + q_cats (q_mL d st) = _
    rw [q_m_cat, q_m_cats st]
    rfl
theorem q_m_at : ∀ (u : q_U A) (k : Nat), q_at (q_mU d u) k = (q_at u k).map (q_mV d)
  | [], _ => rfl
  | q :: u, k => by
    show (bif Nat.beq q.1 k then some (q_mV d q.2) else q_at (q_mU d u) k) = (bif Nat.beq q.1 k then some q.2 else q_at u k).map (q_mV d)
    rw [q_m_at u k]
    cases Nat.beq q.1 k <;> rfl
theorem q_m_filter (u : q_U A) (P : Nat × q_V A → Bool) (P' : Nat × q_V Int32 → Bool) (hP : ∀ q, P' (q.1, q_mV d q.2) = P q) : (q_mU d u).filter P' = q_mU d (u.filter P) := by
  unfold q_mU
  rw [List.filter_map]
  congr 1
  apply List.filter_congr
  intro q _
  exact hP q
theorem q_m_k1 (i : Nat) (q : Nat × q_V A) : q_keep1 i (q.1, q_mV d q.2) = q_keep1 i q := by simp only [q_keep1, q_m_cat]
theorem q_m_k2 (i : Nat) (q : Nat × q_V A) : q_keep2 i (q.1, q_mV d q.2) = q_keep2 i q := by simp only [q_keep2, q_m_cat]
theorem q_m_get (h : q_H A) (o : Nat) : (q_mH d h)[o]? = (h[o]?).map (q_mC d) := by simp [q_mH]
theorem q_m_set (h : q_H A) (o : Nat) (c : q_C A) : q_mH d (h.set o c) = (q_mH d h).set o (q_mC d c) := by simp [q_mH, List.map_set]
theorem q_m_len (h : q_H A) : (q_mH d h).length = h.length := by simp [q_mH]
theorem q_m_app (h : q_H A) (c : q_C A) : q_mH d (h ++ [c]) = q_mH d h ++ [q_mC d c] := by simp [q_mH]
theorem q_m_el (H : q_Hm O d) (q : q_C A) (i : Nat) : q_el q_O32 (q_mC d q) i = q_mV d (q_el O q i) := by
  unfold q_el
  rw [show (q_mC d q).2.2 = q_mU d q.2.2 from rfl, q_m_at, show (q_mC d q).1 = q.1 from rfl]
  cases q_at q.2.2 i with
  | some v => rfl
  | none =>
    show (bif Nat.beq q.1 103 then (.inr (.inl 0) : q_V Int32) else .inl 0) = q_mV d (bif Nat.beq q.1 103 then .inr (.inl 0) else .inl (O.1 0))
    cases Nat.beq q.1 103 with
    | true => rfl
    | false => exact congrArg Sum.inl (H.1 0).symm
theorem q_m_fit (H : q_Hm O d) {kd : Nat} {v : q_V A} (h : q_fit O kd v = true) : q_fit q_O32 kd (q_mV d v) = true := by
  rcases v with a | y | n
  · simp only [q_fit, Bool.or_eq_true, Bool.and_eq_true] at h
    show (Nat.beq kd 0 || (Nat.beq kd 1 && q_ib (d a))) = true
    rcases h with h | ⟨h1, h2⟩
    · rw [h]; rfl
    · rw [h1, H.2.2.2.2.2.1 a h2]; simp
  · exact h
  · exact h
theorem q_m_take : ∀ (n : Nat) (st acc : List (q_V A)), q_take n (q_mL d st) (q_mL d acc) = (q_take n st acc).map (fun q => (q_mL d q.1, q_mL d q.2))
  | 0, _, _ => rfl
  | n + 1, v :: st, acc => q_m_take n st (v :: acc)
  | _ + 1, [], _ => rfl
theorem q_m_args : ∀ (a : List (q_V A)) (i : Nat), q_args i (q_mL d a) = q_mU d (q_args i a)
  | [], _ => rfl
  | v :: a, i => by
    show (i, q_mV d v) :: q_args (bif Nat.beq (q_cat (q_mV d v)) 2 then i + 2 else i + 1) (q_mL d a) = (i, q_mV d v) :: q_mU d (q_args (bif Nat.beq (q_cat v) 2 then i + 2 else i + 1) a)
    rw [q_m_args a, q_m_cat]
theorem q_m_cpy (H : q_Hm O d) (q : q_C A) (sp dp : Nat) (u : q_U A) : ∀ n, q_cpy q_O32 (q_mC d q) sp dp n (q_mU d u) = q_mU d (q_cpy O q sp dp n u)
  | 0 => rfl
  | n + 1 => by
    show (dp + n, q_el q_O32 (q_mC d q) (sp + n)) :: q_cpy q_O32 (q_mC d q) sp dp n (q_mU d u) = _
    rw [q_m_cpy H q sp dp u n, q_m_el H]
    rfl
theorem q_m_df (H : q_Hm O d) (k : Nat) : q_mV d (q_df O k) = q_df q_O32 k := by
  unfold q_df
  split
  · rfl
  · rfl
  · exact congrArg Sum.inl (H.1 0)
theorem q_m_dfs (H : q_Hm O d) : ∀ (ks : List Nat) (i : Nat), q_mU d (q_dfs O i ks) = q_dfs q_O32 i ks
  | [], _ => rfl
  | k :: ks, i => by
    show (i, q_mV d (q_df O k)) :: q_mU d (q_dfs O (i + 1) ks) = _
    rw [q_m_df H, q_m_dfs H ks]
    rfl
theorem q_m_nx {n : Nat} {f : q_F A} {st : List (q_V A)} {h : q_H A} {ns : Nat} {x : q_S A ⊕ q_R A} (hs : q_nx n f st h ns = some x) : q_nx n (q_mF d f) (q_mL d st) (q_mH d h) ns = some (q_mX d x) := by
  cases hs
  rfl
theorem q_m_ld {t i len : Nat} {f : q_F A} {h : q_H A} {ns : Nat} {x : q_S A ⊕ q_R A} (hs : q_ld t i len f h ns = some x) : q_ld t i len (q_mF d f) (q_mH d h) ns = some (q_mX d x) := by
  unfold q_ld at hs ⊢
  rw [show (q_mF d f).2.1 = q_mU d f.2.1 from rfl, q_m_at]
  cases hv : q_at f.2.1 i with
  | none => rw [hv] at hs; cases hs
  | some v =>
    rw [hv] at hs
    simp only [Option.map_some, q_m_kind] at hs ⊢
    cases hb : Nat.beq (q_kind v) t with
    | false => rw [hb] at hs; cases hs
    | true =>
      rw [hb, cond_true] at hs
      rw [cond_true]
      exact q_m_nx hs
theorem q_m_st {t i len : Nat} {f : q_F A} {h : q_H A} {ns : Nat} {x : q_S A ⊕ q_R A} (hs : q_st t i len f h ns = some x) : q_st t i len (q_mF d f) (q_mH d h) ns = some (q_mX d x) := by
  obtain ⟨pc, u, st⟩ := f
  unfold q_st at hs ⊢
  rcases st with _ | ⟨v, st⟩
  · cases hs
  · show (bif Nat.beq (q_kind (q_mV d v)) t then some (.inl ((pc + len, (i, q_mV d v) :: (q_mU d u).filter (bif Nat.beq t 2 then q_keep2 i else q_keep1 i), q_mL d st), q_mH d h, ns)) else none) = some (q_mX d x)
    rw [q_m_kind]
    cases hb : Nat.beq (q_kind v) t with
    | false => simp only [hb] at hs; cases hs
    | true =>
      simp only [hb, cond_true] at hs
      cases hs
      rw [cond_true]
      cases Nat.beq t 2 with
      | true =>
        rw [cond_true, cond_true, q_m_filter u (q_keep2 i) (q_keep2 i) (q_m_k2 i)]
        rfl
      | false =>
        rw [cond_false, cond_false, q_m_filter u (q_keep1 i) (q_keep1 i) (q_m_k1 i)]
        rfl
theorem q_m_iinc (H : q_Hm O d) {i len : Nat} {n : Int} {f : q_F A} {h : q_H A} {ns : Nat} {x : q_S A ⊕ q_R A} (hs : q_iinc O i n len f h ns = some x) : q_iinc q_O32 i n len (q_mF d f) (q_mH d h) ns = some (q_mX d x) := by
  unfold q_iinc at hs ⊢
  rw [show (q_mF d f).2.1 = q_mU d f.2.1 from rfl, q_m_at]
  split at hs
  next a ha =>
    rw [ha]
    split at hs
    next y hy =>
      have h1 := H.2.1 _ _ _ _ hy
      rw [H.1] at h1
      show (match q_o2 0 (d a) (Int32.ofInt n) with
        | some y => some (.inl (((q_mF d f).1 + len, (i, .inl y) :: (q_mU d f.2.1).filter (q_keep1 i), (q_mF d f).2.2), q_mH d h, ns))
        | none => none) = some (q_mX d x)
      rw [h1]
      simp only
      cases hs
      rw [q_m_filter f.2.1 (q_keep1 i) (q_keep1 i) (q_m_k1 i)]
      rfl
    next => cases hs
  next => cases hs
theorem q_m_b2 (H : q_Hm O d) {j len : Nat} {f : q_F A} {h : q_H A} {ns : Nat} {x : q_S A ⊕ q_R A} (hs : q_b2 O j len f h ns = some x) : q_b2 q_O32 j len (q_mF d f) (q_mH d h) ns = some (q_mX d x) := by
  unfold q_b2 at hs ⊢
  split at hs
  next b a r hv =>
    rw [show (q_mF d f).2.2 = .inl (d b) :: .inl (d a) :: q_mL d r by show q_mL d f.2.2 = _; rw [hv]; rfl]
    split at hs
    next z hz =>
      have h1 : q_O32.2.1 j (d a) (d b) = some (d z) := H.2.1 _ _ _ _ hz
      simp only [h1]
      exact q_m_nx hs
    next => cases hs
  next => cases hs
theorem q_m_b1 (H : q_Hm O d) {j len : Nat} {f : q_F A} {h : q_H A} {ns : Nat} {x : q_S A ⊕ q_R A} (hs : q_b1 O j len f h ns = some x) : q_b1 q_O32 j len (q_mF d f) (q_mH d h) ns = some (q_mX d x) := by
  unfold q_b1 at hs ⊢
  split at hs
  next a r hv =>
    rw [show (q_mF d f).2.2 = .inl (d a) :: q_mL d r by show q_mL d f.2.2 = _; rw [hv]; rfl]
    split at hs
    next z hz =>
      have h1 : q_O32.2.2.1 j (d a) = some (d z) := H.2.2.1 _ _ _ hz
      simp only [h1]
      exact q_m_nx hs
    next => cases hs
  next => cases hs
theorem q_m_l2 {j len : Nat} {f : q_F A} {h : q_H A} {ns : Nat} {x : q_S A ⊕ q_R A} (hs : q_l2 j len f h ns = some x) : q_l2 j len (q_mF d f) (q_mH d h) ns = some (q_mX d x) := by
  unfold q_l2 at hs ⊢
  split at hs
  next b a r hv =>
    rw [show (q_mF d f).2.2 = .inr (.inl b) :: .inr (.inl a) :: q_mL d r by show q_mL d f.2.2 = _; rw [hv]; rfl]
    split at hs
    next z hz =>
      simp only [hz]
      exact q_m_nx hs
    next => cases hs
  next => cases hs
theorem q_m_lshl (H : q_Hm O d) {len : Nat} {f : q_F A} {h : q_H A} {ns : Nat} {x : q_S A ⊕ q_R A} (hs : q_lshl O len f h ns = some x) : q_lshl q_O32 len (q_mF d f) (q_mH d h) ns = some (q_mX d x) := by
  unfold q_lshl at hs ⊢
  split at hs
  next b a r hv =>
    rw [show (q_mF d f).2.2 = .inl (d b) :: .inr (.inl a) :: q_mL d r by show q_mL d f.2.2 = _; rw [hv]; rfl]
    split at hs
    next z hz =>
      have e := H.2.2.2.2.2.2.2 _ _ hz
      subst e
      exact q_m_nx hs
    next => cases hs
  next => cases hs
theorem q_m_i2l (H : q_Hm O d) {len : Nat} {f : q_F A} {h : q_H A} {ns : Nat} {x : q_S A ⊕ q_R A} (hs : q_i2l O len f h ns = some x) : q_i2l q_O32 len (q_mF d f) (q_mH d h) ns = some (q_mX d x) := by
  unfold q_i2l at hs ⊢
  split at hs
  next b r hv =>
    rw [show (q_mF d f).2.2 = .inl (d b) :: q_mL d r by show q_mL d f.2.2 = _; rw [hv]; rfl]
    split at hs
    next z hz =>
      have e := H.2.2.2.2.2.2.2 _ _ hz
      subst e
      exact q_m_nx hs
    next => cases hs
  next => cases hs
theorem q_m_lcmp (H : q_Hm O d) {len : Nat} {f : q_F A} {h : q_H A} {ns : Nat} {x : q_S A ⊕ q_R A} (hs : q_lcmp O len f h ns = some x) : q_lcmp q_O32 len (q_mF d f) (q_mH d h) ns = some (q_mX d x) := by
  unfold q_lcmp at hs ⊢
  split at hs
  next b a r hv =>
    rw [show (q_mF d f).2.2 = .inr (.inl b) :: .inr (.inl a) :: q_mL d r by show q_mL d f.2.2 = _; rw [hv]; rfl]
    have h1 := q_m_nx (d := d) hs
    rw [show q_mL d (.inl (O.1 (lg_cmp a b)) :: r) = .inl (lg_cmp a b) :: q_mL d r by show Sum.inl (d (O.1 _)) :: _ = _; rw [H.1]; rfl] at h1
    exact h1
  next => cases hs
theorem q_m_jmp {r : List Nat} {len : Nat} {t : Option Bool} {f : q_F A} {st : List (q_V A)} {h : q_H A} {ns : Nat} {x : q_S A ⊕ q_R A} (hs : q_jmp r len t f st h ns = some x) : q_jmp r len t (q_mF d f) (q_mL d st) (q_mH d h) ns = some (q_mX d x) := by
  unfold q_jmp at hs ⊢
  split at hs
  · cases hs; rfl
  · exact q_m_nx hs
  · cases hs
theorem q_jmp_t {r : List Nat} {len : Nat} {t : Option Bool} {f : q_F A} {st : List (q_V A)} {h : q_H A} {ns : Nat} {x : q_S A ⊕ q_R A} (hs : q_jmp r len t f st h ns = some x) : ∃ b, t = some b := by
  cases t with
  | none => cases hs
  | some b => exact ⟨b, rfl⟩
theorem q_m_if (H : q_Hm O d) {j : Nat} {r : List Nat} {len : Nat} {f : q_F A} {h : q_H A} {ns : Nat} {x : q_S A ⊕ q_R A} (hs : q_if O j r len f h ns = some x) : q_if q_O32 j r len (q_mF d f) (q_mH d h) ns = some (q_mX d x) := by
  unfold q_if at hs ⊢
  split at hs
  next a st hv =>
    rw [show (q_mF d f).2.2 = .inl (d a) :: q_mL d st by show q_mL d f.2.2 = _; rw [hv]; rfl]
    obtain ⟨b, hb⟩ := q_jmp_t hs
    have h1 := H.2.2.2.1 _ _ _ _ hb
    rw [H.1] at h1
    show q_jmp r len (q_cm j (d a) 0) (q_mF d f) (q_mL d st) (q_mH d h) ns = _
    rw [h1]
    rw [hb] at hs
    exact q_m_jmp hs
  next => cases hs
theorem q_m_ic (H : q_Hm O d) {j : Nat} {r : List Nat} {len : Nat} {f : q_F A} {h : q_H A} {ns : Nat} {x : q_S A ⊕ q_R A} (hs : q_ic O j r len f h ns = some x) : q_ic q_O32 j r len (q_mF d f) (q_mH d h) ns = some (q_mX d x) := by
  unfold q_ic at hs ⊢
  split at hs
  next b a st hv =>
    rw [show (q_mF d f).2.2 = .inl (d b) :: .inl (d a) :: q_mL d st by show q_mL d f.2.2 = _; rw [hv]; rfl]
    obtain ⟨t, ht⟩ := q_jmp_t hs
    have h1 := H.2.2.2.1 _ _ _ _ ht
    show q_jmp r len (q_cm j (d a) (d b)) (q_mF d f) (q_mL d st) (q_mH d h) ns = _
    rw [h1]
    rw [ht] at hs
    exact q_m_jmp hs
  next => cases hs
theorem q_m_tsw (H : q_Hm O d) {lo hi : Int} {r : List Nat} {f : q_F A} {h : q_H A} {ns : Nat} {x : q_S A ⊕ q_R A} (hs : q_tsw O lo hi r f h ns = some x) : q_tsw q_O32 lo hi r (q_mF d f) (q_mH d h) ns = some (q_mX d x) := by
  unfold q_tsw at hs ⊢
  split at hs
  next a st hv =>
    rw [show (q_mF d f).2.2 = .inl (d a) :: q_mL d st by show q_mL d f.2.2 = _; rw [hv]; rfl]
    split at hs
    next tg htg =>
      have hcm : ∀ (j : Nat) (c : Int32) (t : Bool), O.2.2.2.1 j a (O.1 c) = some t → q_O32.2.2.2.1 j (d a) (q_O32.1 c) = some t := by
        intro j c t ht
        have h1 := H.2.2.2.1 _ _ _ _ ht
        rw [H.1] at h1
        exact h1
      cases hs
      split at htg
      next h1 =>
        simp only [hcm 2 _ _ h1, htg]
        rfl
      next h1 h2 =>
        simp only [hcm 2 _ _ h1, hcm 4 _ _ h2, htg]
        rfl
      next h1 h2 =>
        split at htg
        next v hv2 =>
          have e := H.2.2.2.2.2.2.1 _ _ hv2
          subst e
          have h3 : q_O32.2.2.2.2.2.2.1 (d a) = some (d a).toInt := rfl
          simp only [hcm 2 _ _ h1, hcm 4 _ _ h2, h3, htg]
          rfl
        next => cases htg
      next => cases htg
    next => cases hs
  next => cases hs
end SIM
