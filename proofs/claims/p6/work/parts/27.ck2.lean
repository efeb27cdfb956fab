/-! what the checker's ranges say -/
theorem w_bs {α : Type} {c : Bool} {x : Option α} {y : α} (h : (bif c then x else none) = some y) : c = true ∧ x = some y := by
  cases c
  · cases h
  · exact ⟨rfl, h⟩
def w_val (ls : q_U Int32) (σ : w_G) (g : Nat) : Option (q_V Int32) := bif Nat.blt g 64 then q_at ls (g - 1) else some (σ (w_ko g) (w_kk g))
def w_in (ls : q_U Int32) (σ : w_G) (A : w_A) (v : q_V Int32) : Prop := match A with
  | .inl (J, g) => ∃ x, v = .inl x ∧ q_jr J x ∧ (g = 0 ∨ w_val ls σ g = some v)
  | .inr (.inl _) => ∃ x, v = .inr (.inl x)
  | .inr (.inr l) => ∃ n, v = .inr (.inr n) ∧ n ∈ l
def w_sts (ls : q_U Int32) (σ : w_G) : List w_A → List (q_V Int32) → Prop
  | [], [] => True
  | A :: as, v :: vs => w_in ls σ A v ∧ w_sts ls σ as vs
  | _, _ => False
def w_oM (ls : q_U Int32) (σ : w_G) (M : w_U) : Prop := ∀ q ∈ M, 64 ≤ q.1 ∧ w_in ls σ q.2 (σ (w_ko q.1) (w_kk q.1))
def w_oL (ls : q_U Int32) (σ : w_G) (L : w_U) : Prop := ∀ q ∈ L, ∃ v, q_at ls q.1 = some v ∧ w_in ls σ q.2 v
def w_ok (ls : q_U Int32) (σ : w_G) (S : w_S) (st : List (q_V Int32)) : Prop := w_oL ls σ S.1 ∧ w_sts ls σ S.2.1 st ∧ w_oM ls σ S.2.2
/-- what else holds of the heap: it speaks of the keys of g_pk alone -/
abbrev w_V : Type := { V : w_G → Prop // ∀ σ σ2 : w_G, (∀ o k, k < 4096 → w_inm g_pk (w_key o k) = true → σ2 o k = σ o k) → V σ → V σ2 }
/-- every slot keeps to its told range, and V holds -/
def w_T (V : w_V) (sh : w_Sh) (σ : w_G) : Prop := (∀ o k A, w_ty sh o k = some A → w_in [] σ A (σ o k)) ∧ V.1 σ
theorem w_in_kz {ls ls2 : q_U Int32} {σ σ2 : w_G} {A : w_A} {v : q_V Int32} (h : w_in ls σ A v) : w_in ls2 σ2 (w_kz A) v := by
  rcases A with ⟨J, g⟩ | u | l
  · obtain ⟨x, h1, h2, h3⟩ := h
    exact ⟨x, h1, h2, Or.inl rfl⟩
  · exact h
  · exact h
theorem w_kz_kz (A : w_A) : w_kz (w_kz A) = w_kz A := by
  rcases A with ⟨J, g⟩ | u | l <;> rfl
theorem w_ty_kz {sh : w_Sh} {o k : Nat} {A : w_A} (h : w_ty sh o k = some A) : w_kz A = A := by
  unfold w_ty at h
  split at h
  · obtain ⟨-, h⟩ := w_bs h
    rw [Option.map_eq_some_iff] at h
    obtain ⟨B, -, rfl⟩ := h
    exact w_kz_kz B
  · cases h
theorem w_T.at {V : w_V} {sh : w_Sh} {σ : w_G} (hT : w_T V sh σ) {o k : Nat} {A : w_A} (h : w_ty sh o k = some A) (ls : q_U Int32) : w_in ls σ A (σ o k) := by
  have := w_in_kz (ls2 := ls) (σ2 := σ) (hT.1 o k A h)
  rwa [w_ty_kz h] at this
theorem w_at_mem {α : Type} : ∀ (l : List (Nat × α)) (k : Nat) (v : α), q_at l k = some v → (k, v) ∈ l
  | [], _, _, h => by cases h
  | q :: r, k, v, h => by
    unfold q_at at h
    cases hb : Nat.beq q.1 k with
    | true =>
      rw [hb] at h
      have e := q_beq hb
      cases h
      rw [← e]
      exact List.mem_cons_self
    | false =>
      rw [hb] at h
      exact List.mem_cons_of_mem _ (w_at_mem r k v h)
theorem w_kn_ok {V : w_V} {sh : w_Sh} {σ : w_G} {ls : q_U Int32} {M : w_U} (hT : w_T V sh σ) (hM : w_oM ls σ M) {g : Nat} {A : w_A} (h : w_kn sh M g = some A) : w_in ls σ A (σ (w_ko g) (w_kk g)) := by
  unfold w_kn at h
  split at h
  next B hB =>
    cases h
    exact (hM _ (w_at_mem _ _ _ hB)).2
  next => exact hT.at h ls
theorem w_ef_ok {V : w_V} {sh : w_Sh} {σ : w_G} {ls : q_U Int32} {M : w_U} (hT : w_T V sh σ) (hM : w_oM ls σ M) {A : w_A} {v : q_V Int32} (h : w_in ls σ A v) : w_in ls σ (w_ef sh M A) v := by
  rcases A with ⟨J, g⟩ | u | l
  · unfold w_ef
    simp only
    cases hb : Nat.blt g 64 with
    | true => exact h
    | false =>
      rw [cond_false]
      split
      next J2 g2 hk =>
        have h2 := w_kn_ok hT hM hk
        obtain ⟨x, h1, hx, hg⟩ := h
        have hg2 : w_val ls σ g = some v := by
          rcases hg with hg | hg
          · subst hg
            exact absurd hb (by decide)
          · exact hg
        have hg3 := hg2
        unfold w_val at hg3
        rw [hb, cond_false] at hg3
        cases hg3
        obtain ⟨y, e1, hy, -⟩ := h2
        rw [e1] at h1
        cases h1
        exact ⟨_, e1, ⟨Nat.max_le.mpr ⟨hx.1, hy.1⟩, Nat.le_min.mpr ⟨hx.2, hy.2⟩⟩, Or.inr hg2⟩
      next => exact h
  · exact h
  · exact h
theorem w_le1_ok {σ : w_G} {ls : q_U Int32} {A B : w_A} {v : q_V Int32} (hl : w_le1 A B = true) (h : w_in ls σ A v) : w_in ls σ B v := by
  rcases A with ⟨J, g⟩ | u | l <;> rcases B with ⟨J2, g2⟩ | u2 | l2
  · obtain ⟨x, h1, h2, h3⟩ := h
    simp only [w_le1, Bool.and_eq_true, Bool.or_eq_true, Nat.beq_eq] at hl
    refine ⟨x, h1, q_jle_ok hl.1 h2, ?_⟩
    rcases hl.2 with e | e
    · exact Or.inl e
    · subst e
      exact h3
  · cases hl
  · cases hl
  · cases hl
  · exact h
  · cases hl
  · cases hl
  · cases hl
  · obtain ⟨n, h1, h2⟩ := h
    refine ⟨n, h1, ?_⟩
    simp only [w_le1, List.all_eq_true, List.any_eq_true, Nat.beq_eq] at hl
    obtain ⟨m, hm, e⟩ := hl n h2
    rw [← e]
    exact hm
theorem w_leL_ok {V : w_V} {sh : w_Sh} {σ : w_G} {ls : q_U Int32} {M : w_U} (hT : w_T V sh σ) (hM : w_oM ls σ M) : ∀ (as bs : List w_A) (vs : List (q_V Int32)), w_leL sh M as bs = true → w_sts ls σ as vs → w_sts ls σ bs vs
  | [], [], [], _, _ => True.intro
  | [], [], _ :: _, _, h => h.elim
  | [], _ :: _, _, hl, _ => by cases hl
  | _ :: _, [], _, hl, _ => by cases hl
  | _ :: _, _ :: _, [], _, h => h.elim
  | A :: as, B :: bs, v :: vs, hl, h => by
    simp only [w_leL, Bool.and_eq_true] at hl
    exact ⟨w_le1_ok hl.1 (w_ef_ok hT hM h.1), w_leL_ok hT hM as bs vs hl.2 h.2⟩
theorem w_leM_ok {V : w_V} {sh : w_Sh} {σ : w_G} {ls : q_U Int32} {M M2 : w_U} (hT : w_T V sh σ) (hM : w_oM ls σ M) (hl : w_leM sh M M2 = true) : w_oM ls σ M2 := by
  intro q hq
  unfold w_leM at hl
  rw [List.all_eq_true] at hl
  have h1 := hl q hq
  rw [Bool.and_eq_true] at h1
  refine ⟨Nat.le_of_ble_eq_true h1.1, ?_⟩
  have h2 := h1.2
  split at h2
  next A hA => exact w_le1_ok h2 (w_kn_ok hT hM hA)
  next => cases h2
theorem w_leS_ok {V : w_V} {sh : w_Sh} {σ : w_G} {ls : q_U Int32} {S S2 : w_S} {st : List (q_V Int32)} (hT : w_T V sh σ) (hl : w_leS sh S S2 = true) (h : w_ok ls σ S st) : w_ok ls σ S2 st := by
  unfold w_leS at hl
  simp only [Bool.and_eq_true] at hl
  obtain ⟨l1, l2, l3⟩ := hl
  obtain ⟨h1, h2, h3⟩ := h
  refine ⟨?_, w_leL_ok hT h3 _ _ _ l2 h2, w_leM_ok hT h3 l3⟩
  intro q hq
  rw [List.all_eq_true] at l1
  have hb := l1 q hq
  split at hb
  next A hA =>
    obtain ⟨v, e, hv⟩ := h1 _ (w_at_mem _ _ _ hA)
    exact ⟨v, e, w_le1_ok hb (w_ef_ok hT h3 hv)⟩
  next => cases hb
/-! keys that are no more what they were -/
theorem w_ka_ok {σ σ2 : w_G} {ls ls2 : q_U Int32} {p : Nat → Bool} (hs : ∀ g, g ≠ 0 → p g = false → w_val ls2 σ2 g = w_val ls σ g) {A : w_A} {v : q_V Int32} (h : w_in ls σ A v) : w_in ls2 σ2 (w_ka p A) v := by
  rcases A with ⟨J, g⟩ | u | l
  · obtain ⟨x, h1, h2, h3⟩ := h
    unfold w_ka
    simp only
    cases hb : p g with
    | true => exact ⟨x, h1, h2, Or.inl rfl⟩
    | false =>
      refine ⟨x, h1, h2, ?_⟩
      rcases h3 with h3 | h3
      · exact Or.inl h3
      · rcases Nat.eq_zero_or_pos g with e | e
        · exact Or.inl e
        · exact Or.inr (by rw [hs g (by omega) hb]; exact h3)
  · exact h
  · exact h
theorem w_kas_ok {σ σ2 : w_G} {ls ls2 : q_U Int32} {p : Nat → Bool} (hs : ∀ g, g ≠ 0 → p g = false → w_val ls2 σ2 g = w_val ls σ g) : ∀ (as : List w_A) (vs : List (q_V Int32)), w_sts ls σ as vs → w_sts ls2 σ2 (as.map (w_ka p)) vs
  | [], [], _ => True.intro
  | [], _ :: _, h => h.elim
  | _ :: _, [], h => h.elim
  | _ :: as, _ :: vs, h => ⟨w_ka_ok hs h.1, w_kas_ok hs as vs h.2⟩
theorem w_kM_ok {σ σ2 : w_G} {ls ls2 : q_U Int32} {p : Nat → Bool} (hs : ∀ g, g ≠ 0 → p g = false → w_val ls2 σ2 g = w_val ls σ g) {M : w_U} (h : w_oM ls σ M) : w_oM ls2 σ2 ((M.filter (fun q => !(p q.1))).map (fun q => (q.1, w_ka p q.2))) := by
  intro q hq
  rw [List.mem_map] at hq
  obtain ⟨q0, hq0, rfl⟩ := hq
  rw [List.mem_filter] at hq0
  obtain ⟨h1, h2⟩ := h q0 hq0.1
  have hp : p q0.1 = false := by simpa using hq0.2
  refine ⟨h1, ?_⟩
  have hv := hs q0.1 (by omega) hp
  have hb : Nat.blt q0.1 64 = false := by
    cases hb : Nat.blt q0.1 64 with
    | false => rfl
    | true => have := q_blt hb; omega
  unfold w_val at hv
  rw [hb, cond_false, cond_false] at hv
  have hv2 := Option.some.inj hv
  show w_in ls2 σ2 (w_ka p q0.2) (σ2 (w_ko q0.1) (w_kk q0.1))
  rw [hv2]
  exact w_ka_ok hs h2
theorem w_ks_ok {σ σ2 : w_G} {ls : q_U Int32} {p : Nat → Bool} (hs : ∀ g, g ≠ 0 → p g = false → w_val ls σ2 g = w_val ls σ g) {S : w_S} {st : List (q_V Int32)} (h : w_ok ls σ S st) : w_ok ls σ2 (w_ks p S) st := by
  obtain ⟨h1, h2, h3⟩ := h
  refine ⟨?_, w_kas_ok hs _ _ h2, w_kM_ok hs h3⟩
  intro q hq
  have hq2 : q ∈ S.1.map (fun q => (q.1, w_ka p q.2)) := hq
  rw [List.mem_map] at hq2
  obtain ⟨q0, hq0, rfl⟩ := hq2
  obtain ⟨v, e, hv⟩ := h1 q0 hq0
  exact ⟨v, e, w_ka_ok hs hv⟩
/-! a local's new value -/
theorem w_at_filter {α : Type} {p : Nat × α → Bool} : ∀ (l : List (Nat × α)) (k : Nat) (v : α), q_at l k = some v → p (k, v) = true → q_at (l.filter p) k = some v
  | [], _, _, h, _ => by cases h
  | q :: r, k, v, h, hp => by
    unfold q_at at h
    cases hb : Nat.beq q.1 k with
    | true =>
      rw [hb] at h
      have e := q_beq hb
      cases h
      have hq : p q = true := by
        rw [← e] at hp
        exact hp
      rw [List.filter_cons_of_pos hq]
      unfold q_at
      rw [hb]
      rfl
    | false =>
      rw [hb] at h
      have ih := w_at_filter r k v h hp
      cases hq : p q with
      | true =>
        rw [List.filter_cons_of_pos hq]
        unfold q_at
        rw [hb]
        exact ih
      | false =>
        rw [List.filter_cons_of_neg (by simp [hq])]
        exact ih
theorem w_in_cat {ls : q_U Int32} {σ : w_G} {A : w_A} {v : q_V Int32} (h : w_in ls σ A v) : q_cat v = w_cat A := by
  rcases A with ⟨J, g⟩ | u | l
  · obtain ⟨x, rfl, -⟩ := h
    rfl
  · obtain ⟨x, rfl⟩ := h
    rfl
  · obtain ⟨x, rfl, -⟩ := h
    rfl
theorem w_in_isL {ls : q_U Int32} {σ : w_G} {A : w_A} {v : q_V Int32} (h : w_in ls σ A v) : (q_cat v == 2) = w_isL A := by
  rcases A with ⟨J, g⟩ | u | l
  · obtain ⟨x, rfl, -⟩ := h
    rfl
  · obtain ⟨x, rfl⟩ := h
    rfl
  · obtain ⟨x, rfl, -⟩ := h
    rfl
