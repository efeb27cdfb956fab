/-! THE STATE, ALIKE: a row of the class's, a row of the model's; in four pieces -/
section STATE
/-- how many are in the queue, by how all are -/
def cQ (c : Nat → Int32) : Nat → Nat
  | 0 => 0
  | n + 1 => cQ c n + (if c (7 + n) = zi 0 then 1 else 0)
theorem cQ_eq {c c2 : Nat → Int32} : ∀ n, (∀ p, p < n → c2 (7 + p) = c (7 + p)) → cQ c2 n = cQ c n
  | 0, _ => rfl
  | n + 1, h => by
    show cQ c2 n + (if c2 (7 + n) = zi 0 then 1 else 0) = cQ c n + (if c (7 + n) = zi 0 then 1 else 0)
    rw [cQ_eq n (fun p hp => h p (by omega)), h n (by omega)]
theorem cQ_le {c : Nat → Int32} : ∀ n, cQ c n ≤ n
  | 0 => Nat.le_refl _
  | n + 1 => by
    have := cQ_le (c := c) n
    show cQ c n + (if c (7 + n) = zi 0 then 1 else 0) ≤ n + 1
    split <;> omega
/-- one goes out -/
theorem cQ_out {c c2 : Nat → Int32} {p : Nat} (h1 : c (7 + p) = zi 0) (h2 : c2 (7 + p) ≠ zi 0) : ∀ n, p < n → (∀ j, j < n → j ≠ p → c2 (7 + j) = c (7 + j)) → cQ c2 n + 1 = cQ c n
  | 0, hp, _ => by omega
  | n + 1, hp, h => by
    show cQ c2 n + (if c2 (7 + n) = zi 0 then 1 else 0) + 1 = cQ c n + (if c (7 + n) = zi 0 then 1 else 0)
    by_cases e : p = n
    · subst e
      rw [if_neg h2, if_pos h1, cQ_eq p (fun j hj => h j (by omega) (by omega))]
    · rw [h n (by omega) (fun q => e q.symm)]
      have := cQ_out h1 h2 n (by omega) (fun j hj hj2 => h j (by omega) hj2)
      omega
/-- the queue -/
def aQ (b : Nat) (c m : Nat → Int32) : Prop := ∃ z, z ≤ b ∧ z = cQ c b ∧ c 18 = zi z ∧ m 8 = zi z ∧ (∀ k, k < z → ∃ p, p < b ∧ c k = zi p ∧ m k = zi p ∧ c (7 + p) = zi 0) ∧ (∀ i j, i < z → j < z → c i = c j → i = j) ∧ ∀ p, p < b → c (7 + p) = zi 0 → ∃ k, k < z ∧ c k = zi p
/-- how all are -/
def aH (b : Nat) (c m : Nat → Int32) : Prop := ∀ p, p < b → ∃ h, h ≤ 4 ∧ c (7 + p) = zi h ∧ m (9 + p) = zi h
/-- SHORT, who waited, WAVES, the minute, the SEED -/
def aS (c m : Nat → Int32) : Prop := c 19 = m 17 ∧ c 20 = m 24 ∧ c 21 = m 25 ∧ (∃ t, t ≤ 999 ∧ c 22 = zi t ∧ m 26 = zi t) ∧ c 23 = m 27
/-- the RAILS, R of them -/
def aL (b R : Nat) (c m : Nat → Int32) : Prop := (∀ r, r < 2 → c (14 + r) = m (18 + r) ∧ c (16 + r) = m (21 + r) ∧ (c (14 + r) = u_k (-1) ∨ (r < R ∧ ∃ p t, p < b ∧ 1 ≤ t ∧ t ≤ 100 ∧ c (14 + r) = zi p ∧ c (16 + r) = zi t ∧ c (7 + p) = zi 1))) ∧ (c 14 = c 15 → c 14 = u_k (-1)) ∧ m 20 = u_k (-1) ∧ m 23 = zi 0
/-- the class's row c (24), the model's m (28), of b PAIRS and R RAILS -/
def aR (b R : Nat) (c m : Nat → Int32) : Prop := aQ b c m ∧ aH b c m ∧ aS c m ∧ aL b R c m
theorem aQ_eq {b : Nat} {c c2 m m2 : Nat → Int32} (h : aQ b c m) (hb : b ≤ 7) (e1 : ∀ k, k < 14 → c2 k = c k) (e18 : c2 18 = c 18) (e2 : ∀ k, k < 9 → m2 k = m k) : aQ b c2 m2 := by
  obtain ⟨z, h1, hc, h2, h3, h4, h5, h6⟩ := h
  refine ⟨z, h1, ?_, e18.trans h2, ?_, fun k hk => ?_, fun i j hi hj e => ?_, fun p hp e => ?_⟩
  · rw [cQ_eq b (fun p hp => e1 (7 + p) (by omega))]; exact hc
  · rw [e2 8 (by omega)]; exact h3
  · obtain ⟨p, p1, p2, p3, p4⟩ := h4 k hk
    exact ⟨p, p1, by rw [e1 k (by omega)]; exact p2, by rw [e2 k (by omega)]; exact p3, by rw [e1 (7 + p) (by omega)]; exact p4⟩
  · rw [e1 i (by omega), e1 j (by omega)] at e
    exact h5 i j hi hj e
  · rw [e1 (7 + p) (by omega)] at e
    obtain ⟨k, k1, k2⟩ := h6 p hp e
    exact ⟨k, k1, by rw [e1 k (by omega)]; exact k2⟩
theorem aH_eq {b : Nat} {c c2 m m2 : Nat → Int32} (h : aH b c m) (e1 : ∀ p, p < b → c2 (7 + p) = c (7 + p)) (e2 : ∀ p, p < b → m2 (9 + p) = m (9 + p)) : aH b c2 m2 := fun p hp => by
  obtain ⟨x, x1, x2, x3⟩ := h p hp
  exact ⟨x, x1, (e1 p hp).trans x2, (e2 p hp).trans x3⟩
theorem aH_set {b p h : Nat} {c c2 m m2 : Nat → Int32} (H : aH b c m) (h4 : h ≤ 4) (q1 : ∀ j, j < b → j ≠ p → c2 (7 + j) = c (7 + j) ∧ m2 (9 + j) = m (9 + j)) (q2 : c2 (7 + p) = zi h ∧ m2 (9 + p) = zi h) : aH b c2 m2 := fun j hj => by
  by_cases x : j = p
  · subst x
    exact ⟨h, h4, q2.1, q2.2⟩
  · obtain ⟨x1, x2, x3, x4⟩ := H j hj
    exact ⟨x1, x2, (q1 j hj x).1.trans x3, (q1 j hj x).2.trans x4⟩
theorem aS_eq {c c2 m m2 : Nat → Int32} (h : aS c m) (e1 : ∀ k, 19 ≤ k → k < 24 → c2 k = c k) (e2 : ∀ k, k = 17 ∨ (24 ≤ k ∧ k < 28) → m2 k = m k) : aS c2 m2 := by
  obtain ⟨a1, a2, a3, ⟨t, t1, t2, t3⟩, a5⟩ := h
  refine ⟨?_, ?_, ?_, ⟨t, t1, ?_, ?_⟩, ?_⟩
  · rw [e1 19 (by omega) (by omega), e2 17 (by omega)]; exact a1
  · rw [e1 20 (by omega) (by omega), e2 24 (by omega)]; exact a2
  · rw [e1 21 (by omega) (by omega), e2 25 (by omega)]; exact a3
  · rw [e1 22 (by omega) (by omega)]; exact t2
  · rw [e2 26 (by omega)]; exact t3
  · rw [e1 23 (by omega) (by omega), e2 27 (by omega)]; exact a5
theorem aL_eq {b R : Nat} {c c2 m m2 : Nat → Int32} (h : aL b R c m) (e1 : ∀ k, 14 ≤ k → k < 18 → c2 k = c k) (e2 : ∀ k, 18 ≤ k → k < 24 → m2 k = m k) (e3 : ∀ p, p < b → c (7 + p) = zi 1 → c2 (7 + p) = zi 1) : aL b R c2 m2 := by
  obtain ⟨h1, h2, h3, h4⟩ := h
  refine ⟨fun r hr => ?_, ?_, ?_, ?_⟩
  · obtain ⟨x1, x2, x3⟩ := h1 r hr
    rw [e1 (14 + r) (by omega) (by omega), e1 (16 + r) (by omega) (by omega), e2 (18 + r) (by omega) (by omega), e2 (21 + r) (by omega) (by omega)]
    refine ⟨x1, x2, ?_⟩
    rcases x3 with x3 | ⟨y, p, t, y1, y2, y3, y4, y5, y6⟩
    · exact Or.inl x3
    · exact Or.inr ⟨y, p, t, y1, y2, y3, y4, y5, e3 p y1 y6⟩
  · rw [e1 14 (by omega) (by omega), e1 15 (by omega) (by omega)]; exact h2
  · rw [e2 20 (by omega) (by omega)]; exact h3
  · rw [e2 23 (by omega) (by omega)]; exact h4
theorem aR_eq {b R : Nat} {c c2 m m2 : Nat → Int32} (h : aR b R c m) (hb : b ≤ 7) (e1 : ∀ k, k < 24 → c2 k = c k) (e2 : ∀ k, k < 28 → m2 k = m k) : aR b R c2 m2 := ⟨aQ_eq h.1 hb (fun k hk => e1 k (by omega)) (e1 18 (by omega)) (fun k hk => e2 k (by omega)), aH_eq h.2.1 (fun p hp => e1 _ (by omega)) (fun p hp => e2 _ (by omega)), aS_eq h.2.2.1 (fun k _ hk => e1 k hk) (fun k hk => e2 k (by omega)), aL_eq h.2.2.2 (fun k _ hk => e1 k (by omega)) (fun k _ hk => e2 k (by omega)) (fun p hp e => (e1 (7 + p) (by omega)).trans e)⟩
/-- as begun, and as laid -/
theorem aR_new {b R : Nat} {d : Int32} {g : Nat → Nat → Int32} {m : Nat → Int32} (hb : b ≤ 7) (hB : nB g (zi b) d) (hm : ∀ k, k < 28 → m k = lay b d k) : aR b R (nR g) m := by
  obtain ⟨⟨n1, n2, n3, n4, n5, n6⟩, n7, n8⟩ := hB
  have c1 : ∀ k, k < 7 → nR g k = zi k := fun k hk => by
    have e : ∀ j : Fin 7, y_so j.1 = (29, j.1) := by decide
    show g (y_so k).1 (y_so k).2 = _
    rw [e ⟨k, hk⟩]
    exact (n7 k hk).1
  have c2 : ∀ k, k < 7 → nR g (7 + k) = zi 0 := fun k hk => by
    have e : ∀ j : Fin 7, y_so (7 + j.1) = (30, j.1) := by decide
    show g (y_so (7 + k)).1 (y_so (7 + k)).2 = _
    rw [e ⟨k, hk⟩]
    exact (n7 k hk).2
  have l0 : ∀ k, b ≤ k → k ≠ 8 → (k < 18 ∨ 21 ≤ k) → k ≠ 27 → k < 28 → m k = zi 0 := fun k h1 h2 h3 h4 h5 => by
    rw [hm k h5]
    unfold lay
    rw [if_neg (by omega), if_neg h2, if_neg (by omega), if_neg h4]
    rfl
  have e14 : ∀ j : Fin 2, y_so (14 + j.1) = (31, j.1) := by decide
  have e16 : ∀ j : Fin 2, y_so (16 + j.1) = (32, j.1) := by decide
  have x14 : ∀ r, r < 2 → nR g (14 + r) = u_k (-1) := fun r hr => by
    show g (y_so (14 + r)).1 (y_so (14 + r)).2 = _
    rw [e14 ⟨r, hr⟩]
    exact (n8 r hr).1
  have x16 : ∀ r, r < 2 → nR g (16 + r) = zi 0 := fun r hr => by
    show g (y_so (16 + r)).1 (y_so (16 + r)).2 = _
    rw [e16 ⟨r, hr⟩]
    exact (n8 r hr).2
  have m18 : ∀ r, r < 3 → m (18 + r) = u_k (-1) := fun r hr => by
    rw [hm (18 + r) (by omega)]
    unfold lay
    rw [if_neg (by omega), if_neg (by omega), if_pos (by omega)]
  refine ⟨⟨b, Nat.le_refl _, ?_, n1, ?_, fun k hk => ⟨k, hk, c1 k (by omega), ?_, c2 k (by omega)⟩, fun i j hi hj e => ?_, fun p hp _ => ⟨p, hp, c1 p (by omega)⟩⟩, fun p hp => ⟨0, by omega, c2 p (by omega), l0 _ (by omega) (by omega) (by omega) (by omega) (by omega)⟩, ⟨?_, ?_, ?_, ⟨0, by omega, n5, l0 26 (by omega) (by omega) (by omega) (by omega) (by omega)⟩, ?_⟩, fun r hr => ⟨(x14 r hr).trans (m18 r (by omega)).symm, (x16 r hr).trans (l0 (21 + r) (by omega) (by omega) (by omega) (by omega) (by omega)).symm, Or.inl (x14 r hr)⟩, fun _ => x14 0 (by omega), m18 2 (by omega), l0 23 (by omega) (by omega) (by omega) (by omega) (by omega)⟩
  · have key : ∀ n, n ≤ 7 → cQ (nR g) n = n := by
      intro n
      induction n with
      | zero => intro _; rfl
      | succ n ih =>
        intro hn
        show cQ (nR g) n + (if nR g (7 + n) = zi 0 then 1 else 0) = n + 1
        rw [ih (by omega), if_pos (c2 n (by omega))]
    exact (key b hb).symm
  · rw [hm 8 (by omega)]
    unfold lay
    rw [if_neg (by omega), if_pos rfl]
  · rw [hm k (by omega)]
    unfold lay
    rw [if_pos hk]
  · rw [c1 i (by omega), c1 j (by omega)] at e
    exact (zi_inj (by omega) (by omega)).mp e
  · exact Eq.trans (show nR g 19 = zi 0 from n2) (l0 17 (by omega) (by omega) (by omega) (by omega) (by omega)).symm
  · exact Eq.trans (show nR g 20 = zi 0 from n3) (l0 24 (by omega) (by omega) (by omega) (by omega) (by omega)).symm
  · exact Eq.trans (show nR g 21 = zi 0 from n4) (l0 25 (by omega) (by omega) (by omega) (by omega) (by omega)).symm
  · refine Eq.trans (show nR g 23 = d from n6) ?_
    rw [hm 27 (by omega)]
    unfold lay
    rw [if_neg (by omega), if_neg (by omega), if_neg (by omega), if_pos rfl]
end STATE
