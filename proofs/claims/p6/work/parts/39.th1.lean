/-! THE MODEL'S QUAY, the rest -/
section MQ2
theorem m245_46 : ∀ (f i : Nat) (li : Nat → Int32) (ll : Nat → Int64) (s : u_H), 3 - i ≤ f → i ≤ 3 → li 1 = zi i → ∃ s2, u g_t245 46 (li, ll, [(0, 67)]) [] s = some (none, s2) ∧ (∀ k, 18 + i ≤ k → k < 21 → s2.1 86 k = u_k (-1)) ∧ s2.1 86 8 = s.1 65 48 ∧ s2.1 86 27 = s.1 65 52 ∧ (∀ k, k ≠ 8 → k ≠ 27 → (k < 18 + i ∨ 21 ≤ k) → s2.1 86 k = s.1 86 k) ∧ u_fr (fun o k => o = 86 ∨ f177 o k) s s2 := by
  intro f
  have n86 : ∀ k, ¬ f177 86 k := fun k x => by
    unfold f177 at x
    omega
  have stop : ∀ (i : Nat) (li : Nat → Int32) (ll : Nat → Int64) (s : u_H), i = 3 → li 1 = zi i → ∃ s2, u g_t245 46 (li, ll, [(0, 67)]) [] s = some (none, s2) ∧ (∀ k, 18 + i ≤ k → k < 21 → s2.1 86 k = u_k (-1)) ∧ s2.1 86 8 = s.1 65 48 ∧ s2.1 86 27 = s.1 65 52 ∧ (∀ k, k ≠ 8 → k ≠ 27 → (k < 18 + i ∨ 21 ≤ k) → s2.1 86 k = s.1 86 k) ∧ u_fr (fun o k => o = 86 ∨ f177 o k) s s2 := by
    intro i li ll s hi hl
    obtain ⟨s2, e1, e2⟩ := m_177 (y_u (y_u s.1 86 8 (s.1 65 48)) 86 27 (s.1 65 52), s.2)
    refine ⟨s2, ?_, fun k x y => absurd y (by omega), ?_, ?_, fun k a b c => ?_, ?_⟩
    · rw [b_245_46, hl, hi, if_neg (show ¬ zi 3 < Int32.ofInt 3 by decide), e1, u_bvS]
    · rw [e2.i (n86 8)]
      show y_u (y_u s.1 86 8 (s.1 65 48)) 86 27 (s.1 65 52) 86 8 = s.1 65 48
      rw [y_uN (by omega), y_uE]
    · rw [e2.i (n86 27)]
      show y_u (y_u s.1 86 8 (s.1 65 48)) 86 27 (s.1 65 52) 86 27 = s.1 65 52
      rw [y_uE]
    · rw [e2.i (n86 k)]
      show y_u (y_u s.1 86 8 (s.1 65 48)) 86 27 (s.1 65 52) 86 k = s.1 86 k
      rw [y_uN (by omega), y_uN (by omega)]
    · exact (u_fr.wi (u_fr.wi (f := s.1) (r := s.2) u_fr.rf (Or.inl rfl)) (Or.inl rfl)).tr (e2.mono (fun o k x => Or.inr x))
  induction f with
  | zero =>
    intro i li ll s hf hi hl
    exact stop i li ll s (by omega) hl
  | succ f ih =>
    intro i li ll s hf hi hl
    by_cases q : i < 3
    · have hin : u_in (zi (18 + i)) 28 = true := (u_inz (by omega)).mpr (by omega)
      have hcl : (zi (18 + i)).toNatClampNeg = 18 + i := zi_clamp (by omega)
      obtain ⟨s2, e1, e2, e3, e4, e5, e6⟩ := ih (i + 1) (u_l1 li 1 (zi (i + 1))) ll (y_u s.1 86 (18 + i) (u_k (-1)), s.2) (by omega) (by omega) (u_l1E _ _ _)
      have w : ∀ o k, (o ≠ 86 ∨ k ≠ 18 + i) → y_u s.1 86 (18 + i) (u_k (-1)) o k = s.1 o k := fun o k x => y_uN (by omega)
      refine ⟨s2, ?_, fun k x y => ?_, e3.trans (w 65 48 (by omega)), e4.trans (w 65 52 (by omega)), fun k a b c => (e5 k a b (by omega)).trans (w 86 k (by omega)), ?_⟩
      · rw [b_245_46, hl, if_pos (show zi i < Int32.ofInt 3 from (zi_lt (b := 3) (by omega) (by omega)).mpr q), show Int32.ofInt 18 = zi 18 from rfl, zi_add, if_pos hin, hcl, zi_one]
        exact e1
      · rcases Nat.lt_or_ge (18 + i) k with z | z
        · exact e2 k (by omega) y
        · have hk : k = 18 + i := by omega
          rw [e5 k (by omega) (by omega) (by omega), hk]
          exact y_uE s.1 86 (18 + i) _
      · exact (u_fr.wi (f := s.1) (r := s.2) u_fr.rf (Or.inl rfl)).tr e6
    · exact stop i li ll s (by omega) hl
noncomputable def lay (b : Nat) (d : Int32) (k : Nat) : Int32 := if k < b then zi k else if k = 8 then zi b else if 18 ≤ k ∧ k < 21 then u_k (-1) else if k = 27 then d else Int32.ofInt 0
theorem m_245 {s : u_H} {b : Nat} (hb : b ≤ 7) (h48 : s.1 65 48 = zi b) : ∃ s2, u_c 245 [.inr (.inr 67)] s = some (none, s2) ∧ (∀ k, k < 28 → s2.1 86 k = lay b (s.1 65 52) k) ∧ u_fr (fun o k => o = 86 ∨ f177 o k) s s2 := by
  obtain ⟨l1, s1, e1, e2, e3, e4⟩ := m245_2 28 0 (u_l1 u_z1 1 (Int32.ofInt 0)) u_z2 s (by omega) (by omega) (u_l1E u_z1 1 _)
  have a48 : s1.1 65 48 = zi b := by
    rw [e4.i (fun x => absurd x.1 (by omega))]
    exact h48
  obtain ⟨l2, s2, g1, g2, g3, g4⟩ := m245_23 7 0 b l1 u_z2 s1 hb a48 (by omega) (Nat.zero_le _) e2
  obtain ⟨s3, k1, k2, k3, k4, k5, k6⟩ := m245_46 3 0 l2 u_z2 s2 (by omega) (by omega) g2
  have b48 : s2.1 65 48 = zi b := by
    rw [g4.i (fun x => absurd x.1 (by omega))]
    exact a48
  have b52 : s2.1 65 52 = s.1 65 52 := by
    rw [g4.i (fun x => absurd x.1 (by omega)), e4.i (fun x => absurd x.1 (by omega))]
  refine ⟨s3, ?_, fun k hk => ?_, ?_⟩
  · rw [b_245, e1, g1, k1]
  · unfold lay
    by_cases q1 : k < b
    · rw [if_pos q1, k5 k (by omega) (by omega) (by omega)]
      exact g3 k (Nat.zero_le _) q1
    · rw [if_neg q1]
      by_cases q2 : k = 8
      · rw [if_pos q2, q2, k3]
        exact b48
      · rw [if_neg q2]
        by_cases q3 : 18 ≤ k ∧ k < 21
        · rw [if_pos q3]
          exact k2 k (by omega) q3.2
        · rw [if_neg q3]
          by_cases q4 : k = 27
          · rw [if_pos q4, q4, k4]
            exact b52
          · rw [if_neg q4, k5 k q2 q4 (by omega), g4.i (fun x => absurd x.2.2 q1)]
            exact e3 k (Nat.zero_le _) hk
  · exact ((e4.mono (fun o k x => Or.inl x.1)).tr (g4.mono (fun o k x => Or.inl x.1))).tr k6
theorem mq258 : ∀ (f i : Nat) (li : Nat → Int32) (ll : Nat → Int64) (s : u_H), 3 - i ≤ f → i ≤ 3 → li 1 = zi i → ∃ s2, u g_t275 258 (li, ll, [(0, 67)]) [] s = some (some (.inl (s.1 65 48)), s2) ∧ (∀ k, i ≤ k → k < 3 → s2.1 104 k = Int32.ofInt 0) ∧ u_fr (fun o k => o = 104 ∧ i ≤ k) s s2 := by
  intro f
  have stop : ∀ (i : Nat) (li : Nat → Int32) (ll : Nat → Int64) (s : u_H), i = 3 → li 1 = zi i → ∃ s2, u g_t275 258 (li, ll, [(0, 67)]) [] s = some (some (.inl (s.1 65 48)), s2) ∧ (∀ k, i ≤ k → k < 3 → s2.1 104 k = Int32.ofInt 0) ∧ u_fr (fun o k => o = 104 ∧ i ≤ k) s s2 := by
    intro i li ll s hi hl
    refine ⟨s, ?_, fun k x y => absurd y (by omega), u_fr.rf⟩
    rw [b_275_258, hl, hi, if_neg (show ¬ zi 3 < Int32.ofInt 3 by decide)]
  induction f with
  | zero =>
    intro i li ll s hf hi hl
    exact stop i li ll s (by omega) hl
  | succ f ih =>
    intro i li ll s hf hi hl
    by_cases q : i < 3
    · have hin : u_in (zi i) 3 = true := (u_inz (by omega)).mpr (by omega)
      have hcl : (zi i).toNatClampNeg = i := zi_clamp (by omega)
      obtain ⟨s2, e1, e3, e4⟩ := ih (i + 1) (u_l1 li 1 (zi (i + 1))) ll (y_u s.1 104 i (Int32.ofInt 0), s.2) (by omega) (by omega) (u_l1E _ _ _)
      refine ⟨s2, ?_, fun k x y => ?_, ?_⟩
      · rw [b_275_258, hl, if_pos (show zi i < Int32.ofInt 3 from (zi_lt (b := 3) (by omega) (by omega)).mpr q), if_pos hin, hcl, zi_one, e1]
        show some (some (Sum.inl (y_u s.1 104 i (Int32.ofInt 0) 65 48)), s2) = _
        rw [y_uN (by omega)]
      · rcases Nat.lt_or_ge i k with z | z
        · exact e3 k z y
        · have hk : k = i := by omega
          subst hk
          rw [e4.i (o := 104) (k := k) (fun x => absurd x.2 (by omega))]
          exact y_uE s.1 104 k _
      · exact (u_fr.wi (f := s.1) (r := s.2) u_fr.rf ⟨rfl, Nat.le_refl _⟩).tr (e4.mono (fun o k x => ⟨x.1, Nat.le_of_succ_le x.2⟩))
    · exact stop i li ll s (by omega) hl
/-- what quay writes in the model, behind the reading -/
def fMQ (o k : Nat) : Prop := (o = 65 ∧ (k = 18 ∨ k = 21 ∨ k = 25 ∨ (27 ≤ k ∧ k ≤ 29) ∨ (47 ≤ k ∧ k ≤ 52) ∨ k = 59 ∨ k = 62 ∨ k = 66 ∨ k = 67 ∨ k = 70 ∨ k = 78)) ∨ o = 70 ∨ o = 71 ∨ (80 ≤ o ∧ o ≤ 90) ∨ o = 104
/-- what is kept of what was told, and the row -/
def mK (a b F : Nat) (l : Bool) (s t : u_H) : Prop := (t.1 65 47 = zi a ∧ t.1 65 48 = zi b ∧ t.1 65 49 = s.1 65 43 ∧ t.1 65 50 = s.1 65 44 ∧ t.1 65 51 = s.1 65 45 ∧ t.1 65 52 = s.1 65 46) ∧ (t.1 65 21 = s.1 65 20 ∧ t.1 65 25 = zb l ∧ t.1 65 18 = zi F ∧ ∀ k, k < F → t.1 70 k = s.1 68 k ∧ t.1 71 k = s.1 69 k) ∧ (∀ k, k < a → t.1 80 k = s.1 75 k ∧ t.1 81 k = s.1 76 k) ∧ (∀ k, k < b → t.1 82 k = s.1 77 k ∧ t.1 83 k = s.1 78 k ∧ t.1 84 k = s.1 79 k) ∧ (∀ k, k < 28 → t.1 85 k = lay b (s.1 65 46) k) ∧ (t.1 65 66 = 0 ∧ t.1 65 67 = 0 ∧ t.1 65 78 = 0 ∧ t.1 65 70 = 0 ∧ ∀ k, k < 3 → t.1 104 k = 0) ∧ u_fr fMQ s t
/-- quay, up to its rows of steps -/
noncomputable def mq0 (s : u_H) (x : Int32) : u_H := (y_u (y_u (y_u (y_u (y_u (y_u (y_u (y_u (y_u s.1 65 47 (s.1 65 41)) 65 48 (s.1 65 42)) 65 49 (s.1 65 43)) 65 50 (s.1 65 44)) 65 51 (s.1 65 45)) 65 52 (s.1 65 46)) 65 21 (s.1 65 20)) 65 25 (s.1 65 24)) 65 18 x, s.2)
theorem mq0_N {s : u_H} {x : Int32} {o k : Nat} (h : ¬ (o = 65 ∧ (k = 18 ∨ k = 21 ∨ k = 25 ∨ (47 ≤ k ∧ k ≤ 52)))) : (mq0 s x).1 o k = s.1 o k := by
  unfold mq0
  show y_u (y_u (y_u (y_u (y_u (y_u (y_u (y_u (y_u s.1 65 47 (s.1 65 41)) 65 48 (s.1 65 42)) 65 49 (s.1 65 43)) 65 50 (s.1 65 44)) 65 51 (s.1 65 45)) 65 52 (s.1 65 46)) 65 21 (s.1 65 20)) 65 25 (s.1 65 24)) 65 18 x o k = s.1 o k
  rw [y_uN (by omega), y_uN (by omega), y_uN (by omega), y_uN (by omega), y_uN (by omega), y_uN (by omega), y_uN (by omega), y_uN (by omega), y_uN (by omega)]
theorem mq0_fr (s : u_H) (x : Int32) : u_fr fMQ s (mq0 s x) := by
  unfold mq0
  iterate 9 refine u_fr.wi ?_ (by unfold fMQ; omega)
  exact u_fr.rf
theorem m_quayU {s t1 : u_H} {a b c : Nat} {l : Bool} (h1 : u_c 281 [.inr (.inr 67)] s = some (none, t1)) (h2 : t1.1 65 2 = 0) (ha : a ≤ 5) (hb : b ≤ 7) (hc : c ≤ 320) (h41 : t1.1 65 41 = zi a) (h42 : t1.1 65 42 = zi b) (h24 : t1.1 65 24 = zb l) (h17 : l = true → t1.1 65 17 = zi c) : ∃ t, u_c 275 [.inr (.inr 67)] s = some (some (.inl (zi b)), t) ∧ mK a b (bif l then c else 0) l t1 t := by
  obtain ⟨x, F, hx, hF, eF⟩ : ∃ (x : Int32) (F : Nat), x = zi F ∧ F ≤ 320 ∧ F = (bif l then c else 0) := ⟨zi (bif l then c else 0), _, rfl, by cases l with
    | false => exact Nat.zero_le _
    | true => exact hc, rfl⟩
  have step : u_c 275 [.inr (.inr 67)] s = u g_t275 98 (u_l1 u_z1 1 (Int32.ofInt 0), u_z2, [(0, 67)]) [] (mq0 t1 x) := by
    rw [b_275, h1, u_bvS, if_neg (by rw [h2]; decide), h24]
    cases l with
    | false =>
      rw [if_pos (show q_ib (zb false) = true by decide), if_pos zb_no, ← h24, hx, eF]
      rfl
    | true =>
      rw [if_pos (show q_ib (zb true) = true by decide), if_neg zb_yes, ← h24, h17 rfl, hx, eF]
      rfl
  obtain ⟨l2, s2, e1, e2, e3, e4⟩ := mq98 320 0 F (u_l1 u_z1 1 (Int32.ofInt 0)) u_z2 (mq0 t1 x) hF (by rw [← hx]; rfl) (by omega) (Nat.zero_le _) (u_l1E u_z1 1 _)
  have n98 : ∀ o k, o ≠ 70 → o ≠ 71 → s2.1 o k = (mq0 t1 x).1 o k := fun o k p q => e4.i (fun z => by rcases z.1 with z | z; exact p z; exact q z)
  obtain ⟨l3, s3, g1, g2, g3, g4⟩ := mq138 5 0 a l2 u_z2 s2 ha (by rw [n98 65 47 (by omega) (by omega)]; exact h41) (by omega) (Nat.zero_le _) e2
  have n138 : ∀ o k, o ≠ 80 → o ≠ 81 → s3.1 o k = s2.1 o k := fun o k p q => g4.i (fun z => by rcases z.1 with z | z; exact p z; exact q z)
  obtain ⟨l4, s4, k1, k2, k3, k4⟩ := mq178 7 0 b l3 u_z2 s3 hb (by rw [n138 65 48 (by omega) (by omega), n98 65 48 (by omega) (by omega)]; exact h42) (by omega) (Nat.zero_le _) g2
  have n178 : ∀ o k, o ≠ 82 → o ≠ 83 → o ≠ 84 → s4.1 o k = s3.1 o k := fun o k p q r => k4.i (fun z => by rcases z.1 with z | z | z; exact p z; exact q z; exact r z)
  have n4 : ∀ o k, o ≠ 70 → o ≠ 71 → (o < 80 ∨ 84 < o) → s4.1 o k = (mq0 t1 x).1 o k := fun o k p q r => (n178 o k (by omega) (by omega) (by omega)).trans ((n138 o k (by omega) (by omega)).trans (n98 o k p q))
  have b48 : s4.1 65 48 = zi b := (n4 65 48 (by omega) (by omega) (by omega)).trans h42
  obtain ⟨s5, r1, r2, r3⟩ := m_245 hb b48
  have n5 : ∀ o k, o ≠ 86 → ¬ f177 o k → s5.1 o k = s4.1 o k := fun o k p q => r3.i (fun z => by rcases z with z | z; exact p z; exact q z)
  obtain ⟨s6, t1', t2, t3⟩ := m_240 s5
  have n6 : ∀ o k, o ≠ 85 → s6.1 o k = s5.1 o k := fun o k p => t3.i (fun z => p z)
  obtain ⟨s7, v1, v2, v3⟩ := mq258 3 0 l4 u_z2 (mqZ s6) (by omega) (by omega) k2
  have nZ : ∀ o k, ¬ (o = 65 ∧ (k = 66 ∨ k = 67 ∨ k = 78 ∨ k = 70)) → (mqZ s6).1 o k = s6.1 o k := by
    intro o k h
    show y_u (y_u (y_u (y_u s6.1 65 66 (Int32.ofInt 0)) 65 67 (Int32.ofInt 0)) 65 78 (Int32.ofInt 0)) 65 70 (Int32.ofInt 0) o k = _
    rw [y_uN (by omega), y_uN (by omega), y_uN (by omega), y_uN (by omega)]
  have n7 : ∀ o k, o ≠ 104 → s7.1 o k = (mqZ s6).1 o k := fun o k p => v3.i (fun z => p z.1)
  -- what stands at the end
  have N : ∀ o k, o ≠ 70 → o ≠ 71 → (o < 80 ∨ 86 < o) → o ≠ 104 → ¬ f177 o k → ¬ (o = 65 ∧ (k = 66 ∨ k = 67 ∨ k = 78 ∨ k = 70)) → s7.1 o k = (mq0 t1 x).1 o k := by
    intro o k p1 p2 p3 p4 p5 p6
    rw [n7 o k p4, nZ o k p6, n6 o k (by omega), n5 o k (by omega) p5]
    exact n4 o k p1 p2 (by omega)
  have no177 : ∀ o k, (o ≠ 65 ∨ (k ≠ 27 ∧ k ≠ 28 ∧ k ≠ 29 ∧ k ≠ 59 ∧ k ≠ 62)) → (o < 87 ∨ 90 < o) → ¬ f177 o k := by
    intro o k p q z
    unfold f177 at z
    omega
  have N65 : ∀ k, (k = 18 ∨ k = 21 ∨ k = 25 ∨ (47 ≤ k ∧ k ≤ 52)) → s7.1 65 k = (mq0 t1 x).1 65 k := fun k h => N 65 k (by omega) (by omega) (by omega) (by omega) (no177 65 k (by omega) (by omega)) (by omega)
  have D : ∀ o k, (80 ≤ o ∧ o ≤ 84) → s7.1 o k = s4.1 o k := by
    intro o k p
    rw [n7 o k (by omega), nZ o k (by omega), n6 o k (by omega), n5 o k (by omega) (no177 o k (by omega) (by omega))]
  have E : ∀ o k, (o = 70 ∨ o = 71) → s7.1 o k = s2.1 o k := by
    intro o k p
    rw [n7 o k (by omega), nZ o k (by omega), n6 o k (by omega), n5 o k (by omega) (no177 o k (by omega) (by omega)), n178 o k (by omega) (by omega) (by omega), n138 o k (by omega) (by omega)]
  have S : ∀ o k, (o = 68 ∨ o = 69 ∨ (75 ≤ o ∧ o ≤ 79)) → s3.1 o k = t1.1 o k ∧ s2.1 o k = t1.1 o k := by
    intro o k p
    have z := (n98 o k (by omega) (by omega)).trans (mq0_N (by omega))
    exact ⟨(n138 o k (by omega) (by omega)).trans z, z⟩
  have b7 : (mqZ s6).1 65 48 = zi b := (nZ 65 48 (by omega)).trans ((n6 65 48 (by omega)).trans ((n5 65 48 (by omega) (no177 65 48 (by omega) (by omega))).trans b48))
  refine ⟨s7, ?_, ⟨(N65 47 (by omega)).trans h41, (N65 48 (by omega)).trans h42, N65 49 (by omega), N65 50 (by omega), N65 51 (by omega), N65 52 (by omega)⟩, ⟨N65 21 (by omega), (N65 25 (by omega)).trans h24, ?_, fun k hk => ?_⟩, fun k hk => ?_, fun k hk => ?_, fun k hk => ?_, ⟨?_, ?_, ?_, ?_, fun k hk => v2 k (Nat.zero_le _) hk⟩, ?_⟩
  · rw [step, e1, g1, k1, r1, u_bvS, t1', u_bvS, v1, b7]
  · rw [N65 18 (by omega), ← eF, ← hx]
    rfl
  · rw [E 70 k (by omega), E 71 k (by omega)]
    obtain ⟨y1, y2⟩ := e3 k (Nat.zero_le _) (by rw [eF]; exact hk)
    exact ⟨y1.trans (mq0_N (by omega)), y2.trans (mq0_N (by omega))⟩
  · rw [D 80 k (by omega), D 81 k (by omega), n178 80 k (by omega) (by omega) (by omega), n178 81 k (by omega) (by omega) (by omega)]
    obtain ⟨y1, y2⟩ := g3 k (Nat.zero_le _) hk
    exact ⟨y1.trans (S 75 k (by omega)).2, y2.trans (S 76 k (by omega)).2⟩
  · rw [D 82 k (by omega), D 83 k (by omega), D 84 k (by omega)]
    obtain ⟨y1, y2, y3⟩ := k3 k (Nat.zero_le _) hk
    exact ⟨y1.trans (S 77 k (by omega)).1, y2.trans (S 78 k (by omega)).1, y3.trans (S 79 k (by omega)).1⟩
  · rw [n7 85 k (by omega), nZ 85 k (by omega), t2 k hk, r2 k hk]
    have e52 : s4.1 65 52 = t1.1 65 46 := n4 65 52 (by omega) (by omega) (by omega)
    rw [e52]
  · rw [n7 65 66 (by omega)]
    rfl
  · rw [n7 65 67 (by omega)]
    rfl
  · rw [n7 65 78 (by omega)]
    rfl
  · rw [n7 65 70 (by omega)]
    rfl
  · have q1 : u_fr fMQ t1 s2 := (mq0_fr t1 x).tr (e4.mono (fun o k z => by have := z.1; unfold fMQ; omega))
    have q2 : u_fr fMQ t1 s4 := (q1.tr (g4.mono (fun o k z => by have := z.1; unfold fMQ; omega))).tr (k4.mono (fun o k z => by have := z.1; unfold fMQ; omega))
    have q3 : u_fr fMQ t1 s6 := (q2.tr (r3.mono (fun o k z => by unfold f177 at z; unfold fMQ; omega))).tr (t3.mono (fun o k z => by have z : o = 85 := z; unfold fMQ; omega))
    have q4 : u_fr fMQ s6 (mqZ s6) := by
      unfold mqZ
      iterate 4 refine u_fr.wi ?_ (by unfold fMQ; omega)
      exact u_fr.rf
    exact (q3.tr q4).tr (v3.mono (fun o k z => by have := z.1; unfold fMQ; omega))
end MQ2
