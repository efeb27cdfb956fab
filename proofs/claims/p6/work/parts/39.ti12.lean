/-! A RAIL IS FILLED: both sides -/
section FILL
variable {W : Nat}
/-- ints alone, and the told one -/
def u_fi (P : Nat → Nat → Prop) (s s2 : u_H) : Prop := (∀ o k, ¬ P o k → s2.1 o k = s.1 o k) ∧ s2.2.2.1 = s.2.2.1
theorem u_fi.rf {P : Nat → Nat → Prop} {s : u_H} : u_fi P s s := ⟨fun _ _ _ => rfl, rfl⟩
theorem u_fi.tr {P : Nat → Nat → Prop} {s s2 s3 : u_H} (h : u_fi P s s2) (h2 : u_fi P s2 s3) : u_fi P s s3 := ⟨fun o k hp => (h2.1 o k hp).trans (h.1 o k hp), h2.2.trans h.2⟩
theorem u_fi.mono {P Q : Nat → Nat → Prop} {s s2 : u_H} (h : u_fi P s s2) (hPQ : ∀ o k, P o k → Q o k) : u_fi Q s s2 := ⟨fun o k hq => h.1 o k (fun q => hq (hPQ o k q)), h.2⟩
theorem u_fr.fi {P : Nat → Nat → Prop} {s s2 : u_H} (h : u_fr P s s2) : u_fi P s s2 := ⟨fun o k hp => (h.1 o k hp).1, by rw [h.2]⟩
theorem u_fi.wi {P : Nat → Nat → Prop} {s : u_H} {f : Nat → Nat → Int32} {o k : Nat} {x : Int32} {r : (Nat → Nat → Int64) × u_K} (h : u_fi P s (f, r)) (hp : P o k) : u_fi P s (y_u f o k x, r) := ⟨fun o2 k2 h2 => (y_uN (fun e => h2 (by rw [e.1, e.2]; exact hp))).trans (h.1 o2 k2 h2), h.2⟩
theorem c147_2 {z k p : Nat} (hz : z ≤ 7) (hk : k < z) {s : u_H} (h1 : s.1 28 1 = zi z) (hp : s.1 29 k = zi p) (hno : ∀ j, j < k → s.1 29 j ≠ zi p) : ∀ (f i : Nat) (li : Nat → Int32) (ll : Nat → Int64), k - i ≤ f → i ≤ k → li 1 = zi p → li 2 = zi i → u g_t147 2 (li, ll, [(0, 30)]) [] s = some (some (.inl (zi k)), s) := by
  intro f
  have stop : ∀ (i : Nat) (li : Nat → Int32) (ll : Nat → Int64), i = k → li 1 = zi p → li 2 = zi i → u g_t147 2 (li, ll, [(0, 30)]) [] s = some (some (.inl (zi k)), s) := by
    intro i li ll hi h2 h3
    subst hi
    rw [b_147_2, h3, h1, if_pos ((zi_lt (by omega) (by omega)).mpr hk), if_pos ((u_inz (by omega)).mpr (by omega)), zi_clamp (by omega), hp, h2, if_pos rfl]
  induction f with
  | zero =>
    intro i li ll hf hi h2 h3
    exact stop i li ll (by omega) h2 h3
  | succ f ih =>
    intro i li ll hf hi h2 h3
    by_cases q : i < k
    · rw [b_147_2, h3, h1, if_pos ((zi_lt (by omega) (by omega)).mpr (by omega)), if_pos ((u_inz (by omega)).mpr (by omega)), zi_clamp (by omega), h2, if_neg (hno i q), zi_one]
      exact ih (i + 1) _ _ (by omega) (by omega) ((u_l1N (by omega)).trans h2) (u_l1E _ _ _)
    · exact stop i li ll (by omega) h2 h3
theorem c_place {z k p : Nat} (hz : z ≤ 7) (hk : k < z) {s : u_H} (h1 : s.1 28 1 = zi z) (hp : s.1 29 k = zi p) (hno : ∀ j, j < k → s.1 29 j ≠ zi p) : u_c 147 [.inr (.inr 30), .inl (zi p)] s = some (some (.inl (zi k)), s) := by
  rw [b_147]
  exact c147_2 hz hk h1 hp hno 7 0 _ _ (by omega) (Nat.zero_le _) rfl rfl
/-- what a length writes in the class -/
def fLc (W o : Nat) : Prop := (36 ≤ o ∧ o ≤ 41) ∨ o = W + 8 ∨ o = W + 9
theorem fLc_a {o k : Nat} (hW : W = 5 ∨ W = 17) (h : fLc W o) : ¬ aWc W o k := fun q => by
  unfold aWc at q
  unfold fLc at h
  omega
/-- how long one in the queue takes now, both sides: where its SHIP is not gone -/
theorem lenNow (hW : W = 5 ∨ W = 17) {a b R w z k p v : Nat} {c : List Int} {l : Bool} {sC sM : u_H} (J : jR W a b R w c l sC sM) (hz : nR sC.1 18 = zi z) (hzb : z ≤ b) (hk : k < z) (hp : p < b) (hkp : sC.1 29 k = zi p) (hv : v < a) (hpv : sM.1 82 p = zi v) (hg : sM.1 86 26 < sLm sM.1 v) : ∃ t s2 t2, 1 ≤ t ∧ t ≤ 60 ∧ u_c 42 [.inr (.inr 2), .inl (zi p)] sC = some (some (.inl (zi t)), s2) ∧ u_c 250 [.inr (.inr 67), .inl (zi p), .inl (zi (z - 1 - k))] sM = some (some (.inl (zi t)), t2) ∧ u_fi (fun o _ => fLc W o) sC s2 ∧ u_fr (fun o _ => o = 73 ∨ o = 74) sM t2 := by
  obtain ⟨J1, J2, J3⟩ := J
  obtain ⟨⟨A1, A2, A3, A4⟩, ⟨A5, A6, A7, A8, A9, A10, A11⟩, A12, A13, ⟨A14, A15, A16, A17, A18, A19⟩, A20⟩ := J2
  have hz1 : sC.1 28 1 = zi z := hz
  obtain ⟨s1, o1, o2, o3, o4, o5, o6, ⟨o7, o8, o9, o10, o11, o12⟩, o13⟩ := c_open hW A1 A2 (s := sC) A5 A6
  obtain ⟨⟨v', v1, v2, v3⟩, n4, n5⟩ := A13 p hp
  have ev' : v' = v := (zi_inj (by omega) (by omega)).mp (v3.symm.trans hpv)
  subst ev'
  obtain ⟨b1, b2⟩ := A12 v' hv
  obtain ⟨S1, S2, S3, ⟨t, t1, t2, t3⟩, S5⟩ := J3.2.2.1
  have nk : ∀ o k, ¬ (36 ≤ o ∧ o ≤ 41) → s1.1 o k = sC.1 o k := o2
  have hno : ∀ j, j < k → s1.1 29 j ≠ zi p := fun j hj e => by
    rw [nk 29 j (by omega)] at e
    obtain ⟨z', x1, -, x2, -, -, x6, -⟩ := J3.1
    have ez : z' = z := (zi_inj (by omega) (by omega)).mp (x2.symm.trans hz)
    subst ez
    have := x6 j k (by omega) hk (by rw [nRl (by omega), nRl (by omega)]; exact e.trans hkp.symm)
    omega
  obtain ⟨r, s2, t2', r1, r2, r3, r4, r5, r6⟩ := len_alike hW (p := p) (v := v') (t := t) (w := w) (c := c) (l := l) (sC := s1) (sM := sM) (bh := zi (z - 1 - k)) (by rw [o3]) (by omega) (by omega) t1 ((nk (W + 3) p (by omega)).trans v2) hpv ((o4 p (by omega)).2.trans n4) ((nk (W + 5) p (by omega)).trans n5) (o8.trans A8) t3 A11 (by rw [o6 v' hv]; exact sLvm S2 b1 b2) (by rw [← t3]; exact hg) (o7.trans S1) A14 ⟨(nk _ _ (by omega)).trans A15.1, fun j x hx => (nk _ _ (by omega)).trans (A15.2 j x hx)⟩ A16 A17 A18 A19
  refine ⟨r, s2, t2', r1, r2, ?_, r4, ?_, r6⟩
  · rw [b_42, b_52 hW, if_pos J1, o1, u_bvS, u_bvS, c_place (by omega) hk ((nk 28 1 (by omega)).trans hz1) ((nk 29 k (by omega)).trans hkp) hno, u_biS, (nk 28 1 (by omega)).trans hz1, (nk 28 8 (by omega)).trans (show sC.1 28 8 = zi t from t2), show Int32.ofInt 1 = zi 1 from rfl, zi_sub (by omega), zi_sub (by omega), r3, u_biS]
  · refine u_fi.tr (s2 := s1) ⟨fun o j h => o2 o j (fun q => h (Or.inl q)), by rw [o3]⟩ (r5.fi.mono (fun o j q => Or.inr q))
/-- one of the queue steps up -/
theorem aR_up {b R z r p t : Nat} {c m c2 m2 : Nat → Int32} (hb : b ≤ 7) (H : aR b R c m) (hz : c 18 = zi z) (hzb : z ≤ b) (h0 : 0 < z) (hp : p < b) (hkp : c 0 = zi p) (hr : r < R) (hr2 : r < 2) (t1 : 1 ≤ t) (t2 : t ≤ 100) (s1 : c2 18 = zi (z - 1)) (s2 : m2 8 = zi (z - 1)) (l1 : ∀ i, i < z - 1 → c2 i = c (i + 1)) (l2 : ∀ i, i < z - 1 → m2 i = m (i + 1)) (q1 : ∀ j, j < b → j ≠ p → c2 (7 + j) = c (7 + j) ∧ m2 (9 + j) = m (9 + j)) (q2 : c2 (7 + p) = zi 1 ∧ m2 (9 + p) = zi 1) (e1 : c2 (14 + r) = zi p ∧ m2 (18 + r) = zi p) (e2 : c2 (16 + r) = zi t ∧ m2 (21 + r) = zi t) (e3 : ∀ j, j < 2 → j ≠ r → (c2 (14 + j) = c (14 + j) ∧ m2 (18 + j) = m (18 + j)) ∧ c2 (16 + j) = c (16 + j) ∧ m2 (21 + j) = m (21 + j)) (e4 : m2 20 = m 20 ∧ m2 23 = m 23) (o1 : ∀ i, 19 ≤ i → i < 23 → c2 i = c i) (o2 : ∀ i, i = 17 ∨ (24 ≤ i ∧ i < 27) → m2 i = m i) (hw : c2 23 = m2 27) : aR b R c2 m2 := by
  obtain ⟨H1, H2, H3, H4⟩ := H
  obtain ⟨p', p1, p2, p3, p4⟩ := aQ_at hb H1 hz hzb h0
  have ep : p' = p := (zi_inj (by omega) (by omega)).mp (p2.symm.trans hkp)
  subst ep
  refine ⟨aQ_out (k := 0) hb H1 hz hzb h0 hp hkp (h := 1) (by omega) (by omega) s1 s2 (fun i hi => by rw [if_neg (by omega)]; exact l1 i hi) (fun i hi => by rw [if_neg (by omega)]; exact l2 i hi) (fun j x y => (q1 j x y).1) q2.1, aH_set H2 (by omega) q1 q2, ?_, aL_up H4 hr hr2 hp hb t1 t2 p4 e1 e2 e3 e4 q2.1 (fun j x y => (q1 j x y).1)⟩
  obtain ⟨a1, a2, a3, ⟨t, t1, t2, t3⟩, a5⟩ := H3
  refine ⟨?_, ?_, ?_, ⟨t, t1, ?_, ?_⟩, hw⟩
  · rw [o1 19 (by omega) (by omega), o2 17 (by omega)]; exact a1
  · rw [o1 20 (by omega) (by omega), o2 24 (by omega)]; exact a2
  · rw [o1 21 (by omega) (by omega), o2 25 (by omega)]; exact a3
  · rw [o1 22 (by omega) (by omega)]; exact t2
  · rw [o2 26 (by omega)]; exact t3
end FILL
