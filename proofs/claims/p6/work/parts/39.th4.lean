/-! WHAT IS ALIKE ON BOTH SIDES: what was told -/
section ALIKE
def mD (o k : Nat) : Prop := (o = 65 ∧ (k = 18 ∨ k = 21 ∨ k = 25 ∨ (47 ≤ k ∧ k ≤ 52))) ∨ (o = 70 ∧ k < 320) ∨ (o = 71 ∧ k < 320) ∨ (o = 80 ∧ k < 5) ∨ (o = 81 ∧ k < 5) ∨ (o = 82 ∧ k < 7) ∨ (o = 83 ∧ k < 7) ∨ (o = 84 ∧ k < 7)
theorem mD_T {o k : Nat} (h : mD o k) : zT o k := by
  unfold mD at h
  rcases h with ⟨rfl, h⟩ | ⟨rfl, h⟩ | ⟨rfl, h⟩ | ⟨rfl, h⟩ | ⟨rfl, h⟩ | ⟨rfl, h⟩ | ⟨rfl, h⟩ | ⟨rfl, h⟩
  · rcases (show k = 18 ∨ k = 21 ∨ k = 25 ∨ k = 47 ∨ k = 48 ∨ k = 49 ∨ k = 50 ∨ k = 51 ∨ k = 52 by omega) with rfl | rfl | rfl | rfl | rfl | rfl | rfl | rfl | rfl <;> exact ⟨⟨_, rfl, by decide⟩, rfl⟩
  · exact zT_a rfl h (by decide) (by decide)
  · exact zT_a rfl h (by decide) (by decide)
  · exact zT_a rfl h (by decide) (by decide)
  · exact zT_a rfl h (by decide) (by decide)
  · exact ⟨⟨_, rfl, (show k < 8 by omega)⟩, u_k0 (o := 82) rfl (by decide) (by decide) k⟩
  · exact ⟨⟨_, rfl, (show k < 8 by omega)⟩, u_k0 (o := 83) rfl (by decide) (by decide) k⟩
  · exact ⟨⟨_, rfl, (show k < 8 by omega)⟩, u_k0 (o := 84) rfl (by decide) (by decide) k⟩
/-- the formula told, alike -/
def aG (g : Nat → Nat → Int32) (T : Nat) : Prop := ∃ (c : List Int) (w : Nat) (l : Bool), (c.length ≤ 270 ∧ (l = true → fV c w)) ∧ (g (T + 6) 3 = zi c.length ∧ g (T + 6) 4 = zi w ∧ ∀ k x, c[k]? = some x → g (T + 7) k = Int32.ofInt x) ∧ g 65 18 = zi c.length ∧ g 65 21 = zi w ∧ g 65 25 = zb l ∧ (l = false → c = []) ∧ ∀ k x, c[k]? = some x → g 70 k = (ms x).1 ∧ g 71 k = (ms x).2
/-- what was told, alike: in the Told T, and in the model -/
def aT (g : Nat → Nat → Int32) (T a b : Nat) : Prop := a ≤ 5 ∧ b ≤ 7 ∧ (g (T - 2) 0 = zi a ∧ g 65 47 = zi a ∧ g (T - 2) 4 = zi b ∧ g 65 48 = zi b) ∧ (∀ k, k < a → g T k = g 80 k ∧ g (T + 1) k = g 81 k) ∧ (∀ k, k < b → (∃ v, v < a ∧ g (T + 3) k = zi v ∧ g 82 k = zi v) ∧ g (T + 5) k = g 84 k ∧ g (T + 4) k = g 83 k) ∧ (∃ x y q d, (1 ≤ x ∧ x ≤ 60 ∧ g (T - 2) 9 = zi x ∧ g 65 49 = zi x) ∧ (1 ≤ y ∧ y ≤ 2 ∧ g (T - 2) 10 = zi y ∧ g 65 50 = zi y) ∧ (q ≤ 100 ∧ g (T - 2) 11 = zi q ∧ g 65 51 = zi q) ∧ (d ≤ 999 ∧ g (T - 2) 12 = zi d ∧ g 65 52 = zi d)) ∧ aG g T
theorem aT_fr {g g2 : Nat → Nat → Int32} {T a b : Nat} (h : aT g T a b) (e : ∀ o k, (qD T o k ∨ mD o k) → g2 o k = g o k) : aT g2 T a b := by
  obtain ⟨h1, h2, ⟨h3, h4, h5, h6⟩, h7, h8, ⟨x, y, q, d, ⟨x1, x2, x3, x4⟩, ⟨y1, y2, y3, y4⟩, ⟨q1, q2, q3⟩, d1, d2, d3⟩, c, w, l, c0, ⟨c1, c2, c3⟩, c4, c5, c6, c7, c8⟩ := h
  have c00 := c0.1
  have eC : ∀ o k, qD T o k → g2 o k = g o k := fun o k z => e o k (Or.inl z)
  have eM : ∀ o k, mD o k → g2 o k = g o k := fun o k z => e o k (Or.inr z)
  have hlt : ∀ {k : Nat} {z : Int}, c[k]? = some z → k < c.length := by
    intro k z hz
    rcases Nat.lt_or_ge k c.length with p | p
    · exact p
    · rw [List.getElem?_eq_none p] at hz
      cases hz
  refine ⟨h1, h2, ⟨?_, ?_, ?_, ?_⟩, fun k hk => ?_, fun k hk => ?_, ⟨x, y, q, d, ⟨x1, x2, ?_, ?_⟩, ⟨y1, y2, ?_, ?_⟩, ⟨q1, ?_, ?_⟩, d1, ?_, ?_⟩, c, w, l, c0, ⟨?_, ?_, fun k z hz => ?_⟩, ?_, ?_, ?_, c7, fun k z hz => ?_⟩
  · rw [eC _ _ (by unfold qD; omega)]; exact h3
  · rw [eM _ _ (by unfold mD; omega)]; exact h4
  · rw [eC _ _ (by unfold qD; omega)]; exact h5
  · rw [eM _ _ (by unfold mD; omega)]; exact h6
  · rw [eC T k (by unfold qD; omega), eC (T + 1) k (by unfold qD; omega), eM 80 k (by unfold mD; omega), eM 81 k (by unfold mD; omega)]
    exact h7 k hk
  · rw [eC (T + 3) k (by unfold qD; omega), eC (T + 4) k (by unfold qD; omega), eC (T + 5) k (by unfold qD; omega), eM 82 k (by unfold mD; omega), eM 83 k (by unfold mD; omega), eM 84 k (by unfold mD; omega)]
    exact h8 k hk
  · rw [eC _ _ (by unfold qD; omega)]; exact x3
  · rw [eM _ _ (by unfold mD; omega)]; exact x4
  · rw [eC _ _ (by unfold qD; omega)]; exact y3
  · rw [eM _ _ (by unfold mD; omega)]; exact y4
  · rw [eC _ _ (by unfold qD; omega)]; exact q2
  · rw [eM _ _ (by unfold mD; omega)]; exact q3
  · rw [eC _ _ (by unfold qD; omega)]; exact d2
  · rw [eM _ _ (by unfold mD; omega)]; exact d3
  · rw [eC _ _ (by unfold qD; omega)]; exact c1
  · rw [eC _ _ (by unfold qD; omega)]; exact c2
  · have := hlt hz
    rw [eC (T + 7) k (by unfold qD; omega)]; exact c3 k z hz
  · rw [eM _ _ (by unfold mD; omega)]; exact c4
  · rw [eM _ _ (by unfold mD; omega)]; exact c5
  · rw [eM _ _ (by unfold mD; omega)]; exact c6
  · have := hlt hz
    rw [eM 70 k (by unfold mD; omega), eM 71 k (by unfold mD; omega)]
    exact c8 k z hz
/-- what the reading leaves alone in the model -/
def mX (o k : Nat) : Prop := 65 ≤ o ∧ ¬ fMR o k
/-- good reading: both sides keep what was told alike -/
theorem aT_of {R a b m F : Nat} {l : Bool} {tq tm t3 : u_H} {g : Nat → Nat → Int32} (hD : jD R a b m tq tm) (hl : fB m 1 = l) (hF0 : l = false → F = 0) (hF1 : l = true → tm.1 65 17 = zi F ∧ F ≤ 320) (hK : mK a b F l tm t3) (eC : ∀ o k, qD R o k → g o k = tq.1 o k) (eM : ∀ o k, mD o k → g o k = t3.1 o k) : aT g R a b := by
  obtain ⟨⟨NS, NP, ⟨s1, s2, s3, s4, s5, s6, s7⟩, ⟨p1, p2, p3, p4, p5, p7⟩⟩, -, hk, hG⟩ := hD
  obtain ⟨⟨k1, k2, k3, k4, k5, k6⟩, ⟨n1, n2, n3, n4⟩, r1, r2, -, -, -⟩ := hK
  have key : ∀ j, j < 5 → j ≠ 1 → ∃ x, kl j ≤ x ∧ x ≤ kh j ∧ tq.1 (R - 2) (kc j) = zi x ∧ tm.1 65 (kc j + 34) = zi x := hk
  obtain ⟨x, x1, x2, x3, x4⟩ := key 4 (by omega) (by omega)
  obtain ⟨y, y1, y2, y3, y4⟩ := key 0 (by omega) (by omega)
  obtain ⟨q, q1, q2, q3, q4⟩ := key 2 (by omega) (by omega)
  obtain ⟨d, d1, d2, d3, d4⟩ := key 3 (by omega) (by omega)
  refine ⟨s1, p1, ⟨?_, ?_, ?_, ?_⟩, fun k hk => ?_, fun k hk => ?_, ⟨x, y, q, d, ⟨x1, x2, ?_, ?_⟩, ⟨y1, y2, ?_, ?_⟩, ⟨q2, ?_, ?_⟩, d2, ?_, ?_⟩, ?_⟩
  · rw [eC _ _ (by unfold qD; omega)]; exact s2
  · rw [eM _ _ (by unfold mD; omega)]; exact k1
  · rw [eC _ _ (by unfold qD; omega)]; exact p2
  · rw [eM _ _ (by unfold mD; omega)]; exact k2
  · obtain ⟨z1, z2⟩ := s7 k hk
    obtain ⟨w1, w2⟩ := r1 k hk
    rw [eC R k (by unfold qD; omega), eC (R + 1) k (by unfold qD; omega), eM 80 k (by unfold mD; omega), eM 81 k (by unfold mD; omega), w1, w2]
    exact ⟨z1, z2⟩
  · obtain ⟨⟨v, z1, z2, z3⟩, z4, z5⟩ := p7 k hk
    obtain ⟨w1, w2, w3⟩ := r2 k hk
    rw [eC (R + 3) k (by unfold qD; omega), eC (R + 4) k (by unfold qD; omega), eC (R + 5) k (by unfold qD; omega), eM 82 k (by unfold mD; omega), eM 83 k (by unfold mD; omega), eM 84 k (by unfold mD; omega), w1, w2, w3]
    exact ⟨⟨v, z1, z2, z3⟩, z5, z4⟩
  · rw [eC _ _ (by unfold qD; omega)]; exact x3
  · rw [eM _ _ (by unfold mD; omega), k3]; exact x4
  · rw [eC _ _ (by unfold qD; omega)]; exact y3
  · rw [eM _ _ (by unfold mD; omega), k4]; exact y4
  · rw [eC _ _ (by unfold qD; omega)]; exact q3
  · rw [eM _ _ (by unfold mD; omega), k5]; exact q4
  · rw [eC _ _ (by unfold qD; omega)]; exact d3
  · rw [eM _ _ (by unfold mD; omega), k6]; exact d4
  · rcases hG with ⟨g1, ⟨g2, g3, -⟩, g5⟩ | ⟨g1, c, w, g0, ⟨g2, g3, g4⟩, g5, g6⟩
    · have e : l = false := hl.symm.trans g1
      have hF2 : F = 0 := hF0 e
      refine ⟨[], 0, l, ⟨Nat.zero_le _, fun z => by rw [e] at z; cases z⟩, ⟨?_, ?_, fun k z hz => by cases hz⟩, ?_, ?_, ?_, fun _ => rfl, fun k z hz => by cases hz⟩
      · rw [eC _ _ (by unfold qD; omega)]; exact g2
      · rw [eC _ _ (by unfold qD; omega)]; exact g3
      · rw [eM _ _ (by unfold mD; omega), n3, hF2]
        rfl
      · rw [eM _ _ (by unfold mD; omega), n1]; exact g5
      · rw [eM _ _ (by unfold mD; omega)]; exact n2
    · have e : l = true := hl.symm.trans g1
      have g00 := g0.1
      have hFc : F = c.length := by
        obtain ⟨f1, f2⟩ := hF1 e
        exact (zi_inj (by omega) (by omega)).mp (f1.symm.trans g5.1)
      have hlt : ∀ {k : Nat} {z : Int}, c[k]? = some z → k < c.length := by
        intro k z hz
        rcases Nat.lt_or_ge k c.length with p | p
        · exact p
        · rw [List.getElem?_eq_none p] at hz
          cases hz
      refine ⟨c, w, l, ⟨g0.1, fun _ => g0.2⟩, ⟨?_, ?_, fun k z hz => ?_⟩, ?_, ?_, ?_, fun z => ?_, fun k z hz => ?_⟩
      · rw [eC _ _ (by unfold qD; omega)]; exact g2
      · rw [eC _ _ (by unfold qD; omega)]; exact g3
      · have := hlt hz
        rw [eC (R + 7) k (by unfold qD; omega)]; exact g4 k z hz
      · rw [eM _ _ (by unfold mD; omega), n3, hFc]
      · rw [eM _ _ (by unfold mD; omega), n1]; exact g6
      · rw [eM _ _ (by unfold mD; omega)]; exact n2
      · rw [e] at z
        cases z
      · have hk2 := hlt hz
        rw [eM 70 k (by unfold mD; omega), eM 71 k (by unfold mD; omega)]
        obtain ⟨w1, w2⟩ := n4 k (by omega)
        rw [w1, w2]
        exact g5.2 k z hz
/-- quay, on both sides -/
theorem q_alike {R : Nat} {s s2 s3 : y_H} {v v3 : Option (q_V Int32)} (hR : R = 5 ∨ R = 17) (hg : jX s.1) (hx : ∃ (x1 : Int32) (tq : u_H), u_c 115 [.inr (.inr 29), .inr (.inr R)] (uP s) = some (some (.inl x1), tq) ∧ (s2.1 27 8 = tq.1 27 8 ∧ s2.1 27 9 = tq.1 27 9) ∧ ((x1 = 0 ∧ v = some (.inl (Int32.ofInt (-1))) ∧ z3_F R s s2) ∨ (x1 ≠ 0 ∧ v = some (.inl (tq.1 (R - 2) 4)) ∧ z3_G R tq s s2))) (h2 : ∀ o k, 65 ≤ o → zT o k → s2.1 o k = s.1 o k) (h3 : ∀ o k, o ≤ 64 → zT o k → s3.1 o k = s2.1 o k) (hm : ∃ t3, u_c 275 [.inr (.inr 67)] (uP s2) = some (v3, t3) ∧ zA t3 s3) : (v = v3 ∧ s2.1 27 8 = s3.1 65 2 ∧ s2.1 27 9 = s3.1 65 3) ∧ ((z3_F R s s2 ∧ (∀ o k, 65 ≤ o → zT o k → ¬ fMR o k → s3.1 o k = s.1 o k)) ∨ (∃ a b d tq, aT s3.1 R a b ∧ z3_G R tq s s2 ∧ tq.1 (R - 2) 4 = zi b ∧ tq.1 (R - 2) 12 = d ∧ (∀ k, k < 28 → s3.1 85 k = lay b d k) ∧ (s3.1 65 66 = 0 ∧ s3.1 65 67 = 0 ∧ s3.1 65 78 = 0 ∧ s3.1 65 70 = 0 ∧ ∀ k, k < 3 → s3.1 104 k = 0) ∧ s3.1 65 79 = s.1 65 79)) := by
  obtain ⟨x1, tq, e1, ⟨e3, e4⟩, hx⟩ := hx
  obtain ⟨t3, m1, m2⟩ := hm
  obtain ⟨⟨N, hX⟩, -, -⟩ := hg
  have hT := jX_T hX
  obtain ⟨n1, n2, n3, n4⟩ := hX
  have z65 : ∀ k, (k = 1 ∨ k = 2 ∨ k = 3 ∨ k = 66 ∨ k = 67 ∨ k = 78 ∨ k = 79 ∨ k = 70) → zT 65 k := fun k hk => by
    rcases hk with rfl | rfl | rfl | rfl | rfl | rfl | rfl | rfl <;> exact ⟨⟨_, rfl, by decide⟩, rfl⟩
  have hM6 : ∀ k, k < N → (uP s2).1 66 k = jch s.1 N k := fun k hk => by
    show s2.1 66 k = _
    rw [h2 66 k (by omega) (zT_a rfl (by omega) (by decide) (by decide))]
    unfold jch
    rw [if_pos hk]
  have hM1 : (uP s2).1 65 1 = zi N := (h2 65 1 (by omega) (z65 1 (by omega))).trans n3
  cases hr : u_c 281 [.inr (.inr 67)] (uP s2) with
  | none =>
    rw [b_275, hr] at m1
    cases m1
  | some r =>
    obtain ⟨v5, s5, r1, r2, r3, r4, r5, r6, r7⟩ := p_read hR hT (sC := uP s) (sM := uP s2) (jX_C (s := uP s) ⟨n1, n2, n3, n4⟩) hM1 hM6 hr
    obtain ⟨rv, tm⟩ := r
    have r2 : rv = none := r2
    subst r2
    have r5 : u_fr fMR (uP s2) tm := r5
    rw [r1] at e1
    have e1 := Option.some.inj e1
    have e5 : v5 = x1 := by
      have := congrArg Prod.fst e1
      injection this with this
      injection this
    have e6 : s5 = tq := congrArg Prod.snd e1
    subst e5 e6
    rcases r7 with ⟨f, q, q1, q2⟩ | ⟨q1, q2, q3, q4, q5, a, b, m, q6⟩
    · obtain ⟨f1, f5, hq, k1, k2, k3, k4, k5⟩ := q2
      have k4 : tm.1 65 2 = zi f := k4
      have k5 : tm.1 65 3 = zi q := k5
      rw [b_275, hr, u_bvS, if_pos (by rw [k4]; exact zf_pos f1 f5)] at m1
      have em := Option.some.inj m1
      have ev : (some (Sum.inl (u_k (-1))) : Option (q_V Int32)) = v3 := congrArg Prod.fst em
      have et : tm = t3 := congrArg Prod.snd em
      subst et
      rcases hx with ⟨-, hv, hF⟩ | ⟨hne, -, -⟩
      · refine ⟨⟨?_, ?_, ?_⟩, Or.inl ⟨hF, fun o k ho hz hn => ?_⟩⟩
        · rw [hv, ← ev, u_k_eq]
        · rw [e3, k1, ← zT_A (z65 2 (by omega)) m2, k4]
        · rw [e4, k2, ← zT_A (z65 3 (by omega)) m2, k5]
        · rw [← zT_A hz m2, r5.i hn]
          exact h2 o k ho hz
      · exact absurd (q1.trans rfl) hne
    · have q4 : tm.1 65 2 = 0 := q4
      have q5 : tm.1 65 3 = u_k (-1) := q5
      have q6 : jD R a b m s5 tm := q6
      rcases hx with ⟨h0, -, -⟩ | ⟨-, hv, hG⟩
      · rw [q1] at h0
        exact absurd h0 (by decide)
      have q6' := q6
      obtain ⟨⟨NS, NP, c1, c2⟩, c3, c4, c5⟩ := q6'
      obtain ⟨c, hc, h17⟩ : ∃ c : Nat, c ≤ 320 ∧ (fB m 1 = true → tm.1 65 17 = zi c) := by
        rcases c5 with ⟨g1, -⟩ | ⟨g1, l, w, g0, -, g5, -⟩
        · exact ⟨0, by omega, fun z => by rw [g1] at z; cases z⟩
        · exact ⟨l.length, (by have := g0.1; omega), fun _ => g5.1⟩
      obtain ⟨t, u1, u2⟩ := m_quayU (a := a) (b := b) (c := c) (l := fB m 1) hr q4 c1.1 c2.1 hc c1.2.2.1 c2.2.2.1 (c3.2.2 1 (by omega)) h17
      rw [u1] at m1
      have em := Option.some.inj m1
      have ev : (some (Sum.inl (zi b)) : Option (q_V Int32)) = v3 := congrArg Prod.fst em
      have et : t = t3 := congrArg Prod.snd em
      subst et
      have hAT : aT s3.1 R a b := by
        refine aT_of q6 rfl (F := bif fB m 1 then c else 0) (fun z => ?_) (fun z => ?_) u2 (fun o k z => ?_) (fun o k z => (zT_A (mD_T z) m2).symm)
        · rw [z, cond_false]
        · rw [z, cond_true]
          exact ⟨h17 z, hc⟩
        · rw [h3 o k (by unfold qD at z; omega) (qD_T hR z)]
          exact hG.1 o k z
      refine ⟨⟨?_, ?_, ?_⟩, Or.inr ⟨a, b, s5.1 (R - 2) 12, s5, hAT, hG, c2.2.1, rfl, fun k hk => ?_, ⟨?_, ?_, ?_, ?_, fun k hk => ?_⟩, ?_⟩⟩
      · rw [hv, ← ev, c2.2.1]
      · rw [e3, q2, ← zT_A (z65 2 (by omega)) m2, u2.2.2.2.2.2.2.i (by unfold fMQ; omega), q4]
      · rw [e4, q3, ← zT_A (z65 3 (by omega)) m2, u2.2.2.2.2.2.2.i (by unfold fMQ; omega), q5]
      · rw [← zT_A (zT_a (o := 85) rfl hk (by decide) (by decide)) m2, u2.2.2.2.2.1 k hk]
        obtain ⟨d, d1, d2, d3, d4⟩ := c4 3 (by omega) (by omega)
        have e46 : tm.1 65 46 = s5.1 (R - 2) 12 := d4.trans d3.symm
        rw [e46]
      · rw [← zT_A (z65 66 (by omega)) m2]; exact u2.2.2.2.2.2.1.1
      · rw [← zT_A (z65 67 (by omega)) m2]; exact u2.2.2.2.2.2.1.2.1
      · rw [← zT_A (z65 78 (by omega)) m2]; exact u2.2.2.2.2.2.1.2.2.1
      · rw [← zT_A (z65 70 (by omega)) m2]; exact u2.2.2.2.2.2.1.2.2.2.1
      · rw [← zT_A (zT_a (o := 104) rfl hk (by decide) (by decide)) m2]; exact u2.2.2.2.2.2.1.2.2.2.2 k hk
      · rw [← zT_A (z65 79 (by omega)) m2, u2.2.2.2.2.2.2.i (by unfold fMQ; omega), r5.i (by unfold fMR fML; omega)]
        exact h2 65 79 (by omega) (z65 79 (by omega))
end ALIKE
