/-! ALL THAT IS ALIKE, the state too -/
section JS
/-- the boxes -/
def sbC (o k : Nat) : Prop := (o = 35 ∧ k < 72) ∨ (o = 0 ∧ k = 7)
def sbM (o k : Nat) : Prop := (o = 104 ∧ k < 3) ∨ (o = 105 ∧ k < 84)
/-- the state's slots, of both sides -/
def sS (o k : Nat) : Prop := stC o k ∨ sbC o k ∨ smA o k ∨ sbM o k
theorem sbC_T {o k : Nat} (h : sbC o k) : zT o k := by
  rcases h with h | ⟨rfl, rfl⟩
  · exact qP_T (Or.inr (Or.inr (Or.inl h)))
  · exact ⟨⟨_, rfl, by decide⟩, rfl⟩
theorem sbM_T {o k : Nat} (h : sbM o k) : zT o k := by
  rcases h with ⟨rfl, h⟩ | ⟨rfl, h⟩
  · exact zT_a rfl h (by decide) (by decide)
  · exact zT_a rfl h (by decide) (by decide)
theorem sS_T {o k : Nat} (h : sS o k) : zT o k := by
  rcases h with h | h | h | h
  · exact stC_T h
  · exact sbC_T h
  · exact smA_T h
  · exact sbM_T h
def l_rcB : List (Nat × Nat) := [(71, 71), (143424, 143495)]
def l_rmS : List (Nat × Nat) := [(266370, 266371), (348224, 348251), (372800, 373919)]
def l_rmB : List (Nat × Nat) := [(426048, 426050), (430144, 430227)]
theorem sbC_fr {K : List (Nat × Nat)} {s s2 : y_H} {o k : Nat} (h : sbC o k) (hf : y_fr g_sh K s s2) (hK : l_kR l_rcB K = true) : s2.1 o k = s.1 o k := by
  have hr : ∃ r, r ∈ l_rcB ∧ r.1 ≤ w_key o k ∧ w_key o k ≤ r.2 := by
    unfold w_key
    rcases h with ⟨rfl, h⟩ | ⟨rfl, rfl⟩
    · exact ⟨(143424, 143495), by decide, by show 143424 ≤ _; omega, by show _ ≤ 143495; omega⟩
    · exact ⟨(71, 71), by decide, by decide, by decide⟩
  obtain ⟨r, h1, h2, h3⟩ := hr
  exact zT_fr (sbC_T h) hf (l_kR_ok hK h1 h2 h3)
theorem sbM_fr {K : List (Nat × Nat)} {s s2 : y_H} {o k : Nat} (h : sbM o k) (hf : y_fr g_sh K s s2) (hK : l_kR l_rmB K = true) : s2.1 o k = s.1 o k := by
  have hr : ∃ r, r ∈ l_rmB ∧ r.1 ≤ w_key o k ∧ w_key o k ≤ r.2 := by
    unfold w_key
    rcases h with ⟨rfl, h⟩ | ⟨rfl, h⟩
    · exact ⟨(426048, 426050), by decide, by show 426048 ≤ _; omega, by show _ ≤ 426050; omega⟩
    · exact ⟨(430144, 430227), by decide, by show 430144 ≤ _; omega, by show _ ≤ 430227; omega⟩
  obtain ⟨r, h1, h2, h3⟩ := hr
  exact zT_fr (sbM_T h) hf (l_kR_ok hK h1 h2 h3)
def l_kS (K : List (Nat × Nat)) : Bool := l_kR l_rcS K && (l_kR l_rcB K && (l_kR l_rmS K && l_kR l_rmB K))
theorem s_at {K : List (Nat × Nat)} {s s2 : y_H} (hf : y_fr g_sh K s s2) (hK : l_kS K = true) {o k : Nat} (h : sS o k) : s2.1 o k = s.1 o k := by
  unfold l_kS at hK
  simp only [Bool.and_eq_true] at hK
  obtain ⟨k1, k2, k3, k4⟩ := hK
  rcases h with h | h | h | h
  · exact st_fr h hf k1
  · exact sbC_fr h hf k2
  · exact smA_fr h hf k3
  · exact sbM_fr h hf k4
/-- what was told, as the acts ask for it -/
theorem tW_of {g : Nat → Nat → Int32} {T a b : Nat} (h : aT g T a b) : ∃ R w c l, g 65 50 = zi R ∧ R ≤ 2 ∧ tW T a b R w c l g g := by
  obtain ⟨h1, h2, ⟨h3, h4, h5, h6⟩, h7, h8, ⟨x, y, q, d, ⟨x1, x2, x3, x4⟩, ⟨y1, y2, y3, y4⟩, ⟨q1, q2, q3⟩, d1, d2, d3⟩, c, w, l, ⟨c0, c9⟩, ⟨c1, c2, c3⟩, c4, c5, c6, c7, c8⟩ := h
  exact ⟨y, w, c, l, y4, y2, ⟨h1, h2, y1, y2⟩, ⟨h3, h5, y3, x3.trans x4.symm, q2.trans q3.symm, y4⟩, h7, fun k hk => ⟨(h8 k hk).1, (h8 k hk).2.2, (h8 k hk).2.1⟩, c0, ⟨c1, c3⟩, ⟨c4, c8⟩, c6, c7, c9⟩
theorem tW_fr {W a b R w : Nat} {c : List Int} {l : Bool} {f g f2 g2 : Nat → Nat → Int32} (h : tW W a b R w c l f g) (e1 : ∀ o k, qD W o k → f2 o k = f o k) (e2 : ∀ o k, mD o k → g2 o k = g o k) : tW W a b R w c l f2 g2 := by
  obtain ⟨h1, ⟨h2, h3, h4, h5, h6, h7⟩, h9, h10, h11, h12, h13, h14, h15, h16⟩ := h
  have ha := h1.1
  have hb := h1.2.1
  have hlt : ∀ {k : Nat} {z : Int}, c[k]? = some z → k < 270 := by
    intro k z hz
    rcases Nat.lt_or_ge k c.length with p | p
    · omega
    · rw [List.getElem?_eq_none p] at hz
      cases hz
  refine ⟨h1, ⟨?_, ?_, ?_, ?_, ?_, ?_⟩, fun k hk => ?_, fun k hk => ?_, h11, ⟨?_, fun k x hx => ?_⟩, ⟨?_, fun k x hx => ?_⟩, ?_, h15, h16⟩
  · rw [e1 _ _ (by unfold qD; omega)]; exact h2
  · rw [e1 _ _ (by unfold qD; omega)]; exact h3
  · rw [e1 _ _ (by unfold qD; omega)]; exact h4
  · rw [e1 _ _ (by unfold qD; omega), e2 65 49 (by unfold mD; omega)]; exact h5
  · rw [e1 _ _ (by unfold qD; omega), e2 65 51 (by unfold mD; omega)]; exact h6
  · rw [e2 65 50 (by unfold mD; omega)]; exact h7
  · rw [e1 W k (by unfold qD; omega), e1 (W + 1) k (by unfold qD; omega), e2 80 k (by unfold mD; omega), e2 81 k (by unfold mD; omega)]
    exact h9 k hk
  · rw [e1 (W + 3) k (by unfold qD; omega), e1 (W + 4) k (by unfold qD; omega), e1 (W + 5) k (by unfold qD; omega), e2 82 k (by unfold mD; omega), e2 83 k (by unfold mD; omega), e2 84 k (by unfold mD; omega)]
    exact h10 k hk
  · rw [e1 _ _ (by unfold qD; omega)]; exact h12.1
  · have := hlt hx
    rw [e1 _ _ (by unfold qD; omega)]; exact h12.2 k x hx
  · rw [e2 65 18 (by unfold mD; omega)]; exact h13.1
  · have := hlt hx
    rw [e2 70 k (by unfold mD; omega), e2 71 k (by unfold mD; omega)]; exact h13.2 k x hx
  · rw [e2 65 25 (by unfold mD; omega)]; exact h14
/-- the state, the past, the boxes -/
def aZ (b R : Nat) (f g : Nat → Nat → Int32) : Prop := b ≤ 7 ∧ R ≤ 2 ∧ g 65 48 = zi b ∧ g 65 50 = zi R ∧ aR b R (nR f) (g 85) ∧ aP b R f g ∧ aB b R f g
def jS (s : y_H) : Prop := jA s ∧ ∃ b R, aZ b R s.1 s.1
theorem aR_st {b R : Nat} {f g f2 g2 : Nat → Nat → Int32} (hb : b ≤ 7) (h : aR b R (nR f) (g 85)) (e1 : ∀ o k, stC o k → f2 o k = f o k) (e2 : ∀ o k, smA o k → g2 o k = g o k) : aR b R (nR f2) (g2 85) := aR_eq h hb (fun k hk => e1 _ _ (Or.inl (qS_so k hk))) (fun k hk => e2 85 k (Or.inr (Or.inl ⟨rfl, hk⟩)))
theorem aP_st {b R : Nat} {f g f2 g2 : Nat → Nat → Int32} (hb : b ≤ 7) (h : aP b R f g) (e1 : ∀ o k, stC o k → f2 o k = f o k) (e2 : ∀ o k, smA o k → g2 o k = g o k) : aP b R f2 g2 := aP_fr hb h (fun k hk => e1 33 k (Or.inr (Or.inl ⟨rfl, hk⟩))) (fun k hk => e1 34 k (Or.inr (Or.inr ⟨rfl, hk⟩))) (fun k hk => e2 65 k (Or.inl ⟨rfl, hk⟩)) (fun k hk => e2 85 k (Or.inr (Or.inl ⟨rfl, hk⟩))) (fun k hk => e2 91 k (Or.inr (Or.inr ⟨rfl, hk⟩)))
theorem aB_st {b R : Nat} {f g f2 g2 : Nat → Nat → Int32} (hb : b ≤ 7) (h : aB b R f g) (e1 : ∀ o k, sbC o k → f2 o k = f o k) (e2 : ∀ o k, sbM o k → g2 o k = g o k) : aB b R f2 g2 := aB_fr hb h (e1 0 7 (Or.inr ⟨rfl, rfl⟩)) (fun k hk => e1 35 k (Or.inl ⟨rfl, hk⟩)) (fun k hk => e2 104 k (Or.inl ⟨rfl, hk⟩)) (fun k hk => e2 105 k (Or.inr ⟨rfl, hk⟩))
theorem aZ_fr {b R : Nat} {f g : Nat → Nat → Int32} (h : aZ b R f f) (e0 : ∀ o k, mD o k → g o k = f o k) (e : ∀ o k, sS o k → g o k = f o k) : aZ b R g g := by
  obtain ⟨hb, hR, h48, h50, h1, h2, h3⟩ := h
  exact ⟨hb, hR, (e0 65 48 (by unfold mD; omega)).trans h48, (e0 65 50 (by unfold mD; omega)).trans h50, aR_st hb h1 (fun o k q => e o k (Or.inl q)) (fun o k q => e o k (Or.inr (Or.inr (Or.inl q)))), aP_st hb h2 (fun o k q => e o k (Or.inl q)) (fun o k q => e o k (Or.inr (Or.inr (Or.inl q)))), aB_st hb h3 (fun o k q => e o k (Or.inr (Or.inl q))) (fun o k q => e o k (Or.inr (Or.inr (Or.inr q))))⟩
/-- another heap in which all is as it was -/
theorem jS_of {s s3 : y_H} (h : jS s) (hA : jA s3) (e0 : ∀ o k, mD o k → s3.1 o k = s.1 o k) (e : ∀ o k, sS o k → s3.1 o k = s.1 o k) : jS s3 := by
  obtain ⟨-, b, R, hZ⟩ := h
  exact ⟨hA, b, R, aZ_fr hZ e0 e⟩
/-- behind a quay -/
theorem jS_quay {s s2 s3 : y_H} {v v3 : Option (q_V Int32)} (hU : y_Un s) (hg : jS s) (hx : z3_Q (s.2.2 0 3) s v s2) (h2 : ∀ o k, 65 ≤ o → zT o k → s2.1 o k = s.1 o k) (h3 : ∀ o k, o ≤ 64 → zT o k → s3.1 o k = s2.1 o k) (h3T : s3.2.2 0 2 = s2.2.2 0 2) (h31 : s3.1 1 1 = 0) (h365 : s3.1 65 1 = 0) (hm : ∃ t3, u_c 275 [.inr (.inr 67)] (uP s2) = some (v3, t3) ∧ zA t3 s3) : v = v3 ∧ jS s3 := by
  obtain ⟨w0, hA⟩ := jA_quay hU hg.1 hx h2 h3 h3T h31 h365 hm
  refine ⟨w0, ?_⟩
  obtain ⟨u1, u2, u3⟩ := y_Un_T hU
  obtain ⟨-, hq⟩ := q_alike u2 hg.1.1 hx.2 h2 h3 hm
  rcases hq with ⟨⟨f1, f2⟩, f3⟩ | ⟨a, b, d, tq, hAT, ⟨g1, g2, ⟨g3, g4, g5, g6⟩, g7, g8, g9, g10, g11⟩, t1, t2, m1, ⟨k1, k2, k3, k4, k5⟩, k6⟩
  · refine jS_of hg hA (fun o k q => ?_) (fun o k q => ?_)
    · refine f3 o k (by unfold mD at q; omega) (mD_T q) ?_
      unfold mD at q
      unfold fMR fML
      omega
    · have hz := sS_T q
      rcases q with q | q | q | q
      · have ho : o ≤ 64 := by unfold stC qS at q; omega
        rw [h3 o k ho hz]
        rcases q with q | q | q
        · exact f1 o k (Or.inr (Or.inl q))
        · exact f1 o k (Or.inr (Or.inr (Or.inl (Or.inl q))))
        · exact f1 o k (Or.inr (Or.inr (Or.inl (Or.inr (Or.inl q)))))
      · have ho : o ≤ 64 := by unfold sbC at q; omega
        rw [h3 o k ho hz]
        refine f1 o k (Or.inr (Or.inr (Or.inl ?_)))
        unfold sbC at q
        unfold qP
        omega
      · refine f3 o k (by unfold smA at q; omega) hz ?_
        unfold smA at q
        unfold fMR fML
        omega
      · refine f3 o k (by unfold sbM at q; omega) hz ?_
        unfold sbM at q
        unfold fMR fML
        omega
  · have hb : b ≤ 7 := hAT.2.1
    obtain ⟨R, w, c, l, r1, r2, -⟩ := tW_of hAT
    have cl : ∀ o k, (stC o k ∨ sbC o k) → s3.1 o k = s2.1 o k := fun o k q => by
      rcases q with q | q
      · exact h3 o k (by unfold stC qS at q; omega) (stC_T q)
      · exact h3 o k (by unfold sbC at q; omega) (sbC_T q)
    have hN : aR b R (nR s2.1) (s3.1 85) := aR_new (d := d) hb (by rw [← t1, ← t2]; exact g2) m1
    have hN3 : aR b R (nR s3.1) (s3.1 85) := aR_st hb hN (fun o k q => cl o k (Or.inl q)) (fun o k _ => rfl)
    have z33 : ∀ k, (k = 1 ∨ k = 2 ∨ k = 3) → (s2.1 33 k).toInt = 0 → s3.1 33 k = zi 0 := fun k hk e => by
      rw [cl 33 k (Or.inl (Or.inr (Or.inl ⟨rfl, hk⟩)))]
      exact Int32.toInt_inj.mp e
    refine ⟨hA, b, R, hb, r2, hAT.2.2.1.2.2.2, r1, hN3, ⟨0, 0, 0, by omega, by omega, ⟨z33 1 (by omega) g3, z33 2 (by omega) g4, z33 3 (by omega) g5⟩, ⟨k1, k2⟩, fun i hi => ?_⟩, aB_new ?_ k5⟩
    · have hi : i = 0 := by omega
      subst hi
      refine aR_eq hN hb (fun k hk => ?_) (fun k hk => mP_at)
      show s3.1 34 (pN 0 0 + k) = nR s2.1 k
      rw [show pN 0 0 + k = k from Nat.zero_add k, cl 34 k (Or.inl (Or.inr (Or.inr ⟨rfl, by omega⟩)))]
      exact g6 k hk
    · rw [cl 0 7 (Or.inr (Or.inr ⟨rfl, rfl⟩))]
      exact g7
/-- an act, on both sides; c: whether their answers are the same -/
def aX (c : Prop) (kC kM : Nat) (aC aM : List (q_V Int32)) (b R : Nat) (sC sM : u_H) : Prop := ∀ (v v2 : Option (q_V Int32)) (s2 t2 : u_H), u_c kC aC sC = some (v, s2) → u_c kM aM sM = some (v2, t2) → (c → v = v2) ∧ aR b R (nR s2.1) (t2.1 85) ∧ aP b R s2.1 t2.1
theorem aX_of {c : Prop} {kC kM : Nat} {aC aM : List (q_V Int32)} {b R : Nat} {sC sM s2 t2 : u_H} {v v2 : Option (q_V Int32)} (e1 : u_c kC aC sC = some (v, s2)) (e2 : u_c kM aM sM = some (v2, t2)) (e3 : c → v = v2) (e4 : aR b R (nR s2.1) (t2.1 85)) (e5 : aP b R s2.1 t2.1) : aX c kC kM aC aM b R sC sM := by
  intro w w2 q2 p2 h1 h2
  rw [e1] at h1
  rw [e2] at h2
  cases h1
  cases h2
  exact ⟨e3, e4, e5⟩
def aXs (c : Prop) (kC kM : Nat) (aC aM : List (q_V Int32)) : Prop := ∀ (T a b R w : Nat) (cc : List Int) (l : Bool) (sC sM : u_H), (T = 5 ∨ T = 17) → sC.2.2.1 = T → tW T a b R w cc l sC.1 sM.1 → sM.1 65 47 = zi a → sM.1 65 48 = zi b → aR b R (nR sC.1) (sM.1 85) → aP b R sC.1 sM.1 → aX c kC kM aC aM b R sC sM
theorem x_minute : aXs True 48 260 [.inr (.inr 2)] [.inr (.inr 67)] := fun T a b R w cc l sC sM hT e hA h47 h48 hR hP => by
  obtain ⟨y, s2, t2, e1, e2, e3, e4⟩ := minute_alike hT e hA hR hP
  exact aX_of e1 e2 (fun _ => rfl) e3 e4
theorem x_shorten (x : Int32) : aXs False 68 298 [.inr (.inr 2), .inl x] [.inr (.inr 67), .inl x] := fun T a b R w cc l sC sM hT e hA h47 h48 hR hP => by
  obtain ⟨⟨v, v2, s2, t2, e1, e2, e3, e4⟩, -⟩ := turn_alike hT e hA h48 hR hP x
  exact aX_of e1 e2 (fun h => h.elim) e3 e4
theorem x_insist (x : Int32) : aXs False 31 223 [.inr (.inr 2), .inl x] [.inr (.inr 67), .inl x] := fun T a b R w cc l sC sM hT e hA h47 h48 hR hP => by
  obtain ⟨-, v, v2, s2, t2, e1, e2, e3, e4⟩ := turn_alike hT e hA h48 hR hP x
  exact aX_of e1 e2 (fun h => h.elim) e3 e4
theorem x_giveUp (x : Int32) : aXs True 25 211 [.inr (.inr 2), .inl x] [.inr (.inr 67), .inl x] := fun T a b R w cc l sC sM hT e hA h47 h48 hR hP => by
  obtain ⟨y, s2, t2, e1, e2, e3, e4⟩ := giveUp_alike hT hA.1.2.1 e hA.2.1.2.1 h48 hR hP x
  exact aX_of e1 e2 (fun _ => rfl) e3 e4
theorem x_join (x : Int32) : aXs True 36 239 [.inr (.inr 2), .inl x] [.inr (.inr 67), .inl x] := fun T a b R w cc l sC sM hT e hA h47 h48 hR hP => by
  obtain ⟨y, s2, t2, e1, e2, e3, e4⟩ := join_alike hT e hA h48 hR hP x
  exact aX_of e1 e2 (fun _ => rfl) e3 e4
theorem x_await (x : Int32) : aXs True 6 181 [.inr (.inr 2), .inl x] [.inr (.inr 67), .inl x] := fun T a b R w cc l sC sM hT e hA h47 h48 hR hP => by
  obtain ⟨y, s2, t2, e1, e2, e3, e4⟩ := await_alike hT e hA h47 hR hP x
  exact aX_of e1 e2 (fun _ => rfl) e3 e4
theorem x_undo : aXs True 77 315 [.inr (.inr 2)] [.inr (.inr 67)] := fun T a b R w cc l sC sM hT e hA h47 h48 hR hP => by
  obtain ⟨y, s2, t2, e1, e2, e3, e4⟩ := undo_alike hA.1.2.1 hR hP
  intro w w2 q2 p2 h1 h2
  rw [b_77, e1, u_biS] at h1
  rw [e2] at h2
  cases h2
  split at h1
  · cases h1
    exact ⟨fun _ => rfl, e3, e4⟩
  · cases h1
theorem x_redo : aXs True 60 285 [.inr (.inr 2)] [.inr (.inr 67)] := fun T a b R w cc l sC sM hT e hA h47 h48 hR hP => by
  obtain ⟨y, s2, t2, e1, e2, e3, e4⟩ := redo_alike hA.1.2.1 hR hP
  intro w w2 q2 p2 h1 h2
  rw [b_60, e1, u_biS] at h1
  rw [e2] at h2
  cases h2
  split at h1
  · cases h1
    exact ⟨fun _ => rfl, e3, e4⟩
  · cases h1
/-- both change places, or neither -/
theorem chg_eq {o : Option (Option (q_V Int32) × u_H)} {z w : Int32} {t t2 : u_H} (h : o = some (some (.inl z), t)) (h2 : o = some (some (.inl w), t2)) : z = w := by
  rw [h] at h2
  injection h2 with h2
  injection h2 with h2 _
  injection h2 with h2
  injection h2
theorem chg_no {b : Nat} {x y : Int32} {s s2 : y_H} {f : Nat → Int32} (ix : ∀ z : Int32, (∃ p, p < b ∧ z = zi p ∧ f (7 + p) = zi 0 ∧ u_c 30 [.inr (.inr 2), .inl z] (uP s) = some (some (.inl (Int32.ofInt 1)), uP s) ∧ u_c 235 [.inr (.inr 67), .inl z] (uP s2) = some (some (.inl (Int32.ofInt 1)), uP s2)) ∨ (u_c 30 [.inr (.inr 2), .inl z] (uP s) = some (some (.inl (Int32.ofInt 0)), uP s) ∧ u_c 235 [.inr (.inr 67), .inl z] (uP s2) = some (some (.inl (Int32.ofInt 0)), uP s2))) : (chN x y s → chYM x y s2 → False) ∧ (chY x y s → chNM x y s2 → False) := by
  have n1 : ∀ z : Int32, z = 0 → Int32.ofInt 1 = z → False := fun z h0 h => by rw [h0] at h; exact absurd h (by decide)
  have n0 : ∀ z : Int32, z = 1 → Int32.ofInt 0 = z → False := fun z h0 h => by rw [h0] at h; exact absurd h (by decide)
  have k1 : ∀ (q z w : Int32) (t t2 : u_H), z = 0 → w = 1 → u_c 30 [.inr (.inr 2), .inl q] (uP s) = some (some (.inl z), t) → u_c 235 [.inr (.inr 67), .inl q] (uP s2) = some (some (.inl w), t2) → False := fun q z w t t2 hz hw h1 h2 => by
    rcases ix q with ⟨p, -, -, -, g1, g2⟩ | ⟨g1, g2⟩
    · exact n1 z hz (chg_eq g1 h1)
    · exact n0 w hw (chg_eq g2 h2)
  have k2 : ∀ (q z w : Int32) (t t2 : u_H), z = 1 → w = 0 → u_c 30 [.inr (.inr 2), .inl q] (uP s) = some (some (.inl z), t) → u_c 235 [.inr (.inr 67), .inl q] (uP s2) = some (some (.inl w), t2) → False := fun q z w t t2 hz hw h1 h2 => by
    rcases ix q with ⟨p, -, -, -, g1, g2⟩ | ⟨g1, g2⟩
    · exact n1 w hw (chg_eq g2 h2)
    · exact n0 z hz (chg_eq g1 h1)
  refine ⟨fun hN hY => ?_, fun hY hN => ?_⟩
  · obtain ⟨y0, ⟨z1, t1, y1, y2⟩, z2, t2, y3, y4⟩ := hY
    rcases hN with h | ⟨z, t, h1, h2⟩ | ⟨z, t, h1, h2⟩
    · exact y0 h
    · exact k1 x z z1 t t1 h1 y1 h2 y2
    · exact k1 y z z2 t t2 h1 y3 h2 y4
  · obtain ⟨y0, ⟨z1, t1, y1, y2⟩, z2, t2, y3, y4⟩ := hY
    rcases hN with h | ⟨z, t, h1, h2⟩ | ⟨z, t, h1, h2⟩
    · exact y0 h
    · exact k2 x z1 z t1 t y1 h1 y2 h2
    · exact k2 y z2 z t2 t y3 h1 y4 h2
theorem change_rows {T a b R w : Nat} {cc : List Int} {l : Bool} {s s2 s3 : y_H} {x y : Int32} (hT : T = 5 ∨ T = 17) (e : s.2.2 0 2 = T) (hA : tW T a b R w cc l s.1 s2.1) (h48 : s2.1 65 48 = zi b) (hR : aR b R (nR s.1) (s2.1 85)) (hP : aP b R s.1 s2.1) (hC : chC [.inr (.inr 2), .inl x, .inl y] s s2) (hM : chM [.inr (.inr 67), .inl x, .inl y] s2 s3) : aR b R (nR s2.1) (s3.1 85) ∧ aP b R s2.1 s3.1 := by
  have hb : b ≤ 7 := hA.1.2.1
  have h4 : s.1 (T - 2) 4 = zi b := hA.2.1.2.1
  obtain ⟨no1, no2⟩ := chg_no (x := x) (y := y) (inQ_alike hT hb (sC := uP s) (sM := uP s2) e h4 h48 hR)
  have inj : ∀ {r : Nat} {p q u v : Int32}, ([.inr (.inr r), .inl p, .inl q] : List (q_V Int32)) = [.inr (.inr r), .inl u, .inl v] → p = u ∧ q = v := fun h => by
    injection h with _ h
    injection h with h1 h
    injection h with h2 _
    injection h1 with h1
    injection h2 with h2
    exact ⟨h1, h2⟩
  rcases hC with ⟨rfl, x', y', ea, hn⟩ | ⟨x', y', X, Y, t, s8, ea, cy, ⟨c1, c2, c3⟩, ⟨c4, c5⟩, ⟨c6, c7⟩, c8, c9, c10⟩
  · obtain ⟨e1, e2⟩ := inj ea
    subst e1 e2
    rcases hM with ⟨rfl, -⟩ | ⟨x', y', X, Y, t, s4, ea, my, -⟩
    · exact ⟨hR, hP⟩
    · obtain ⟨e1, e2⟩ := inj ea
      subst e1 e2
      exact (no1 hn my).elim
  · obtain ⟨e1, e2⟩ := inj ea
    subst e1 e2
    rcases hM with ⟨rfl, x', y', ea, hn⟩ | ⟨x', y', Xm, Ym, t', s4, ea, my, ⟨m4, m5⟩, ⟨m6, m7⟩, m8, m9, m10, m11⟩
    · obtain ⟨e1, e2⟩ := inj ea
      subst e1 e2
      exact (no2 cy hn).elim
    · obtain ⟨e1, e2⟩ := inj ea
      subst e1 e2
      obtain ⟨O, U, D, hO, hUD, ⟨p1, p2, p3⟩, ⟨p4, p5⟩, A⟩ := hP
      obtain ⟨z, z1, zc, z2, z3, z4, z5, z6⟩ := hR.1
      have z2 : s.1 28 1 = zi z := z2
      have X1 : X < z := by
        rw [z2, zi_int (by omega)] at c4
        omega
      have Y1 : Y < z := by
        rw [z2, zi_int (by omega)] at c5
        omega
      -- the class
      obtain ⟨O2, U2', s5, w1, w2, w3, w4, w5, w6, w7, w8, w9⟩ := c_keep hO (U := U) (by omega) (s := uP (y_up (y_up s 29 X (.inl y)) 29 Y (.inl x))) (by
        show y_u (y_u s.1 29 X y) 29 Y x 33 1 = _
        rw [y_uN (by omega), y_uN (by omega)]
        exact p1) (by
        show y_u (y_u s.1 29 X y) 29 Y x 33 2 = _
        rw [y_uN (by omega), y_uN (by omega)]
        exact p2)
      have et : s5 = t := by
        rw [w1] at c8
        injection c8 with c8
        injection c8
      subst et
      have up : (uP (y_up (y_up s 29 X (.inl y)) 29 Y (.inl x))).1 = y_u (y_u s.1 29 X y) 29 Y x := rfl
      rw [up] at w7 w8
      have nrow : ∀ j, j < 24 → nR s5.1 j = nR (y_u (y_u s.1 29 X y) 29 Y x) j := fun j hj => by
        have hs := qS_so j hj
        refine w9.i (fun z => ?_)
        unfold qS at hs
        omega
      -- the model
      obtain ⟨U2, t2, g1, g2, g3, g4, g5, g6, g7, g8, g9⟩ := m_act (U := U) (by omega) (s := uP s2) p4
      have et : t2 = t' := by
        rw [g1] at m8
        injection m8 with m8
        injection m8
      subst et
      have eU : U2' = U2 := by
        rcases w3 with ⟨z1, z2, z3⟩ | ⟨z1, z2, z3⟩
        · rcases g2 with ⟨y1, y2⟩ | ⟨y1, y2⟩ <;> omega
        · rcases g2 with ⟨y1, y2⟩ | ⟨y1, y2⟩ <;> omega
      subst eU
      have m86 : ∀ k, k < 28 → s4.1 86 k = s2.1 85 k := fun k hk => (zT_A (zT_a (o := 86) rfl hk (by decide) (by decide)) m9).symm.trans (g7 k hk)
      have ms : ∀ o k, ((o = 65 ∧ (k = 66 ∨ k = 67)) ∨ (o = 91 ∧ k < 1120)) → s3.1 o k = t2.1 o k := fun o k h => (m11 o k h).trans (zT_A (smA_T (by unfold smA; omega)) m9).symm
      have e8 : s4.1 86 8 = zi z := (m86 8 (by omega)).trans z3
      have Xm1 : Xm < z := by
        rw [e8, zi_int (by omega)] at m4
        omega
      have Ym1 : Ym < z := by
        rw [e8, zi_int (by omega)] at m5
        omega
      have same : ∀ (i j : Nat) (q : Int32), i < z → j < z → s.1 29 i = q → s2.1 85 j = q → i = j := fun i j q hi hj h1 h2 => by
        obtain ⟨p, -, q2, q3, -⟩ := z4 j hj
        refine z5 i j hi hj ?_
        rw [nRl (by omega), h1, ← h2, q3, ← q2]
      have eX := same X Xm x X1 Xm1 c6 ((m86 Xm (by omega)).symm.trans m6)
      have eY := same Y Ym y Y1 Ym1 c7 ((m86 Ym (by omega)).symm.trans m7)
      subst eX eY
      have r29 : ∀ k, k < 7 → nR s5.1 k = if k = Y then x else if k = X then y else s.1 29 k := fun k hk => by
        rw [nrow k (by omega), nRl hk]
        by_cases q : k = Y
        · rw [if_pos q, q, y_uE]
        · rw [if_neg q, y_uN (by omega)]
          by_cases q2 : k = X
          · rw [if_pos q2, q2, y_uE]
          · rw [if_neg q2, y_uN (by omega)]
      have ro : ∀ j, 7 ≤ j → j < 24 → nR s5.1 j = nR s.1 j := fun j h1 h2 => by
        rw [nrow j h2]
        have hk : ∀ j : Fin 24, 7 ≤ j.1 → (y_so j.1).1 ≠ 29 := by decide
        have : (y_so j).1 ≠ 29 := hk ⟨j, h2⟩ h1
        show y_u (y_u s.1 29 X y) 29 Y x (y_so j).1 (y_so j).2 = s.1 (y_so j).1 (y_so j).2
        rw [y_uN (by omega), y_uN (by omega)]
      have mo : ∀ j, 7 ≤ j → j < 28 → s3.1 85 j = s2.1 85 j := fun j h1 h2 => by
        rw [m10 j h2, if_neg (by omega), if_neg (by omega)]
        exact m86 j h2
      have m29 : ∀ k, k < 7 → s2.1 85 k = s2.1 85 k := fun _ _ => rfl
      obtain ⟨H1, H2, H3, H4⟩ := hR
      have cX : nR s.1 X = x := (nRl (by omega)).trans c6
      have cY : nR s.1 Y = y := (nRl (by omega)).trans c7
      have mX : s2.1 85 X = x := (m86 X (by omega)).symm.trans m6
      have mY : s2.1 85 Y = y := (m86 Y (by omega)).symm.trans m7
      have N : aR b R (nR s5.1) (s3.1 85) := by
        refine ⟨aQ_swap (i := X) (j := Y) hb H1 z2 z1 X1 Y1 (fun k hk => ?_) (fun k hk => ?_) (fun p hp => ro _ (by omega) (by omega)) (ro 18 (by omega) (by omega)) (mo 8 (by omega) (by omega)), aH_eq H2 (fun q hq => ro _ (by omega) (by omega)) (fun q hq => mo _ (by omega) (by omega)), aS_eq H3 (fun k h1 h2 => ro _ (by omega) (by omega)) (fun k h => mo _ (by omega) (by omega)), aL_eq H4 (fun k h1 h2 => ro _ (by omega) (by omega)) (fun k h1 h2 => mo _ (by omega) (by omega)) (fun p hp e => (ro _ (by omega) (by omega)).trans e)⟩
        · rw [r29 k (by omega)]
          by_cases q : k = X
          · rw [if_pos q, if_neg (by omega), if_pos q, cY]
          · by_cases q2 : k = Y
            · rw [if_pos q2, if_neg q, if_pos q2, cX]
            · rw [if_neg q2, if_neg q, if_neg q, if_neg q2, nRl (by omega)]
        · rw [m10 k (by omega)]
          by_cases q : k = X
          · rw [if_pos q, if_neg (by omega), if_pos q, mY]
          · by_cases q2 : k = Y
            · rw [if_pos q2, if_neg q, if_pos q2, mX]
            · rw [if_neg q2, if_neg q, if_neg q, if_neg q2, m86 k (by omega)]
      have cl : ∀ o k, stC o k → s2.1 o k = s5.1 o k := fun o k h => (c10 o k h).trans (zT_A (stC_T h) c9).symm
      have P : aP b R s5.1 s3.1 := by
        refine ⟨O2, U2', 0, w2, by omega, ⟨w4, w5, w6⟩, ⟨(ms 65 66 (by omega)).trans g3, (ms 65 67 (by omega)).trans g4⟩, ?_⟩
        refine aP_keep (f := s.1) (g := s2.1) (O := O) (U := U) (D := D) hb hUD A w3 N (fun j hj => (w7 j hj).trans (nrow j hj).symm) (fun j hj => (w8 j hj).trans ?_) (fun j hj => (ms 91 _ (Or.inr ⟨rfl, by omega⟩)).trans (g5 j hj)) (fun i j hi hj => (ms 91 _ (Or.inr ⟨rfl, by omega⟩)).trans (g6 i j hi hj))
        rw [y_uN (by omega), y_uN (by omega)]
      exact ⟨aR_st hb N cl (fun _ _ _ => rfl), aP_st hb P cl (fun _ _ _ => rfl)⟩
end JS
