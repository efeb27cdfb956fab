/-! A WHOLE MINUTE: both sides, with what is kept of it -/
section MINUTE
variable {W : Nat}
/-- what was told, alike, whatever is thought of -/
def tW (W a b R w : Nat) (c : List Int) (l : Bool) (f g : Nat → Nat → Int32) : Prop := (a ≤ 5 ∧ b ≤ 7 ∧ 1 ≤ R ∧ R ≤ 2) ∧ (f (W - 2) 0 = zi a ∧ f (W - 2) 4 = zi b ∧ f (W - 2) 10 = zi R ∧ f (W - 2) 9 = g 65 49 ∧ f (W - 2) 11 = g 65 51 ∧ g 65 50 = zi R) ∧ (∀ k, k < a → f W k = g 80 k ∧ f (W + 1) k = g 81 k) ∧ (∀ k, k < b → (∃ v, v < a ∧ f (W + 3) k = zi v ∧ g 82 k = zi v) ∧ f (W + 4) k = g 83 k ∧ f (W + 5) k = g 84 k) ∧ (c.length ≤ 270 ∧ prC W c f ∧ prM c g ∧ g 65 25 = zb l ∧ (l = false → c = []) ∧ (l = true → fV c w))
/-- the model's told slots -/
def tWm (o k : Nat) : Prop := (o = 65 ∧ (k = 18 ∨ k = 25 ∨ k = 51)) ∨ o = 70 ∨ o = 71 ∨ (80 ≤ o ∧ o ≤ 84)
theorem tW_aW {a b R w : Nat} {c : List Int} {l : Bool} {f g f2 g2 : Nat → Nat → Int32} (h : tW W a b R w c l f g) (t : g2 65 27 = g 65 49 ∧ g2 65 28 = g 65 50 ∧ g2 65 29 = u_k (-1) ∧ ∀ r, r < 3 → g2 87 r = 0 ∧ g2 88 r = 0) (e1 : ∀ o k, aWc W o k → f2 o k = f o k) (e2 : ∀ o k, tWm o k → g2 o k = g o k) : aW W a b R w c l f2 g2 := by
  obtain ⟨h1, ⟨h2, h3, h4, h5, h6, h7⟩, h9, h10, h11, h12, h13, h14, h15, h16⟩ := h
  obtain ⟨t1, t2, t3, t4⟩ := t
  refine ⟨h1, ⟨?_, ?_, ?_, ?_, ?_, ?_, t3⟩, fun k hk => ?_, fun k hk => ?_, ⟨h11, ⟨?_, fun k x hx => ?_⟩, ⟨?_, fun k x hx => ?_⟩, ?_, h15, h16⟩, t4⟩
  · rw [e1 _ _ (by unfold aWc; omega)]; exact h2
  · rw [e1 _ _ (by unfold aWc; omega)]; exact h3
  · rw [e1 _ _ (by unfold aWc; omega)]; exact h4
  · rw [e1 _ _ (by unfold aWc; omega), t1]; exact h5
  · rw [e1 _ _ (by unfold aWc; omega), e2 65 51 (by unfold tWm; omega)]; exact h6
  · rw [t2]; exact h7
  · rw [e1 W k (by unfold aWc; omega), e1 (W + 1) k (by unfold aWc; omega), e2 80 k (by unfold tWm; omega), e2 81 k (by unfold tWm; omega)]
    exact h9 k hk
  · rw [e1 (W + 3) k (by unfold aWc; omega), e1 (W + 4) k (by unfold aWc; omega), e1 (W + 5) k (by unfold aWc; omega), e2 82 k (by unfold tWm; omega), e2 83 k (by unfold tWm; omega), e2 84 k (by unfold tWm; omega)]
    exact h10 k hk
  · rw [e1 _ _ (by unfold aWc; omega)]; exact h12.1
  · rw [e1 _ _ (by unfold aWc; omega)]; exact h12.2 k x hx
  · rw [e2 65 18 (by unfold tWm; omega)]; exact h13.1
  · rw [e2 70 k (by unfold tWm; omega), e2 71 k (by unfold tWm; omega)]; exact h13.2 k x hx
  · rw [e2 65 25 (by unfold tWm; omega)]; exact h14
/-- a minute, on both sides -/
theorem minute_alike (hW : W = 5 ∨ W = 17) {a b R w : Nat} {c : List Int} {l : Bool} {sC sM : u_H} (hT : sC.2.2.1 = W) (hA : tW W a b R w c l sC.1 sM.1) (hR : aR b R (nR sC.1) (sM.1 85)) (hP : aP b R sC.1 sM.1) : ∃ (x : Int32) (s2 t2 : u_H), u_c 48 [.inr (.inr 2)] sC = some (some (.inl x), s2) ∧ u_c 260 [.inr (.inr 67)] sM = some (some (.inl x), t2) ∧ aR b R (nR s2.1) (t2.1 85) ∧ aP b R s2.1 t2.1 := by
  have hb : b ≤ 7 := hA.1.2.1
  have n177 : ∀ o k, (o ≠ 65 ∨ (k ≠ 27 ∧ k ≠ 28 ∧ k ≠ 29 ∧ k ≠ 59 ∧ k ≠ 62)) → (o < 87 ∨ 90 < o) → ¬ f177 o k := by
    intro o k p q z
    unfold f177 at z
    omega
  -- gone on with
  obtain ⟨t1, f1, f2, f3, f4⟩ := m_fillT sM
  have n1 : ∀ o k, o ≠ 86 → ¬ f177 o k → t1.1 o k = sM.1 o k := fun o k p q => f4.i (fun z => by rcases z with z | z; exact p z; exact q z)
  have hR1 : aR b R (nR sC.1) (t1.1 86) := aR_eq hR hb (fun k _ => rfl) f2
  have J1 : jR W a b R w c l sC t1 := ⟨hT, tW_aW hA ⟨f3.1, f3.2.1, f3.2.2.1, f3.2.2.2.2.2.2⟩ (fun o k _ => rfl) (fun o k q => n1 o k (by unfold tWm at q; omega) (n177 o k (by unfold tWm at q; omega) (by unfold tWm at q; omega))), hR1⟩
  obtain ⟨y, e1, e2⟩ := emp_alike J1
  have e85 : ∀ k, t1.1 85 k = sM.1 85 k := fun k => n1 85 k (by omega) (n177 85 k (by omega) (by omega))
  obtain ⟨t, ht, q1, q2⟩ := hR.2.2.1.2.2.2.1
  have q1 : sC.1 28 8 = zi t := q1
  have k999 : u_k 999 = zi 999 := u_kz 999
  obtain ⟨O, U, D, hO, hUD, ⟨p1, p2, p3⟩, ⟨p4, p5⟩, A⟩ := hP
  have n91 : ∀ k, t1.1 91 k = sM.1 91 k := fun k => n1 91 k (by omega) (n177 91 k (by omega) (by omega))
  have P1 : aP b R sC.1 t1.1 := ⟨O, U, D, hO, hUD, ⟨p1, p2, p3⟩, ⟨(n1 65 66 (by omega) (n177 65 66 (by omega) (by omega))).trans p4, (n1 65 67 (by omega) (n177 65 67 (by omega) (by omega))).trans p5⟩, fun i hi => aR_eq (A i hi) hb (fun k _ => rfl) (fun k _ => by
    unfold mP
    rw [e85, n91])⟩
  cases y with
  | true =>
    refine ⟨u_k (-1), sC, t1, ?_, ?_, aR_eq hR hb (fun k _ => rfl) (fun k _ => e85 k), P1⟩
    · rw [b_48, e1, u_biS, if_neg zb_yes]
    · rw [b_260, f1, u_bvS, e2, u_biS, if_neg zb_yes]
  | false =>
    by_cases h9 : t = 999
    · refine ⟨u_k (-1), sC, t1, ?_, ?_, aR_eq hR hb (fun k _ => rfl) (fun k _ => e85 k), P1⟩
      · rw [b_48, e1, u_biS, if_pos zb_no, q1, k999, if_neg (by rw [zi_lt (by omega) (by omega)]; omega)]
      · rw [b_260, f1, u_bvS, e2, u_biS, if_pos zb_no, e85, q2, k999, if_pos (by rw [h9])]
    · have U40 : U ≤ 40 := by omega
      have p4' : t1.1 65 66 = zi U := (n1 65 66 (by omega) (n177 65 66 (by omega) (by omega))).trans p4
      obtain ⟨U2, t2, g1, g2, g3, g4, g5, g6, g7, g8, g9⟩ := m_act U40 p4'
      have n2 : ∀ o k, ¬ fAm o k → t2.1 o k = t1.1 o k := fun o k h => g9.i h
      have nA : ∀ o k, tWm o k → ¬ fAm o k := by
        intro o k p z
        unfold tWm at p
        unfold fAm f177 at z
        omega
      have n49 : t1.1 65 49 = sM.1 65 49 := n1 65 49 (by omega) (n177 65 49 (by omega) (by omega))
      have n50 : t1.1 65 50 = sM.1 65 50 := n1 65 50 (by omega) (n177 65 50 (by omega) (by omega))
      have J2 : jR W a b R w c l sC t2 := ⟨hT, tW_aW hA ⟨g8.1.trans n49, g8.2.1.trans n50, g8.2.2.1, g8.2.2.2.2.2.2⟩ (fun o k _ => rfl) (fun o k q => (n2 o k (nA o k q)).trans (n1 o k (by unfold tWm at q; omega) (n177 o k (by unfold tWm at q; omega) (by unfold tWm at q; omega)))), aR_eq hR hb (fun k _ => rfl) (fun k hk => (g7 k hk).trans (e85 k))⟩
      obtain ⟨x, s4, t4, r1, r2, r3, r4, r5⟩ := minute_core hW J2 (by omega) q1
      obtain ⟨t5, v1, v2, v3⟩ := m_240 t4
      have c33 : ∀ o k, (o = 33 ∨ o = 34) → s4.1 o k = sC.1 o k := fun o k h => r4.1 o k (fun z => by unfold fGc fLc at z; omega)
      obtain ⟨O2, U2', s5, w1, w2, w3, w4, w5, w6, w7, w8, w9⟩ := c_keep hO U40 ((c33 33 1 (Or.inl rfl)).trans p1) ((c33 33 2 (Or.inl rfl)).trans p2)
      have eU : U2' = U2 := by
        rcases w3 with ⟨z1, z2, z3⟩ | ⟨z1, z2, z3⟩
        · rcases g2 with ⟨y1, y2⟩ | ⟨y1, y2⟩ <;> omega
        · rcases g2 with ⟨y1, y2⟩ | ⟨y1, y2⟩ <;> omega
      subst eU
      have m4 : ∀ o k, (o = 91 ∨ (o = 65 ∧ (k = 66 ∨ k = 67))) → t5.1 o k = t2.1 o k := fun o k h => (v3.i (fun z => by have z : o = 85 := z; omega)).trans (r5.i (fun z => by unfold fGm fFm fWm at z; omega))
      have nrow : ∀ k, k < 24 → nR s5.1 k = nR s4.1 k := fun k hk => by
        have hs := qS_so k hk
        refine w9.i (fun z => ?_)
        unfold qS at hs
        omega
      have N : aR b R (nR s5.1) (t5.1 85) := aR_eq r3.2.2 hb nrow v2
      refine ⟨x, s5, t5, ?_, ?_, N, O2, U2', 0, w2, by omega, ⟨w4, w5, w6⟩, ⟨(m4 65 66 (Or.inr ⟨rfl, Or.inl rfl⟩)).trans g3, (m4 65 67 (Or.inr ⟨rfl, Or.inr rfl⟩)).trans g4⟩, ?_⟩
      · rw [b_48, e1, u_biS, if_pos zb_no, q1, k999, if_pos ((zi_lt (by omega) (by omega)).mpr (by omega)), r1, w1, u_bvS]
      · rw [b_260, f1, u_bvS, e2, u_biS, if_pos zb_no, e85, q2, k999, if_neg (fun z => h9 ((zi_inj (by omega) (by omega)).mp z)), g1, u_bvS, r2, u_biS, v1, u_bvS]
      · refine aP_keep (f := sC.1) (g := sM.1) (O := O) (U := U) (D := D) hb hUD A w3 N (fun k hk => (w7 k hk).trans (nrow k hk).symm) (fun k hk => (w8 k hk).trans (c33 34 k (Or.inr rfl))) (fun k hk => (m4 91 _ (Or.inl rfl)).trans ((g5 k hk).trans (e85 k))) (fun i k hi hk => (m4 91 _ (Or.inl rfl)).trans ((g6 i k hi hk).trans (n91 _)))
end MINUTE
