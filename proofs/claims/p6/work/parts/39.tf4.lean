/-! WHAT WAS TOLD, ALL OF IT -/
section BITS
theorem nbF {i j : Nat} (h : i ≠ j) : Nat.beq i j = false := by
  cases e : Nat.beq i j with
  | false => rfl
  | true => exact absurd (Nat.eq_of_beq_eq_true e) h
abbrev fB (m j : Nat) : Bool := Nat.testBit m j
def fU (m j : Nat) : Nat := m ||| (1 <<< j)
def fc (m : Nat) : Nat := (bif fB m 0 then 1 else 0) + (bif fB m 1 then 1 else 0) + (bif fB m 2 then 1 else 0) + (bif fB m 3 then 1 else 0) + (bif fB m 4 then 1 else 0)
theorem fU_all : ∀ m : Fin 32, ∀ j : Fin 5, fU m.1 j.1 < 32 ∧ (fB m.1 j.1 = false → fc (fU m.1 j.1) = fc m.1 + 1) ∧ ∀ i : Fin 5, fB (fU m.1 j.1) i.1 = (fB m.1 i.1 || Nat.beq i.1 j.1) := by decide +kernel
theorem fc_all : ∀ m : Fin 32, fc m.1 ≤ 5 := by decide +kernel
theorem fb_all : ∀ m : Fin 32, ∀ j : Fin 5, (((zi (4 * m.1) &&& (Int32.ofInt 1 <<< ((zi (258 + j.1) - zi 256) &&& 31))) = 0 ↔ fB m.1 j.1 = false) ∧ zi (4 * m.1) ||| (Int32.ofInt 1 <<< ((zi (258 + j.1) - zi 256) &&& 31)) = zi (4 * fU m.1 j.1)) := by decide +kernel
def fg (j : Nat) : Nat := if j = 0 then 54 else if j = 1 then 24 else if j = 2 then 55 else if j = 3 then 56 else 53
def kc (j : Nat) : Nat := if j = 0 then 10 else if j = 2 then 11 else if j = 3 then 12 else 9
def kl (j : Nat) : Nat := if j = 0 ∨ j = 4 then 1 else 0
def kh (j : Nat) : Nat := if j = 0 then 2 else if j = 2 then 100 else if j = 3 then 999 else 60
theorem fg_all (j : Nat) : fg j = 24 ∨ fg j = 53 ∨ fg j = 54 ∨ fg j = 55 ∨ fg j = 56 := by
  unfold fg
  repeat' split
  all_goals omega
theorem kc_all (j : Nat) : kc j = 9 ∨ kc j = 10 ∨ kc j = 11 ∨ kc j = 12 := by
  unfold kc
  repeat' split
  all_goals omega
theorem fg_inj {i j : Nat} (hi : i < 5) (hj : j < 5) (h : fg i = fg j) : i = j := by
  unfold fg at h
  repeat' split at h
  all_goals omega
theorem kc_inj {i j : Nat} (hi : i < 5) (hi1 : i ≠ 1) (hj : j < 5) (hj1 : j ≠ 1) (h : kc i = kc j) : i = j := by
  unfold kc at h
  repeat' split at h
  all_goals omega
theorem kb_all (j : Nat) : kl j ≤ 10000 ∧ kh j ≤ 10000 := by
  unfold kl kh
  repeat' split
  all_goals omega
end BITS
section DATA2
variable {ch : Nat → Int32} {n W : Nat} {sC sM sC2 sM2 : u_H} {P Q : Nat → Nat → Prop}
def sSC (W o k : Nat) : Prop := (o = W - 2 ∧ k = 0) ∨ o = W - 1 ∨ o = W ∨ o = W + 1
def sSM (o k : Nat) : Prop := (o = 65 ∧ k = 41) ∨ (o = 67 ∧ k < 5) ∨ o = 75 ∨ o = 76
def sPC (W o k : Nat) : Prop := (o = W - 2 ∧ k = 4) ∨ o = W + 2 ∨ o = W + 3 ∨ o = W + 4 ∨ o = W + 5
def sPM (o k : Nat) : Prop := (o = 65 ∧ k = 42) ∨ (o = 67 ∧ 5 ≤ k) ∨ o = 77 ∨ o = 78 ∨ o = 79
def sFC (o k : Nat) : Prop := o = 27 ∧ k = 7
def sFM (o k : Nat) : Prop := o = 65 ∧ (k = 24 ∨ k = 53 ∨ k = 54 ∨ k = 55 ∨ k = 56)
def sKC (W o k : Nat) : Prop := o = W - 2 ∧ (k = 9 ∨ k = 10 ∨ k = 11 ∨ k = 12)
def sKM (o k : Nat) : Prop := o = 65 ∧ (k = 43 ∨ k = 44 ∨ k = 45 ∨ k = 46)
def sGC (W o k : Nat) : Prop := (o = W + 6 ∨ o = W + 7) ∧ k = k
def sGM (o k : Nat) : Prop := (o = 65 ∧ (k = 17 ∨ k = 20)) ∨ o = 68 ∨ o = 69
def nX (S P : Nat → Nat → Prop) : Prop := ∀ o k, S o k → ¬ P o k
def dF (m : Nat) (sC sM : u_H) : Prop := m < 32 ∧ sC.1 27 7 = zi (4 * m) ∧ ∀ j, j < 5 → sM.1 65 (fg j) = zb (fB m j)
def dK (W : Nat) (sC sM : u_H) : Prop := ∀ j, j < 5 → j ≠ 1 → ∃ x, kl j ≤ x ∧ x ≤ kh j ∧ sC.1 (W - 2) (kc j) = zi x ∧ sM.1 65 (kc j + 34) = zi x
def dG (W : Nat) (l : Bool) (sC sM : u_H) : Prop := (l = false ∧ cD W [] 0 sC ∧ sM.1 65 20 = zi 0) ∨ (l = true ∧ ∃ c w, (c.length ≤ 270 ∧ fV c w) ∧ cD W c w sC ∧ mQ c sM ∧ sM.1 65 20 = zi w)
def jD (W a b m : Nat) (sC sM : u_H) : Prop := (∃ NS NP, dS W a NS sC sM ∧ dP W a b NP sC sM) ∧ dF m sC sM ∧ dK W sC sM ∧ dG W (fB m 1) sC sM
theorem dS_f {a : Nat} {NS : Nat → List Nat} (h : dS W a NS sC sM) (h1 : u_fr P sC sC2) (h2 : u_fr Q sM sM2) (p : nX (sSC W) P) (q : nX sSM Q) : dS W a NS sC2 sM2 := dS_fr h h1 h2 (p _ _ (Or.inl ⟨rfl, rfl⟩)) (fun k => p _ _ (Or.inr (Or.inl rfl))) (fun k => p _ _ (Or.inr (Or.inr (Or.inl rfl)))) (fun k => p _ _ (Or.inr (Or.inr (Or.inr rfl)))) (q _ _ (Or.inl ⟨rfl, rfl⟩)) (fun k hk => q _ _ (Or.inr (Or.inl ⟨rfl, hk⟩))) (fun k => q _ _ (Or.inr (Or.inr (Or.inl rfl)))) (fun k => q _ _ (Or.inr (Or.inr (Or.inr rfl))))
theorem dP_f {a b : Nat} {NP : Nat → List Nat} (h : dP W a b NP sC sM) (h1 : u_fr P sC sC2) (h2 : u_fr Q sM sM2) (p : nX (sPC W) P) (q : nX sPM Q) : dP W a b NP sC2 sM2 := by
  obtain ⟨d1, d2, d3, d4, d5, d7⟩ := h
  refine ⟨d1, (h1.i (p _ _ (Or.inl ⟨rfl, rfl⟩))).trans d2, (h2.i (q _ _ (Or.inl ⟨rfl, rfl⟩))).trans d3, fun k hk => ⟨(d4 k hk).1, (h1.l (p _ _ (Or.inr (Or.inl rfl)))).trans (d4 k hk).2⟩, fun k hk => (h2.l (q _ _ (Or.inr (Or.inl ⟨rfl, by omega⟩)))).trans (d5 k hk), fun k hk => ?_⟩
  rw [h1.i (p (W + 3) k (Or.inr (Or.inr (Or.inl rfl)))), h1.i (p (W + 4) k (Or.inr (Or.inr (Or.inr (Or.inl rfl))))), h1.i (p (W + 5) k (Or.inr (Or.inr (Or.inr (Or.inr rfl))))), h2.i (q 77 k (Or.inr (Or.inr (Or.inl rfl)))), h2.i (q 78 k (Or.inr (Or.inr (Or.inr (Or.inl rfl))))), h2.i (q 79 k (Or.inr (Or.inr (Or.inr (Or.inr rfl)))))]
  exact d7 k hk
theorem dP_m {a a2 b : Nat} {NP : Nat → List Nat} (h : dP W a b NP sC sM) (ha : a ≤ a2) : dP W a2 b NP sC sM := by
  obtain ⟨d1, d2, d3, d4, d5, d7⟩ := h
  refine ⟨d1, d2, d3, d4, d5, fun k hk => ?_⟩
  obtain ⟨⟨v, x1, x2⟩, x3⟩ := d7 k hk
  exact ⟨⟨v, by omega, x2⟩, x3⟩
theorem dF_f {m : Nat} (h : dF m sC sM) (h1 : u_fr P sC sC2) (h2 : u_fr Q sM sM2) (p : nX sFC P) (q : nX sFM Q) : dF m sC2 sM2 := ⟨h.1, (h1.i (p 27 7 ⟨rfl, rfl⟩)).trans h.2.1, fun j hj => (h2.i (q 65 (fg j) ⟨rfl, by have := fg_all j; omega⟩)).trans (h.2.2 j hj)⟩
theorem dK_f (h : dK W sC sM) (h1 : u_fr P sC sC2) (h2 : u_fr Q sM sM2) (p : nX (sKC W) P) (q : nX sKM Q) : dK W sC2 sM2 := by
  intro j hj hj1
  obtain ⟨x, x1, x2, x3, x4⟩ := h j hj hj1
  have := kc_all j
  exact ⟨x, x1, x2, (h1.i (p _ _ ⟨rfl, by omega⟩)).trans x3, (h2.i (q _ _ ⟨rfl, by omega⟩)).trans x4⟩
theorem cD_f {c : List Int} {w : Nat} {s s2 : u_H} (h : cD W c w s) (hf : u_fr P s s2) (p : nX (sGC W) P) : cD W c w s2 := ⟨(hf.i (p _ _ ⟨Or.inl rfl, rfl⟩)).trans h.1, (hf.i (p _ _ ⟨Or.inl rfl, rfl⟩)).trans h.2.1, fun k x hk => (hf.i (p _ _ ⟨Or.inr rfl, rfl⟩)).trans (h.2.2 k x hk)⟩
theorem dG_f {l : Bool} (h : dG W l sC sM) (h1 : u_fr P sC sC2) (h2 : u_fr Q sM sM2) (p : nX (sGC W) P) (q : nX sGM Q) : dG W l sC2 sM2 := by
  rcases h with ⟨x1, x2, x3⟩ | ⟨x1, c, w, x5, x2, x3, x4⟩
  · exact Or.inl ⟨x1, cD_f x2 h1 p, (h2.i (q _ _ (Or.inl ⟨rfl, by omega⟩))).trans x3⟩
  · exact Or.inr ⟨x1, c, w, x5, cD_f x2 h1 p, mQ_fr x3 (h2.i (q _ _ (Or.inl ⟨rfl, by omega⟩))) (fun j => h2.i (q _ _ (Or.inr (Or.inl rfl)))) (fun j => h2.i (q _ _ (Or.inr (Or.inr rfl)))), (h2.i (q _ _ (Or.inl ⟨rfl, by omega⟩))).trans x4⟩
/-- the frames, in numbers -/
theorem tx_Ca {o k : Nat} (h : tx_C o k) : o = 27 ∧ 2 ≤ k ∧ k ≠ 7 := h
theorem tx_Ma {o k : Nat} (h : tx_M o k) : o = 65 ∧ (k = 2 ∨ k = 3 ∨ k = 4 ∨ (6 ≤ k ∧ k ≤ 9)) := h
theorem fCs_a {o k : Nat} (h : fCs W o k) : (o = 27 ∧ 2 ≤ k ∧ k ≠ 7) ∨ (o = W - 2 ∧ k = 0) ∨ o = W - 1 ∨ o = W ∨ o = W + 1 := h
theorem fMs_a {o k : Nat} (h : fMs o k) : (o = 65 ∧ (k = 2 ∨ k = 3 ∨ k = 4 ∨ (6 ≤ k ∧ k ≤ 9))) ∨ (o = 65 ∧ k = 41) ∨ (o = 67 ∧ k < 5) ∨ o = 75 ∨ o = 76 := h
theorem fCp_a {o k : Nat} (h : fCp W o k) : (o = 27 ∧ 2 ≤ k ∧ k ≠ 7) ∨ (o = W - 2 ∧ k = 4) ∨ o = W + 2 ∨ o = W + 3 ∨ o = W + 4 ∨ o = W + 5 := h
theorem fMp_a {o k : Nat} (h : fMp o k) : (o = 65 ∧ (k = 2 ∨ k = 3 ∨ k = 4 ∨ (6 ≤ k ∧ k ≤ 9))) ∨ (o = 65 ∧ k = 42) ∨ (o = 67 ∧ 5 ≤ k) ∨ o = 77 ∨ o = 78 ∨ o = 79 := h
theorem fCf_a {o k : Nat} (h : fCf W o k) : (o = 27 ∧ 2 ≤ k ∧ k ≠ 7) ∨ o = W + 6 ∨ o = W + 7 := h
theorem tx_Ha {o k : Nat} (h : tx_H o k) : ((o = 65 ∧ (k = 2 ∨ k = 3 ∨ k = 4 ∨ (6 ≤ k ∧ k ≤ 9) ∨ k = 17 ∨ k = 19 ∨ k = 20 ∨ k = 22 ∨ k = 23)) ∨ o = 68 ∨ o = 69 ∨ o = 72) ∨ (o = 65 ∧ k = 24) := h
/-- what a number's key writes -/
def fCk (W j o k : Nat) : Prop := (o = 27 ∧ 2 ≤ k) ∨ (o = W - 2 ∧ k = kc j)
def fMk (j o k : Nat) : Prop := (o = 65 ∧ (k = 2 ∨ k = 3 ∨ k = 4 ∨ (6 ≤ k ∧ k ≤ 9))) ∨ (o = 65 ∧ (k = fg j ∨ k = kc j + 34))
/-- what a line writes -/
def fCL (W o k : Nat) : Prop := (o = 27 ∧ 2 ≤ k) ∨ (W - 2 ≤ o ∧ o ≤ W + 7)
def fML (o k : Nat) : Prop := (o = 65 ∧ ((2 ≤ k ∧ k ≤ 9 ∧ k ≠ 5) ∨ (17 ≤ k ∧ k ≤ 24 ∧ k ≠ 18 ∧ k ≠ 21) ∨ (41 ≤ k ∧ k ≤ 46) ∨ (53 ≤ k ∧ k ≤ 56))) ∨ (67 ≤ o ∧ o ≤ 69) ∨ o = 72 ∨ (75 ≤ o ∧ o ≤ 79)
theorem jD_t (hW : W = 5 ∨ W = 17) {a b m : Nat} (h : jD W a b m sC sM) (h1 : u_fr tx_C sC sC2) (h2 : u_fr tx_M sM sM2) : jD W a b m sC2 sM2 := by
  obtain ⟨⟨NS, NP, x1, x2⟩, x3, x4, x5⟩ := h
  refine ⟨⟨NS, NP, dS_f x1 h1 h2 (fun o k s q => ?_) (fun o k s q => ?_), dP_f x2 h1 h2 (fun o k s q => ?_) (fun o k s q => ?_)⟩, dF_f x3 h1 h2 (fun o k s q => ?_) (fun o k s q => ?_), dK_f x4 h1 h2 (fun o k s q => ?_) (fun o k s q => ?_), dG_f x5 h1 h2 (fun o k s q => ?_) (fun o k s q => ?_)⟩
  · have q := tx_Ca q
    unfold sSC at s
    omega
  · have q := tx_Ma q
    unfold sSM at s
    omega
  · have q := tx_Ca q
    unfold sPC at s
    omega
  · have q := tx_Ma q
    unfold sPM at s
    omega
  · have q := tx_Ca q
    unfold sFC at s
    omega
  · have q := tx_Ma q
    unfold sFM at s
    omega
  · have q := tx_Ca q
    unfold sKC at s
    omega
  · have q := tx_Ma q
    unfold sKM at s
    omega
  · have q := tx_Ca q
    unfold sGC at s
    omega
  · have q := tx_Ma q
    unfold sGM at s
    omega
theorem fC_L (hW : W = 5 ∨ W = 17) {o k : Nat} (h : tx_C o k) : fCL W o k := by
  have h := tx_Ca h
  unfold fCL
  omega
theorem fM_L {o k : Nat} (h : tx_M o k) : fML o k := by
  have h := tx_Ma h
  unfold fML
  omega
/-- a line's answer -/
def pL (ch : Nat → Int32) (n W N : Nat) (sC sM : u_H) (r : Option (q_V Int32) × u_H) : Prop := ∃ sC2, u_c 116 [.inr (.inr 29)] sC = some (none, sC2) ∧ r.1 = none ∧ jJ ch n W sC2 r.2 ∧ u_fr (fCL W) sC sC2 ∧ u_fr fML sM r.2 ∧ (r.2.1 65 2 = 0 → ∃ a b m, a + b + fc m = N ∧ jD W a b m sC2 r.2)
theorem p_close (hW : W = 5 ∨ W = 17) (hT : tx_T ch n) {N : Nat} {sC1 sM1 : u_H} {li : Nat → Int32} {ll : Nat → Int64} {r : Option (q_V Int32) × u_H} (hJ : jJ ch n W sC1 sM1) (f1 : u_fr (fCL W) sC sC1) (f2 : u_fr fML sM sM1) (hD : sM1.1 65 2 = 0 → ∃ a b m, a + b + fc m = N ∧ jD W a b m sC1 sM1) (e1 : u_c 116 [.inr (.inr 29)] sC = u_bv (u_c 106 [.inr (.inr 29), .inl (Int32.ofInt 59)] sC1) fun s => some (none, s)) (e2 : u_c 282 [.inr (.inr 67)] sM = u g_t282 236 (li, ll, [(0, 67)]) [] sM1) (hr : u_c 282 [.inr (.inr 67)] sM = some r) : pL ch n W N sC sM r := by
  obtain ⟨sC2, sM2, x1, x2, ⟨x3, x4, x5⟩, x6⟩ := p_semi hT hJ
  rw [e2, x2 li ll] at hr
  have hr := Option.some.inj hr
  subst hr
  refine ⟨sC2, ?_, rfl, x3, f1.tr (x4.mono (fun o k q => fC_L hW q)), f2.tr (x5.mono (fun o k q => fM_L q)), fun h0 => ?_⟩
  · rw [e1, x1, u_bvS]
  · obtain ⟨a, b, m, y1, y2⟩ := hD (x6 h0)
    exact ⟨a, b, m, y1, jD_t hW y2 x4 x5⟩
end DATA2
