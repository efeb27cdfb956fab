/-! ACTS, and NEEDS put back: over the law's frame -/
def l_kA (K : List (Nat × Nat)) : Bool := !(w_inm K 66) && (!(w_inm K 67) && (!(w_inm K 12356) && (!(w_inm K 61508) && (l_kX K && (l_kR l_rt K && l_kR l_rv K)))))
theorem l_keepA {K : List (Nat × Nat)} {n : Nat} {s s2 : y_H} (hK : l_kA K = true) (hI : LInv n s) (hT : w_T (y_Vn n) g_sh (y_mk g_sh s2)) (hf : y_fr g_sh K s s2) : LInv n s2 ∧ (∀ o k, lX o k → s2.1 o k = s.1 o k) ∧ (∀ o k, tv o k → s2.1 o k = s.1 o k) ∧ s2.2.2 0 2 = s.2.2 0 2 := by
  unfold l_kA at hK
  simp only [Bool.and_eq_true, Bool.not_eq_true'] at hK
  obtain ⟨k1, k2, k3, k4, k5, k6, k7⟩ := hK
  refine ⟨⟨hT, y_Td_fr hf k1 k3 k4 hI.2.1, ?_⟩, l_X_at hf k5, fun o k h => by rcases h with h | h | h | h; exact t_at hf k6 (Or.inl h); exact t_at hf k6 (Or.inr (Or.inl h)); exact t_at hf k6 (Or.inr (Or.inr h)); exact v_at hf k7 h, y_fr66 hf k1⟩
  unfold y_Un
  rw [y_fr66 hf k1, y_fr67 hf k2]
  exact hI.2.2
/-- a method by hand, with its frame -/
theorem l_frH {ref k na D : Nat} {K : List (Nat × Nat)} {P : Nat → List (q_V Int32) → y_H → Prop} {Q : Nat → List (q_V Int32) → y_H → Option (q_V Int32) → y_H → Prop} (hC : ∀ n, y_C g_sh g_ts k D (P n) (Q n)) (hP : ∀ n a s, LInv n s → l_A ref na a → P n a s) (hQ : ∀ n a s v s2, Q n a s v s2 → w_T (y_Vn n) g_sh (y_mk g_sh s2) ∧ y_fr g_sh K s s2 ∧ ∃ x : Int32, v = some (.inl x)) : ∀ n, y_C g_sh g_ts k D (fun a s => LInv n s ∧ l_A ref na a) (fun _ s v s2 => w_T (y_Vn n) g_sh (y_mk g_sh s2) ∧ y_fr g_sh K s s2 ∧ ∃ x : Int32, v = some (.inl x)) := by
  intro n d a s hd hP2 h ns hR
  obtain ⟨m, v, h2, s2, hc, hR2, hq⟩ := hC n d a s hd (hP n a s hP2.1 hP2.2) h ns hR
  exact ⟨m, v, h2, s2, hc, hR2, hQ n a s v s2 hq⟩
def l_kC (K : List (Nat × Nat)) : Bool := l_kA K && (l_kR l_rmS K && (l_kR l_rcB K && l_kR l_rmB K))
def l_kM (K : List (Nat × Nat)) : Bool := l_kA K && (l_kR l_rcS K && (l_kR l_rcB K && l_kR l_rmB K))
/-- what was told and read, behind two calls that leave it alone -/
theorem jA_two {n : Nat} {s s2 s3 : y_H} {K K3 : List (Nat × Nat)} (hI : LInv n s) (hI2 : LInv n s2) (hg : jA s) (w2 : w_T (y_Vn n) g_sh (y_mk g_sh s2)) (f2 : y_fr g_sh K s s2) (k2 : l_kA K = true) (w3 : w_T (y_Vn n) g_sh (y_mk g_sh s3)) (f3 : y_fr g_sh K3 s2 s3) (k3 : l_kA K3 = true) : jA s3 ∧ (∀ o k, tv o k → s3.1 o k = s.1 o k) := by
  obtain ⟨-, a1, a2, a3⟩ := l_keepA k2 hI w2 f2
  obtain ⟨-, b1, b2, b3⟩ := l_keepA k3 hI2 w3 f3
  have e : ∀ o k, tv o k → s3.1 o k = s.1 o k := fun o k q => (b2 o k q).trans (a2 o k q)
  exact ⟨jA_of hI.2.2 hg (jX_fr hg.1 (fun o k q => (b1 o k q).trans (a1 o k q))) e (b3.trans a3), e⟩
theorem l_and4 {a b c d : Bool} (h : (a && (b && (c && d))) = true) : a = true ∧ b = true ∧ c = true ∧ d = true := by
  simp only [Bool.and_eq_true] at h
  exact h
/-- what an act finds -/
theorem jS_in {n : Nat} {s s2 : y_H} {K : List (Nat × Nat)} (hI : LInv n s) (hg : jS s) (w2 : w_T (y_Vn n) g_sh (y_mk g_sh s2)) (f2 : y_fr g_sh K s s2) (k2 : l_kC K = true) : ∃ a b R w c l, tW (s.2.2 0 2) a b R w c l s.1 s2.1 ∧ b ≤ 7 ∧ R ≤ 2 ∧ s2.1 65 47 = zi a ∧ s2.1 65 48 = zi b ∧ s2.1 65 50 = zi R ∧ aR b R (nR s.1) (s2.1 85) ∧ aP b R s.1 s2.1 ∧ aB b R s.1 s2.1 := by
  obtain ⟨q1, q2, q3, q4⟩ := l_and4 k2
  obtain ⟨-, -, a2, -⟩ := l_keepA q1 hI w2 f2
  obtain ⟨hA, b, R, hb, hR2, e48, e50, hR, hP, hB⟩ := hg
  obtain ⟨-, ⟨a, b', hT⟩, -⟩ := hA
  have eb : b' = b := (zi_inj (by have := hT.2.1; omega) (by omega)).mp (hT.2.2.1.2.2.2.symm.trans e48)
  subst eb
  obtain ⟨R', w, c, l, r1, r2, hW⟩ := tW_of hT
  have eR : R' = R := (zi_inj (by omega) (by omega)).mp (r1.symm.trans e50)
  subst eR
  have em : ∀ o k, mD o k → s2.1 o k = s.1 o k := fun o k q => a2 o k (Or.inr (Or.inr (Or.inl q)))
  have es : ∀ o k, smA o k → s2.1 o k = s.1 o k := fun o k q => smA_fr q f2 q2
  exact ⟨a, b', R', w, c, l, tW_fr hW (fun _ _ _ => rfl) em, hb, hR2, (em 65 47 (by unfold mD; omega)).trans hT.2.2.1.2.1, (em 65 48 (by unfold mD; omega)).trans e48, (em 65 50 (by unfold mD; omega)).trans e50, aR_st hb hR (fun _ _ _ => rfl) es, aP_st hb hP (fun _ _ _ => rfl) es, aB_st hb hB (fun _ _ _ => rfl) (fun o k q => sbM_fr q f2 q4)⟩
/-- what an act leaves -/
theorem jS_out {n b R : Nat} {s s2 s3 : y_H} {K K3 : List (Nat × Nat)} (hI : LInv n s) (hI2 : LInv n s2) (hg : jS s) (w2 : w_T (y_Vn n) g_sh (y_mk g_sh s2)) (f2 : y_fr g_sh K s s2) (k2 : l_kC K = true) (w3 : w_T (y_Vn n) g_sh (y_mk g_sh s3)) (f3 : y_fr g_sh K3 s2 s3) (k3 : l_kM K3 = true) (hb : b ≤ 7) (hR2 : R ≤ 2) (e48 : s2.1 65 48 = zi b) (e50 : s2.1 65 50 = zi R) (hR : aR b R (nR s2.1) (s3.1 85)) (hP : aP b R s2.1 s3.1) (hB : aB b R s.1 s2.1) : jS s3 := by
  obtain ⟨q1, q2, q3, q4⟩ := l_and4 k2
  obtain ⟨p1, p2, p3, p4⟩ := l_and4 k3
  obtain ⟨hA, -⟩ := jA_two hI hI2 hg.1 w2 f2 q1 w3 f3 p1
  obtain ⟨-, -, b2, -⟩ := l_keepA p1 hI2 w3 f3
  have em : ∀ o k, mD o k → s3.1 o k = s2.1 o k := fun o k q => b2 o k (Or.inr (Or.inr (Or.inl q)))
  have ec : ∀ o k, stC o k → s3.1 o k = s2.1 o k := fun o k q => st_fr q f3 p2
  exact ⟨hA, b, R, hb, hR2, (em 65 48 (by unfold mD; omega)).trans e48, (em 65 50 (by unfold mD; omega)).trans e50, aR_st hb hR ec (fun _ _ _ => rfl), aP_st hb hP ec (fun _ _ _ => rfl), aB_st hb hB (fun o k q => (sbC_fr q f3 p3).trans (sbC_fr q f2 q3)) (fun o k q => sbM_fr q f3 p4)⟩
/-- an act -/
theorem jS_act {c : Prop} {n kC kM : Nat} {aC aM : List (q_V Int32)} {s s2 s3 : y_H} {v v3 : Option (q_V Int32)} {K K3 : List (Nat × Nat)} (hI : LInv n s) (hI2 : LInv n s2) (hg : jS s) (w2 : w_T (y_Vn n) g_sh (y_mk g_sh s2)) (f2 : y_fr g_sh K s s2) (k2 : l_kC K = true) (w3 : w_T (y_Vn n) g_sh (y_mk g_sh s3)) (f3 : y_fr g_sh K3 s2 s3) (k3 : l_kM K3 = true) (hx : ∃ t, u_c kC aC (uP s) = some (v, t) ∧ zA t s2) (hm : ∃ t, u_c kM aM (uP s2) = some (v3, t) ∧ zA t s3) (al : aXs c kC kM aC aM) : (c → v = v3) ∧ jS s3 := by
  obtain ⟨a, b, R, w, cc, l, hW, hb, hR2, e47, e48, e50, hR, hP, hB⟩ := jS_in hI hg w2 f2 k2
  obtain ⟨t2, x1, x2⟩ := hx
  obtain ⟨t3, y1, y2⟩ := hm
  obtain ⟨h1, h2, h3⟩ := al (s.2.2 0 2) a b R w cc l (uP s) (uP s2) (y_Un_T hI.2.2).1 rfl hW e47 e48 hR hP v v3 t2 t3 x1 y1
  have ec : ∀ o k, stC o k → s2.1 o k = t2.1 o k := fun o k q => (zT_A (stC_T q) x2).symm
  have em : ∀ o k, smA o k → s3.1 o k = t3.1 o k := fun o k q => (zT_A (smA_T q) y2).symm
  exact ⟨h1, jS_out hI hI2 hg w2 f2 k2 w3 f3 k3 hb hR2 e48 e50 (aR_st hb h2 ec em) (aP_st hb h3 ec em) hB⟩
/-- an image -/
def l_kI (K : List (Nat × Nat)) : Bool := l_kA K && (l_kR l_rmS K && (l_kR l_rcS K && l_kR l_rmB K))
def l_kJ (K : List (Nat × Nat)) : Bool := l_kA K && (l_kR l_rcS K && (l_kR l_rcB K && l_kR l_rmS K))
theorem jS_image {n : Nat} {s s2 s3 : y_H} {x : Int32} {v v3 : Option (q_V Int32)} {K K3 : List (Nat × Nat)} (hI : LInv n s) (hI2 : LInv n s2) (hg : jS s) (w2 : w_T (y_Vn n) g_sh (y_mk g_sh s2)) (f2 : y_fr g_sh K s s2) (k2 : l_kI K = true) (w3 : w_T (y_Vn n) g_sh (y_mk g_sh s3)) (f3 : y_fr g_sh K3 s2 s3) (k3 : l_kJ K3 = true) (hx : ∃ t, u_c 29 [.inr (.inr 2), .inl x] (uP s) = some (v, t) ∧ zA t s2) (hm : ∃ t, u_c 222 [.inr (.inr 67), .inl x] (uP s2) = some (v3, t) ∧ zA t s3) : v = v3 ∧ jS s3 := by
  obtain ⟨q1, q2, q3, q4⟩ := l_and4 k2
  obtain ⟨p1, p2, p3, p4⟩ := l_and4 k3
  obtain ⟨hA, -⟩ := jA_two hI hI2 hg.1 w2 f2 q1 w3 f3 p1
  obtain ⟨-, -, a2, -⟩ := l_keepA q1 hI w2 f2
  obtain ⟨-, -, b2, -⟩ := l_keepA p1 hI2 w3 f3
  obtain ⟨-, b, R, hb, hR2, e48, e50, hR, hP, hB⟩ := hg
  have em : ∀ o k, mD o k → s3.1 o k = s.1 o k := fun o k q => (b2 o k (Or.inr (Or.inr (Or.inl q)))).trans (a2 o k (Or.inr (Or.inr (Or.inl q))))
  have e2 : ∀ o k, smA o k → s2.1 o k = s.1 o k := fun o k q => smA_fr q f2 q2
  have e3 : ∀ o k, smA o k → s3.1 o k = s2.1 o k := fun o k q => smA_fr q f3 p4
  have c2 : ∀ o k, stC o k → s3.1 o k = s.1 o k := fun o k q => (st_fr q f3 p2).trans (st_fr q f2 q3)
  have m2 : ∀ o k, smA o k → s3.1 o k = s.1 o k := fun o k q => (e3 o k q).trans (e2 o k q)
  obtain ⟨y, s4, t4, g1, g2, g3⟩ := image_alike (sC := uP s) (sM := uP s2) hb (aR_st hb hR (fun _ _ _ => rfl) e2) (aB_st hb hB (fun _ _ _ => rfl) (fun o k q => sbM_fr q f2 q4)) x
  obtain ⟨t2, x1, x2⟩ := hx
  obtain ⟨t3, y1, y2⟩ := hm
  rw [g1] at x1
  rw [g2] at y1
  cases x1
  cases y1
  exact ⟨rfl, hA, b, R, hb, hR2, (em 65 48 (by unfold mD; omega)).trans e48, (em 65 50 (by unfold mD; omega)).trans e50, aR_st hb hR c2 m2, aP_st hb hP c2 m2, aB_st hb g3 (fun o k q => (sbC_fr q f3 p3).trans (zT_A (sbC_T q) x2).symm) (fun o k q => (zT_A (sbM_T q) y2).symm)⟩
/-- gone back to one -/
theorem jS_back {n : Nat} {s s2 s3 : y_H} {x : Int32} {v v3 : Option (q_V Int32)} {K K3 : List (Nat × Nat)} (hI : LInv n s) (hI2 : LInv n s2) (hg : jS s) (w2 : w_T (y_Vn n) g_sh (y_mk g_sh s2)) (f2 : y_fr g_sh K s s2) (k2 : l_kC K = true) (w3 : w_T (y_Vn n) g_sh (y_mk g_sh s3)) (f3 : y_fr g_sh K3 s2 s3) (k3 : l_kM K3 = true) (hx : ∃ t, u_c 7 [.inr (.inr 2), .inl x] (uP s) = some (v, t) ∧ zA t s2) (hm : ∃ t, u_c 182 [.inr (.inr 67), .inl x] (uP s2) = some (v3, t) ∧ zA t s3) : v = v3 ∧ jS s3 := by
  obtain ⟨a, b, R, w, cc, l, hW, hb, hR2, e47, e48, e50, hR, hP, hB⟩ := jS_in hI hg w2 f2 k2
  obtain ⟨t2, x1, x2⟩ := hx
  obtain ⟨t3, y1, y2⟩ := hm
  obtain ⟨y, s4, t4, g1, g2, h2, h3⟩ := back_alike (sC := uP s) (sM := uP s2) hb hR hP hB x
  rw [g1] at x1
  rw [g2] at y1
  cases x1
  cases y1
  exact ⟨rfl, jS_out hI hI2 hg w2 f2 k2 w3 f3 k3 hb hR2 e48 e50 (aR_st hb h2 (fun o k q => (zT_A (stC_T q) x2).symm) (fun o k q => (zT_A (smA_T q) y2).symm)) (aP_st hb h3 (fun o k q => (zT_A (stC_T q) x2).symm) (fun o k q => (zT_A (smA_T q) y2).symm)) hB⟩
/-- two change places -/
theorem jS_change {n : Nat} {s s2 s3 : y_H} {x y : Int32} {K K3 : List (Nat × Nat)} (hI : LInv n s) (hI2 : LInv n s2) (hg : jS s) (w2 : w_T (y_Vn n) g_sh (y_mk g_sh s2)) (f2 : y_fr g_sh K s s2) (k2 : l_kC K = true) (w3 : w_T (y_Vn n) g_sh (y_mk g_sh s3)) (f3 : y_fr g_sh K3 s2 s3) (k3 : l_kM K3 = true) (hx : chC [.inr (.inr 2), .inl x, .inl y] s s2) (hm : chM [.inr (.inr 67), .inl x, .inl y] s2 s3) : jS s3 := by
  obtain ⟨a, b, R, w, cc, l, hW, hb, hR2, e47, e48, e50, hR, hP, hB⟩ := jS_in hI hg w2 f2 k2
  obtain ⟨h2, h3⟩ := change_rows (y_Un_T hI.2.2).1 rfl hW e48 hR hP hx hm
  exact jS_out hI hI2 hg w2 f2 k2 w3 f3 k3 hb hR2 e48 e50 h2 h3 hB
/-- a call that puts the NEEDS back -/
def l_kN (K : List (Nat × Nat)) : Bool := !(w_inm K 66) && (!(w_inm K 67) && (!(w_inm K 12356) && (!(w_inm K 61508) && (l_kX K && (l_rt.all (fun r => Nat.beq r.1 340032 || K.all (fun q => Nat.blt q.2 r.1 || Nat.blt r.2 q.1)) && (l_kR l_rv K && l_kS K))))))
theorem l_rt83 : ∀ r, r ∈ l_rt → r.1 = 340032 → r.2 = 340038 := by decide
theorem t_atN {K : List (Nat × Nat)} {s s2 : y_H} (hf : y_fr g_sh K s s2) (hK : l_rt.all (fun r => Nat.beq r.1 340032 || K.all (fun q => Nat.blt q.2 r.1 || Nat.blt r.2 q.1)) = true) (h83 : ∀ j, j < 7 → s2.1 83 j = s.1 83 j) {o k : Nat} (h : qD 5 o k ∨ qD 17 o k ∨ mD o k) : s2.1 o k = s.1 o k := by
  have hk : k < 4096 := by
    unfold qD mD at h
    omega
  have hT : zT o k := tv_T (by rcases h with h | h | h; exact Or.inl h; exact Or.inr (Or.inl h); exact Or.inr (Or.inr (Or.inl h)))
  obtain ⟨r, h1, h2, h3⟩ : ∃ r, r ∈ l_rt ∧ r.1 ≤ w_key o k ∧ w_key o k ≤ r.2 := by
    rcases h with h | h | h
    · exact qD_r (Or.inl rfl) h
    · exact qD_r (Or.inr rfl) h
    · exact mD_r h
  rw [List.all_eq_true] at hK
  have h4 := hK r h1
  rw [Bool.or_eq_true] at h4
  rcases h4 with h4 | h4
  · have e1 := Nat.eq_of_beq_eq_true h4
    have e2 := l_rt83 r h1 e1
    unfold w_key at h2 h3
    have eo : o = 83 := by omega
    subst eo
    exact h83 k (by omega)
  · exact zT_fr hT hf (z_ou h4 h2 h3)
theorem l_pubND {ref k na D : Nat} {K : List (Nat × Nat)} (hC : ∀ n, y_C g_sh g_ts k D (fun a s => LInv n s ∧ l_A ref na a) (fun _ s v s2 => w_T (y_Vn n) g_sh (y_mk g_sh s2) ∧ y_fr g_sh K s s2 ∧ (∃ x : Int32, v = some (.inl x)) ∧ ∀ j, j < 7 → s2.1 83 j = s.1 83 j)) (hK : l_kN K = true) : l_Pub ref k na D := by
  intro n d a s hd hP h ns hR
  obtain ⟨m, v, h2, s2, hc, hR2, hT2, hf, hx, h83⟩ := hC n d a s hd hP h ns hR
  unfold l_kN at hK
  simp only [Bool.and_eq_true, Bool.not_eq_true'] at hK
  obtain ⟨k1, k2, k3, k4, k5, k6, k7, k8⟩ := hK
  refine ⟨m, v, h2, s2, hc, hR2, ⟨hT2, y_Td_fr hf k1 k3 k4 hP.1.2.1, ?_⟩, ⟨l_X_at hf k5, fun o k h => by rcases h with h | h | h | h; exact t_atN hf k6 h83 (Or.inl h); exact t_atN hf k6 h83 (Or.inr (Or.inl h)); exact t_atN hf k6 h83 (Or.inr (Or.inr h)); exact v_at hf k7 h, y_fr66 hf k1, fun o k h => s_at hf k8 h⟩, hx⟩
  unfold y_Un
  rw [y_fr66 hf k1, y_fr67 hf k2]
  exact hP.1.2.2
/-- FITS, SURE, ASK: a = the call's own arguments, f a = layFits' -/
theorem l_nd {k D : Nat} {Pa : List (q_V Int32) → Prop} {K : List (Nat × Nat)} (hk : u_ok k = true) (f : List (q_V Int32) → List (q_V Int32)) (hf : ∀ a, Pa a → ∃ x : Int32, f a = [.inr (.inr 67), .inl x]) (hu : ∀ a (s t4 t : u_H) (v4 v : Option (q_V Int32)), Pa a → u_c 244 (f a) s = some (v4, t4) → u_c k a s = some (v, t) → ∀ j, j < 7 → t.1 83 j = s.1 83 j ∨ t.1 83 j = t4.1 83 j) (h : ∀ n, y_C g_sh g_ts k D (fun a s => LInv n s ∧ Pa a) (fun _ s v s2 => w_T (y_Vn n) g_sh (y_mk g_sh s2) ∧ y_fr g_sh K s s2 ∧ ∃ x : Int32, v = some (.inl x))) (hJ : ∀ n, y_C g_sh g_ts 244 6 (fun a s => w_T (y_Vn n) g_sh (y_mk g_sh s) ∧ ∃ x : Int32, a = [.inr (.inr 67), .inl x]) (fun _ s v s2 => y_ljQ (y_Vn n) s v s2)) : ∀ n, y_C g_sh g_ts k D (fun a s => LInv n s ∧ Pa a) (fun _ s v s2 => w_T (y_Vn n) g_sh (y_mk g_sh s2) ∧ y_fr g_sh K s s2 ∧ (∃ x : Int32, v = some (.inl x)) ∧ ∀ j, j < 7 → s2.1 83 j = s.1 83 j) := by
  intro n d a s hd hP hh ns hR
  obtain ⟨m, v, h2, s2, hc, hR2, ⟨⟨g1, g2, g3⟩, t, t1, t2⟩, v4, s4, ⟨-, -, -, j4⟩, t4, e4, z4⟩ := y_C.wi (y_C.u hk (h n)) (y_C.u (by decide) (hJ n)) f (fun a s hp => ⟨hp.1.1, hf a hp.2⟩) d a s hd hP hh ns hR
  refine ⟨m, v, h2, s2, hc, hR2, g1, g2, g3, fun j hj => ?_⟩
  rw [← zT_A (nd_T hj) t2]
  rcases hu a (uP s) t4 t v4 v hP.2 e4 t1 j hj with q | q
  · exact q
  · rw [q, zT_A (nd_T hj) z4]
    exact j4 j hj
/-- a method by hand, with more to tell -/
theorem l_frX {ref k na D : Nat} {K : List (Nat × Nat)} {P : Nat → List (q_V Int32) → y_H → Prop} {E : List (q_V Int32) → y_H → y_H → Prop} (hC : ∀ n, y_C g_sh g_ts k D (P n) (fun a s v s2 => y_pubQ n K s v s2 ∧ E a s s2)) (hP : ∀ n a s, LInv n s → l_A ref na a → P n a s) : ∀ n, y_C g_sh g_ts k D (fun a s => LInv n s ∧ l_A ref na a) (fun a s v s2 => (w_T (y_Vn n) g_sh (y_mk g_sh s2) ∧ y_fr g_sh K s s2 ∧ ∃ x : Int32, v = some (.inl x)) ∧ E a s s2) := by
  intro n d a s hd hP2 h ns hR
  obtain ⟨m, v, h2, s2, hc, hR2, hq⟩ := hC n d a s hd (hP n a s hP2.1 hP2.2) h ns hR
  exact ⟨m, v, h2, s2, hc, hR2, hq⟩
/-- both sides as they stand, behind a call that leaves the state alone -/
theorem jV_of {n : Nat} {s s2 : y_H} (hI : LInv n s) (hg : jS s) (g : l_G s s2) : ∃ a b R w c l, jV (s.2.2 0 2) a b R w c l (uP s) (uP s2) := by
  obtain ⟨hA, b, R, hb, hR2, e48, e50, hR, hP, hB⟩ := hg
  obtain ⟨-, ⟨a, b', hT⟩, -⟩ := hA
  have eb : b' = b := (zi_inj (by have := hT.2.1; omega) (by omega)).mp (hT.2.2.1.2.2.2.symm.trans e48)
  subst eb
  obtain ⟨R', w, c, l, r1, r2, hW⟩ := tW_of hT
  have eR : R' = R := (zi_inj (by omega) (by omega)).mp (r1.symm.trans e50)
  subst eR
  have em : ∀ o k, mD o k → s2.1 o k = s.1 o k := fun o k q => g.2.1 o k (Or.inr (Or.inr (Or.inl q)))
  exact ⟨a, b', R', w, c, l, rfl, tW_fr hW (fun _ _ _ => rfl) em, (em 65 47 (by unfold mD; omega)).trans hT.2.2.1.2.1, (em 65 48 (by unfold mD; omega)).trans e48, aR_st hb hR (fun _ _ _ => rfl) (fun o k q => g.2.2.2 o k (Or.inr (Or.inr (Or.inl q))))⟩
theorem a_eq {o1 o2 : Option (Option (q_V Int32) × u_H)} {x x3 y : Int32} {t1 t2 s4 t4 : u_H} (h1 : o1 = some (some (.inl x), t1)) (h2 : o2 = some (some (.inl x3), t2)) (h3 : o1 = some (some (.inl y), s4)) (h4 : o2 = some (some (.inl y), t4)) : x = x3 := by
  rw [h3] at h1
  rw [h4] at h2
  cases h1
  cases h2
  rfl
