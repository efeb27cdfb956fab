/-! WHAT IS ALIKE ON BOTH SIDES: what was seen; the slots that all else leaves alone -/
section SIGHT
def vS (o k : Nat) : Prop := qV o k ∨ (o = 65 ∧ (k = 78 ∨ k = 79)) ∨ (96 ≤ o ∧ o ≤ 100 ∧ k < 30)
theorem vS_T {o k : Nat} (h : vS o k) : zT o k := by
  rcases h with h | ⟨rfl, rfl | rfl⟩ | ⟨h1, h2, h3⟩
  · exact qV_T h
  · exact ⟨⟨_, rfl, by decide⟩, rfl⟩
  · exact ⟨⟨_, rfl, by decide⟩, rfl⟩
  · rcases (show o = 96 ∨ o = 97 ∨ o = 98 ∨ o = 99 ∨ o = 100 by omega) with rfl | rfl | rfl | rfl | rfl
    · exact zT_a rfl h3 (by decide) (by decide)
    · exact zT_a rfl h3 (by decide) (by decide)
    · exact zT_a rfl h3 (by decide) (by decide)
    · exact zT_a rfl h3 (by decide) (by decide)
    · exact zT_a rfl h3 (by decide) (by decide)
/-- the rows of what was seen, alike -/
def aVj (g : Nat → Nat → Int32) (j : Nat) : Prop := g 56 j = g 96 j ∧ g 57 j = g 97 j ∧ g 58 j = g 100 j ∧ g 59 j = g 98 j ∧ g 60 j = g 99 j ∧ (g 60 j = u_k (-1) ∨ ∃ x, x ≤ 100000 ∧ g 60 j = zi x)
def aV (g : Nat → Nat → Int32) (m t : Nat) : Prop := m ≤ 30 ∧ t ≤ 100000 ∧ (g 55 1 = zi m ∧ g 65 78 = zi m ∧ g 55 0 = zi t ∧ g 65 79 = zi t) ∧ ∀ j, j < m → aVj g j
theorem aVj_fr {g g2 : Nat → Nat → Int32} {j : Nat} (h : aVj g j) (e : ∀ o, (56 ≤ o ∧ o ≤ 60) ∨ (96 ≤ o ∧ o ≤ 100) → g2 o j = g o j) : aVj g2 j := by
  unfold aVj
  rw [e 56 (by omega), e 57 (by omega), e 58 (by omega), e 59 (by omega), e 60 (by omega), e 96 (by omega), e 97 (by omega), e 98 (by omega), e 99 (by omega), e 100 (by omega)]
  exact h
theorem aV_fr {g g2 : Nat → Nat → Int32} {m t : Nat} (h : aV g m t) (e : ∀ o k, vS o k → g2 o k = g o k) : aV g2 m t := by
  obtain ⟨h1, h2, ⟨h3, h4, h5, h6⟩, h7⟩ := h
  refine ⟨h1, h2, ⟨?_, ?_, ?_, ?_⟩, fun j hj => aVj_fr (h7 j hj) (fun o ho => e o j ?_)⟩
  · rw [e 55 1 (by unfold vS qV; omega)]; exact h3
  · rw [e 65 78 (by unfold vS qV; omega)]; exact h4
  · rw [e 55 0 (by unfold vS qV; omega)]; exact h5
  · rw [e 65 79 (by unfold vS qV; omega)]; exact h6
  · unfold vS qV
    omega
/-- told or seen -/
def tv (o k : Nat) : Prop := qD 5 o k ∨ qD 17 o k ∨ mD o k ∨ vS o k
theorem tv_T {o k : Nat} (h : tv o k) : zT o k := by
  rcases h with h | h | h | h
  · exact qD_T (Or.inl rfl) h
  · exact qD_T (Or.inr rfl) h
  · exact mD_T h
  · exact vS_T h
def l_kR (rs K : List (Nat × Nat)) : Bool := rs.all (fun r => K.all (fun q => Nat.blt q.2 r.1 || Nat.blt r.2 q.1))
theorem l_kR_ok {rs K : List (Nat × Nat)} {r : Nat × Nat} {g : Nat} (h : l_kR rs K = true) (hr : r ∈ rs) (h1 : r.1 ≤ g) (h2 : g ≤ r.2) : w_inm K g = false := by
  unfold l_kR at h
  rw [List.all_eq_true] at h
  exact z_ou (h r hr) h1 h2
/-- the keys of what was told -/
def l_rt : List (Nat × Nat) := [(12352, 12364), (20544, 20548), (24640, 24644), (32832, 32838), (36928, 36934), (41024, 41030), (45123, 45124), (49216, 49485), (61504, 61516), (69696, 69700), (73792, 73796), (81984, 81990), (86080, 86086), (90176, 90182), (94275, 94276), (98368, 98637), (266322, 266329), (266351, 266356), (286784, 287103), (290880, 291199), (327744, 327748), (331840, 331844), (335936, 335942), (340032, 340038), (344128, 344134)]
/-- and of what was seen -/
def l_rv : List (Nat × Nat) := [(225344, 225345), (229440, 229469), (233536, 233565), (237632, 237661), (241728, 241757), (245824, 245853), (266382, 266383), (393280, 393309), (397376, 397405), (401472, 401501), (405568, 405597), (409664, 409693)]
theorem qD_r {R o k : Nat} (hR : R = 5 ∨ R = 17) (h : qD R o k) : ∃ r, r ∈ l_rt ∧ r.1 ≤ w_key o k ∧ w_key o k ≤ r.2 := by
  unfold qD at h
  unfold w_key
  rcases hR with rfl | rfl
  · rcases h with ⟨rfl, h⟩ | ⟨rfl, h⟩ | ⟨rfl, h⟩ | ⟨rfl, h⟩ | ⟨rfl, h⟩ | ⟨rfl, h⟩ | ⟨rfl, h⟩ | ⟨rfl, h⟩
    · exact ⟨(12352, 12364), by decide, by show 12352 ≤ _; omega, by show _ ≤ 12364; omega⟩
    · exact ⟨(20544, 20548), by decide, by show 20544 ≤ _; omega, by show _ ≤ 20548; omega⟩
    · exact ⟨(24640, 24644), by decide, by show 24640 ≤ _; omega, by show _ ≤ 24644; omega⟩
    · exact ⟨(32832, 32838), by decide, by show 32832 ≤ _; omega, by show _ ≤ 32838; omega⟩
    · exact ⟨(36928, 36934), by decide, by show 36928 ≤ _; omega, by show _ ≤ 36934; omega⟩
    · exact ⟨(41024, 41030), by decide, by show 41024 ≤ _; omega, by show _ ≤ 41030; omega⟩
    · exact ⟨(45123, 45124), by decide, by show 45123 ≤ _; omega, by show _ ≤ 45124; omega⟩
    · exact ⟨(49216, 49485), by decide, by show 49216 ≤ _; omega, by show _ ≤ 49485; omega⟩
  · rcases h with ⟨rfl, h⟩ | ⟨rfl, h⟩ | ⟨rfl, h⟩ | ⟨rfl, h⟩ | ⟨rfl, h⟩ | ⟨rfl, h⟩ | ⟨rfl, h⟩ | ⟨rfl, h⟩
    · exact ⟨(61504, 61516), by decide, by show 61504 ≤ _; omega, by show _ ≤ 61516; omega⟩
    · exact ⟨(69696, 69700), by decide, by show 69696 ≤ _; omega, by show _ ≤ 69700; omega⟩
    · exact ⟨(73792, 73796), by decide, by show 73792 ≤ _; omega, by show _ ≤ 73796; omega⟩
    · exact ⟨(81984, 81990), by decide, by show 81984 ≤ _; omega, by show _ ≤ 81990; omega⟩
    · exact ⟨(86080, 86086), by decide, by show 86080 ≤ _; omega, by show _ ≤ 86086; omega⟩
    · exact ⟨(90176, 90182), by decide, by show 90176 ≤ _; omega, by show _ ≤ 90182; omega⟩
    · exact ⟨(94275, 94276), by decide, by show 94275 ≤ _; omega, by show _ ≤ 94276; omega⟩
    · exact ⟨(98368, 98637), by decide, by show 98368 ≤ _; omega, by show _ ≤ 98637; omega⟩
theorem mD_r {o k : Nat} (h : mD o k) : ∃ r, r ∈ l_rt ∧ r.1 ≤ w_key o k ∧ w_key o k ≤ r.2 := by
  unfold mD at h
  unfold w_key
  rcases h with ⟨rfl, h⟩ | ⟨rfl, h⟩ | ⟨rfl, h⟩ | ⟨rfl, h⟩ | ⟨rfl, h⟩ | ⟨rfl, h⟩ | ⟨rfl, h⟩ | ⟨rfl, h⟩
  · rcases (show (k = 18 ∨ k = 21 ∨ k = 25) ∨ (47 ≤ k ∧ k ≤ 52) by omega) with q | q
    · exact ⟨(266322, 266329), by decide, by show 266322 ≤ _; omega, by show _ ≤ 266329; omega⟩
    · exact ⟨(266351, 266356), by decide, by show 266351 ≤ _; omega, by show _ ≤ 266356; omega⟩
  · exact ⟨(286784, 287103), by decide, by show 286784 ≤ _; omega, by show _ ≤ 287103; omega⟩
  · exact ⟨(290880, 291199), by decide, by show 290880 ≤ _; omega, by show _ ≤ 291199; omega⟩
  · exact ⟨(327744, 327748), by decide, by show 327744 ≤ _; omega, by show _ ≤ 327748; omega⟩
  · exact ⟨(331840, 331844), by decide, by show 331840 ≤ _; omega, by show _ ≤ 331844; omega⟩
  · exact ⟨(335936, 335942), by decide, by show 335936 ≤ _; omega, by show _ ≤ 335942; omega⟩
  · exact ⟨(340032, 340038), by decide, by show 340032 ≤ _; omega, by show _ ≤ 340038; omega⟩
  · exact ⟨(344128, 344134), by decide, by show 344128 ≤ _; omega, by show _ ≤ 344134; omega⟩
theorem vS_r {o k : Nat} (h : vS o k) : ∃ r, r ∈ l_rv ∧ r.1 ≤ w_key o k ∧ w_key o k ≤ r.2 := by
  unfold vS qV at h
  unfold w_key
  rcases h with (⟨rfl, h⟩ | ⟨rfl, h⟩ | ⟨rfl, h⟩ | ⟨rfl, h⟩ | ⟨rfl, h⟩ | ⟨rfl, h⟩) | ⟨rfl, h⟩ | ⟨h1, h2, h3⟩
  · exact ⟨(225344, 225345), by decide, by show 225344 ≤ _; omega, by show _ ≤ 225345; omega⟩
  · exact ⟨(229440, 229469), by decide, by show 229440 ≤ _; omega, by show _ ≤ 229469; omega⟩
  · exact ⟨(233536, 233565), by decide, by show 233536 ≤ _; omega, by show _ ≤ 233565; omega⟩
  · exact ⟨(237632, 237661), by decide, by show 237632 ≤ _; omega, by show _ ≤ 237661; omega⟩
  · exact ⟨(241728, 241757), by decide, by show 241728 ≤ _; omega, by show _ ≤ 241757; omega⟩
  · exact ⟨(245824, 245853), by decide, by show 245824 ≤ _; omega, by show _ ≤ 245853; omega⟩
  · exact ⟨(266382, 266383), by decide, by show 266382 ≤ _; omega, by show _ ≤ 266383; omega⟩
  · rcases (show o = 96 ∨ o = 97 ∨ o = 98 ∨ o = 99 ∨ o = 100 by omega) with rfl | rfl | rfl | rfl | rfl
    · exact ⟨(393280, 393309), by decide, by show 393280 ≤ _; omega, by show _ ≤ 393309; omega⟩
    · exact ⟨(397376, 397405), by decide, by show 397376 ≤ _; omega, by show _ ≤ 397405; omega⟩
    · exact ⟨(401472, 401501), by decide, by show 401472 ≤ _; omega, by show _ ≤ 401501; omega⟩
    · exact ⟨(405568, 405597), by decide, by show 405568 ≤ _; omega, by show _ ≤ 405597; omega⟩
    · exact ⟨(409664, 409693), by decide, by show 409664 ≤ _; omega, by show _ ≤ 409693; omega⟩
/-- a call that leaves alone what was told -/
theorem t_at {K : List (Nat × Nat)} {s s2 : y_H} (hf : y_fr g_sh K s s2) (hK : l_kR l_rt K = true) {o k : Nat} (h : qD 5 o k ∨ qD 17 o k ∨ mD o k) : s2.1 o k = s.1 o k := by
  have hT : zT o k := tv_T (by rcases h with h | h | h; exact Or.inl h; exact Or.inr (Or.inl h); exact Or.inr (Or.inr (Or.inl h)))
  obtain ⟨r, h1, h2, h3⟩ : ∃ r, r ∈ l_rt ∧ r.1 ≤ w_key o k ∧ w_key o k ≤ r.2 := by
    rcases h with h | h | h
    · exact qD_r (Or.inl rfl) h
    · exact qD_r (Or.inr rfl) h
    · exact mD_r h
  exact zT_fr hT hf (l_kR_ok hK h1 h2 h3)
theorem v_at {K : List (Nat × Nat)} {s s2 : y_H} (hf : y_fr g_sh K s s2) (hK : l_kR l_rv K = true) {o k : Nat} (h : vS o k) : s2.1 o k = s.1 o k := by
  obtain ⟨r, h1, h2, h3⟩ := vS_r h
  exact zT_fr (vS_T h) hf (l_kR_ok hK h1 h2 h3)
/-- all that is alike -/
def jA (s : y_H) : Prop := jX s.1 ∧ (∃ a b, aT s.1 (s.2.2 0 2) a b) ∧ ∃ m t, aV s.1 m t
/-- the Told at hand is one of two -/
theorem tv_D {T o k : Nat} (hT : T = 5 ∨ T = 17) (h : qD T o k ∨ mD o k) : tv o k := by
  rcases h with h | h
  · rcases hT with rfl | rfl
    · exact Or.inl h
    · exact Or.inr (Or.inl h)
  · exact Or.inr (Or.inr (Or.inl h))
end SIGHT
