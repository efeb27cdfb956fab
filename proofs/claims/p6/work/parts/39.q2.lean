/-! by hand, for the checker: fillRail -/
theorem y_pre66 {s : y_H} {r : Nat} (hM : w_oM [] (y_mk g_sh s) (w_kzM [(66, w_r r)])) : s.2.2 0 2 = r := by
  obtain ⟨-, m, hm, hin⟩ := hM (66, w_r r) List.mem_cons_self
  have e : (Sum.inr (Sum.inr (s.2.2 0 2)) : q_V Int32) = .inr (.inr m) := by
    have h2 : y_mk g_sh s (w_ko 66) (w_kk 66) = .inr (.inr m) := hm
    rw [show w_ko 66 = 0 by decide +kernel, show w_kk 66 = 2 by decide +kernel] at h2
    exact h2
  have e2 : s.2.2 0 2 = m := by
    injection e with e
    injection e
  have e3 : m = r := by simpa using hin
  exact e2.trans e3
theorem y_fillRailE {n r RN : Nat} {K KL : List (Nat × Nat)} {M : w_U} (hg : y_eGone (y_Vn n) r) (hl : y_eLenC (y_Vn n) r KL M) (hse : y_eSeedC (y_Vn n)) (hqu : y_eQuaC (y_Vn n)) (hr5 : r = 5 ∨ r = 17) (hRN : RN < 2) (k1 : y_inc [(114753, 114753), (114759, 114759), (118848, 118853), (122944, 122950)] K = true) (k2 : y_inc KL K = true) (k66 : w_inm K 66 = false) (k9 : w_inm K (w_key 28 9) = true) (k31 : w_inm K (w_key 31 RN) = true) (k32 : w_inm K (w_key 32 RN) = true) (k30 : w_inr K (w_key 30 0) (w_key 30 6) = true) : w_Ent (y_Vn n) g_sh g_ts (22, [w_r 2, w_n RN RN 0], [(66, w_r r)], K, [([], none, [])], 7) := by
  have hx : y_exE g_sh (22, [w_r 2, w_n RN RN 0], [(66, w_r r)], K, [([], none, [])], 7) = true := by
    unfold y_exE
    rw [Bool.and_eq_true]
    exact ⟨y_ex66, rfl⟩
  refine y_C.toE g_shok g_pkok hx ?_
  refine y_C.weak (y_fillRailC (n := n) (K := K) hg hl hse hqu hr5 hRN k1 k2 k66 k9 k31 k32 k30) (Nat.le_refl 7) ?_ ?_
  · rintro a s ⟨hT, ha, hM⟩
    have hp := y_pre66 hM
    rcases a with _ | ⟨v1, _ | ⟨v2, _ | ⟨v3, a⟩⟩⟩
    · exact ha.elim
    · exact ha.2.elim
    · obtain ⟨⟨n1, rfl, h1⟩, h2, -⟩ := ha
      have e1 : n1 = 2 := by simpa using h1
      subst e1
      obtain ⟨R, rfl, r1, r2⟩ := y_argI h2
      exact ⟨hT, hp, R, rfl, by omega⟩
    · exact ha.2.2.elim
  · rintro a s v s2 - ⟨rfl, hT2, hf2⟩
    exact ⟨hT2, hf2, _, List.mem_cons_self, (fun z hz => by cases hz), True.intro, (fun q hq => by cases hq)⟩
