/-! by hand: more for the checker -/
theorem y_bitCountE8 {V : w_V} : w_Ent V g_sh g_ts (325, [w_n 0 255 0], [], [], [([], some (w_n 0 8 0), [])], 1) := by
  refine y_C.toE g_shok g_pkok rfl ?_
  refine y_C.weak y_bitCount (Nat.le_refl 1) ?_ ?_
  · rintro a s ⟨-, ha, -⟩
    rcases a with _ | ⟨v1, _ | ⟨v2, a⟩⟩
    · exact ha.elim
    · obtain ⟨⟨x, rfl, hx, -⟩, -⟩ := ha
      exact ⟨x, rfl⟩
    · exact ha.2.elim
  · rintro a s v s2 ⟨hT, ha, -⟩ ⟨rfl, hv⟩
    rcases a with _ | ⟨v1, _ | ⟨v2, a⟩⟩
    · exact ha.elim
    · obtain ⟨⟨x, rfl, hx, -⟩, -⟩ := ha
      have h1 : 2147483648 ≤ q_pc x := hx.1
      have h2 : q_pc x ≤ 2147483903 := hx.2
      have h3 := q_pc_int x
      have hxc : x = Int32.ofNat x.toInt.toNat := by
        have e := q_at32_ok (x := x) rfl
        rw [← Int32.toInt_inj]
        have := w_ofInt (n := ((x.toInt.toNat : Nat) : Int)) (by omega) (by omega)
        have e2 : Int32.ofNat x.toInt.toNat = Int32.ofInt ((x.toInt.toNat : Nat) : Int) := rfl
        rw [e2, this]
        omega
      have hb := y_bc8 x.toInt.toNat (by omega)
      rw [← hxc] at hb
      rw [hv x rfl]
      refine ⟨hT, y_fr.rf, _, List.mem_cons_self, (fun z hz => by cases hz), ?_, (fun q hq => by cases hq)⟩
      exact y_iv (by omega) (by omega)
    · exact ha.2.elim
theorem y_bitCountEA {V : w_V} : w_Ent V g_sh g_ts (325, [w_t 0], [], [], [([], some (w_t 0), [])], 1) := by
  refine y_C.toE g_shok g_pkok rfl ?_
  refine y_C.weak y_bitCount (Nat.le_refl 1) ?_ ?_
  · rintro a s ⟨-, ha, -⟩
    rcases a with _ | ⟨v1, _ | ⟨v2, a⟩⟩
    · exact ha.elim
    · obtain ⟨⟨x, rfl, hx, -⟩, -⟩ := ha
      exact ⟨x, rfl⟩
    · exact ha.2.elim
  · rintro a s v s2 ⟨hT, ha, -⟩ ⟨rfl, hv⟩
    rcases a with _ | ⟨v1, _ | ⟨v2, a⟩⟩
    · exact ha.elim
    · obtain ⟨⟨x, rfl, hx, -⟩, -⟩ := ha
      rw [hv x rfl]
      exact ⟨hT, y_fr.rf, _, List.mem_cons_self, (fun z hz => by cases hz), y_ivall, (fun q hq => by cases hq)⟩
    · exact ha.2.elim
theorem y_sendToEndE {V : w_V} (hex : w_Ent V g_sh g_ts (158, [w_r 38, w_t 0, w_t 0], [], [(151616, 151622)], [([], none, [])], 1)) : w_Ent V g_sh g_ts (169, [w_r 38, w_g 2147483647 2147483654 0], [], [(151616, 151622)], [([], none, [])], 2) := by
  refine y_C.toE g_shok g_pkok rfl ?_
  refine y_C.weak (y_sendToEnd hex) (Nat.le_refl 2) ?_ ?_
  · rintro a s ⟨hT, ha, -⟩
    rcases a with _ | ⟨v1, _ | ⟨v2, _ | ⟨v3, a⟩⟩⟩
    · exact ha.elim
    · exact ha.2.elim
    · obtain ⟨⟨n, rfl, hn⟩, ⟨x, rfl, hx, -⟩, -⟩ := ha
      have hn2 : n = 38 := by simpa using hn
      subst hn2
      have h1 : q_pc x ≤ 2147483654 := hx.2
      have h2 := q_pc_int x
      exact ⟨hT, x, rfl, by omega⟩
    · exact ha.2.2.elim
  · rintro a s v s2 - ⟨rfl, hT2, hf2⟩
    exact ⟨hT2, hf2, _, List.mem_cons_self, (fun z hz => by cases hz), True.intro, (fun q hq => by cases hq)⟩
theorem y_tokenE {V : w_V} : w_Ent V g_sh g_ts (309, [w_r 67], [], [(266308, 266308), (266310, 266313)], [([], none, [])], 2) := by
  refine y_C.toE g_shok g_pkok rfl ?_
  refine y_C.weak (y_token (V := V)) (Nat.le_refl 2) ?_ ?_
  · rintro a s ⟨hT, ha, -⟩
    rcases a with _ | ⟨v1, _ | ⟨v2, a⟩⟩
    · exact ha.elim
    · obtain ⟨⟨n, rfl, hn⟩, -⟩ := ha
      have hn2 : n = 67 := by simpa using hn
      subst hn2
      exact ⟨hT, rfl⟩
    · exact ha.2.elim
  · rintro a s v s2 - ⟨rfl, hT2, hf2, -, -⟩
    exact ⟨hT2, hf2, _, List.mem_cons_self, (fun z hz => by cases hz), True.intro, (fun q hq => by cases hq)⟩
/-- lengthOf, where V says that the steps are well-formed -/
theorem y_lengthOfE {V : w_V} (hV : ∀ s : y_H, V.1 (y_mk g_sh s) → ∃ D, y_FD D s.1) (h0 : w_Ent V g_sh g_ts (313, [w_n 0 0 0], [], [], [([], some (w_n 0 0 0), [])], 1)) (h1 : w_Ent V g_sh g_ts (313, [w_n 1 1 0], [], [], [([], some (w_n 1 1 0), [])], 1)) (hdone : w_Ent V g_sh g_ts (196, [w_t 0, w_t 0, w_t 0], [], [], [([], some (w_t 0), [])], 2)) (hwithin : w_Ent V g_sh g_ts (323, [w_t 0, w_n 1 1 0, w_n 60 60 0], [], [], [([], some (w_n 1 60 0), [])], 1)) (hhas : w_Ent V g_sh g_ts (216, [w_t 0, w_n 0 7 0], [], [], [([], some (w_n 0 0 0), []), ([], some (w_n 1 1 0), [])], 1)) (hgr : w_Ent V g_sh g_ts (214, [w_n 1 1 0, w_n 0 30 0], [], [], [([], some (w_n 1 30 0), [])], 1)) (hless : w_Ent V g_sh g_ts (251, [w_t 0, w_t 0], [], [], [([], some (w_t 0), [])], 1)) (hsails : w_Ent V g_sh g_ts (291, [w_r 67, w_n 0 4 0], [], [], [([], some (w_n 0 20238 0), [])], 2)) : w_Ent V g_sh g_ts (250, [w_r 67, w_n 0 7 0, w_t 0], [], [(299072, 299135), (303168, 303173)], [([], some (w_n 1 60 0), [])], 3) := by
  refine y_C.toE g_shok g_pkok rfl ?_
  refine y_C.weak (y_lengthOf h0 h1 hdone hwithin hhas hgr hless hsails) (Nat.le_refl 3) ?_ ?_
  · rintro a s ⟨hT, ha, -⟩
    rcases a with _ | ⟨v1, _ | ⟨v2, _ | ⟨v3, _ | ⟨v4, a⟩⟩⟩⟩
    · exact ha.elim
    · exact ha.2.elim
    · exact ha.2.2.elim
    · obtain ⟨⟨n, rfl, hn⟩, ⟨x, rfl, hx, -⟩, ⟨b, rfl, -, -⟩, -⟩ := ha
      have hn2 : n = 67 := by simpa using hn
      subst hn2
      have h1 : 2147483648 ≤ q_pc x := hx.1
      have h2 : q_pc x ≤ 2147483655 := hx.2
      have h3 := q_pc_int x
      exact ⟨hT, hV s hT.2, x, b, rfl, by omega, by omega⟩
    · exact ha.2.2.2.elim
  · rintro a s v s2 - ⟨hT2, hf2, r, rfl, r1, r2⟩
    exact ⟨hT2, hf2, _, List.mem_cons_self, (fun z hz => by cases hz), y_iv (by omega) (by omega), (fun q hq => by cases hq)⟩
