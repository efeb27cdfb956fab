/-! by hand: stepsUp for the checker -/
theorem y_inm_iff {l : List (Nat × Nat)} {g : Nat} : w_inm l g = true ↔ ∃ q ∈ l, q.1 ≤ g ∧ g ≤ q.2 := by
  unfold w_inm
  rw [List.any_eq_true]
  constructor
  · rintro ⟨q, hq, hc⟩
    rw [Bool.and_eq_true] at hc
    exact ⟨q, hq, Nat.le_of_ble_eq_true hc.1, Nat.le_of_ble_eq_true hc.2⟩
  · rintro ⟨q, hq, h1, h2⟩
    refine ⟨q, hq, ?_⟩
    rw [Bool.and_eq_true]
    exact ⟨Nat.ble_eq_true_of_le h1, Nat.ble_eq_true_of_le h2⟩
/-- a frame with one key less, where the slot is as it was -/
theorem y_fr.less {ms m0 : List (Nat × Nat)} {s s2 : y_H} {o0 k0 : Nat} (h : y_fr g_sh ms s s2) (hk0 : k0 < 4096) (hkd : y_kd g_sh o0 k0 = 0) (e : s2.1 o0 k0 = s.1 o0 k0) (hor : ∀ g, w_inm ms g = true → w_inm m0 g = true ∨ g = w_key o0 k0) : y_fr g_sh m0 s s2 := by
  intro o k A hA hm
  cases hx : w_inm ms (w_key o k) with
  | false => exact h o k A hA hx
  | true =>
    have hk := y_ty_lt g_shok hA
    rcases hor _ hx with hg | hg
    · rw [hg] at hm
      cases hm
    · have ho : o = o0 := by
        have h1 := w_ko_key (o := o) hk
        rw [hg, w_ko_key hk0] at h1
        exact h1.symm
      have hkk : k = k0 := by
        have h1 := w_kk_key (o := o) hk
        rw [hg, w_kk_key hk0] at h1
        exact h1.symm
      subst ho
      subst hkk
      show y_v (y_kd g_sh o k) s2 o k = y_v (y_kd g_sh o k) s o k
      rw [hkd]
      show Sum.inl (s2.1 o k) = (Sum.inl (s.1 o k) : q_V Int32)
      rw [e]
/-- a slot's range, before and behind -/
theorem y_pre {s : y_H} {M : w_U} {o k lo hi : Nat} (h : w_oM [] (y_mk g_sh s) (w_kzM M)) (hm : (w_key o k, Sum.inl ((lo, hi), 0)) ∈ M) (hk4 : k < 4096) (hk : y_kd g_sh o k = 0) : (lo : Int) - 2147483648 ≤ (s.1 o k).toInt ∧ (s.1 o k).toInt ≤ (hi : Int) - 2147483648 :=
  y_outM (a := []) (v := none) (l := []) (B := none) ⟨(fun z hz => by cases hz), True.intro, h⟩ hm hk4 hk
theorem y_post1 {s : y_H} {o k lo hi : Nat} (hk4 : k < 4096) (hk : y_kd g_sh o k = 0) (h1 : (lo : Int) - 2147483648 ≤ (s.1 o k).toInt) (h2 : (s.1 o k).toInt ≤ (hi : Int) - 2147483648) : w_oM [] (y_mk g_sh s) (w_kzM [(w_key o k, .inl ((lo, hi), 0))]) := by
  intro q hq
  have eq : q = (w_key o k, .inl ((lo, hi), 0)) := by simpa [w_kzM, w_kz] using hq
  subst eq
  refine ⟨by unfold w_key; omega, ?_⟩
  show w_in [] (y_mk g_sh s) (w_kz (.inl ((lo, hi), 0))) (y_mk g_sh s (w_ko (w_key o k)) (w_kk (w_key o k)))
  rw [w_ko_key hk4, w_kk_key hk4]
  have e1 : y_mk g_sh s o k = .inl (s.1 o k) := by
    show y_v (y_kd g_sh o k) s o k = _
    rw [hk]
    rfl
  rw [e1]
  exact y_iv h1 h2
def y_suK0 (R : Nat) : List (Nat × Nat) := [(299072, 299135), (303168, 303173), (352320, 352326), (352328, 352336), (352338 + R, 352338 + R), (352341 + R, 352341 + R), (352345, 352345), (368704, 368711)]
theorem y_suK_or {R g : Nat} (h : w_inm (y_suK R) g = true) : w_inm (y_suK0 R) g = true ∨ g = w_key 86 27 := by
  rw [y_inm_iff] at h ⊢
  simp only [y_suK, y_suK0, w_key, List.mem_cons, List.not_mem_nil, or_false, exists_eq_or_imp, exists_eq_left] at h ⊢
  omega
section SUE
variable {V : w_V}
theorem y_bool {x : Int32} (h0 : 0 ≤ x.toInt) (h1 : x.toInt ≤ 1) : ∃ tl : Bool, (x = 0 ∧ tl = false) ∨ (x = 1 ∧ tl = true) := by
  rcases Int.lt_or_le 0 x.toInt with h | h
  · refine ⟨true, Or.inr ⟨?_, rfl⟩⟩
    rw [← Int32.toInt_inj]
    show _ = (1 : Int)
    omega
  · refine ⟨false, Or.inl ⟨?_, rfl⟩⟩
    rw [← Int32.toInt_inj]
    show _ = (0 : Int)
    omega
theorem y_stepsUpE1 (R : Nat) (hR : R < 3) (hsails : y_eSails V) (hmiss : y_eMiss V) (hlen : y_eLen V) : w_Ent V g_sh g_ts (304, [w_r 67, w_n R R 0, w_n 0 1 0], [(352328, w_n 0 7 0)], y_suK R, [([], none, [(352328, w_n 0 7 0)])], 4) := by
  refine y_C.toE g_shok g_pkok rfl ?_
  refine y_C.weak (y_stepsUp hsails hmiss hlen) (Nat.le_refl 4) ?_ ?_
  · rintro a s ⟨hT, ha, -⟩
    rcases a with _ | ⟨v1, _ | ⟨v2, _ | ⟨v3, _ | ⟨v4, a⟩⟩⟩⟩
    · exact ha.elim
    · exact ha.2.elim
    · exact ha.2.2.elim
    · obtain ⟨⟨n, rfl, hn⟩, ⟨x, rfl, hx, -⟩, ⟨b, rfl, hb, -⟩, -⟩ := ha
      have hn2 : n = 67 := by simpa using hn
      subst hn2
      have x1 : R + 2147483648 ≤ q_pc x := hx.1
      have x2 : q_pc x ≤ R + 2147483648 := hx.2
      have x3 := q_pc_int x
      have b1 : 2147483648 ≤ q_pc b := hb.1
      have b2 : q_pc b ≤ 2147483649 := hb.2
      have b3 := q_pc_int b
      obtain ⟨tl, htl⟩ := y_bool (x := b) (by omega) (by omega)
      exact ⟨hT, x, b, R, tl, rfl, by omega, hR, htl⟩
    · exact ha.2.2.2.elim
  · rintro a s v s2 ⟨hT, ha, hp⟩ hQ
    rcases a with _ | ⟨v1, _ | ⟨v2, _ | ⟨v3, _ | ⟨v4, a⟩⟩⟩⟩
    · exact ha.elim
    · exact ha.2.elim
    · exact ha.2.2.elim
    · obtain ⟨⟨n, rfl, hn⟩, ⟨x, rfl, hx, -⟩, ⟨b, rfl, hb, -⟩, -⟩ := ha
      have hn2 : n = 67 := by simpa using hn
      subst hn2
      have x1 : R + 2147483648 ≤ q_pc x := hx.1
      have x2 : q_pc x ≤ R + 2147483648 := hx.2
      have x3 := q_pc_int x
      have b1 : 2147483648 ≤ q_pc b := hb.1
      have b2 : q_pc b ≤ 2147483649 := hb.2
      have b3 := q_pc_int b
      obtain ⟨tl, htl⟩ := y_bool (x := b) (by omega) (by omega)
      obtain ⟨rfl, hT2, hf2, hm2, -, -⟩ := hQ x b R tl rfl (by omega) htl
      have hpre := y_pre (o := 86) (k := 8) (lo := 2147483648) (hi := 2147483655) hp List.mem_cons_self (by omega) rfl
      have h8 := y_air8 hT2
      exact ⟨hT2, hf2, _, List.mem_cons_self, (fun z hz => by cases hz), True.intro, y_post1 (o := 86) (k := 8) (by omega) rfl (by omega) (by omega)⟩
    · exact ha.2.2.2.elim
theorem y_stepsUpE0 (R : Nat) (hR : R < 3) (hsails : y_eSails V) (hmiss : y_eMiss V) (hlen : y_eLen V) : w_Ent V g_sh g_ts (304, [w_r 67, w_n R R 0, w_n 0 0 0], [], y_suK0 R, [([], none, [])], 4) := by
  refine y_C.toE g_shok g_pkok rfl ?_
  refine y_C.weak (y_stepsUp hsails hmiss hlen) (Nat.le_refl 4) ?_ ?_
  · rintro a s ⟨hT, ha, -⟩
    rcases a with _ | ⟨v1, _ | ⟨v2, _ | ⟨v3, _ | ⟨v4, a⟩⟩⟩⟩
    · exact ha.elim
    · exact ha.2.elim
    · exact ha.2.2.elim
    · obtain ⟨⟨n, rfl, hn⟩, ⟨x, rfl, hx, -⟩, ⟨b, rfl, hb, -⟩, -⟩ := ha
      have hn2 : n = 67 := by simpa using hn
      subst hn2
      have x1 : R + 2147483648 ≤ q_pc x := hx.1
      have x2 : q_pc x ≤ R + 2147483648 := hx.2
      have x3 := q_pc_int x
      have b1 : 2147483648 ≤ q_pc b := hb.1
      have b2 : q_pc b ≤ 2147483648 := hb.2
      have b3 := q_pc_int b
      refine ⟨hT, x, b, R, false, rfl, by omega, hR, Or.inl ⟨?_, rfl⟩⟩
      rw [← Int32.toInt_inj]
      show _ = (0 : Int)
      omega
    · exact ha.2.2.2.elim
  · rintro a s v s2 ⟨hT, ha, hp⟩ hQ
    rcases a with _ | ⟨v1, _ | ⟨v2, _ | ⟨v3, _ | ⟨v4, a⟩⟩⟩⟩
    · exact ha.elim
    · exact ha.2.elim
    · exact ha.2.2.elim
    · obtain ⟨⟨n, rfl, hn⟩, ⟨x, rfl, hx, -⟩, ⟨b, rfl, hb, -⟩, -⟩ := ha
      have hn2 : n = 67 := by simpa using hn
      subst hn2
      have x1 : R + 2147483648 ≤ q_pc x := hx.1
      have x2 : q_pc x ≤ R + 2147483648 := hx.2
      have x3 := q_pc_int x
      have b1 : 2147483648 ≤ q_pc b := hb.1
      have b2 : q_pc b ≤ 2147483648 := hb.2
      have b3 := q_pc_int b
      have hb0 : b = 0 := by
        rw [← Int32.toInt_inj]
        show _ = (0 : Int)
        omega
      obtain ⟨rfl, hT2, hf2, hm2, -, hsd⟩ := hQ x b R false rfl (by omega) (Or.inl ⟨hb0, rfl⟩)
      exact ⟨hT2, hf2.less (o0 := 86) (k0 := 27) (by omega) rfl (hsd rfl) (fun g hg => y_suK_or hg), _, List.mem_cons_self, (fun z hz => by cases hz), True.intro, (fun q hq => by cases hq)⟩
    · exact ha.2.2.2.elim
end SUE
