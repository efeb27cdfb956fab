/-! by hand: goOn ends, from any minute -/
abbrev y_gK0 : List (Nat × Nat) := [(266366, 266366), (299072, 299135), (303168, 303173), (352320, 352326), (352328, 352336), (352338, 352343), (352345, 352346), (356416, 356418), (360512, 360514), (364608, 364615), (368704, 368711)]
theorem y_gK_or {g : Nat} (h1 : w_inm y_gK g = true) (h0 : w_inm y_gK0 g = false) : g = 352347 := by
  have e1 : ∀ l : List (Nat × Nat), w_inm l g = true ↔ ∃ q ∈ l, q.1 ≤ g ∧ g ≤ q.2 := by
    intro l
    unfold w_inm
    rw [List.any_eq_true]
    constructor
    · rintro ⟨q, hq, hc⟩
      rw [Bool.and_eq_true] at hc
      exact ⟨q, hq, Nat.le_of_ble_eq_true hc.1, Nat.le_of_ble_eq_true hc.2⟩
    · rintro ⟨q, hq, h1, h2⟩
      refine ⟨q, hq, ?_⟩
      rw [Bool.and_eq_true]
      exact ⟨Nat.ble_eq_true_of_le h1, Nat.ble_eq_true_of_le h2⟩
  have h2 := (e1 _).mp h1
  have h3 : ¬ ∃ q ∈ y_gK0, q.1 ≤ g ∧ g ≤ q.2 := by
    intro q
    rw [(e1 _).mpr q] at h0
    cases h0
  simp only [y_gK, y_gK0, List.mem_cons, List.not_mem_nil, or_false, exists_eq_or_imp, exists_eq_left] at h2 h3
  omega
theorem y_fr_gK0 {s s2 : y_H} (h : y_fr g_sh y_gK s s2) (e : s2.1 86 27 = s.1 86 27) : y_fr g_sh y_gK0 s s2 := by
  intro o k A hA hm
  cases hx : w_inm y_gK (w_key o k) with
  | false => exact h o k A hA hx
  | true =>
    have hk := y_ty_lt g_shok hA
    have hg := y_gK_or hx hm
    have ho : o = 86 := by
      have := w_ko_key (o := o) hk
      rw [hg] at this
      exact this.symm.trans (by decide)
    have hkk : k = 27 := by
      have := w_kk_key (o := o) hk
      rw [hg] at this
      exact this.symm.trans (by decide)
    subst ho
    subst hkk
    show Sum.inl (s2.1 86 27) = (Sum.inl (s.1 86 27) : q_V Int32)
    rw [e]
section GO
variable {V : w_V} {d : Nat} {s0 : y_H}
def y_goQ (V : w_V) (s0 : y_H) (v : Option (q_V Int32)) (s : y_H) : Prop := v = none ∧ w_T V g_sh (y_mk g_sh s) ∧ y_fr g_sh y_gK0 s0 s ∧ (s.1 86 8).toInt ≤ (s0.1 86 8).toInt
/-- what goOn keeps -/
def y_goI (V : w_V) (s0 s : y_H) : Prop := w_T V g_sh (y_mk g_sh s) ∧ y_fr g_sh y_gK0 s0 s ∧ (s.1 86 8).toInt ≤ (s0.1 86 8).toInt
theorem y_go_step (hsails : y_eSails V) (hmiss : y_eMiss V) (hlen : y_eLen V) (hfr : y_eFr3 V) (hd : 5 ≤ d) {s : y_H} (hI : y_goI V s0 s) (hw : ¬ y_mt s → ∀ s2, y_goI V s0 s2 → y_gmQ V false s (some (.inl 0)) s2 → y_W g_sh g_ts d g_t213 (y_goQ V s0) 0 [(0, .inr (.inr 67))] [] s2) : y_W g_sh g_ts d g_t213 (y_goQ V s0) 0 [(0, .inr (.inr 67))] [] s := by
  obtain ⟨hT, hf, hm⟩ := hI
  refine y_run 1 rfl ?_
  refine y_call (y_isEmpty (V := V)) 1 rfl (fun _ _ _ => rfl) (a := [.inr (.inr 67)]) rfl rfl (fun h hR => y_mayV (o := 65) (sz := 85) rfl hR) (by omega) ⟨hT, rfl⟩ (fun v s2 hQ => ?_)
  obtain ⟨rfl, hv⟩ := hQ
  rcases hv with rfl | ⟨rfl, hmt⟩
  · refine y_if rfl (fun _ => ?_) (fun h4 => absurd (show (1 : Int) ≠ 0 by omega) h4)
    exact y_vret rfl ⟨rfl, hT, hf, hm⟩
  · refine y_if rfl (fun h4 => absurd rfl h4) (fun _ => ?_)
    refine y_run 2 rfl ?_
    refine y_call (y_goMinute hsails hmiss hlen hfr) 1 rfl (fun _ _ _ => rfl) (a := [.inr (.inr 67), .inl (Int32.ofInt 0)]) rfl rfl (fun h hR => y_mayV (o := 65) (sz := 85) rfl hR) hd ⟨hT, Int32.ofInt 0, false, rfl, Or.inl ⟨rfl, rfl⟩⟩ (fun v s3 hQ => ?_)
    have hg := hQ _ false rfl (Or.inl ⟨rfl, rfl⟩)
    obtain ⟨⟨x, rfl⟩, hT3, hf3, hm3, hsd3, h26, hl⟩ := hg
    refine y_run 2 rfl ?_
    exact hw hmt s3 ⟨hT3, hf.tr (y_fr_gK0 hf3 (hsd3 rfl)), by omega⟩ ⟨⟨0, rfl⟩, hT3, hf3, hm3, hsd3, h26, hl⟩
theorem y_go_b1 (hsails : y_eSails V) (hmiss : y_eMiss V) (hlen : y_eLen V) (hfr : y_eFr3 V) (hd : 5 ≤ d) : ∀ (k : Nat) (s : y_H), y_goI V s0 s → 30000 ≤ (s.1 86 26).toInt → (s.1 86 26).toInt + (k : Int) ≤ 1000000 → (s.1 86 18).toInt < 0 → (s.1 87 0).toInt ≤ (k : Int) → y_W g_sh g_ts d g_t213 (y_goQ V s0) 0 [(0, .inr (.inr 67))] [] s := by
  have last : ∀ s : y_H, y_goI V s0 s → 30000 ≤ (s.1 86 26).toInt → (s.1 86 26).toInt ≤ 1000000 → (s.1 86 18).toInt < 0 → (s.1 87 0).toInt ≤ 0 → y_W g_sh g_ts d g_t213 (y_goQ V s0) 0 [(0, .inr (.inr 67))] [] s := by
    intro s hI h1 h2 h3 h4
    refine y_go_step hsails hmiss hlen hfr hd hI (fun _ s2 hI2 hg => ?_)
    obtain ⟨-, hT2, hf2, -, -, -, hl⟩ := hg
    obtain ⟨c1, c2⟩ := hl h1 (by omega)
    have e28 : s2.1 65 28 = s.1 65 28 := hf2.at (o := 65) (k := 28) (A := w_n 1 3 0) rfl rfl (by decide +kernel)
    refine y_go_step hsails hmiss hlen hfr hd hI2 (fun hmt => absurd ⟨(c2 h3).2 h4, fun q hq => ?_⟩ hmt)
    rw [e28] at hq
    exact c1 q hq
  intro k
  induction k with
  | zero =>
    intro s hI h1 h2 h3 h4
    exact last s hI h1 (by omega) h3 (by omega)
  | succ k ih =>
    intro s hI h1 h2 h3 h4
    rcases Int.lt_or_le 0 (s.1 87 0).toInt with h5 | h5
    · refine y_go_step hsails hmiss hlen hfr hd hI (fun _ s2 hI2 hg => ?_)
      obtain ⟨-, hT2, hf2, -, -, h26, hl⟩ := hg
      obtain ⟨c1, c2⟩ := hl h1 (by omega)
      have hrl := y_rails hI.1
      have hadd : (s.1 86 26 + Int32.ofInt 1).toInt = (s.1 86 26).toInt + 1 := y_add (x := s.1 86 26) (y := 1) (by show _ ≤ _ + (1 : Int); omega) (by show _ + (1 : Int) ≤ _; omega)
      refine ih s2 hI2 (by rw [h26, hadd]; omega) (by rw [h26, hadd]; omega) (c1 0 (by omega)) ?_
      rw [(c2 h3).1 h5]
      omega
    · exact last s hI h1 (by omega) h3 h5
theorem y_go_a (hsails : y_eSails V) (hmiss : y_eMiss V) (hlen : y_eLen V) (hfr : y_eFr3 V) (hd : 5 ≤ d) : ∀ (n : Nat) (s : y_H), y_goI V s0 s → ((s.1 86 26).toInt + (n : Int) = 30000 ∨ (s.1 86 26).toInt + (n : Int) = 30000 + 4294967296) → y_W g_sh g_ts d g_t213 (y_goQ V s0) 0 [(0, .inr (.inr 67))] [] s := by
  intro n
  induction n with
  | zero =>
    intro s hI h
    have hb := y_toIntB (s.1 86 26)
    have hrl := y_rails hI.1
    refine y_go_step hsails hmiss hlen hfr hd hI (fun _ s2 hI2 hg => ?_)
    obtain ⟨-, hT2, hf2, -, -, h26, hl⟩ := hg
    obtain ⟨c1, -⟩ := hl (by omega) (by omega)
    have hadd : (s.1 86 26 + Int32.ofInt 1).toInt = (s.1 86 26).toInt + 1 := y_add (x := s.1 86 26) (y := 1) (by show _ ≤ _ + (1 : Int); omega) (by show _ + (1 : Int) ≤ _; omega)
    have hy := y_hyr hT2 (j := 0) (by omega)
    exact y_go_b1 hsails hmiss hlen hfr hd 60 s2 hI2 (by rw [h26, hadd]; omega) (by rw [h26, hadd]; omega) (c1 0 (by omega)) (by omega)
  | succ n ih =>
    intro s hI h
    have hb := y_toIntB (s.1 86 26)
    refine y_go_step hsails hmiss hlen hfr hd hI (fun _ s2 hI2 hg => ?_)
    obtain ⟨-, hT2, hf2, -, -, h26, hl⟩ := hg
    refine ih s2 hI2 ?_
    rw [h26]
    rcases Int.lt_or_le (s.1 86 26).toInt 2147483647 with h5 | h5
    · have hadd : (s.1 86 26 + Int32.ofInt 1).toInt = (s.1 86 26).toInt + 1 := y_add (x := s.1 86 26) (y := 1) (by show _ ≤ _ + (1 : Int); omega) (by show _ + (1 : Int) ≤ _; omega)
      rw [hadd]
      omega
    · have e : s.1 86 26 = 2147483647 := by
        rw [← Int32.toInt_inj]
        show _ = (2147483647 : Int)
        omega
      have e2 : (s.1 86 26 + Int32.ofInt 1).toInt = -2147483648 := by
        rw [e]
        decide
      rw [e2]
      omega
theorem y_goOn (hsails : y_eSails V) (hmiss : y_eMiss V) (hlen : y_eLen V) (hfr : y_eFr3 V) : y_C g_sh g_ts 213 6 (fun a s => w_T V g_sh (y_mk g_sh s) ∧ a = [.inr (.inr 67)]) (fun _ s v s2 => y_goQ V s v s2) := by
  refine y_C.of (t := g_t213) rfl (by decide) ?_
  rintro d a s hd ⟨hT, rfl⟩
  have hb := y_toIntB (s.1 86 26)
  refine y_sub (ls1 := [(0, .inr (.inr 67))]) (show ([0] : List Nat).Nodup by decide) (y_R_cons rfl y_R_nil) ?_
  rcases Int.lt_or_le 30000 (s.1 86 26).toInt with h | h
  · exact y_go_a hsails hmiss hlen hfr (by omega) (30000 + 4294967296 - (s.1 86 26).toInt).toNat s ⟨hT, y_fr.rf, by omega⟩ (Or.inr (by omega))
  · exact y_go_a hsails hmiss hlen hfr (by omega) (30000 - (s.1 86 26).toInt).toNat s ⟨hT, y_fr.rf, by omega⟩ (Or.inl (by omega))
/-- for the checker -/
theorem y_goOnE (hsails : y_eSails V) (hmiss : y_eMiss V) (hlen : y_eLen V) (hfr : y_eFr3 V) : w_Ent V g_sh g_ts (213, [w_r 67], [], [(266366, 266366), (299072, 299135), (303168, 303173), (352320, 352326), (352328, 352336), (352338, 352343), (352345, 352346), (356416, 356418), (360512, 360514), (364608, 364615), (368704, 368711)], [([], none, [])], 6) := by
  refine y_C.toE g_shok g_pkok rfl ?_
  refine y_C.weak (y_goOn hsails hmiss hlen hfr) (Nat.le_refl 6) ?_ ?_
  · rintro a s ⟨hT, ha, -⟩
    rcases a with _ | ⟨v1, _ | ⟨v2, a⟩⟩
    · exact ha.elim
    · obtain ⟨⟨n, rfl, hn⟩, -⟩ := ha
      have hn2 : n = 67 := by simpa using hn
      subst hn2
      exact ⟨hT, rfl⟩
    · exact ha.2.elim
  · rintro a s v s2 - ⟨rfl, hT2, hf2, -⟩
    exact ⟨hT2, hf2, _, List.mem_cons_self, (fun z hz => by cases hz), True.intro, (fun q hq => by cases hq)⟩
end GO
