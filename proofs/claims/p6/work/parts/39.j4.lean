/-! by hand: frees, isEmpty -/
def y_frK (R : Nat) : List (Nat × Nat) := [(352338 + R, 352338 + R), (352341 + R, 352341 + R), (356416 + R, 356416 + R), (360512 + R, 360512 + R)]
abbrev y_eFrees (V : w_V) (R : Nat) : Prop := w_Ent V g_sh g_ts (210, [w_r 67, w_n R R 0], [], [(352338 + R, 352338 + R), (352341 + R, 352341 + R), (356416 + R, 356416 + R), (360512 + R, 360512 + R)], [([], none, [(352338 + R, w_g 2147483647 2147483647 0), (352341 + R, w_n 0 0 0), (360512 + R, w_n 0 0 0)])], 1)
def y_frQ (V : w_V) (R : Nat) (s : y_H) (v : Option (q_V Int32)) (s2 : y_H) : Prop := v = none ∧ w_T V g_sh (y_mk g_sh s2) ∧ y_fr g_sh (y_frK R) s s2 ∧ (s2.1 86 (18 + R)).toInt = -1
/-- what a slot holds at a contract's end -/
theorem y_outM {a : List (q_V Int32)} {s : y_H} {v : Option (q_V Int32)} {l : List (Nat × q_J)} {B : Option w_A} {M : w_U} {o k lo hi : Nat} (h : w_out a (y_mk g_sh s) (l, B, M) v) (hm : (w_key o k, Sum.inl ((lo, hi), 0)) ∈ M) (hk4 : k < 4096) (hk : y_kd g_sh o k = 0) : (lo : Int) - 2147483648 ≤ (s.1 o k).toInt ∧ (s.1 o k).toInt ≤ (hi : Int) - 2147483648 := by
  obtain ⟨-, -, h3⟩ := h
  have h4 := (h3 (w_key o k, w_kz (.inl ((lo, hi), 0))) (List.mem_map.mpr ⟨_, hm, rfl⟩)).2
  have h5 : w_in [] (y_mk g_sh s) (w_kz (.inl ((lo, hi), 0))) (y_mk g_sh s (w_ko (w_key o k)) (w_kk (w_key o k))) := h4
  rw [w_ko_key hk4, w_kk_key hk4] at h5
  obtain ⟨x, e, hx, -⟩ := h5
  have e1 : y_mk g_sh s o k = .inl (s.1 o k) := by
    show y_v (y_kd g_sh o k) s o k = _
    rw [hk]
    rfl
  rw [e1] at e
  have e2 : x = s.1 o k := (Sum.inl.inj e).symm
  have h6 : lo ≤ q_pc x := hx.1
  have h7 : q_pc x ≤ hi := hx.2
  have h8 := q_pc_int x
  rw [e2] at h6 h7 h8
  omega
theorem y_freesR {V : w_V} {R : Nat} (hR : R < 3) (hE : y_eFrees V R) : y_C g_sh g_ts 210 1 (fun a s => w_T V g_sh (y_mk g_sh s) ∧ ∃ r : Int32, a = [.inr (.inr 67), .inl r] ∧ r.toInt = (R : Int)) (fun _ s v s2 => y_frQ V R s v s2) := by
  have hx : y_exE g_sh (210, [w_r 67, w_n R R 0], [], [(352338 + R, 352338 + R), (352341 + R, 352341 + R), (356416 + R, 356416 + R), (360512 + R, 360512 + R)], [([], none, [(352338 + R, w_g 2147483647 2147483647 0), (352341 + R, w_n 0 0 0), (360512 + R, w_n 0 0 0)])], 1) = true := by
    rcases R with _ | _ | _ | R
    · rfl
    · rfl
    · rfl
    · omega
  refine y_C.weak (y_C.ofE g_shok g_pkok hx hE) (Nat.le_refl 1) ?_ ?_
  · rintro a s ⟨hT, r, rfl, hr⟩
    exact ⟨hT, ⟨⟨67, rfl, List.mem_cons_self⟩, y_iv (by omega) (by omega), True.intro⟩, fun q hq => by cases hq⟩
  · rintro a s v s2 - ⟨hT2, hf2, q, hq, ho⟩
    have eq : q = ([], none, [(352338 + R, w_g 2147483647 2147483647 0), (352341 + R, w_n 0 0 0), (360512 + R, w_n 0 0 0)]) := by simpa using hq
    subst eq
    have hk : w_key 86 (18 + R) = 352338 + R := by
      rcases R with _ | _ | _ | R
      · rfl
      · rfl
      · rfl
      · omega
    have h := y_outM (o := 86) (k := 18 + R) (lo := 2147483647) (hi := 2147483647) ho (by rw [hk]; exact List.mem_cons_self) (by omega) (y_airk _ (by omega))
    exact ⟨y_ansV ho, hT2, hf2, by omega⟩
abbrev y_eFr3 (V : w_V) : Prop := y_eFrees V 0 ∧ y_eFrees V 1 ∧ y_eFrees V 2
theorem y_frees {V : w_V} (hE : y_eFr3 V) {R : Nat} (hR : R < 3) : y_C g_sh g_ts 210 1 (fun a s => w_T V g_sh (y_mk g_sh s) ∧ ∃ r : Int32, a = [.inr (.inr 67), .inl r] ∧ r.toInt = (R : Int)) (fun _ s v s2 => y_frQ V R s v s2) := by
  rcases R with _ | _ | _ | R
  · exact y_freesR hR hE.1
  · exact y_freesR hR hE.2.1
  · exact y_freesR hR hE.2.2
  · omega
/-- nobody queues, and the rails are free -/
def y_mt (s : y_H) : Prop := (s.1 86 8).toInt = 0 ∧ ∀ q : Nat, (q : Int) < (s.1 65 28).toInt → (s.1 86 (18 + q)).toInt < 0
def y_mtQ (s : y_H) (v : Option (q_V Int32)) (s2 : y_H) : Prop := s2 = s ∧ (v = some (.inl 1) ∨ (v = some (.inl 0) ∧ ¬ y_mt s))
theorem y_mt_loop {V : w_V} {d : Nat} {s : y_H} (hd : 1 ≤ d) (hT : w_T V g_sh (y_mk g_sh s)) : ∀ (n : Nat) (is i : Int32) (I : Nat), i.toInt = (I : Int) → I ≤ 3 → (s.1 65 28).toInt - (I : Int) ≤ (n : Int) → (is = 1 ∨ (is = 0 ∧ ¬ y_mt s)) → y_W g_sh g_ts d g_t226 (y_mtQ s) 15 [(0, .inr (.inr 67)), (1, .inl is), (2, .inl i)] [] s := by
  have hrl := y_rails hT
  have fin : ∀ is : Int32, (is = 1 ∨ (is = 0 ∧ ¬ y_mt s)) → ∀ ls : q_U Int32, q_at ls 1 = some (.inl is) → y_W g_sh g_ts d g_t226 (y_mtQ s) 47 ls [] s := by
    intro is h ls hl
    refine y_sub (ls1 := [(1, .inl is)]) (show ([1] : List Nat).Nodup by decide) (y_R_cons hl y_R_nil) ?_
    refine y_run 1 rfl ?_
    rcases h with rfl | ⟨rfl, h⟩
    · exact y_bret rfl (Or.inr rfl) ⟨rfl, Or.inl rfl⟩
    · exact y_bret rfl (Or.inl rfl) ⟨rfl, Or.inr ⟨rfl, h⟩⟩
  intro n
  induction n with
  | zero =>
    intro is i I hi hI hn his
    refine y_run 3 rfl ?_
    refine y_ic rfl (fun _ => fin is his _ rfl) (fun h => ?_)
    have h2 : ¬ (s.1 65 28).toInt ≤ i.toInt := h
    omega
  | succ n ih =>
    intro is i I hi hI hn his
    refine y_run 3 rfl ?_
    refine y_ic rfl (fun _ => fin is his _ rfl) (fun h => ?_)
    have h2 : ¬ (s.1 65 28).toInt ≤ i.toInt := h
    have hi1 : (i + Int32.ofInt 1).toInt = i.toInt + 1 := y_add (x := i) (y := 1) (by show _ ≤ _ + (1 : Int); omega) (by show _ + (1 : Int) ≤ _; omega)
    have next : ∀ is2 : Int32, (is2 = 1 ∨ (is2 = 0 ∧ ¬ y_mt s)) → y_W g_sh g_ts d g_t226 (y_mtQ s) 40 [(0, .inr (.inr 67)), (1, .inl is), (2, .inl i)] [.inl is2] s := by
      intro is2 h3
      refine y_run 3 rfl ?_
      refine y_sub (ls1 := [(0, .inr (.inr 67)), (1, .inl is2), (2, .inl (i + Int32.ofInt 1))]) (show ([0, 1, 2] : List Nat).Nodup by decide) (y_R_cons rfl (y_R_cons rfl (y_R_cons rfl y_R_nil))) ?_
      exact ih is2 _ (I + 1) (by rw [hi1, hi]; omega) (by omega) (by omega) h3
    refine y_run 1 rfl ?_
    refine y_if rfl (fun h3 => ?_) (fun h3 => ?_)
    · refine y_run 1 rfl ?_
      refine next 0 (Or.inr ⟨rfl, ?_⟩)
      rcases his with rfl | ⟨-, q⟩
      · exact absurd (show (1 : Int) = 0 from h3) (by omega)
      · exact q
    · have his1 : is = 1 := by
        rcases his with rfl | ⟨rfl, -⟩
        · rfl
        · exact absurd rfl h3
      refine y_run 2 rfl ?_
      refine y_call y_isFree 1 rfl (fun _ _ _ => rfl) (a := [.inr (.inr 67), .inl i]) rfl rfl (fun h hR => y_mayV (o := 65) (sz := 85) rfl hR) hd ⟨i, I, rfl, hi, by omega⟩ (fun v s2 hQ => ?_)
      obtain ⟨rfl, hQ2⟩ := hQ
      rcases hQ2 i I rfl hi with ⟨hfree, rfl⟩ | ⟨hfree, rfl⟩
      · refine y_if rfl (fun h4 => absurd (show (1 : Int) = 0 from h4) (by omega)) (fun _ => ?_)
        refine y_run 2 rfl ?_
        exact next 1 (Or.inl rfl)
      · refine y_if rfl (fun _ => ?_) (fun h4 => absurd rfl h4)
        refine y_run 1 rfl ?_
        refine next 0 (Or.inr ⟨rfl, fun hm => ?_⟩)
        have := hm.2 I (by omega)
        omega
theorem y_isEmpty {V : w_V} : y_C g_sh g_ts 226 2 (fun a s => w_T V g_sh (y_mk g_sh s) ∧ a = [.inr (.inr 67)]) (fun _ s v s2 => y_mtQ s v s2) := by
  refine y_C.of (t := g_t226) rfl (by decide) ?_
  rintro d a s hd ⟨hT, rfl⟩
  have hrl := y_rails hT
  refine y_run 1 rfl ?_
  refine y_call y_queueMany 1 rfl (fun _ _ _ => rfl) (a := [.inr (.inr 67)]) rfl rfl (fun h hR => y_mayV (o := 65) (sz := 85) rfl hR) (by omega) rfl (fun v s2 hQ => ?_)
  obtain ⟨rfl, rfl⟩ := hQ
  have go : ∀ is : Int32, (is = 1 ∨ (is = 0 ∧ ¬ y_mt s2)) → y_W g_sh g_ts d g_t226 (y_mtQ s2) 12 (q_args 0 [.inr (.inr 67)]) [.inl is] s2 := by
    intro is h
    refine y_run 3 rfl ?_
    refine y_sub (ls1 := [(0, .inr (.inr 67)), (1, .inl is), (2, .inl (Int32.ofInt 0))]) (show ([0, 1, 2] : List Nat).Nodup by decide) (y_R_cons rfl (y_R_cons rfl (y_R_cons rfl y_R_nil))) ?_
    exact y_mt_loop (by omega) hT 3 is _ 0 rfl (by omega) (by omega) h
  refine y_if rfl (fun h => ?_) (fun h => ?_)
  · have h2 : (s2.1 86 8).toInt ≠ 0 := h
    refine y_run 1 rfl ?_
    exact go 0 (Or.inr ⟨rfl, fun hm => h2 hm.1⟩)
  · refine y_run 2 rfl ?_
    exact go 1 (Or.inl rfl)
