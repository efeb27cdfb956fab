/-! by hand: putLast, placeOf -/
def y_plQ (V : w_V) (P : Nat) (s : y_H) (v : Option (q_V Int32)) (s2 : y_H) : Prop := v = none ∧ w_T V g_sh (y_mk g_sh s2) ∧ y_fr g_sh [(352320, 352336)] s s2 ∧ (s2.1 86 8).toInt = (s.1 86 8).toInt + 1 ∧ (∀ k : Nat, k < 8 → (k : Int) ≠ (s.1 86 8).toInt → s2.1 86 k = s.1 86 k) ∧ (s2.1 86 (s.1 86 8).toInt.toNat).toInt = (P : Int) ∧ s2.1 86 (9 + P) = 0 ∧ ∀ j, j < 8 → j ≠ P → s2.1 86 (9 + j) = s.1 86 (9 + j)
theorem y_plSt : ∀ j, j < 17 → w_inm [(352320, 352336)] (w_key 86 j) = true := by decide +kernel
theorem y_putLast {V : w_V} : y_C g_sh g_ts 274 2 (fun a s => w_T V g_sh (y_mk g_sh s) ∧ ∃ (x : Int32) (P : Nat), a = [.inr (.inr 67), .inl x] ∧ x.toInt = (P : Int) ∧ P < 8 ∧ (s.1 86 8).toInt ≤ 7) (fun a s v s2 => ∀ (x : Int32) (P : Nat), a = [.inr (.inr 67), .inl x] → x.toInt = (P : Int) → y_plQ V P s v s2) := by
  refine y_C.of (t := g_t274) rfl (by decide) ?_
  rintro d a s hd ⟨hT, x, P, rfl, hx, hP, hm⟩
  have h8 := y_air8 hT
  have e9 : ((Int8.ofInt 9).toInt32 + x).toInt = ((9 + P : Nat) : Int) := y_adds (A := 9) rfl hx (by omega)
  have key : y_W g_sh g_ts d g_t274 (y_plQ V P s) 0 (q_args 0 [.inr (.inr 67), .inl x]) [] s := by
    refine y_run 3 rfl ?_
    refine y_call y_queueMany 1 rfl (fun _ _ _ => rfl) (a := [.inr (.inr 67)]) rfl rfl (fun h hR => y_mayV (o := 65) (sz := 85) rfl hR) (by omega) rfl (fun v s2 hQ => ?_)
    obtain ⟨rfl, rfl⟩ := hQ
    generalize hM : (s2.1 86 8).toInt.toNat = M
    refine y_run 1 rfl ?_
    refine y_ast86 (lo := 2147483648) (hi := 2147483655) hT rfl (j := M) (by omega) (by omega) (y_airq M (by omega)) (by omega) (by omega) (fun hT2 => ?_)
    have hf2 := (y_fr.rf (sh := g_sh) (ms := [(352320, 352336)]) (s := s2)).up (o := 86) (k := M) (v := .inl x) (y_airk _ (by omega)) (y_plSt M (by omega))
    refine y_run 4 rfl ?_
    refine y_ald86 (j := 8) rfl rfl (by omega) ?_
    rw [y_up_ne (show ¬ (86 = 86 ∧ 8 = M) by omega)]
    have hadd : (s2.1 86 8 + Int32.ofInt 1).toInt = (s2.1 86 8).toInt + 1 := y_add (x := s2.1 86 8) (y := 1) (by show _ ≤ _ + (1 : Int); omega) (by show _ + (1 : Int) ≤ _; omega)
    refine y_run 2 rfl ?_
    refine y_ast86 (lo := 2147483648) (hi := 2147483656) hT2 rfl (j := 8) rfl (by omega) rfl (by rw [hadd]; omega) (by rw [hadd]; omega) (fun hT3 => ?_)
    have hf3 := hf2.up (o := 86) (k := 8) (v := .inl (s2.1 86 8 + Int32.ofInt 1)) rfl (by decide +kernel)
    refine y_run 6 rfl ?_
    refine y_ast86 (lo := 2147483648) (hi := 2147483652) hT3 rfl e9 (by omega) (y_airs P hP) (show (_ : Int) ≤ 0 by omega) (show (0 : Int) ≤ _ by omega) (fun hT4 => ?_)
    have hf4 := hf3.up (o := 86) (k := 9 + P) (v := .inl (Int32.ofInt 0)) (y_airk _ (by omega)) (y_plSt _ (by omega))
    refine y_vret rfl ⟨rfl, hT4, hf4, ?_, ?_, ?_, y_up_self, ?_⟩
    · rw [y_up_ne (by omega), y_up_self, hadd]
    · intro k hk hne
      rw [y_up_ne (by omega), y_up_ne (by omega), y_up_ne (by omega)]
    · rw [hM, y_up_ne (by omega), y_up_ne (by omega), y_up_self, hx]
    · intro j hj hne
      rw [y_up_ne (by omega), y_up_ne (by omega), y_up_ne (by omega)]
  intro h ns hR
  obtain ⟨v, h2, s2, he, hR2, hQ⟩ := key h ns hR
  refine ⟨v, h2, s2, he, hR2, fun x2 X2 e hx2 => ?_⟩
  cases e
  have e3 : X2 = P := by omega
  subst e3
  exact hQ
theorem y_putLastE {V : w_V} : w_Ent V g_sh g_ts (274, [w_r 67, w_n 0 7 0], [(352328, w_n 0 7 0)], [(352320, 352336)], [([], none, [(352328, w_n 1 8 0)])], 2) := by
  refine y_C.toE g_shok g_pkok rfl ?_
  refine y_C.weak (y_putLast (V := V)) (Nat.le_refl 2) ?_ ?_
  · rintro a s ⟨hT, ha, hp⟩
    rcases a with _ | ⟨v1, _ | ⟨v2, _ | ⟨v3, a⟩⟩⟩
    · exact ha.elim
    · exact ha.2.elim
    · obtain ⟨⟨n, rfl, hn⟩, ⟨x, rfl, hx, -⟩, -⟩ := ha
      have hn2 : n = 67 := by simpa using hn
      subst hn2
      have x1 : 2147483648 ≤ q_pc x := hx.1
      have x2 : q_pc x ≤ 2147483655 := hx.2
      have x3 := q_pc_int x
      have hpre := y_pre (o := 86) (k := 8) (lo := 2147483648) (hi := 2147483655) hp List.mem_cons_self (by omega) rfl
      exact ⟨hT, x, x.toInt.toNat, rfl, by omega, by omega, by omega⟩
    · exact ha.2.2.elim
  · rintro a s v s2 ⟨hT, ha, hp⟩ hQ
    rcases a with _ | ⟨v1, _ | ⟨v2, _ | ⟨v3, a⟩⟩⟩
    · exact ha.elim
    · exact ha.2.elim
    · obtain ⟨⟨n, rfl, hn⟩, ⟨x, rfl, hx, -⟩, -⟩ := ha
      have hn2 : n = 67 := by simpa using hn
      subst hn2
      have x1 : 2147483648 ≤ q_pc x := hx.1
      have x2 : q_pc x ≤ 2147483655 := hx.2
      have x3 := q_pc_int x
      obtain ⟨rfl, hT2, hf2, hm2, -⟩ := hQ x x.toInt.toNat rfl (by omega)
      have hpre := y_pre (o := 86) (k := 8) (lo := 2147483648) (hi := 2147483655) hp List.mem_cons_self (by omega) rfl
      exact ⟨hT2, hf2, _, List.mem_cons_self, (fun z hz => by cases hz), True.intro, y_post1 (o := 86) (k := 8) (by omega) rfl (by omega) (by omega)⟩
    · exact ha.2.2.elim
/-- the last place at which p stands in the queue; none: p is not there -/
def y_poQ (p : Int32) (s : y_H) (v : Option (q_V Int32)) (s2 : y_H) : Prop := s2 = s ∧ ((v = some (.inl (Int32.ofInt (-1))) ∧ ∀ k : Nat, (k : Int) < (s.1 86 8).toInt → s.1 86 k ≠ p) ∨ ∃ (x : Int32) (X : Nat), v = some (.inl x) ∧ x.toInt = (X : Int) ∧ (X : Int) < (s.1 86 8).toInt ∧ s.1 86 X = p)
theorem y_po_loop {V : w_V} {d : Nat} {s : y_H} {p : Int32} (hd : 1 ≤ d) (hT : w_T V g_sh (y_mk g_sh s)) : ∀ (n : Nat) (f i : Int32) (I : Nat), i.toInt = (I : Int) → I ≤ 8 → (s.1 86 8).toInt - (I : Int) ≤ (n : Int) → ((f = Int32.ofInt (-1) ∧ ∀ k, k < I → s.1 86 k ≠ p) ∨ ∃ X : Nat, f.toInt = (X : Int) ∧ (X : Int) < (s.1 86 8).toInt ∧ s.1 86 X = p) → y_W g_sh g_ts d g_t272 (y_poQ p s) 4 [(0, .inr (.inr 67)), (1, .inl p), (2, .inl f), (3, .inl i)] [] s := by
  have h8 := y_air8 hT
  have fin : ∀ (f : Int32) (I : Nat) (ls : q_U Int32), (s.1 86 8).toInt ≤ (I : Int) → ((f = Int32.ofInt (-1) ∧ ∀ k, k < I → s.1 86 k ≠ p) ∨ ∃ X : Nat, f.toInt = (X : Int) ∧ (X : Int) < (s.1 86 8).toInt ∧ s.1 86 X = p) → q_at ls 2 = some (.inl f) → y_W g_sh g_ts d g_t272 (y_poQ p s) 34 ls [] s := by
    intro f I ls hI h hl
    refine y_sub (ls1 := [(2, .inl f)]) (show ([2] : List Nat).Nodup by decide) (y_R_cons hl y_R_nil) ?_
    refine y_run 1 rfl ?_
    refine y_iret rfl ⟨rfl, ?_⟩
    rcases h with ⟨rfl, h⟩ | ⟨X, h1, h2, h3⟩
    · exact Or.inl ⟨rfl, fun k hk => h k (by omega)⟩
    · exact Or.inr ⟨f, X, rfl, h1, h2, h3⟩
  intro n
  induction n with
  | zero =>
    intro f i I hi hI hn h
    refine y_run 2 rfl ?_
    refine y_call y_queueMany 1 rfl (fun _ _ _ => rfl) (a := [.inr (.inr 67)]) rfl rfl (fun h hR => y_mayV (o := 65) (sz := 85) rfl hR) hd rfl (fun v s2 hQ => ?_)
    obtain ⟨rfl, rfl⟩ := hQ
    refine y_ic rfl (fun _ => fin f I _ (by omega) h rfl) (fun hx => ?_)
    have hx2 : ¬ (s2.1 86 8).toInt ≤ i.toInt := hx
    omega
  | succ n ih =>
    intro f i I hi hI hn h
    refine y_run 2 rfl ?_
    refine y_call y_queueMany 1 rfl (fun _ _ _ => rfl) (a := [.inr (.inr 67)]) rfl rfl (fun h hR => y_mayV (o := 65) (sz := 85) rfl hR) hd rfl (fun v s2 hQ => ?_)
    obtain ⟨rfl, rfl⟩ := hQ
    refine y_ic rfl (fun hx => ?_) (fun hx => ?_)
    · have hx2 : (s2.1 86 8).toInt ≤ i.toInt := hx
      exact fin f I _ (by omega) h rfl
    have hx2 : ¬ (s2.1 86 8).toInt ≤ i.toInt := hx
    have hi1 : (i + Int32.ofInt 1).toInt = i.toInt + 1 := y_add (x := i) (y := 1) (by show _ ≤ _ + (1 : Int); omega) (by show _ + (1 : Int) ≤ _; omega)
    have next : ∀ f2 : Int32, ((f2 = Int32.ofInt (-1) ∧ ∀ k, k < I + 1 → s2.1 86 k ≠ p) ∨ ∃ X : Nat, f2.toInt = (X : Int) ∧ (X : Int) < (s2.1 86 8).toInt ∧ s2.1 86 X = p) → y_W g_sh g_ts d g_t272 (y_poQ p s2) 27 [(0, .inr (.inr 67)), (1, .inl p), (2, .inl f), (3, .inl i)] [.inl f2] s2 := by
      intro f2 h2
      refine y_run 3 rfl ?_
      refine y_sub (ls1 := [(0, .inr (.inr 67)), (1, .inl p), (2, .inl f2), (3, .inl (i + Int32.ofInt 1))]) (show ([0, 1, 2, 3] : List Nat).Nodup by decide) (y_R_cons rfl (y_R_cons rfl (y_R_cons rfl (y_R_cons rfl y_R_nil)))) ?_
      exact ih f2 _ (I + 1) (by rw [hi1, hi]; omega) (by omega) (by omega) h2
    refine y_run 3 rfl ?_
    refine y_ald86 (j := I) rfl hi (by omega) ?_
    refine y_run 1 rfl ?_
    refine y_ic rfl (fun hne => ?_) (fun he => ?_)
    · have hne2 : (s2.1 86 I).toInt ≠ p.toInt := hne
      refine y_run 1 rfl ?_
      refine next f ?_
      rcases h with ⟨rfl, h⟩ | h
      · refine Or.inl ⟨rfl, fun k hk => ?_⟩
        rcases Nat.lt_or_ge k I with q | q
        · exact h k q
        · rw [show k = I by omega]
          intro e
          exact hne2 (by rw [e])
      · exact Or.inr h
    · have he2 : (s2.1 86 I).toInt = p.toInt := Classical.byContradiction fun q => he q
      refine y_run 2 rfl ?_
      exact next i (Or.inr ⟨I, hi, by omega, Int32.toInt_inj.mp he2⟩)
theorem y_placeOf {V : w_V} : y_C g_sh g_ts 272 2 (fun a s => w_T V g_sh (y_mk g_sh s) ∧ ∃ p : Int32, a = [.inr (.inr 67), .inl p]) (fun a s v s2 => ∀ p : Int32, a = [.inr (.inr 67), .inl p] → y_poQ p s v s2) := by
  refine y_C.of (t := g_t272) rfl (by decide) ?_
  rintro d a s hd ⟨hT, p, rfl⟩
  have h8 := y_air8 hT
  have key : y_W g_sh g_ts d g_t272 (y_poQ p s) 0 (q_args 0 [.inr (.inr 67), .inl p]) [] s := by
    refine y_run 4 rfl ?_
    refine y_sub (ls1 := [(0, .inr (.inr 67)), (1, .inl p), (2, .inl (Int32.ofInt (-1))), (3, .inl (Int32.ofInt 0))]) (show ([0, 1, 2, 3] : List Nat).Nodup by decide) (y_R_cons rfl (y_R_cons rfl (y_R_cons rfl (y_R_cons rfl y_R_nil)))) ?_
    exact y_po_loop (by omega) hT 8 _ _ 0 rfl (by omega) (by omega) (Or.inl ⟨rfl, fun k hk => by omega⟩)
  intro h ns hR
  obtain ⟨v, h2, s2, he, hR2, hQ⟩ := key h ns hR
  refine ⟨v, h2, s2, he, hR2, fun p2 e => ?_⟩
  cases e
  exact hQ
