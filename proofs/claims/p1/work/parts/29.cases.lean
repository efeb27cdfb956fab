/-! THE LAW'S RUNS, case by case: an argument is a told int or a name within bounds (told by places: the least int at 0) -/
def g_end (s : Option (q_Sf q_A)) : Bool := match s with
  | some s => (match s.2.2.1 with
    | [.inl (.inl x)] => Nat.beq x 1 && (Nat.ble s.2.2.2.1.1 600000 && Nat.ble s.2.2.2.2 7302250)
    | _ => false)
  | none => false
noncomputable def g_run (K : q_Kn) (scr : List q_A) : Option (q_Sf q_A) := q_ftill (q_OA K) (some scr) g_fs 100000 8 g_fl 1620 100 0 [(0, .inr (.inr 1))] [] (0, q_m0) 0
def g_arg (i : Nat) (q : Nat × Nat) : q_A := bif Nat.beq q.1 q.2 then .inl ((q.1 + 2147483648) % 4294967296) else .inr (i, 0, 0)
abbrev g_Cs : Type := Nat × (Nat × Nat) × (Nat × Nat) × (Nat × Nat) × Nat
def g_scr (c : g_Cs) : List q_A := [.inr (5, 0, 0), g_arg 0 c.2.1, bif Nat.beq c.2.2.2.2 1 then g_arg 0 c.2.1 else g_arg 1 c.2.2.1, g_arg 2 c.2.2.2.1, .inr (3, 0, 0), .inr (4, 0, 0)]
def g_K (c : g_Cs) : q_Kn := (some c.1, [c.2.1, c.2.2.1, c.2.2.2.1], Nat.beq c.2.2.2.2 2)
noncomputable def g_ok (c : g_Cs) : Bool := g_end (g_run (g_K c) (g_scr c))
def g_cov : Nat → List (Nat × Nat) → Bool
  | _, [] => false
  | s, [q] => Nat.beq q.1 s && Nat.beq q.2 4294967295
  | s, q :: r :: t => Nat.beq q.1 s && g_cov (q.2 + 1) (r :: t)
noncomputable def g_all (k : Nat) (l1 l2 l3 : List (Nat × Nat)) (md : List Nat) : Bool := (g_cov 0 l1 && (g_cov 0 l2 && g_cov 0 l3)) && l1.all fun v1 => l2.all fun v2 => l3.all fun v3 => md.all fun m => g_ok (k, v1, v2, v3, m)
def g_Runs (xs : List Int32) : Prop := ∃ (i : Nat) (ls : q_U Int32) (h : q_H Int32) (ns : Nat), q_iter q_O32 (some xs) g_ts 100000 8 g_tl i ((0, [(0, .inr (.inr 1))], []), [], 0) = some ((1620, ls, [.inl 1]), h, ns) ∧ h.length ≤ 600000 ∧ ns ≤ 7302250
theorem g_runs_of {K : q_Kn} {ρ : Nat → Int32} (H : q_Hm (q_OA K) (q_d ρ)) {scr : List q_A} {xs : List Int32} (hx : scr.map (q_d ρ) = xs) (hok : g_end (g_run K scr) = true) : g_Runs xs := by
  unfold g_end at hok
  split at hok
  next s hs =>
    obtain ⟨pc, ls, st, F, ns⟩ := s
    split at hok
    next x hst =>
      simp only at hst
      subst hst
      simp only [Bool.and_eq_true] at hok
      obtain ⟨e1, e2, e3⟩ := hok
      have ex := q_beq e1
      subst ex
      unfold g_run at hs
      rw [g_fs_eq, g_el] at hs
      have h0 : q_rh ((0, q_m0) : q_Hf q_A) [] := ⟨rfl, rfl, fun o c hc => by rw [q_m0_get] at hc; cases hc⟩
      obtain ⟨ep, i, h', hi, H'⟩ := q_ftill_ok (q_OA K) (some scr) g_ts 100000 8 g_tl 1620 100 0 _ _ _ [] 0 pc ls _ F ns h0 hs
      subst ep
      have hm := q_m_iter H g_ts 100000 8 g_tl (some scr) i _ _ hi
      refine ⟨i, q_mU (q_d ρ) ls, q_mH (q_d ρ) h', ns, ?_, ?_, Nat.le_of_ble_eq_true e3⟩
      · rw [Option.map_some, hx] at hm
        exact hm
      · rw [q_m_len, ← H'.1]
        exact Nat.le_of_ble_eq_true e2
    next => cases hok
  next => cases hok
theorem g_cov_spec : ∀ (l : List (Nat × Nat)) (s : Nat), g_cov s l = true → ∀ v, s ≤ v → v ≤ 4294967295 → ∃ q ∈ l, q.1 ≤ v ∧ v ≤ q.2
  | [], _, h, _, _, _ => by cases h
  | [q], s, h, v, h1, h2 => by
    simp only [g_cov, Bool.and_eq_true] at h
    have e1 := q_beq h.1
    have e2 := q_beq h.2
    exact ⟨q, List.mem_cons_self, by omega, by omega⟩
  | q :: r :: t, s, h, v, h1, h2 => by
    simp only [g_cov, Bool.and_eq_true] at h
    have e1 := q_beq h.1
    by_cases hv : v ≤ q.2
    · exact ⟨q, List.mem_cons_self, by omega, hv⟩
    · obtain ⟨q', hq', h3⟩ := g_cov_spec (r :: t) (q.2 + 1) h.2 v (by omega) h2
      exact ⟨q', List.mem_cons_of_mem _ hq', h3⟩
def g_rho (x0 x1 x2 x3 x4 x5 : Int32) : Nat → Int32
  | 0 => x1
  | 1 => x2
  | 2 => x3
  | 3 => x4
  | 4 => x5
  | _ => x0
theorem g_arg_d {ρ : Nat → Int32} {i : Nat} {q : Nat × Nat} (h1 : q.1 ≤ q_sg (q_en (ρ i))) (h2 : q_sg (q_en (ρ i)) ≤ q.2) : q_d ρ (g_arg i q) = ρ i := by
  unfold g_arg
  cases hb : Nat.beq q.1 q.2 with
  | true =>
    have e := q_beq hb
    have e2 : q_sg (q_en (ρ i)) = q.1 := by omega
    have h3 := q_en_lt (ρ i)
    have e3 : (q.1 + 2147483648) % 4294967296 = q_en (ρ i) := by
      rw [← e2]
      unfold q_sg
      omega
    show q_dc ((q.1 + 2147483648) % 4294967296) = ρ i
    rw [e3, q_dc_en]
  | false => rfl
theorem g_six_of {x0 x1 x2 x3 x4 x5 : Int32} {k : Nat} {l1 l2 l3 : List (Nat × Nat)} {md : List Nat} (hk : x0 &&& 63 = q_dc k) (hmd : md = [0] ∨ md = [1, 2]) (h : g_all k l1 l2 l3 md = true) : g_Runs [x0, x1, x2, x3, x4, x5] := by
  unfold g_all at h
  simp only [Bool.and_eq_true] at h
  obtain ⟨⟨c1, c2, c3⟩, h⟩ := h
  have up : ∀ x : Int32, q_sg (q_en x) ≤ 4294967295 := fun x => by have := q_sg_lt (q_en x); omega
  obtain ⟨v1, m1, a1, b1⟩ := g_cov_spec l1 0 c1 (q_sg (q_en x1)) (Nat.zero_le _) (up x1)
  obtain ⟨v2, m2, a2, b2⟩ := g_cov_spec l2 0 c2 (q_sg (q_en x2)) (Nat.zero_le _) (up x2)
  obtain ⟨v3, m3, a3, b3⟩ := g_cov_spec l3 0 c3 (q_sg (q_en x3)) (Nat.zero_le _) (up x3)
  have hok := List.all_eq_true.mp (List.all_eq_true.mp (List.all_eq_true.mp (List.all_eq_true.mp h v1 m1) v2 m2) v3 m3)
  have fin : ∀ m ∈ md, (m = 1 → x2 = x1) → (m = 2 → x1 ≠ x2) → g_Runs [x0, x1, x2, x3, x4, x5] := by
    intro m hm e1 e2
    have hok := hok m hm
    have hb : ∀ i, (q_bd (g_K (k, v1, v2, v3, m)) i).1 ≤ q_sg (q_en (g_rho x0 x1 x2 x3 x4 x5 i)) ∧ q_sg (q_en (g_rho x0 x1 x2 x3 x4 x5 i)) ≤ (q_bd (g_K (k, v1, v2, v3, m)) i).2 := by
      intro i
      rcases i with _ | _ | _ | i
      · exact ⟨a1, b1⟩
      · exact ⟨a2, b2⟩
      · exact ⟨a3, b3⟩
      · exact ⟨Nat.zero_le _, up _⟩
    refine g_runs_of (K := g_K (k, v1, v2, v3, m)) (ρ := g_rho x0 x1 x2 x3 x4 x5) (q_OA_ok ?_ hb ?_) (scr := g_scr (k, v1, v2, v3, m)) ?_ hok
    · intro k' hk'
      cases hk'
      exact hk
    · intro hne
      have e := q_beq hne
      exact e2 e
    · have d1 : q_d (g_rho x0 x1 x2 x3 x4 x5) (g_arg 0 v1) = x1 := g_arg_d (ρ := g_rho x0 x1 x2 x3 x4 x5) (i := 0) a1 b1
      have d2 : q_d (g_rho x0 x1 x2 x3 x4 x5) (g_arg 1 v2) = x2 := g_arg_d (ρ := g_rho x0 x1 x2 x3 x4 x5) (i := 1) a2 b2
      have d3 : q_d (g_rho x0 x1 x2 x3 x4 x5) (g_arg 2 v3) = x3 := g_arg_d (ρ := g_rho x0 x1 x2 x3 x4 x5) (i := 2) a3 b3
      show [x0, q_d (g_rho x0 x1 x2 x3 x4 x5) (g_arg 0 v1), q_d (g_rho x0 x1 x2 x3 x4 x5) (bif Nat.beq m 1 then g_arg 0 v1 else g_arg 1 v2), q_d (g_rho x0 x1 x2 x3 x4 x5) (g_arg 2 v3), x4, x5] = [x0, x1, x2, x3, x4, x5]
      rw [d1, d3]
      cases hm1 : Nat.beq m 1 with
      | true => rw [cond_true, d1, e1 (q_beq hm1)]
      | false => rw [cond_false, d2]
  rcases hmd with rfl | rfl
  · exact fin 0 List.mem_cons_self (fun e => by cases e) (fun e => by cases e)
  · by_cases e : x1 = x2
    · exact fin 1 List.mem_cons_self (fun _ => e.symm) (fun e => by cases e)
    · exact fin 2 (List.mem_cons_of_mem _ List.mem_cons_self) (fun e => by cases e) (fun _ => e)
/-- a script of fewer than six ints -/
theorem g_few (xs : List Int32) (hl : xs.length < 6) (hok : ∀ n, n < 6 → g_end (g_run q_K0 ((List.range n).map (fun i => .inr (i, 0, 0)))) = true) : g_Runs xs := by
  refine g_runs_of (K := q_K0) (ρ := fun i => xs.getD i 0) (q_OA_ok (fun k hk => by cases hk) (fun i => ⟨Nat.zero_le _, by have := q_sg_lt (q_en (xs.getD i 0)); show _ ≤ 4294967295; omega⟩) (fun h => by cases h)) ?_ (hok xs.length hl)
  rw [List.map_map]
  apply List.ext_getElem?
  intro i
  rw [List.getElem?_map]
  by_cases hi : i < xs.length
  · rw [List.getElem?_range hi, List.getElem?_eq_getElem hi]
    show some (xs.getD i 0) = _
    simp [hi]
  · rw [List.getElem?_eq_none (by simp; omega), List.getElem?_eq_none (by omega)]
    rfl
theorem g_and63 (x : Int32) : ∃ k, k < 64 ∧ x &&& 63 = q_dc k := by
  refine ⟨q_en (x &&& 63), ?_, (q_dc_en _).symm⟩
  unfold q_en
  rw [Int32.toBitVec_and, BitVec.toNat_and]
  exact Nat.lt_of_le_of_lt Nat.and_le_right (by decide)
