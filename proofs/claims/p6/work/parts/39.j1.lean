/-! by hand: the model's minutes (queueMany, isFree, isGone, takeOut) -/
/-- the first keys are among the second -/
def y_inc (m1 m2 : List (Nat × Nat)) : Bool := m1.all (fun q => m2.any (fun z => Nat.ble z.1 q.1 && Nat.ble q.2 z.2))
theorem y_inc_ok {m1 m2 : List (Nat × Nat)} (h : y_inc m1 m2 = true) {g : Nat} (hg : w_inm m1 g = true) : w_inm m2 g = true := by
  unfold w_inm at hg ⊢
  rw [List.any_eq_true] at hg ⊢
  obtain ⟨q, hq, hc⟩ := hg
  unfold y_inc at h
  rw [List.all_eq_true] at h
  have h1 := h q hq
  rw [List.any_eq_true] at h1
  obtain ⟨z, hz, hz2⟩ := h1
  refine ⟨z, hz, ?_⟩
  rw [Bool.and_eq_true] at hc hz2 ⊢
  have a1 := Nat.le_of_ble_eq_true hc.1
  have a2 := Nat.le_of_ble_eq_true hc.2
  have a3 := Nat.le_of_ble_eq_true hz2.1
  have a4 := Nat.le_of_ble_eq_true hz2.2
  exact ⟨Nat.ble_eq_true_of_le (by omega), Nat.ble_eq_true_of_le (by omega)⟩
theorem y_fr.mono {sh : w_Sh} {m1 m2 : List (Nat × Nat)} {s s2 : y_H} (h : y_fr sh m1 s s2) (hi : y_inc m1 m2 = true) : y_fr sh m2 s s2 := by
  intro o k A hA hm
  refine h o k A hA ?_
  cases hx : w_inm m1 (w_key o k) with
  | false => rfl
  | true =>
    rw [y_inc_ok hi hx] at hm
    cases hm
/-- the cells of air -/
theorem y_airk : ∀ j, j < 28 → y_kd g_sh 86 j = 0 := by decide +kernel
theorem y_airpk : ∀ j, j < 28 → w_inm g_pk (w_key 86 j) = false := by decide +kernel
theorem y_airq : ∀ j, j < 8 → w_ty g_sh 86 j = some (.inl ((2147483648, 2147483655), 0))
  | 0, _ => rfl
  | 1, _ => rfl
  | 2, _ => rfl
  | 3, _ => rfl
  | 4, _ => rfl
  | 5, _ => rfl
  | 6, _ => rfl
  | 7, _ => rfl
  | n + 8, h => absurd h (by omega)
theorem y_airs : ∀ j, j < 8 → w_ty g_sh 86 (9 + j) = some (.inl ((2147483648, 2147483652), 0))
  | 0, _ => rfl
  | 1, _ => rfl
  | 2, _ => rfl
  | 3, _ => rfl
  | 4, _ => rfl
  | 5, _ => rfl
  | 6, _ => rfl
  | 7, _ => rfl
  | n + 8, h => absurd h (by omega)
theorem y_airr : ∀ j, j < 3 → w_ty g_sh 86 (18 + j) = some (.inl ((2147483647, 2147483655), 0))
  | 0, _ => rfl
  | 1, _ => rfl
  | 2, _ => rfl
  | n + 3, h => absurd h (by omega)
theorem y_airy : ∀ j, j < 3 → w_ty g_sh 86 (21 + j) = some (.inl ((0, 4294967295), 0))
  | 0, _ => rfl
  | 1, _ => rfl
  | 2, _ => rfl
  | n + 3, h => absurd h (by omega)
theorem y_air8 {V : w_V} {s : y_H} (hT : w_T V g_sh (y_mk g_sh s)) : 0 ≤ (s.1 86 8).toInt ∧ (s.1 86 8).toInt ≤ 8 := by
  have h := y_rng (lo := 2147483648) (hi := 2147483656) (g := 0) hT (o := 86) (k := 8) rfl rfl
  omega
theorem y_air0 {V : w_V} {s : y_H} (hT : w_T V g_sh (y_mk g_sh s)) {j : Nat} (hj : j < 8) : 0 ≤ (s.1 86 j).toInt ∧ (s.1 86 j).toInt ≤ 7 := by
  have h := y_rng (lo := 2147483648) (hi := 2147483655) (g := 0) hT (o := 86) (k := j) (y_airq j hj) (y_airk j (by omega))
  omega
theorem y_air18 {V : w_V} {s : y_H} (hT : w_T V g_sh (y_mk g_sh s)) {j : Nat} (hj : j < 3) : -1 ≤ (s.1 86 (18 + j)).toInt ∧ (s.1 86 (18 + j)).toInt ≤ 7 := by
  have h := y_rng (lo := 2147483647) (hi := 2147483655) (g := 0) hT (o := 86) (k := 18 + j) (y_airr j hj) (y_airk _ (by omega))
  omega
theorem y_rails {V : w_V} {s : y_H} (hT : w_T V g_sh (y_mk g_sh s)) : 1 ≤ (s.1 65 28).toInt ∧ (s.1 65 28).toInt ≤ 3 := by
  have h := y_rng (lo := 2147483649) (hi := 2147483651) (g := 0) hT (o := 65) (k := 28) rfl rfl
  omega
theorem y_shipOf {V : w_V} {s : y_H} (hT : w_T V g_sh (y_mk g_sh s)) {j : Nat} (hj : j < 8) : 0 ≤ (s.1 82 j).toInt ∧ (s.1 82 j).toInt ≤ 4 := by
  have h := y_rng (lo := 2147483648) (hi := 2147483652) (g := 0) hT (o := 82) (k := j) (y_tyA (tag := 100) (sz := 8) (A := .inl ((2147483648, 2147483652), 0)) rfl hj) (y_kdA (tag := 100) (sz := 8) (a := ((2147483648, 2147483652), 0)) rfl)
  omega
section AIR
variable {V : w_V} {d : Nat} {t : q_T} {Q : Option (q_V Int32) → y_H → Prop} {p : Nat} {ls : q_U Int32} {st : List (q_V Int32)} {s : y_H}
theorem y_ald86 {r : List Nat} {x : Int32} {j : Nat} (hq : q_get t p = some (.iaload, 1, r)) (hx : x.toInt = (j : Int)) (hj : j < 28) (hw : y_W g_sh g_ts d t Q (p + 1) ls (.inl (s.1 86 j) :: st) s) : y_W g_sh g_ts d t Q p ls (.inl x :: .inr (.inr 88) :: st) s :=
  y_ald (o := 86) (sz := 28) (j := j) hq rfl hx hj (y_airk j hj) hw
theorem y_ald82 {r : List Nat} {x : Int32} {j : Nat} (hq : q_get t p = some (.iaload, 1, r)) (hx : x.toInt = (j : Int)) (hj : j < 8) (hw : y_W g_sh g_ts d t Q (p + 1) ls (.inl (s.1 82 j) :: st) s) : y_W g_sh g_ts d t Q p ls (.inl x :: .inr (.inr 84) :: st) s :=
  y_ald (o := 82) (sz := 8) (j := j) hq rfl hx hj (y_kdA (tag := 100) (sz := 8) (a := ((2147483648, 2147483652), 0)) rfl) hw
theorem y_ast86 {r : List Nat} {x v : Int32} {j lo hi : Nat} (hT : w_T V g_sh (y_mk g_sh s)) (hq : q_get t p = some (.iastore, 1, r)) (hx : x.toInt = (j : Int)) (hj : j < 28) (hty : w_ty g_sh 86 j = some (.inl ((lo, hi), 0))) (h1 : (lo : Int) - 2147483648 ≤ v.toInt) (h2 : v.toInt ≤ (hi : Int) - 2147483648) (hw : w_T V g_sh (y_mk g_sh (y_up s 86 j (.inl v))) → y_W g_sh g_ts d t Q (p + 1) ls st (y_up s 86 j (.inl v))) : y_W g_sh g_ts d t Q p ls (.inl v :: .inl x :: .inr (.inr 88) :: st) s :=
  y_ast (o := 86) (sz := 28) (j := j) hq rfl hx hj (y_airk j hj) (hw (y_Tup hT hty (y_airk j hj) (y_airpk j hj) h1 h2))
end AIR
theorem y_up_self {s : y_H} {o k : Nat} {x : Int32} : (y_up s o k (.inl x)).1 o k = x := if_pos ⟨rfl, rfl⟩
theorem y_up_ne {s : y_H} {o k o2 k2 : Nat} {x : Int32} (h : ¬ (o2 = o ∧ k2 = k)) : (y_up s o k (.inl x)).1 o2 k2 = s.1 o2 k2 := if_neg h
theorem y_queueMany : y_C g_sh g_ts 277 1 (fun a _ => a = [.inr (.inr 67)]) (fun _ s v s2 => s2 = s ∧ v = some (.inl (s.1 86 8))) := by
  refine y_C.of (t := g_t277) rfl (by decide) ?_
  rintro d a s - rfl
  refine y_run 3 rfl ?_
  refine y_ald86 (j := 8) rfl rfl (by omega) ?_
  exact y_iret rfl ⟨rfl, rfl⟩
theorem y_isFree : y_C g_sh g_ts 227 1 (fun a _ => ∃ (x : Int32) (R : Nat), a = [.inr (.inr 67), .inl x] ∧ x.toInt = (R : Int) ∧ R < 3) (fun a s v s2 => s2 = s ∧ ∀ (x : Int32) (R : Nat), a = [.inr (.inr 67), .inl x] → x.toInt = (R : Int) → ((s.1 86 (18 + R)).toInt < 0 ∧ v = some (.inl 1)) ∨ (0 ≤ (s.1 86 (18 + R)).toInt ∧ v = some (.inl 0))) := by
  refine y_C.of (t := g_t227) rfl (by decide) ?_
  rintro d a s - ⟨x, R, rfl, hx, hR⟩
  have hadd : ((18 : Int32) + x).toInt = 18 + x.toInt := y_add (x := 18) (y := x) (by show _ ≤ (18 : Int) + _; omega) (by show (18 : Int) + _ ≤ _; omega)
  have fin : ∀ (v : Int32), (((s.1 86 (18 + R)).toInt < 0 ∧ v = 1) ∨ (0 ≤ (s.1 86 (18 + R)).toInt ∧ v = 0)) → s = s ∧ ∀ (x2 : Int32) (R2 : Nat), [(.inr (.inr 67) : q_V Int32), .inl x] = [.inr (.inr 67), .inl x2] → x2.toInt = (R2 : Int) → ((s.1 86 (18 + R2)).toInt < 0 ∧ some (.inl v : q_V Int32) = some (.inl 1)) ∨ (0 ≤ (s.1 86 (18 + R2)).toInt ∧ some (.inl v : q_V Int32) = some (.inl 0)) := by
    intro v hv
    refine ⟨rfl, fun x2 R2 e h2 => ?_⟩
    cases e
    have e2 : R2 = R := by omega
    subst e2
    rcases hv with ⟨h, rfl⟩ | ⟨h, rfl⟩
    · exact Or.inl ⟨h, rfl⟩
    · exact Or.inr ⟨h, rfl⟩
  refine y_run 5 rfl ?_
  refine y_ald86 (j := 18 + R) rfl (by show ((18 : Int32) + x).toInt = _; rw [hadd, hx]; omega) (by omega) ?_
  refine y_if rfl (fun h => ?_) (fun h => ?_)
  · have h2 : 0 ≤ (s.1 86 (18 + R)).toInt := h
    refine y_run 1 rfl ?_
    exact y_bret rfl (Or.inl rfl) (fin 0 (Or.inr ⟨h2, rfl⟩))
  · have h2 : ¬ 0 ≤ (s.1 86 (18 + R)).toInt := h
    refine y_run 2 rfl ?_
    exact y_bret rfl (Or.inr rfl) (fin 1 (Or.inl ⟨by omega, rfl⟩))
/-- a ship that is gone: surely where the minute is late -/
def y_goneQ (s : y_H) (v : Option (q_V Int32)) : Prop := v = some (.inl 1) ∨ (v = some (.inl 0) ∧ (s.1 86 26).toInt < 30000)
theorem y_isGone {V : w_V} (hsails : w_Ent V g_sh g_ts (291, [w_r 67, w_n 0 4 0], [], [], [([], some (w_n 0 20238 0), [])], 2)) : y_C g_sh g_ts 229 3 (fun a s => w_T V g_sh (y_mk g_sh s) ∧ ∃ x : Int32, a = [.inr (.inr 67), .inl x] ∧ 0 ≤ x.toInt ∧ x.toInt ≤ 4) (fun _ s v s2 => s2 = s ∧ y_goneQ s v) := by
  refine y_C.of (t := g_t229) rfl (by decide) ?_
  rintro d a s hd ⟨hT, x, rfl, h0, h4⟩
  refine y_run 3 rfl ?_
  refine y_ald86 (j := 26) rfl rfl (by omega) ?_
  refine y_run 2 rfl ?_
  refine y_callE hsails rfl 1 rfl (fun _ _ _ => rfl) (a := [.inr (.inr 67), .inl x]) rfl rfl (fun h hR => y_mayV (o := 65) (sz := 85) rfl hR) (by omega) hT ⟨⟨67, rfl, List.mem_cons_self⟩, y_iv (by omega) (by omega), True.intro⟩ (fun v hv => ?_)
  obtain ⟨q, hq, ho⟩ := hv
  have eq : q = ([], some (w_n 0 20238 0), []) := by simpa using hq
  subst eq
  obtain ⟨w, rfl, w1, w2⟩ := y_ans ho
  refine y_ic rfl (fun h => ?_) (fun h => ?_)
  · have h2 : (s.1 86 26).toInt < w.toInt := h
    refine y_run 1 rfl ?_
    exact y_bret rfl (Or.inl rfl) ⟨rfl, Or.inr ⟨rfl, by omega⟩⟩
  · refine y_run 2 rfl ?_
    exact y_bret rfl (Or.inr rfl) ⟨rfl, Or.inl rfl⟩
/-- who is at a place goes out of the queue -/
def y_toQ (V : w_V) (X : Nat) (s : y_H) (v : Option (q_V Int32)) (s2 : y_H) : Prop := v = some (.inl (s.1 86 X)) ∧ w_T V g_sh (y_mk g_sh s2) ∧ y_fr g_sh [(352320, 352326), (352328, 352328)] s s2 ∧ (s2.1 86 8).toInt = (s.1 86 8).toInt - 1 ∧ (∀ k, k < X → s2.1 86 k = s.1 86 k) ∧ (∀ k : Nat, X ≤ k → (k : Int) < (s.1 86 8).toInt - 1 → s2.1 86 k = s.1 86 (k + 1)) ∧ ∀ B : Int, (∀ k, k < 8 → (s.1 86 k).toInt ≤ B) → ∀ k, k < 8 → (s2.1 86 k).toInt ≤ B
theorem y_takeOut_loop {V : w_V} {d : Nat} {s0 : y_H} {X : Nat} {p0 : Int32} (hd : 1 ≤ d) (hp : p0 = s0.1 86 X) (hm1 : 1 ≤ (s0.1 86 8).toInt) : ∀ (n : Nat) (s : y_H) (i : Int32) (I : Nat), w_T V g_sh (y_mk g_sh s) → y_fr g_sh [(352320, 352326)] s0 s → i.toInt = (I : Int) → X ≤ I → I ≤ 7 → (s0.1 86 8).toInt - 1 - (I : Int) ≤ (n : Int) → (∀ k, k < X → s.1 86 k = s0.1 86 k) → (∀ k, X ≤ k → k < I → s.1 86 k = s0.1 86 (k + 1)) → (∀ k, I ≤ k → k < 28 → s.1 86 k = s0.1 86 k) → y_W g_sh g_ts d g_t307 (y_toQ V X s0) 9 [(0, .inr (.inr 67)), (2, .inl p0), (3, .inl i)] [] s := by
  intro n
  induction n with
  | zero =>
    intro s i I hT hf hi hXI hI7 hn ha hb hc
    have e8 : s.1 86 8 = s0.1 86 8 := hc 8 (by omega) (by omega)
    have h8 := y_air8 hT
    have h80 := h8
    rw [e8] at h80
    refine y_run 2 rfl ?_
    refine y_call y_queueMany 1 rfl (fun _ _ _ => rfl) (a := [.inr (.inr 67)]) rfl rfl (fun h hR => y_mayV (o := 65) (sz := 85) rfl hR) hd rfl (fun v s2 hQ => ?_)
    obtain ⟨rfl, rfl⟩ := hQ
    have hsb : (s2.1 86 8 - Int32.ofInt 1).toInt = (s2.1 86 8).toInt - 1 := y_sb (x := s2.1 86 8) (y := 1) (by show _ ≤ _ - (1 : Int); omega) (by show _ - (1 : Int) ≤ _; omega)
    refine y_run 2 rfl ?_
    refine y_ic rfl (fun _ => ?_) (fun h => ?_)
    · refine y_run 4 rfl ?_
      refine y_ald86 (j := 8) rfl rfl (by omega) ?_
      refine y_run 2 rfl ?_
      refine y_ast86 (lo := 2147483648) (hi := 2147483656) hT rfl (j := 8) rfl (by omega) rfl (by rw [hsb, e8]; omega) (by rw [hsb, e8]; omega) (fun hT2 => ?_)
      refine y_run 1 rfl ?_
      refine y_iret rfl ⟨by rw [hp], hT2, (hf.mono (by decide +kernel)).up rfl (by decide +kernel), ?_, ?_, ?_, ?_⟩
      · rw [y_up_self, hsb, e8]
      · intro k hk
        rw [y_up_ne (by omega)]
        exact ha k hk
      · intro k hk hk2
        rw [y_up_ne (by omega)]
        exact hb k hk (by omega)
      · intro B hB k hk
        rw [y_up_ne (by omega)]
        rcases Nat.lt_or_ge k X with q | q
        · rw [ha k q]
          exact hB k hk
        · rcases Nat.lt_or_ge k I with q2 | q2
          · rw [hb k q q2]
            exact hB (k + 1) (by omega)
          · rw [hc k q2 (by omega)]
            exact hB k hk
    · have h2 : ¬ (s2.1 86 8 - Int32.ofInt 1).toInt ≤ i.toInt := h
      rw [hsb, e8] at h2
      omega
  | succ n ih =>
    intro s i I hT hf hi hXI hI7 hn ha hb hc
    have e8 : s.1 86 8 = s0.1 86 8 := hc 8 (by omega) (by omega)
    have h8 := y_air8 hT
    have h80 := h8
    rw [e8] at h80
    refine y_run 2 rfl ?_
    refine y_call y_queueMany 1 rfl (fun _ _ _ => rfl) (a := [.inr (.inr 67)]) rfl rfl (fun h hR => y_mayV (o := 65) (sz := 85) rfl hR) hd rfl (fun v s2 hQ => ?_)
    obtain ⟨rfl, rfl⟩ := hQ
    have hsb : (s2.1 86 8 - Int32.ofInt 1).toInt = (s2.1 86 8).toInt - 1 := y_sb (x := s2.1 86 8) (y := 1) (by show _ ≤ _ - (1 : Int); omega) (by show _ - (1 : Int) ≤ _; omega)
    refine y_run 2 rfl ?_
    refine y_ic rfl (fun hge => ?_) (fun h => ?_)
    · have hge2 : (s2.1 86 8 - Int32.ofInt 1).toInt ≤ i.toInt := hge
      refine y_run 4 rfl ?_
      refine y_ald86 (j := 8) rfl rfl (by omega) ?_
      refine y_run 2 rfl ?_
      refine y_ast86 (lo := 2147483648) (hi := 2147483656) hT rfl (j := 8) rfl (by omega) rfl (by rw [hsb, e8]; omega) (by rw [hsb, e8]; omega) (fun hT2 => ?_)
      refine y_run 1 rfl ?_
      refine y_iret rfl ⟨by rw [hp], hT2, (hf.mono (by decide +kernel)).up rfl (by decide +kernel), ?_, ?_, ?_, ?_⟩
      · rw [y_up_self, hsb, e8]
      · intro k hk
        rw [y_up_ne (by omega)]
        exact ha k hk
      · intro k hk hk2
        rw [y_up_ne (by omega)]
        exact hb k hk (by rw [hsb, e8] at hge2; omega)
      · intro B hB k hk
        rw [y_up_ne (by omega)]
        rcases Nat.lt_or_ge k X with q | q
        · rw [ha k q]
          exact hB k hk
        · rcases Nat.lt_or_ge k I with q2 | q2
          · rw [hb k q q2]
            exact hB (k + 1) (by omega)
          · rw [hc k q2 (by omega)]
            exact hB k hk
    · have h2 : ¬ (s2.1 86 8 - Int32.ofInt 1).toInt ≤ i.toInt := h
      rw [hsb, e8] at h2
      have hI6 : I < 7 := by omega
      have hi1 : (i + Int32.ofInt 1).toInt = i.toInt + 1 := y_add (x := i) (y := 1) (by show _ ≤ _ + (1 : Int); omega) (by show _ + (1 : Int) ≤ _; omega)
      refine y_run 8 rfl ?_
      refine y_ald86 (j := I + 1) rfl (by rw [hi1, hi]; omega) (by omega) ?_
      have hr := y_air0 hT (j := I + 1) (by omega)
      refine y_ast86 (lo := 2147483648) (hi := 2147483655) hT rfl (j := I) hi (by omega) (y_airq I (by omega)) (by omega) (by omega) (fun hT2 => ?_)
      refine y_run 2 rfl ?_
      refine y_sub (ls1 := [(0, .inr (.inr 67)), (2, .inl p0), (3, .inl (i + Int32.ofInt 1))]) (show ([0, 2, 3] : List Nat).Nodup by decide) (y_R_cons rfl (y_R_cons rfl (y_R_cons rfl y_R_nil))) ?_
      refine ih _ (i + Int32.ofInt 1) (I + 1) hT2 (hf.up (y_airk I (by omega)) (y_msA (o := 86) (sz := 7) (by decide +kernel) hI6)) (by rw [hi1, hi]; omega) (by omega) (by omega) (by omega) ?_ ?_ ?_
      · intro k hk
        rw [y_up_ne (by omega)]
        exact ha k hk
      · intro k hk hk2
        rcases Nat.lt_or_ge k I with q | q
        · rw [y_up_ne (by omega)]
          exact hb k hk q
        · rw [show k = I by omega, y_up_self]
          exact hc (I + 1) (by omega) (by omega)
      · intro k hk hk2
        rw [y_up_ne (by omega)]
        exact hc k (by omega) hk2
theorem y_takeOut {V : w_V} : y_C g_sh g_ts 307 2 (fun a s => w_T V g_sh (y_mk g_sh s) ∧ ∃ (x : Int32) (X : Nat), a = [.inr (.inr 67), .inl x] ∧ x.toInt = (X : Int) ∧ X < 8 ∧ 1 ≤ (s.1 86 8).toInt) (fun a s v s2 => ∀ (x : Int32) (X : Nat), a = [.inr (.inr 67), .inl x] → x.toInt = (X : Int) → y_toQ V X s v s2) := by
  refine y_C.of (t := g_t307) rfl (by decide) ?_
  rintro d a s hd ⟨hT, x, X, rfl, hx, hX, hm⟩
  have key : y_W g_sh g_ts d g_t307 (y_toQ V X s) 0 (q_args 0 [.inr (.inr 67), .inl x]) [] s := by
    refine y_run 3 rfl ?_
    refine y_ald86 (j := X) rfl hx (by omega) ?_
    refine y_run 3 rfl ?_
    refine y_sub (ls1 := [(0, .inr (.inr 67)), (2, .inl (s.1 86 X)), (3, .inl x)]) (show ([0, 2, 3] : List Nat).Nodup by decide) (y_R_cons rfl (y_R_cons rfl (y_R_cons rfl y_R_nil))) ?_
    have h8 := y_air8 hT
    exact y_takeOut_loop (by omega) rfl hm 8 s x X hT y_fr.rf hx (Nat.le_refl X) (by omega) (by omega) (fun _ _ => rfl) (fun k h1 h2 => by omega) (fun _ _ _ => rfl)
  intro h ns hR
  obtain ⟨v, h2, s2, he, hR2, hQ⟩ := key h ns hR
  refine ⟨v, h2, s2, he, hR2, fun x2 X2 e hx2 => ?_⟩
  cases e
  have e3 : X2 = X := by omega
  subst e3
  exact hQ
