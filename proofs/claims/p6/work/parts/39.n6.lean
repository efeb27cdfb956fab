/-! by hand: swap of the model -/
section SW
variable {n d : Nat} {FM : w_U} {w : Int32} {s0 : y_H}
theorem y_sw_in (has : y_eAsTold (y_Vn n) FM) (hcount : y_eCount (y_Vn n)) (hd : 7 ≤ d) {a : Int32} (a0 : 0 ≤ a.toInt) (hexit : ∀ (s : y_H) (f o m : Int32) (ls : q_U Int32), w_T (y_Vn n) g_sh (y_mk g_sh s) → y_fr g_sh y_arK s0 s → q_at ls 0 = some (.inr (.inr 67)) → q_at ls 1 = some (.inl w) → q_at ls 2 = some (.inl f) → q_at ls 3 = some (.inl o) → q_at ls 4 = some (.inl m) → q_at ls 5 = some (.inl a) → y_W g_sh g_ts d g_t306 (y_thQ n s0) 113 ls [] s) : ∀ (c : Nat) (s : y_H) (f o m b : Int32) (B : Nat), w_T (y_Vn n) g_sh (y_mk g_sh s) → y_fr g_sh y_arK s0 s → b.toInt = (B : Int) → B ≤ 8 → 8 - B ≤ c → y_W g_sh g_ts d g_t306 (y_thQ n s0) 39 [(0, .inr (.inr 67)), (1, .inl w), (2, .inl f), (3, .inl o), (4, .inl m), (5, .inl a), (6, .inl b)] [] s := by
  intro c
  induction c with
  | zero =>
    intro s f o m b B hT hf hb hB hc
    have hp := y_pairs hT
    refine y_run 3 rfl ?_
    refine y_ic rfl (fun _ => hexit s f o m _ hT hf rfl rfl rfl rfl rfl rfl) (fun h => ?_)
    have h2 : ¬ (s.1 65 48).toInt ≤ b.toInt := h
    omega
  | succ c ih =>
    intro s f o m b B hT hf hb hB hc
    have hp := y_pairs hT
    refine y_run 3 rfl ?_
    refine y_ic rfl (fun _ => hexit s f o m _ hT hf rfl rfl rfl rfl rfl rfl) (fun h => ?_)
    have h2 : ¬ (s.1 65 48).toInt ≤ b.toInt := h
    have hi1 : (b + (Int32.ofInt 1)).toInt = b.toInt + 1 := y_add (x := b) (y := 1) (by show _ ≤ _ + (1 : Int); omega) (by show _ + (1 : Int) ≤ _; omega)
    have next : ∀ (s2 : y_H) (f2 o2 m2 : Int32) (ls : q_U Int32), w_T (y_Vn n) g_sh (y_mk g_sh s2) → y_fr g_sh y_arK s0 s2 → q_at ls 0 = some (.inr (.inr 67)) → q_at ls 1 = some (.inl w) → q_at ls 2 = some (.inl f2) → q_at ls 3 = some (.inl o2) → q_at ls 4 = some (.inl m2) → q_at ls 5 = some (.inl a) → q_at ls 6 = some (.inl b) → y_W g_sh g_ts d g_t306 (y_thQ n s0) 107 ls [] s2 := by
      intro s2 f2 o2 m2 ls hT2 hf2 l0 l1 l2 l3 l4 l5 l6
      refine y_sub (ls1 := [(0, .inr (.inr 67)), (1, .inl w), (2, .inl f2), (3, .inl o2), (4, .inl m2), (5, .inl a), (6, .inl b)]) (show ([0, 1, 2, 3, 4, 5, 6] : List Nat).Nodup by decide) (y_R_cons l0 (y_R_cons l1 (y_R_cons l2 (y_R_cons l3 (y_R_cons l4 (y_R_cons l5 (y_R_cons l6 y_R_nil))))))) ?_
      refine y_run 2 rfl ?_
      refine y_sub (ls1 := [(0, .inr (.inr 67)), (1, .inl w), (2, .inl f2), (3, .inl o2), (4, .inl m2), (5, .inl a), (6, .inl ((b + (Int32.ofInt 1))))]) (show ([0, 1, 2, 3, 4, 5, 6] : List Nat).Nodup by decide) (y_R_cons rfl (y_R_cons rfl (y_R_cons rfl (y_R_cons rfl (y_R_cons rfl (y_R_cons rfl (y_R_cons rfl y_R_nil))))))) ?_
      exact ih s2 f2 o2 m2 _ (B + 1) hT2 hf2 (by rw [hi1, hb]; omega) (by omega) (by omega)
    refine y_run 2 rfl ?_
    refine y_call (y_isQueuedF (V := y_Vn n)) 1 rfl (fun _ _ _ => rfl) (a := [.inr (.inr 67), .inl a]) rfl rfl (fun h hR => y_mayV (o := 65) (sz := 85) rfl hR) (by omega) ⟨hT, a, rfl⟩ (fun v s2 hQ => ?_)
    obtain ⟨rfl, hQa⟩ := hQ
    rcases hQa a rfl with ⟨rfl, -, x1, xs⟩ | rfl
    · refine y_if rfl (fun h => absurd (show (1 : Int) = 0 from h) (by omega)) (fun _ => ?_)
      refine y_run 2 rfl ?_
      refine y_call (y_isQueuedF (V := y_Vn n)) 1 rfl (fun _ _ _ => rfl) (a := [.inr (.inr 67), .inl b]) rfl rfl (fun h hR => y_mayV (o := 65) (sz := 85) rfl hR) (by omega) ⟨hT, b, rfl⟩ (fun v s3 hQ => ?_)
      obtain ⟨rfl, hQb⟩ := hQ
      rcases hQb b rfl with ⟨rfl, y0, y1, ys⟩ | rfl
      · refine y_if rfl (fun _ => ?_) (fun h => absurd (show (1 : Int) ≠ 0 by omega) h)
        refine y_run 1 rfl ?_
        refine y_call (y_fillF has) 1 rfl (fun _ _ _ => rfl) (a := [.inr (.inr 67)]) rfl rfl (fun h hR => y_mayV (o := 65) (sz := 85) rfl hR) (by omega) ⟨hT, rfl⟩ (fun v s4 hQ => ?_)
        obtain ⟨rfl, hT4, hf4, he4⟩ := hQ
        obtain ⟨e48, hA4⟩ := y_flAI hT hf4 he4
        obtain ⟨X0, X8, hX0, eX0⟩ := y_AI_in hA4 a0 (by rw [e48]; exact x1) (by omega) (by rw [he4 _ (by omega)]; exact xs)
        obtain ⟨Y0, Y8, hY0, eY0⟩ := y_AI_in hA4 y0 (by rw [e48]; exact y1) (by omega) (by rw [he4 _ (by omega)]; exact ys)
        refine y_run 3 rfl ?_
        refine y_call (y_changesF (V := y_Vn n)) 1 rfl (fun _ _ _ => rfl) (a := [.inr (.inr 67), .inl a, .inl b]) rfl rfl (fun h hR => y_mayV (o := 65) (sz := 85) rfl hR) (by omega) ⟨hT4, a, b, rfl, ⟨X0, hX0, eX0⟩, ⟨Y0, hY0, eY0⟩⟩ (fun v s5 hQ => ?_)
        obtain ⟨rfl, hT5, hf5, -⟩ := hQ a b rfl
        refine y_run 1 rfl ?_
        refine y_callI ⟨rfl, hcount⟩ 1 rfl (fun _ _ _ => rfl) (a := [.inr (.inr 67)]) rfl rfl (fun h hR => y_mayV (o := 65) (sz := 85) rfl hR) (by omega) hT5 ⟨⟨67, rfl, List.mem_cons_self⟩, True.intro⟩ (fun own s6 hT6 hf6 _ _ => ?_)
        have hf6b : y_fr g_sh y_arK s0 s6 := ((hf.tr (hf4.mono (by decide +kernel))).tr (hf5.mono (by decide +kernel))).tr (hf6.mono (by decide +kernel))
        refine y_run 3 rfl ?_
        refine y_ic rfl (fun _ => ?_) (fun _ => ?_)
        · refine y_run 6 rfl ?_
          exact next s6 a b own _ hT6 hf6b rfl rfl rfl rfl rfl rfl rfl
        · refine y_run 1 rfl ?_
          exact next s6 f o m _ hT6 hf6b rfl rfl rfl rfl rfl rfl rfl
      · refine y_if rfl (fun h => absurd rfl h) (fun _ => ?_)
        refine y_run 1 rfl ?_
        exact next s3 f o m _ hT hf rfl rfl rfl rfl rfl rfl rfl
    · exact y_if rfl (fun _ => next s2 f o m _ hT hf rfl rfl rfl rfl rfl rfl rfl) (fun h => absurd rfl h)
theorem y_sw_out (has : y_eAsTold (y_Vn n) FM) (hcount : y_eCount (y_Vn n)) (hd : 7 ≤ d) : ∀ (c : Nat) (s : y_H) (f o m a : Int32) (A : Nat), w_T (y_Vn n) g_sh (y_mk g_sh s) → y_fr g_sh y_arK s0 s → a.toInt = (A : Int) → A ≤ 7 → 7 - A ≤ c → y_W g_sh g_ts d g_t306 (y_thQ n s0) 24 [(0, .inr (.inr 67)), (1, .inl w), (2, .inl f), (3, .inl o), (4, .inl m), (5, .inl a)] [] s := by
  have fin : ∀ (s : y_H) (f o m : Int32) (ls : q_U Int32), w_T (y_Vn n) g_sh (y_mk g_sh s) → y_fr g_sh y_arK s0 s → q_at ls 1 = some (.inl w) → q_at ls 2 = some (.inl f) → q_at ls 3 = some (.inl o) → q_at ls 4 = some (.inl m) → y_W g_sh g_ts d g_t306 (y_thQ n s0) 119 ls [] s := by
    intro s f o m ls hT hf l1 l2 l3 l4
    refine y_sub (ls1 := [(1, .inl w), (2, .inl f), (3, .inl o), (4, .inl m)]) (show ([1, 2, 3, 4] : List Nat).Nodup by decide) (y_R_cons l1 (y_R_cons l2 (y_R_cons l3 (y_R_cons l4 y_R_nil)))) ?_
    have ret : ∀ (r : Int32) (ls : q_U Int32), y_W g_sh g_ts d g_t306 (y_thQ n s0) 146 ls [.inl r] s := fun r ls => y_iret rfl ⟨hT, hf, _, rfl⟩
    refine y_run 1 rfl ?_
    refine y_if rfl (fun _ => ?_) (fun _ => ?_)
    · refine y_run 1 rfl ?_
      refine y_if rfl (fun _ => ?_) (fun _ => ?_)
      · refine y_run 2 rfl ?_
        refine y_ic rfl (fun _ => ?_) (fun _ => ?_)
        · refine y_run 1 rfl ?_
          exact ret _ _
        · refine y_run 2 rfl ?_
          exact ret _ _
      · refine y_run 2 rfl ?_
        exact ret _ _
    · refine y_run 2 rfl ?_
      exact ret _ _
  intro c
  induction c with
  | zero =>
    intro s f o m a A hT hf ha hA hc
    have hp := y_pairs hT
    refine y_run 3 rfl ?_
    refine y_ic rfl (fun _ => fin s f o m _ hT hf rfl rfl rfl rfl) (fun h => ?_)
    have h2 : ¬ (s.1 65 48).toInt ≤ a.toInt := h
    omega
  | succ c ih =>
    intro s f o m a A hT hf ha hA hc
    have hp := y_pairs hT
    refine y_run 3 rfl ?_
    refine y_ic rfl (fun _ => fin s f o m _ hT hf rfl rfl rfl rfl) (fun h => ?_)
    have h2 : ¬ (s.1 65 48).toInt ≤ a.toInt := h
    have hi1 : (a + (Int32.ofInt 1)).toInt = a.toInt + 1 := y_add (x := a) (y := 1) (by show _ ≤ _ + (1 : Int); omega) (by show _ + (1 : Int) ≤ _; omega)
    refine y_run 4 rfl ?_
    refine y_sub (ls1 := [(0, .inr (.inr 67)), (1, .inl w), (2, .inl f), (3, .inl o), (4, .inl m), (5, .inl a), (6, .inl ((a + (Int32.ofInt 1))))]) (show ([0, 1, 2, 3, 4, 5, 6] : List Nat).Nodup by decide) (y_R_cons rfl (y_R_cons rfl (y_R_cons rfl (y_R_cons rfl (y_R_cons rfl (y_R_cons rfl (y_R_cons rfl y_R_nil))))))) ?_
    refine y_sw_in has hcount hd (a := a) (by omega) (fun s2 f2 o2 m2 ls hT2 hf2 l0 l1 l2 l3 l4 l5 => ?_) 8 s f o m _ (A + 1) hT hf (by rw [hi1, ha]; omega) (by omega) (by omega)
    refine y_sub (ls1 := [(0, .inr (.inr 67)), (1, .inl w), (2, .inl f2), (3, .inl o2), (4, .inl m2), (5, .inl a)]) (show ([0, 1, 2, 3, 4, 5] : List Nat).Nodup by decide) (y_R_cons l0 (y_R_cons l1 (y_R_cons l2 (y_R_cons l3 (y_R_cons l4 (y_R_cons l5 y_R_nil)))))) ?_
    refine y_run 2 rfl ?_
    refine y_sub (ls1 := [(0, .inr (.inr 67)), (1, .inl w), (2, .inl f2), (3, .inl o2), (4, .inl m2), (5, .inl ((a + (Int32.ofInt 1))))]) (show ([0, 1, 2, 3, 4, 5] : List Nat).Nodup by decide) (y_R_cons rfl (y_R_cons rfl (y_R_cons rfl (y_R_cons rfl (y_R_cons rfl (y_R_cons rfl y_R_nil)))))) ?_
    exact ih s2 f2 o2 m2 _ (A + 1) hT2 hf2 (by rw [hi1, ha]; omega) (by omega) (by omega)
end SW
theorem y_swapM {n : Nat} {FM CM : w_U} (has : y_eAsTold (y_Vn n) FM) (hcount : y_eCount (y_Vn n)) (hcnt : y_eCnt (y_Vn n) CM) : y_C g_sh g_ts 306 9 (fun a s => w_T (y_Vn n) g_sh (y_mk g_sh s) ∧ ∃ x : Int32, a = [.inr (.inr 67), .inl x]) (fun _ s v s2 => y_thQ n s v s2) := by
  refine y_C.of (t := g_t306) rfl (by decide) ?_
  rintro d a s hd ⟨hT, x, rfl⟩
  refine y_run 3 rfl ?_
  refine y_call y_isInF 0 rfl (fun _ _ _ => rfl) (a := [.inl x, .inl ((Int32.ofInt 0)), .inl ((Int32.ofInt 2))]) rfl rfl (fun h hR => rfl) (by omega) ⟨_, _, _, rfl⟩ (fun v s2 hQ => ?_)
  obtain ⟨rfl, hQ2⟩ := hQ
  rcases hQ2 _ _ _ rfl with ⟨rfl, -, -⟩ | ⟨rfl, -⟩
  · refine y_if rfl (fun _ => ?_) (fun h => absurd (show (1 : Int) ≠ 0 by omega) h)
    refine y_run 5 rfl ?_
    refine y_callI hcnt 1 rfl (fun _ _ _ => rfl) (a := [.inr (.inr 67)]) rfl rfl (fun h hR => y_mayV (o := 65) (sz := 85) rfl hR) (by omega) hT ⟨⟨67, rfl, List.mem_cons_self⟩, True.intro⟩ (fun m s3 hT3 hf3 _ _ => ?_)
    refine y_run 3 rfl ?_
    refine y_sub (ls1 := [(0, .inr (.inr 67)), (1, .inl x), (2, .inl ((Int32.ofInt (-1)))), (3, .inl ((Int32.ofInt (-1)))), (4, .inl m), (5, .inl ((Int32.ofInt 0)))]) (show ([0, 1, 2, 3, 4, 5] : List Nat).Nodup by decide) (y_R_cons rfl (y_R_cons rfl (y_R_cons rfl (y_R_cons rfl (y_R_cons rfl (y_R_cons rfl y_R_nil)))))) ?_
    exact y_sw_out has hcount (by omega) 7 s3 _ _ m _ 0 hT3 hf3 rfl (by omega) (by omega)
  · refine y_if rfl (fun h => absurd rfl h) (fun _ => ?_)
    refine y_run 1 rfl ?_
    exact y_iret rfl ⟨hT, y_fr.rf, _, rfl⟩
/-! rounds of pointing: a function on few places has one that comes back to itself -/
def y_itf (f : Nat → Nat) : Nat → Nat → Nat
  | 0, p => p
  | j + 1, p => f (y_itf f j p)
theorem y_itf_add (f : Nat → Nat) (p : Nat) : ∀ a b, y_itf f (a + b) p = y_itf f a (y_itf f b p)
  | 0, b => by rw [Nat.zero_add]; rfl
  | a + 1, b => by
    rw [show a + 1 + b = (a + b) + 1 by omega]
    show f (y_itf f (a + b) p) = f (y_itf f a (y_itf f b p))
    rw [y_itf_add f p a b]
theorem y_pigeon : ∀ (n : Nat) (g : Nat → Nat), (∀ i, i < n + 1 → g i < n) → ∃ i j, i < j ∧ j < n + 1 ∧ g i = g j := by
  intro n
  induction n with
  | zero =>
    intro g h
    have := h 0 (by omega)
    omega
  | succ n ih =>
    intro g h
    by_cases hx : ∃ i, i < n + 1 ∧ g i = g (n + 1)
    · obtain ⟨i, h1, h2⟩ := hx
      exact ⟨i, n + 1, h1, by omega, h2⟩
    · have hne : ∀ i, i < n + 1 → g i ≠ g (n + 1) := fun i h1 h2 => hx ⟨i, h1, h2⟩
      have hl := h (n + 1) (by omega)
      obtain ⟨i, j, h1, h2, h3⟩ := ih (fun i => if g i > g (n + 1) then g i - 1 else g i) (fun i hi => by
        have a1 := h i (by omega)
        have a2 := hne i hi
        show (if g i > g (n + 1) then g i - 1 else g i) < n
        split <;> omega)
      refine ⟨i, j, h1, by omega, ?_⟩
      have b1 := hne i (by omega)
      have b2 := hne j (by omega)
      have h4 : (if g i > g (n + 1) then g i - 1 else g i) = (if g j > g (n + 1) then g j - 1 else g j) := h3
      split at h4 <;> split at h4 <;> omega
def y_cyc (f : Nat → Nat) (p : Nat) : Prop := ∃ j, 1 ≤ j ∧ y_itf f j p = p
theorem y_cyc_ex {f : Nat → Nat} {L : Nat → Bool} {p0 : Nat} (h0 : p0 < 7) (hL : L p0 = true) (hf : ∀ p, p < 7 → L p = true → f p < 7 ∧ L (f p) = true) : ∃ p, p < 7 ∧ L p = true ∧ y_cyc f p := by
  have h : ∀ i, y_itf f i p0 < 7 ∧ L (y_itf f i p0) = true := by
    intro i
    induction i with
    | zero => exact ⟨h0, hL⟩
    | succ i ih => exact hf _ ih.1 ih.2
  obtain ⟨i, j, h1, h2, h3⟩ := y_pigeon 7 (fun i => y_itf f i p0) (fun i _ => (h i).1)
  refine ⟨y_itf f i p0, (h i).1, (h i).2, j - i, by omega, ?_⟩
  rw [← y_itf_add, show j - i + i = j by omega]
  exact h3.symm
theorem y_cyc_min {f : Nat → Nat} {p : Nat} (h : y_cyc f p) : ∃ J, 1 ≤ J ∧ y_itf f J p = p ∧ ∀ k, 1 ≤ k → k < J → y_itf f k p ≠ p := by
  obtain ⟨j, hj, e⟩ := h
  have key : ∀ n j, j ≤ n → 1 ≤ j → y_itf f j p = p → ∃ J, 1 ≤ J ∧ y_itf f J p = p ∧ ∀ k, 1 ≤ k → k < J → y_itf f k p ≠ p := by
    intro n
    induction n with
    | zero => intro j h1 h2; omega
    | succ n ih =>
      intro j h1 h2 e
      by_cases hx : ∃ k, 1 ≤ k ∧ k < j ∧ y_itf f k p = p
      · obtain ⟨k, k1, k2, k3⟩ := hx
        exact ih k (by omega) k1 k3
      · exact ⟨j, h2, e, fun k k1 k2 k3 => hx ⟨k, k1, k2, k3⟩⟩
  exact key j j (Nat.le_refl j) hj e
