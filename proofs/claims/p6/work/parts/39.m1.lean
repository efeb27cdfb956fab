/-! WHAT IS KEPT of the heap beyond ranges (V): the steps are well-formed, who queues has a place, at every state that undo, redo, back may bring -/
def y_V0 : w_V := ⟨fun _ => True, fun _ _ _ _ => True.intro⟩
theorem y_t0 {V : w_V} {σ : w_G} (h : w_T V g_sh σ) : w_T y_V0 g_sh σ := ⟨h.1, True.intro⟩
/-- ranges, out of ranges: what is new lies in its range -/
theorem y_T0of {s s2 : y_H} (hT : w_T y_V0 g_sh (y_mk g_sh s)) (h : ∀ o k A, w_ty g_sh o k = some A → y_mk g_sh s2 o k = y_mk g_sh s o k ∨ ∃ lo hi : Nat, A = .inl ((lo, hi), 0) ∧ y_kd g_sh o k = 0 ∧ (lo : Int) - 2147483648 ≤ (s2.1 o k).toInt ∧ (s2.1 o k).toInt ≤ (hi : Int) - 2147483648) : w_T y_V0 g_sh (y_mk g_sh s2) := by
  refine ⟨?_, True.intro⟩
  intro o k A hA
  rcases h o k A hA with e | ⟨lo, hi, rfl, hk, h1, h2⟩
  · rw [e]
    have := w_in_kz (ls2 := []) (σ2 := y_mk g_sh s2) (hT.1 o k A hA)
    rwa [w_ty_kz hA] at this
  · have e1 : y_mk g_sh s2 o k = .inl (s2.1 o k) := by
      show y_v (y_kd g_sh o k) s2 o k = _
      rw [hk]
      rfl
    rw [e1]
    exact y_iv (g := 0) h1 h2
theorem y_mk_eq {s s2 : y_H} {o k : Nat} (h1 : s2.1 o k = s.1 o k) (h2 : s2.2 = s.2) : y_mk g_sh s2 o k = y_mk g_sh s o k := by
  show y_v (y_kd g_sh o k) s2 o k = y_v (y_kd g_sh o k) s o k
  unfold y_v
  split
  · rw [h1]
  · rw [h2]
  · rfl
  · rw [h2]
theorem y_Tup0 {s : y_H} {o k lo hi : Nat} {x : Int32} (hT : w_T y_V0 g_sh (y_mk g_sh s)) (ht : w_ty g_sh o k = some (.inl ((lo, hi), 0))) (hk : y_kd g_sh o k = 0) (h1 : (lo : Int) - 2147483648 ≤ x.toInt) (h2 : x.toInt ≤ (hi : Int) - 2147483648) : w_T y_V0 g_sh (y_mk g_sh (y_up s o k (.inl x))) := by
  refine y_T0of hT ?_
  intro o2 k2 A hA
  by_cases e : o2 = o ∧ k2 = k
  · obtain ⟨rfl, rfl⟩ := e
    rw [ht] at hA
    cases hA
    refine Or.inr ⟨lo, hi, rfl, hk, ?_, ?_⟩
    · rw [y_up_self]; exact h1
    · rw [y_up_self]; exact h2
  · exact Or.inl (y_mk_eq (y_up_ne e) rfl)
/-- a stretch of n ints laid over a row -/
def y_cp (s : y_H) (o b : Nat) (f : Nat → Int32) (n : Nat) : y_H := (fun o2 k => if o2 = o ∧ b ≤ k ∧ k < b + n then f (k - b) else s.1 o2 k, s.2)
theorem y_cp0 {s : y_H} {o b : Nat} {f : Nat → Int32} : y_cp s o b f 0 = s := by
  refine Prod.ext ?_ rfl
  funext o2 k
  exact if_neg (by omega)
theorem y_cpS {s : y_H} {o b n : Nat} {f : Nat → Int32} : y_up (y_cp s o b f n) o (b + n) (.inl (f n)) = y_cp s o b f (n + 1) := by
  refine Prod.ext ?_ rfl
  funext o2 k
  show (if o2 = o ∧ k = b + n then f n else if o2 = o ∧ b ≤ k ∧ k < b + n then f (k - b) else s.1 o2 k) = if o2 = o ∧ b ≤ k ∧ k < b + (n + 1) then f (k - b) else s.1 o2 k
  by_cases h1 : o2 = o ∧ k = b + n
  · rw [if_pos h1, if_pos (by omega)]
    congr 1
    omega
  · rw [if_neg h1]
    by_cases h2 : o2 = o ∧ b ≤ k ∧ k < b + n
    · rw [if_pos h2, if_pos (by omega)]
    · rw [if_neg h2, if_neg (by omega)]
theorem y_cp_in {s : y_H} {o b n k : Nat} {f : Nat → Int32} (hk : k < n) : (y_cp s o b f n).1 o (b + k) = f k := by
  show (if o = o ∧ b ≤ b + k ∧ b + k < b + n then f (b + k - b) else _) = _
  rw [if_pos (by omega)]
  congr 1
  omega
theorem y_cp_ne {s : y_H} {o b n o2 k : Nat} {f : Nat → Int32} (h : ¬ (o2 = o ∧ b ≤ k ∧ k < b + n)) : (y_cp s o b f n).1 o2 k = s.1 o2 k := if_neg h
theorem y_Tcp {s : y_H} {o b n : Nat} {f : Nat → Int32} (hT : w_T y_V0 g_sh (y_mk g_sh s)) (h : ∀ k, k < n → y_kd g_sh o (b + k) = 0 ∧ ∃ lo hi : Nat, w_ty g_sh o (b + k) = some (.inl ((lo, hi), 0)) ∧ (lo : Int) - 2147483648 ≤ (f k).toInt ∧ (f k).toInt ≤ (hi : Int) - 2147483648) : w_T y_V0 g_sh (y_mk g_sh (y_cp s o b f n)) := by
  refine y_T0of hT ?_
  intro o2 k A hA
  by_cases e : o2 = o ∧ b ≤ k ∧ k < b + n
  · obtain ⟨rfl, h1, h2⟩ := e
    obtain ⟨j, rfl⟩ : ∃ j, k = b + j := ⟨k - b, by omega⟩
    obtain ⟨hk, lo, hi, ht, r1, r2⟩ := h j (by omega)
    rw [ht] at hA
    cases hA
    exact Or.inr ⟨lo, hi, rfl, hk, by rw [y_cp_in (by omega)]; exact r1, by rw [y_cp_in (by omega)]; exact r2⟩
  · exact Or.inl (y_mk_eq (y_cp_ne e) rfl)
theorem y_fr.cp {ms : List (Nat × Nat)} {s s2 : y_H} {o b n : Nat} {f : Nat → Int32} (h : y_fr g_sh ms s s2) (hm : w_inr ms (w_key o b) (w_key o (b + n - 1)) = true) : y_fr g_sh ms s (y_cp s2 o b f n) := by
  intro o2 k A hA hn
  by_cases e : o2 = o ∧ b ≤ k ∧ k < b + n
  · obtain ⟨rfl, h1, h2⟩ := e
    rw [w_inr_ok hm (w_key_le h1) (w_key_le (by omega))] at hn
    cases hn
  · rw [y_mk_eq (y_cp_ne e) rfl]
    exact h o2 k A hA hn
/-! counting -/
def y_cn (f : Nat → Nat) : Nat → Nat
  | 0 => 0
  | n + 1 => y_cn f n + f n
theorem y_cn_eq {f g : Nat → Nat} : ∀ n, (∀ i, i < n → f i = g i) → y_cn f n = y_cn g n
  | 0, _ => rfl
  | n + 1, h => by
    show y_cn f n + f n = y_cn g n + g n
    rw [y_cn_eq n (fun i hi => h i (by omega)), h n (by omega)]
theorem y_cn_up {f g : Nat → Nat} {P : Nat} : ∀ n, P < n → (∀ i, i < n → i ≠ P → g i = f i) → y_cn g n + f P = y_cn f n + g P
  | 0, h, _ => by omega
  | n + 1, h, hf => by
    show y_cn g n + g n + f P = y_cn f n + f n + g P
    by_cases e : P = n
    · subst e
      rw [y_cn_eq P (fun i hi => hf i (by omega) (by omega))]
      omega
    · have h1 := y_cn_up n (by omega) (fun i hi hne => hf i (by omega) hne)
      have h2 := hf n (by omega) (by omega)
      omega
theorem y_cn_le {f g : Nat → Nat} : ∀ n, (∀ i, i < n → f i ≤ g i) → y_cn f n ≤ y_cn g n
  | 0, _ => Nat.le_refl _
  | n + 1, h => by
    have h1 := y_cn_le n (fun i hi => h i (by omega))
    have h2 := h n (by omega)
    show y_cn f n + f n ≤ y_cn g n + g n
    omega
theorem y_cn_0 {f : Nat → Nat} : ∀ n, (∀ i, i < n → f i = 0) → y_cn f n = 0
  | 0, _ => rfl
  | n + 1, h => by
    show y_cn f n + f n = 0
    rw [y_cn_0 n (fun i hi => h i (by omega)), h n (by omega)]
def y_x34 (v : Int32) : Nat := if 3 ≤ v.toInt then 1 else 0
def y_occ (v : Int32) : Nat := if 0 ≤ v.toInt then 1 else 0
/-- a state of the model: who queues has a place; there is room for who may join -/
def y_Rw (m : Int) (f : Nat → Int32) : Prop := (∀ p : Nat, p < 7 → (p : Int) < m → (f (9 + p)).toInt = 0 → ∃ k : Nat, k < 8 ∧ (k : Int) < (f 8).toInt ∧ (f k).toInt = (p : Int)) ∧ (f 8).toInt + (y_cn (fun r => y_occ (f (18 + r))) 3 : Nat) + (y_cn (fun p => y_x34 (f (9 + p))) 7 : Nat) ≤ 7
theorem y_Rw_eq {m : Int} {f g : Nat → Int32} (h : ∀ k, k < 21 → k ≠ 17 → g k = f k) (hf : y_Rw m f) : y_Rw m g := by
  refine ⟨fun p hp hm h0 => ?_, ?_⟩
  · rw [h (9 + p) (by omega) (by omega)] at h0
    obtain ⟨k, k8, h1, h2⟩ := hf.1 p hp hm h0
    exact ⟨k, k8, by rw [h 8 (by omega) (by omega)]; exact h1, by rw [h k (by omega) (by omega)]; exact h2⟩
  · have h2 := hf.2
    rw [h 8 (by omega) (by omega), y_cn_eq (g := fun r => y_occ (f (18 + r))) 3 (fun i hi => by rw [h (18 + i) (by omega) (by omega)]), y_cn_eq (g := fun p => y_x34 (f (9 + p))) 7 (fun i hi => by rw [h (9 + i) (by omega) (by omega)])]
    exact h2
def y_Rc (n : Nat) (ln hw : Nat → Int32) (sz : Int32) : Prop := ∀ p : Nat, p < n → p < 7 → (hw p).toInt = 0 → ∃ i : Nat, i < 7 ∧ (i : Int) < sz.toInt ∧ (ln i).toInt = (p : Int)
theorem y_Rc_eq {n : Nat} {ln hw ln2 hw2 : Nat → Int32} {sz sz2 : Int32} (h1 : ∀ k, k < 7 → ln2 k = ln k) (h2 : ∀ k, k < 7 → hw2 k = hw k) (h3 : sz2 = sz) (h : y_Rc n ln hw sz) : y_Rc n ln2 hw2 sz2 := by
  intro p hp h7 h0
  rw [h2 p h7] at h0
  obtain ⟨i, i7, g1, g2⟩ := h p hp h7 h0
  exact ⟨i, i7, by rw [h3]; exact g1, by rw [h1 i i7]; exact g2⟩
def y_bit (x : Int32) (b : Nat) : Prop := x.toInt.toNat / 2 ^ b % 2 = 1
/-- of the model -/
def y_VM (g : Nat → Nat → Int32) : Prop := y_Rw (g 65 48).toInt (g 85) ∧ (0 ≤ (g 65 66).toInt ∧ 0 ≤ (g 65 67).toInt ∧ (g 65 66).toInt + (g 65 67).toInt ≤ 40) ∧ (∀ j : Nat, j < 40 → (j : Int) < (g 65 66).toInt + (g 65 67).toInt → y_Rw (g 65 48).toInt (fun k => g 91 (28 * j + k))) ∧ ∀ b : Nat, b < 3 → (g 104 b).toInt ≠ 0 → y_Rw (g 65 48).toInt (fun k => g 105 (28 * b + k))
/-- of the class -/
def y_VC (n : Nat) (g : Nat → Nat → Int32) : Prop := y_Rc n (g 29) (g 30) (g 28 1) ∧ (0 ≤ (g 33 1).toInt ∧ (g 33 1).toInt ≤ 40 ∧ 0 ≤ (g 33 2).toInt ∧ 0 ≤ (g 33 3).toInt ∧ (g 33 2).toInt + (g 33 3).toInt ≤ 40) ∧ (∀ j : Nat, (j : Int) ≤ (g 33 2).toInt + (g 33 3).toInt → y_Rc n (fun k => g 34 (((g 33 1).toInt.toNat + j) % 41 * 24 + k)) (fun k => g 34 (((g 33 1).toInt.toNat + j) % 41 * 24 + 7 + k)) (g 34 (((g 33 1).toInt.toNat + j) % 41 * 24 + 18))) ∧ ∀ b : Nat, b < 3 → y_bit (g 0 7) b → y_Rc n (fun k => g 35 (24 * b + k)) (fun k => g 35 (24 * b + 7 + k)) (g 35 (24 * b + 18))
def y_V1 (n : Nat) (g : Nat → Nat → Int32) : Prop := (∃ D, y_FD D g) ∧ y_VM g ∧ y_VC n g
theorem y_pkI {o a z k : Nat} (h : w_inr g_pk (w_key o a) (w_key o z) = true) (h1 : a ≤ k) (h2 : k ≤ z) : w_inm g_pk (w_key o k) = true := w_inr_ok h (w_key_le h1) (w_key_le h2)
def y_eqK (g g2 : Nat → Nat → Int32) : Prop := ∀ o k, k < 4096 → w_inm g_pk (w_key o k) = true → g2 o k = g o k
theorem y_FD_eq {g g2 : Nat → Nat → Int32} (h : y_eqK g g2) {D : Nat → Nat} (hD : y_FD D g) : y_FD D g2 := by
  obtain ⟨h0, h1, h2⟩ := hD
  have e18 := h 65 18 (by omega) (y_pkI (a := 18) (z := 18) (by decide +kernel) (by omega) (by omega))
  refine ⟨h0, by rw [e18]; exact h1, fun i hi => ?_⟩
  rw [e18] at hi
  have e70 := h 70 i (by omega) (y_pkI (a := 0) (z := 319) (by decide +kernel) (by omega) (by omega))
  have e71 := h 71 i (by omega) (y_pkI (a := 0) (z := 319) (by decide +kernel) (by omega) (by omega))
  rw [e70, e71]
  exact h2 i hi
theorem y_VM_eq {g g2 : Nat → Nat → Int32} (h : y_eqK g g2) (hV : y_VM g) : y_VM g2 := by
  obtain ⟨h1, h2, h3, h4⟩ := hV
  have e48 := h 65 48 (by omega) (y_pkI (a := 48) (z := 48) (by decide +kernel) (by omega) (by omega))
  have e66 := h 65 66 (by omega) (y_pkI (a := 66) (z := 66) (by decide +kernel) (by omega) (by omega))
  have e67 := h 65 67 (by omega) (y_pkI (a := 67) (z := 67) (by decide +kernel) (by omega) (by omega))
  unfold y_VM
  rw [e48, e66, e67]
  refine ⟨y_Rw_eq (fun k hk h17 => ?_) h1, h2, fun j hj hlt => y_Rw_eq (fun k hk _ => ?_) (h3 j hj hlt), fun b hb hne => ?_⟩
  · rcases Nat.lt_or_ge k 17 with q | q
    · exact h 85 k (by omega) (y_pkI (a := 0) (z := 16) (by decide +kernel) (by omega) (by omega))
    · exact h 85 k (by omega) (y_pkI (a := 18) (z := 20) (by decide +kernel) (by omega) (by omega))
  · exact h 91 _ (by omega) (y_pkI (a := 0) (z := 1119) (by decide +kernel) (by omega) (by omega))
  · rw [h 104 b (by omega) (y_pkI (a := 0) (z := 2) (by decide +kernel) (by omega) (by omega))] at hne
    exact y_Rw_eq (fun k hk _ => h 105 _ (by omega) (y_pkI (a := 0) (z := 83) (by decide +kernel) (by omega) (by omega))) (h4 b hb hne)
theorem y_VC_eq {n : Nat} {g g2 : Nat → Nat → Int32} (h : y_eqK g g2) (hV : y_VC n g) : y_VC n g2 := by
  obtain ⟨h1, h2, h3, h4⟩ := hV
  have e0 := h 0 7 (by omega) (y_pkI (a := 7) (z := 7) (by decide +kernel) (by omega) (by omega))
  have e28 := h 28 1 (by omega) (y_pkI (a := 1) (z := 1) (by decide +kernel) (by omega) (by omega))
  have e1 := h 33 1 (by omega) (y_pkI (a := 1) (z := 1) (by decide +kernel) (by omega) (by omega))
  have e2 := h 33 2 (by omega) (y_pkI (a := 2) (z := 2) (by decide +kernel) (by omega) (by omega))
  have e3 := h 33 3 (by omega) (y_pkI (a := 3) (z := 3) (by decide +kernel) (by omega) (by omega))
  unfold y_VC
  rw [e0, e28, e1, e2, e3]
  have hr : ∀ x : Nat, x < 984 → g2 34 x = g 34 x := fun x hx => h 34 x (by omega) (y_pkI (a := 0) (z := 983) (by decide +kernel) (by omega) (by omega))
  have hb : ∀ x : Nat, x < 72 → g2 35 x = g 35 x := fun x hx => h 35 x (by omega) (y_pkI (a := 0) (z := 71) (by decide +kernel) (by omega) (by omega))
  refine ⟨y_Rc_eq (fun k hk => h 29 k (by omega) (y_pkI (a := 0) (z := 6) (by decide +kernel) (by omega) (by omega))) (fun k hk => h 30 k (by omega) (y_pkI (a := 0) (z := 6) (by decide +kernel) (by omega) (by omega))) rfl h1, h2, fun j hj => ?_, fun b h3 hbit => ?_⟩
  · have hm : ((g 33 1).toInt.toNat + j) % 41 < 41 := Nat.mod_lt _ (by omega)
    exact y_Rc_eq (fun k hk => hr _ (by omega)) (fun k hk => hr _ (by omega)) (hr _ (by omega)) (h3 j hj)
  · exact y_Rc_eq (fun k hk => hb _ (by omega)) (fun k hk => hb _ (by omega)) (hb _ (by omega)) (h4 b h3 hbit)
theorem y_V1_eq {n : Nat} {g g2 : Nat → Nat → Int32} (h : y_eqK g g2) (hV : y_V1 n g) : y_V1 n g2 := by
  obtain ⟨⟨D, hD⟩, hM, hC⟩ := hV
  exact ⟨⟨D, y_FD_eq h hD⟩, y_VM_eq h hM, y_VC_eq h hC⟩
def y_ints (σ : w_G) : Nat → Nat → Int32 := fun o k => q_in (σ o k)
def y_Vn (n : Nat) : w_V := ⟨fun σ => y_V1 n (y_ints σ), fun σ σ2 h hV => y_V1_eq (fun o k hk hm => by show q_in (σ2 o k) = q_in (σ o k); rw [h o k hk hm]) hV⟩
/-- the kept keys are of ints -/
def y_k0r (a : Nat) : Nat → Bool
  | 0 => true
  | n + 1 => Nat.beq (y_kd g_sh (w_ko (a + n)) (w_kk (a + n))) 0 && y_k0r a n
theorem y_k0r_ok {a g : Nat} : ∀ n, y_k0r a n = true → a ≤ g → g < a + n → y_kd g_sh (w_ko g) (w_kk g) = 0 := by
  intro n
  induction n with
  | zero => intro _ _ _; omega
  | succ n ih =>
    intro h h1 h2
    have h3 : (Nat.beq (y_kd g_sh (w_ko (a + n)) (w_kk (a + n))) 0 && y_k0r a n) = true := h
    rw [Bool.and_eq_true] at h3
    rcases Nat.lt_or_ge g (a + n) with q | q
    · exact ih h3.2 h1 q
    · rw [show g = a + n by omega]
      exact q_beq h3.1
theorem g_pk0 : g_pk.all (fun q => y_k0r q.1 (q.2 + 1 - q.1)) = true := by decide +kernel
theorem y_pk0 {o k : Nat} (hk : k < 4096) (hm : w_inm g_pk (w_key o k) = true) : y_kd g_sh o k = 0 := by
  unfold w_inm at hm
  rw [List.any_eq_true] at hm
  obtain ⟨q, hq, hc⟩ := hm
  have h := g_pk0
  rw [List.all_eq_true] at h
  have h1 := h q hq
  rw [Bool.and_eq_true] at hc
  have c1 := Nat.le_of_ble_eq_true hc.1
  have c2 := Nat.le_of_ble_eq_true hc.2
  have := y_k0r_ok (g := w_key o k) _ h1 c1 (by omega)
  rwa [w_ko_key hk, w_kk_key hk] at this
theorem y_ints_mk {s : y_H} {o k : Nat} (hk : y_kd g_sh o k = 0) : y_ints (y_mk g_sh s) o k = s.1 o k := by
  show q_in (y_v (y_kd g_sh o k) s o k) = _
  rw [hk]
  rfl
theorem y_Vmk {n : Nat} {s : y_H} : (y_Vn n).1 (y_mk g_sh s) ↔ y_V1 n s.1 :=
  ⟨fun h => y_V1_eq (fun _ _ hk hm => (y_ints_mk (y_pk0 hk hm)).symm) h, fun h => y_V1_eq (fun _ _ hk hm => y_ints_mk (y_pk0 hk hm)) h⟩
theorem y_TV {n : Nat} {s : y_H} (hT : w_T y_V0 g_sh (y_mk g_sh s)) (hV : y_V1 n s.1) : w_T (y_Vn n) g_sh (y_mk g_sh s) := ⟨hT.1, y_Vmk.mpr hV⟩
theorem y_VT {n : Nat} {s : y_H} (hT : w_T (y_Vn n) g_sh (y_mk g_sh s)) : y_V1 n s.1 := y_Vmk.mp hT.2
/-- a frame that leaves the kept keys alone -/
theorem y_fr_eqK {ms : List (Nat × Nat)} {s s2 : y_H} (hf : y_fr g_sh ms s s2) (hm : ∀ o k, k < 4096 → w_inm g_pk (w_key o k) = true → w_inm ms (w_key o k) = false) : y_eqK s.1 s2.1 := by
  intro o k hk hp
  obtain ⟨A, hA⟩ := y_pk_ok g_pkok hk hp
  exact hf.at hA (y_pk0 hk hp) (hm o k hk hp)
