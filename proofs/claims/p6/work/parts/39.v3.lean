/-! THE START: both constructors' runs; what holds behind them -/
def l_rg (f : Nat → Bool) : Nat → Bool
  | 0 => true
  | n + 1 => f n && l_rg f n
theorem l_rg_ok {f : Nat → Bool} : ∀ {n i : Nat}, l_rg f n = true → i < n → f i = true
  | 0, _, _, h => by omega
  | n + 1, i, h, hi => by
    unfold l_rg at h
    rw [Bool.and_eq_true] at h
    by_cases e : i = n
    · rw [e]
      exact h.1
    · exact l_rg_ok h.2 (by omega)
def l_sv (q : q_C Int32) (k : Nat) : q_V Int32 := bif Nat.blt q.1 100 then (match q_at q.2.2 k with
  | some v => v
  | none => .inl 77) else q_el q_O32 q k
def l_hv (h : q_H Int32) (o k : Nat) : q_V Int32 := match h[o]? with
  | some q => l_sv q k
  | none => .inl 0
def l_rf (v : q_V Int32) : Nat := match v with
  | .inr (.inr n) => n
  | _ => 0
def l_s0 (h : q_H Int32) : y_H := (fun o k => q_in (l_hv h o k), fun o k => q_lg (l_hv h o k), fun o k => l_rf (l_hv h o k))
def l_inb (A : w_A) (v : q_V Int32) : Bool := match A, v with
  | .inl (J, _), .inl x => Nat.ble J.1 (q_pc x) && Nat.ble (q_pc x) J.2
  | .inr (.inl _), .inr (.inl _) => true
  | .inr (.inr l), .inr (.inr n) => l.contains n
  | _, _ => false
def l_ck1 (q : q_C Int32) (z : Nat × Nat × List w_A) : Bool := Nat.beq q.1 z.1 && (Nat.beq q.2.1 z.2.1 && l_rg (fun k => (match z.2.2[k % z.2.2.length]? with
  | some A => l_inb A (l_sv q k)
  | none => false) && (bif Nat.blt q.1 100 then (q_at q.2.2 k).isSome else true)) q.2.1)
def l_ck : q_H Int32 → w_Sh → Bool
  | [], [] => true
  | q :: h, z :: sh => l_ck1 q z && l_ck h sh
  | _, _ => false
theorem l_ck_at : ∀ {h : q_H Int32} {sh : w_Sh}, l_ck h sh = true → ∀ o : Nat, (h[o]? = none ∧ sh[o]? = none) ∨ ∃ q z, h[o]? = some q ∧ sh[o]? = some z ∧ l_ck1 q z = true
  | [], [], _, o => Or.inl ⟨rfl, rfl⟩
  | q :: h, z :: sh, hc, o => by
    unfold l_ck at hc
    rw [Bool.and_eq_true] at hc
    rcases o with _ | o
    · exact Or.inr ⟨q, z, rfl, rfl, hc.1⟩
    · rw [List.getElem?_cons_succ, List.getElem?_cons_succ]
      exact l_ck_at hc.2 o
  | [], _ :: _, hc, _ => by cases hc
  | _ :: _, [], hc, _ => by cases hc
/-- a slot: its value is told by the three functions -/
theorem l_mk {h : q_H Int32} (hc : l_ck h g_sh = true) {o k : Nat} {q : q_C Int32} (hq : h[o]? = some q) (hk : k < q.2.1) : y_mk g_sh (l_s0 h) o k = l_sv q k ∧ (∀ A, w_ty g_sh o k = some A → w_in [] (y_mk g_sh (l_s0 h)) A (l_sv q k)) ∧ (q.1 < 100 → q_at q.2.2 k = some (l_sv q k)) := by
  rcases l_ck_at hc o with ⟨h1, -⟩ | ⟨q2, z, h1, h2, h3⟩
  · rw [hq] at h1
    cases h1
  · rw [hq] at h1
    cases h1
    unfold l_ck1 at h3
    simp only [Bool.and_eq_true] at h3
    obtain ⟨c1, c2, c3⟩ := h3
    have c4 := l_rg_ok c3 hk
    rw [Bool.and_eq_true] at c4
    obtain ⟨c5, c6⟩ := c4
    have ehv : l_hv h o k = l_sv q k := by
      unfold l_hv
      rw [hq]
    cases hA : z.2.2[k % z.2.2.length]? with
    | none => rw [hA] at c5; cases c5
    | some A =>
      rw [hA] at c5
      have c5 : l_inb A (l_sv q k) = true := c5
      have hkd : y_kd g_sh o k = y_k1 (some A) := by
        unfold y_kd
        rw [h2]
        dsimp only
        rw [hA]
      have hty : w_ty g_sh o k = some (w_kz A) := by
        unfold w_ty
        rw [h2]
        dsimp only
        rw [show Nat.blt k z.2.1 = true by rw [Nat.blt_eq, ← q_beq c2]; exact hk, cond_true, hA]
        rfl
      refine ⟨?_, fun B hB => ?_, fun ht => ?_⟩
      · show y_v (y_kd g_sh o k) (l_s0 h) o k = _
        rw [hkd]
        rcases A with ⟨J, g⟩ | u | l
        · show Sum.inl (q_in (l_hv h o k)) = _
          rw [ehv]
          rcases hv : l_sv q k with x | y | m
          · rfl
          · rw [hv] at c5; cases c5
          · rw [hv] at c5; cases c5
        · show Sum.inr (Sum.inl (q_lg (l_hv h o k))) = _
          rw [ehv]
          rcases hv : l_sv q k with x | y | m
          · rw [hv] at c5; cases c5
          · rfl
          · rw [hv] at c5; cases c5
        · rcases hv : l_sv q k with x | y | m
          · rw [hv] at c5; cases c5
          · rw [hv] at c5; cases c5
          · rw [hv] at c5
            have hm : m ∈ l := by
              have h9 : l.contains m = true := c5
              simpa using h9
            rcases l with _ | ⟨a, _ | ⟨b, l⟩⟩
            · cases hm
            · have e : m = a := by simpa using hm
              subst e
              rfl
            · show Sum.inr (Sum.inr (l_rf (l_hv h o k))) = _
              rw [ehv, hv]
              rfl
      · rw [hty] at hB
        cases hB
        rcases A with ⟨J, g⟩ | u | l
        · rcases hv : l_sv q k with x | y | m
          · rw [hv] at c5
            have c7 : (Nat.ble J.1 (q_pc x) && Nat.ble (q_pc x) J.2) = true := c5
            rw [Bool.and_eq_true] at c7
            exact ⟨x, rfl, ⟨Nat.le_of_ble_eq_true c7.1, Nat.le_of_ble_eq_true c7.2⟩, Or.inl rfl⟩
          · rw [hv] at c5; cases c5
          · rw [hv] at c5; cases c5
        · rcases hv : l_sv q k with x | y | m
          · rw [hv] at c5; cases c5
          · exact ⟨y, rfl⟩
          · rw [hv] at c5; cases c5
        · rcases hv : l_sv q k with x | y | m
          · rw [hv] at c5; cases c5
          · rw [hv] at c5; cases c5
          · rw [hv] at c5
            have h9 : l.contains m = true := c5
            exact ⟨m, rfl, by simpa using h9⟩
      · rw [show Nat.blt q.1 100 = true by rw [Nat.blt_eq]; exact ht, cond_true] at c6
        obtain ⟨w, hw⟩ := Option.isSome_iff_exists.mp c6
        rw [hw]
        unfold l_sv
        rw [show Nat.blt q.1 100 = true by rw [Nat.blt_eq]; exact ht, cond_true, hw]
theorem l_rep {h : q_H Int32} (hc : l_ck h g_sh = true) : w_Rep g_sh h (y_mk g_sh (l_s0 h)) := by
  refine ⟨fun o => ?_, fun o q hq k hk => ?_⟩
  · rcases l_ck_at hc o with ⟨h1, h2⟩ | ⟨q, z, h1, h2, h3⟩
    · rw [h1, h2]
      rfl
    · rw [h1, h2]
      unfold l_ck1 at h3
      simp only [Bool.and_eq_true] at h3
      show some (q.1, q.2.1) = some (z.1, z.2.1)
      rw [q_beq h3.1, q_beq h3.2.1]
  · obtain ⟨m1, m2, m3⟩ := l_mk hc hq hk
    rw [m1]
    refine ⟨m3, fun h100 => ?_⟩
    unfold l_sv
    rw [show Nat.blt q.1 100 = false by
      cases hb : Nat.blt q.1 100 with
      | false => rfl
      | true => rw [Nat.blt_eq] at hb; omega, cond_false]
theorem l_T0 {h : q_H Int32} (hc : l_ck h g_sh = true) : w_T y_V0 g_sh (y_mk g_sh (l_s0 h)) := by
  refine ⟨fun o k A hA => ?_, True.intro⟩
  rcases l_ck_at hc o with ⟨h1, h2⟩ | ⟨q, z, h1, h2, h3⟩
  · unfold w_ty at hA
    rw [h2] at hA
    cases hA
  · have hk : k < q.2.1 := by
      unfold l_ck1 at h3
      simp only [Bool.and_eq_true] at h3
      have hA2 := hA
      unfold w_ty at hA2
      rw [h2] at hA2
      dsimp only at hA2
      cases hb : Nat.blt k z.2.1 with
      | false => rw [hb] at hA2; cases hA2
      | true =>
        rw [Nat.blt_eq] at hb
        rw [q_beq h3.2.1]
        exact hb
    obtain ⟨m1, m2, -⟩ := l_mk hc h1 hk
    rw [m1]
    exact m2 A hA
def l_is (h : q_H Int32) (o k : Nat) (v : Int32) : Bool := match l_hv h o k with
  | .inl x => decide (x = v)
  | _ => false
theorem l_is_ok {h : q_H Int32} {o k : Nat} {v : Int32} (hi : l_is h o k v = true) : (l_s0 h).1 o k = v := by
  unfold l_is at hi
  show q_in (l_hv h o k) = v
  split at hi
  next x hx =>
    rw [hx]
    exact of_decide_eq_true hi
  next => cases hi
def l_isr (h : q_H Int32) (o k n : Nat) : Bool := match l_hv h o k with
  | .inr (.inr m) => Nat.beq m n
  | _ => false
theorem l_isr_ok {h : q_H Int32} {o k n : Nat} (hi : l_isr h o k n = true) : (l_s0 h).2.2 o k = n := by
  unfold l_isr at hi
  show l_rf (l_hv h o k) = n
  split at hi
  next m hm =>
    rw [hm]
    exact q_beq hi
  next => cases hi
def l_zs : List (Nat × Nat) := [(65, 18), (65, 48), (65, 66), (65, 67), (104, 0), (104, 1), (104, 2), (33, 1), (33, 2), (33, 3), (3, 4), (3, 0), (3, 11), (3, 12), (11, 3), (11, 4), (65, 47), (65, 51), (65, 52), (65, 21), (65, 25), (55, 0), (55, 1), (65, 78), (65, 79), (1, 1), (65, 1), (85, 8), (85, 9), (85, 10), (85, 11), (85, 12), (85, 13), (85, 14), (85, 15), (0, 7)]
def l_ieq (h : q_H Int32) (o k o2 k2 : Nat) : Bool := match l_hv h o k, l_hv h o2 k2 with
  | .inl x, .inl y => decide (x = y)
  | _, _ => false
theorem l_ieq_ok {h : q_H Int32} {o k o2 k2 : Nat} (hi : l_ieq h o k o2 k2 = true) : (l_s0 h).1 o k = (l_s0 h).1 o2 k2 := by
  unfold l_ieq at hi
  show q_in (l_hv h o k) = q_in (l_hv h o2 k2)
  split at hi
  next x y hx hy =>
    rw [hx, hy]
    exact of_decide_eq_true hi
  next => cases hi
def l_fact (h : q_H Int32) : Bool := l_zs.all (fun q => l_is h q.1 q.2 0) && (l_is h 85 18 (-1) && (l_is h 85 19 (-1) && (l_is h 85 20 (-1) && (l_isr h 0 2 5 && (l_isr h 0 3 17 && (l_ieq h 27 8 65 2 && (l_ieq h 27 9 65 3 && (l_is h 3 9 11 && (l_is h 65 49 11 && (l_is h 3 10 1 && l_is h 65 50 1))))))))))
def l_st0 (h : q_H Int32) : Bool := l_rg (fun k => l_is h 85 k (bif Nat.ble 18 k && Nat.ble k 20 then Int32.ofInt (-1) else 0)) 28 && (l_rg (fun k => l_is h 29 k (Int32.ofNat k) && l_is h 30 k 0) 7 && (l_rg (fun k => l_is h 31 k (Int32.ofInt (-1)) && l_is h 32 k 0) 2 && ((l_is h 28 1 0 && (l_is h 28 3 0 && (l_is h 28 6 0 && (l_is h 28 7 0 && (l_is h 28 8 0 && l_is h 28 9 0))))) && l_rg (fun k => l_ieq h 34 k (y_so k).1 (y_so k).2) 24)))
theorem l_st0_ok {h : q_H Int32} (hs : l_st0 h = true) : (∀ k, k < 28 → (l_s0 h).1 85 k = lay 0 0 k) ∧ nB (l_s0 h).1 (zi 0) 0 ∧ ∀ k, k < 24 → (l_s0 h).1 34 k = nR (l_s0 h).1 k := by
  unfold l_st0 at hs
  simp only [Bool.and_eq_true] at hs
  obtain ⟨a1, a2, a3, ⟨b1, b2, b3, b4, b5, b6⟩, a5⟩ := hs
  refine ⟨fun k hk => ?_, ⟨⟨l_is_ok b1, l_is_ok b2, l_is_ok b3, l_is_ok b4, l_is_ok b5, l_is_ok b6⟩, fun k hk => ?_, fun k hk => ?_⟩, fun k hk => l_ieq_ok (l_rg_ok (f := fun k => l_ieq h 34 k (y_so k).1 (y_so k).2) a5 hk)⟩
  · rw [l_is_ok (l_rg_ok a1 hk)]
    unfold lay
    rw [if_neg (Nat.not_lt_zero k)]
    by_cases e8 : k = 8
    · rw [if_pos e8, e8]
      rfl
    · rw [if_neg e8]
      by_cases e18 : 18 ≤ k ∧ k < 21
      · rw [if_pos e18, show (Nat.ble 18 k && Nat.ble k 20) = true by rw [Bool.and_eq_true]; exact ⟨Nat.ble_eq_true_of_le e18.1, Nat.ble_eq_true_of_le (by omega)⟩, cond_true, u_k_eq]
      · rw [if_neg e18, show (Nat.ble 18 k && Nat.ble k 20) = false by
          cases q : (Nat.ble 18 k && Nat.ble k 20) with
          | false => rfl
          | true =>
            rw [Bool.and_eq_true] at q
            exact absurd ⟨Nat.le_of_ble_eq_true q.1, Nat.lt_succ_of_le (Nat.le_of_ble_eq_true q.2)⟩ e18, cond_false]
        by_cases e27 : k = 27
        · rw [if_pos e27]
        · rw [if_neg e27]
          rfl
  · have q := l_rg_ok a2 hk
    rw [Bool.and_eq_true] at q
    exact ⟨l_is_ok q.1, l_is_ok q.2⟩
  · have q := l_rg_ok a3 hk
    rw [Bool.and_eq_true] at q
    exact ⟨(l_is_ok q.1).trans (u_k_eq (-1)).symm, l_is_ok q.2⟩
def l_run0 : Option (q_S Int32) := q_iter q_O32 none g_ts 5000 100 g_tl 8 ((0, [(0, .inr (.inr 1))], []), [], 0)
def l_good (r : Option (q_S Int32)) : Bool := match r with
  | some ((pc, ls, st), h, ns) => Nat.beq pc 16 && (decide (ls = [(2, .inr (.inr 67)), (1, .inr (.inr 2)), (0, .inr (.inr 1))]) && (st.isEmpty && (Nat.ble ns 7302250 && (l_ck h g_sh && (l_fact h && l_st0 h)))))
  | none => false
set_option maxRecDepth 100000 in
theorem l_good0 : l_good l_run0 = true := by decide +kernel
theorem l_iter_scr {xs : List Int32} {n d : Nat} {t : q_T} : ∀ (i : Nat) (s r : q_S Int32), q_iter q_O32 none g_ts n d t i s = some r → q_iter q_O32 (some xs) g_ts n d t i s = some r := by
  intro i
  induction i with
  | zero => intro s r hs; exact hs
  | succ i ih =>
    intro s r hs
    unfold q_iter at hs ⊢
    split at hs
    next s1 hst =>
      have h2 : q_step q_O32 (some xs) (q_call q_O32 g_ts n d) t s.1 s.2.1 s.2.2 = some (.inl s1) := by
        unfold q_step at hst ⊢
        split at hst
        next q hq => exact l_scr hst
        next => cases hst
      rw [h2]
      exact ih s1 r hs
    next => cases hs
theorem l_V0 {h : q_H Int32} (hf : l_fact h = true) : y_V1 0 (l_s0 h).1 ∧ y_Td 0 (l_s0 h) ∧ y_Un (l_s0 h) ∧ jA (l_s0 h) := by
  unfold l_fact at hf
  simp only [Bool.and_eq_true] at hf
  obtain ⟨hz, f18, f19, f20, r2, r3, f8, f9, y1, y2, y3, y4⟩ := hf
  have z : ∀ o k, (o, k) ∈ l_zs → (l_s0 h).1 o k = 0 := by
    intro o k hm
    rw [List.all_eq_true] at hz
    exact l_is_ok (hz (o, k) hm)
  have e18 := l_is_ok f18
  have e19 := l_is_ok f19
  have e20 := l_is_ok f20
  have p2 := l_isr_ok r2
  have p3 := l_isr_ok r3
  have i8 := l_ieq_ok f8
  have i9 := l_ieq_ok f9
  have j1 := l_is_ok y1
  have j2 := l_is_ok y2
  have j3 := l_is_ok y3
  have j4 := l_is_ok y4
  generalize l_s0 h = s at z e18 e19 e20 p2 p3 i8 i9 j1 j2 j3 j4
  have zi : ∀ o k, (o, k) ∈ l_zs → (s.1 o k).toInt = 0 := fun o k hm => by rw [z o k hm]; rfl
  refine ⟨⟨⟨fun _ => 0, rfl, by rw [z 65 18 (by decide)]; decide, fun i hi => ?_⟩, ⟨?_, ?_, fun j hj hlt => ?_, fun b hb hne => ?_⟩, ⟨fun p hp => by omega, ?_, fun j hj p hp => by omega, fun b hb hbit p hp => by omega⟩⟩, Or.inl ⟨p2, zi 3 4 (by decide)⟩, Or.inl ⟨p2, p3⟩, ⟨⟨⟨0, Nat.zero_le _, z 1 1 (by decide), z 65 1 (by decide), fun k hk => absurd hk (Nat.not_lt_zero k)⟩, i8, i9⟩, ⟨0, 0, by rw [p2]; exact ⟨Nat.zero_le _, Nat.zero_le _, ⟨z 3 0 (by decide), z 65 47 (by decide), z 3 4 (by decide), z 65 48 (by decide)⟩, (fun k hk => absurd hk (Nat.not_lt_zero k)), (fun k hk => absurd hk (Nat.not_lt_zero k)), ⟨11, 1, 0, 0, ⟨by omega, by omega, j1, j2⟩, ⟨by omega, by omega, j3, j4⟩, ⟨by omega, z 3 11 (by decide), z 65 51 (by decide)⟩, by omega, z 3 12 (by decide), z 65 52 (by decide)⟩, [], 0, false, ⟨Nat.zero_le _, fun q => by cases q⟩, ⟨z 11 3 (by decide), z 11 4 (by decide), (fun k x hk => by cases hk)⟩, z 65 18 (by decide), z 65 21 (by decide), z 65 25 (by decide), (fun _ => rfl), (fun k x hk => by cases hk)⟩⟩, 0, 0, by omega, by omega, ⟨z 55 1 (by decide), z 65 78 (by decide), z 55 0 (by decide), z 65 79 (by decide)⟩, (fun j hj => absurd hj (Nat.not_lt_zero j))⟩⟩
  · rw [zi 65 18 (by decide)] at hi
    omega
  · refine ⟨fun p hp hm => ?_, ?_⟩
    · rw [zi 65 48 (by decide)] at hm
      omega
    · have c1 : y_cn (fun r => y_occ (s.1 85 (18 + r))) 3 = 0 := y_cn_0 3 (fun i hi => by
        rcases (show i = 0 ∨ i = 1 ∨ i = 2 by omega) with rfl | rfl | rfl
        · show y_occ (s.1 85 18) = 0
          rw [e18]
          rfl
        · show y_occ (s.1 85 19) = 0
          rw [e19]
          rfl
        · show y_occ (s.1 85 20) = 0
          rw [e20]
          rfl)
      have c2 : y_cn (fun p => y_x34 (s.1 85 (9 + p))) 7 = 0 := y_cn_0 7 (fun i hi => by
        have hm : (85, 9 + i) ∈ l_zs := by
          rcases (show i = 0 ∨ i = 1 ∨ i = 2 ∨ i = 3 ∨ i = 4 ∨ i = 5 ∨ i = 6 by omega) with rfl | rfl | rfl | rfl | rfl | rfl | rfl <;> decide
        show y_x34 (s.1 85 (9 + i)) = 0
        rw [z 85 (9 + i) hm]
        rfl)
      rw [zi 85 8 (by decide), c1, c2]
      decide
  · rw [zi 65 66 (by decide), zi 65 67 (by decide)]
    decide
  · rw [zi 65 66 (by decide), zi 65 67 (by decide)] at hlt
    omega
  · rcases (show b = 0 ∨ b = 1 ∨ b = 2 by omega) with rfl | rfl | rfl
    · exact absurd (zi 104 0 (by decide)) hne
    · exact absurd (zi 104 1 (by decide)) hne
    · exact absurd (zi 104 2 (by decide)) hne
  · rw [zi 33 1 (by decide), zi 33 2 (by decide), zi 33 3 (by decide)]
    decide
theorem l_S0 {h : q_H Int32} (hf : l_fact h = true) (hs : l_st0 h = true) : jS (l_s0 h) := by
  have hA := (l_V0 hf).2.2.2
  obtain ⟨t1, t2, t3⟩ := l_st0_ok hs
  unfold l_fact at hf
  simp only [Bool.and_eq_true] at hf
  obtain ⟨hz, f18, f19, f20, r2, r3, f8, f9, y1, y2, y3, y4⟩ := hf
  have z : ∀ o k, (o, k) ∈ l_zs → (l_s0 h).1 o k = 0 := by
    intro o k hm
    rw [List.all_eq_true] at hz
    exact l_is_ok (hz (o, k) hm)
  have hN : aR 0 1 (nR (l_s0 h).1) ((l_s0 h).1 85) := aR_new (by omega) t2 t1
  refine ⟨hA, 0, 1, by omega, by omega, z 65 48 (by decide), l_is_ok y4, hN, ⟨0, 0, 0, by omega, by omega, ⟨z 33 1 (by decide), z 33 2 (by decide), z 33 3 (by decide)⟩, ⟨z 65 66 (by decide), z 65 67 (by decide)⟩, fun i hi => ?_⟩, aB_new (z 0 7 (by decide)) (fun k hk => ?_)⟩
  · have hi : i = 0 := by omega
    subst hi
    refine aR_eq hN (by omega) (fun k hk => ?_) (fun k hk => mP_at)
    show (l_s0 h).1 34 (pN 0 0 + k) = nR (l_s0 h).1 k
    rw [show pN 0 0 + k = k from Nat.zero_add k]
    exact t3 k hk
  · rcases (show k = 0 ∨ k = 1 ∨ k = 2 by omega) with rfl | rfl | rfl
    · exact z 104 0 (by decide)
    · exact z 104 1 (by decide)
    · exact z 104 2 (by decide)
theorem l_iter_add {scr : Option (List Int32)} {n d : Nat} {t : q_T} : ∀ (i : Nat) (s s1 : q_S Int32), q_iter q_O32 scr g_ts n d t i s = some s1 → ∀ (j : Nat) (r : q_S Int32), q_iter q_O32 scr g_ts n d t j s1 = some r → q_iter q_O32 scr g_ts n d t (i + j) s = some r := by
  intro i
  induction i with
  | zero =>
    intro s s1 hs j r hr
    cases hs
    rw [Nat.zero_add]
    exact hr
  | succ i ih =>
    intro s s1 hs j r hr
    rw [show i + 1 + j = (i + j) + 1 by omega]
    unfold q_iter at hs ⊢
    split at hs
    next s2 hst =>
      exact ih s2 s1 hs j r hr
    next => cases hs
/-- the law's start, out of its loop -/
theorem l_start {xs : List Int32} (hw : ∀ s, LInv 0 s → jS s → l_W xs 16 [(2, .inr (.inr 67)), (1, .inr (.inr 2)), (0, .inr (.inr 1))] [] s) : ∃ (n i : Nat) (ls : q_U Int32) (h : q_H Int32) (ns : Nat), q_iter q_O32 (some xs) g_ts n 100 g_tl i ((0, [(0, .inr (.inr 1))], []), [], 0) = some ((1620, ls, [.inl 1]), h, ns) ∧ h.length ≤ 600000 ∧ ns ≤ 7302250 := by
  have hg := l_good0
  generalize hr : l_run0 = r at hg
  rcases r with _ | ⟨⟨pc, ls, st⟩, h, ns⟩
  · cases hg
  · have hg2 : (Nat.beq pc 16 && (decide (ls = [(2, .inr (.inr 67)), (1, .inr (.inr 2)), (0, .inr (.inr 1))]) && (st.isEmpty && (Nat.ble ns 7302250 && (l_ck h g_sh && (l_fact h && l_st0 h)))))) = true := hg
    simp only [Bool.and_eq_true] at hg2
    obtain ⟨c1, c2, c3, c4, c5, c6, c7⟩ := hg2
    have e1 := q_beq c1
    subst e1
    have e2 := of_decide_eq_true c2
    subst e2
    have e3 : st = [] := List.isEmpty_iff.mp c3
    subst e3
    obtain ⟨v1, v2, v3, v4⟩ := l_V0 c6
    have hR := l_rep c5
    obtain ⟨n, i, ls2, h2, hi, hl2⟩ := hw (l_s0 h) ⟨y_TV (l_T0 c5) v1, v2, v3⟩ (l_S0 c6 c7) h ns hR
    have hr2 : q_iter q_O32 none g_ts 5000 100 g_tl 8 ((0, [(0, .inr (.inr 1))], []), [], 0) = some ((16, [(2, .inr (.inr 67)), (1, .inr (.inr 2)), (0, .inr (.inr 1))], []), h, ns) := hr
    have a1 := q_iter_mono (Nat.le_max_left 5000 n) 8 _ _ (l_iter_scr (xs := xs) 8 _ _ hr2)
    have a2 := q_iter_mono (Nat.le_max_right 5000 n) i _ _ hi
    refine ⟨max 5000 n, 8 + i, ls2, h2, ns, l_iter_add 8 _ _ a1 i _ a2, ?_, Nat.le_of_ble_eq_true c4⟩
    rw [hl2, l_len hR]
    decide
