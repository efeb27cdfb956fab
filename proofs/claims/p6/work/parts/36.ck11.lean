/-! ranks -/
theorem w_tm_le {w B X lo hi : Nat} {up : Bool} (h1 : lo ≤ X) (h2 : X ≤ hi) : w * (bif up then B - X else X - B) ≤ w * (bif up then B - lo else hi - B) := by
  refine Nat.mul_le_mul (Nat.le_refl _) ?_
  cases up
  · show X - B ≤ hi - B
    omega
  · show B - X ≤ B - lo
    omega
theorem w_up_ar {w B X n c c2 u R R2 : Nat} (h : X + n ≤ B) (h2 : c2 + u < c + w * n) (h3 : R2 ≤ u) : c2 + (w * (B - (X + n)) + R2) < c + (w * (B - X) + R) := by
  have e : w * (B - X) = w * (B - (X + n)) + w * n := by
    rw [← Nat.mul_add]
    congr 1
    omega
  rw [e]
  omega
theorem w_dn_ar {w B X n c c2 u R R2 : Nat} (h : B + n ≤ X) (h2 : c2 + u < c + w * n) (h3 : R2 ≤ u) : c2 + (w * (X - n - B) + R2) < c + (w * (X - B) + R) := by
  have e : w * (X - B) = w * (X - n - B) + w * n := by
    rw [← Nat.mul_add]
    congr 1
    omega
  rw [e]
  omega
theorem w_inc_eq {ins : Jvm.ClassFile.Instr} {i : Nat} {n : Int} (h : w_inc ins = some (i, n)) : ins = .iinc i n := by
  unfold w_inc at h
  split at h
  · cases h
    rfl
  · cases h
theorem w_ub_ok {S : w_S} {ls : q_U Int32} {σ : w_G} {st : List (q_V Int32)} (ho : w_ok ls σ S st) : ∀ (T : List (Nat × Nat × Nat × Bool)) (u : Nat), w_ub S T = some u → w_tms ls T ≤ u
  | [], _, _ => Nat.zero_le _
  | t :: r, u, h => by
    unfold w_ub at h
    split at h
    next J g n hJ hn =>
      cases h
      have ih := w_ub_ok ho r n hn
      obtain ⟨v, e, x, rfl, hx, -⟩ := ho.1 _ (w_at_mem _ _ _ hJ)
      have e2 : q_at ls t.1 = some (.inl x) := e
      have hm : w_tm ls t ≤ t.2.1 * (bif t.2.2.2 then t.2.2.1 - J.1 else J.2 - t.2.2.1) := by
        unfold w_tm
        rw [e2]
        exact w_tm_le hx.1 hx.2
      show w_tm ls t + w_tms ls r ≤ _
      omega
    next => cases h
theorem w_teq_ok {t u : Nat × Nat × Nat × Bool} (h : w_teq t u = true) : t = u := by
  obtain ⟨a, b, c, d⟩ := t
  obtain ⟨a2, b2, c2, d2⟩ := u
  simp only [w_teq, Bool.and_eq_true, Nat.beq_eq, beq_iff_eq] at h
  obtain ⟨rfl, rfl, rfl, rfl⟩ := h
  rfl
theorem w_add_up {x : Int32} {n : Int} (h0 : 0 ≤ n) (h1 : n ≤ 32767) (h2 : q_pc x + n.toNat < 4294967296) : q_pc (x + Int32.ofInt n) = q_pc x + n.toNat := by
  have ex := q_pc_int x
  have en := w_ofInt (n := n) (by omega) (by omega)
  have e : (x + Int32.ofInt n).toInt = x.toInt + n := by
    rw [Int32.toInt_add, en]
    apply Int.bmod_eq_of_le <;> omega
  have ez := q_pc_of e
  omega
theorem w_add_dn {x : Int32} {n : Int} (h0 : n ≤ 0) (h1 : -32768 ≤ n) (h2 : (-n).toNat ≤ q_pc x) : q_pc (x + Int32.ofInt n) = q_pc x - (-n).toNat := by
  have ex := q_pc_int x
  have hx := q_pc_lt x
  have en := w_ofInt (n := n) (by omega) (by omega)
  have e : (x + Int32.ofInt n).toInt = x.toInt + n := by
    rw [Int32.toInt_add, en]
    apply Int.bmod_eq_of_le <;> omega
  have ez := q_pc_of e
  omega
theorem w_lsr_keep {ins : Jvm.ClassFile.Instr} {ls ls2 : q_U Int32} {i : Nat} {x : Int32} (hl : w_lsr ins ls ls2) (hs : w_stp ins i = false) (hx : q_at ls i = some (.inl x)) : q_at ls2 i = some (.inl x) := by
  unfold w_lsr at hl
  unfold w_stp at hs
  cases hk : w_sto ins with
  | none =>
    rw [hk] at hl
    have hl2 : ls2 = ls := hl
    rw [hl2]
    exact hx
  | some kl =>
    obtain ⟨k, lg⟩ := kl
    rw [hk] at hl hs
    obtain ⟨v, hkept, hlg, -⟩ := hl
    simp only [Bool.or_eq_false_iff] at hs
    have h1 := Nat.ne_of_beq_eq_false hs.1
    refine hkept.2.1 i _ hx h1 (fun hc => by cases hc) (fun hc => ?_)
    cases lg with
    | false =>
      have := hlg rfl
      omega
    | true => exact Nat.ne_of_beq_eq_false hs.2
set_option maxHeartbeats 1000000 in
theorem w_dec_ok {ins : Jvm.ClassFile.Instr} {S S2 : w_S} {c c2 : Nat} {ls ls2 : q_U Int32} {σ σ2 : w_G} {st st2 : List (q_V Int32)} (ho : w_ok ls σ S st) (ho2 : w_ok ls2 σ2 S2 st2) (hl : w_lsr ins ls ls2) : ∀ (T T2 : List (Nat × Nat × Nat × Bool)), w_dec ins S S2 c c2 T T2 = true → c2 + w_tms ls2 T2 < c + w_tms ls T
  | [], T2, h => by
    unfold w_dec at h
    split at h
    next u hu =>
      have := w_ub_ok ho2 T2 u hu
      have := q_blt h
      show _ < c + 0
      omega
    next => cases h
  | t :: r, [], h => by
    have h2 : Nat.blt (c2 + 0) c = true := h
    have := q_blt h2
    show c2 + 0 < c + (w_tm ls t + w_tms ls r)
    omega
  | t :: r, t2 :: r2, h => by
    unfold w_dec at h
    cases hq : w_teq t t2 with
    | false =>
      rw [hq, cond_false] at h
      split at h
      next u hu =>
        have h1 := w_ub_ok ho2 _ u hu
        have h2 := q_blt h
        show _ < c + (w_tm ls t + w_tms ls r)
        omega
      next => cases h
    | true =>
      have e := w_teq_ok hq
      subst e
      rw [hq, cond_true] at h
      have hkeep : ∀ x, q_at ls t.1 = some (.inl x) → w_stp ins t.1 = false → w_dec ins S S2 c c2 r r2 = true → c2 + w_tms ls2 (t :: r2) < c + w_tms ls (t :: r) := by
        intro x hx hs hd
        have ih := w_dec_ok ho ho2 hl r r2 hd
        have hx2 := w_lsr_keep hl hs hx
        have et : w_tm ls2 t = w_tm ls t := by
          unfold w_tm
          rw [hx, hx2]
        show c2 + (w_tm ls2 t + w_tms ls2 r2) < c + (w_tm ls t + w_tms ls r)
        omega
      split at h
      next i n J g hinc0 hJ =>
        obtain ⟨v, ev, x, rfl, hx, -⟩ := ho.1 _ (w_at_mem _ _ _ hJ)
        have hx0 : q_at ls t.1 = some (.inl x) := ev
        cases hi : Nat.beq i t.1 with
        | false =>
          rw [hi, cond_false] at h
          cases hs : w_stp ins t.1 with
          | true => rw [hs] at h; cases h
          | false =>
            rw [hs, cond_false] at h
            exact hkeep x hx0 hs h
        | true =>
          rw [hi, cond_true] at h
          have ei := q_beq hi
          have eins := w_inc_eq hinc0
          have hl2 := hl
          rw [eins] at hl2
          obtain ⟨w, hkept, -, hinc⟩ : ∃ v, w_kept i v ls ls2 ∧ (false = false → q_cat v = 1) ∧ ∀ m n2, (Jvm.ClassFile.Instr.iinc i n) = .iinc m n2 → ∃ x : Int32, q_at ls m = some (.inl x) ∧ v = .inl (x + Int32.ofInt n2) := hl2
          obtain ⟨x2, hx2, rfl⟩ := hinc i n rfl
          rw [ei, hx0] at hx2
          cases hx2
          have hnew : q_at ls2 t.1 = some (.inl (x + Int32.ofInt n)) := by
            rw [← ei]
            exact hkept.1
          have hx1 := hx.1
          have hx3 := hx.2
          split at h
          next u hu =>
            have h1 := w_ub_ok ho2 r2 u hu
            show c2 + (w_tm ls2 t + w_tms ls2 r2) < c + (w_tm ls t + w_tms ls r)
            unfold w_tm
            rw [hnew, hx0]
            dsimp only
            cases hup : t.2.2.2 with
            | true =>
              rw [hup, cond_true] at h
              rw [cond_true, cond_true]
              simp only [Bool.and_eq_true, decide_eq_true_eq, Nat.ble_eq, Nat.blt_eq] at h
              obtain ⟨a1, a2, a3, a4, a5⟩ := h
              rw [w_add_up a1 a2 (by omega)]
              exact w_up_ar (by omega) a5 h1
            | false =>
              rw [hup, cond_false] at h
              rw [cond_false, cond_false]
              simp only [Bool.and_eq_true, decide_eq_true_eq, Nat.ble_eq, Nat.blt_eq] at h
              obtain ⟨a1, a2, a3, a4, a5⟩ := h
              rw [w_add_dn a1 a2 (by omega)]
              exact w_dn_ar (by omega) a5 h1
          next => cases h
      next a hn hJ =>
        obtain ⟨v, ev, x, rfl, hx, -⟩ := ho.1 _ (w_at_mem _ _ _ hJ)
        cases hs : w_stp ins t.1 with
        | true => rw [hs] at h; cases h
        | false =>
          rw [hs, cond_false] at h
          exact hkeep x ev hs h
      next => cases h
