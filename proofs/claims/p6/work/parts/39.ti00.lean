/-! ROWS OF THE STATE: kept and taken, on the class's side -/
section ROWS
theorem cpI {f : Nat → Nat → Int32} {d dp o sp n j : Nat} (h : j < n) : u_cp f d dp o sp n d (dp + j) = f o (sp + j) := by
  unfold u_cp
  rw [if_pos ⟨rfl, by omega, by omega⟩, show sp + (dp + j - dp) = sp + j by omega]
theorem cpN {f : Nat → Nat → Int32} {d dp o sp n o2 k2 : Nat} (h : ¬ (o2 = d ∧ dp ≤ k2 ∧ k2 < dp + n)) : u_cp f d dp o sp n o2 k2 = f o2 k2 := if_neg h
theorem u_fr.cp {P : Nat → Nat → Prop} {s : u_H} {f : Nat → Nat → Int32} {d dp o sp n : Nat} {r : (Nat → Nat → Int64) × u_K} (h : u_fr P s (f, r)) (hp : ∀ k, dp ≤ k → k < dp + n → P d k) : u_fr P s (u_cp f d dp o sp n, r) := ⟨fun o2 k2 h2 => ⟨(cpN (fun e => h2 (by rw [e.1]; exact hp k2 e.2.1 e.2.2))).trans (h.1 o2 k2 h2).1, (h.1 o2 k2 h2).2⟩, h.2⟩
theorem cpk_z {n dp sp so sd : Nat} (h1 : n < 4000) (h2 : dp < 4000) (h3 : sp < 4000) (h4 : sp + n ≤ so) (h5 : dp + n ≤ sd) : u_cpk (zi n) (zi dp) (zi sp) so sd = true := by
  have e : ∀ a, a < 4000 → q_ix (zi a) = some a := fun a ha => by
    unfold q_ix
    rw [if_neg (zi_nonneg (by omega)), zi_clamp (by omega)]
  unfold u_cpk
  rw [e n h1, e dp h2, e sp h3]
  show (Nat.ble (sp + n) so && Nat.ble (dp + n) sd) = true
  rw [q_ble_t h4, q_ble_t h5]
  rfl
/-- the class's row: its k-th slot -/
abbrev nR (g : Nat → Nat → Int32) (k : Nat) : Int32 := g (y_so k).1 (y_so k).2
/-- a row of rows, written out -/
def rW (g : Nat → Nat → Int32) (d p : Nat) : Nat → Nat → Int32 := y_u (y_u (y_u (y_u (y_u (y_u (u_cp (u_cp (u_cp (u_cp g d p 29 0 7) d (p + 7) 30 0 7) d (p + 14) 31 0 2) d (p + 16) 32 0 2) d (p + 18) (g 28 1)) d (p + 19) (g 28 3)) d (p + 20) (g 28 6)) d (p + 21) (g 28 7)) d (p + 22) (g 28 8)) d (p + 23) (g 28 9)
theorem rW_N {g : Nat → Nat → Int32} {d p o k : Nat} (h : ¬ (o = d ∧ p ≤ k ∧ k < p + 24)) : rW g d p o k = g o k := by
  unfold rW
  rw [y_uN (by omega), y_uN (by omega), y_uN (by omega), y_uN (by omega), y_uN (by omega), y_uN (by omega), cpN (by omega), cpN (by omega), cpN (by omega), cpN (by omega)]
theorem rW_I {g : Nat → Nat → Int32} {d p k : Nat} (hd : d = 34 ∨ d = 35) (hk : k < 24) : rW g d p d (p + k) = nR g k := by
  rcases (show k < 7 ∨ (7 ≤ k ∧ k < 14) ∨ (14 ≤ k ∧ k < 16) ∨ (16 ≤ k ∧ k < 18) ∨ k = 18 ∨ k = 19 ∨ k = 20 ∨ k = 21 ∨ k = 22 ∨ k = 23 by omega) with h | h | h | h | rfl | rfl | rfl | rfl | rfl | rfl
  · have e : nR g k = g 29 k := by
      have : ∀ j : Fin 7, y_so j.1 = (29, j.1) := by decide
      show g (y_so k).1 (y_so k).2 = _
      rw [this ⟨k, h⟩]
    rw [e]
    unfold rW
    rw [y_uN (by omega), y_uN (by omega), y_uN (by omega), y_uN (by omega), y_uN (by omega), y_uN (by omega), cpN (by omega), cpN (by omega), cpN (by omega), cpI h, Nat.zero_add]
  · obtain ⟨j, rfl⟩ : ∃ j, k = 7 + j := ⟨k - 7, by omega⟩
    have hj : j < 7 := by omega
    have e : nR g (7 + j) = g 30 j := by
      have : ∀ j : Fin 7, y_so (7 + j.1) = (30, j.1) := by decide
      show g (y_so (7 + j)).1 (y_so (7 + j)).2 = _
      rw [this ⟨j, hj⟩]
    rw [e, ← Nat.add_assoc]
    unfold rW
    rw [y_uN (by omega), y_uN (by omega), y_uN (by omega), y_uN (by omega), y_uN (by omega), y_uN (by omega), cpN (by omega), cpN (by omega), cpI hj, cpN (by omega), Nat.zero_add]
  · obtain ⟨j, rfl⟩ : ∃ j, k = 14 + j := ⟨k - 14, by omega⟩
    have hj : j < 2 := by omega
    have e : nR g (14 + j) = g 31 j := by
      have : ∀ j : Fin 2, y_so (14 + j.1) = (31, j.1) := by decide
      show g (y_so (14 + j)).1 (y_so (14 + j)).2 = _
      rw [this ⟨j, hj⟩]
    rw [e, ← Nat.add_assoc]
    unfold rW
    rw [y_uN (by omega), y_uN (by omega), y_uN (by omega), y_uN (by omega), y_uN (by omega), y_uN (by omega), cpN (by omega), cpI hj, cpN (by omega), cpN (by omega), Nat.zero_add]
  · obtain ⟨j, rfl⟩ : ∃ j, k = 16 + j := ⟨k - 16, by omega⟩
    have hj : j < 2 := by omega
    have e : nR g (16 + j) = g 32 j := by
      have : ∀ j : Fin 2, y_so (16 + j.1) = (32, j.1) := by decide
      show g (y_so (16 + j)).1 (y_so (16 + j)).2 = _
      rw [this ⟨j, hj⟩]
    rw [e, ← Nat.add_assoc]
    unfold rW
    rw [y_uN (by omega), y_uN (by omega), y_uN (by omega), y_uN (by omega), y_uN (by omega), y_uN (by omega), cpI hj, cpN (by omega), cpN (by omega), cpN (by omega), Nat.zero_add]
  · unfold rW
    rw [y_uN (by omega), y_uN (by omega), y_uN (by omega), y_uN (by omega), y_uN (by omega), y_uE]
    rfl
  · unfold rW
    rw [y_uN (by omega), y_uN (by omega), y_uN (by omega), y_uN (by omega), y_uE]
    rfl
  · unfold rW
    rw [y_uN (by omega), y_uN (by omega), y_uN (by omega), y_uE]
    rfl
  · unfold rW
    rw [y_uN (by omega), y_uN (by omega), y_uE]
    rfl
  · unfold rW
    rw [y_uN (by omega), y_uE]
    rfl
  · unfold rW
    rw [y_uE]
    rfl
theorem zO7 : Int32.ofInt 7 = zi 7 := rfl
theorem z2a : Int32.ofInt 2 = zi 2 := rfl
theorem z24 : Int32.ofInt 24 = zi 24 := rfl
/-- now.saveTo(rows, at) -/
theorem c_saveP {p : Nat} (hp : p + 24 ≤ 984) (s : u_H) : u_c 149 [.inr (.inr 30), .inr (.inr 36), .inl (zi p)] s = some (none, (rW s.1 34 p, s.2)) := by
  have c : ∀ a, a < 4000 → (zi a).toNatClampNeg = a := fun a h => zi_clamp (by omega)
  have i : ∀ a, a < 984 → u_in (zi a) 984 = true := fun a h => (u_inz (by omega)).mpr h
  rw [b_149p, if_neg (zi_nonneg (by omega)), z24, zi_add, if_neg (show ¬ Int32.ofNat 984 < zi (p + 24) from fun e => by have := (zi_lt (a := 984) (by omega) (by omega)).mp e; omega), zO7, show Int32.ofInt 0 = zi 0 from rfl, if_pos (cpk_z (by omega) (by omega) (by omega) (by omega) (by omega)), c p (by omega)]
  rw [b_149_28p, show (u_l1 (u_l1 u_z1 2 (zi p)) 3 (zi p)) 3 = zi p from u_l1E _ _ _, zO7, zi_add, show Int32.ofInt 0 = zi 0 from rfl, if_pos (cpk_z (by omega) (by omega) (by omega) (by omega) (by omega)), c (p + 7) (by omega)]
  rw [b_149_43p, u_l1E, zO7, z2a, zi_add, show Int32.ofInt 0 = zi 0 from rfl, if_pos (cpk_z (by omega) (by omega) (by omega) (by omega) (by omega)), c (p + 7 + 7) (by omega)]
  rw [b_149_57p, u_l1E, z2a, zi_add, show Int32.ofInt 0 = zi 0 from rfl, if_pos (cpk_z (by omega) (by omega) (by omega) (by omega) (by omega)), c (p + 7 + 7 + 2) (by omega)]
  rw [b_149_71p, u_l1E, z2a, zi_add, show Int32.ofInt 1 = zi 1 from rfl, show Int32.ofInt 3 = zi 3 from rfl, show Int32.ofInt 4 = zi 4 from rfl, show Int32.ofInt 5 = zi 5 from rfl, zi_add, zi_add, zi_add, zi_add, zi_add, if_pos (i _ (by omega)), if_pos (i _ (by omega)), if_pos (i _ (by omega)), if_pos (i _ (by omega)), if_pos (i _ (by omega)), if_pos (i _ (by omega)), c _ (by omega), c _ (by omega), c _ (by omega), c _ (by omega), c _ (by omega), c _ (by omega)]
  rfl
end ROWS
