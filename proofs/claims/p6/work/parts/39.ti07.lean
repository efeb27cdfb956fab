/-! HOW LONG A PAIR TAKES: alike on both sides -/
section LEN
variable {W : Nat}
theorem and1 (x : Int32) : x &&& Int32.ofInt 1 = 0 ∨ x &&& Int32.ofInt 1 = Int32.ofInt 1 := by
  have h := q_jand_ok (a := q_jall) (b := (2147483649, 2147483649)) (x := x) (y := Int32.ofInt 1) (q_jall_ok x) ⟨by decide, by decide⟩
  have e := q_pc_int (x &&& Int32.ofInt 1)
  have h1 : 2147483648 ≤ q_pc (x &&& Int32.ofInt 1) := h.1
  have h2 : q_pc (x &&& Int32.ofInt 1) ≤ 2147483649 := h.2
  rcases (show (x &&& Int32.ofInt 1).toInt = 0 ∨ (x &&& Int32.ofInt 1).toInt = 1 by omega) with q | q
  · exact Or.inl (Int32.toInt_inj.mp q)
  · exact Or.inr (Int32.toInt_inj.mp q)
/-- a bit that is not set -/
def bN (x : Int32) (v : Nat) : Prop := ((x >>> (zi v &&& 31)) &&& Int32.ofInt 1) = 0
theorem c_h0 {x : Int32} {v : Nat} (h : bN x v) (s : u_H) : u_c 28 [.inl x, .inl (zi v)] s = some (some (.inl (Int32.ofInt 0)), s) := by
  rw [b_28, if_pos (show ((x >>> (zi v &&& 31)) &&& Int32.ofInt 1) = 0 from h)]
theorem c_h1 {x : Int32} {v : Nat} (h : ¬ bN x v) (s : u_H) : u_c 28 [.inl x, .inl (zi v)] s = some (some (.inl (Int32.ofInt 1)), s) := by
  rw [b_28, if_neg (show ¬ ((x >>> (zi v &&& 31)) &&& Int32.ofInt 1) = 0 from h)]
theorem m_h0 {x : Int32} {v : Nat} (h : bN x v) (s : u_H) : u_c 216 [.inl x, .inl (zi v)] s = some (some (.inl (Int32.ofInt 0)), s) := by
  have e : ((x >>> (zi v &&& 31)) &&& Int32.ofInt 1) = 0 := h
  rw [b_216, if_neg (by rw [e]; decide)]
theorem m_h1 {x : Int32} {v : Nat} (h : ¬ bN x v) (s : u_H) : u_c 216 [.inl x, .inl (zi v)] s = some (some (.inl (Int32.ofInt 1)), s) := by
  rw [b_216, if_pos (by rcases and1 (x >>> (zi v &&& 31)) with q | q; exact absurd q h; exact q)]
theorem i_add0 (x : Int32) : x + Int32.ofInt 0 = x := Int32.add_zero x
/-- when a SHIP sails, on both sides -/
noncomputable def sLv (W : Nat) (g : Nat → Nat → Int32) (v : Nat) : Int32 := if ((g 28 6 >>> (zi v &&& 31)) &&& Int32.ofInt 1) = 0 then g W v else g W v + g (W + 1) v
theorem c_sail (hW : W = 5 ∨ W = 17) {v : Nat} (hv : v < 5) (s : u_H) : u_c 148 [.inr (.inr 30), .inr (.inr W), .inl (zi v)] s = some (some (.inl (sLv W s.1 v)), s) := by
  have hi : u_in (zi v) 5 = true := (u_inz (by omega)).mpr hv
  have hc : (zi v).toNatClampNeg = v := zi_clamp (by omega)
  unfold sLv
  by_cases q : bN (s.1 28 6) v
  · rw [b_148 hW, if_pos hi, b_142, c_h0 q, u_biS, if_pos (show q_ib (Int32.ofInt 0) = true by decide), u_biS, if_pos (show Int32.ofInt 0 = 0 by decide), hc, i_add0, if_pos (show ((s.1 28 6 >>> (zi v &&& 31)) &&& Int32.ofInt 1) = 0 from q)]
  · rw [b_148 hW, if_pos hi, b_142, c_h1 q, u_biS, if_pos (show q_ib (Int32.ofInt 1) = true by decide), u_biS, if_neg (show ¬ Int32.ofInt 1 = 0 by decide), if_pos hi, hc, if_neg (show ¬ ((s.1 28 6 >>> (zi v &&& 31)) &&& Int32.ofInt 1) = 0 from q)]
/-- the model's: nothing is thought of -/
noncomputable def sLm (g : Nat → Nat → Int32) (v : Nat) : Int32 := if ((g 86 24 >>> (zi v &&& 31)) &&& Int32.ofInt 1) = 0 then g 80 v else g 80 v + g 81 v
theorem m_sail {v : Nat} (hv : v < 5) {s : u_H} (hl : s.1 65 29 = u_k (-1)) : u_c 291 [.inr (.inr 67), .inl (zi v)] s = some (some (.inl (sLm s.1 v)), s) := by
  have hi : u_in (zi v) 5 = true := (u_inz (by omega)).mpr hv
  have hc : (zi v).toNatClampNeg = v := zi_clamp (by omega)
  have hn : ¬ zi v = u_k (-1) := zi_n0 (by omega)
  unfold sLm
  by_cases q : bN (s.1 86 24) v
  · rw [b_291, if_pos hi, m_h0 q, u_biS, if_pos (show Int32.ofInt 0 = 0 by decide), hl, if_neg hn, hc, i_add0, i_add0, if_pos (show ((s.1 86 24 >>> (zi v &&& 31)) &&& Int32.ofInt 1) = 0 from q)]
  · rw [b_291, if_pos hi, m_h1 q, u_biS, if_neg (show ¬ Int32.ofInt 1 = 0 by decide), if_pos hi, hl, if_neg hn, hc, i_add0, if_neg (show ¬ ((s.1 86 24 >>> (zi v &&& 31)) &&& Int32.ofInt 1) = 0 from q)]
/-- a minute's rest till a SHIP sails -/
theorem i_left {x : Int32} {t : Nat} (ht : t ≤ 999) (h : zi t < x) : Int32.ofInt 0 < x - zi t := by
  have h1 := Int32.lt_iff_toInt_lt.mp h
  rw [zi_int (by omega)] at h1
  have hx : x.toInt < 2147483648 := by
    have := Int32.toInt_lt x
    omega
  obtain ⟨n, hn⟩ : ∃ n : Nat, x.toInt = (n : Int) := ⟨x.toInt.toNat, by omega⟩
  have e : x = zi n := Int32.toInt_inj.mp (by rw [hn, zi_int (by omega)])
  rw [e, zi_sub (by omega)]
  exact (zi_lt (a := 0) (by omega) (by omega)).mpr (by omega)
/-- between one minute and sixty -/
theorem i_cut (v : Int32) : ∃ t, 1 ≤ t ∧ t ≤ 60 ∧ (if Int32.ofInt 1 < (if v < Int32.ofInt 60 then v else Int32.ofInt 60) then (if v < Int32.ofInt 60 then v else Int32.ofInt 60) else Int32.ofInt 1) = zi t ∧ ∀ s : u_H, u_c 323 [.inl v, .inl (Int32.ofInt 1), .inl (Int32.ofInt 60)] s = some (some (.inl (zi t)), s) := by
  have lt : ∀ (x y : Int32), x < y ↔ x.toInt < y.toInt := fun x y => Int32.lt_iff_toInt_lt
  by_cases a : v < Int32.ofInt 60
  · rw [if_pos a]
    have a1 := (lt _ _).mp a
    rw [show (Int32.ofInt 60).toInt = 60 by decide] at a1
    by_cases b : Int32.ofInt 1 < v
    · rw [if_pos b]
      have b1 := (lt _ _).mp b
      rw [show (Int32.ofInt 1).toInt = 1 by decide] at b1
      obtain ⟨n, hn⟩ : ∃ n : Nat, v.toInt = (n : Int) := ⟨v.toInt.toNat, by omega⟩
      have e : v = zi n := Int32.toInt_inj.mp (by rw [hn, zi_int (by omega)])
      refine ⟨n, by omega, by omega, e, fun s => ?_⟩
      rw [b_323, if_neg (fun q => by have := (lt _ _).mp q; rw [show (Int32.ofInt 1).toInt = 1 by decide] at this; omega), if_neg (fun q => by have := (lt _ _).mp q; rw [show (Int32.ofInt 60).toInt = 60 by decide] at this; omega), e]
    · rw [if_neg b]
      refine ⟨1, by omega, by omega, rfl, fun s => ?_⟩
      rw [b_323]
      by_cases g : v < Int32.ofInt 1
      · rw [if_pos g]
        rfl
      · have e : v = Int32.ofInt 1 := by
          have h1 : ¬ v.toInt < 1 := fun q => g ((lt _ _).mpr (by rw [show (Int32.ofInt 1).toInt = 1 by decide]; exact q))
          have h2 : ¬ 1 < v.toInt := fun q => b ((lt _ _).mpr (by rw [show (Int32.ofInt 1).toInt = 1 by decide]; exact q))
          exact Int32.toInt_inj.mp (by rw [show (Int32.ofInt 1).toInt = 1 by decide]; omega)
        rw [if_neg g, e, if_neg (show ¬ Int32.ofInt 60 < Int32.ofInt 1 by decide)]
        rfl
  · rw [if_neg a, if_pos (show Int32.ofInt 1 < Int32.ofInt 60 by decide)]
    have a1 : ¬ v.toInt < 60 := fun q => a ((lt _ _).mpr (by rw [show (Int32.ofInt 60).toInt = 60 by decide]; exact q))
    refine ⟨60, by omega, by omega, rfl, fun s => ?_⟩
    rw [b_323, if_neg (fun q => by have := (lt _ _).mp q; rw [show (Int32.ofInt 1).toInt = 1 by decide] at this; omega)]
    by_cases g : Int32.ofInt 60 < v
    · rw [if_pos g]
      rfl
    · have e : v = Int32.ofInt 60 := by
        have h2 : ¬ 60 < v.toInt := fun q => g ((lt _ _).mpr (by rw [show (Int32.ofInt 60).toInt = 60 by decide]; exact q))
        exact Int32.toInt_inj.mp (by rw [show (Int32.ofInt 60).toInt = 60 by decide]; omega)
      rw [if_neg g, e]
      rfl
/-- SHORT: half of it, on both sides -/
theorem i_half {t : Nat} (h1 : 1 ≤ t) (h2 : t ≤ 60) : ∃ t2, 1 ≤ t2 ∧ t2 ≤ 60 ∧ (if Int32.ofInt 1 < zi t / Int32.ofInt 2 then zi t / Int32.ofInt 2 else Int32.ofInt 1) = zi t2 ∧ ∀ s : u_H, u_c 214 [.inl (Int32.ofInt 1), .inl (zi t / Int32.ofInt 2)] s = some (some (.inl (zi t2)), s) := by
  have e : zi t / Int32.ofInt 2 = zi (t / 2) := zi_div (b := 2) (by omega) (by omega)
  rw [e]
  by_cases a : 1 < t / 2
  · refine ⟨t / 2, by omega, by omega, if_pos ((zi_lt (a := 1) (by omega) (by omega)).mpr a), fun s => ?_⟩
    rw [b_214, if_neg (fun q => by have := (zi_lt (b := 1) (by omega) (by omega)).mp q; omega)]
  · refine ⟨1, by omega, by omega, if_neg (fun q => a ((zi_lt (a := 1) (by omega) (by omega)).mp q)), fun s => ?_⟩
    rw [b_214]
    by_cases g : t / 2 < 1
    · rw [if_pos (show zi (t / 2) < Int32.ofInt 1 from (zi_lt (b := 1) (by omega) (by omega)).mpr g)]
      rfl
    · rw [if_neg (show ¬ zi (t / 2) < Int32.ofInt 1 from fun q => g ((zi_lt (b := 1) (by omega) (by omega)).mp q)), show t / 2 = 1 by omega]
end LEN
