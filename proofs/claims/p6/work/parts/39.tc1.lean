/-! THE TEXT: small numbers, chars, runs of chars -/
abbrev zi (p : Nat) : Int32 := Int32.ofNat p
theorem zi_int {p : Nat} (h : p < 2147483648) : (zi p).toInt = (p : Int) := Int32.toInt_ofNat_of_lt h
theorem zi_lt {a b : Nat} (ha : a < 2147483648) (hb : b < 2147483648) : zi a < zi b ↔ a < b := by
  rw [Int32.lt_iff_toInt_lt, zi_int ha, zi_int hb]
  omega
theorem zi_inj {a b : Nat} (ha : a < 2147483648) (hb : b < 2147483648) : zi a = zi b ↔ a = b := by
  rw [← Int32.toInt_inj, zi_int ha, zi_int hb]
  omega
theorem zi_add (a b : Nat) : zi a + zi b = zi (a + b) := (Int32.ofNat_add a b).symm
theorem zi_of (n : Nat) : Int32.ofInt (n : Int) = zi n := rfl
theorem zi_one (a : Nat) : zi a + Int32.ofInt 1 = zi (a + 1) := zi_add a 1
theorem zi_nonneg {a : Nat} (ha : a < 2147483648) : ¬ zi a < 0 := by
  rw [Int32.lt_iff_toInt_lt, zi_int ha]
  show ¬ (a : Int) < 0
  omega
theorem zi_clamp {a : Nat} (ha : a < 2147483648) : (zi a).toNatClampNeg = a := by
  show (zi a).toInt.toNat = a
  rw [zi_int ha]
  rfl
theorem zi_sub {a b : Nat} (h : b ≤ a) : zi a - zi b = zi (a - b) := by
  have e : zi a = zi (a - b) + zi b := by rw [zi_add, Nat.sub_add_cancel h]
  rw [e]
  exact Int32.add_sub_cancel _ _
theorem u_kz (n : Nat) : u_k (n : Int) = zi n := u_k_eq n
theorem u_inz {p sz : Nat} (hp : p < 2147483648) : u_in (zi p) sz = true ↔ p < sz := by
  have e : q_ix (zi p) = some p := by
    unfold q_ix
    rw [if_neg (zi_nonneg hp), zi_clamp hp]
  unfold u_in
  rw [e]
  show Nat.blt p sz = true ↔ p < sz
  rw [Nat.blt_eq]
theorem u_inI {x : Int32} {sz : Nat} (h : u_in x sz = true) : ∃ j : Nat, j < sz ∧ x.toNatClampNeg = j ∧ x.toInt = (j : Int) := by
  unfold u_in at h
  split at h
  next j hj =>
    refine ⟨j, q_blt h, u_inj (sz := sz) hj, ?_⟩
    unfold q_ix at hj
    split at hj
    · cases hj
    · next h0 =>
      have e := Option.some.inj hj
      have h1 : ¬ x.toInt < 0 := fun q => h0 (Int32.lt_iff_toInt_lt.mpr q)
      have e2 : x.toInt.toNat = j := e
      omega
  next => cases h
/-! writes -/
theorem y_uE {α : Type} (f : Nat → Nat → α) (o k : Nat) (x : α) : y_u f o k x o k = x := if_pos ⟨rfl, rfl⟩
theorem y_uN {α : Type} {f : Nat → Nat → α} {o k o2 k2 : Nat} {x : α} (h : ¬ (o2 = o ∧ k2 = k)) : y_u f o k x o2 k2 = f o2 k2 := if_neg h
theorem y_uid {α : Type} {f : Nat → Nat → α} {o k : Nat} {x : α} (h : f o k = x) : y_u f o k x = f := by
  funext o2 k2
  by_cases e : o2 = o ∧ k2 = k
  · obtain ⟨rfl, rfl⟩ := e
    rw [y_uE, h]
  · exact y_uN e
theorem y_uu {α : Type} {f : Nat → Nat → α} {o k : Nat} {x y : α} : y_u (y_u f o k x) o k y = y_u f o k y := by
  funext o2 k2
  by_cases e : o2 = o ∧ k2 = k
  · obtain ⟨rfl, rfl⟩ := e
    rw [y_uE, y_uE]
  · rw [y_uN e, y_uN e, y_uN e]
theorem u_l1E {α : Type} (f : Nat → α) (i : Nat) (x : α) : u_l1 f i x i = x := if_pos rfl
theorem u_l1N {α : Type} {f : Nat → α} {i j : Nat} {x : α} (h : j ≠ i) : u_l1 f i x j = f j := if_neg h
/-! runs of chars -/
def t_bl (c : Int32) : Bool := decide (c = Int32.ofInt 32) || decide (c = Int32.ofInt 10)
def t_le (c : Int32) : Bool := !decide (c < Int32.ofInt 97) && !decide (Int32.ofInt 122 < c)
def t_di (c : Int32) : Bool := !decide (c < Int32.ofInt 48) && !decide (Int32.ofInt 57 < c)
def t_run (ok : Int32 → Bool) (ch : Nat → Int32) : Nat → Nat → Nat
  | 0, _ => 0
  | f + 1, p => bif ok (ch p) then t_run ok ch f (p + 1) + 1 else 0
def t_len (ok : Int32 → Bool) (ch : Nat → Int32) (n p : Nat) : Nat := t_run ok ch (n - p) p
/-- a text of n chars: behind it there is none -/
def tx_T (ch : Nat → Int32) (n : Nat) : Prop := n ≤ 1600 ∧ (∀ k, k < n → 0 ≤ (ch k).toInt ∧ (ch k).toInt ≤ 255) ∧ ∀ k, n ≤ k → ch k = u_k (-1)
theorem t_m1 : u_k (-1) = Int32.ofInt (-1) := u_k_eq _
theorem t_blN : t_bl (u_k (-1)) = false := by rw [t_m1]; decide
theorem t_leN : t_le (u_k (-1)) = false := by rw [t_m1]; decide
theorem t_diN : t_di (u_k (-1)) = false := by rw [t_m1]; decide
theorem t_run_lt {ok : Int32 → Bool} {ch : Nat → Int32} : ∀ (f p : Nat), t_run ok ch f p ≤ f
  | 0, _ => Nat.le_refl 0
  | f + 1, p => by
    have := t_run_lt (ok := ok) (ch := ch) f (p + 1)
    unfold t_run
    cases ok (ch p)
    · exact Nat.zero_le _
    · rw [cond_true]
      omega
section LEN
variable {ok : Int32 → Bool} {ch : Nat → Int32} {n p : Nat}
theorem t_len_le (hp : p ≤ n) : p + t_len ok ch n p ≤ n := by
  have := t_run_lt (ok := ok) (ch := ch) (n - p) p
  unfold t_len
  omega
theorem t_len_no (hT : tx_T ch n) (hN : ok (u_k (-1)) = false) (h : ok (ch p) = false) : t_len ok ch n p = 0 := by
  unfold t_len
  cases n - p with
  | zero => rfl
  | succ f =>
    unfold t_run
    rw [h]
    rfl
theorem t_len_yes (hT : tx_T ch n) (hN : ok (u_k (-1)) = false) (h : ok (ch p) = true) : p < n ∧ t_len ok ch n p = t_len ok ch n (p + 1) + 1 := by
  have hlt : p < n := by
    rcases Nat.lt_or_ge p n with q | q
    · exact q
    · rw [hT.2.2 p q, hN] at h
      cases h
  refine ⟨hlt, ?_⟩
  unfold t_len
  rw [show n - p = (n - (p + 1)) + 1 by omega]
  show (bif ok (ch p) then t_run ok ch (n - (p + 1)) (p + 1) + 1 else 0) = _
  rw [h, cond_true]
theorem t_len_end (hT : tx_T ch n) (hN : ok (u_k (-1)) = false) : ∀ (f p : Nat), n - p ≤ f → ok (ch (p + t_len ok ch n p)) = false := by
  intro f
  induction f with
  | zero =>
    intro p hf
    have e : t_len ok ch n p = 0 := by
      unfold t_len
      rw [show n - p = 0 by omega]
      rfl
    rw [e, Nat.add_zero, hT.2.2 p (by omega)]
    exact hN
  | succ f ih =>
    intro p hf
    cases h : ok (ch p) with
    | false => rw [t_len_no hT hN h, Nat.add_zero, h]
    | true =>
      obtain ⟨h1, h2⟩ := t_len_yes hT hN h
      rw [h2, show p + (t_len ok ch n (p + 1) + 1) = p + 1 + t_len ok ch n (p + 1) by omega]
      exact ih (p + 1) (by omega)
theorem t_len_in (hT : tx_T ch n) (hN : ok (u_k (-1)) = false) : ∀ (f p i : Nat), n - p ≤ f → i < t_len ok ch n p → ok (ch (p + i)) = true := by
  intro f
  induction f with
  | zero =>
    intro p i hf hi
    have e : t_len ok ch n p = 0 := by
      unfold t_len
      rw [show n - p = 0 by omega]
      rfl
    omega
  | succ f ih =>
    intro p i hf hi
    cases h : ok (ch p) with
    | false => rw [t_len_no hT hN h] at hi; omega
    | true =>
      obtain ⟨h1, h2⟩ := t_len_yes hT hN h
      rcases i with _ | i
      · exact h
      · rw [show p + (i + 1) = p + 1 + i by omega]
        exact ih (p + 1) i (by omega) (by omega)
end LEN
/-! the two texts -/
def tC (ch : Nat → Int32) (n : Nat) (s : u_H) : Prop := s.1 1 1 = zi n ∧ ∀ k, k < n → s.1 2 k &&& u_k 255 = ch k
def tM (ch : Nat → Int32) (n : Nat) (s : u_H) : Prop := s.1 65 5 = zi n ∧ ∀ k, k < n → s.1 66 k = ch k
section CH
variable {ch : Nat → Int32} {n : Nat} {s : u_H}
theorem c_byte (hT : tx_T ch n) (hC : tC ch n s) {p : Nat} (hp : p < 2147483648) : u_c 151 [.inr (.inr 3), .inl (zi p)] s = some (some (.inl (ch p)), s) := by
  have hn := hT.1
  rw [b_151, if_neg (zi_nonneg hp), hC.1]
  rcases Nat.lt_or_ge p n with q | q
  · rw [if_pos ((zi_lt hp (by omega)).mpr q), if_pos ((u_inz hp).mpr (by omega)), zi_clamp hp, hC.2 p q]
  · rw [if_neg (fun h => absurd ((zi_lt hp (by omega)).mp h) (by omega)), hT.2.2 p q]
theorem m_here (hT : tx_T ch n) (hM : tM ch n s) {a k : Nat} (ha : s.1 65 4 = zi a) (hp : a + k < 2147483648) : u_c 219 [.inr (.inr 67), .inl (zi k)] s = some (some (.inl (ch (a + k))), s) := by
  have hn := hT.1
  rw [b_219, ha, zi_add, hM.1]
  rcases Nat.lt_or_ge (a + k) n with q | q
  · rw [if_pos ((zi_lt hp (by omega)).mpr q), if_pos ((u_inz hp).mpr (by omega)), zi_clamp hp, hM.2 _ q]
  · rw [if_neg (fun h => absurd ((zi_lt hp (by omega)).mp h) (by omega)), hT.2.2 _ q]
end CH
abbrev zb (b : Bool) : Int32 := bif b then Int32.ofInt 1 else Int32.ofInt 0
theorem c_bl (c : Int32) (s : u_H) : u_c 108 [.inl c] s = some (some (.inl (zb (t_bl c))), s) := by
  rw [b_108]
  unfold t_bl
  by_cases h1 : c = Int32.ofInt 32
  · rw [if_pos h1, decide_eq_true h1]
    rfl
  · rw [if_neg h1, decide_eq_false h1]
    by_cases h2 : c = Int32.ofInt 10
    · rw [if_pos h2, decide_eq_true h2]
      rfl
    · rw [if_neg h2, decide_eq_false h2]
      rfl
theorem t_two {c a b : Int32} {s : u_H} : (if c < a then some (some (.inl (Int32.ofInt 0)), s) else if b < c then some (some (.inl (Int32.ofInt 0)), s) else some (some (.inl (Int32.ofInt 1)), s) : u_R) = some (some (.inl (zb (!decide (c < a) && !decide (b < c)))), s) := by
  by_cases h1 : c < a
  · rw [if_pos h1, decide_eq_true h1]
    rfl
  · rw [if_neg h1, decide_eq_false h1]
    by_cases h2 : b < c
    · rw [if_pos h2, decide_eq_true h2]
      rfl
    · rw [if_neg h2, decide_eq_false h2]
      rfl
theorem c_di (c : Int32) (s : u_H) : u_c 109 [.inl c] s = some (some (.inl (zb (t_di c))), s) := (b_109 c s).trans t_two
theorem c_le (c : Int32) (s : u_H) : u_c 110 [.inl c] s = some (some (.inl (zb (t_le c))), s) := (b_110 c s).trans t_two
theorem m_di (c : Int32) (s : u_H) : u_c 225 [.inl c] s = some (some (.inl (zb (t_di c))), s) := (b_225 c s).trans t_two
theorem m_le (c : Int32) (s : u_H) : u_c 231 [.inl c] s = some (some (.inl (zb (t_le c))), s) := (b_231 c s).trans t_two
theorem zb_no : zb false = 0 := rfl
theorem zb_yes : zb true ≠ 0 := by decide
theorem u_biS (x : Int32) (s : u_H) (f : Int32 → u_H → u_R) : u_bi (some (some (.inl x), s)) f = f x s := rfl
theorem u_bvS (s : u_H) (f : u_H → u_R) : u_bv (some (none, s)) f = f s := rfl
theorem u_blS (x : Int64) (s : u_H) (f : Int64 → u_H → u_R) : u_bl (some (some (.inr (.inl x)), s)) f = f x s := rfl
theorem u_boS {α β : Type} (x : α) (z : β) (f : α → β) : u_bo (some x) z f = f x := rfl
