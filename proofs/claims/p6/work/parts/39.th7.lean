/-! ODDS: both sides -/
section ODDS
theorem zi_div {a b : Nat} (ha : a < 2147483648) (hb : b < 2147483648) : zi a / zi b = zi (a / b) := (Int32.ofNat_div (by omega) (by omega)).symm
theorem zi_rem {a b : Nat} (ha : a < 2147483648) (hb : b < 2147483648) (h0 : 0 < b) : zi a - zi a / zi b * zi b = zi (a % b) := by
  have h1 := Nat.mod_lt a h0
  refine Int32.toInt_inj.mp ?_
  rw [zi_int (by omega)]
  exact q_rem_int (zi_int ha) (zi_int hb) h0
theorem zi_eq0 {a : Nat} (ha : a < 2147483648) : zi a = 0 ↔ a = 0 := zi_inj (b := 0) ha (by omega)
/-- Euclid's rests get half as great in two rounds -/
theorem c_gcd : ∀ (k i x y : Nat) (li : Nat → Int32) (ll : Nat → Int64) (s : u_H), x < 2147483648 → y < 2 ^ k → k ≤ 27 → i + 2 * k + 1 ≤ 64 → li 2 = zi x → li 3 = zi y → li 4 = zi i → u g_t11 7 (li, ll, []) [] s = some (some (.inl (zi (Nat.gcd x y))), s) := by
  have end0 : ∀ (i x : Nat) (li : Nat → Int32) (ll : Nat → Int64) (s : u_H), i < 64 → li 2 = zi x → li 3 = zi 0 → li 4 = zi i → u g_t11 7 (li, ll, []) [] s = some (some (.inl (zi (Nat.gcd x 0))), s) := by
    intro i x li ll s hi h2 h3 h4
    rw [b_11_7, h2, h3, h4, if_pos (show zi i < Int32.ofInt 64 from (zi_lt (b := 64) (by omega) (by omega)).mpr hi), if_pos (show zi 0 = 0 from rfl), Nat.gcd_zero_right]
  have step : ∀ (i x y : Nat) (li : Nat → Int32) (ll : Nat → Int64) (s : u_H), i < 64 → x < 2147483648 → y < 2147483648 → 0 < y → li 2 = zi x → li 3 = zi y → li 4 = zi i → ∃ li2 : Nat → Int32, u g_t11 7 (li, ll, []) [] s = u g_t11 7 (li2, ll, []) [] s ∧ li2 2 = zi y ∧ li2 3 = zi (x % y) ∧ li2 4 = zi (i + 1) := by
    intro i x y li ll s hi hx hy h0 h2 h3 h4
    have hn : ¬ zi y = 0 := fun e => by
      have := (zi_eq0 hy).mp e
      omega
    refine ⟨u_l1 (u_l1 (u_l1 (u_l1 li 5 (zi (x % y))) 2 (zi y)) 3 (zi (x % y))) 4 (zi (i + 1)), ?_, ?_, ?_, u_l1E _ _ _⟩
    · rw [b_11_7, h2, h3, h4, if_pos (show zi i < Int32.ofInt 64 from (zi_lt (b := 64) (by omega) (by omega)).mpr hi), if_neg hn, if_neg hn, zi_rem hx hy h0, zi_one]
    · exact (u_l1N (by omega)).trans ((u_l1N (by omega)).trans (u_l1E _ _ _))
    · exact (u_l1N (by omega)).trans (u_l1E _ _ _)
  intro k
  induction k with
  | zero =>
    intro i x y li ll s hx hy hk hi h2 h3 h4
    have e : y = 0 := by
      have : y < 1 := hy
      omega
    subst e
    exact end0 i x li ll s (by omega) h2 h3 h4
  | succ k ih =>
    intro i x y li ll s hx hy hk hi h2 h3 h4
    have hp : 2 ^ (k + 1) = 2 * 2 ^ k := by
      rw [Nat.pow_succ]
      omega
    have hp27 : 2 ^ k ≤ 2 ^ 26 := Nat.pow_le_pow_right (by omega) (by omega)
    have hp26 : (2 : Nat) ^ 26 = 67108864 := by decide
    by_cases q : y = 0
    · subst q
      exact end0 i x li ll s (by omega) h2 h3 h4
    · obtain ⟨l2, e1, g2, g3, g4⟩ := step i x y li ll s (by omega) hx (by omega) (by omega) h2 h3 h4
      have hr : x % y < y := Nat.mod_lt _ (by omega)
      have eg : Nat.gcd x y = Nat.gcd y (x % y) := by
        rw [Nat.gcd_comm x y, Nat.gcd_rec y x, Nat.gcd_comm]
      rw [e1, eg]
      by_cases q2 : x % y = 0
      · rw [q2] at g3 ⊢
        exact end0 (i + 1) y l2 ll s (by omega) g2 g3 g4
      · obtain ⟨l3, e2, k2, k3, k4⟩ := step (i + 1) y (x % y) l2 ll s (by omega) (by omega) (by omega) (by omega) g2 g3 g4
        have hr2 : y % (x % y) < x % y := Nat.mod_lt _ (by omega)
        have half : y % (x % y) < 2 ^ k := by
          rcases Nat.lt_or_ge (2 * (x % y)) (y + 1) with z | z
          · omega
          · have e3 : y % (x % y) = y - x % y := by
              rw [Nat.mod_eq_sub_mod (by omega), Nat.mod_eq_of_lt (by omega)]
            omega
        have eg2 : Nat.gcd y (x % y) = Nat.gcd (x % y) (y % (x % y)) := by
          rw [Nat.gcd_comm y (x % y), Nat.gcd_rec (x % y) y, Nat.gcd_comm]
        rw [e2, eg2]
        exact ih (i + 2) (x % y) (y % (x % y)) l3 ll s (by omega) half (by omega) (by omega) k2 k3 k4
/-- the model's, without a count -/
theorem m_gcd : ∀ (f x y : Nat) (li : Nat → Int32) (ll : Nat → Int64) (s : u_H), y ≤ f → x < 2147483648 → y < 2147483648 → li 2 = zi x → li 3 = zi y → u g_t194 22 (li, ll, []) [] s = some (some (.inl (zi (Nat.gcd x y))), s) := by
  intro f
  have end0 : ∀ (x : Nat) (li : Nat → Int32) (ll : Nat → Int64) (s : u_H), li 2 = zi x → li 3 = zi 0 → u g_t194 22 (li, ll, []) [] s = some (some (.inl (zi (Nat.gcd x 0))), s) := by
    intro x li ll s h2 h3
    rw [b_194_22, h2, h3, if_neg (show ¬ (0 : Int32) < zi 0 by decide), Nat.gcd_zero_right]
  induction f with
  | zero =>
    intro x y li ll s hf hx hy h2 h3
    have e : y = 0 := by omega
    subst e
    exact end0 x li ll s h2 h3
  | succ f ih =>
    intro x y li ll s hf hx hy h2 h3
    by_cases q : y = 0
    · subst q
      exact end0 x li ll s h2 h3
    · have hn : ¬ zi y = 0 := fun e => q ((zi_eq0 hy).mp e)
      have hp : (0 : Int32) < zi y := (zi_lt (a := 0) (by omega) hy).mpr (by omega)
      have hr : x % y < y := Nat.mod_lt _ (by omega)
      have eg : Nat.gcd x y = Nat.gcd y (x % y) := by
        rw [Nat.gcd_comm x y, Nat.gcd_rec y x, Nat.gcd_comm]
      rw [b_194_22, h2, h3, if_pos hp, if_neg hn, zi_rem hx hy (by omega), eg]
      exact ih y (x % y) (u_l1 (u_l1 (u_l1 li 4 (zi (x % y))) 2 (zi y)) 3 (zi (x % y))) ll s (by omega) hy (by omega) ((u_l1N (by omega)).trans (u_l1E _ _ _)) (u_l1E _ _ _)
theorem pw_le {q n : Nat} (hq : q ≤ 100) (hn : n ≤ 4) : q ^ n ≤ 100000000 := by
  have h1 : q ^ n ≤ 100 ^ n := Nat.pow_le_pow_left hq n
  have h2 : 100 ^ n ≤ 100 ^ 4 := Nat.pow_le_pow_right (by omega) hn
  have h3 : (100 : Nat) ^ 4 = 100000000 := by decide
  omega
theorem pw_pos (n : Nat) : 0 < 100 ^ n := Nat.pow_pos (by omega)
/-- what odds answers, of q quarrels in 100 -/
def oV (q : Nat) (p1 p2 v : Int32) : Prop := ((p1 < 0 ∨ Int32.ofInt 4 < p1 ∨ p2 < 0 ∨ Int32.ofInt 1 < p2) ∧ v = u_k (-1)) ∨ (¬ (p1 < 0 ∨ Int32.ofInt 4 < p1 ∨ p2 < 0 ∨ Int32.ofInt 1 < p2) ∧ ∃ n, n ≤ 4 ∧ p1 = zi n ∧ v = if p2 = 0 then zi ((100 - q) ^ n / Nat.gcd ((100 - q) ^ n) (100 ^ n)) else zi (100 ^ n / Nat.gcd ((100 - q) ^ n) (100 ^ n)))
theorem oV_eq {q : Nat} {p1 p2 v w : Int32} (h1 : oV q p1 p2 v) (h2 : oV q p1 p2 w) : v = w := by
  rcases h1 with ⟨a1, a2⟩ | ⟨a1, n, a2, a3, a4⟩
  · rcases h2 with ⟨b1, b2⟩ | ⟨b1, -⟩
    · rw [a2, b2]
    · exact absurd a1 b1
  · rcases h2 with ⟨b1, b2⟩ | ⟨b1, n2, b2, b3, b4⟩
    · exact absurd b1 a1
    · have e : n = n2 := (zi_inj (by omega) (by omega)).mp (a3.symm.trans b3)
      subst e
      rw [a4, b4]
theorem p4_n {p1 : Int32} (h1 : ¬ p1 < 0) (h2 : ¬ Int32.ofInt 4 < p1) : ∃ n, n ≤ 4 ∧ p1 = zi n := by
  have a1 : ¬ p1.toInt < 0 := fun z => h1 (Int32.lt_iff_toInt_lt.mpr z)
  have a2 : ¬ (4 : Int) < p1.toInt := fun z => h2 (Int32.lt_iff_toInt_lt.mpr z)
  refine ⟨p1.toInt.toNat, by omega, Int32.toInt_inj.mp ?_⟩
  rw [zi_int (by omega)]
  omega
theorem c_odds28 {T q : Nat} (hT : T = 5 ∨ T = 17) (hq : q ≤ 100) : ∀ (f i n : Nat) (li : Nat → Int32) (ll : Nat → Int64) (s : u_H), s.2.2.1 = T → s.1 (T - 2) 11 = zi q → n ≤ 4 → n - i ≤ f → i ≤ n → li 1 = zi n → li 3 = zi ((100 - q) ^ i) → li 4 = zi (100 ^ i) → li 5 = zi i → u g_t51 28 (li, ll, [(0, 2)]) [] s = u_bi (u_c 55 [.inl (zi ((100 - q) ^ n)), .inl (zi (100 ^ n)), .inl (li 2)] s) fun x2 s1 => some (some (.inl x2), s1) := by
  intro f
  have stop : ∀ (i n : Nat) (li : Nat → Int32) (ll : Nat → Int64) (s : u_H), i = n → n ≤ 4 → li 1 = zi n → li 3 = zi ((100 - q) ^ i) → li 4 = zi (100 ^ i) → li 5 = zi i → u g_t51 28 (li, ll, [(0, 2)]) [] s = u_bi (u_c 55 [.inl (zi ((100 - q) ^ n)), .inl (zi (100 ^ n)), .inl (li 2)] s) fun x2 s1 => some (some (.inl x2), s1) := by
    intro i n li ll s hi hn h1 h3 h4 h5
    rw [b_51_28 hT, h5, h1, if_neg (by rw [zi_lt (by omega) (by omega)]; omega), h3, h4, hi]
  induction f with
  | zero =>
    intro i n li ll s hs h11 hn hf hi h1 h3 h4 h5
    exact stop i n li ll s (by omega) hn h1 h3 h4 h5
  | succ f ih =>
    intro i n li ll s hs h11 hn hf hi h1 h3 h4 h5
    by_cases z : i < n
    · have e1 : (100 - q) ^ i * (100 - q) = (100 - q) ^ (i + 1) := (Nat.pow_succ ..).symm
      have e2 : 100 ^ i * 100 = 100 ^ (i + 1) := (Nat.pow_succ ..).symm
      have key := ih (i + 1) n (u_l1 (u_l1 (u_l1 li 3 (zi ((100 - q) ^ (i + 1)))) 4 (zi (100 ^ (i + 1)))) 5 (zi (i + 1))) ll s hs h11 hn (by omega) (by omega) ((u_l1N (by omega)).trans ((u_l1N (by omega)).trans ((u_l1N (by omega)).trans h1))) ((u_l1N (by omega)).trans ((u_l1N (by omega)).trans (u_l1E _ _ _))) ((u_l1N (by omega)).trans (u_l1E _ _ _)) (u_l1E _ _ _)
      have l2 : (u_l1 (u_l1 (u_l1 li 3 (zi ((100 - q) ^ (i + 1)))) 4 (zi (100 ^ (i + 1)))) 5 (zi (i + 1))) 2 = li 2 := (u_l1N (by omega)).trans ((u_l1N (by omega)).trans (u_l1N (by omega)))
      rw [l2] at key
      rw [b_51_28 hT, h5, h1, if_pos ((zi_lt (by omega) (by omega)).mpr z), if_pos hs, h3, h4, h11, show Int32.ofInt 100 = zi 100 from rfl, zi_sub hq, zi_mul, zi_mul, e1, e2, zi_one]
      exact key
    · exact stop i n li ll s (by omega) hn h1 h3 h4 h5
theorem c_part {x y : Nat} {p3 : Int32} {s : u_H} (hx : x ≤ 100000000) (hy : 0 < y) (hy2 : y ≤ 100000000) : u_c 55 [.inl (zi x), .inl (zi y), .inl p3] s = some (some (.inl (if p3 = 0 then zi (x / Nat.gcd x y) else zi (y / Nat.gcd x y))), s) := by
  have hg : 0 < Nat.gcd x y := Nat.gcd_pos_of_pos_right x hy
  have hg2 : Nat.gcd x y ≤ y := Nat.gcd_le_right x hy
  have e27 : (2 : Nat) ^ 27 = 134217728 := by decide
  have hne : ¬ zi (Nat.gcd x y) = 0 := fun e => by
    have := (zi_eq0 (by omega)).mp e
    omega
  have habs : (if 0 ≤ zi x then zi x else 0 - zi x) = zi x := if_pos (Int32.le_iff_toInt_le.mpr (by rw [zi_int (by omega)]; show (0 : Int) ≤ _; omega))
  have hL := c_gcd 27 0 x y (u_l1 (u_l1 (u_l1 (u_l1 (u_l1 u_z1 0 (zi x)) 1 (zi y)) 2 (zi x)) 3 (zi y)) 4 (Int32.ofInt 0)) u_z2 s (by omega) (by omega) (by omega) (by omega) ((u_l1N (by omega)).trans ((u_l1N (by omega)).trans (u_l1E _ _ _))) ((u_l1N (by omega)).trans (u_l1E _ _ _)) (u_l1E _ _ _)
  rw [b_55, habs, b_11, hL, u_biS, if_neg hne]
  by_cases q : p3 = 0
  · rw [if_pos q, if_pos q, if_neg hne, zi_div (by omega) (by omega)]
  · rw [if_neg q, if_neg q, if_neg hne, zi_div (by omega) (by omega)]
theorem c_odds {T q : Nat} (hT : T = 5 ∨ T = 17) (hq : q ≤ 100) {p1 p2 : Int32} {s : u_H} (hs : s.2.2.1 = T) (h11 : s.1 (T - 2) 11 = zi q) : ∃ v, u_c 51 [.inr (.inr 2), .inl p1, .inl p2] s = some (some (.inl v), s) ∧ oV q p1 p2 v := by
  rw [b_51]
  by_cases q1 : p1 < 0
  · rw [if_pos q1]
    exact ⟨_, rfl, Or.inl ⟨Or.inl q1, rfl⟩⟩
  by_cases q2 : Int32.ofInt 4 < p1
  · rw [if_neg q1, if_pos q2]
    exact ⟨_, rfl, Or.inl ⟨Or.inr (Or.inl q2), rfl⟩⟩
  by_cases q3 : p2 < 0
  · rw [if_neg q1, if_neg q2, if_pos q3]
    exact ⟨_, rfl, Or.inl ⟨Or.inr (Or.inr (Or.inl q3)), rfl⟩⟩
  by_cases q4 : Int32.ofInt 1 < p2
  · rw [if_neg q1, if_neg q2, if_neg q3, if_pos q4]
    exact ⟨_, rfl, Or.inl ⟨Or.inr (Or.inr (Or.inr q4)), rfl⟩⟩
  rw [if_neg q1, if_neg q2, if_neg q3, if_neg q4]
  obtain ⟨n, hn, rfl⟩ := p4_n q1 q2
  have a1 := pw_le (q := 100 - q) (n := n) (by omega) hn
  have a2 := pw_le (q := 100) (n := n) (by omega) hn
  have hL := c_odds28 hT hq 4 0 n (u_l1 (u_l1 (u_l1 (u_l1 (u_l1 u_z1 1 (zi n)) 2 p2) 3 (Int32.ofInt 1)) 4 (Int32.ofInt 1)) 5 (Int32.ofInt 0)) u_z2 s hs h11 hn (by omega) (Nat.zero_le _) ((u_l1N (by omega)).trans ((u_l1N (by omega)).trans ((u_l1N (by omega)).trans ((u_l1N (by omega)).trans (u_l1E _ _ _))))) ((u_l1N (by omega)).trans ((u_l1N (by omega)).trans (u_l1E _ _ _))) ((u_l1N (by omega)).trans (u_l1E _ _ _)) (u_l1E _ _ _)
  have l2 : (u_l1 (u_l1 (u_l1 (u_l1 (u_l1 u_z1 1 (zi n)) 2 p2) 3 (Int32.ofInt 1)) 4 (Int32.ofInt 1)) 5 (Int32.ofInt 0)) 2 = p2 := (u_l1N (by omega)).trans ((u_l1N (by omega)).trans ((u_l1N (by omega)).trans (u_l1E _ _ _)))
  rw [l2, c_part a1 (pw_pos n) a2, u_biS] at hL
  exact ⟨_, hL, Or.inr ⟨fun e => by rcases e with e | e | e | e; exact q1 e; exact q2 e; exact q3 e; exact q4 e, n, hn, rfl, rfl⟩⟩
theorem m_power : ∀ (f i b n : Nat) (li : Nat → Int32) (ll : Nat → Int64) (s : u_H), b ≤ 100 → n ≤ 4 → n - i ≤ f → i ≤ n → li 0 = zi b → li 1 = zi n → li 2 = zi (b ^ i) → li 3 = zi i → u g_t273 4 (li, ll, []) [] s = some (some (.inl (zi (b ^ n))), s) := by
  intro f
  have stop : ∀ (i b n : Nat) (li : Nat → Int32) (ll : Nat → Int64) (s : u_H), i = n → n ≤ 4 → li 1 = zi n → li 2 = zi (b ^ i) → li 3 = zi i → u g_t273 4 (li, ll, []) [] s = some (some (.inl (zi (b ^ n))), s) := by
    intro i b n li ll s hi hn h1 h2 h3
    rw [b_273_4, h3, h1, if_neg (by rw [zi_lt (by omega) (by omega)]; omega), h2, hi]
  induction f with
  | zero =>
    intro i b n li ll s hb hn hf hi h0 h1 h2 h3
    exact stop i b n li ll s (by omega) hn h1 h2 h3
  | succ f ih =>
    intro i b n li ll s hb hn hf hi h0 h1 h2 h3
    by_cases z : i < n
    · have e1 : b ^ i * b = b ^ (i + 1) := (Nat.pow_succ ..).symm
      rw [b_273_4, h3, h1, if_pos ((zi_lt (by omega) (by omega)).mpr z), h2, h0, zi_mul, e1, zi_one]
      exact ih (i + 1) b n (u_l1 (u_l1 li 2 (zi (b ^ (i + 1)))) 3 (zi (i + 1))) ll s hb hn (by omega) (by omega) ((u_l1N (by omega)).trans ((u_l1N (by omega)).trans h0)) ((u_l1N (by omega)).trans ((u_l1N (by omega)).trans h1)) ((u_l1N (by omega)).trans (u_l1E _ _ _)) (u_l1E _ _ _)
    · exact stop i b n li ll s (by omega) hn h1 h2 h3
theorem m_pow {b n : Nat} (hb : b ≤ 100) (hn : n ≤ 4) (s : u_H) : u_c 273 [.inl (zi b), .inl (zi n)] s = some (some (.inl (zi (b ^ n))), s) := by
  rw [b_273]
  exact m_power 4 0 b n (u_l1 (u_l1 (u_l1 (u_l1 u_z1 0 (zi b)) 1 (zi n)) 2 (Int32.ofInt 1)) 3 (Int32.ofInt 0)) u_z2 s hb hn (by omega) (Nat.zero_le _) ((u_l1N (by omega)).trans ((u_l1N (by omega)).trans ((u_l1N (by omega)).trans (u_l1E _ _ _)))) ((u_l1N (by omega)).trans ((u_l1N (by omega)).trans (u_l1E _ _ _))) ((u_l1N (by omega)).trans (u_l1E _ _ _)) (u_l1E _ _ _)
theorem m_div {x y : Nat} (hx : x < 2147483648) (hy : y < 2147483648) (s : u_H) : u_c 194 [.inl (zi x), .inl (zi y)] s = some (some (.inl (zi (Nat.gcd x y))), s) := by
  rw [b_194, if_neg (zi_nonneg hx), if_neg (zi_nonneg hy)]
  exact m_gcd y x y (u_l1 (u_l1 (u_l1 (u_l1 u_z1 0 (zi x)) 1 (zi y)) 2 (zi x)) 3 (zi y)) u_z2 s (Nat.le_refl _) hx hy ((u_l1N (by omega)).trans (u_l1E _ _ _)) (u_l1E _ _ _)
theorem m_odds {q : Nat} (hq : q ≤ 100) {p1 p2 : Int32} {s : u_H} (h51 : s.1 65 51 = zi q) : ∃ v, u_c 265 [.inr (.inr 67), .inl p1, .inl p2] s = some (some (.inl v), s) ∧ oV q p1 p2 v := by
  have z0 : Int32.ofInt 0 = (0 : Int32) := rfl
  rw [b_265, b_230, z0]
  by_cases q1 : p1 < 0
  · rw [if_pos q1, u_biS, if_pos rfl]
    exact ⟨_, rfl, Or.inl ⟨Or.inl q1, rfl⟩⟩
  by_cases q2 : Int32.ofInt 4 < p1
  · rw [if_neg q1, if_pos q2, u_biS, if_pos rfl]
    exact ⟨_, rfl, Or.inl ⟨Or.inr (Or.inl q2), rfl⟩⟩
  rw [if_neg q1, if_neg q2, u_biS, if_neg (show ¬ Int32.ofInt 1 = 0 by decide), b_230]
  by_cases q3 : p2 < 0
  · rw [if_pos q3, u_biS, if_pos z0]
    exact ⟨_, rfl, Or.inl ⟨Or.inr (Or.inr (Or.inl q3)), rfl⟩⟩
  by_cases q4 : Int32.ofInt 1 < p2
  · rw [if_neg q3, if_pos q4, u_biS, if_pos z0]
    exact ⟨_, rfl, Or.inl ⟨Or.inr (Or.inr (Or.inr q4)), rfl⟩⟩
  rw [if_neg q3, if_neg q4, u_biS, if_neg (show ¬ Int32.ofInt 1 = 0 by decide), h51]
  obtain ⟨n, hn, rfl⟩ := p4_n q1 q2
  have a1 := pw_le (q := 100 - q) (n := n) (by omega) hn
  have a2 := pw_le (q := 100) (n := n) (by omega) hn
  have hg : 0 < Nat.gcd ((100 - q) ^ n) (100 ^ n) := Nat.gcd_pos_of_pos_right _ (pw_pos n)
  have hg2 : Nat.gcd ((100 - q) ^ n) (100 ^ n) ≤ 100 ^ n := Nat.gcd_le_right _ (pw_pos n)
  have hne : ¬ zi (Nat.gcd ((100 - q) ^ n) (100 ^ n)) = 0 := fun e => by
    have := (zi_eq0 (by omega)).mp e
    omega
  rw [show Int32.ofInt 100 = zi 100 from rfl, zi_sub hq, m_pow (by omega) hn, u_biS, m_pow (by omega) hn, u_biS, m_div (by omega) (by omega), u_biS, Nat.gcd_comm]
  by_cases z : p2 = 0
  · rw [if_pos z, if_neg hne, zi_div (by omega) (by omega)]
    exact ⟨_, rfl, Or.inr ⟨fun e => by rcases e with e | e | e | e; exact q1 e; exact q2 e; exact q3 e; exact q4 e, n, hn, rfl, (if_pos z).symm⟩⟩
  · rw [if_neg z, if_neg hne, zi_div (by omega) (by omega)]
    exact ⟨_, rfl, Or.inr ⟨fun e => by rcases e with e | e | e | e; exact q1 e; exact q2 e; exact q3 e; exact q4 e, n, hn, rfl, (if_neg z).symm⟩⟩
end ODDS
