/-! TOKENS: a token told by its start, its kind (the class's numbers), its number, where the next begins -/
def tx_d (ch : Nat → Int32) (k : Nat) : Nat := (ch k).toInt.toNat
def tx_num (ch : Nat → Int32) (q : Nat) : Nat → Nat
  | 0 => 0
  | m + 1 => tx_num ch q m * 10 + (tx_d ch (q + m) - 48)
def tx_let (ch : Nat → Int32) (q : Nat) : Nat → List Nat
  | 0 => []
  | m + 1 => tx_let ch q m ++ [tx_d ch (q + m) - 96]
def tx_nN (l : List Nat) : Nat := l.foldl (fun a d => a * 32 + d) 0
def tx_nW (l : List Nat) : Nat := l.foldl (fun a d => a * 256 + (d + 96)) 0
def tx_words : List (List Nat) := [[19, 8, 9, 16], [16, 1, 9, 18], [18, 1, 9, 12, 19], [12, 1, 19, 20, 19], [17, 21, 1, 18, 18, 5, 12, 19], [4, 18, 1, 23], [3, 21, 19, 20, 15, 13], [14, 5, 5, 4, 19], [12, 15, 22, 5], [2, 5, 8, 9, 14, 4], [12, 5, 6, 20], [13, 9, 14, 21, 20, 5], [19, 1, 9, 12, 19], [23, 1, 9, 20, 19], [15, 18], [1, 14, 4], [14, 15, 20]]
def tx_kw (l : List Nat) : Nat := tx_words.idxOf l
def tx_sg (c : Int32) : Bool := decide (c = Int32.ofInt 59) || (decide (c = Int32.ofInt 40) || (decide (c = Int32.ofInt 41) || (decide (c = Int32.ofInt 60) || (decide (c = Int32.ofInt 62) || (decide (c = Int32.ofInt 61) || (decide (c = Int32.ofInt 43) || (decide (c = Int32.ofInt 45) || (decide (c = Int32.ofInt 42) || (decide (c = Int32.ofInt 47) || decide (c = Int32.ofInt 37))))))))))
def tx_q (ch : Nat → Int32) (n p : Nat) : Nat := p + t_len t_bl ch n p
/-- the token at a place where no blank is -/
def tx_at (ch : Nat → Int32) (n q : Nat) : f_T := if n ≤ q then (q, 275, 0, q) else if t_le (ch q) = true then (if 8 < t_len t_le ch n q then (q, 276, 0, q) else (q, 256 + tx_kw (tx_let ch q (t_len t_le ch n q)), 0, q + t_len t_le ch n q)) else if t_di (ch q) = true then (if 4 < t_len t_di ch n q ∨ t_le (ch (q + t_len t_di ch n q)) = true then (q, 276, 0, q) else (q, 274, tx_num ch q (t_len t_di ch n q), q + t_len t_di ch n q)) else if tx_sg (ch q) = true then (q, tx_d ch q, 0, q + 1) else (q, 276, 0, q)
def tx_tk (ch : Nat → Int32) (n p : Nat) : f_T := tx_at ch n (tx_q ch n p)
/-- the model's sort of a kind -/
def tx_so (k : Nat) : Int32 := if k = 275 then Int32.ofInt 0 else if k = 274 then Int32.ofInt 2 else if k = 276 then Int32.ofInt 3 else if 256 ≤ k then Int32.ofInt 1 else zi k
/-- nothing but P's slots is written -/
def u_fr (P : Nat → Nat → Prop) (s s2 : u_H) : Prop := (∀ o k, ¬ P o k → s2.1 o k = s.1 o k ∧ s2.2.1 o k = s.2.1 o k) ∧ s2.2.2 = s.2.2
theorem u_fr.rf {P : Nat → Nat → Prop} {s : u_H} : u_fr P s s := ⟨fun _ _ _ => ⟨rfl, rfl⟩, rfl⟩
theorem u_fr.tr {P : Nat → Nat → Prop} {s s2 s3 : u_H} (h : u_fr P s s2) (h2 : u_fr P s2 s3) : u_fr P s s3 := ⟨fun o k hp => ⟨((h2.1 o k hp).1).trans (h.1 o k hp).1, ((h2.1 o k hp).2).trans (h.1 o k hp).2⟩, h2.2.trans h.2⟩
theorem u_fr.mono {P Q : Nat → Nat → Prop} {s s2 : u_H} (h : u_fr P s s2) (hPQ : ∀ o k, P o k → Q o k) : u_fr Q s s2 := ⟨fun o k hq => h.1 o k (fun q => hq (hPQ o k q)), h.2⟩
theorem u_fr.wi {P : Nat → Nat → Prop} {s : u_H} {f : Nat → Nat → Int32} {o k : Nat} {x : Int32} {r : (Nat → Nat → Int64) × u_K} (h : u_fr P s (f, r)) (hp : P o k) : u_fr P s (y_u f o k x, r) := ⟨fun o2 k2 h2 => ⟨(y_uN (fun e => h2 (by rw [e.1, e.2]; exact hp))).trans (h.1 o2 k2 h2).1, (h.1 o2 k2 h2).2⟩, h.2⟩
theorem u_fr.wl {P : Nat → Nat → Prop} {s : u_H} {f : Nat → Nat → Int32} {g : Nat → Nat → Int64} {o k : Nat} {x : Int64} {r : u_K} (h : u_fr P s (f, g, r)) (hp : P o k) : u_fr P s (f, y_u g o k x, r) := ⟨fun o2 k2 h2 => ⟨(h.1 o2 k2 h2).1, (y_uN (fun e => h2 (by rw [e.1, e.2]; exact hp))).trans (h.1 o2 k2 h2).2⟩, h.2⟩
theorem u_fr.i {P : Nat → Nat → Prop} {s s2 : u_H} (h : u_fr P s s2) {o k : Nat} (hp : ¬ P o k) : s2.1 o k = s.1 o k := (h.1 o k hp).1
theorem u_fr.l {P : Nat → Nat → Prop} {s s2 : u_H} (h : u_fr P s s2) {o k : Nat} (hp : ¬ P o k) : s2.2.1 o k = s.2.1 o k := (h.1 o k hp).2
theorem tM_fr {P : Nat → Nat → Prop} {ch : Nat → Int32} {n : Nat} {s s2 : u_H} (hM : tM ch n s) (h : u_fr P s s2) (h1 : ¬ P 65 5) (h2 : ∀ k, ¬ P 66 k) : tM ch n s2 := ⟨(h.i h1).trans hM.1, fun k hk => (h.i (h2 k)).trans (hM.2 k hk)⟩
theorem tC_fr {P : Nat → Nat → Prop} {ch : Nat → Int32} {n : Nat} {s s2 : u_H} (hM : tC ch n s) (h : u_fr P s s2) (h1 : ¬ P 1 1) (h2 : ∀ k, ¬ P 2 k) : tC ch n s2 := ⟨(h.i h1).trans hM.1, fun k hk => by rw [h.i (h2 k)]; exact hM.2 k hk⟩
/-! chars as numbers -/
section NUM
variable {ch : Nat → Int32} {n : Nat}
theorem tx_lt (hT : tx_T ch n) {k : Nat} (h : ch k ≠ u_k (-1)) : k < n := by
  rcases Nat.lt_or_ge k n with q | q
  · exact q
  · exact absurd (hT.2.2 k q) h
theorem tx_dz (hT : tx_T ch n) {k : Nat} (h : k < n) : ch k = zi (tx_d ch k) ∧ tx_d ch k ≤ 255 := by
  obtain ⟨h1, h2⟩ := hT.2.1 k h
  have e : (tx_d ch k : Int) = (ch k).toInt := by
    show (((ch k).toInt.toNat : Nat) : Int) = _
    omega
  refine ⟨?_, by omega⟩
  rw [← Int32.toInt_inj, zi_int (by omega), e]
theorem t_leI {c : Int32} (h : t_le c = true) : 97 ≤ c.toInt ∧ c.toInt ≤ 122 := by
  unfold t_le at h
  simp only [Bool.and_eq_true, Bool.not_eq_true', decide_eq_false_iff_not] at h
  rw [Int32.lt_iff_toInt_lt, Int32.lt_iff_toInt_lt] at h
  have e1 : (Int32.ofInt 97).toInt = 97 := by decide
  have e2 : (Int32.ofInt 122).toInt = 122 := by decide
  omega
theorem t_diI {c : Int32} (h : t_di c = true) : 48 ≤ c.toInt ∧ c.toInt ≤ 57 := by
  unfold t_di at h
  simp only [Bool.and_eq_true, Bool.not_eq_true', decide_eq_false_iff_not] at h
  rw [Int32.lt_iff_toInt_lt, Int32.lt_iff_toInt_lt] at h
  have e1 : (Int32.ofInt 48).toInt = 48 := by decide
  have e2 : (Int32.ofInt 57).toInt = 57 := by decide
  omega
theorem tx_leD {k : Nat} (h : t_le (ch k) = true) : 97 ≤ tx_d ch k ∧ tx_d ch k ≤ 122 := by
  have := t_leI h
  show 97 ≤ (ch k).toInt.toNat ∧ (ch k).toInt.toNat ≤ 122
  omega
theorem tx_diD {k : Nat} (h : t_di (ch k) = true) : 48 ≤ tx_d ch k ∧ tx_d ch k ≤ 57 := by
  have := t_diI h
  show 48 ≤ (ch k).toInt.toNat ∧ (ch k).toInt.toNat ≤ 57
  omega
end NUM
theorem zi_mul (a b : Nat) : zi a * zi b = zi (a * b) := (Int32.ofNat_mul a b).symm
abbrev zl (p : Nat) : Int64 := Int64.ofNat p
theorem zl_add (a b : Nat) : zl a + zl b = zl (a + b) := (Int64.ofNat_add a b).symm
theorem zl_mul (a b : Nat) : zl a * zl b = zl (a * b) := (Int64.ofNat_mul a b).symm
theorem zl_inj {a b : Nat} (ha : a < 9223372036854775808) (hb : b < 9223372036854775808) : zl a = zl b ↔ a = b := by
  rw [← Int64.toInt_inj, Int64.toInt_ofNat_of_lt ha, Int64.toInt_ofNat_of_lt hb]
  omega
theorem zi_long {a : Nat} (ha : a < 2147483648) : (zi a).toInt64 = zl a := by
  rw [← Int64.toInt_inj, Int32.toInt_toInt64, zi_int ha, Int64.toInt_ofNat_of_lt (by omega)]
theorem zl_shl {a v : Nat} (ha : a < 36028797018963968) (hv : v < 256) : (zl a <<< ((Int32.ofInt 8).toInt64 &&& 63)) ||| zl v = zl (a * 256 + v) := by
  have e : ((Int32.ofInt 8).toInt64 &&& 63) = 8 := by decide
  rw [e]
  have h1 : (zl a).toBitVec = BitVec.ofNat 64 a := rfl
  have h2 : (zl v).toBitVec = BitVec.ofNat 64 v := rfl
  have h3 : (zl (a * 256 + v)).toBitVec = BitVec.ofNat 64 (a * 256 + v) := rfl
  have h4 : ((zl a <<< 8) ||| zl v).toBitVec = (BitVec.ofNat 64 a <<< 8) ||| BitVec.ofNat 64 v := by
    rw [Int64.toBitVec_or, Int64.toBitVec_shiftLeft, h1, h2]
    rfl
  apply Int64.toBitVec_inj.mp
  rw [h4, h3]
  apply BitVec.eq_of_toNat_eq
  rw [BitVec.toNat_or, BitVec.toNat_shiftLeft, BitVec.toNat_ofNat, BitVec.toNat_ofNat, BitVec.toNat_ofNat]
  rw [Nat.mod_eq_of_lt (show a < 2 ^ 64 by omega), Nat.mod_eq_of_lt (show v < 2 ^ 64 by omega), Nat.mod_eq_of_lt (show a * 256 + v < 2 ^ 64 by omega), Nat.shiftLeft_eq, Nat.mod_eq_of_lt (show a * 2 ^ 8 < 2 ^ 64 by omega)]
  have := Nat.two_pow_add_eq_or_of_lt (i := 8) (b := v) (by omega) a
  rw [Nat.mul_comm a (2 ^ 8), ← this]
/-! names -/
def tx_ok (l : List Nat) : Prop := ∀ d ∈ l, 1 ≤ d ∧ d ≤ 26
theorem tx_nNc (l : List Nat) (d : Nat) : tx_nN (l ++ [d]) = tx_nN l * 32 + d := by
  unfold tx_nN
  rw [List.foldl_append]
  rfl
theorem tx_nWc (l : List Nat) (d : Nat) : tx_nW (l ++ [d]) = tx_nW l * 256 + (d + 96) := by
  unfold tx_nW
  rw [List.foldl_append]
  rfl
theorem tx_lst (l : List Nat) : l = [] ∨ ∃ a d, l = a ++ [d] := by
  rcases List.eq_nil_or_concat l with h | ⟨a, d, h⟩
  · exact Or.inl h
  · exact Or.inr ⟨a, d, by simpa using h⟩
theorem tx_inj2 : ∀ (m : Nat) (l1 l2 : List Nat), l1.length ≤ m → tx_ok l1 → tx_ok l2 → (tx_nN l1 = tx_nN l2 → l1 = l2) ∧ (tx_nW l1 = tx_nW l2 → l1 = l2) := by
  intro m
  induction m with
  | zero =>
    intro l1 l2 h1 o1 o2
    have e1 : l1 = [] := List.length_eq_zero_iff.mp (by omega)
    subst e1
    rcases tx_lst l2 with rfl | ⟨a, d, rfl⟩
    · exact ⟨fun _ => rfl, fun _ => rfl⟩
    · have hd := o2 d (by simp)
      refine ⟨fun h => ?_, fun h => ?_⟩
      · rw [tx_nNc] at h
        have h2 : 0 = tx_nN a * 32 + d := h
        omega
      · rw [tx_nWc] at h
        have h2 : 0 = tx_nW a * 256 + (d + 96) := h
        omega
  | succ m ih =>
    intro l1 l2 h1 o1 o2
    rcases tx_lst l1 with rfl | ⟨a, d, rfl⟩
    · rcases tx_lst l2 with rfl | ⟨a, d, rfl⟩
      · exact ⟨fun _ => rfl, fun _ => rfl⟩
      · have hd := o2 d (by simp)
        refine ⟨fun h => ?_, fun h => ?_⟩
        · rw [tx_nNc] at h
          have h2 : 0 = tx_nN a * 32 + d := h
          omega
        · rw [tx_nWc] at h
          have h2 : 0 = tx_nW a * 256 + (d + 96) := h
          omega
    · have hd := o1 d (by simp)
      rcases tx_lst l2 with rfl | ⟨a2, d2, rfl⟩
      · refine ⟨fun h => ?_, fun h => ?_⟩
        · rw [tx_nNc] at h
          have h2 : tx_nN a * 32 + d = 0 := h
          omega
        · rw [tx_nWc] at h
          have h2 : tx_nW a * 256 + (d + 96) = 0 := h
          omega
      · have hd2 := o2 d2 (by simp)
        have hl : a.length ≤ m := by
          rw [List.length_append] at h1
          simp at h1
          omega
        have ih2 := ih a a2 hl (fun x hx => o1 x (List.mem_append_left _ hx)) (fun x hx => o2 x (List.mem_append_left _ hx))
        refine ⟨fun h => ?_, fun h => ?_⟩
        · rw [tx_nNc, tx_nNc] at h
          have e1 : d = d2 := by omega
          have e2 : tx_nN a = tx_nN a2 := by omega
          rw [ih2.1 e2, e1]
        · rw [tx_nWc, tx_nWc] at h
          have e1 : d = d2 := by omega
          have e2 : tx_nW a = tx_nW a2 := by omega
          rw [ih2.2 e2, e1]
theorem tx_bd : ∀ (m : Nat) (l : List Nat), l.length ≤ m → tx_ok l → tx_nN l < 32 ^ m ∧ tx_nW l < 123 * 256 ^ (m - 1) + (if m = 0 then 1 else 0) := by
  intro m
  induction m with
  | zero =>
    intro l h o
    have e1 : l = [] := List.length_eq_zero_iff.mp (by omega)
    subst e1
    exact ⟨by decide, by decide⟩
  | succ m ih =>
    intro l h o
    rcases tx_lst l with rfl | ⟨a, d, rfl⟩
    · refine ⟨?_, ?_⟩
      · show 0 < 32 ^ (m + 1)
        exact Nat.pow_pos (by decide)
      · show 0 < 123 * 256 ^ m + _
        have : 0 < 256 ^ m := Nat.pow_pos (by decide)
        omega
    · have hd := o d (by simp)
      have hl : a.length ≤ m := by
        rw [List.length_append] at h
        simp at h
        omega
      have ih2 := ih a hl (fun x hx => o x (List.mem_append_left _ hx))
      rw [tx_nNc, tx_nWc]
      have e : 32 ^ (m + 1) = 32 ^ m * 32 := Nat.pow_succ _ _
      refine ⟨by omega, ?_⟩
      show tx_nW a * 256 + (d + 96) < 123 * 256 ^ m + 0
      rcases m with _ | m
      · have e1 : a = [] := List.length_eq_zero_iff.mp (by omega)
        subst e1
        show 0 * 256 + (d + 96) < 123 * 256 ^ 0 + 0
        omega
      · have h3 : tx_nW a < 123 * 256 ^ m + 0 := ih2.2
        have e2 : 256 ^ (m + 1) = 256 ^ m * 256 := Nat.pow_succ _ _
        omega
theorem tx_letL {ch : Nat → Int32} {q : Nat} : ∀ m, (tx_let ch q m).length = m
  | 0 => rfl
  | m + 1 => by
    show (tx_let ch q m ++ [_]).length = _
    rw [List.length_append, tx_letL m]
    rfl
theorem tx_letO {ch : Nat → Int32} {q : Nat} : ∀ m, (∀ i, i < m → t_le (ch (q + i)) = true) → tx_ok (tx_let ch q m)
  | 0, _ => fun d h => by cases h
  | m + 1, h => fun d hd => by
    have hd2 : d ∈ tx_let ch q m ++ [tx_d ch (q + m) - 96] := hd
    rcases List.mem_append.mp hd2 with h1 | h1
    · exact tx_letO m (fun i hi => h i (by omega)) d h1
    · rw [List.mem_singleton.mp h1]
      have := tx_leD (h m (by omega))
      omega
/-- two names of at most eight letters -/
theorem tx_N8 {l : List Nat} (h : l.length ≤ 8) (o : tx_ok l) : tx_nN l < 1099511627776 ∧ tx_nW l < 8863084066665136128 := by
  have := tx_bd 8 l h o
  exact ⟨this.1, this.2⟩
theorem tx_nNi {l1 l2 : List Nat} (h1 : l1.length ≤ 8) (h2 : l2.length ≤ 8) (o1 : tx_ok l1) (o2 : tx_ok l2) : zl (tx_nN l1) = zl (tx_nN l2) ↔ l1 = l2 := by
  have b1 := tx_N8 h1 o1
  have b2 := tx_N8 h2 o2
  rw [zl_inj (by omega) (by omega)]
  exact ⟨(tx_inj2 8 l1 l2 h1 o1 o2).1, fun e => by rw [e]⟩
theorem tx_nWi {l1 l2 : List Nat} (h1 : l1.length ≤ 8) (h2 : l2.length ≤ 8) (o1 : tx_ok l1) (o2 : tx_ok l2) : zl (tx_nW l1) = zl (tx_nW l2) ↔ l1 = l2 := by
  have b1 := tx_N8 h1 o1
  have b2 := tx_N8 h2 o2
  rw [zl_inj (by omega) (by omega)]
  exact ⟨(tx_inj2 8 l1 l2 h1 o1 o2).2, fun e => by rw [e]⟩
