/-! the class's words; its token as a whole -/
noncomputable def kwf : List Int32 → Int32 → Int64 → Int64 → Int32
  | [], _, _, _ => u_k 273
  | c :: r, w, a, nm => if c = Int32.ofInt 32 then (if lg_cmp a nm = 0 then w else kwf r (w + Int32.ofInt 1) (Int64.ofNat 0) nm) else kwf r w (a * u_k6 32 + ((c - Int32.ofInt 97) + Int32.ofInt 1).toInt64) nm
def kw_c (ws : List (List Nat)) : List Int32 := ws.flatMap (fun l => l.map (fun d => zi (d + 96)) ++ [Int32.ofInt 32])
theorem kw_chars : (List.range 96).map (q_chr 1) = kw_c tx_words := by decide +kernel
theorem kw_len : (kw_c tx_words).length = 96 := by decide +kernel
theorem kw_q (i : Nat) (hi : i < 96) : ∃ c, (kw_c tx_words)[i]? = some c ∧ q_o1 6 (zi i) = some c := by
  refine ⟨q_chr 1 i, ?_, ?_⟩
  · rw [← kw_chars, List.getElem?_map, List.getElem?_range hi]
    rfl
  · show (if zi i < 0 then none else if zi i < zi 96 then some (q_chr 1 (zi i).toNatClampNeg) else none) = _
    rw [if_neg (zi_nonneg (by omega)), if_pos ((zi_lt (b := 96) (by omega) (by omega)).mpr hi), zi_clamp (by omega)]
theorem kw_loop : ∀ (f i : Nat) (s : u_H) (li : Nat → Int32) (ll : Nat → Int64), 96 - i ≤ f → i ≤ 96 → li 4 = zi i → u g_t112 9 (li, ll, [(0, 29)]) [] s = some (some (.inl (kwf ((kw_c tx_words).drop i) (li 1) (ll 2) (s.2.1 27 6))), s) := by
  have fin : ∀ (i : Nat) (s : u_H) (li : Nat → Int32) (ll : Nat → Int64), i = 96 → li 4 = zi i → u g_t112 9 (li, ll, [(0, 29)]) [] s = some (some (.inl (kwf ((kw_c tx_words).drop i) (li 1) (ll 2) (s.2.1 27 6))), s) := by
    intro i s li ll hi hl
    subst hi
    rw [b_112_9, hl, if_neg (show ¬ zi 96 < Int32.ofNat 96 by decide), List.drop_eq_nil_of_le (by rw [kw_len]; exact Nat.le_refl _)]
    rfl
  intro f
  induction f with
  | zero =>
    intro i s li ll hf hi hl
    exact fin i s li ll (by omega) hl
  | succ f ih =>
    intro i s li ll hf hi hl
    rcases Nat.lt_or_ge i 96 with q | q
    · obtain ⟨c, hc, ho⟩ := kw_q i q
      have hdrop : (kw_c tx_words).drop i = c :: (kw_c tx_words).drop (i + 1) := by
        rw [List.getElem?_eq_some_iff] at hc
        obtain ⟨h1, h2⟩ := hc
        rw [List.drop_eq_getElem_cons h1, h2]
      rw [b_112_9, hl, if_pos ((zi_lt (b := 96) (by omega) (by omega)).mpr q), ho, u_boS, hdrop, zi_one]
      unfold kwf
      by_cases h32 : c = Int32.ofInt 32
      · rw [if_pos h32, if_pos h32]
        by_cases hcm : lg_cmp (ll 2) (s.2.1 27 6) = 0
        · rw [if_pos hcm, if_pos hcm]
        · rw [if_neg hcm, if_neg hcm]
          rw [ih (i + 1) s _ _ (by omega) (by omega) (u_l1E _ _ _)]
          rw [u_l1N (by omega), u_l1E, u_l1E]
      · rw [if_neg h32, if_neg h32]
        rw [ih (i + 1) s _ _ (by omega) (by omega) (u_l1E _ _ _)]
        rw [u_l1N (by omega), u_l1N (by omega), u_l1E]
    · exact fin i s li ll (by omega) hl
theorem kw_word {w : Int32} {nm : Int64} {rest : List Int32} : ∀ (l pre : List Nat), tx_ok l → kwf (l.map (fun d => zi (d + 96)) ++ [Int32.ofInt 32] ++ rest) w (zl (tx_nN pre)) nm = if lg_cmp (zl (tx_nN (pre ++ l))) nm = 0 then w else kwf rest (w + Int32.ofInt 1) (Int64.ofNat 0) nm := by
  intro l
  induction l with
  | nil =>
    intro pre _
    rw [List.append_nil]
    show (if Int32.ofInt 32 = Int32.ofInt 32 then _ else _) = _
    rw [if_pos rfl]
    rfl
  | cons d l ih =>
    intro pre o
    have hd := o d List.mem_cons_self
    have h32 : ¬ zi (d + 96) = Int32.ofInt 32 := by
      intro e
      have := (zi_inj (a := d + 96) (b := 32) (by omega) (by omega)).mp e
      omega
    have ih2 := ih (pre ++ [d]) (fun x hx => o x (List.mem_cons_of_mem _ hx))
    rw [show pre ++ d :: l = pre ++ [d] ++ l by rw [List.append_assoc]; rfl, ← ih2]
    show (if zi (d + 96) = Int32.ofInt 32 then _ else kwf (l.map (fun d => zi (d + 96)) ++ [Int32.ofInt 32] ++ rest) w (zl (tx_nN pre) * u_k6 32 + ((zi (d + 96) - Int32.ofInt 97) + Int32.ofInt 1).toInt64) nm) = _
    rw [if_neg h32]
    congr 1
    rw [u_k6_eq, tx_nNc]
    show zl _ * zl 32 + (zi (d + 96) - zi 97 + Int32.ofInt 1).toInt64 = _
    rw [zi_sub (by omega), zi_one, zi_long (by omega), zl_mul, zl_add, show d + 96 - 97 + 1 = d by omega]
theorem kw_all {l : List Nat} (h8 : l.length ≤ 8) (o : tx_ok l) : ∀ (ws : List (List Nat)) (j : Nat), (∀ w ∈ ws, w.length ≤ 8 ∧ tx_ok w) → j + ws.length = 17 → kwf (kw_c ws) (zi (256 + j)) (Int64.ofNat 0) (zl (tx_nN l)) = zi (256 + j + ws.idxOf l) := by
  intro ws
  induction ws with
  | nil =>
    intro j _ hj
    have e : j = 17 := hj
    subst e
    exact u_kz 273
  | cons w ws ih =>
    intro j hw hj
    have hj2 : j + (ws.length + 1) = 17 := hj
    obtain ⟨w8, wo⟩ := hw w List.mem_cons_self
    have e : kw_c (w :: ws) = w.map (fun d => zi (d + 96)) ++ [Int32.ofInt 32] ++ kw_c ws := rfl
    rw [e, show (Int64.ofNat 0 : Int64) = zl (tx_nN []) from rfl, kw_word w [] wo, List.nil_append]
    have hcmp : lg_cmp (zl (tx_nN w)) (zl (tx_nN l)) = 0 ↔ w = l := (lg_cmp_eq _ _).trans (tx_nNi w8 h8 wo o)
    rw [List.idxOf_cons]
    by_cases c : w = l
    · rw [if_pos (hcmp.mpr c), show (w == l) = true from beq_iff_eq.mpr c]
      rfl
    · rw [if_neg (fun q => c (hcmp.mp q)), show (w == l) = false from beq_eq_false_iff_ne.mpr c, zi_one]
      rw [show 256 + j + 1 = 256 + (j + 1) by omega, ih (j + 1) (fun x hx => hw x (List.mem_cons_of_mem _ hx)) (by omega)]
      show zi _ = zi _
      congr 1
      rw [cond_false]
      omega
theorem kw_ok : ∀ w ∈ tx_words, w.length ≤ 8 ∧ tx_ok w := by
  unfold tx_ok
  decide
theorem c_kind {l : List Nat} {s : u_H} (h8 : l.length ≤ 8) (o : tx_ok l) (hs : s.2.1 27 6 = zl (tx_nN l)) : u_c 112 [.inr (.inr 29)] s = some (some (.inl (zi (256 + tx_kw l))), s) := by
  rw [b_112, kw_loop 96 0 s (u_l1 (u_l1 u_z1 1 (u_k 256)) 4 (Int32.ofInt 0)) (u_l1 u_z2 2 (Int64.ofNat 0)) (by omega) (by omega) (u_l1E _ _ _), u_l1N (by omega), u_l1E, u_l1E, hs, List.drop_zero, show u_k 256 = zi (256 + 0) from u_kz 256, kw_all h8 o tx_words 0 kw_ok rfl]
  rfl
theorem c_refuse {x : Int32} {s : u_H} (h : s.1 27 8 = 0) : u_c 127 [.inr (.inr 29), .inl x] s = some (none, (y_u (y_u (y_u s.1 27 8 x) 27 9 (s.1 27 3)) 27 4 (u_k 276), s.2)) := by
  rw [b_127, if_pos h]
/-- start, kind, where it goes on, number, name, the fault -/
def tkC (ch : Nat → Int32) (τ : f_T) (s s2 : u_H) : Prop := s2.1 27 3 = zi τ.1 ∧ s2.1 27 4 = zi τ.2.1 ∧ (τ.2.1 ≠ 276 → s2.1 27 2 = zi τ.2.2.2 ∧ s2.1 27 8 = 0 ∧ s2.1 27 9 = s.1 27 9) ∧ (τ.2.1 = 274 → s2.1 27 5 = zi τ.2.2.1) ∧ (256 ≤ τ.2.1 → τ.2.1 ≤ 273 → s2.2.1 27 6 = zl (tx_nN (tx_let ch τ.1 (τ.2.2.2 - τ.1)))) ∧ (τ.2.1 = 276 → s2.1 27 8 = Int32.ofInt 1 ∧ s2.1 27 9 = zi τ.1) ∧ u_fr tx_P27 s s2 ∧ s2.1 27 7 = s.1 27 7
theorem tx_sgo (c : Int32) : q_o1 5 c = some (q_ixo (c.toUInt32 % 65536).toInt32) := rfl
theorem tx_sgN : ∀ v : Nat, v ≤ 255 → (q_ixo ((zi v).toUInt32 % 65536).toInt32 < 0 ↔ tx_sg (zi v) = false) := by
  have h : ∀ v : Fin 256, (q_ixo ((zi v.val).toUInt32 % 65536).toInt32 < 0 ↔ tx_sg (zi v.val) = false) := by decide +kernel
  intro v hv
  exact h ⟨v, by omega⟩
theorem c_advance {ch : Nat → Int32} {n : Nat} {s : u_H} {p : Nat} (hT : tx_T ch n) (hC : tC ch n s) (ha : s.1 27 2 = zi p) (hp : p ≤ n) (hf : s.1 27 8 = 0) : ∃ s2, u_c 105 [.inr (.inr 29)] s = some (none, s2) ∧ tkC ch (tx_tk ch n p) s s2 := by
  have hn := hT.1
  have hq := tx_q_le (ch := ch) hp
  have hb := tx_q_bl (p := p) hT
  obtain ⟨li2, hsk⟩ := c_skip (ll := u_z2) hT (n - p) 0 p s (u_l1 u_z1 1 (Int32.ofInt 0)) (Nat.le_refl _) (Nat.zero_le _) hp (u_l1E _ _ _) hC ha
  unfold tx_tk
  rw [b_105, hsk]
  generalize hqq : tx_q ch n p = q at hq hb
  have hs1 : ∃ s1 : u_H, (y_u (y_u s.1 27 2 (zi q)) 27 3 (zi q), s.2) = s1 ∧ tC ch n s1 ∧ u_fr tx_P27 s s1 ∧ s1.1 27 2 = zi q ∧ s1.1 27 3 = zi q ∧ s1.1 27 8 = 0 ∧ s1.1 27 9 = s.1 27 9 ∧ s1.1 27 7 = s.1 27 7 := by
    refine ⟨_, rfl, tC_w (s := (y_u s.1 27 2 (zi q), s.2)) (tC_w hC (by omega) (by omega)) (by omega) (by omega), ?_, ?_, ?_, ?_, ?_, ?_⟩
    · exact u_fr.wi (u_fr.wi (f := s.1) (r := s.2) u_fr.rf ⟨rfl, by omega⟩) ⟨rfl, by omega⟩
    · simp [y_u]
    · simp [y_u]
    · simp [y_u, hf]
    · simp [y_u]
    · simp [y_u]
  obtain ⟨s1, e1, hC1, fr1, a1, b1, f1, g1, t1⟩ := hs1
  have e0 : (y_u s.1 27 2 (zi q) : Nat → Nat → Int32) 27 2 = zi q := y_uE _ _ _ _
  rw [b_105_42]
  dsimp only
  rw [e0, e1, c_byte hT hC1 (by omega), u_biS]
  unfold tx_at
  by_cases hend : n ≤ q
  · rw [if_pos (hT.2.2 q hend), if_pos hend]
    refine ⟨_, rfl, ?_, ?_, ?_, ?_, ?_, ?_, ?_, ?_⟩
    · simp [y_u, b1]
    · simp only [y_uE]
      exact u_kz 275
    · intro _
      simp [y_u, a1, f1, g1]
    · intro h
      cases h
    · intro _ h
      have h2 : 275 ≤ 273 := h
      omega
    · intro h
      cases h
    · exact u_fr.wi (f := s1.1) (r := s1.2) fr1 ⟨rfl, by omega⟩
    · simp [y_u, t1]
  · have hlt : q < n := by omega
    have hd := tx_dz hT hlt
    have hne : ¬ ch q = u_k (-1) := by
      intro e
      rw [hd.1, t_m1] at e
      have h3 : (zi (tx_d ch q)).toInt = (Int32.ofInt (-1)).toInt := by rw [e]
      rw [zi_int (by omega)] at h3
      have h4 : (Int32.ofInt (-1)).toInt = -1 := by decide
      omega
    rw [if_neg hne, if_neg hend, c_le, u_biS]
    cases hle : t_le (ch q) with
    | true =>
      rw [if_neg zb_yes, if_pos rfl, b_129]
      have hwz : (y_u s1.2.1 27 6 (Int64.ofNat 0) : Nat → Nat → Int64) 27 6 = zl (tx_nN (tx_let ch q 0)) := y_uE _ _ _ _
      obtain ⟨m, li3, hm, hu⟩ := c_word hT (q := q) (n - q) 0 (s1.1, y_u s1.2.1 27 6 (Int64.ofNat 0), s1.2.2) (u_l1 u_z1 1 (Int32.ofInt 0)) u_z2 (by omega) (by omega) (u_l1E _ _ _) (fun j hj => by omega) (tC_l hC1) a1 hwz
      rw [Nat.zero_add, Nat.add_zero] at hm
      rw [hu, ← hm]
      have hm16 : q + m ≤ n := by
        have := t_len_le (ok := t_le) (ch := ch) (n := n) (p := q) (by omega)
        omega
      have hs2 : ∃ s2 : u_H, (y_u s1.1 27 2 (zi (q + m)), y_u (y_u s1.2.1 27 6 (Int64.ofNat 0)) 27 6 (zl (tx_nN (tx_let ch q m))), s1.2.2) = s2 ∧ u_fr tx_P27 s s2 ∧ s2.1 27 2 = zi (q + m) ∧ s2.1 27 3 = zi q ∧ s2.1 27 8 = 0 ∧ s2.1 27 9 = s.1 27 9 ∧ s2.1 27 7 = s.1 27 7 ∧ s2.2.1 27 6 = zl (tx_nN (tx_let ch q m)) := by
        refine ⟨_, rfl, ?_, ?_, ?_, ?_, ?_, ?_, ?_⟩
        · exact u_fr.wi (u_fr.wl (u_fr.wl (f := s1.1) (g := s1.2.1) (r := s1.2.2) fr1 ⟨rfl, by omega⟩) ⟨rfl, by omega⟩) ⟨rfl, by omega⟩
        · simp [y_u]
        · simp [y_u, b1]
        · simp [y_u, f1]
        · simp [y_u, g1]
        · simp [y_u, t1]
        · simp [y_u]
      obtain ⟨s2, e2, fr2, a2, b2, f2, g2, t2, w2⟩ := hs2
      dsimp only
      rw [e2, b_129_77, a2, b2, zi_sub (by omega), show q + m - q = m by omega]
      have e8 : Int32.ofInt 8 < zi m ↔ 8 < m := zi_lt (a := 8) (by omega) (by omega)
      by_cases h8 : 8 < m
      · rw [if_pos (e8.mpr h8), c_refuse f2, u_bvS, u_bvS, if_pos h8]
        dsimp only
        rw [if_neg (by rw [y_uE]; intro e; rw [u_k_eq, u_k_eq] at e; revert e; decide)]
        refine ⟨_, rfl, ?_, ?_, ?_, ?_, ?_, ?_, ?_, ?_⟩
        · simp [y_u, b2]
        · simp only [y_uE]
          exact u_kz 276
        · intro h
          exact absurd rfl h
        · intro h
          cases h
        · intro _ h
          have h2 : 276 ≤ 273 := h
          omega
        · intro _
          simp [y_u, b2]
        · exact u_fr.wi (u_fr.wi (u_fr.wi (u_fr.wi (f := s2.1) (r := s2.2) fr2 ⟨rfl, by omega⟩) ⟨rfl, by omega⟩) ⟨rfl, by omega⟩) ⟨rfl, by omega⟩
        · simp [y_u, t2]
      · rw [if_neg (fun h => h8 (e8.mp h)), u_bvS, if_neg h8]
        dsimp only
        have hlen : (tx_let ch q m).length ≤ 8 := by rw [tx_letL]; omega
        have ho : tx_ok (tx_let ch q m) := tx_letO m (fun i hi => by
          rw [hm] at hi
          exact t_len_in hT t_leN (n - q) q i (Nat.le_refl _) hi)
        rw [if_pos (y_uE _ _ _ _), c_kind (s := (y_u s2.1 27 4 (u_k 273), s2.2)) hlen ho w2, u_biS]
        have hk := tx_kw17 (tx_let ch q m)
        refine ⟨_, rfl, ?_, ?_, ?_, ?_, ?_, ?_, ?_, ?_⟩
        · simp [y_u, b2]
        · simp only [y_uE]
        · intro _
          simp [y_u, a2, f2, g2]
        · intro h
          have h2 : 256 + tx_kw (tx_let ch q m) = 274 := h
          omega
        · intro _ _
          show s2.2.1 27 6 = zl (tx_nN (tx_let ch q (q + m - q)))
          rw [w2, Nat.add_sub_cancel_left]
        · intro h
          have h2 : 256 + tx_kw (tx_let ch q m) = 276 := h
          omega
        · exact u_fr.wi (u_fr.wi (f := s2.1) (r := s2.2) fr2 ⟨rfl, by omega⟩) ⟨rfl, by omega⟩
        · simp [y_u, t2]
    | false =>
      rw [if_pos zb_no, if_neg (by decide), c_di, u_biS]
      cases hdi : t_di (ch q) with
      | true =>
        rw [if_neg zb_yes, if_pos rfl, b_128]
        have hnz : (y_u s1.1 27 5 (Int32.ofInt 0) : Nat → Nat → Int32) 27 5 = zi (tx_num ch q 0) := y_uE _ _ _ _
        have haz : (y_u s1.1 27 5 (Int32.ofInt 0) : Nat → Nat → Int32) 27 2 = zi (q + 0) := (y_uN (by omega)).trans a1
        obtain ⟨m, li3, hm, hu⟩ := c_numb hT (q := q) (n - q) 0 (y_u s1.1 27 5 (Int32.ofInt 0), s1.2) (u_l1 u_z1 1 (Int32.ofInt 0)) u_z2 (by omega) (by omega) (u_l1E _ _ _) (tC_w hC1 (by omega) (by omega)) haz hnz
        rw [Nat.zero_add, Nat.add_zero] at hm
        rw [hu, ← hm]
        have hm16 : q + m ≤ n := by
          have := t_len_le (ok := t_di) (ch := ch) (n := n) (p := q) (by omega)
          omega
        have hs2 : ∃ s2 : u_H, (y_u (y_u (y_u s1.1 27 5 (Int32.ofInt 0)) 27 5 (zi (tx_num ch q m))) 27 2 (zi (q + m)), s1.2) = s2 ∧ tC ch n s2 ∧ u_fr tx_P27 s s2 ∧ s2.1 27 2 = zi (q + m) ∧ s2.1 27 3 = zi q ∧ s2.1 27 8 = 0 ∧ s2.1 27 9 = s.1 27 9 ∧ s2.1 27 7 = s.1 27 7 ∧ s2.1 27 5 = zi (tx_num ch q m) := by
          have frx := u_fr.wi (o := 27) (k := 2) (x := zi (q + m)) (u_fr.wi (o := 27) (k := 5) (x := zi (tx_num ch q m)) (u_fr.wi (o := 27) (k := 5) (x := Int32.ofInt 0) (f := s1.1) (r := s1.2) fr1 ⟨rfl, by omega⟩) ⟨rfl, by omega⟩) ⟨rfl, by omega⟩
          refine ⟨_, rfl, tC_fr hC frx (fun h => by have := h.1; omega) (fun k h => by have := h.1; omega), frx, ?_, ?_, ?_, ?_, ?_, ?_⟩
          · simp [y_u]
          · simp [y_u, b1]
          · simp [y_u, f1]
          · simp [y_u, g1]
          · simp [y_u, t1]
          · simp [y_u]
        obtain ⟨s2, e2, hC2, fr2, a2, b2, f2, g2, t2, n2⟩ := hs2
        dsimp only
        rw [e2, b_128_73, a2, b2, zi_sub (by omega), show q + m - q = m by omega]
        have e4 : Int32.ofInt 4 < zi m ↔ 4 < m := zi_lt (a := 4) (by omega) (by omega)
        have bad : ∃ s3, (u_bv (u_c 127 [.inr (.inr 29), .inl (Int32.ofInt 1)] s2) fun s1 => some (none, s1) : u_R) = some (none, s3) ∧ tkC ch (q, 276, 0, q) s s3 := by
          rw [c_refuse f2, u_bvS]
          refine ⟨_, rfl, ?_, ?_, ?_, ?_, ?_, ?_, ?_, ?_⟩
          · simp [y_u, b2]
          · simp only [y_uE]
            exact u_kz 276
          · intro h
            exact absurd rfl h
          · intro h
            cases h
          · intro _ h
            have h2 : 276 ≤ 273 := h
            omega
          · intro _
            simp [y_u, b2]
          · exact u_fr.wi (u_fr.wi (u_fr.wi (f := s2.1) (r := s2.2) fr2 ⟨rfl, by omega⟩) ⟨rfl, by omega⟩) ⟨rfl, by omega⟩
          · simp [y_u, t2]
        by_cases h4 : 4 < m
        · rw [if_pos (e4.mpr h4), if_pos (Or.inl h4)]
          obtain ⟨s3, e3, k3⟩ := bad
          rw [e3, u_bvS]
          exact ⟨s3, rfl, k3⟩
        · rw [if_neg (fun h => h4 (e4.mp h)), c_byte hT hC2 (by omega), u_biS, c_le, u_biS]
          cases hl2 : t_le (ch (q + m)) with
          | true =>
            rw [if_neg zb_yes, if_pos (Or.inr rfl)]
            obtain ⟨s3, e3, k3⟩ := bad
            rw [e3, u_bvS]
            exact ⟨s3, rfl, k3⟩
          | false =>
            rw [if_pos zb_no, if_neg (fun h => h.elim h4 (fun q => by cases q)), u_bvS]
            refine ⟨_, rfl, ?_, ?_, ?_, ?_, ?_, ?_, ?_, ?_⟩
            · simp [y_u, b2]
            · simp only [y_uE]
              exact u_kz 274
            · intro _
              simp [y_u, a2, f2, g2]
            · intro _
              simp [y_u, n2]
            · intro _ h
              have h2 : 274 ≤ 273 := h
              omega
            · intro h
              cases h
            · exact u_fr.wi (f := s2.1) (r := s2.2) fr2 ⟨rfl, by omega⟩
            · simp [y_u, t2]
      | false =>
        rw [if_pos zb_no, if_neg (by decide), tx_sgo, u_boS]
        have hsn := tx_sgN (tx_d ch q) hd.2
        rw [← hd.1] at hsn
        cases hsg : tx_sg (ch q) with
        | true =>
          have hsd := tx_sgD hsg
          rw [if_neg (fun h => by rw [hsn.mp h] at hsg; cases hsg), if_pos rfl]
          refine ⟨_, rfl, ?_, ?_, ?_, ?_, ?_, ?_, ?_, ?_⟩
          · simp [y_u, b1]
          · simp [y_u]
            exact hsd.1
          · intro _
            simp [y_u, a1, f1, g1]
          · intro h
            have h2 : tx_d ch q = 274 := h
            omega
          · intro h
            have h2 : 256 ≤ tx_d ch q := h
            omega
          · intro h
            have h2 : tx_d ch q = 276 := h
            omega
          · exact u_fr.wi (u_fr.wi (f := s1.1) (r := s1.2) fr1 ⟨rfl, by omega⟩) ⟨rfl, by omega⟩
          · simp [y_u, t1]
        | false =>
          rw [if_pos (hsn.mpr hsg), if_neg (by decide), c_refuse f1, u_bvS]
          refine ⟨_, rfl, ?_, ?_, ?_, ?_, ?_, ?_, ?_, ?_⟩
          · simp [y_u, b1]
          · simp only [y_uE]
            exact u_kz 276
          · intro h
            exact absurd rfl h
          · intro h
            cases h
          · intro _ h
            have h2 : 276 ≤ 273 := h
            omega
          · intro _
            simp [y_u, b1]
          · exact u_fr.wi (u_fr.wi (u_fr.wi (f := s1.1) (r := s1.2) fr1 ⟨rfl, by omega⟩) ⟨rfl, by omega⟩) ⟨rfl, by omega⟩
          · simp [y_u, t1]
