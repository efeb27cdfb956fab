/-! words wanted, numbers wanted -/
theorem tx_kwi {l w : List Nat} {i : Nat} (hi : tx_words[i]? = some w) : tx_kw l = i ↔ l = w := by
  have hlt : i < tx_words.length := by
    rcases Nat.lt_or_ge i tx_words.length with q | q
    · exact q
    · rw [List.getElem?_eq_none q] at hi
      cases hi
  have hw : tx_words[i] = w := by
    rw [List.getElem?_eq_getElem hlt] at hi
    exact Option.some.inj hi
  constructor
  · intro e
    have h1 : tx_words.idxOf l < tx_words.length := by
      have e2 : tx_words.idxOf l = i := e
      omega
    have h2 := List.getElem_idxOf h1
    rw [← hw, ← h2]
    congr 1
  · intro e
    subst e
    have key : ∀ j : Fin 17, tx_kw (tx_words[j.val]'(by have := j.isLt; exact this)) = j.val := by decide
    have h3 := key ⟨i, hlt⟩
    rw [← hw]
    exact h3
theorem tx_kwm {l : List Nat} : tx_kw l < 17 ↔ l ∈ tx_words := List.idxOf_lt_length_iff
theorem tx_so1 {ch : Nat → Int32} {n : Nat} {τ : f_T} (hV : tx_V ch n τ) : tx_so τ.2.1 = Int32.ofInt 1 ↔ 256 ≤ τ.2.1 ∧ τ.2.1 ≤ 273 := by
  have h5 := hV.2.2.2.2.1
  unfold tx_so
  by_cases h1 : τ.2.1 = 275
  · rw [if_pos h1]
    exact ⟨fun e => absurd e (by decide), fun e => by omega⟩
  · rw [if_neg h1]
    by_cases h2 : τ.2.1 = 274
    · rw [if_pos h2]
      exact ⟨fun e => absurd e (by decide), fun e => by omega⟩
    · rw [if_neg h2]
      by_cases h3 : τ.2.1 = 276
      · rw [if_pos h3]
        exact ⟨fun e => absurd e (by decide), fun e => by omega⟩
      · rw [if_neg h3]
        by_cases h4 : 256 ≤ τ.2.1
        · rw [if_pos h4]
          exact ⟨fun _ => by omega, fun _ => rfl⟩
        · rw [if_neg h4]
          have hsg := hV.2.2.2.2.2.2.2.2 (by omega)
          refine ⟨fun e => ?_, fun e => by omega⟩
          have := (zi_inj (a := τ.2.1) (b := 1) (by omega) (by omega)).mp e
          omega
theorem tx_so2 {ch : Nat → Int32} {n : Nat} {τ : f_T} (hV : tx_V ch n τ) : tx_so τ.2.1 = Int32.ofInt 2 ↔ τ.2.1 = 274 := by
  have h5 := hV.2.2.2.2.1
  unfold tx_so
  by_cases h1 : τ.2.1 = 275
  · rw [if_pos h1]
    exact ⟨fun e => absurd e (by decide), fun e => by omega⟩
  · rw [if_neg h1]
    by_cases h2 : τ.2.1 = 274
    · rw [if_pos h2]
      exact ⟨fun _ => h2, fun _ => rfl⟩
    · rw [if_neg h2]
      by_cases h3 : τ.2.1 = 276
      · rw [if_pos h3]
        exact ⟨fun e => absurd e (by decide), fun e => by omega⟩
      · rw [if_neg h3]
        by_cases h4 : 256 ≤ τ.2.1
        · rw [if_pos h4]
          exact ⟨fun e => absurd e (by decide), fun e => by omega⟩
        · rw [if_neg h4]
          have hsg := hV.2.2.2.2.2.2.2.2 (by omega)
          refine ⟨fun e => ?_, fun e => by omega⟩
          have := (zi_inj (a := τ.2.1) (b := 2) (by omega) (by omega)).mp e
          omega
/-- a sign's sort -/
theorem tx_soS {ch : Nat → Int32} {n : Nat} {τ : f_T} (hV : tx_V ch n τ) {c : Nat} (h1 : 30 < c) (h2 : c < 100) : tx_so τ.2.1 = zi c ↔ τ.2.1 = c := by
  have h5 := hV.2.2.2.2.1
  have key : ∀ a : Nat, a < 4 → ¬ zi a = zi c := fun a ha e => by
    have := (zi_inj (a := a) (b := c) (by omega) (by omega)).mp e
    omega
  unfold tx_so
  by_cases h1 : τ.2.1 = 275
  · rw [if_pos h1]
    exact ⟨fun e => absurd e (key 0 (by omega)), fun e => by omega⟩
  · rw [if_neg h1]
    by_cases h2 : τ.2.1 = 274
    · rw [if_pos h2]
      exact ⟨fun e => absurd e (key 2 (by omega)), fun e => by omega⟩
    · rw [if_neg h2]
      by_cases h3 : τ.2.1 = 276
      · rw [if_pos h3]
        exact ⟨fun e => absurd e (key 3 (by omega)), fun e => by omega⟩
      · rw [if_neg h3]
        by_cases h4 : 256 ≤ τ.2.1
        · rw [if_pos h4]
          exact ⟨fun e => absurd e (key 1 (by omega)), fun e => by omega⟩
        · rw [if_neg h4]
          exact zi_inj (by omega) (by omega)
abbrev tx_ls (ch : Nat → Int32) (τ : f_T) : List Nat := tx_let ch τ.1 (τ.2.2.2 - τ.1)
section WORD
variable {ch : Nat → Int32} {n W : Nat} {sC sM : u_H}
theorem tx_wN {i : Nat} {w : List Nat} (hi : tx_words[i]? = some w) : w.length ≤ 8 ∧ tx_ok w := kw_ok w (List.mem_of_getElem? hi)
/-- the model's test of a word -/
theorem m_isw {τ : f_T} (h : jN ch n τ sC sM) {i N : Nat} {w : List Nat} (hi : tx_words[i]? = some w) (hN : tx_nW w = N) : u_c 238 [.inr (.inr 67), .inr (.inl (u_k6 N))] sM = some (some (.inl (zb (decide (τ.2.1 = 256 + i)))), sM) := by
  obtain ⟨hV, hc, m1, m2, m3, m4, m5, m6, m7⟩ := h
  have hw := tx_wN hi
  rw [b_238, m2, u_k6_eq]
  by_cases h1 : 256 ≤ τ.2.1 ∧ τ.2.1 ≤ 273
  · obtain ⟨v1, v2, v3⟩ := hV.2.2.2.2.2.1 h1.1 h1.2
    rw [if_pos ((tx_so1 hV).mpr h1), m5 h1.1 h1.2]
    have hcmp : lg_cmp (zl (tx_nW (tx_ls ch τ))) (Int64.ofNat N) = 0 ↔ τ.2.1 = 256 + i := by
      rw [← hN]
      refine (lg_cmp_eq _ _).trans ((tx_nWi v1 hw.1 v2 hw.2).trans ?_)
      rw [← tx_kwi hi, v3]
      omega
    by_cases h2 : τ.2.1 = 256 + i
    · rw [if_pos (hcmp.mpr h2), decide_eq_true h2]
      rfl
    · rw [if_neg (fun e => h2 (hcmp.mp e)), decide_eq_false h2]
      rfl
  · have hlt : i < 17 := by
      rcases Nat.lt_or_ge i 17 with q | q
      · exact q
      · rw [List.getElem?_eq_none (show tx_words.length ≤ i from q)] at hi
        cases hi
    rw [if_neg (fun e => h1 ((tx_so1 hV).mp e)), decide_eq_false (by omega)]
    rfl
theorem t_orE {x : Int64} {N : Nat} {s : u_H} {X : u_R} {P Q : Prop} (hp : lg_cmp x (u_k6 N) = 0 ↔ P) (h : ∃ b : Bool, X = some (some (.inl (zb b)), s) ∧ (b = true ↔ Q)) : ∃ b : Bool, (if lg_cmp x (u_k6 N) = 0 then some (some (.inl (Int32.ofInt 1)), s) else X) = some (some (.inl (zb b)), s) ∧ (b = true ↔ P ∨ Q) := by
  obtain ⟨b, h1, h2⟩ := h
  by_cases e : P
  · exact ⟨true, by rw [if_pos (hp.mpr e)]; rfl, ⟨fun _ => Or.inl e, fun _ => rfl⟩⟩
  · exact ⟨b, by rw [if_neg (fun q => e (hp.mp q)), h1], ⟨fun q => Or.inr (h2.mp q), fun q => h2.mpr (q.resolve_left e)⟩⟩
/-- the model's test of a name -/
theorem m_isn {τ : f_T} (h : jN ch n τ sC sM) : u_c 232 [.inr (.inr 67)] sM = some (some (.inl (zb (decide (τ.2.1 = 273)))), sM) := by
  obtain ⟨hV, hc, m1, m2, m3, m4, m5, m6, m7⟩ := h
  rw [b_232, m2]
  by_cases h1 : 256 ≤ τ.2.1 ∧ τ.2.1 ≤ 273
  · obtain ⟨v1, v2, v3⟩ := hV.2.2.2.2.2.1 h1.1 h1.2
    have m5 := m5 h1.1 h1.2
    rw [if_pos ((tx_so1 hV).mpr h1)]
    have hcmp : ∀ (i N : Nat) (w : List Nat), tx_words[i]? = some w → tx_nW w = N → (lg_cmp (sM.2.1 65 9) (u_k6 N) = 0 ↔ tx_ls ch τ = w) := by
      intro i N w hi hN
      rw [m5, u_k6_eq, ← hN]
      exact (lg_cmp_eq _ _).trans (tx_nWi v1 (tx_wN hi).1 v2 (tx_wN hi).2)
    have own : ∃ b : Bool, u_c 233 [.inr (.inr 67)] sM = some (some (.inl (zb b)), sM) ∧ (b = true ↔ tx_ls ch τ ∈ tx_words) := by
      have base : ∃ b : Bool, (some (some (.inl (Int32.ofInt 0)), sM) : u_R) = some (some (.inl (zb b)), sM) ∧ (b = true ↔ False) := ⟨false, rfl, by simp⟩
      rw [b_233]
      obtain ⟨b, h1, h2⟩ := t_orE (s := sM) (hcmp 0 _ _ rfl rfl) (t_orE (hcmp 12 _ _ rfl rfl) (t_orE (hcmp 13 _ _ rfl rfl) (t_orE (hcmp 1 _ _ rfl rfl) (t_orE (hcmp 7 _ _ rfl rfl) (t_orE (hcmp 8 _ _ rfl rfl) (t_orE (hcmp 6 _ _ rfl rfl) (t_orE (hcmp 2 _ _ rfl rfl) (t_orE (hcmp 3 _ _ rfl rfl) (t_orE (hcmp 4 _ _ rfl rfl) (t_orE (hcmp 5 _ _ rfl rfl) (t_orE (hcmp 9 _ _ rfl rfl) (t_orE (hcmp 10 _ _ rfl rfl) (t_orE (hcmp 11 _ _ rfl rfl) (t_orE (hcmp 15 _ _ rfl rfl) (t_orE (hcmp 14 _ _ rfl rfl) (t_orE (hcmp 16 _ _ rfl rfl) base))))))))))))))))
      refine ⟨b, h1, h2.trans ?_⟩
      unfold tx_words
      simp only [List.mem_cons, List.not_mem_nil, or_false]
      constructor
      · intro hh
        rcases hh with e | e | e | e | e | e | e | e | e | e | e | e | e | e | e | e | e <;> simp [e]
      · intro hh
        rcases hh with e | e | e | e | e | e | e | e | e | e | e | e | e | e | e | e | e <;> simp [e]
    obtain ⟨b, hb, hm⟩ := own
    have h17 : tx_kw (tx_let ch τ.1 (τ.2.2.2 - τ.1)) ≤ 17 := tx_kw17 _
    rw [hb, u_biS]
    cases b with
    | true =>
      have h2 : tx_kw (tx_let ch τ.1 (τ.2.2.2 - τ.1)) < 17 := tx_kwm.mpr (hm.mp rfl)
      rw [if_neg zb_yes, decide_eq_false (show ¬ τ.2.1 = 273 by rw [v3]; omega)]
      rfl
    | false =>
      have h2 : ¬ tx_kw (tx_let ch τ.1 (τ.2.2.2 - τ.1)) < 17 := fun q => by have := hm.mpr (tx_kwm.mp q); cases this
      rw [if_pos zb_no, decide_eq_true (show τ.2.1 = 273 by rw [v3]; omega)]
      rfl
  · rw [if_neg (fun e => h1 ((tx_so1 hV).mp e)), decide_eq_false (by omega)]
    rfl
/-- what class and model take alike -/
def p_OK (ch : Nat → Int32) (n W : Nat) (sC sM sC2 sM2 : u_H) : Prop := jJ ch n W sC2 sM2 ∧ u_fr tx_C sC sC2 ∧ u_fr tx_M sM sM2
theorem p_wJ {f q : Nat} (h1 : jT ch n W sC sM) (h2 : jC f q sC sM) : jJ ch n W sC sM := ⟨h1, Or.inr ⟨f, q, h2⟩⟩
theorem p_nJ {τ : f_T} (h1 : jT ch n W sC sM) (h2 : jN ch n τ sC sM) : jJ ch n W sC sM := ⟨h1, Or.inl ⟨τ, h2⟩⟩
theorem jC_ne {f q : Nat} (h : jC f q sC sM) : ¬ sM.1 65 2 = 0 := by rw [h.2.2.2.2.2.2.1]; exact zf_ne h.1 h.2.1
theorem p_expect (hT : tx_T ch n) (hJ : jJ ch n W sC sM) {i N : Nat} {w : List Nat} (hi : tx_words[i]? = some w) (hN : tx_nW w = N) : ∃ sC2 sM2, u_c 106 [.inr (.inr 29), .inl (zi (256 + i))] sC = some (none, sC2) ∧ u_c 318 [.inr (.inr 67), .inr (.inl (u_k6 N))] sM = some (none, sM2) ∧ p_OK ch n W sC sM sC2 sM2 ∧ (sM2.1 65 2 = 0 → ∃ τ, jN ch n τ sC sM ∧ τ.2.1 = 256 + i ∧ jN ch n (tx_tk ch n τ.2.2.2) sC2 sM2) := by
  have hlt : i < 17 := by
    rcases Nat.lt_or_ge i 17 with q | q
    · exact q
    · rw [List.getElem?_eq_none (show tx_words.length ≤ i from q)] at hi
      cases hi
  obtain ⟨sCw, sMw, fw, qw, ew1, ew2, ew3, ew4, ew5, ew6⟩ := p_wrong hJ hT (x := 2) (by omega) (by omega)
  have hJ2 := hJ
  obtain ⟨hj, h | h⟩ := hJ2
  · obtain ⟨τ, h⟩ := h
    have hisw := m_isw h hi hN
    have h' := h
    obtain ⟨hV, ⟨c1, c2, c3, c4, c5, c6⟩, m1, m2, m3, m4, m5, m6, m7⟩ := h'
    have hV5 := hV.2.2.2.2.1
    by_cases hk : τ.2.1 = 256 + i
    · obtain ⟨x1, x2, x3⟩ := c3 (by omega)
      obtain ⟨sC2, sM2, e1, e2, e3, e4, e5, e6⟩ := p_next hT hj h (by omega)
      refine ⟨sC2, sM2, ?_, ?_, ⟨p_nJ e3 e4, e5, e6⟩, fun _ => ⟨τ, h, hk, e4⟩⟩
      · rw [b_106, if_pos x2, if_pos (by rw [c2, hk]), e1, u_bvS]
      · rw [b_318, m6, if_neg z_lt00, hisw, u_biS, decide_eq_true hk, if_neg zb_yes, e2, u_bvS]
    · have hMw : u_c 318 [.inr (.inr 67), .inr (.inl (u_k6 N))] sM = some (none, sMw) := by
        rw [b_318, m6, if_neg z_lt00, hisw, u_biS, decide_eq_false hk, if_pos zb_no]
        have : (Int32.ofInt 2) = zi 2 := rfl
        rw [this, ew2, u_bvS]
      by_cases hb : τ.2.1 = 276
      · obtain ⟨y1, y2⟩ := c6 hb
        -- the class has refused already
        obtain ⟨t1, t2, t3⟩ := hj
        refine ⟨sC, sMw, ?_, hMw, ⟨p_wJ (f := 1) (q := τ.1) ⟨t1, ew3.2.1, t3⟩ ⟨by omega, by omega, ?_, ?_, y2, ?_, ?_, ?_⟩, u_fr.rf, ew6⟩, fun e => absurd e (jC_ne ew4)⟩
        · rw [b_106, y1, if_neg (by decide)]
        · have := hV.1
          have := hT.1
          omega
        · exact y1
        · rw [c2, hb]
        · have e9 : u_c 324 [.inr (.inr 67), .inl (zi 2)] sM = some (none, (y_u (y_u sM.1 65 2 (Int32.ofInt 1)) 65 3 (sM.1 65 7), sM.2)) := by
            rw [b_324, m6, if_neg z_lt00, m2, hb, if_pos (show tx_so 276 = Int32.ofInt 3 from rfl)]
          rw [ew2] at e9
          cases e9
          simp [y_u]
          rfl
        · have e9 : u_c 324 [.inr (.inr 67), .inl (zi 2)] sM = some (none, (y_u (y_u sM.1 65 2 (Int32.ofInt 1)) 65 3 (sM.1 65 7), sM.2)) := by
            rw [b_324, m6, if_neg z_lt00, m2, hb, if_pos (show tx_so 276 = Int32.ofInt 3 from rfl)]
          rw [ew2] at e9
          cases e9
          simp [y_u, m1]
      · obtain ⟨x1, x2, x3⟩ := c3 hb
        refine ⟨sCw, sMw, ?_, hMw, ⟨p_wJ ew3 ew4, ew5, ew6⟩, fun e => absurd e (jC_ne ew4)⟩
        rw [b_106, if_pos x2, if_neg (by rw [c2, zk_iff (by omega) (by omega)]; exact hk)]
        have : (Int32.ofInt 2) = zi 2 := rfl
        rw [this, ew1, u_bvS]
  · obtain ⟨f, q, h⟩ := h
    have h' := h
    obtain ⟨f1, f5, hq, k1, k2, k3, k4, k5⟩ := h'
    refine ⟨sC, sM, ?_, ?_, ⟨p_wJ hj h, u_fr.rf, u_fr.rf⟩, fun e => absurd e (jC_ne h)⟩
    · rw [b_106, k1, if_neg (zf_ne f1 f5)]
    · rw [b_318, k4, if_pos (zf_pos f1 f5)]
/-- a number between -/
theorem p_number (hT : tx_T ch n) (hJ : jJ ch n W sC sM) {lo hi : Nat} (hlo : lo ≤ 10000) (hhi : hi ≤ 10000) : ∃ vC vM sC2 sM2, u_c 118 [.inr (.inr 29), .inl (zi lo), .inl (zi hi)] sC = some (some (.inl vC), sC2) ∧ u_c 311 [.inr (.inr 67), .inl (zi lo), .inl (zi hi)] sM = some (some (.inl vM), sM2) ∧ p_OK ch n W sC sM sC2 sM2 ∧ (sM2.1 65 2 = 0 → ∃ τ, jN ch n τ sC sM ∧ τ.2.1 = 274 ∧ lo ≤ τ.2.2.1 ∧ τ.2.2.1 ≤ hi ∧ vC = zi τ.2.2.1 ∧ vM = zi τ.2.2.1 ∧ jN ch n (tx_tk ch n τ.2.2.2) sC2 sM2) := by
  have hJ2 := hJ
  obtain ⟨hj, h | h⟩ := hJ2
  · obtain ⟨τ, h⟩ := h
    have h' := h
    obtain ⟨hV, ⟨c1, c2, c3, c4, c5, c6⟩, m1, m2, m3, m4, m5, m6, m7⟩ := h'
    have hV5 := hV.2.2.2.2.1
    have hV4 := hV.2.2.2.1
    by_cases hk : τ.2.1 = 274
    · obtain ⟨x1, x2, x3⟩ := c3 (by omega)
      have n1 := c4 hk
      have n2 := m4 hk
      have q1 : zi τ.2.2.1 < zi lo ↔ τ.2.2.1 < lo := zi_lt (by omega) (by omega)
      have q2 : zi hi < zi τ.2.2.1 ↔ hi < τ.2.2.1 := zi_lt (by omega) (by omega)
      have hc2 : sC.1 27 4 = u_k 274 := by rw [c2, hk]; exact (u_kz 274).symm
      have hm2 : sM.1 65 6 = Int32.ofInt 2 := by rw [m2, hk]; rfl
      by_cases hr : τ.2.2.1 < lo ∨ hi < τ.2.2.1
      · obtain ⟨sCw, sMw, fw, qw, ew1, ew2, ew3, ew4, ew5, ew6⟩ := p_wrong hJ hT (x := 4) (by omega) (by omega)
        have h4 : (Int32.ofInt 4) = zi 4 := rfl
        have hne := jC_ne ew4
        have e41 : ∀ li ll, u g_t311 41 (li, ll, [(0, 67)]) [] sM = some (some (.inl (sMw.1 65 8)), sMw) := by
          intro li ll
          rw [b_311_41, h4, ew2, u_bvS, if_neg hne]
        refine ⟨zi lo, sMw.1 65 8, sCw, sMw, ?_, ?_, ⟨p_wJ ew3 ew4, ew5, ew6⟩, fun e => absurd e hne⟩
        · rw [b_118, if_pos hc2, n1]
          by_cases hl : τ.2.2.1 < lo
          · rw [if_pos (q1.mpr hl), h4, ew1, u_bvS]
          · rw [if_neg (fun e => hl (q1.mp e)), if_pos (q2.mpr (by omega)), h4, ew1, u_bvS]
        · rw [b_311, m6, if_neg z_lt00, if_pos hm2, n2]
          by_cases hl : τ.2.2.1 < lo
          · rw [if_pos (q1.mpr hl), e41]
          · rw [if_neg (fun e => hl (q1.mp e)), if_pos (q2.mpr (by omega)), e41]
      · obtain ⟨sC2, sM2, e1, e2, e3, e4, e5, e6⟩ := p_next hT hj h (by omega)
        refine ⟨zi τ.2.2.1, zi τ.2.2.1, sC2, sM2, ?_, ?_, ⟨p_nJ e3 e4, e5, e6⟩, fun _ => ⟨τ, h, hk, by omega, by omega, rfl, rfl, e4⟩⟩
        · rw [b_118, if_pos hc2, n1, if_neg (fun e => hr (Or.inl (q1.mp e))), if_neg (fun e => hr (Or.inr (q2.mp e))), e1, u_bvS]
        · rw [b_311, m6, if_neg z_lt00, if_pos hm2, n2, if_neg (fun e => hr (Or.inl (q1.mp e))), if_neg (fun e => hr (Or.inr (q2.mp e))), if_pos rfl, e2, u_bvS]
    · obtain ⟨sCw, sMw, fw, qw, ew1, ew2, ew3, ew4, ew5, ew6⟩ := p_wrong hJ hT (x := 2) (by omega) (by omega)
      have h4 : (Int32.ofInt 2) = zi 2 := rfl
      have hne := jC_ne ew4
      refine ⟨zi lo, sMw.1 65 8, sCw, sMw, ?_, ?_, ⟨p_wJ ew3 ew4, ew5, ew6⟩, fun e => absurd e hne⟩
      · rw [b_118, if_neg (by rw [c2, show u_k 274 = zi 274 from u_kz 274, zk_iff (by omega) (by omega)]; exact hk), h4, ew1, u_bvS]
      · rw [b_311, m6, if_neg z_lt00, if_neg (by rw [m2, tx_so2 hV]; exact hk), h4, ew2, u_bvS, if_neg hne]
  · obtain ⟨f, q, h⟩ := h
    obtain ⟨sCw, sMw, fw, qw, ew1, ew2, ew3, ew4, ew5, ew6⟩ := p_wrong hJ hT (x := 2) (by omega) (by omega)
    have h4 : (Int32.ofInt 2) = zi 2 := rfl
    have h' := h
    obtain ⟨f1, f5, hq, k1, k2, k3, k4, k5⟩ := h'
    have hM : sMw = sM := by
      rw [b_324, k4, if_pos (zf_pos f1 f5)] at ew2
      cases ew2
      rfl
    subst hM
    refine ⟨zi lo, Int32.ofInt 0, sCw, sMw, ?_, ?_, ⟨p_wJ ew3 ew4, ew5, u_fr.rf⟩, fun e => absurd e (jC_ne ew4)⟩
    · rw [b_118, if_neg (by rw [k3, show u_k 274 = zi 274 from u_kz 274, zk_iff (by omega) (by omega)]; omega), h4, ew1, u_bvS]
    · rw [b_311, k4, if_pos (zf_pos f1 f5)]
end WORD
