/-! names -/
def tx_n8 (l : List Nat) : Prop := l.length ≤ 8 ∧ tx_ok l
def nmC (o cnt : Nat) (NM : Nat → List Nat) (s : u_H) : Prop := ∀ k, k < cnt → tx_n8 (NM k) ∧ s.2.1 o k = zl (tx_nN (NM k))
def nmM (fr cnt : Nat) (NM : Nat → List Nat) (s : u_H) : Prop := ∀ k, k < cnt → s.2.1 67 (fr + k) = zl (tx_nW (NM k))
def tx_fst (NM : Nat → List Nat) (l : List Nat) : Nat → Nat → Option Nat
  | 0, _ => none
  | f + 1, i => if NM i = l then some i else tx_fst NM l f (i + 1)
def tx_las (NM : Nat → List Nat) (l : List Nat) : Nat → Option Nat
  | 0 => none
  | c + 1 => if NM c = l then some c else tx_las NM l c
noncomputable def zo (x : Option Nat) : Int32 := match x with
  | some k => zi k
  | none => u_k (-1)
theorem tx_fstS {NM : Nat → List Nat} {l : List Nat} : ∀ (f i k : Nat), tx_fst NM l f i = some k → i ≤ k ∧ k < i + f ∧ NM k = l
  | 0, _, _, h => by cases h
  | f + 1, i, k, h => by
    unfold tx_fst at h
    by_cases e : NM i = l
    · rw [if_pos e] at h
      cases h
      exact ⟨Nat.le_refl _, by omega, e⟩
    · rw [if_neg e] at h
      have := tx_fstS f (i + 1) k h
      exact ⟨by omega, by omega, this.2.2⟩
theorem tx_fstN {NM : Nat → List Nat} {l : List Nat} : ∀ (f i k : Nat), tx_fst NM l f i = none → i ≤ k → k < i + f → NM k ≠ l
  | 0, _, _, _, h1, h2 => by omega
  | f + 1, i, k, h, h1, h2 => by
    unfold tx_fst at h
    by_cases e : NM i = l
    · rw [if_pos e] at h
      cases h
    · rw [if_neg e] at h
      rcases Nat.eq_or_lt_of_le h1 with q | q
      · rw [← q]
        exact e
      · exact tx_fstN f (i + 1) k h q (by omega)
theorem tx_lasS {NM : Nat → List Nat} {l : List Nat} : ∀ (c k : Nat), tx_las NM l c = some k → k < c ∧ NM k = l
  | 0, _, h => by cases h
  | c + 1, k, h => by
    unfold tx_las at h
    by_cases e : NM c = l
    · rw [if_pos e] at h
      cases h
      exact ⟨by omega, e⟩
    · rw [if_neg e] at h
      have := tx_lasS c k h
      exact ⟨by omega, this.2⟩
theorem tx_lasN {NM : Nat → List Nat} {l : List Nat} : ∀ (c k : Nat), tx_las NM l c = none → k < c → NM k ≠ l
  | 0, _, _, h => by omega
  | c + 1, k, h, hk => by
    unfold tx_las at h
    by_cases e : NM c = l
    · rw [if_pos e] at h
      cases h
    · rw [if_neg e] at h
      rcases Nat.lt_or_ge k c with q | q
      · exact tx_lasN c k h q
      · rw [show k = c by omega]
        exact e
/-- both searches find alike -/
theorem tx_fl {NM : Nat → List Nat} {l : List Nat} {c : Nat} : (tx_fst NM l c 0 = none ↔ tx_las NM l c = none) := by
  constructor
  · intro h
    cases h2 : tx_las NM l c with
    | none => rfl
    | some k =>
      have := tx_lasS c k h2
      exact absurd this.2 (tx_fstN c 0 k h (by omega) (by omega))
  · intro h
    cases h2 : tx_fst NM l c 0 with
    | none => rfl
    | some k =>
      have := tx_fstS c 0 k h2
      exact absurd this.2.2 (tx_lasN c k h (by omega))
theorem tx_fleq {NM : Nat → List Nat} {l : List Nat} {c : Nat} (hd : ∀ j k, j < c → k < c → NM j = NM k → j = k) : tx_fst NM l c 0 = tx_las NM l c := by
  cases h : tx_fst NM l c 0 with
  | none => rw [tx_fl.mp h]
  | some k =>
    cases h2 : tx_las NM l c with
    | none => rw [tx_fl.mpr h2] at h; cases h
    | some j =>
      have a1 := tx_fstS c 0 k h
      have a2 := tx_lasS c j h2
      rw [hd k j (by omega) a2.1 (by rw [a1.2.2, a2.2])]
section FIND
variable {s : u_H} {W : Nat} {NM : Nat → List Nat} {l : List Nat}
theorem c_finds (hW : W = 5 ∨ W = 17) {cnt : Nat} (hc : cnt ≤ 5) (hN : nmC (W - 1) cnt NM s) (hl : tx_n8 l) : ∀ (f i : Nat) (li : Nat → Int32) (ll : Nat → Int64), cnt - i ≤ f → i ≤ cnt → li 1 = zi cnt → li 4 = zi i → ll 2 = zl (tx_nN l) → u g_t107 3 (li, ll, [(0, W + 1)]) [] s = some (some (.inl (zo (tx_fst NM l (cnt - i) i))), s) := by
  intro f
  induction f with
  | zero =>
    intro i li ll hf hi h1 h4 h2
    rw [b_107_3s hW, h1, h4, if_neg (by rw [zi_lt (by omega) (by omega)]; omega), show cnt - i = 0 by omega]
    rfl
  | succ f ih =>
    intro i li ll hf hi h1 h4 h2
    rcases Nat.lt_or_ge i cnt with q | q
    · obtain ⟨n1, n2⟩ := hN i q
      rw [b_107_3s hW, h1, h4, if_pos (by rw [zi_lt (by omega) (by omega)]; exact q), if_pos (by rw [show Int32.ofNat 5 = zi 5 from rfl, zi_lt (by omega) (by omega)]; omega), if_pos ((u_inz (by omega)).mpr (by omega)), zi_clamp (by omega), n2, h2]
      rw [show cnt - i = (cnt - (i + 1)) + 1 by omega]
      unfold tx_fst
      have hcmp : lg_cmp (zl (tx_nN (NM i))) (zl (tx_nN l)) = 0 ↔ NM i = l := (lg_cmp_eq _ _).trans (tx_nNi n1.1 hl.1 n1.2 hl.2)
      by_cases e : NM i = l
      · rw [if_pos (hcmp.mpr e), if_pos e]
        rfl
      · rw [if_neg (fun x => e (hcmp.mp x)), if_neg e, zi_one]
        exact ih (i + 1) _ ll (by omega) (by omega) ((u_l1N (by omega)).trans h1) (u_l1E _ _ _) h2
    · rw [b_107_3s hW, h1, h4, if_neg (by rw [zi_lt (by omega) (by omega)]; omega), show cnt - i = 0 by omega]
      rfl
theorem c_findq (hW : W = 5 ∨ W = 17) {cnt : Nat} (hc : cnt ≤ 7) (hN : nmC (W + 2) cnt NM s) (hl : tx_n8 l) : ∀ (f i : Nat) (li : Nat → Int32) (ll : Nat → Int64), cnt - i ≤ f → i ≤ cnt → li 1 = zi cnt → li 4 = zi i → ll 2 = zl (tx_nN l) → u g_t107 3 (li, ll, [(0, W + 4)]) [] s = some (some (.inl (zo (tx_fst NM l (cnt - i) i))), s) := by
  intro f
  induction f with
  | zero =>
    intro i li ll hf hi h1 h4 h2
    rw [b_107_3q hW, h1, h4, if_neg (by rw [zi_lt (by omega) (by omega)]; omega), show cnt - i = 0 by omega]
    rfl
  | succ f ih =>
    intro i li ll hf hi h1 h4 h2
    rcases Nat.lt_or_ge i cnt with q | q
    · obtain ⟨n1, n2⟩ := hN i q
      rw [b_107_3q hW, h1, h4, if_pos (by rw [zi_lt (by omega) (by omega)]; exact q), if_pos (by rw [show Int32.ofNat 7 = zi 7 from rfl, zi_lt (by omega) (by omega)]; omega), if_pos ((u_inz (by omega)).mpr (by omega)), zi_clamp (by omega), n2, h2]
      rw [show cnt - i = (cnt - (i + 1)) + 1 by omega]
      unfold tx_fst
      have hcmp : lg_cmp (zl (tx_nN (NM i))) (zl (tx_nN l)) = 0 ↔ NM i = l := (lg_cmp_eq _ _).trans (tx_nNi n1.1 hl.1 n1.2 hl.2)
      by_cases e : NM i = l
      · rw [if_pos (hcmp.mpr e), if_pos e]
        rfl
      · rw [if_neg (fun x => e (hcmp.mp x)), if_neg e, zi_one]
        exact ih (i + 1) _ ll (by omega) (by omega) ((u_l1N (by omega)).trans h1) (u_l1E _ _ _) h2
    · rw [b_107_3q hW, h1, h4, if_neg (by rw [zi_lt (by omega) (by omega)]; omega), show cnt - i = 0 by omega]
      rfl
theorem c_find_s (hW : W = 5 ∨ W = 17) {cnt : Nat} (hc : cnt ≤ 5) (hN : nmC (W - 1) cnt NM s) (hl : tx_n8 l) : u_c 107 [.inr (.inr (W + 1)), .inl (zi cnt), .inr (.inl (zl (tx_nN l)))] s = some (some (.inl (zo (tx_fst NM l cnt 0))), s) := by
  rw [b_107s hW]
  exact c_finds hW hc hN hl cnt 0 _ _ (by omega) (by omega) ((u_l1N (by omega)).trans (u_l1E _ _ _)) (u_l1E _ _ _) (u_l1E _ _ _)
theorem c_find_q (hW : W = 5 ∨ W = 17) {cnt : Nat} (hc : cnt ≤ 7) (hN : nmC (W + 2) cnt NM s) (hl : tx_n8 l) : u_c 107 [.inr (.inr (W + 4)), .inl (zi cnt), .inr (.inl (zl (tx_nN l)))] s = some (some (.inl (zo (tx_fst NM l cnt 0))), s) := by
  rw [b_107q hW]
  exact c_findq hW hc hN hl cnt 0 _ _ (by omega) (by omega) ((u_l1N (by omega)).trans (u_l1E _ _ _)) (u_l1E _ _ _) (u_l1E _ _ _)
theorem m_find5 {fr cnt : Nat} (hf : fr ≤ 5) (hc : fr + cnt ≤ 12) (hN : nmM fr cnt NM s) (hN8 : ∀ k, k < cnt → tx_n8 (NM k)) (hl : tx_n8 l) (hw : s.2.1 65 9 = zl (tx_nW l)) : ∀ (f i : Nat) (li : Nat → Int32) (ll : Nat → Int64), cnt - i ≤ f → i ≤ cnt → li 1 = zi fr → li 2 = zi cnt → li 3 = zo (tx_las NM l i) → li 4 = zi i → u g_t204 5 (li, ll, [(0, 67)]) [] s = some (some (.inl (zo (tx_las NM l cnt))), s) := by
  intro f
  induction f with
  | zero =>
    intro i li ll hf2 hi h1 h2 h3 h4
    rw [b_204_5, h2, h4, if_neg (by rw [zi_lt (by omega) (by omega)]; omega), h3, show i = cnt by omega]
  | succ f ih =>
    intro i li ll hf2 hi h1 h2 h3 h4
    rcases Nat.lt_or_ge i cnt with q | q
    · have n1 := hN8 i q
      have n2 := hN i q
      rw [b_204_5, h2, h4, if_pos (by rw [zi_lt (by omega) (by omega)]; exact q), h1, zi_add, if_pos ((u_inz (by omega)).mpr (by omega)), zi_clamp (by omega), n2, hw]
      have hcmp : lg_cmp (zl (tx_nW (NM i))) (zl (tx_nW l)) = 0 ↔ NM i = l := (lg_cmp_eq _ _).trans (tx_nWi n1.1 hl.1 n1.2 hl.2)
      have hsucc : tx_las NM l (i + 1) = if NM i = l then some i else tx_las NM l i := rfl
      by_cases e : NM i = l
      · rw [if_pos (hcmp.mpr e), zi_one]
        rw [if_pos e] at hsucc
        exact ih (i + 1) _ ll (by omega) (by omega) ((u_l1N (by omega)).trans ((u_l1N (by omega)).trans h1)) ((u_l1N (by omega)).trans ((u_l1N (by omega)).trans h2)) ((u_l1N (by omega)).trans ((u_l1E _ _ _).trans (by rw [hsucc]; rfl))) (u_l1E _ _ _)
      · rw [if_neg (fun x => e (hcmp.mp x)), zi_one]
        rw [if_neg e] at hsucc
        exact ih (i + 1) _ ll (by omega) (by omega) ((u_l1N (by omega)).trans ((u_l1N (by omega)).trans h1)) ((u_l1N (by omega)).trans ((u_l1N (by omega)).trans h2)) ((u_l1N (by omega)).trans ((u_l1E _ _ _).trans (by rw [hsucc]; exact h3))) (u_l1E _ _ _)
    · rw [b_204_5, h2, h4, if_neg (by rw [zi_lt (by omega) (by omega)]; omega), h3, show i = cnt by omega]
theorem m_find {fr cnt : Nat} (hf : fr ≤ 5) (hc : fr + cnt ≤ 12) (hN : nmM fr cnt NM s) (hN8 : ∀ k, k < cnt → tx_n8 (NM k)) (hl : tx_n8 l) (hw : s.2.1 65 9 = zl (tx_nW l)) : u_c 204 [.inr (.inr 67), .inl (zi fr), .inl (zi cnt)] s = some (some (.inl (zo (tx_las NM l cnt))), s) := by
  rw [b_204]
  exact m_find5 hf hc hN hN8 hl hw cnt 0 _ _ (by omega) (by omega) ((u_l1N (by omega)).trans ((u_l1N (by omega)).trans ((u_l1N (by omega)).trans (u_l1E _ _ _)))) ((u_l1N (by omega)).trans ((u_l1N (by omega)).trans (u_l1E _ _ _))) ((u_l1N (by omega)).trans (u_l1E _ _ _)) (u_l1E _ _ _)
end FIND
theorem zo_none {x : Option Nat} (h : ∀ k, x = some k → k < 4000) : zo x = u_k (-1) ↔ x = none := by
  cases x with
  | none => exact ⟨fun _ => rfl, fun _ => rfl⟩
  | some k =>
    refine ⟨fun e => ?_, fun e => by cases e⟩
    have hk := h k rfl
    have e2 : zi k = u_k (-1) := e
    rw [t_m1] at e2
    have h3 : (zi k).toInt = (Int32.ofInt (-1)).toInt := by rw [e2]
    rw [zi_int (by omega)] at h3
    have h4 : (Int32.ofInt (-1)).toInt = -1 := by decide
    omega
theorem zo_neg {x : Option Nat} (h : ∀ k, x = some k → k < 4000) : zo x < 0 ↔ x = none := by
  cases x with
  | none =>
    refine ⟨fun _ => rfl, fun _ => ?_⟩
    show u_k (-1) < 0
    rw [t_m1]
    decide
  | some k => exact ⟨fun e => absurd e (zi_nonneg (by have := h k rfl; omega)), fun e => by cases e⟩
