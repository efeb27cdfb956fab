/-! WHAT A CALL DOES, BY CONTRACT AND AS A FUNCTION -/
def uP (s : y_H) : u_H := (s.1, s.2.1, (s.2.2 0 2, s.2.2 0 3, s.2.2 27 1, s.2.2 36 0))
def z_k3l (o len sz : Nat) : Nat → List w_A → Bool
  | _, [] => true
  | i, A :: l => (bif Nat.beq (y_k1 (some A)) 3 then Nat.blt (u_kn o i) 4 && Nat.beq len sz else true) && z_k3l o len sz (i + 1) l
def z_k3 : Nat → w_Sh → Bool
  | _, [] => true
  | o, q :: sh => z_k3l o q.2.2.length q.2.1 0 q.2.2 && z_k3 (o + 1) sh
theorem z_k3ok : z_k3 0 g_sh = true := by decide +kernel
theorem z_k3l_at {o len sz : Nat} : ∀ (l : List w_A) (b i : Nat) (A : w_A), z_k3l o len sz b l = true → l[i]? = some A → y_k1 (some A) = 3 → u_kn o (b + i) < 4 ∧ len = sz
  | [], _, _, _, _, h, _ => by cases h
  | B :: l, b, i, A, h, hi, h3 => by
    unfold z_k3l at h
    rw [Bool.and_eq_true] at h
    rcases i with _ | i
    · cases hi
      have h1 := h.1
      rw [h3] at h1
      have h1 : (Nat.blt (u_kn o b) 4 && Nat.beq len sz) = true := h1
      rw [Bool.and_eq_true] at h1
      exact ⟨q_blt h1.1, Nat.eq_of_beq_eq_true h1.2⟩
    · rw [show b + (i + 1) = b + 1 + i by omega]
      exact z_k3l_at l (b + 1) i A h.2 (by simpa using hi) h3
theorem z_k3_at : ∀ (sh : w_Sh) (b o : Nat) (q : Nat × Nat × List w_A), z_k3 b sh = true → sh[o]? = some q → z_k3l (b + o) q.2.2.length q.2.1 0 q.2.2 = true
  | [], _, _, _, _, h => by cases h
  | x :: sh, b, o, q, h, ho => by
    unfold z_k3 at h
    rw [Bool.and_eq_true] at h
    rcases o with _ | o
    · cases ho
      exact h.1
    · rw [show b + (o + 1) = b + 1 + o by omega]
      exact z_k3_at sh (b + 1) o q h.2 (by simpa using ho)
theorem z_kn {a b : Nat} (hh : u_kn a b < 4) : (u_kn a b = 0 ∧ a = 0 ∧ b = 2) ∨ (u_kn a b = 1 ∧ a = 0 ∧ b = 3) ∨ (u_kn a b = 2 ∧ a = 27 ∧ b = 1) ∨ (u_kn a b = 3 ∧ a = 36 ∧ b = 0) := by
  unfold u_kn at hh ⊢
  by_cases h1 : a = 0
  · subst h1
    rw [show Nat.beq 0 0 = true from rfl, cond_true] at hh ⊢
    by_cases h2 : b = 2
    · subst h2
      exact Or.inl ⟨rfl, rfl, rfl⟩
    · rw [nbF h2, cond_false] at hh ⊢
      by_cases h3 : b = 3
      · subst h3
        exact Or.inr (Or.inl ⟨rfl, rfl, rfl⟩)
      · rw [nbF h3, cond_false] at hh
        omega
  · rw [nbF h1, cond_false] at hh ⊢
    by_cases h2 : a = 27
    · subst h2
      rw [show Nat.beq 27 27 = true from rfl, cond_true] at hh ⊢
      by_cases h3 : b = 1
      · subst h3
        exact Or.inr (Or.inr (Or.inl ⟨rfl, rfl, rfl⟩))
      · rw [nbF h3, cond_false] at hh
        omega
    · rw [nbF h2, cond_false] at hh ⊢
      by_cases h4 : a = 36
      · subst h4
        rw [show Nat.beq 36 36 = true from rfl, cond_true] at hh ⊢
        by_cases h3 : b = 0
        · subst h3
          exact Or.inr (Or.inr (Or.inr ⟨rfl, rfl, rfl⟩))
        · rw [nbF h3, cond_false] at hh
          omega
      · rw [nbF h4, cond_false] at hh
        omega
theorem z_k1 (A : Option w_A) : y_k1 A ≠ 1 := by
  unfold y_k1
  split <;> omega
theorem uP_mk {s : y_H} {o k : Nat} {q : Nat × Nat × List w_A} (ho : g_sh[o]? = some q) (hk : k < q.2.1) : y_mk g_sh (u_y (uP s)) o k = y_mk g_sh s o k := by
  have hkd : y_kd g_sh o k = y_k1 (q.2.2[k % q.2.2.length]?) := by
    unfold y_kd
    rw [ho]
  show y_v (y_kd g_sh o k) (u_y (uP s)) o k = y_v (y_kd g_sh o k) s o k
  have h1 : y_kd g_sh o k ≠ 1 := by
    rw [hkd]
    exact z_k1 _
  have h3 : y_kd g_sh o k = 3 → u_kn o k < 4 := by
    intro e
    rw [hkd] at e
    cases hA : q.2.2[k % q.2.2.length]? with
    | none =>
      rw [hA] at e
      cases e
    | some A =>
      rw [hA] at e
      have hq := z_k3_at g_sh 0 o q z_k3ok ho
      rw [Nat.zero_add] at hq
      obtain ⟨x1, x2⟩ := z_k3l_at q.2.2 0 _ A hq hA e
      rw [Nat.zero_add, x2, Nat.mod_eq_of_lt hk] at x1
      exact x1
  revert h1 h3
  generalize y_kd g_sh o k = kd
  intro h1 h3
  match kd, h1, h3 with
  | 0, _, _ => rfl
  | 1, h1, _ => exact absurd rfl h1
  | 2, _, _ => rfl
  | 3, _, h3 =>
    show (Sum.inr (Sum.inr (u_kg (u_kn o k) (uP s).2.2)) : q_V Int32) = Sum.inr (Sum.inr (s.2.2 o k))
    rcases z_kn (h3 rfl) with ⟨e, rfl, rfl⟩ | ⟨e, rfl, rfl⟩ | ⟨e, rfl, rfl⟩ | ⟨e, rfl, rfl⟩
    · rfl
    · rfl
    · rfl
    · rfl
  | n + 4, _, _ => rfl
theorem z_cell {h : q_H Int32} {σ : w_G} {o : Nat} {c : q_C Int32} (hR : w_Rep g_sh h σ) (hc : h[o]? = some c) : ∃ q, g_sh[o]? = some q ∧ q.2.1 = c.2.1 := by
  have h1 := hR.1 o
  rw [hc] at h1
  cases hs : g_sh[o]? with
  | none => rw [hs] at h1; cases h1
  | some z =>
    rw [hs] at h1
    have e : (c.1, c.2.1) = (z.1, z.2.1) := Option.some.inj h1
    exact ⟨z, rfl, (congrArg Prod.snd e).symm⟩
theorem z_cell2 {h : q_H Int32} {σ : w_G} {o : Nat} {q : Nat × Nat × List w_A} (hR : w_Rep g_sh h σ) (hq : g_sh[o]? = some q) : ∃ c, h[o]? = some c ∧ q.2.1 = c.2.1 := by
  have h1 := hR.1 o
  rw [hq] at h1
  cases hs : h[o]? with
  | none => rw [hs] at h1; cases h1
  | some z =>
    rw [hs] at h1
    have e : (z.1, z.2.1) = (q.1, q.2.1) := Option.some.inj h1
    exact ⟨z, rfl, (congrArg Prod.snd e).symm⟩
theorem z_Rep {h : q_H Int32} {s : y_H} (hR : w_Rep g_sh h (y_mk g_sh s)) : u_Rep h (uP s) := by
  refine u_Repc hR (fun o c hc k hk => ?_)
  obtain ⟨q, hq, e⟩ := z_cell hR hc
  exact (uP_mk hq (by omega)).symm
/-- two pictures of one heap -/
def zA (t : u_H) (s : y_H) : Prop := ∀ (o k : Nat) (q : Nat × Nat × List w_A), g_sh[o]? = some q → k < q.2.1 → y_mk g_sh (u_y t) o k = y_mk g_sh s o k
theorem z_agree {h : q_H Int32} {t : u_H} {s : y_H} (h1 : u_Rep h t) (h2 : w_Rep g_sh h (y_mk g_sh s)) : zA t s := by
  intro o k q hq hk
  obtain ⟨c, hc, e⟩ := z_cell2 h2 hq
  obtain ⟨a1, a2⟩ := h1.2 o c hc k (by omega)
  obtain ⟨b1, b2⟩ := h2.2 o c hc k (by omega)
  rcases Nat.lt_or_ge c.1 100 with q1 | q1
  · have := (a1 q1).symm.trans (b1 q1)
    exact Option.some.inj this
  · exact (a2 q1).symm.trans (b2 q1)
theorem zA.i {t : u_H} {s : y_H} (h : zA t s) {o k : Nat} {q : Nat × Nat × List w_A} (hq : g_sh[o]? = some q) (hk : k < q.2.1) (h0 : y_kd g_sh o k = 0) : t.1 o k = s.1 o k := by
  have e := h o k q hq hk
  have e1 : y_mk g_sh (u_y t) o k = .inl (t.1 o k) := by
    show y_v (y_kd g_sh o k) (u_y t) o k = _
    rw [h0]
    rfl
  have e2 : y_mk g_sh s o k = .inl (s.1 o k) := by
    show y_v (y_kd g_sh o k) s o k = _
    rw [h0]
    rfl
  rw [e1, e2] at e
  injection e
/-- a contract tells what the function does -/
theorem y_C.u {k D : Nat} {P : List (q_V Int32) → y_H → Prop} {Q : List (q_V Int32) → y_H → Option (q_V Int32) → y_H → Prop} (hk : u_ok k = true) (h : y_C g_sh g_ts k D P Q) : y_C g_sh g_ts k D P (fun a s v s2 => Q a s v s2 ∧ ∃ t, u_c k a (uP s) = some (v, t) ∧ zA t s2) := by
  intro d a s hd hP hh ns hR
  obtain ⟨n, v, h2, s2, e, hR2, hQ⟩ := h d a s hd hP hh ns hR
  obtain ⟨t, e2, hRt⟩ := u_simc hk (z_Rep hR) e
  exact ⟨n, v, h2, s2, e, hR2, hQ, t, e2, z_agree hRt hR2⟩
