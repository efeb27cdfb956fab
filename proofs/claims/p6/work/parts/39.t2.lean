/-! every run of the small machine is one of the function -/
def u_rk (k : Nat) : Nat := bif Nat.testBit 34844364078513661004359658640518075052386135300329693202829855966068212163577281380553274519748609 k then 0 else bif Nat.testBit 166153499473114484112975882535043072 k then 2 else 1
/-- the methods that make no objects -/
def u_ok (k : Nat) : Bool := Nat.testBit 136703170298938245273281389194851335334573089418853051674164528386410508002195094259106897954078718 k
/-- the slots of the class ci at k hold the kind kd -/
def u_pokR (ci k kd : Nat) : Nat → w_Sh → Bool
  | _, [] => true
  | o, q :: sh => (!(Nat.beq q.1 ci) || (match kd with
    | 0 => Nat.beq (y_kd g_sh o k) 0
    | 1 => Nat.beq (y_kd g_sh o k) 0
    | 2 => Nat.beq (y_kd g_sh o k) 2
    | _ => Nat.beq (y_kd g_sh o k) 3 && Nat.blt (u_kn o k) 4)) && u_pokR ci k kd (o + 1) sh
def u_pok (ci k kd : Nat) : Bool := Nat.blt kd 4 && u_pokR ci k kd 0 g_sh
def u_qok (rk : Nat) (q : q_I) : Bool := match q.1 with
  | .ireturn => Nat.beq rk 1
  | .lreturn => Nat.beq rk 2
  | .return_ => Nat.beq rk 0
  | .bipush n => decide (-128 ≤ n ∧ n ≤ 127)
  | .sipush n => decide (-32768 ≤ n ∧ n ≤ 32767)
  | .new _ => false
  | .newarray _ => false
  | .getfield _ => (match q.2.2 with
    | ci :: _ => Nat.blt ci 100
    | _ => true)
  | .putfield _ => (match q.2.2 with
    | ci :: k :: kd :: _ => Nat.blt ci 100 && u_pok ci k kd
    | _ => true)
  | .getstatic _ => (match q.2.2 with
    | [_, c1, _, c2, _] => Nat.blt c1 100 && Nat.blt c2 100
    | [_, c1, _, c2, _, _] => Nat.blt c1 100 && Nat.blt c2 100
    | _ => true)
  | .invokevirtual _ => (match q.2.2 with
    | k :: _ :: _ :: _ => u_ok k
    | _ => true)
  | .invokestatic _ => (match q.2.2 with
    | k :: _ :: _ :: _ => u_ok k
    | _ => true)
  | .invokespecial _ => (match q.2.2 with
    | k :: _ :: _ :: _ => u_ok k
    | _ => true)
  | .tableswitch _ lo hi _ => (match q.2.2 with
    | _ :: tgs => decide (-2147483648 ≤ lo ∧ lo ≤ hi ∧ hi ≤ 2147483647 ∧ hi - lo + 1 = (tgs.length : Int))
    | _ => true)
  | _ => true
/-- a lookupswitch's own places -/
def u_lok (pc : Nat) (q : q_I) : Bool := match q.1 with
  | .lookupswitch d ps => decide (0 ≤ (pc : Int) + d) && ps.toList.all (fun q => decide (-2147483648 ≤ q.1 ∧ q.1 ≤ 2147483647 ∧ 0 ≤ (pc : Int) + q.2))
  | _ => true
def u_rok (rk : Nat) : Nat → List q_I → Bool
  | _, [] => true
  | pc, q :: r => u_qok rk q && (u_lok pc q && u_rok rk (pc + 1) r)
def u_tok (rk : Nat) : Nat → q_T → Bool
  | _, [] => true
  | i, l :: r => u_rok rk (16 * i) l && (Nat.ble l.length 16 && u_tok rk (i + 1) r)
def u_tsok : Nat → List q_T → Bool
  | _, [] => true
  | k, t :: r => (!(u_ok k) || u_tok (u_rk k) 0 t) && u_tsok (k + 1) r
theorem u_all : u_tsok 0 g_ts = true := by decide +kernel
theorem u_rok_at {rk : Nat} : ∀ (l : List q_I) (pc i : Nat) (q : q_I), u_rok rk pc l = true → l[i]? = some q → u_qok rk q = true ∧ u_lok (pc + i) q = true
  | [], _, _, _, _, h => by cases h
  | x :: l, pc, i, q, h, hi => by
    have h1 : (u_qok rk x && (u_lok pc x && u_rok rk (pc + 1) l)) = true := h
    simp only [Bool.and_eq_true] at h1
    rcases i with _ | i
    · cases hi
      exact ⟨h1.1, h1.2.1⟩
    · have h2 := u_rok_at l (pc + 1) i q h1.2.2 (by simpa using hi)
      rw [show pc + (i + 1) = pc + 1 + i by omega]
      exact h2
theorem u_tok_at {rk : Nat} : ∀ (t : q_T) (i j : Nat) (l : List q_I), u_tok rk i t = true → t[j]? = some l → u_rok rk (16 * (i + j)) l = true
  | [], _, _, _, _, h => by cases h
  | x :: t, i, j, l, h, hj => by
    have h1 : (u_rok rk (16 * i) x && (Nat.ble x.length 16 && u_tok rk (i + 1) t)) = true := h
    simp only [Bool.and_eq_true] at h1
    rcases j with _ | j
    · cases hj
      exact h1.1
    · have h2 := u_tok_at t (i + 1) j l h1.2.2 (by simpa using hj)
      rw [show i + (j + 1) = i + 1 + j by omega]
      exact h2
theorem u_get_ok {rk : Nat} {t : q_T} (h : u_tok rk 0 t = true) {p : Nat} {q : q_I} (hq : q_get t p = some q) : u_qok rk q = true ∧ u_lok p q = true := by
  unfold q_get at hq
  split at hq
  next l hl =>
    have h1 := u_tok_at t 0 (p / 16) l h hl
    have h2 := u_rok_at l _ _ q h1 hq
    refine ⟨h2.1, ?_⟩
    rw [show 16 * (0 + p / 16) + p % 16 = p by omega] at h2
    exact h2.2
  next => cases hq
theorem u_tsok_at : ∀ (l : List q_T) (i j : Nat) (t : q_T), u_tsok i l = true → l[j]? = some t → u_ok (i + j) = true → u_tok (u_rk (i + j)) 0 t = true
  | [], _, _, _, _, h, _ => by cases h
  | x :: l, i, j, t, h, hj, hk => by
    have h1 : ((!(u_ok i) || u_tok (u_rk i) 0 x) && u_tsok (i + 1) l) = true := h
    rw [Bool.and_eq_true] at h1
    rcases j with _ | j
    · cases hj
      have h2 := h1.1
      rw [show u_ok i = true from hk] at h2
      exact h2
    · rw [show i + (j + 1) = i + 1 + j by omega] at hk ⊢
      exact u_tsok_at l (i + 1) j t h1.2 (by simpa using hj) hk
theorem u_tab {k : Nat} {t : q_T} (hk : u_ok k = true) (ht : g_ts[k]? = some t) : u_tok (u_rk k) 0 t = true := by
  have h := u_tsok_at g_ts 0 k t u_all ht (by rw [Nat.zero_add]; exact hk)
  rw [Nat.zero_add] at h
  exact h
theorem u_pokR_at {ci k kd : Nat} : ∀ (sh : w_Sh) (a o : Nat) (q : Nat × Nat × List w_A), u_pokR ci k kd a sh = true → sh[o]? = some q → q.1 = ci → kd < 4 → (kd = 0 ∨ kd = 1 → y_kd g_sh (a + o) k = 0) ∧ (kd = 2 → y_kd g_sh (a + o) k = 2) ∧ (kd = 3 → y_kd g_sh (a + o) k = 3 ∧ u_kn (a + o) k < 4)
  | [], _, _, _, _, h, _, _ => by cases h
  | x :: sh, a, o, q, h, ho, hc, hkd => by
    unfold u_pokR at h
    rw [Bool.and_eq_true] at h
    rcases o with _ | o
    · cases ho
      have h1 := h.1
      rw [show Nat.beq x.1 ci = true from Nat.beq_eq.mpr hc] at h1
      rcases kd with _ | _ | _ | _ | kd
      · exact ⟨fun _ => Nat.eq_of_beq_eq_true h1, fun q => by omega, fun q => by omega⟩
      · exact ⟨fun _ => Nat.eq_of_beq_eq_true h1, fun q => by omega, fun q => by omega⟩
      · exact ⟨fun q => by omega, fun _ => Nat.eq_of_beq_eq_true h1, fun q => by omega⟩
      · have h2 : (Nat.beq (y_kd g_sh a k) 3 && Nat.blt (u_kn a k) 4) = true := h1
        rw [Bool.and_eq_true] at h2
        exact ⟨fun q => by omega, fun q => by omega, fun _ => ⟨Nat.eq_of_beq_eq_true h2.1, q_blt h2.2⟩⟩
      · omega
    · have h2 := u_pokR_at sh (a + 1) o q h.2 (by simpa using ho) hc hkd
      rw [show a + (o + 1) = a + 1 + o by omega]
      exact h2
theorem u_pok_at {ci k kd o : Nat} {q : Nat × Nat × List w_A} (h : u_pok ci k kd = true) (ho : g_sh[o]? = some q) (hc : q.1 = ci) : (kd = 0 ∨ kd = 1 → y_kd g_sh o k = 0) ∧ (kd = 2 → y_kd g_sh o k = 2) ∧ (kd = 3 → y_kd g_sh o k = 3 ∧ u_kn o k < 4) := by
  unfold u_pok at h
  rw [Bool.and_eq_true] at h
  have := u_pokR_at g_sh 0 o q h.2 ho hc (q_blt h.1)
  rwa [Nat.zero_add] at this
/-! the rows of the heap: of ints, of longs -/
def u_kR : Nat → w_Sh → Bool
  | _, [] => true
  | o, q :: sh => (match q.1 with
    | 103 => q.2.2.all (fun A => Nat.beq (y_k1 (some A)) 2)
    | t => Nat.blt t 100 || q.2.2.all (fun A => Nat.beq (y_k1 (some A)) 0)) && u_kR (o + 1) sh
theorem u_kRok : u_kR 0 g_sh = true := by decide +kernel
theorem u_kR_at : ∀ (sh : w_Sh) (a o : Nat) (q : Nat × Nat × List w_A), u_kR a sh = true → sh[o]? = some q → (q.1 = 103 → ∀ A ∈ q.2.2, y_k1 (some A) = 2) ∧ (q.1 ≠ 103 → 100 ≤ q.1 → ∀ A ∈ q.2.2, y_k1 (some A) = 0)
  | [], _, _, _, _, h => by cases h
  | x :: sh, a, o, q, h, ho => by
    unfold u_kR at h
    rw [Bool.and_eq_true] at h
    rcases o with _ | o
    · cases ho
      have h1 := h.1
      split at h1
      next e =>
        rw [List.all_eq_true] at h1
        exact ⟨fun _ A hA => Nat.eq_of_beq_eq_true (h1 A hA), fun n => absurd e n⟩
      next t hn =>
        refine ⟨fun e => absurd e hn, fun _ h100 A hA => ?_⟩
        rw [Bool.or_eq_true] at h1
        rcases h1 with h1 | h1
        · have := q_blt h1
          omega
        · rw [List.all_eq_true] at h1
          exact Nat.eq_of_beq_eq_true (h1 A hA)
    · exact u_kR_at sh (a + 1) o q h.2 (by simpa using ho)
theorem u_k0 {o tag sz : Nat} {l : List w_A} (ho : g_sh[o]? = some (tag, sz, l)) (h1 : 100 ≤ tag) (h2 : tag ≠ 103) (k : Nat) : y_kd g_sh o k = 0 := by
  have h := (u_kR_at g_sh 0 o _ u_kRok ho).2 h2 h1
  unfold y_kd
  rw [ho]
  dsimp only
  have hl := (y_shok_l g_shok o _ ho).1
  have hlt : k % l.length < l.length := Nat.mod_lt _ hl
  rw [List.getElem?_eq_getElem hlt]
  exact h _ (List.getElem_mem hlt)
theorem u_k2 {o sz : Nat} {l : List w_A} (ho : g_sh[o]? = some (103, sz, l)) (k : Nat) : y_kd g_sh o k = 2 := by
  have h := (u_kR_at g_sh 0 o _ u_kRok ho).1 rfl
  unfold y_kd
  rw [ho]
  dsimp only
  have hl := (y_shok_l g_shok o _ ho).1
  have hlt : k % l.length < l.length := Nat.mod_lt _ hl
  rw [List.getElem?_eq_getElem hlt]
  exact h _ (List.getElem_mem hlt)
/-! a heap that is the function's -/
abbrev u_Rep (h : q_H Int32) (s : u_H) : Prop := w_Rep g_sh h (y_mk g_sh (u_y s))
theorem u_cell {h : q_H Int32} {s : u_H} {o : Nat} {q : q_C Int32} (hR : u_Rep h s) (hh : h[o]? = some q) : ∃ l, g_sh[o]? = some (q.1, q.2.1, l) ∧ y_ref g_sh (o + 2) = some (o, q.1, q.2.1) := by
  have h1 := hR.1 o
  rw [hh] at h1
  cases hs : g_sh[o]? with
  | none => rw [hs] at h1; cases h1
  | some z =>
    rw [hs] at h1
    obtain ⟨t, sz, l⟩ := z
    have e : (q.1, q.2.1) = (t, sz) := Option.some.inj h1
    have e1 : q.1 = t := congrArg Prod.fst e
    have e2 : q.2.1 = sz := congrArg Prod.snd e
    subst e1 e2
    refine ⟨l, rfl, ?_⟩
    unfold y_ref
    dsimp only
    rw [hs]
/-- what is in the cells counts alone -/
theorem u_Repc {h : q_H Int32} {σ σ2 : w_G} (hR : w_Rep g_sh h σ) (he : ∀ (o : Nat) (q : q_C Int32), h[o]? = some q → ∀ k, k < q.2.1 → σ o k = σ2 o k) : w_Rep g_sh h σ2 := by
  refine ⟨hR.1, fun o q hq k hk => ?_⟩
  rw [← he o q hq k hk]
  exact hR.2 o q hq k hk
theorem u_kn_inj {o k o2 k2 : Nat} (h : u_kn o k < 4) (e : u_kn o2 k2 = u_kn o k) : o2 = o ∧ k2 = k := by
  have key : ∀ a b : Nat, u_kn a b < 4 → (u_kn a b = 0 ∧ a = 0 ∧ b = 2) ∨ (u_kn a b = 1 ∧ a = 0 ∧ b = 3) ∨ (u_kn a b = 2 ∧ a = 27 ∧ b = 1) ∨ (u_kn a b = 3 ∧ a = 36 ∧ b = 0) := by
    intro a b hh
    unfold u_kn at hh ⊢
    cases h1 : Nat.beq a 0 with
    | true =>
      have e1 := Nat.eq_of_beq_eq_true h1
      rw [h1, cond_true] at hh
      cases h2 : Nat.beq b 2 with
      | true =>
        have e2 := Nat.eq_of_beq_eq_true h2
        exact Or.inl ⟨rfl, e1, e2⟩
      | false =>
        rw [h2, cond_false] at hh
        cases h3 : Nat.beq b 3 with
        | true =>
          have e2 := Nat.eq_of_beq_eq_true h3
          exact Or.inr (Or.inl ⟨rfl, e1, e2⟩)
        | false => rw [h3, cond_false] at hh; omega
    | false =>
      rw [h1, cond_false] at hh
      cases h4 : Nat.beq a 27 with
      | true =>
        have e1 := Nat.eq_of_beq_eq_true h4
        rw [h4, cond_true] at hh
        cases h2 : Nat.beq b 1 with
        | true =>
          have e2 := Nat.eq_of_beq_eq_true h2
          exact Or.inr (Or.inr (Or.inl ⟨rfl, e1, e2⟩))
        | false => rw [h2, cond_false] at hh; omega
      | false =>
        rw [h4, cond_false] at hh
        cases h5 : Nat.beq a 36 with
        | true =>
          have e1 := Nat.eq_of_beq_eq_true h5
          rw [h5, cond_true] at hh
          cases h2 : Nat.beq b 0 with
          | true =>
            have e2 := Nat.eq_of_beq_eq_true h2
            exact Or.inr (Or.inr (Or.inr ⟨rfl, e1, e2⟩))
          | false => rw [h2, cond_false] at hh; omega
        | false => rw [h5, cond_false] at hh; omega
  have a1 := key o k h
  have a2 := key o2 k2 (by omega)
  omega
theorem u_kgs {j j2 n : Nat} {K : u_K} (h : j < 4) : u_kg j2 (u_ks j n K) = if j2 = j then n else u_kg j2 K := by
  rcases (show j = 0 ∨ j = 1 ∨ j = 2 ∨ j = 3 by omega) with rfl | rfl | rfl | rfl <;> rcases j2 with _ | _ | _ | _ | j2 <;> rfl
/-- a write -/
theorem u_upR {h : q_H Int32} {s : u_H} {o tag sz k : Nat} {u : q_U Int32} {v : q_V Int32} (hR : u_Rep h s) (hh : h[o]? = some (tag, sz, u)) (hv : y_kd g_sh o k = y_vk v) (h3 : y_vk v = 3 → u_kn o k < 4) : u_Rep (h.set o (tag, sz, (k, v) :: u)) (u_up s o k v) := by
  have h1 := w_Rep_set (k := k) hR hh v
  refine u_Repc h1 (fun o2 q hq k2 hk2 => ?_)
  rcases v with x | x | n
  · have e : u_y (u_up s o k (.inl x)) = y_up (u_y s) o k (.inl x) := rfl
    rw [e, y_up_mk hv]
  · have e : u_y (u_up s o k (.inr (.inl x))) = y_up (u_y s) o k (.inr (.inl x)) := rfl
    rw [e, y_up_mk hv]
  · have h4 := h3 rfl
    by_cases e : o2 = o ∧ k2 = k
    · obtain ⟨rfl, rfl⟩ := e
      rw [w_up_self]
      show _ = y_v (y_kd g_sh o2 k2) _ o2 k2
      rw [hv]
      show _ = Sum.inr (Sum.inr (u_kg (u_kn o2 k2) (u_ks (u_kn o2 k2) n s.2.2)))
      rw [u_kgs h4, if_pos rfl]
    · rw [w_up_ne e]
      show y_v (y_kd g_sh o2 k2) _ o2 k2 = y_v (y_kd g_sh o2 k2) _ o2 k2
      have e2 : (u_y (u_up s o k (.inr (.inr n)))).2.2 o2 k2 = (u_y s).2.2 o2 k2 := by
        show u_kg (u_kn o2 k2) (u_ks (u_kn o k) n s.2.2) = u_kg (u_kn o2 k2) s.2.2
        rw [u_kgs h4, if_neg (fun q => e (u_kn_inj h4 q))]
      unfold y_v
      split
      · rfl
      · rfl
      · rfl
      · rw [e2]
theorem u_inj {x : Int32} {sz j : Nat} (h : q_ix x = some j) : x.toNatClampNeg = j := by
  unfold q_ix at h
  split at h
  · cases h
  · exact Option.some.inj h
theorem u_inT {x : Int32} {sz j : Nat} (h : q_ix x = some j) (hj : Nat.blt j sz = true) : u_in x sz = true := by
  unfold u_in
  rw [h]
  exact hj
/-! a step of the machine is one of the function -/
abbrev u_Cal : Type := Nat → List (q_V Int32) → q_H Int32 → Nat → Option (q_R Int32)
/-- the locals are the function's -/
def u_LR (ls : q_U Int32) (L : u_L) : Prop := y_nd ls ∧ ∀ i v, q_at ls i = some v → match v with
  | .inl x => L.1 i = x
  | .inr (.inl x) => L.2.1 i = x
  | .inr (.inr n) => q_at L.2.2 i = some n
theorem u_ndat {ls : q_U Int32} {pr : Nat × q_V Int32 → Bool} (hn : y_nd ls) {i : Nat} {v : q_V Int32} (h : q_at (ls.filter pr) i = some v) : q_at ls i = some v := by
  have hm := w_at_mem _ _ _ h
  rw [List.mem_filter] at hm
  exact y_nd_at _ _ _ hn hm.1
def u_S (cal : u_Cal) (ls : q_U Int32) (s : u_H) (h : q_H Int32) (ns : Nat) (X : q_S Int32 ⊕ q_R Int32) (D : Option u_Da) : Prop := (∃ p2 ls2 L2 st2 h2 ns2 s2, X = .inl ((p2, ls2, st2), h2, ns2) ∧ D = some (.inl (p2, L2, st2, s2)) ∧ u_Rep h2 s2 ∧ u_LR ls2 L2) ∨ (∃ k a p2 st2 v h2 ns2, D = some (.inr (.inl (k, a, p2, st2))) ∧ cal k a h ns = some (v, h2, ns2) ∧ X = .inl ((p2, ls, v.toList ++ st2), h2, ns2)) ∨ ∃ v ns2, D = some (.inr (.inr v)) ∧ X = .inr (v, h, ns2)
section SIM
variable {cal : u_Cal} {len : Nat} {r : List Nat} {p : Nat} {ls : q_U Int32} {L : u_L} {st : List (q_V Int32)} {s : u_H} {h : q_H Int32} {ns : Nat} {X : q_S Int32 ⊕ q_R Int32}
abbrev u_dg : Nat → u_L → List (q_V Int32) → u_H → Option u_Da := fun p2 ls2 st2 s2 => some (.inl (p2, ls2, st2, s2))
abbrev u_dc : Nat → List (q_V Int32) → Nat → List (q_V Int32) → Option u_Da := fun k a p2 st2 => some (.inr (.inl (k, a, p2, st2)))
abbrev u_de : Option (q_V Int32) → Option u_Da := fun v => some (.inr (.inr v))
theorem u_S.go {p2 : Nat} {ls2 : q_U Int32} {L2 : u_L} {st2 : List (q_V Int32)} {h2 : q_H Int32} {ns2 : Nat} {s2 : u_H} (hR : u_Rep h2 s2) (hL : u_LR ls2 L2) : u_S cal ls s h ns (.inl ((p2, ls2, st2), h2, ns2)) (some (.inl (p2, L2, st2, s2))) := Or.inl ⟨_, _, _, _, _, _, _, rfl, rfl, hR, hL⟩
theorem u_sGet (hR : u_Rep h s) (hL : u_LR ls L) (hk : ∀ ci r2, r = ci :: r2 → Nat.blt ci 100 = true) (hX : q_getf r len (p, ls, st) h ns = some X) : u_S cal ls s h ns X (u_aGet none u_dg len r p L st s) := by
  unfold q_getf at hX
  dsimp only at hX
  split at hX
  next ci k rr o st0 =>
    split at hX
    next q hq =>
      obtain ⟨hb, hX⟩ := w_bs hX
      rw [Bool.and_eq_true] at hb
      obtain ⟨l, hl, hr⟩ := u_cell hR hq
      have e1 := Nat.eq_of_beq_eq_true hb.1
      have e2 := hk ci _ rfl
      rw [← e1] at e2
      have hv := (hR.2 o q hq k (q_blt hb.2)).1 (q_blt e2)
      rw [hv] at hX
      dsimp only at hX
      cases hX
      unfold u_aGet
      dsimp only
      rw [hr]
      dsimp only
      rw [hb.1, e2, hb.2]
      exact u_S.go hR hL
    next => cases hX
  next => cases hX
theorem u_sPut (hR : u_Rep h s) (hL : u_LR ls L) (hk : ∀ ci k kd r2, r = ci :: k :: kd :: r2 → (Nat.blt ci 100 && u_pok ci k kd) = true) (hX : q_putf q_O32 r len (p, ls, st) h ns = some X) : u_S cal ls s h ns X (u_aPut none u_dg len r p L st s) := by
  unfold q_putf at hX
  dsimp only at hX
  split at hX
  next ci k kd rr v o st0 =>
    split at hX
    next q hq =>
      obtain ⟨hb, hX⟩ := w_bs hX
      cases hX
      simp only [Bool.and_eq_true] at hb
      obtain ⟨b1, b2, b3⟩ := hb
      obtain ⟨l, hl, hr⟩ := u_cell hR hq
      have e1 := Nat.eq_of_beq_eq_true b1
      have e2 := hk ci k kd _ rfl
      rw [Bool.and_eq_true] at e2
      obtain ⟨e2, e3⟩ := e2
      have e4 := u_pok_at e3 hl e1
      rw [← e1] at e2
      unfold u_aPut
      dsimp only
      rw [hr]
      dsimp only
      rw [b1, e2, b2]
      simp only [Bool.and_self, cond_true]
      rcases v with x | x | n
      · have h5 : (Nat.beq kd 0 || (Nat.beq kd 1 && q_ib x)) = true := b3
        rw [Bool.or_eq_true, Bool.and_eq_true] at h5
        rcases h5 with h5 | h5
        · have h6 := Nat.eq_of_beq_eq_true h5
          subst h6
          exact u_S.go (u_upR (v := .inl x) hR hq (e4.1 (Or.inl rfl)) (fun q => by cases q)) hL
        · have h6 := Nat.eq_of_beq_eq_true h5.1
          subst h6
          show u_S cal ls s h ns _ (if q_ib x = true then u_dg (p + len) L st0 (y_u s.1 o k x, s.2) else none)
          rw [if_pos h5.2]
          exact u_S.go (u_upR (v := .inl x) hR hq (e4.1 (Or.inr rfl)) (fun q => by cases q)) hL
      · have h6 : kd = 2 := Nat.eq_of_beq_eq_true b3
        subst h6
        exact u_S.go (u_upR (v := .inr (.inl x)) hR hq (e4.2.1 rfl) (fun q => by cases q)) hL
      · have h6 : kd = 3 := Nat.eq_of_beq_eq_true b3
        subst h6
        exact u_S.go (u_upR (v := .inr (.inr n)) hR hq (e4.2.2 rfl).1 (fun _ => (e4.2.2 rfl).2)) hL
    next => cases hX
  next => cases hX
theorem u_sLd {tag kd : Nat} {m : Nat} (hm : (m = 0 ∧ tag = 100 ∧ kd = 0) ∨ (m = 1 ∧ tag = 101 ∧ kd = 0) ∨ (m = 2 ∧ tag = 103 ∧ kd = 2)) (hR : u_Rep h s) (hL : u_LR ls L) (hX : q_ald q_O32 none tag kd len (p, ls, st) h ns = some X) : u_S cal ls s h ns X (u_aLd none u_dg len p L st s m) := by
  unfold q_ald at hX
  dsimp only at hX
  split at hX
  next i o st0 =>
    split at hX
    next q j hq hj =>
      obtain ⟨hb, hX⟩ := w_bs hX
      cases hX
      rw [Bool.and_eq_true, Bool.and_eq_true] at hb
      obtain ⟨b1, b2, b3⟩ := hb
      obtain ⟨l, hl, hr⟩ := u_cell hR hq
      have ht : 100 ≤ q.1 := by
        rw [Bool.or_eq_true, Bool.and_eq_true] at b1
        rcases b1 with b1 | b1
        · have := Nat.eq_of_beq_eq_true b1
          omega
        · have := Nat.eq_of_beq_eq_true b1.2
          omega
      have hv := (hR.2 o q hq j (q_blt b2)).2 ht
      have hjn := u_inj (sz := q.2.1) hj
      have hin := u_inT hj b2
      unfold u_aLd
      dsimp only
      rw [hr]
      dsimp only
      rcases hm with ⟨rfl, rfl, rfl⟩ | ⟨rfl, rfl, rfl⟩ | ⟨rfl, rfl, rfl⟩
      · have b4 : Nat.beq q.1 100 = true := by
          rw [Bool.or_eq_true] at b1
          rcases b1 with b1 | b1
          · exact b1
          · cases b1
        have e4 := Nat.eq_of_beq_eq_true b4
        rw [b4, hin]
        rw [hv]
        have ek : y_kd g_sh o j = 0 := u_k0 (tag := q.1) hl (by omega) (by omega) j
        have e5 : y_mk g_sh (u_y s) o j = .inl (s.1 o i.toNatClampNeg) := by
          show y_v (y_kd g_sh o j) _ o j = _
          rw [ek, hjn]
          rfl
        rw [e5]
        exact u_S.go hR hL
      · have b4 : (Nat.beq q.1 101 || Nat.beq q.1 102) = true := b1
        rw [b4, hin]
        rw [hv]
        have ek : y_kd g_sh o j = 0 := by
          rw [Bool.or_eq_true] at b4
          rcases b4 with b4 | b4
          · have e4 := Nat.eq_of_beq_eq_true b4
            exact u_k0 (tag := q.1) hl (by omega) (by omega) j
          · have e4 := Nat.eq_of_beq_eq_true b4
            exact u_k0 (tag := q.1) hl (by omega) (by omega) j
        have e5 : y_mk g_sh (u_y s) o j = .inl (s.1 o i.toNatClampNeg) := by
          show y_v (y_kd g_sh o j) _ o j = _
          rw [ek, hjn]
          rfl
        rw [e5]
        exact u_S.go hR hL
      · have b4 : Nat.beq q.1 103 = true := by
          rw [Bool.or_eq_true] at b1
          rcases b1 with b1 | b1
          · exact b1
          · cases b1
        have e4 := Nat.eq_of_beq_eq_true b4
        rw [b4, hin]
        rw [hv]
        have ek : y_kd g_sh o j = 2 := by
          rw [e4] at hl
          exact u_k2 hl j
        have e5 : y_mk g_sh (u_y s) o j = .inr (.inl (s.2.1 o i.toNatClampNeg)) := by
          show y_v (y_kd g_sh o j) _ o j = _
          rw [ek, hjn]
          rfl
        rw [e5]
        exact u_S.go hR hL
    next => cases hX
  next => cases hX
  next => cases hX
theorem u_sAst {tag : Nat} (hR : u_Rep h s) (hX : q_ast q_O32 tag len (p, ls, st) h ns = some X) : ∃ v i o st0 q j w u, st = v :: .inl i :: .inr (.inr (o + 2)) :: st0 ∧ y_ref g_sh (o + 2) = some (o, q.1, q.2.1) ∧ u_in i q.2.1 = true ∧ i.toNatClampNeg = j ∧ (q.1 = tag ∨ (tag = 101 ∧ q.1 = 102)) ∧ q_kp q_O32 q.1 v = some w ∧ X = .inl ((p + len, ls, st0), h.set o (q.1, q.2.1, (j, w) :: u), ns) ∧ h[o]? = some (q.1, q.2.1, u) ∧ ∃ l, g_sh[o]? = some (q.1, q.2.1, l) ∧ q = (q.1, q.2.1, u) := by
  unfold q_ast at hX
  dsimp only at hX
  split at hX
  next v i o st0 =>
    split at hX
    next q j hq hj =>
      obtain ⟨hb, hX⟩ := w_bs hX
      rw [Bool.and_eq_true] at hb
      obtain ⟨b1, b2⟩ := hb
      split at hX
      next w hw =>
        cases hX
        obtain ⟨l, hl, hr⟩ := u_cell hR hq
        refine ⟨v, i, o, st0, q, j, w, q.2.2, rfl, hr, u_inT hj b2, u_inj (sz := q.2.1) hj, ?_, hw, rfl, hq, l, hl, rfl⟩
        rw [Bool.or_eq_true, Bool.and_eq_true] at b1
        rcases b1 with b1 | b1
        · exact Or.inl (Nat.eq_of_beq_eq_true b1)
        · exact Or.inr ⟨Nat.eq_of_beq_eq_true b1.1, Nat.eq_of_beq_eq_true b1.2⟩
      next => cases hX
    next => cases hX
  next => cases hX
theorem u_sIst (hR : u_Rep h s) (hL : u_LR ls L) (hX : q_ast q_O32 100 len (p, ls, st) h ns = some X) : u_S cal ls s h ns X (u_aIst none u_dg len p L st s) := by
  obtain ⟨v, i, o, st0, q, j, w, u, rfl, hr, hin, hj, ht, hw, rfl, hq, l, hl, -⟩ := u_sAst hR hX
  have e1 : q.1 = 100 := by omega
  rw [e1] at hr hw hq hl ⊢
  rcases v with x | x | n
  · have ew : w = .inl x := (Option.some.inj hw).symm
    subst ew
    unfold u_aIst
    dsimp only
    rw [hr]
    dsimp only
    rw [hin, hj]
    exact u_S.go (u_upR (v := .inl x) hR hq (u_k0 hl (by omega) (by omega) j) (fun q => by cases q)) hL
  · cases hw
  · cases hw
theorem u_sLst (hR : u_Rep h s) (hL : u_LR ls L) (hX : q_ast q_O32 103 len (p, ls, st) h ns = some X) : u_S cal ls s h ns X (u_aLst none u_dg len p L st s) := by
  obtain ⟨v, i, o, st0, q, j, w, u, rfl, hr, hin, hj, ht, hw, rfl, hq, l, hl, -⟩ := u_sAst hR hX
  have e1 : q.1 = 103 := by omega
  rw [e1] at hr hw hq hl ⊢
  rcases v with x | x | n
  · cases hw
  · have ew : w = .inr (.inl x) := (Option.some.inj hw).symm
    subst ew
    unfold u_aLst
    dsimp only
    rw [hr]
    dsimp only
    rw [hin, hj]
    exact u_S.go (u_upR (v := .inr (.inl x)) hR hq (u_k2 hl j) (fun q => by cases q)) hL
  · cases hw
theorem u_sBst (hR : u_Rep h s) (hL : u_LR ls L) (hX : q_ast q_O32 101 len (p, ls, st) h ns = some X) : u_S cal ls s h ns X (u_aBst none u_dg len p L st s) := by
  obtain ⟨v, i, o, st0, q, j, w, u, rfl, hr, hin, hj, ht, hw, rfl, hq, l, hl, -⟩ := u_sAst hR hX
  rcases ht with e1 | ⟨-, e1⟩
  · rw [e1] at hr hw hq hl ⊢
    rcases v with x | x | n
    · have ew : w = .inl x.toInt8.toInt32 := (Option.some.inj hw).symm
      subst ew
      unfold u_aBst
      dsimp only
      rw [hr]
      dsimp only
      rw [hin, hj]
      exact u_S.go (u_upR (v := .inl x.toInt8.toInt32) hR hq (u_k0 hl (by omega) (by omega) j) (fun q => by cases q)) hL
    · cases hw
    · cases hw
  · rw [e1] at hr hw hq hl ⊢
    rcases v with x | x | n
    · have hw2 : (bif q_ib x then some (.inl x) else none : Option (q_V Int32)) = some w := hw
      obtain ⟨hb, ew⟩ := w_bs hw2
      cases ew
      unfold u_aBst
      dsimp only
      rw [hr]
      dsimp only
      rw [hin, hj, hb]
      exact u_S.go (u_upR (v := .inl x) hR hq (u_k0 hl (by omega) (by omega) j) (fun q => by cases q)) hL
    · cases hw
    · cases hw
theorem u_sLen (hR : u_Rep h s) (hL : u_LR ls L) (hX : q_alen q_O32 none len (p, ls, st) h ns = some X) : u_S cal ls s h ns X (u_aLen none u_dg len p L st s) := by
  unfold q_alen at hX
  dsimp only at hX
  split at hX
  next o st0 =>
    split at hX
    next q hq =>
      obtain ⟨hb, hX⟩ := w_bs hX
      cases hX
      obtain ⟨l, hl, hr⟩ := u_cell hR hq
      unfold u_aLen
      dsimp only
      rw [hr]
      dsimp only
      rw [hb]
      exact u_S.go hR hL
    next => cases hX
  next => cases hX
  next => cases hX
theorem u_sCpy (hR : u_Rep h s) (hL : u_LR ls L) (hX : q_acpy q_O32 len (p, ls, st) h ns = some X) : u_S cal ls s h ns X (u_aCpy none u_dg len p L st s) := by
  unfold q_acpy at hX
  dsimp only at hX
  split at hX
  next n dp d sp o st0 =>
    split at hX
    next qs qd n2 dp2 sp2 hqs hqd hn hdp hsp =>
      obtain ⟨hb, hX⟩ := w_bs hX
      cases hX
      simp only [Bool.and_eq_true] at hb
      obtain ⟨b1, b2, b3, b4, b5⟩ := hb
      obtain ⟨lo, hlo, hro⟩ := u_cell hR hqs
      obtain ⟨ld, hld, hrd⟩ := u_cell hR hqd
      have c1 := Nat.eq_of_beq_eq_true b1
      have c2 := Nat.eq_of_beq_eq_true b2
      have c3 := Nat.le_of_ble_eq_true b3
      have c4 := Nat.le_of_ble_eq_true b4
      have ck : u_cpk n dp sp qs.2.1 qd.2.1 = true := by
        unfold u_cpk
        rw [show q_ix n = some n2 from hn, show q_ix dp = some dp2 from hdp, show q_ix sp = some sp2 from hsp]
        dsimp only
        rw [b3, b4]
        rfl
      unfold u_aCpy
      dsimp only
      rw [hro]
      dsimp only
      rw [hrd]
      dsimp only
      rw [b1, b2, b5, ck, u_inj (sz := 0) hn, u_inj (sz := 0) hdp, u_inj (sz := 0) hsp]
      refine u_S.go ?_ hL
      have hlt : d < h.length := by
        rcases Nat.lt_or_ge d h.length with q | q
        · exact q
        · rw [List.getElem?_eq_none q] at hqd
          cases hqd
      obtain ⟨td, zd, ud⟩ := qd
      obtain ⟨to, zo, uo⟩ := qs
      have c1 : to = 100 := c1
      have c2 : td = 100 := c2
      subst c1 c2
      constructor
      · intro o'
        rw [← hR.1 o']
        rcases Nat.decEq o' d with e | e
        · rw [List.getElem?_set_ne (fun q => e q.symm)]
        · subst e
          rw [List.getElem?_set_self hlt, hqd]
          rfl
      · intro o' q hq k hk
        rcases Nat.decEq o' d with e | e
        · rw [List.getElem?_set_ne (fun q => e q.symm)] at hq
          have e2 : y_mk g_sh (u_y (u_cp s.1 d dp2 o sp2 n2, s.2)) o' k = y_mk g_sh (u_y s) o' k := by
            show y_v (y_kd g_sh o' k) _ o' k = y_v (y_kd g_sh o' k) _ o' k
            have e3 : (u_y (u_cp s.1 d dp2 o sp2 n2, s.2)).1 o' k = (u_y s).1 o' k := if_neg (fun z => e z.1)
            unfold y_v
            split
            · rw [e3]
            · rfl
            · rfl
            · rfl
          rw [e2]
          exact hR.2 o' q hq k hk
        · subst e
          rw [List.getElem?_set_self hlt] at hq
          cases hq
          refine ⟨fun ht => absurd ht (Nat.lt_irrefl 100), fun _ => ?_⟩
          rw [q_cpy_at]
          have kd1 := u_k0 hlo (by omega) (by omega)
          have kd2 := u_k0 hld (by omega) (by omega)
          show _ = y_v (y_kd g_sh o' k) _ o' k
          rw [kd2 k]
          show _ = (Sum.inl (if o' = o' ∧ dp2 ≤ k ∧ k < dp2 + n2 then s.1 o (sp2 + (k - dp2)) else s.1 o' k) : q_V Int32)
          by_cases hc : dp2 ≤ k ∧ k < dp2 + n2
          · rw [if_pos hc, if_pos ⟨rfl, hc⟩]
            have h5 := (hR.2 o _ hqs (sp2 + (k - dp2)) (show sp2 + (k - dp2) < zo by have c3 : sp2 + n2 ≤ zo := c3; omega)).2 (Nat.le_refl 100)
            rw [h5]
            show y_v (y_kd g_sh o (sp2 + (k - dp2))) _ o (sp2 + (k - dp2)) = _
            rw [kd1 _]
            rfl
          · rw [if_neg hc, if_neg (fun z => hc z.2)]
            have h5 := (hR.2 o' _ hqd k hk).2 (Nat.le_refl 100)
            rw [h5]
            show y_v (y_kd g_sh o' k) _ o' k = _
            rw [kd2 k]
            rfl
    next => cases hX
  next => cases hX
theorem u_mayV {n o tag sz ci : Nat} {a : List (q_V Int32)} (hr : y_ref g_sh n = some (o, tag, sz)) : u_may 1 [ci] (.inr (.inr n) :: a) = Nat.beq tag ci := by
  show u_bo (y_ref g_sh n) false (fun q => u_mayT [ci] q.2.1) = _
  rw [hr]
  rfl
theorem u_sInv {sv : Nat} (hR : u_Rep h s) (hL : u_LR ls L) (hX : q_inv cal sv r len (p, ls, st) h ns = some X) : u_S cal ls s h ns X (u_aInv none u_dc len r p st sv) := by
  unfold q_inv at hX
  dsimp only at hX
  split at hX
  next k na ml x =>
    split at hX
    next a st2 htk =>
      obtain ⟨hb, hX⟩ := w_bs hX
      simp only [Bool.and_eq_true] at hb
      obtain ⟨b1, b2, b3⟩ := hb
      split at hX
      next v h2 ns2 hc =>
        cases hX
        have hm : u_may sv x a = true := by
          unfold q_may at b3
          split at b3
          · rfl
          · next o a2 =>
            unfold q_mayV at b3
            split at b3
            next q ci hq =>
              obtain ⟨l, hl, hr⟩ := u_cell hR hq
              exact (u_mayV (a := a2) hr).trans b3
            next => cases b3
          · rfl
          · cases b3
        unfold u_aInv
        dsimp only
        rw [htk]
        dsimp only
        rw [b1, b2, hm]
        exact Or.inr (Or.inl ⟨k, a, p + len, st2, v, h2, ns2, rfl, hc, rfl⟩)
      next => cases hX
    next => cases hX
  next => cases hX
theorem u_sf2 {c1 k1 c2 k2 : Nat} {x : Int32} (hR : u_Rep h s) (hL : u_LR ls L) (g1 : Nat.blt c1 100 = true) (g2 : Nat.blt c2 100 = true) (hX : q_f2 c1 k1 c2 k2 (p, ls, st) h = some x) : u_f2 c1 k1 c2 k2 L s = some x := by
  unfold q_f2 at hX
  dsimp only at hX
  split at hX
  next o ho =>
    split at hX
    next q hq =>
      obtain ⟨hb, hX⟩ := w_bs hX
      rw [Bool.and_eq_true] at hb
      obtain ⟨l, hl, hr⟩ := u_cell hR hq
      have e1 := Nat.eq_of_beq_eq_true hb.1
      have f1 := g1
      rw [← e1] at f1
      have hv := (hR.2 o q hq k1 (q_blt hb.2)).1 (q_blt f1)
      rw [hv] at hX
      split at hX
      next o2 ho2 =>
        split at hX
        next q2 hq2 =>
          obtain ⟨hb2, hX⟩ := w_bs hX
          rw [Bool.and_eq_true] at hb2
          obtain ⟨l2, hl2, hr2⟩ := u_cell hR hq2
          have e3 := Nat.eq_of_beq_eq_true hb2.1
          have f2 := g2
          rw [← e3] at f2
          have hv2 := (hR.2 o2 q2 hq2 k2 (q_blt hb2.2)).1 (q_blt f2)
          rw [hv2] at hX
          split at hX
          next y hy =>
            cases hX
            have ho3 : q_at L.2.2 0 = some (o + 2) := hL.2 0 _ ho
            unfold u_f2
            rw [ho3]
            dsimp only
            rw [hr]
            dsimp only
            rw [hb.1, f1, hb.2]
            have z1 : y_v (y_kd g_sh o k1) (u_y s) o k1 = .inr (.inr (o2 + 2)) := Option.some.inj ho2
            have z2 : y_v (y_kd g_sh o2 k2) (u_y s) o2 k2 = .inl x := Option.some.inj hy
            simp only [Bool.and_self, cond_true]
            rw [z1]
            dsimp only
            rw [hr2]
            dsimp only
            rw [hb2.1, f2, hb2.2]
            simp only [Bool.and_self, cond_true]
            rw [z2]
          next => cases hX
        next => cases hX
      next => cases hX
    next => cases hX
  next => cases hX
theorem u_sm1 {j : Nat} {x : Int32} (hR : u_Rep h s) (hL : u_LR ls L) (hX : q_m1 q_O32 j x len (p, ls, st) h ns = some X) : u_S cal ls s h ns X (u_bo (q_o1 j x) none (fun y => u_dg (p + len) L (.inl y :: st) s)) := by
  unfold q_m1 at hX
  split at hX
  next z hz =>
    cases hX
    rw [show q_o1 j x = some z from hz]
    exact u_S.go hR hL
  next => cases hX
theorem u_sMac (hR : u_Rep h s) (hL : u_LR ls L) (hk5 : ∀ j c1 k1 c2 k2, r = [j, c1, k1, c2, k2] → (Nat.blt c1 100 && Nat.blt c2 100) = true) (hk6 : ∀ j c1 k1 c2 k2 i, r = [j, c1, k1, c2, k2, i] → (Nat.blt c1 100 && Nat.blt c2 100) = true) (hX : q_mac q_O32 len r (p, ls, st) h ns = some X) : u_S cal ls s h ns X (u_aMac none u_dg len r p L st s) := by
  unfold q_mac at hX
  obtain ⟨hb, hX⟩ := w_bs hX
  unfold u_aMac
  rw [show Nat.ble (q_cats st) 6 = true from hb, cond_true]
  split at hX
  · cases hX
    exact u_S.go hR hL
  · split at hX
    next x hx =>
      dsimp only at hx ⊢
      have hx2 : L.1 _ = x := hL.2 _ _ hx
      rw [hx2]
      exact u_sm1 hR hL hX
    next => cases hX
  · next j c1 k1 c2 k2 _ =>
    have hk := hk5 j c1 k1 c2 k2 rfl
    rw [Bool.and_eq_true] at hk
    split at hX
    next x hx =>
      dsimp only
      rw [u_sf2 hR hL hk.1 hk.2 hx]
      exact u_sm1 hR hL hX
    next => cases hX
  · next j c1 k1 c2 k2 i _ =>
    have hk := hk6 j c1 k1 c2 k2 i rfl
    rw [Bool.and_eq_true] at hk
    split at hX
    next x y hx hy =>
      dsimp only at hy ⊢
      have hy2 : L.1 i = y := hL.2 _ _ hy
      rw [u_sf2 hR hL hk.1 hk.2 hx]
      dsimp only
      rw [hy2]
      split at hX
      next x1 h1 =>
        split at hX
        next x2 h2 =>
          have e1 : x1 = x - 1 := (Option.some.inj h1).symm
          have e2 : x2 = x1 - y := (Option.some.inj h2).symm
          subst e1 e2
          exact u_sm1 hR hL hX
        next => cases hX
      next => cases hX
    next => cases hX
  · cases hX
theorem u_sMth {v : Nat} (hR : u_Rep h s) (hL : u_LR ls L) (hX : q_math q_O32 v len (p, ls, st) h ns = some X) : u_S cal ls s h ns X (u_aMth none u_dg len p L st s v) := by
  have mm : ∀ j (f : Int32 → Int32 → Int32), (∀ x y, q_o2 j x y = some (f x y)) → q_mm q_O32 j len (p, ls, st) h ns = some X → ∃ x y st0, st = .inl y :: .inl x :: st0 ∧ Nat.ble (q_cats st0) 8 = true ∧ X = .inl ((p + len, ls, .inl (f x y) :: st0), h, ns) := by
    intro j f hf hX
    unfold q_mm at hX
    dsimp only at hX
    split at hX
    next y x st0 _ =>
      obtain ⟨hb, hX⟩ := w_bs hX
      rw [show q_O32.2.1 j x y = some (f x y) from hf x y] at hX
      cases hX
      exact ⟨x, y, st0, rfl, hb, rfl⟩
    next => cases hX
  rcases v with _ | _ | v
  · have hX2 : q_abs q_O32 len (p, ls, st) h ns = some X := hX
    unfold q_abs at hX2
    dsimp only at hX2
    split at hX2
    next x st0 =>
      obtain ⟨hb, hX2⟩ := w_bs hX2
      cases hX2
      show u_S cal ls s h ns _ (bif Nat.ble (q_cats st0) 8 then u_dg (p + len) L (_ :: st0) s else none)
      rw [hb]
      exact u_S.go hR hL
    next => cases hX2
  · obtain ⟨x, y, st0, rfl, hb, rfl⟩ := mm 11 _ (fun x y => rfl) hX
    show u_S cal ls s h ns _ (bif Nat.ble (q_cats st0) 8 then u_dg (p + len) L (_ :: st0) s else none)
    rw [hb]
    exact u_S.go hR hL
  · obtain ⟨x, y, st0, rfl, hb, rfl⟩ := mm 12 _ (fun x y => rfl) hX
    show u_S cal ls s h ns _ (bif Nat.ble (q_cats st0) 8 then u_dg (p + len) L (_ :: st0) s else none)
    rw [hb]
    exact u_S.go hR hL
theorem u_sDiv {j : Nat} (hj : j = 9 ∨ j = 10) (hR : u_Rep h s) (hL : u_LR ls L) (hX : q_b2 q_O32 j len (p, ls, st) h ns = some X) : u_S cal ls s h ns X (u_aDiv none u_dg len p L st s j) := by
  unfold q_b2 at hX
  dsimp only at hX
  split at hX
  next y x st0 =>
    split at hX
    next z hz =>
      cases hX
      unfold u_aDiv
      dsimp only
      rcases hj with rfl | rfl
      · have hz2 : (if y = 0 then none else some (x / y)) = some z := hz
        by_cases e : y = 0
        · rw [if_pos e] at hz2
          cases hz2
        · rw [if_neg e] at hz2
          cases hz2
          rw [if_neg e]
          exact u_S.go hR hL
      · have hz2 : (if y = 0 then none else some (x - x / y * y)) = some z := hz
        by_cases e : y = 0
        · rw [if_pos e] at hz2
          cases hz2
        · rw [if_neg e] at hz2
          cases hz2
          rw [if_neg e]
          exact u_S.go hR hL
    next => cases hX
  next => cases hX
def u_cm (cd : Jvm.ClassFile.Cond) (x y : Int32) : Bool := match cd with
  | .eq => decide (x = y)
  | .ne => !decide (x = y)
  | .lt => decide (x < y)
  | .ge => !decide (x < y)
  | .gt => decide (y < x)
  | .le => !decide (y < x)
theorem u_br_eq {β : Type} (cd : Jvm.ClassFile.Cond) (x y : Int32) (a b : β) : u_br cd x y a b = bif u_cm cd x y then a else b := by
  cases cd with
  | eq =>
    show (if x = y then a else b) = bif decide (x = y) then a else b
    by_cases e : x = y <;> simp [e]
  | ne =>
    show (if x = y then b else a) = bif !decide (x = y) then a else b
    by_cases e : x = y <;> simp [e]
  | lt =>
    show (if x < y then a else b) = bif decide (x < y) then a else b
    by_cases e : x < y <;> simp [e]
  | ge =>
    show (if x < y then b else a) = bif !decide (x < y) then a else b
    by_cases e : x < y <;> simp [e]
  | gt =>
    show (if y < x then a else b) = bif decide (y < x) then a else b
    by_cases e : y < x <;> simp [e]
  | le =>
    show (if y < x then b else a) = bif !decide (y < x) then a else b
    by_cases e : y < x <;> simp [e]
theorem u_cmq (cd : Jvm.ClassFile.Cond) (x y : Int32) : q_cm (q_cn cd) x y = some (u_cm cd x y) := by
  cases cd with
  | eq => rfl
  | ne =>
    show some (decide (x ≠ y)) = some (!decide (x = y))
    by_cases e : x = y <;> simp [e]
  | lt => rfl
  | ge =>
    show some (decide (y ≤ x)) = some (!decide (x < y))
    have : y ≤ x ↔ ¬ x < y := by rw [Int32.le_iff_toInt_le, Int32.lt_iff_toInt_lt]; omega
    by_cases e : x < y <;> simp [e, this]
  | gt => rfl
  | le =>
    show some (decide (x ≤ y)) = some (!decide (y < x))
    have : x ≤ y ↔ ¬ y < x := by rw [Int32.le_iff_toInt_le, Int32.lt_iff_toInt_lt]; omega
    by_cases e : y < x <;> simp [e, this]
theorem u_sJmp {b : Bool} {st2 : List (q_V Int32)} (hR : u_Rep h s) (hL : u_LR ls L) (hX : q_jmp r len (some b) (p, ls, st) st2 h ns = some X) : ∃ tg, r = [tg] ∧ u_S cal ls s h ns X (bif b then u_dg tg L st2 s else u_dg (p + len) L st2 s) := by
  unfold q_jmp at hX
  split at hX
  next tg e =>
    cases hX
    have e2 : b = true := Option.some.inj e
    subst e2
    exact ⟨tg, rfl, u_S.go hR hL⟩
  next e =>
    next tg =>
    cases hX
    have e2 : b = false := Option.some.inj e
    subst e2
    exact ⟨tg, rfl, u_S.go hR hL⟩
  next => cases hX
theorem u_sIf {cd : Jvm.ClassFile.Cond} (hR : u_Rep h s) (hL : u_LR ls L) (hX : q_if q_O32 (q_cn cd) r len (p, ls, st) h ns = some X) : u_S cal ls s h ns X (u_aIf none u_dg len r p L st s cd) := by
  unfold q_if at hX
  dsimp only at hX
  split at hX
  next x st0 =>
    rw [show q_O32.2.2.2.1 (q_cn cd) x (q_O32.1 0) = some (u_cm cd x 0) from u_cmq cd x 0] at hX
    obtain ⟨tg, rfl, h2⟩ := u_sJmp (cal := cal) hR hL hX
    unfold u_aIf
    dsimp only
    rw [u_br_eq]
    exact h2
  next => cases hX
theorem u_sIc {cd : Jvm.ClassFile.Cond} (hR : u_Rep h s) (hL : u_LR ls L) (hX : q_ic q_O32 (q_cn cd) r len (p, ls, st) h ns = some X) : u_S cal ls s h ns X (u_aIc none u_dg len r p L st s cd) := by
  unfold q_ic at hX
  dsimp only at hX
  split at hX
  next y x st0 =>
    rw [show q_O32.2.2.2.1 (q_cn cd) x y = some (u_cm cd x y) from u_cmq cd x y] at hX
    obtain ⟨tg, rfl, h2⟩ := u_sJmp (cal := cal) hR hL hX
    unfold u_aIc
    dsimp only
    rw [u_br_eq]
    exact h2
  next => cases hX
end SIM
