/-! by hand: writes, calls of the small ones, the model's token -/
theorem y_Tup {V : w_V} {sh : w_Sh} {s : y_H} {o k lo hi g : Nat} {x : Int32} (hT : w_T V sh (y_mk sh s)) (ht : w_ty sh o k = some (.inl ((lo, hi), g))) (hk : y_kd sh o k = 0) (hp : w_inm g_pk (w_key o k) = false) (h1 : (lo : Int) - 2147483648 ≤ x.toInt) (h2 : x.toInt ≤ (hi : Int) - 2147483648) : w_T V sh (y_mk sh (y_up s o k (.inl x))) := by
  rw [y_up_mk (by rw [hk]; rfl)]
  refine w_T_up (ls := []) (σ2 := y_mk sh s) hT hp (fun B hB => ?_)
  rw [ht] at hB
  cases hB
  have h0 := w_ty_kz ht
  have hg : g = 0 := by
    have h3 : (Sum.inl ((lo, hi), 0) : w_A) = .inl ((lo, hi), g) := h0
    injection h3 with h4
    injection h4 with h5 h6
    exact h6.symm
  have e := q_pc_int x
  exact ⟨x, rfl, ⟨by show lo ≤ _; omega, by show _ ≤ hi; omega⟩, Or.inl hg⟩
theorem y_Tupl {V : w_V} {sh : w_Sh} {s : y_H} {o k : Nat} {u : Unit} {x : Int64} (hT : w_T V sh (y_mk sh s)) (ht : w_ty sh o k = some (.inr (.inl u))) (hk : y_kd sh o k = 2) (hp : w_inm g_pk (w_key o k) = false) : w_T V sh (y_mk sh (y_up s o k (.inr (.inl x)))) := by
  rw [y_up_mk (by rw [hk]; rfl)]
  refine w_T_up (ls := []) (σ2 := y_mk sh s) hT hp (fun B hB => ?_)
  rw [ht] at hB
  cases hB
  exact ⟨x, rfl⟩
theorem y_fr.rf {sh : w_Sh} {ms : List (Nat × Nat)} {s : y_H} : y_fr sh ms s s := fun _ _ _ _ _ => rfl
theorem y_fr.tr {sh : w_Sh} {ms : List (Nat × Nat)} {s s2 s3 : y_H} (h1 : y_fr sh ms s s2) (h2 : y_fr sh ms s2 s3) : y_fr sh ms s s3 := fun o k A hA hm => (h2 o k A hA hm).trans (h1 o k A hA hm)
theorem y_fr.up {sh : w_Sh} {ms : List (Nat × Nat)} {s s2 : y_H} {o k : Nat} {v : q_V Int32} (h : y_fr sh ms s s2) (hk : y_kd sh o k = y_vk v) (hm : w_inm ms (w_key o k) = true) : y_fr sh ms s (y_up s2 o k v) := by
  intro o2 k2 A hA hn
  rw [y_up_mk hk, w_up_ne]
  · exact h o2 k2 A hA hn
  · rintro ⟨rfl, rfl⟩
    rw [hm] at hn
    cases hn
/-- a slot of ints that is not written -/
theorem y_fr.at {sh : w_Sh} {ms : List (Nat × Nat)} {s s2 : y_H} (h : y_fr sh ms s s2) {o k : Nat} {A : w_A} (hA : w_ty sh o k = some A) (hk : y_kd sh o k = 0) (hm : w_inm ms (w_key o k) = false) : s2.1 o k = s.1 o k := by
  have e := h o k A hA hm
  have e1 : y_mk sh s2 o k = .inl (s2.1 o k) := by
    show y_v (y_kd sh o k) s2 o k = _
    rw [hk]
    rfl
  have e2 : y_mk sh s o k = .inl (s.1 o k) := by
    show y_v (y_kd sh o k) s o k = _
    rw [hk]
    rfl
  rw [e1, e2] at e
  exact Sum.inl.inj e
section TOK
variable {V : w_V} {d : Nat} {t : q_T} {Q : Option (q_V Int32) → y_H → Prop} {p : Nat} {ls : q_U Int32} {st : List (q_V Int32)} {s : y_H}
theorem y_callHere {i : Nat} {k : Int32} (hq : q_get t p = some (.invokevirtual i, 3, [219, 2, 2, 11])) (hT : w_T V g_sh (y_mk g_sh s)) (h0 : 0 ≤ k.toInt) (h1 : k.toInt ≤ 1000000) (hst : Nat.ble (q_cats st) 8 = true) (hd : 1 ≤ d) (hw : ∀ c, y_hereQ k s c → y_W g_sh g_ts d t Q (p + 3) ls (.inl c :: st) s) : y_W g_sh g_ts d t Q p ls (.inl k :: .inr (.inr 67) :: st) s := by
  refine y_call (y_here (V := V)) 1 hq (fun _ _ _ => rfl) (a := [.inr (.inr 67), .inl k]) (st2 := st) rfl (by rw [hst]; rfl) (fun h hR => y_mayV (o := 65) (sz := 85) rfl hR) hd ⟨hT, k, rfl, h0, h1⟩ (fun v s2 hQ => ?_)
  obtain ⟨rfl, c, rfl, hc⟩ := hQ
  exact hw c (hc k rfl)
theorem y_callTest {i k : Nat} {P : Int → Prop} {c : Int32} (hC : y_test k P) (hq : q_get t p = some (.invokestatic i, 3, [k, 1, 1])) (hst : Nat.ble (q_cats st) 8 = true) (hd : 1 ≤ d) (h1 : P c.toInt → y_W g_sh g_ts d t Q (p + 3) ls (.inl 1 :: st) s) (h2 : ¬ P c.toInt → y_W g_sh g_ts d t Q (p + 3) ls (.inl 0 :: st) s) : y_W g_sh g_ts d t Q p ls (.inl c :: st) s := by
  refine y_call hC 0 hq (fun _ _ _ => rfl) (a := [.inl c]) (st2 := st) rfl (by rw [hst]; rfl) (fun h hR => rfl) hd ⟨c, rfl⟩ (fun v s2 hQ => ?_)
  obtain ⟨rfl, b, rfl, hb⟩ := hQ
  rcases hb c rfl with ⟨rfl, hP⟩ | ⟨rfl, hP⟩
  · exact h1 hP
  · exact h2 hP
end TOK
/-- the keys that token writes: at, sort, place, number, word -/
abbrev y_tk : List (Nat × Nat) := [(266308, 266308), (266310, 266313)]
theorem y_tok1 {V : w_V} {d : Nat} {Q : Option (q_V Int32) → y_H → Prop} (hd : 1 ≤ d) : ∀ (n : Nat) (s : y_H), w_T V g_sh (y_mk g_sh s) → (s.1 65 5).toInt - (s.1 65 4).toInt ≤ (n : Int) → (∀ s2, w_T V g_sh (y_mk g_sh s2) → y_fr g_sh y_tk s s2 → (s.1 65 4).toInt ≤ (s2.1 65 4).toInt → y_W g_sh g_ts d g_t309 Q 33 [(0, .inr (.inr 67))] [] s2) → y_W g_sh g_ts d g_t309 Q 0 [(0, .inr (.inr 67))] [] s := by
  intro n
  induction n with
  | zero =>
    intro s hT hn hexit
    refine y_run 2 rfl ?_
    refine y_callHere rfl hT (show (0 : Int) ≤ 0 by omega) (show (0 : Int) ≤ 1000000 by omega) rfl hd (fun c hc => ?_)
    have hc1 : c = -1 := by
      rcases hc with ⟨h1, -⟩ | ⟨-, h2⟩
      · have h3 : (s.1 65 4).toInt + 0 < (s.1 65 5).toInt := h1
        omega
      · exact h2
    subst hc1
    refine y_run 1 rfl ?_
    refine y_ic rfl (fun hx => absurd (show (-1 : Int) = 32 from hx) (by omega)) (fun _ => ?_)
    refine y_run 2 rfl ?_
    refine y_callHere rfl hT (show (0 : Int) ≤ 0 by omega) (show (0 : Int) ≤ 1000000 by omega) rfl hd (fun c hc => ?_)
    have hc1 : c = -1 := by
      rcases hc with ⟨h1, -⟩ | ⟨-, h2⟩
      · have h3 : (s.1 65 4).toInt + 0 < (s.1 65 5).toInt := h1
        omega
      · exact h2
    subst hc1
    refine y_run 1 rfl ?_
    exact y_ic rfl (fun _ => hexit s hT y_fr.rf (by omega)) (fun hx => absurd (show (-1 : Int) ≠ 10 by omega) hx)
  | succ n ih =>
    intro s hT hn hexit
    have hat := y_rng (lo := 2147483648) (hi := 2147485248) (g := 0) hT (o := 65) (k := 4) rfl rfl
    have hsz := y_rng (lo := 2147483648) (hi := 2147485248) (g := 0) hT (o := 65) (k := 5) rfl rfl
    have hinc : (s.1 65 4).toInt < (s.1 65 5).toInt → y_W g_sh g_ts d g_t309 Q 20 [(0, .inr (.inr 67))] [] s := by
      intro hlt
      have hadd := y_add (x := s.1 65 4) (y := 1) (by show _ ≤ _ + (1 : Int); omega) (by show _ + (1 : Int) ≤ _; omega)
      have hadd2 : (s.1 65 4 + 1).toInt = (s.1 65 4).toInt + 1 := hadd
      refine y_run 7 rfl ?_
      have hT2 := y_Tup (lo := 2147483648) (hi := 2147485248) (g := 0) hT (o := 65) (k := 4) (x := s.1 65 4 + 1) rfl rfl (by decide +kernel) (by omega) (by omega)
      refine ih _ hT2 ?_ (fun s2 hT3 hf3 hle => hexit s2 hT3 ((y_fr.rf.up (s := s) (o := 65) (k := 4) (v := .inl (s.1 65 4 + 1)) rfl (by decide +kernel)).tr hf3) ?_)
      · show (s.1 65 5).toInt - (s.1 65 4 + 1).toInt ≤ _
        omega
      · have hle2 : (s.1 65 4 + 1).toInt ≤ (s2.1 65 4).toInt := hle
        omega
    refine y_run 2 rfl ?_
    refine y_callHere rfl hT (show (0 : Int) ≤ 0 by omega) (show (0 : Int) ≤ 1000000 by omega) rfl hd (fun c hc => ?_)
    refine y_run 1 rfl ?_
    refine y_ic rfl (fun hx => ?_) (fun _ => ?_)
    · have hx2 : c.toInt = 32 := hx
      refine hinc ?_
      rcases hc with ⟨h1, -⟩ | ⟨-, rfl⟩
      · have h3 : (s.1 65 4).toInt + 0 < (s.1 65 5).toInt := h1
        omega
      · exact absurd (show (-1 : Int) = 32 from hx2) (by omega)
    · refine y_run 2 rfl ?_
      refine y_callHere rfl hT (show (0 : Int) ≤ 0 by omega) (show (0 : Int) ≤ 1000000 by omega) rfl hd (fun c2 hc2 => ?_)
      refine y_run 1 rfl ?_
      refine y_ic rfl (fun _ => hexit s hT y_fr.rf (by omega)) (fun hx => ?_)
      have hx2 : ¬ c2.toInt ≠ 10 := hx
      refine hinc ?_
      rcases hc2 with ⟨h1, -⟩ | ⟨-, rfl⟩
      · have h3 : (s.1 65 4).toInt + 0 < (s.1 65 5).toInt := h1
        omega
      · exact absurd (show (-1 : Int) ≠ 10 by omega) hx2
