/-! by hand: calls that write, by the checker's contracts; Trial.sendToEnd -/
theorem y_callM {V : w_V} {d : Nat} {t : q_T} {Q0 : Option (q_V Int32) → y_H → Prop} {p : Nat} {ls : q_U Int32} {st st2 a : List (q_V Int32)} {s : y_H} {k D na ml len : Nat} {x : List Nat} {ins : Jvm.ClassFile.Instr} {as : List w_A} {ms : List (Nat × Nat)} {outs : List (List (Nat × q_J) × Option w_A × w_U)} (hE : w_Ent V g_sh g_ts (k, as, [], ms, outs, D)) (hx : outs.all (fun q => y_ex g_sh q.2.2) = true) (sv : Nat) (hq : q_get t p = some (ins, len, k :: na :: ml :: x)) (hins : ∀ cal h ns, q_act q_O32 none cal ins len (k :: na :: ml :: x) (p, ls, st) h ns = q_inv cal sv (k :: na :: ml :: x) len (p, ls, st) h ns) (htk : q_take na st [] = some (a, st2)) (hc : (Nat.ble (q_cats st2) 8 && Nat.ble (q_cats a) ml) = true) (hm : ∀ h, w_Rep g_sh h (y_mk g_sh s) → q_may sv x a h = true) (hd : D ≤ d) (hT : w_T V g_sh (y_mk g_sh s)) (ha : w_sts [] (y_mk g_sh s) (as.map w_kz) a) (hw : ∀ v s2, w_T V g_sh (y_mk g_sh s2) → y_fr g_sh ms s s2 → (∃ q ∈ outs, w_out a (y_mk g_sh s2) q v) → y_W g_sh g_ts d t Q0 (p + len) ls (v.toList ++ st2) s2) : y_W g_sh g_ts d t Q0 p ls st s := by
  have hxE : y_exE g_sh (k, as, [], ms, outs, D) = true := by
    unfold y_exE
    rw [Bool.and_eq_true]
    exact ⟨rfl, hx⟩
  refine y_call (y_C.ofE g_shok g_pkok hxE hE) sv hq hins htk hc hm hd ⟨hT, ha, fun q hq => by cases hq⟩ (fun v s2 hQ => ?_)
  exact hw v s2 hQ.1 hQ.2.1 hQ.2.2
/-- no answer -/
theorem y_ansV {a : List (q_V Int32)} {σ : w_G} {v : Option (q_V Int32)} {l : List (Nat × q_J)} {M : w_U} (h : w_out a σ (l, none, M) v) : v = none := by
  obtain ⟨-, h2, -⟩ := h
  cases v with
  | none => rfl
  | some w => exact h2.elim
abbrev y_tl : List (Nat × Nat) := [(151616, 151622)]
theorem y_ste_loop {V : w_V} {d : Nat} {Q : Option (q_V Int32) → y_H → Prop} (hd : 1 ≤ d) (hex : w_Ent V g_sh g_ts (158, [w_r 38, w_t 0, w_t 0], [], [(151616, 151622)], [([], none, [])], 1)) : ∀ (n : Nat) (s : y_H) (i : Int32), w_T V g_sh (y_mk g_sh s) → 0 ≤ i.toInt → i.toInt ≤ 2000000000 → (s.1 36 2).toInt - i.toInt ≤ (n : Int) → (∀ s2, w_T V g_sh (y_mk g_sh s2) → y_fr g_sh y_tl s s2 → Q none s2) → y_W g_sh g_ts d g_t169 Q 6 [(0, .inr (.inr 38)), (2, .inl i)] [] s := by
  intro n
  induction n with
  | zero =>
    intro s i hT h0 h1 hn hexit
    have hadd : (i + 1).toInt = i.toInt + 1 := y_add (x := i) (y := 1) (by show _ ≤ _ + (1 : Int); omega) (by show _ + (1 : Int) ≤ _; omega)
    refine y_run 5 rfl ?_
    refine y_ic rfl (fun _ => y_vret rfl (hexit s hT y_fr.rf)) (fun h => ?_)
    have h2 : ¬ (s.1 36 2).toInt ≤ (i + 1).toInt := h
    omega
  | succ n ih =>
    intro s i hT h0 h1 hn hexit
    have hsz := y_rng (lo := 2147483648) (hi := 2147483655) (g := 0) hT (o := 36) (k := 2) rfl rfl
    have hadd : (i + 1).toInt = i.toInt + 1 := y_add (x := i) (y := 1) (by show _ ≤ _ + (1 : Int); omega) (by show _ + (1 : Int) ≤ _; omega)
    refine y_run 5 rfl ?_
    refine y_ic rfl (fun _ => y_vret rfl (hexit s hT y_fr.rf)) (fun h => ?_)
    have h2 : ¬ (s.1 36 2).toInt ≤ (i + 1).toInt := h
    refine y_run 5 rfl ?_
    refine y_callM hex (by decide +kernel) 1 rfl (fun _ _ _ => rfl) (a := [.inr (.inr 38), .inl i, .inl (i + 1)]) rfl rfl (fun h hR => y_mayV (o := 36) (sz := 20) rfl hR) hd hT ⟨⟨38, rfl, List.mem_cons_self⟩, y_ivall, y_ivall, True.intro⟩ (fun v s2 hT2 hf2 hv => ?_)
    obtain ⟨q, hq, ho⟩ := hv
    have eq : q = ([], none, []) := by simpa using hq
    subst eq
    have ev := y_ansV ho
    subst ev
    have e2 : s2.1 36 2 = s.1 36 2 := hf2.at (o := 36) (k := 2) (A := w_n 0 7 0) rfl rfl (by decide +kernel)
    refine y_run 2 rfl ?_
    refine y_sub (ls1 := [(0, .inr (.inr 38)), (2, .inl (i + 1))]) (show ([0, 2] : List Nat).Nodup by decide) (y_R_cons rfl (y_R_cons rfl y_R_nil)) ?_
    exact ih s2 (i + 1) hT2 (by omega) (by omega) (by rw [e2]; omega) (fun s3 hT3 hf3 => hexit s3 hT3 (hf2.tr hf3))
theorem y_sendToEnd {V : w_V} (hex : w_Ent V g_sh g_ts (158, [w_r 38, w_t 0, w_t 0], [], [(151616, 151622)], [([], none, [])], 1)) : y_C g_sh g_ts 169 2 (fun a s => w_T V g_sh (y_mk g_sh s) ∧ ∃ x : Int32, a = [.inr (.inr 38), .inl x] ∧ x.toInt ≤ 1000) (fun _ s v s2 => v = none ∧ w_T V g_sh (y_mk g_sh s2) ∧ y_fr g_sh y_tl s s2) := by
  refine y_C.of (t := g_t169) rfl (by decide) ?_
  rintro d a s hd ⟨hT, x, rfl, hx⟩
  refine y_run 4 rfl ?_
  have hmax : 0 ≤ (if (0 : Int32) < x then x else 0).toInt ∧ (if (0 : Int32) < x then x else 0).toInt ≤ 1000 := by
    split
    next h =>
      have h2 : (0 : Int) < x.toInt := Int32.lt_iff_toInt_lt.mp h
      omega
    next => decide
  refine y_sub (ls1 := [(0, .inr (.inr 38)), (2, .inl (if (0 : Int32) < x then x else 0))]) (show ([0, 2] : List Nat).Nodup by decide) (y_R_cons rfl (y_R_cons rfl y_R_nil)) ?_
  have hsz := y_rng (lo := 2147483648) (hi := 2147483655) (g := 0) hT (o := 36) (k := 2) rfl rfl
  exact y_ste_loop (by omega) hex 7 s _ hT hmax.1 (by omega) (by omega) (fun s2 hT2 hf2 => ⟨rfl, hT2, hf2⟩)
