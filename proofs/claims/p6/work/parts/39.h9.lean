/-! by hand: calls of what writes nothing, by the checker's contracts -/
theorem y_Rep {sh : w_Sh} {h : q_H Int32} {σ σ2 : w_G} (hsh : y_shok sh = true) (he : ∀ o k A, w_ty sh o k = some A → σ2 o k = σ o k) (hR : w_Rep sh h σ) : w_Rep sh h σ2 := by
  refine ⟨hR.1, ?_⟩
  intro o q hq k hk
  have h1 := hR.1 o
  rw [hq] at h1
  cases hs : sh[o]? with
  | none => rw [hs] at h1; cases h1
  | some z =>
    rw [hs] at h1
    have e2 : q.2.1 = z.2.1 := by
      have := Option.some.inj h1
      exact congrArg Prod.snd this
    have hty : ∃ A, w_ty sh o k = some A := by
      unfold w_ty
      rw [hs]
      dsimp only
      rw [show Nat.blt k z.2.1 = true by rw [Nat.blt_eq, ← e2]; exact hk, cond_true]
      have hlt : k % z.2.2.length < z.2.2.length := Nat.mod_lt _ (y_shok_l hsh o z hs).1
      rw [List.getElem?_eq_getElem hlt]
      exact ⟨_, rfl⟩
    obtain ⟨A, hA⟩ := hty
    rw [he o k A hA]
    exact hR.2 o q hq k hk
theorem y_W_eq {sh : w_Sh} {ts : List q_T} {d : Nat} {t : q_T} {Q : Option (q_V Int32) → y_H → Prop} {p : Nat} {ls : q_U Int32} {st : List (q_V Int32)} {s s2 : y_H} (hsh : y_shok sh = true) (he : ∀ o k A, w_ty sh o k = some A → y_mk sh s2 o k = y_mk sh s o k) (hw : y_W sh ts d t Q p ls st s) : y_W sh ts d t Q p ls st s2 := fun h ns hR => hw h ns (y_Rep hsh (fun o k A hA => (he o k A hA).symm) hR)
theorem y_callE {V : w_V} {d : Nat} {t : q_T} {Q0 : Option (q_V Int32) → y_H → Prop} {p : Nat} {ls : q_U Int32} {st st2 a : List (q_V Int32)} {s : y_H} {k D na ml len : Nat} {x : List Nat} {ins : Jvm.ClassFile.Instr} {as : List w_A} {outs : List (List (Nat × q_J) × Option w_A × w_U)} (hE : w_Ent V g_sh g_ts (k, as, [], [], outs, D)) (hx : outs.all (fun q => Nat.beq q.2.2.length 0) = true) (sv : Nat) (hq : q_get t p = some (ins, len, k :: na :: ml :: x)) (hins : ∀ cal h ns, q_act q_O32 none cal ins len (k :: na :: ml :: x) (p, ls, st) h ns = q_inv cal sv (k :: na :: ml :: x) len (p, ls, st) h ns) (htk : q_take na st [] = some (a, st2)) (hc : (Nat.ble (q_cats st2) 8 && Nat.ble (q_cats a) ml) = true) (hm : ∀ h, w_Rep g_sh h (y_mk g_sh s) → q_may sv x a h = true) (hd : D ≤ d) (hT : w_T V g_sh (y_mk g_sh s)) (ha : w_sts [] (y_mk g_sh s) (as.map w_kz) a) (hw : ∀ v, (∃ q ∈ outs, w_out a (y_mk g_sh s) q v) → y_W g_sh g_ts d t Q0 (p + len) ls (v.toList ++ st2) s) : y_W g_sh g_ts d t Q0 p ls st s := by
  have hex : ∀ q ∈ outs, y_ex g_sh q.2.2 = true := by
    intro q hq
    rw [List.all_eq_true] at hx
    have h1 := q_beq (hx q hq)
    have h2 : q.2.2 = [] := List.length_eq_zero_iff.mp h1
    rw [h2]
    rfl
  have hxE : y_exE g_sh (k, as, [], [], outs, D) = true := by
    unfold y_exE
    rw [Bool.and_eq_true]
    refine ⟨rfl, ?_⟩
    rw [List.all_eq_true]
    exact hex
  refine y_call (y_C.ofE g_shok g_pkok hxE hE) sv hq hins htk hc hm hd ⟨hT, ha, fun q hq => by cases hq⟩ (fun v s2 hQ => ?_)
  obtain ⟨-, hf, q, hq, ho⟩ := hQ
  have he : ∀ o k A, w_ty g_sh o k = some A → y_mk g_sh s2 o k = y_mk g_sh s o k := fun o k A hA => hf o k A hA rfl
  refine y_W_eq g_shok he (hw v ⟨q, hq, y_out (hex q hq) (fun o k A hA => (he o k A hA).symm) ho⟩)
/-- an int of a told range, for a contract's values -/
theorem y_iv {σ : w_G} {lo hi g : Nat} {x : Int32} (h1 : (lo : Int) - 2147483648 ≤ x.toInt) (h2 : x.toInt ≤ (hi : Int) - 2147483648) : w_in [] σ (w_kz (.inl ((lo, hi), g))) (.inl x) := by
  have e := q_pc_int x
  exact ⟨x, rfl, ⟨by show lo ≤ _; omega, by show _ ≤ hi; omega⟩, Or.inl rfl⟩
theorem y_ivall {σ : w_G} {g : Nat} {x : Int32} : w_in [] σ (w_kz (w_t g)) (.inl x) := ⟨x, rfl, q_jall_ok x, Or.inl rfl⟩
/-- an answer of a told range -/
theorem y_ans {a : List (q_V Int32)} {σ : w_G} {v : Option (q_V Int32)} {lo hi g : Nat} {l : List (Nat × q_J)} {M : w_U} (h : w_out a σ (l, some (.inl ((lo, hi), g)), M) v) : ∃ x : Int32, v = some (.inl x) ∧ (lo : Int) - 2147483648 ≤ x.toInt ∧ x.toInt ≤ (hi : Int) - 2147483648 := by
  obtain ⟨-, h2, -⟩ := h
  cases v with
  | none => exact h2.elim
  | some w =>
    obtain ⟨x, rfl, hx, -⟩ := h2
    have e := q_pc_int x
    have h3 : lo ≤ q_pc x := hx.1
    have h4 : q_pc x ≤ hi := hx.2
    exact ⟨x, rfl, by omega, by omega⟩
