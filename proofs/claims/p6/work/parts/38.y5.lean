/-! contracts by hand -/
def y_C (sh : w_Sh) (ts : List q_T) (k D : Nat) (P : List (q_V Int32) → y_H → Prop) (Q : List (q_V Int32) → y_H → Option (q_V Int32) → y_H → Prop) : Prop := ∀ d a s, D ≤ d → P a s → ∀ h ns, w_Rep sh h (y_mk sh s) → ∃ n v h2 s2, q_call q_O32 ts n d k a h ns = some (v, h2, ns) ∧ w_Rep sh h2 (y_mk sh s2) ∧ Q a s v s2
theorem y_C.of {sh : w_Sh} {ts : List q_T} {k D : Nat} {t : q_T} {P : List (q_V Int32) → y_H → Prop} {Q : List (q_V Int32) → y_H → Option (q_V Int32) → y_H → Prop} (ht : ts[k]? = some t) (hD : 0 < D) (H : ∀ d a s, D ≤ d + 1 → P a s → y_W sh ts d t (Q a s) 0 (q_args 0 a) [] s) : y_C sh ts k D P Q := by
  intro d a s hd hP h ns hR
  rcases d with _ | d
  · omega
  · obtain ⟨v, h2, s2, ⟨n, hn⟩, hR2, hQ⟩ := H d a s hd hP h ns hR
    refine ⟨n, v, h2, s2, ?_, hR2, hQ⟩
    unfold q_call
    dsimp only
    rw [ht]
    exact hn
theorem y_C.weak {sh : w_Sh} {ts : List q_T} {k D D2 : Nat} {P P2 : List (q_V Int32) → y_H → Prop} {Q Q2 : List (q_V Int32) → y_H → Option (q_V Int32) → y_H → Prop} (h : y_C sh ts k D P Q) (hD : D ≤ D2) (hP : ∀ a s, P2 a s → P a s) (hQ : ∀ a s v s2, P2 a s → Q a s v s2 → Q2 a s v s2) : y_C sh ts k D2 P2 Q2 := by
  intro d a s hd hp hh ns hR
  obtain ⟨n, v, h2, s2, e, hR2, q⟩ := h d a s (by omega) (hP a s hp) hh ns hR
  exact ⟨n, v, h2, s2, e, hR2, hQ a s v s2 hp q⟩
/-- lists of ranges that are not empty, rows that are not too long -/
def y_shok (sh : w_Sh) : Bool := sh.all (fun q => Nat.blt 0 q.2.2.length && Nat.ble q.2.1 4096)
theorem y_shok_l {sh : w_Sh} (h : y_shok sh = true) (o : Nat) (q : Nat × Nat × List w_A) (hq : sh[o]? = some q) : 0 < q.2.2.length ∧ q.2.1 ≤ 4096 := by
  unfold y_shok at h
  rw [List.all_eq_true] at h
  have := h q (List.mem_of_getElem? hq)
  rw [Bool.and_eq_true] at this
  exact ⟨q_blt this.1, Nat.le_of_ble_eq_true this.2⟩
theorem y_ty_lt {sh : w_Sh} (h : y_shok sh = true) {o k : Nat} {A : w_A} (hA : w_ty sh o k = some A) : k < 4096 := by
  unfold w_ty at hA
  split at hA
  next q hq =>
    obtain ⟨hb, -⟩ := w_bs hA
    have := q_blt hb
    have := (y_shok_l h o q hq).2
    omega
  next => cases hA
/-- the keys of M are slots that are there -/
def y_ex (sh : w_Sh) (M : w_U) : Bool := M.all (fun q => (w_ty sh (w_ko q.1) (w_kk q.1)).isSome)
theorem y_oM {sh : w_Sh} {σ σ2 : w_G} {ls ls2 : q_U Int32} {M : w_U} (hx : y_ex sh M = true) (he : ∀ o k A, w_ty sh o k = some A → σ2 o k = σ o k) (h : w_oM ls σ (w_kzM M)) : w_oM ls2 σ2 (w_kzM M) := by
  intro q hq
  obtain ⟨h1, h2⟩ := h q hq
  have hq2 : q ∈ M.map (fun q => (q.1, w_kz q.2)) := hq
  rw [List.mem_map] at hq2
  obtain ⟨q0, hq0, rfl⟩ := hq2
  unfold y_ex at hx
  rw [List.all_eq_true] at hx
  have hs := hx q0 hq0
  rw [Option.isSome_iff_exists] at hs
  obtain ⟨A, hA⟩ := hs
  refine ⟨h1, ?_⟩
  show w_in ls2 σ2 (w_kz q0.2) (σ2 (w_ko q0.1) (w_kk q0.1))
  rw [he _ _ A hA]
  have := w_in_kz (ls2 := ls2) (σ2 := σ2) h2
  rwa [w_kz_kz] at this
/-- the keys of g_pk are slots that are there -/
def y_pkr (sh : w_Sh) (a : Nat) : Nat → Bool
  | 0 => true
  | n + 1 => (w_ty sh (w_ko (a + n)) (w_kk (a + n))).isSome && y_pkr sh a n
def y_pk (sh : w_Sh) : Bool := g_pk.all (fun q => Nat.ble 64 q.1 && y_pkr sh q.1 (q.2 + 1 - q.1))
theorem y_pkr_ok {sh : w_Sh} {a g : Nat} : ∀ n, y_pkr sh a n = true → a ≤ g → g < a + n → ∃ A, w_ty sh (w_ko g) (w_kk g) = some A := by
  intro n
  induction n with
  | zero => intro _ _ _; omega
  | succ n ih =>
    intro h h1 h2
    have h3 : ((w_ty sh (w_ko (a + n)) (w_kk (a + n))).isSome && y_pkr sh a n) = true := h
    rw [Bool.and_eq_true] at h3
    rcases Nat.lt_or_ge g (a + n) with q | q
    · exact ih h3.2 h1 q
    · rw [show g = a + n by omega]
      exact Option.isSome_iff_exists.mp h3.1
theorem y_pk_ok {sh : w_Sh} (h : y_pk sh = true) {o k : Nat} (hk : k < 4096) (hm : w_inm g_pk (w_key o k) = true) : ∃ A, w_ty sh o k = some A := by
  unfold w_inm at hm
  rw [List.any_eq_true] at hm
  obtain ⟨q, hq, hc⟩ := hm
  unfold y_pk at h
  rw [List.all_eq_true] at h
  have h1 := h q hq
  rw [Bool.and_eq_true] at h1 hc
  have c1 := Nat.le_of_ble_eq_true hc.1
  have c2 := Nat.le_of_ble_eq_true hc.2
  have := y_pkr_ok (g := w_key o k) _ h1.2 c1 (by omega)
  rwa [w_ko_key hk, w_kk_key hk] at this
theorem y_T {V : w_V} {sh : w_Sh} {σ σ2 : w_G} (hpk : y_pk sh = true) (he : ∀ o k A, w_ty sh o k = some A → σ2 o k = σ o k) (hT : w_T V sh σ) : w_T V sh σ2 := by
  refine ⟨?_, V.2 σ σ2 (fun o k hk hm => ?_) hT.2⟩
  · intro o k A hA
    rw [he o k A hA]
    have := w_in_kz (ls2 := []) (σ2 := σ2) (hT.1 o k A hA)
    rwa [w_ty_kz hA] at this
  · obtain ⟨A, hA⟩ := y_pk_ok hpk hk hm
    exact he o k A hA
theorem y_sts {σ σ2 : w_G} {ls ls2 : q_U Int32} {as : List w_A} {a : List (q_V Int32)} (h : w_sts ls σ (as.map w_kz) a) : w_sts ls2 σ2 (as.map w_kz) a := by
  have := w_sts_kz (ls2 := ls2) (σ2 := σ2) _ _ h
  rw [List.map_map] at this
  have e : w_kz ∘ w_kz = w_kz := by
    funext A
    exact w_kz_kz A
  rwa [e] at this
/-- nothing that is there is written but under the keys of ms -/
def y_fr (sh : w_Sh) (ms : List (Nat × Nat)) (s s2 : y_H) : Prop := ∀ o k A, w_ty sh o k = some A → w_inm ms (w_key o k) = false → y_mk sh s2 o k = y_mk sh s o k
theorem y_out {sh : w_Sh} {σ σ2 : w_G} {a : List (q_V Int32)} {v : Option (q_V Int32)} {q : List (Nat × q_J) × Option w_A × w_U} (hx : y_ex sh q.2.2 = true) (he : ∀ o k A, w_ty sh o k = some A → σ2 o k = σ o k) (h : w_out a σ q v) : w_out a σ2 q v := by
  obtain ⟨h1, h2, h3⟩ := h
  refine ⟨h1, ?_, y_oM hx he h3⟩
  cases v with
  | none =>
    cases hq : q.2.1 with
    | none => trivial
    | some B => rw [hq] at h2; exact h2
  | some w =>
    cases hq : q.2.1 with
    | none => rw [hq] at h2; exact h2
    | some B =>
      rw [hq] at h2
      have := w_in_kz (ls2 := []) (σ2 := σ2) h2
      rwa [w_kz_kz] at this
def y_P (V : w_V) (sh : w_Sh) (E : w_E) (a : List (q_V Int32)) (s : y_H) : Prop := w_T V sh (y_mk sh s) ∧ w_sts [] (y_mk sh s) (E.2.1.map w_kz) a ∧ w_oM [] (y_mk sh s) (w_kzM E.2.2.1)
def y_Q (V : w_V) (sh : w_Sh) (E : w_E) (a : List (q_V Int32)) (s : y_H) (v : Option (q_V Int32)) (s2 : y_H) : Prop := w_T V sh (y_mk sh s2) ∧ y_fr sh E.2.2.2.1 s s2 ∧ ∃ q ∈ E.2.2.2.2.1, w_out a (y_mk sh s2) q v
def y_exE (sh : w_Sh) (E : w_E) : Bool := y_ex sh E.2.2.1 && E.2.2.2.2.1.all (fun q => y_ex sh q.2.2)
/-- the checker's contracts, to be used by hand -/
theorem y_C.ofE {V : w_V} {sh : w_Sh} {ts : List q_T} {E : w_E} (hsh : y_shok sh = true) (hpk : y_pk sh = true) (hx : y_exE sh E = true) (hE : w_Ent V sh ts E) : y_C sh ts E.1 E.2.2.2.2.2 (y_P V sh E) (y_Q V sh E) := by
  intro d a s hd hP h ns hR
  obtain ⟨n, v, h2, σ2, hc, hR2, hT2, hf, q, hq, ho⟩ := hE d a (y_mk sh s) h ns hd hR hP.1 hP.2.1 hP.2.2
  obtain ⟨s2, hRs, hag⟩ := y_of hR2 hT2 (fun o q hq => (y_shok_l hsh o q hq).1)
  unfold y_exE at hx
  rw [Bool.and_eq_true, List.all_eq_true] at hx
  refine ⟨n, v, h2, s2, hc, hRs, y_T hpk hag hT2, ?_, q, hq, y_out (hx.2 q hq) hag ho⟩
  intro o k A hA hm
  rw [hag o k A hA]
  exact hf o k (y_ty_lt hsh hA) hm
/-- a contract by hand, for the checker -/
theorem y_C.toE {V : w_V} {sh : w_Sh} {ts : List q_T} {E : w_E} (hsh : y_shok sh = true) (hpk : y_pk sh = true) (hx : y_exE sh E = true) (hC : y_C sh ts E.1 E.2.2.2.2.2 (y_P V sh E) (y_Q V sh E)) : w_Ent V sh ts E := by
  intro d a σ h ns hd hR hT ha hp
  obtain ⟨s, hRs, hag⟩ := y_of hR hT (fun o q hq => (y_shok_l hsh o q hq).1)
  unfold y_exE at hx
  rw [Bool.and_eq_true, List.all_eq_true] at hx
  obtain ⟨n, v, h2, s2, hc, hR2, hT2, hf, q, hq, ho⟩ := hC d a s hd ⟨y_T hpk hag hT, y_sts ha, y_oM hx.1 hag hp⟩ h ns hRs
  have hag2 : ∀ o k A, w_ty sh o k = some A → (fun o k => match w_ty sh o k with
      | some _ => y_mk sh s2 o k
      | none => σ o k : w_G) o k = y_mk sh s2 o k := by
    intro o k A hA
    dsimp only
    rw [hA]
  refine ⟨n, v, h2, fun o k => match w_ty sh o k with
    | some _ => y_mk sh s2 o k
    | none => σ o k, hc, ?_, y_T hpk hag2 hT2, ?_, q, hq, y_out (hx.2 q hq) hag2 ho⟩
  · refine ⟨hR2.1, ?_⟩
    intro o q hq k hk
    have h1 := hR2.1 o
    rw [hq] at h1
    cases hs : sh[o]? with
    | none => rw [hs] at h1; cases h1
    | some z =>
      rw [hs] at h1
      have e2 : q.2.1 = z.2.1 := by
        have := Option.some.inj h1
        exact congrArg Prod.snd this
      have hty : ∃ A, w_ty sh o k = some A := by
        unfold w_ty
        rw [hs]
        dsimp only
        rw [show Nat.blt k z.2.1 = true by rw [Nat.blt_eq, ← e2]; exact hk, cond_true]
        have hlt : k % z.2.2.length < z.2.2.length := Nat.mod_lt _ (y_shok_l hsh o z hs).1
        rw [List.getElem?_eq_getElem hlt]
        exact ⟨_, rfl⟩
      obtain ⟨A, hA⟩ := hty
      have := hag2 o k A hA
      dsimp only at this ⊢
      rw [this]
      exact hR2.2 o q hq k hk
  · intro o k hk hm
    dsimp only
    cases hA : w_ty sh o k with
    | none => rfl
    | some A =>
      dsimp only
      rw [hf o k A hA hm, hag o k A hA]
/-- a call -/
theorem y_call {sh : w_Sh} {ts : List q_T} {d : Nat} {t : q_T} {Q0 : Option (q_V Int32) → y_H → Prop} {p : Nat} {ls : q_U Int32} {st st2 a : List (q_V Int32)} {s : y_H} {k D na ml len : Nat} {x : List Nat} {ins : Jvm.ClassFile.Instr} {P : List (q_V Int32) → y_H → Prop} {Q : List (q_V Int32) → y_H → Option (q_V Int32) → y_H → Prop} (hC : y_C sh ts k D P Q) (sv : Nat) (hq : q_get t p = some (ins, len, k :: na :: ml :: x)) (hins : ∀ cal h ns, q_act q_O32 none cal ins len (k :: na :: ml :: x) (p, ls, st) h ns = q_inv cal sv (k :: na :: ml :: x) len (p, ls, st) h ns) (htk : q_take na st [] = some (a, st2)) (hc : (Nat.ble (q_cats st2) 8 && Nat.ble (q_cats a) ml) = true) (hm : ∀ h, w_Rep sh h (y_mk sh s) → q_may sv x a h = true) (hd : D ≤ d) (hP : P a s) (hw : ∀ v s2, Q a s v s2 → y_W sh ts d t Q0 (p + len) ls (v.toList ++ st2) s2) : y_W sh ts d t Q0 p ls st s := by
  intro h ns hR
  obtain ⟨n, v, h2, s2, hcall, hR2, hQ⟩ := hC d a s hd hP h ns hR
  obtain ⟨w, h3, s3, he, hR3, hQ3⟩ := hw v s2 hQ h2 ns hR2
  refine ⟨w, h3, s3, q_Ends.step (n := n) (f1 := (p + len, ls, v.toList ++ st2)) (h1 := h2) (n1 := ns) ?_ he, hR3, hQ3⟩
  unfold q_step
  dsimp only
  rw [hq]
  dsimp only
  rw [hins]
  unfold q_inv
  dsimp only
  rw [htk]
  dsimp only
  rw [Bool.and_eq_true] at hc
  rw [hc.1, hc.2, hm h hR]
  simp only [Bool.and_self, cond_true]
  rw [hcall]
  rfl
theorem y_mayV {sh : w_Sh} {h : q_H Int32} {s : y_H} {n o ci sz : Nat} {a : List (q_V Int32)} (hr : y_ref sh n = some (o, ci, sz)) (hR : w_Rep sh h (y_mk sh s)) : q_may 1 [ci] (.inr (.inr n) :: a) h = true := by
  obtain ⟨rfl, u, hu⟩ := y_ref_ok hR hr
  show q_mayV [ci] (h[o]?) = true
  rw [hu]
  exact q_beq_self ci
