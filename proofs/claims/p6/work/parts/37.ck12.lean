/-! the checker's word -/
theorem w_rows_at {sh : w_Sh} {nst : List Nat} {es : List w_E} {E0 : w_E} {y : w_Y} {t : q_T} {p : Nat} : ∀ n, w_rows sh nst es E0 y t n = true → p < n → w_row sh nst es E0 y t p = true := by
  intro n
  induction n with
  | zero => intro _ h; omega
  | succ n ih =>
    intro h hp
    have h2 : (w_row sh nst es E0 y t n && w_rows sh nst es E0 y t n) = true := h
    rw [Bool.and_eq_true] at h2
    rcases Nat.lt_or_ge p n with q | q
    · exact ih h2.2 q
    · rw [show p = n by omega]
      exact h2.1
theorem w_yat_lt {y : w_Y} {p : Nat} {z : w_Z} (h : w_yat y p = some z) : p < y.length * 16 := by
  unfold w_yat at h
  split at h
  next r hr =>
    have : p / 16 < y.length := by
      rcases Nat.lt_or_ge (p / 16) y.length with q | q
      · exact q
      · rw [List.getElem?_eq_none q] at hr
        cases hr
    omega
  next => cases h
def w_rk (ls : q_U Int32) (K : w_K) : Nat := K.1 + w_tms ls K.2
/-- locals that are never stored into keep the method's values -/
def w_pro (nst : List Nat) (ls0 ls : q_U Int32) : Prop := ∀ i ∈ nst, ∃ x : Int32, q_at ls0 i = some (.inl x) ∧ q_at ls i = some (.inl x)
/-- what is left to show at a place: the run ends with one of the contract's ends -/
def w_End (V : w_V) (sh : w_Sh) (ts : List q_T) (E0 : w_E) (d : Nat) (t : q_T) (ls0 : q_U Int32) (a : List (q_V Int32)) (σ0 : w_G) (f : q_F Int32) (h : q_H Int32) (ns : Nat) : Prop := ∃ (v : Option (q_V Int32)) (h2 : q_H Int32) (σ2 : w_G), q_Ends q_O32 ts d t f h ns (v, h2, ns) ∧ w_Rep sh h2 σ2 ∧ w_T V sh σ2 ∧ w_fr E0.2.2.2.1 σ0 σ2 ∧ ∃ q ∈ E0.2.2.2.2.1, w_out a σ2 q v
theorem w_po_ok {V : w_V} {sh : w_Sh} {nst : List Nat} {S : w_S} {ls ls0 : q_U Int32} {σ : w_G} {st : List (q_V Int32)} {a : List (q_V Int32)} (hT : w_T V sh σ) (ho : w_ok ls σ S st) (hp : w_pro nst ls0 ls) (ha : ∀ i ∈ nst, q_at ls0 i = a[i]?) {rv : Option w_A} {v : Option (q_V Int32)} (hv : match v, rv with
  | none, none => True
  | some w, some B => w_in ls σ B w
  | _, _ => False) {q : List (Nat × q_J) × Option w_A × w_U} (h : w_po sh nst S rv q = true) : w_out a σ q v := by
  unfold w_po at h
  rw [Bool.and_eq_true, Bool.and_eq_true, List.all_eq_true] at h
  obtain ⟨h1, h2, h3⟩ := h
  refine ⟨?_, ?_, w_oM_kz (w_leM_ok hT ho.2.2 h3)⟩
  · intro z hz
    have hb := h1 z hz
    rw [Bool.and_eq_true] at hb
    obtain ⟨c1, c2⟩ := hb
    rw [List.any_eq_true] at c1
    obtain ⟨i, hi, e⟩ := c1
    have ei := q_beq e
    subst ei
    obtain ⟨x, e0, e1⟩ := hp _ hi
    refine ⟨x, by rw [← ha _ hi]; exact e0, ?_⟩
    split at c2
    next A hA =>
      obtain ⟨w, ew, hw⟩ := ho.1 _ (w_at_mem _ _ _ hA)
      have hw2 := w_ef_ok hT ho.2.2 hw
      split at c2
      next J g hE =>
        rw [hE] at hw2
        obtain ⟨y, rfl, hy, -⟩ := hw2
        have ew2 : q_at ls z.1 = some (.inl y) := ew
        rw [e1] at ew2
        cases ew2
        exact q_jle_ok c2 hy
      next => cases c2
    next => cases c2
  · cases v with
    | none =>
      cases rv with
      | none =>
        cases hq : q.2.1 with
        | none => trivial
        | some B => rw [hq] at h2; cases h2
      | some B => exact hv.elim
    | some w =>
      cases rv with
      | none => exact hv.elim
      | some A =>
        cases hq : q.2.1 with
        | none => rw [hq] at h2; cases h2
        | some B =>
          rw [hq] at h2
          have := w_in_kz (ls2 := []) (σ2 := σ) (w_le1_ok h2 (w_ef_ok hT ho.2.2 hv))
          rwa [w_kz_kz] at this
theorem w_ret_ok {V : w_V} {sh : w_Sh} {ts : List q_T} {nst : List Nat} {E0 : w_E} {d : Nat} {t : q_T} {ls0 ls : q_U Int32} {a : List (q_V Int32)} {σ0 σ : w_G} {h : q_H Int32} {ns p len : Nat} {ins : Jvm.ClassFile.Instr} {r : List Nat} {S : w_S} {st : List (q_V Int32)} (hq : q_get t p = some (ins, len, r)) (hR : w_Rep sh h σ) (hT : w_T V sh σ) (ho : w_ok ls σ S st) (hp : w_pro nst ls0 ls) (ha : ∀ i ∈ nst, q_at ls0 i = a[i]?) (hf : w_fr E0.2.2.2.1 σ0 σ) (hr : w_ret sh nst E0 ins r S = true) : w_End V sh ts E0 d t ls0 a σ0 (p, ls, st) h ns := by
  unfold w_ret at hr
  obtain ⟨S1, S2, S3⟩ := S
  split at hr
  · split at hr
    next kd A hS =>
      cases hS
      rcases st with _ | ⟨v, _ | ⟨w, st⟩⟩
      · exact ho.2.1.elim
      · have hA : w_in ls σ A v := ho.2.1.1
        have hA2 := w_ef_ok hT ho.2.2 hA
        dsimp only at hr
        split at hr
        next J g hE =>
          rw [Bool.and_eq_true, List.any_eq_true] at hr
          obtain ⟨hk, q, hqm, hpo⟩ := hr
          rw [hE] at hA2
          obtain ⟨x, rfl, hx, -⟩ := hA2
          have hfit : q_fit q_O32 kd (.inl x) = true := by
            show (Nat.beq kd 0 || (Nat.beq kd 1 && q_ib x)) = true
            rw [Bool.or_eq_true, Bool.and_eq_true] at hk ⊢
            rcases hk with hk | hk
            · exact Or.inl hk
            · exact Or.inr ⟨hk.1, w_bit_ok hk.2 hx⟩
          refine ⟨some (.inl x), h, σ, q_Ends.ret (n := 0) ?_, hR, hT, hf, q, hqm, w_po_ok hT ho hp ha (v := some (.inl x)) hA hpo⟩
          unfold q_step
          dsimp only
          rw [hq]
          show q_iret q_O32 [kd] (p, ls, [.inl x]) h ns = _
          unfold q_iret
          dsimp only
          rw [hfit]
          rfl
        next => cases hr
      · exact ho.2.1.2.elim
    next => cases hr
  · split at hr
    next u hS =>
      cases hS
      rcases st with _ | ⟨v, _ | ⟨w, st⟩⟩
      · exact ho.2.1.elim
      · obtain ⟨x, rfl⟩ := ho.2.1.1
        rw [List.any_eq_true] at hr
        obtain ⟨q, hqm, hpo⟩ := hr
        refine ⟨some (.inr (.inl x)), h, σ, q_Ends.ret (n := 0) ?_, hR, hT, hf, q, hqm, w_po_ok hT ho hp ha (v := some (.inr (.inl x))) (show w_in ls σ (.inr (.inl u)) _ from ⟨x, rfl⟩) hpo⟩
        unfold q_step
        dsimp only
        rw [hq]
        rfl
      · exact ho.2.1.2.elim
    next => cases hr
  · split at hr
    next hS =>
      cases hS
      rcases st with _ | ⟨v, st⟩
      · rw [List.any_eq_true] at hr
        obtain ⟨q, hqm, hpo⟩ := hr
        refine ⟨none, h, σ, q_Ends.ret (n := 0) ?_, hR, hT, hf, q, hqm, w_po_ok hT ho hp ha (v := none) True.intro hpo⟩
        unfold q_step
        dsimp only
        rw [hq]
        rfl
      · exact ho.2.1.elim
    next => cases hr
  · cases hr
theorem w_run {V : w_V} {sh : w_Sh} {ts : List q_T} {nst : List Nat} {es : List w_E} {E0 : w_E} {y : w_Y} {t : q_T} {n d : Nat} {ls0 : q_U Int32} {a : List (q_V Int32)} {σ0 : w_G} (hes : ∀ E ∈ es, w_Ent V sh ts E) (hd : E0.2.2.2.2.2 ≤ d + 1) (hn : y.length * 16 = n) (hrows : w_rows sh nst es E0 y t n = true) (ha : ∀ i ∈ nst, q_at ls0 i = a[i]?) : ∀ (N p : Nat) (ls : q_U Int32) (st : List (q_V Int32)) (σ : w_G) (h : q_H Int32) (ns : Nat) (z : w_Z) (S : w_S), w_yat y p = some z → S ∈ z.2.2 → w_rk ls z.2.1 < N → w_Rep sh h σ → w_T V sh σ → w_ok ls σ S st → w_pro nst ls0 ls → w_fr E0.2.2.2.1 σ0 σ → w_End V sh ts E0 d t ls0 a σ0 (p, ls, st) h ns := by
  intro N
  induction N with
  | zero => intro p ls st σ h ns z S _ _ hlt; omega
  | succ N ih =>
    intro p ls st σ h ns z S hz hS hlt hR hT ho hp hf
    have hrow := w_rows_at n hrows (show p < n by have := w_yat_lt hz; omega)
    unfold w_row at hrow
    rw [hz] at hrow
    dsimp only at hrow
    split at hrow
    next hnil => rw [hnil] at hS; cases hS
    next hne =>
      split at hrow
      next q hq =>
        obtain ⟨ins, len, r⟩ := q
        rw [Bool.and_eq_true, List.all_eq_true, List.all_eq_true] at hrow
        obtain ⟨hnst, hall⟩ := hrow
        have h1 := hall S hS
        unfold w_ok1 at h1
        rw [Bool.or_eq_true] at h1
        rcases h1 with h1 | h1
        · exact w_ret_ok hq hR hT ho hp ha hf h1
        · rw [List.any_eq_true] at h1
          obtain ⟨j, -, h1⟩ := h1
          unfold w_try at h1
          split at h1
          next E hE =>
            split at h1
            next L hL =>
              obtain ⟨m, s, hs, ls2, st2, h2, σ2, hX, hR2, hT2, ho2, hf2, hl⟩ := w_act_ok (ns := ns) ins hd (hes E (List.mem_of_getElem? hE)) hR hT ho hL
              rw [List.all_eq_true] at h1
              have h3 := h1 s hs
              split at h3
              next z2 hz2 =>
                rw [Bool.and_eq_true, List.any_eq_true] at h3
                obtain ⟨hdec, S2, hS2, hle⟩ := h3
                have hrk := w_dec_ok ho ho2 hl _ _ hdec
                have hp2 : w_pro nst ls0 ls2 := by
                  intro i hi
                  obtain ⟨x, e0, e1⟩ := hp i hi
                  refine ⟨x, e0, w_lsr_keep hl ?_ e1⟩
                  have := hnst i hi
                  simpa using this
                have hlt2 : w_rk ls2 z2.2.1 < N := by
                  unfold w_rk at hlt ⊢
                  omega
                obtain ⟨v, h4, σ4, hends, rest⟩ := ih s.1 ls2 st2 σ2 h2 ns z2 S2 hz2 hS2 hlt2 hR2 hT2 (w_leS_ok hT2 hle ho2) hp2 (hf.tr hf2)
                refine ⟨v, h4, σ4, q_Ends.step (n := m) ?_ hends, rest⟩
                unfold q_step
                dsimp only
                rw [hq]
                exact hX
              next => cases h3
            next => cases h1
          next => cases h1
      next => cases hrow
theorem w_args_ge : ∀ (vs : List (q_V Int32)) (i j : Nat) (w : q_V Int32), q_at (q_args i vs) j = some w → i ≤ j
  | [], _, _, _, h => by cases h
  | v :: vs, i, j, w, h => by
    rcases Nat.decEq i j with e | e
    · have h2 : q_at ((i, v) :: q_args (bif Nat.beq (q_cat v) 2 then i + 2 else i + 1) vs) j = some w := h
      rw [w_at_cons_ne e] at h2
      have := w_args_ge vs _ j w h2
      cases hb : Nat.beq (q_cat v) 2 <;> rw [hb] at this
      · have h3 : i + 1 ≤ j := this
        omega
      · have h3 : i + 2 ≤ j := this
        omega
    · omega
theorem w_args_at : ∀ (vs : List (q_V Int32)) (i j : Nat), (∀ v ∈ vs, q_cat v = 1) → q_at (q_args i vs) (i + j) = vs[j]?
  | [], _, _, _ => rfl
  | v :: vs, i, 0, _ => w_at_cons _ _ _
  | v :: vs, i, j + 1, h => by
    show q_at ((i, v) :: q_args (bif Nat.beq (q_cat v) 2 then i + 2 else i + 1) vs) (i + (j + 1)) = _
    rw [h v List.mem_cons_self, w_at_cons_ne (by omega)]
    have := w_args_at vs (i + 1) j (fun w hw => h w (List.mem_cons_of_mem _ hw))
    rw [show i + 1 + j = i + (j + 1) by omega] at this
    exact this
theorem w_sts_len {ls : q_U Int32} {σ : w_G} : ∀ (as : List w_A) (vs : List (q_V Int32)) (j : Nat) (A : w_A), w_sts ls σ as vs → as[j]? = some A → ∃ v, vs[j]? = some v ∧ w_in ls σ A v
  | [], _, _, _, _, h => by cases h
  | _ :: _, [], _, _, h, _ => h.elim
  | _ :: _, v :: _, 0, _, h, h1 => by
    cases h1
    exact ⟨v, rfl, h.1⟩
  | _ :: as, _ :: vs, j + 1, A, h, h1 => w_sts_len as vs j A h.2 h1
theorem w_sts_cat {ls : q_U Int32} {σ : w_G} : ∀ (as : List w_A) (vs : List (q_V Int32)), w_sts ls σ (as.map w_kz) vs → as.all (fun A => !(w_isL A)) = true → ∀ v ∈ vs, q_cat v = 1
  | [], [], _, _ => fun v hv => by cases hv
  | [], _ :: _, h, _ => h.elim
  | _ :: _, [], h, _ => h.elim
  | A :: as, w :: vs, h, hb => by
    rw [List.all_cons, Bool.and_eq_true] at hb
    intro v hv
    rcases List.mem_cons.mp hv with e | hv
    · subst e
      have h1 := w_in_cat (show w_in ls σ (w_kz A) v from h.1)
      rw [h1]
      rcases A with ⟨J, g⟩ | u | l
      · rfl
      · cases hb.1
      · rfl
    · exact w_sts_cat as vs h.2 hb.2 v hv
theorem w_args_ok {ls : q_U Int32} {σ : w_G} : ∀ (as : List w_A) (vs : List (q_V Int32)) (i : Nat), w_sts [] σ (as.map w_kz) vs → (∀ j v, q_at (q_args i vs) j = some v → q_at ls j = some v) → w_oL ls σ (w_args i as)
  | [], _, _, _, _ => by
    intro q hq
    cases hq
  | A :: as, [], _, h, _ => h.elim
  | A :: as, v :: vs, i, h, hl => by
    have hA : w_in [] σ (w_kz A) v := h.1
    have hc : (Nat.beq (q_cat v) 2) = w_isL A := by
      have h1 := w_in_isL hA
      have h2 : w_isL (w_kz A) = w_isL A := by
        rcases A with ⟨J, g⟩ | u | l <;> rfl
      rw [h2] at h1
      rw [← h1]
      rcases v with x | x | x <;> rfl
    intro q hq
    rcases List.mem_cons.mp hq with e | hq
    · subst e
      refine ⟨v, hl i v (w_at_cons _ _ _), ?_⟩
      have := w_in_kz (ls2 := ls) (σ2 := σ) hA
      rwa [w_kz_kz] at this
    · refine w_args_ok as vs (bif w_isL A then i + 2 else i + 1) h.2 ?_ q hq
      intro j w hj
      apply hl
      show q_at ((i, v) :: q_args (bif Nat.beq (q_cat v) 2 then i + 2 else i + 1) vs) j = some w
      rw [hc]
      rw [w_at_cons_ne ?_]
      · exact hj
      · intro e
        have := w_args_ge vs _ j w hj
        subst e
        cases hb : w_isL A <;> rw [hb] at this
        · have h3 : i + 1 ≤ i := this
          omega
        · have h3 : i + 2 ≤ i := this
          omega
/-- what is checked holds -/
theorem w_chk_ok {V : w_V} {sh : w_Sh} {ts : List q_T} {nst : List Nat} {es : List w_E} {E0 : w_E} {y : w_Y} {t : q_T} {n : Nat} (ht : ts[E0.1]? = some t) (hes : ∀ E ∈ es, w_Ent V sh ts E) (hc : w_chk sh nst es E0 y t n = true) : w_Ent V sh ts E0 := by
  unfold w_chk at hc
  simp only [Bool.and_eq_true, Bool.or_eq_true, Nat.beq_eq, Nat.blt_eq] at hc
  obtain ⟨c1, ⟨c2, c3⟩, c4, c5, c6⟩ := hc
  intro d a σ h ns hd hR hT hargs hpre
  rcases d with _ | d
  · omega
  · have hpro : w_pro nst (q_args 0 a) (q_args 0 a) ∧ ∀ i ∈ nst, q_at (q_args 0 a) i = a[i]? := by
      rcases c3 with c3 | c3
      · have : nst = [] := List.length_eq_zero_iff.mp c3
        subst this
        exact ⟨fun i hi => (by cases hi), fun i hi => (by cases hi)⟩
      · have hcat := w_sts_cat _ _ hargs c3
        have hat : ∀ i, q_at (q_args 0 a) i = a[i]? := fun i => by
          have := w_args_at a 0 i hcat
          rwa [Nat.zero_add] at this
        refine ⟨fun i hi => ?_, fun i _ => hat i⟩
        rw [List.all_eq_true] at c2
        have h1 := c2 i hi
        split at h1
        next J hA =>
          have hA2 : (E0.2.1.map w_kz)[i]? = some (w_kz (.inl J)) := by
            rw [List.getElem?_map, hA]
            rfl
          obtain ⟨v, hv, x, rfl, -, -⟩ := w_sts_len _ _ i _ hargs hA2
          exact ⟨x, by rw [hat]; exact hv, by rw [hat]; exact hv⟩
        next => cases h1
    split at c4
    next z hz =>
      rw [List.any_eq_true] at c4
      obtain ⟨S, hS, hle⟩ := c4
      have ho : w_ok (q_args 0 a) σ (w_args 0 E0.2.1, [], w_kzM E0.2.2.1) [] := by
        refine ⟨w_args_ok _ _ 0 hargs (fun j v hj => hj), True.intro, ?_⟩
        intro q hq
        obtain ⟨h1, h2⟩ := hpre q hq
        refine ⟨h1, ?_⟩
        have hq2 : q ∈ E0.2.2.1.map (fun q => (q.1, w_kz q.2)) := hq
        rw [List.mem_map] at hq2
        obtain ⟨q0, hq0, rfl⟩ := hq2
        have := w_in_kz (ls2 := q_args 0 a) (σ2 := σ) h2
        rwa [w_kz_kz] at this
      obtain ⟨v, h2, σ2, ⟨m, hm⟩, hR2, hT2, hf, hout⟩ := w_run (d := d) (ls0 := q_args 0 a) (a := a) (σ0 := σ) hes hd c1 c6 hpro.2 _ 0 (q_args 0 a) [] σ h ns z S hz hS (Nat.lt_succ_self _) hR hT (w_leS_ok hT hle ho) hpro.1 w_fr.rf
      refine ⟨m, v, h2, σ2, ?_, hR2, hT2, hf, hout⟩
      unfold q_call
      dsimp only
      rw [ht]
      exact hm
    next => cases c4
theorem w_triv {V : w_V} {sh : w_Sh} {ts : List q_T} : w_Ent V sh ts w_E9 := by
  intro d a σ h ns _ _ _ ha _
  rcases a with _ | ⟨v, _ | ⟨w, a⟩⟩
  · exact ha.elim
  · obtain ⟨n, -, hn⟩ := ha.1
    cases hn
  · exact ha.2.elim
