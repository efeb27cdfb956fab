/-! calls -/
def w_out (a : List (q_V Int32)) (σ : w_G) (q : List (Nat × q_J) × Option w_A × w_U) (v : Option (q_V Int32)) : Prop := (∀ z ∈ q.1, ∃ x, a[z.1]? = some (.inl x) ∧ q_jr z.2 x) ∧ (match v, q.2.1 with
  | none, none => True
  | some w, some B => w_in [] σ (w_kz B) w
  | _, _ => False) ∧ w_oM [] σ (w_kzM q.2.2)
/-- a contract holds: from every heap of told ranges the method ends, one of its ends holds, and the ranges -/
def w_Ent (V : w_V) (sh : w_Sh) (ts : List q_T) (E : w_E) : Prop := ∀ (d : Nat) (a : List (q_V Int32)) (σ : w_G) (h : q_H Int32) (ns : Nat), E.2.2.2.2.2 ≤ d → w_Rep sh h σ → w_T V sh σ → w_sts [] σ (E.2.1.map w_kz) a → w_oM [] σ (w_kzM E.2.2.1) → ∃ (n : Nat) (v : Option (q_V Int32)) (h2 : q_H Int32) (σ2 : w_G), q_call q_O32 ts n d E.1 a h ns = some (v, h2, ns) ∧ w_Rep sh h2 σ2 ∧ w_T V sh σ2 ∧ w_fr E.2.2.2.1 σ σ2 ∧ ∃ q ∈ E.2.2.2.2.1, w_out a σ2 q v
theorem w_oM_kz {ls ls2 : q_U Int32} {σ : w_G} {M : w_U} (h : w_oM ls σ M) : w_oM ls2 σ (w_kzM M) := by
  intro q hq
  have hq2 : q ∈ M.map (fun q => (q.1, w_kz q.2)) := hq
  rw [List.mem_map] at hq2
  obtain ⟨q0, hq0, rfl⟩ := hq2
  obtain ⟨h1, h2⟩ := h q0 hq0
  exact ⟨h1, w_in_kz h2⟩
theorem w_sts_kz {ls ls2 : q_U Int32} {σ σ2 : w_G} : ∀ (as : List w_A) (vs : List (q_V Int32)), w_sts ls σ as vs → w_sts ls2 σ2 (as.map w_kz) vs
  | [], [], _ => True.intro
  | [], _ :: _, h => h.elim
  | _ :: _, [], h => h.elim
  | _ :: as, _ :: vs, h => ⟨w_in_kz h.1, w_sts_kz as vs h.2⟩
theorem w_sts_ef {V : w_V} {sh : w_Sh} {ls : q_U Int32} {σ : w_G} {M : w_U} (hT : w_T V sh σ) (hM : w_oM ls σ M) : ∀ (as : List w_A) (vs : List (q_V Int32)), w_sts ls σ as vs → w_sts ls σ (as.map (w_ef sh M)) vs
  | [], [], _ => True.intro
  | [], _ :: _, h => h.elim
  | _ :: _, [], h => h.elim
  | _ :: as, _ :: vs, h => ⟨w_ef_ok hT hM h.1, w_sts_ef hT hM as vs h.2⟩
theorem w_sts_get {ls : q_U Int32} {σ : w_G} : ∀ (as : List w_A) (vs : List (q_V Int32)) (j : Nat) (A : w_A) (v : q_V Int32), w_sts ls σ as vs → as[j]? = some A → vs[j]? = some v → w_in ls σ A v
  | [], _, _, _, _, _, h1, _ => by cases h1
  | _ :: _, [], _, _, _, h, _, _ => h.elim
  | _ :: _, _ :: _, 0, _, _, h, h1, h2 => by
    cases h1
    cases h2
    exact h.1
  | _ :: as, _ :: vs, j + 1, A, v, h, h1, h2 => w_sts_get as vs j A v h.2 h1 h2
theorem w_take_ok {ls : q_U Int32} {σ : w_G} : ∀ (n : Nat) (as : List w_A) (vs : List (q_V Int32)) (bs : List w_A) (ws : List (q_V Int32)) (a2 s2 : List w_A), w_sts ls σ as vs → w_sts ls σ bs ws → w_take n as bs = some (a2, s2) → ∃ v2 st2, q_take n vs ws = some (v2, st2) ∧ w_sts ls σ a2 v2 ∧ w_sts ls σ s2 st2
  | 0, as, vs, bs, ws, a2, s2, h1, h2, h3 => by
    cases h3
    exact ⟨ws, vs, rfl, h2, h1⟩
  | n + 1, [], _, _, _, _, _, _, _, h3 => by cases h3
  | n + 1, _ :: _, [], _, _, _, _, h1, _, _ => h1.elim
  | n + 1, A :: as, v :: vs, bs, ws, a2, s2, h1, h2, h3 => w_take_ok n as vs (A :: bs) (v :: ws) a2 s2 h1.2 ⟨h1.1, h2⟩ h3
theorem w_pst_ok {ls : q_U Int32} {σ : w_G} {st : List (q_V Int32)} : ∀ (P : w_U) (S : w_S), w_oM [] σ (w_kzM P) → w_ok ls σ S st → w_ok ls σ (w_pst P S) st
  | [], _, _, h => h
  | (g, A) :: r, S, hP, h => by
    have h1 := hP (g, w_kz A) List.mem_cons_self
    refine w_pst_ok r _ (fun q hq => hP q (List.mem_cons_of_mem _ hq)) (w_setM_ok h1.1 ?_ h)
    have := w_in_kz (ls2 := ls) (σ2 := σ) h1.2
    rwa [w_kz_kz] at this
theorem w_nrs_ok {ls : q_U Int32} {σ : w_G} {st : List (q_V Int32)} {as : List w_A} {vs : List (q_V Int32)} (ha : w_sts ls σ as vs) : ∀ (l : List (Nat × q_J)) (S : w_S), (∀ z ∈ l, ∃ x, vs[z.1]? = some (.inl x) ∧ q_jr z.2 x) → w_ok ls σ S st → ∃ S2, w_nrs as l S = some S2 ∧ w_ok ls σ S2 st
  | [], S, _, h => ⟨S, rfl, h⟩
  | (j, J) :: r, S, hz, h => by
    obtain ⟨x, hx, hj⟩ := hz (j, J) List.mem_cons_self
    have hr := fun z hzr => hz z (List.mem_cons_of_mem _ hzr)
    unfold w_nrs
    split
    next J0 g hA =>
      obtain ⟨y, e, hy, hk⟩ := w_sts_get as vs j _ _ ha hA hx
      cases e
      have hm : q_jr (w_mt J J0) x := ⟨Nat.max_le.mpr ⟨hj.1, hy.1⟩, Nat.le_min.mpr ⟨hj.2, hy.2⟩⟩
      have hb : Nat.blt (w_mt J J0).2 (w_mt J J0).1 = false := by
        cases hb : Nat.blt (w_mt J J0).2 (w_mt J J0).1 with
        | false => rfl
        | true =>
          have := q_blt hb
          have := hm.1
          have := hm.2
          omega
      rw [hb, cond_false]
      exact w_nrs_ok ha r _ hr (w_nr_ok hm hk h)
    next => exact w_nrs_ok ha r S hr h
theorem w_may_ok {sh : w_Sh} {ls : q_U Int32} {σ : w_G} {h : q_H Int32} (hR : w_Rep sh h σ) {sv : Nat} {x : List Nat} {as : List w_A} {vs : List (q_V Int32)} (ha : w_sts ls σ as vs) (hm : w_may sh sv x as = true) : q_may sv x vs h = true := by
  unfold w_may at hm
  split at hm
  · unfold q_may
    rfl
  next n r =>
    rcases vs with _ | ⟨v, vs⟩
    · exact ha.elim
    · obtain ⟨⟨n2, rfl, hn⟩, -⟩ := ha
      have hn2 : n2 = n := by simpa using hn
      subst hn2
      split at hm
      next o tag sz l ci hc =>
        obtain ⟨rfl, hsh, u, hu⟩ := w_cell_ok hR hc
        show q_mayV [ci] (h[o]?) = true
        rw [hu]
        exact hm
      next => cases hm
  next => cases hm
theorem w_fr_val {ms : List (Nat × Nat)} {ls : q_U Int32} {σ σ2 : w_G} (hf : w_fr ms σ σ2) : ∀ g, g ≠ 0 → w_inm ms g = false → w_val ls σ2 g = w_val ls σ g := by
  intro g _ hp
  unfold w_val
  cases hbg : Nat.blt g 64 with
  | true => rfl
  | false =>
    rw [cond_false, cond_false]
    have hg64 : 64 ≤ g := by
      rcases Nat.lt_or_ge g 64 with q | q
      · have : Nat.blt g 64 = true := by rw [Nat.blt_eq]; exact q
        rw [this] at hbg
        cases hbg
      · exact q
    rw [hf (w_ko g) (w_kk g) (Nat.mod_lt _ (by decide)) (by rw [w_key_inv hg64]; exact hp)]
theorem w_fr_mono {ms ms2 : List (Nat × Nat)} {σ σ2 : w_G} (hc : ms.all (fun q => w_inr ms2 q.1 q.2 && Nat.ble 64 q.1) = true) (hf : w_fr ms σ σ2) : w_fr ms2 σ σ2 := by
  intro o k hk hm
  refine hf o k hk ?_
  cases hb : w_inm ms (w_key o k) with
  | false => rfl
  | true =>
    unfold w_inm at hb
    rw [List.any_eq_true] at hb
    obtain ⟨q, hq, hc2⟩ := hb
    rw [Bool.and_eq_true] at hc2
    rw [List.all_eq_true] at hc
    have h1 := hc q hq
    rw [Bool.and_eq_true] at h1
    rw [w_inr_ok h1.1 (Nat.le_of_ble_eq_true hc2.1) (Nat.le_of_ble_eq_true hc2.2)] at hm
    cases hm
theorem w_inv_ok {V : w_V} {sh : w_Sh} {ts : List q_T} {ins : Jvm.ClassFile.Instr} {ls : q_U Int32} {σ : w_G} {ns : Nat} {h : q_H Int32} {L : List (Nat × w_S)} {S : w_S} {st : List (q_V Int32)} {p len : Nat} {E0 E : w_E} {sv d : Nat} {r : List Nat} (hi : w_sto ins = none) (hd : E0.2.2.2.2.2 ≤ d + 1) (hE : w_Ent V sh ts E) (hR : w_Rep sh h σ) (hT : w_T V sh σ) (ho : w_ok ls σ S st) (hL : w_inv sh E0 E sv r (p + len) S = some L) : ∃ n, w_Res V sh E0.2.2.2.1 ins ls σ ns (q_inv (q_call q_O32 ts n d) sv r len (p, ls, st) h ns) L := by
  unfold w_inv at hL
  rcases r with _ | ⟨k, _ | ⟨na, _ | ⟨ml, x⟩⟩⟩
  · cases hL
  · cases hL
  · cases hL
  · dsimp only at hL
    split at hL
    next a s2 htk =>
      obtain ⟨hb, hL⟩ := w_bs hL
      simp only [Bool.and_eq_true, Nat.beq_eq, Nat.ble_eq, Nat.blt_eq] at hb
      obtain ⟨b1, b2, b3, b4, b5, b6, b7, b8⟩ := hb
      cases hL
      obtain ⟨vs, st2, hq, hva, hvs⟩ := w_take_ok na S.2.1 st [] [] a s2 ho.2.1 True.intro htk
      have hargs := w_sts_kz (ls2 := []) (σ2 := σ) _ _ (w_leL_ok hT ho.2.2 _ _ _ b2 hva)
      have hpre := w_oM_kz (ls2 := []) (w_leM_ok hT ho.2.2 b3)
      obtain ⟨n, v, h2, σ2, hcall, hR2, hT2, hfr, q, hqm, hout⟩ := hE d vs σ h ns (by omega) hR hT hargs hpre
      refine ⟨n, ?_⟩
      have hX : q_inv (q_call q_O32 ts n d) sv (k :: na :: ml :: x) len (p, ls, st) h ns = some (.inl ((p + len, ls, v.toList ++ st2), h2, ns)) := by
        unfold q_inv
        dsimp only
        rw [hq]
        dsimp only
        rw [show (Nat.ble (q_cats st2) 8 && (Nat.ble (q_cats vs) ml && q_may sv x vs h)) = true by
          rw [w_cats_ok _ _ hvs, w_cats_ok _ _ hva, q_ble_t b4, q_ble_t b5, w_may_ok hR hva b6]
          rfl, cond_true, ← b1, hcall]
        rfl
      rw [hX]
      have hval := w_fr_val (ls := ls) hfr
      have hks := w_ks_ok hval (⟨ho.1, hvs, ho.2.2⟩ : w_ok ls σ (S.1, s2, S.2.2) st2)
      have hps := w_pst_ok q.2.2 _ hout.2.2 hks
      have ha2 := w_kas_ok hval _ _ (w_sts_ef hT ho.2.2 _ _ hva)
      obtain ⟨S2, hS2, hok⟩ := w_nrs_ok ha2 q.1 _ hout.1 hps
      refine ⟨(p + len, (S2.1, q.2.1.toList.map w_kz ++ S2.2.1, S2.2.2)), ?_, ls, v.toList ++ st2, h2, σ2, rfl, hR2, hT2, ?_, w_fr_mono (by rw [List.all_eq_true] at b7 ⊢; exact b7) hfr, ?_⟩
      · rw [List.mem_filterMap]
        refine ⟨q, hqm, ?_⟩
        rw [hS2]
      · refine ⟨hok.1, ?_, hok.2.2⟩
        have hv2 := hout.2.1
        cases v with
        | none =>
          cases hq2 : q.2.1 with
          | none => exact hok.2.1
          | some B => rw [hq2] at hv2; exact hv2.elim
        | some w =>
          cases hq2 : q.2.1 with
          | none => rw [hq2] at hv2; exact hv2.elim
          | some B =>
            rw [hq2] at hv2
            refine ⟨?_, hok.2.1⟩
            have := w_in_kz (ls2 := ls) (σ2 := σ2) hv2
            rwa [w_kz_kz] at this
      · unfold w_lsr
        rw [hi]
    next => cases hL
