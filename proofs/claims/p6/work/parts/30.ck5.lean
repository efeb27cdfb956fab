/-! the heap behind the ranges -/
def w_Rep (sh : w_Sh) (h : q_H Int32) (σ : w_G) : Prop := (∀ o : Nat, (h[o]?).map (fun q => (q.1, q.2.1)) = (sh[o]?).map (fun q => (q.1, q.2.1))) ∧ ∀ (o : Nat) (q : q_C Int32), h[o]? = some q → ∀ k, k < q.2.1 → (q.1 < 100 → q_at q.2.2 k = some (σ o k)) ∧ (100 ≤ q.1 → q_el q_O32 q k = σ o k)
def w_up (σ : w_G) (o k : Nat) (v : q_V Int32) : w_G := fun o2 k2 => if o2 = o ∧ k2 = k then v else σ o2 k2
theorem w_up_self (σ : w_G) (o k : Nat) (v : q_V Int32) : w_up σ o k v o k = v := if_pos ⟨rfl, rfl⟩
theorem w_up_ne {σ : w_G} {o k o2 k2 : Nat} {v : q_V Int32} (h : ¬ (o2 = o ∧ k2 = k)) : w_up σ o k v o2 k2 = σ o2 k2 := if_neg h
theorem w_key_inv {g : Nat} (h : 64 ≤ g) : w_key (w_ko g) (w_kk g) = g := by
  unfold w_key w_ko w_kk
  omega
theorem w_ko_key {o k : Nat} (h : k < 4096) : w_ko (w_key o k) = o := by
  unfold w_key w_ko
  omega
theorem w_kk_key {o k : Nat} (h : k < 4096) : w_kk (w_key o k) = k := by
  unfold w_key w_kk
  omega
theorem w_key_ge (o k : Nat) : 64 ≤ w_key o k := by
  unfold w_key
  omega
theorem w_cell_ok {sh : w_Sh} {h : q_H Int32} {σ : w_G} (hR : w_Rep sh h σ) {n o tag sz : Nat} {l : List w_A} (hc : w_cell sh n = some (o, tag, sz, l)) : n = o + 2 ∧ sh[o]? = some (tag, sz, l) ∧ ∃ u, h[o]? = some (tag, sz, u) := by
  unfold w_cell at hc
  split at hc
  next o2 =>
    split at hc
    next q hq =>
      cases hc
      refine ⟨rfl, hq, ?_⟩
      have h1 := hR.1 o
      rw [hq] at h1
      cases hh : h[o]? with
      | none => rw [hh] at h1; cases h1
      | some z =>
        rw [hh] at h1
        obtain ⟨t1, s1, u1⟩ := z
        simp at h1
        obtain ⟨rfl, rfl⟩ := h1
        exact ⟨u1, rfl⟩
    next => cases hc
  next => cases hc
theorem w_Rep_set {sh : w_Sh} {h : q_H Int32} {σ : w_G} (hR : w_Rep sh h σ) {o tag sz k : Nat} {u : q_U Int32} (hh : h[o]? = some (tag, sz, u)) (v : q_V Int32) : w_Rep sh (h.set o (tag, sz, (k, v) :: u)) (w_up σ o k v) := by
  have hlt : o < h.length := by
    rcases Nat.lt_or_ge o h.length with q | q
    · exact q
    · rw [List.getElem?_eq_none q] at hh
      cases hh
  constructor
  · intro o2
    rw [← hR.1 o2]
    rcases Nat.decEq o2 o with e | e
    · rw [List.getElem?_set_ne (fun q => e q.symm)]
    · subst e
      rw [List.getElem?_set_self hlt, hh]
      rfl
  · intro o2 q hq k2 hk2
    rcases Nat.decEq o2 o with e | e
    · rw [List.getElem?_set_ne (fun q => e q.symm)] at hq
      rw [w_up_ne (fun z => e z.1)]
      exact hR.2 o2 q hq k2 hk2
    · subst e
      rw [List.getElem?_set_self hlt] at hq
      cases hq
      have h0 := hR.2 o2 _ hh k2 hk2
      rcases Nat.decEq k2 k with e2 | e2
      · rw [w_up_ne (fun z => e2 z.2)]
        refine ⟨fun ht => ?_, fun ht => ?_⟩
        · rw [w_at_cons_ne (fun z => e2 z.symm)]
          exact h0.1 ht
        · rw [← h0.2 ht]
          unfold q_el
          rw [show q_at ((k, v) :: u) k2 = q_at u k2 from w_at_cons_ne (fun z => e2 z.symm) v u]
      · subst e2
        rw [w_up_self]
        refine ⟨fun ht => w_at_cons _ _ _, fun ht => ?_⟩
        unfold q_el
        rw [show q_at ((k2, v) :: u) k2 = some v from w_at_cons k2 v u]
theorem w_V_up {V : w_V} {σ : w_G} {o k : Nat} {v : q_V Int32} (hk : w_inm g_pk (w_key o k) = false) (h : V.1 σ) : V.1 (w_up σ o k v) := by
  refine V.2 σ _ (fun o2 k2 hk2 hm => w_up_ne ?_) h
  rintro ⟨rfl, rfl⟩
  rw [hk] at hm
  cases hm
theorem w_T_up {V : w_V} {sh : w_Sh} {σ σ2 : w_G} {ls : q_U Int32} (hT : w_T V sh σ) {o k : Nat} {v : q_V Int32} (hk : w_inm g_pk (w_key o k) = false) (hv : ∀ B, w_ty sh o k = some B → w_in ls σ2 B v) : w_T V sh (w_up σ o k v) := by
  refine ⟨?_, w_V_up hk hT.2⟩
  intro o2 k2 A hA
  by_cases e : o2 = o ∧ k2 = k
  · obtain ⟨rfl, rfl⟩ := e
    rw [w_up_self]
    have := w_in_kz (ls2 := []) (σ2 := w_up σ o2 k2 v) (hv A hA)
    rwa [w_ty_kz hA] at this
  · rw [w_up_ne e]
    have := w_in_kz (ls2 := []) (σ2 := w_up σ o k v) (hT.1 o2 k2 A hA)
    rwa [w_ty_kz hA] at this
theorem w_val_up {ls : q_U Int32} {σ : w_G} {o k : Nat} {v : q_V Int32} {g : Nat} (h : g ≠ w_key o k) : w_val ls (w_up σ o k v) g = w_val ls σ g := by
  unfold w_val
  cases hb : Nat.blt g 64 with
  | true => rfl
  | false =>
    have hg : 64 ≤ g := by
      rcases Nat.lt_or_ge g 64 with q | q
      · have : Nat.blt g 64 = true := by rw [Nat.blt_eq]; exact q
        rw [this] at hb
        cases hb
      · exact q
    rw [cond_false, cond_false, w_up_ne]
    intro z
    apply h
    rw [← z.1, ← z.2]
    exact (w_key_inv hg).symm
/-- nothing is written but under the keys of ms -/
def w_fr (ms : List (Nat × Nat)) (σ σ2 : w_G) : Prop := ∀ o k, k < 4096 → w_inm ms (w_key o k) = false → σ2 o k = σ o k
theorem w_fr.rf {ms : List (Nat × Nat)} {σ : w_G} : w_fr ms σ σ := fun _ _ _ _ => rfl
theorem w_fr.tr {ms : List (Nat × Nat)} {σ σ2 σ3 : w_G} (h1 : w_fr ms σ σ2) (h2 : w_fr ms σ2 σ3) : w_fr ms σ σ3 := fun o k hk hm => (h2 o k hk hm).trans (h1 o k hk hm)
theorem w_fr_up {ms : List (Nat × Nat)} {σ : w_G} {o k : Nat} {v : q_V Int32} (h : w_inm ms (w_key o k) = true) : w_fr ms σ (w_up σ o k v) := by
  intro o2 k2 hk hm
  refine w_up_ne ?_
  rintro ⟨rfl, rfl⟩
  rw [h] at hm
  cases hm
/-- what an instruction does to the locals -/
def w_lsr (ins : Jvm.ClassFile.Instr) (ls ls2 : q_U Int32) : Prop := match w_sto ins with
  | none => ls2 = ls
  | some (i, lg) => ∃ v, w_kept i v ls ls2 ∧ (lg = false → q_cat v = 1) ∧ ∀ m n, ins = .iinc m n → ∃ x : Int32, q_at ls m = some (.inl x) ∧ v = .inl (x + Int32.ofInt n)
/-- a step, to one of the told states -/
def w_Res (V : w_V) (sh : w_Sh) (ms : List (Nat × Nat)) (ins : Jvm.ClassFile.Instr) (ls : q_U Int32) (σ : w_G) (ns : Nat) (X : q_X Int32) (L : List (Nat × w_S)) : Prop := ∃ s ∈ L, ∃ (ls2 : q_U Int32) (st2 : List (q_V Int32)) (h2 : q_H Int32) (σ2 : w_G), X = some (.inl ((s.1, ls2, st2), h2, ns)) ∧ w_Rep sh h2 σ2 ∧ w_T V sh σ2 ∧ w_ok ls2 σ2 s.2 st2 ∧ w_fr ms σ σ2 ∧ w_lsr ins ls ls2
theorem w_Res.same {V : w_V} {sh : w_Sh} {ms : List (Nat × Nat)} {ins : Jvm.ClassFile.Instr} {ls : q_U Int32} {σ : w_G} {ns : Nat} {h : q_H Int32} {L : List (Nat × w_S)} {pc : Nat} {S : w_S} {st : List (q_V Int32)} (hi : w_sto ins = none) (hR : w_Rep sh h σ) (hT : w_T V sh σ) (hL : w_to pc S = some L) (ho : w_ok ls σ S st) : w_Res V sh ms ins ls σ ns (some (.inl ((pc, ls, st), h, ns))) L := by
  cases hL
  refine ⟨_, List.mem_cons_self, ls, st, h, σ, rfl, hR, hT, ho, w_fr.rf, ?_⟩
  unfold w_lsr
  rw [hi]
section INS
variable {sh : w_Sh} {ms : List (Nat × Nat)} {ins : Jvm.ClassFile.Instr} {ls : q_U Int32} {σ : w_G} {ns : Nat} {h : q_H Int32} {L : List (Nat × w_S)} {S : w_S} {st : List (q_V Int32)} {p len : Nat}
theorem w_kind_ok {A : w_A} {v : q_V Int32} {kd : Nat} (hk : w_kindb A kd = true) (hv : w_in ls σ A v) : q_kind v = kd := by
  rcases A with ⟨J, g⟩ | u | l
  · obtain ⟨x, rfl, -⟩ := hv
    exact (q_beq hk).symm
  · obtain ⟨x, rfl⟩ := hv
    exact (q_beq hk).symm
  · obtain ⟨x, rfl, hm⟩ := hv
    simp only [w_kindb, Bool.and_eq_true, Nat.beq_eq, List.all_eq_true, Nat.blt_eq] at hk
    have := hk.2 x hm
    rw [hk.1]
    rcases x with _ | x
    · omega
    · rfl
theorem w_ld_ok {V : w_V} {t i : Nat} (hi : w_sto ins = none) (hR : w_Rep sh h σ) (hT : w_T V sh σ) (ho : w_ok ls σ S st) (hL : w_ld sh t i (p + len) S = some L) : w_Res V sh ms ins ls σ ns (q_ld t i len (p, ls, st) h ns) L := by
  unfold w_ld at hL
  split at hL
  next A hA =>
    obtain ⟨hc, hL⟩ := w_bs hL
    simp only [Bool.and_eq_true, Nat.blt_eq] at hc
    obtain ⟨v, e, hv⟩ := ho.1 _ (w_at_mem _ _ _ hA)
    have hkd := w_kind_ok hc.1 hv
    have hX : q_ld t i len (p, ls, st) h ns = some (.inl ((p + len, ls, v :: st), h, ns)) := by
      unfold q_ld
      dsimp only
      rw [show q_at ls i = some v from e]
      show (bif Nat.beq (q_kind v) t then _ else none) = _
      rw [hkd, q_beq_self]
      rfl
    rw [hX]
    refine w_Res.same hi hR hT hL ⟨ho.1, ⟨?_, ho.2.1⟩, ho.2.2⟩
    have hv2 := w_ef_ok hT ho.2.2 hv
    split
    next J g he =>
      rw [he] at hv2
      obtain ⟨x, h1, h2, -⟩ := hv2
      refine ⟨x, h1, h2, Or.inr ?_⟩
      unfold w_val
      have hb : Nat.blt (i + 1) 64 = true := by rw [Nat.blt_eq]; omega
      rw [hb, cond_true]
      exact e
    next => exact hv2
  next => cases hL
theorem w_st_ok {V : w_V} {t i : Nat} {lg : Bool} (hi : w_sto ins = some (i, lg)) (hlg : lg = false → t ≠ 2) (hni : ∀ m n, ins ≠ .iinc m n) (hR : w_Rep sh h σ) (hT : w_T V sh σ) (ho : w_ok ls σ S st) (hL : w_st t i (p + len) S = some L) : w_Res V sh ms ins ls σ ns (q_st t i len (p, ls, st) h ns) L := by
  unfold w_st at hL
  obtain ⟨S1, S2, S3⟩ := S
  rcases S2 with _ | ⟨A, r⟩
  · cases hL
  · rcases st with _ | ⟨v, st⟩
    · exact ho.2.1.elim
    · have hL2 : (bif w_kindb (w_ka (w_p3 i) A) t then w_to (p + len) (w_set i (w_ka (w_p3 i) A) (w_ks (w_p3 i) (S1, r, S3))) else none) = some L := hL
      obtain ⟨hc, hL3⟩ := w_bs hL2
      cases hL3
      have hkd : q_kind v = t := by
        refine w_kind_ok (ls := ls) (σ := σ) (A := w_kz A) ?_ (w_in_kz ho.2.1.1)
        rw [← hc]
        rcases A with ⟨J, g⟩ | u | l
        · show w_kindb (.inl (J, 0)) t = w_kindb (bif w_p3 i g then .inl (J, 0) else .inl (J, g)) t
          cases w_p3 i g <;> rfl
        · rfl
        · rfl
      have hcat : t = 2 → q_cat v = 2 := by
        intro e
        rcases v with x | x | x
        · have : (0 : Nat) = t := hkd
          omega
        · rfl
        · rcases x with _ | x
          · have : (3 : Nat) = t := hkd
            omega
          · have : (1 : Nat) = t := hkd
            omega
      have hcat1 : lg = false → q_cat v = 1 := by
        intro e
        have ht := hlg e
        rcases v with x | x | x
        · rfl
        · exact absurd (show t = 2 from hkd.symm) ht
        · rfl
      have hX : ∃ ls2, q_st t i len (p, ls, v :: st) h ns = some (.inl ((p + len, ls2, st), h, ns)) ∧ w_kept i v ls ls2 := by
        unfold q_st
        show ∃ ls2, (bif Nat.beq (q_kind v) t then some (Sum.inl ((p + len, (i, v) :: ls.filter (bif Nat.beq t 2 then q_keep2 i else q_keep1 i), st), h, ns)) else none) = _ ∧ _
        rw [hkd, q_beq_self, cond_true]
        refine ⟨_, rfl, ?_⟩
        cases hb : Nat.beq t 2 with
        | true => exact w_keep2 (hcat (q_beq hb))
        | false => exact w_keep1
      obtain ⟨ls2, hX, hk⟩ := hX
      rw [hX]
      have ho2 : w_ok ls σ (S1, r, S3) st := ⟨ho.1, ho.2.1.2, ho.2.2⟩
      refine ⟨_, List.mem_cons_self, ls2, st, h, σ, rfl, hR, hT, w_set_ok hk ho2 (w_ka_ok (w_kept_val hk) ho.2.1.1), w_fr.rf, ?_⟩
      unfold w_lsr
      rw [hi]
      exact ⟨v, hk, hcat1, fun m n e => absurd e (hni m n)⟩
theorem w_ii_ok {V : w_V} {i : Nat} {n : Int} (hR : w_Rep sh h σ) (hT : w_T V sh σ) (ho : w_ok ls σ S st) (hL : w_ii i n (p + len) S = some L) : w_Res V sh ms (.iinc i n) ls σ ns (q_iinc q_O32 i n len (p, ls, st) h ns) L := by
  unfold w_ii at hL
  split at hL
  next J g hA =>
    obtain ⟨v, e, x, rfl, hx, -⟩ := ho.1 _ (w_at_mem _ _ _ hA)
    cases hL
    have e2 : q_at ls i = some (.inl x) := e
    have hX : q_iinc q_O32 i n len (p, ls, st) h ns = some (.inl ((p + len, (i, .inl (x + Int32.ofInt n)) :: ls.filter (q_keep1 i), st), h, ns)) := by
      unfold q_iinc
      dsimp only
      rw [e2]
      rfl
    rw [hX]
    have hk := w_keep1 (i := i) (v := .inl (x + Int32.ofInt n)) (ls := ls)
    refine ⟨_, List.mem_cons_self, _, st, h, σ, rfl, hR, hT, w_set_ok hk ho ⟨_, rfl, q_jadd_ok hx (q_jc_ok _), Or.inl rfl⟩, w_fr.rf, ?_⟩
    show ∃ v, w_kept i v ls _ ∧ _ ∧ _
    refine ⟨_, hk, fun _ => rfl, fun m n2 e3 => ?_⟩
    cases e3
    exact ⟨x, e2, rfl⟩
  next => cases hL
theorem w_ps_ok {V : w_V} {A : w_A} {v : q_V Int32} (hi : w_sto ins = none) (hR : w_Rep sh h σ) (hT : w_T V sh σ) (ho : w_ok ls σ S st) (hv : w_in ls σ A v) (hL : w_ps (p + len) A S = some L) : w_Res V sh ms ins ls σ ns (q_nx len (p, ls, st) (v :: st) h ns) L :=
  w_Res.same hi hR hT hL ⟨ho.1, ⟨hv, ho.2.1⟩, ho.2.2⟩
theorem w_pc_ok {c : Int32} : w_in ls σ (.inl (q_jc c, 0)) (.inl c) := ⟨c, rfl, q_jc_ok c, Or.inl rfl⟩
theorem w_2_ok {V : w_V} {j : Nat} (hi : w_sto ins = none) (hR : w_Rep sh h σ) (hT : w_T V sh σ) (ho : w_ok ls σ S st) (hL : w_2 sh j (p + len) S = some L) : w_Res V sh ms ins ls σ ns (q_b2 q_O32 j len (p, ls, st) h ns) L := by
  unfold w_2 at hL
  obtain ⟨S1, S2, S3⟩ := S
  rcases S2 with _ | ⟨B, _ | ⟨A, r⟩⟩
  · cases hL
  · cases hL
  · rcases st with _ | ⟨w, _ | ⟨v, st⟩⟩
    · exact ho.2.1.elim
    · exact ho.2.1.2.elim
    · obtain ⟨o1, ⟨ob, oa, os⟩, o3⟩ := ho
      have ea := w_ef_ok hT o3 oa
      have eb := w_ef_ok hT o3 ob
      simp only at hL
      split at hL
      next J g J2 g2 hA hB =>
        rw [hA] at ea
        rw [hB] at eb
        obtain ⟨x, rfl, hx, -⟩ := ea
        obtain ⟨y, rfl, hy, -⟩ := eb
        split at hL
        next J3 h3 =>
          obtain ⟨z, hz, hj⟩ := w_o2_ok h3 hx hy
          have hX : q_b2 q_O32 j len (p, ls, .inl y :: .inl x :: st) h ns = some (.inl ((p + len, ls, .inl z :: st), h, ns)) := by
            unfold q_b2
            dsimp only
            rw [show q_O32.2.1 j x y = some z from hz]
            rfl
          rw [hX]
          exact w_Res.same hi hR hT hL ⟨o1, ⟨⟨z, rfl, hj, Or.inl rfl⟩, os⟩, o3⟩
        next => cases hL
      next => cases hL
theorem w_1_ok {V : w_V} {j : Nat} (hi : w_sto ins = none) (hR : w_Rep sh h σ) (hT : w_T V sh σ) (ho : w_ok ls σ S st) (hL : w_1 sh j (p + len) S = some L) : w_Res V sh ms ins ls σ ns (q_b1 q_O32 j len (p, ls, st) h ns) L := by
  unfold w_1 at hL
  obtain ⟨S1, S2, S3⟩ := S
  rcases S2 with _ | ⟨A, r⟩
  · cases hL
  · rcases st with _ | ⟨v, st⟩
    · exact ho.2.1.elim
    · obtain ⟨o1, ⟨oa, os⟩, o3⟩ := ho
      have ea := w_ef_ok hT o3 oa
      simp only at hL
      split at hL
      next J g hA =>
        rw [hA] at ea
        obtain ⟨x, rfl, hx, -⟩ := ea
        split at hL
        next J3 h3 =>
          obtain ⟨z, hz, hj⟩ := w_o1_ok h3 hx
          have hX : q_b1 q_O32 j len (p, ls, .inl x :: st) h ns = some (.inl ((p + len, ls, .inl z :: st), h, ns)) := by
            unfold q_b1
            dsimp only
            rw [show q_O32.2.2.1 j x = some z from hz]
            rfl
          rw [hX]
          exact w_Res.same hi hR hT hL ⟨o1, ⟨⟨z, rfl, hj, Or.inl rfl⟩, os⟩, o3⟩
        next => cases hL
      next => cases hL
end INS
