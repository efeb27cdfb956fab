section INS3
variable {sh : w_Sh} {ms : List (Nat × Nat)} {ins : Jvm.ClassFile.Instr} {ls : q_U Int32} {σ : w_G} {ns : Nat} {h : q_H Int32} {L : List (Nat × w_S)} {S : w_S} {st : List (q_V Int32)} {p len : Nat}
theorem w_ix {x : Int32} (hx : 2147483648 ≤ q_pc x) : q_ix x = some (q_pc x - 2147483648) := by
  have e := q_pc_int x
  have h0 : ¬ x < 0 := by
    rw [Int32.lt_iff_toInt_lt]
    show ¬ _ < (0 : Int)
    omega
  unfold q_ix
  rw [if_neg h0]
  show some x.toInt.toNat = _
  rw [show x.toInt.toNat = q_pc x - 2147483648 by omega]
theorem w_jo_l {A B C : w_A} {v : q_V Int32} (hj : w_jo A B = some C) (h : w_in ls σ (w_kz A) v) : w_in ls σ C v := by
  rcases A with ⟨J, g⟩ | u | l <;> rcases B with ⟨J2, g2⟩ | u2 | l2
  · cases hj
    obtain ⟨x, h1, h2, -⟩ := h
    exact ⟨x, h1, q_jj_l h2, Or.inl rfl⟩
  · cases hj
  · cases hj
  · cases hj
  · cases hj
    exact h
  · cases hj
  · cases hj
  · cases hj
  · cases hj
theorem w_jo_r {A B C : w_A} {v : q_V Int32} (hj : w_jo A B = some C) (h : w_in ls σ B v) : w_in ls σ C v := by
  rcases A with ⟨J, g⟩ | u | l <;> rcases B with ⟨J2, g2⟩ | u2 | l2
  · cases hj
    obtain ⟨x, h1, h2, -⟩ := h
    exact ⟨x, h1, q_jj_r h2, Or.inl rfl⟩
  · cases hj
  · cases hj
  · cases hj
  · cases hj
    exact h
  · cases hj
  · cases hj
  · cases hj
  · cases hj
theorem w_jos_ok {v : q_V Int32} : ∀ (l : List w_A) (A B : w_A), w_jos l = some A → B ∈ l → w_in ls σ (w_kz B) v → w_in ls σ A v
  | [], _, _, _, hm, _ => by cases hm
  | [C], A, B, hj, hm, h => by
    have e : B = C := by simpa using hm
    subst e
    cases hj
    exact h
  | C :: D :: l, A, B, hj, hm, h => by
    have hj2 : (match w_jos (D :: l) with
      | some B => w_jo C B
      | none => none) = some A := hj
    cases hd : w_jos (D :: l) with
    | none => rw [hd] at hj2; cases hj2
    | some Z =>
      rw [hd] at hj2
      rcases List.mem_cons.mp hm with e | hm
      · subst e
        exact w_jo_l hj2 h
      · exact w_jo_r hj2 (w_jos_ok (D :: l) Z B hd hm h)
theorem w_nn0 {J : q_J} {A : w_A} {P : Prop} (h : w_jos (w_sub [] J) = some A) : P := by
  have e : w_sub [] J = [] := by
    unfold w_sub
    cases hb : Nat.blt ((J.1 - 2147483648) % ([] : List w_A).length + (J.2 - J.1)) ([] : List w_A).length with
    | true => exact absurd (q_blt hb) (Nat.not_lt_zero _)
    | false => rfl
  rw [e] at h
  cases h
theorem w_sub_mem {l : List w_A} {J : q_J} {X : Nat} {B : w_A} (h1 : J.1 ≤ X) (h2 : X ≤ J.2) (h0 : 2147483648 ≤ J.1) (hB : l[(X - 2147483648) % l.length]? = some B) : B ∈ w_sub l J := by
  unfold w_sub
  cases hb : Nat.blt ((J.1 - 2147483648) % l.length + (J.2 - J.1)) l.length with
  | false => exact List.mem_of_getElem? hB
  | true =>
    have hlt := q_blt hb
    rw [cond_true]
    have e : (X - 2147483648) % l.length = (J.1 - 2147483648) % l.length + (X - J.1) := by
      rw [show X - 2147483648 = (J.1 - 2147483648) + (X - J.1) by omega, ← Nat.mod_add_mod]
      exact Nat.mod_eq_of_lt (by omega)
    rw [e] at hB
    refine List.mem_of_getElem? (i := X - J.1) ?_
    rw [List.getElem?_take_of_lt (by omega), List.getElem?_drop]
    exact hB
theorem w_el_ok {V : w_V} {M : w_U} {tag n : Nat} {J : q_J} {A : w_A} {x : Int32} (hR : w_Rep sh h σ) (hT : w_T V sh σ) (hM : w_oM ls σ M) (hx : q_jr J x) (he : w_el sh M tag J n = some A) : ∃ o tg sz u j, n = o + 2 ∧ h[o]? = some (tg, sz, u) ∧ q_ix x = some j ∧ j < sz ∧ w_tg tg tag = true ∧ q_el q_O32 (tg, sz, u) j = σ o j ∧ w_in ls σ A (σ o j) := by
  unfold w_el at he
  split at he
  next o tg sz l hc =>
    obtain ⟨hb, he⟩ := w_bs he
    simp only [Bool.and_eq_true, Nat.ble_eq, Nat.blt_eq] at hb
    obtain ⟨b1, b2, b3, b4, b5⟩ := hb
    obtain ⟨rfl, hsh, u, hu⟩ := w_cell_ok hR hc
    have hx1 := hx.1
    have hx2 := hx.2
    have hj : q_pc x - 2147483648 < sz := by omega
    refine ⟨o, tg, sz, u, q_pc x - 2147483648, rfl, hu, w_ix (by omega), hj, b1, (hR.2 o _ hu _ hj).2 b4, ?_⟩
    cases hone : q_jone J with
    | true =>
      rw [hone, cond_true] at he
      have e := q_beq hone
      rw [show J.1 - 2147483648 = q_pc x - 2147483648 by omega] at he
      exact w_rd_ok hT hM (by omega) he
    | false =>
      rw [hone, cond_false] at he
      have hlen : 0 < l.length := by
        rcases l with _ | ⟨C, l⟩
        · exact w_nn0 he
        · exact Nat.zero_lt_succ _
      obtain ⟨B, hB⟩ : ∃ B, l[(q_pc x - 2147483648) % l.length]? = some B := ⟨_, List.getElem?_eq_getElem (Nat.mod_lt _ hlen)⟩
      have hty : w_ty sh o (q_pc x - 2147483648) = some (w_kz B) := by
        unfold w_ty
        rw [hsh]
        dsimp only
        rw [show Nat.blt (q_pc x - 2147483648) sz = true by rw [Nat.blt_eq]; exact hj, cond_true, hB]
        rfl
      exact w_jos_ok (w_sub l J) A B he (w_sub_mem (by omega) (by omega) (by omega) hB) (hT.at hty ls)
  next => cases he
theorem w_ale_ok {V : w_V} {tag kd : Nat} (hi : w_sto ins = none) (hR : w_Rep sh h σ) (hT : w_T V sh σ) (ho : w_ok ls σ S st) (hL : w_ale sh tag kd (p + len) S = some L) : w_Res V sh ms ins ls σ ns (q_ald q_O32 none tag kd len (p, ls, st) h ns) L := by
  unfold w_ale at hL
  obtain ⟨S1, S2, S3⟩ := S
  dsimp only at hL
  split at hL
  next I n S2 =>
    rcases st with _ | ⟨v, _ | ⟨v2, st⟩⟩
    · exact ho.2.1.elim
    · exact ho.2.1.2.elim
    · obtain ⟨o1, ⟨oi, ⟨n2, rfl, hn⟩, os⟩, o3⟩ := ho
      have hn2 : n2 = n := by simpa using hn
      subst hn2
      have ei := w_ef_ok hT o3 oi
      split at hL
      next J g hI =>
        rw [hI] at ei
        obtain ⟨x, rfl, hx, -⟩ := ei
        split at hL
        next A hA =>
          obtain ⟨hk, hL⟩ := w_bs hL
          obtain ⟨o, tg, sz, u, j, rfl, hu, hix, hj, htg, hel, hin⟩ := w_el_ok hR hT o3 hx hA
          have hkd := w_kind_ok hk hin
          have hX : q_ald q_O32 none tag kd len (p, ls, .inl x :: .inr (.inr (o + 2)) :: st) h ns = some (.inl ((p + len, ls, σ o j :: st), h, ns)) := by
            unfold q_ald
            dsimp only
            rw [hu, show q_O32.2.2.2.2.1 x = some j from hix]
            dsimp only
            rw [hel]
            rw [show ((Nat.beq tg tag || (Nat.beq tag 101 && Nat.beq tg 102)) && (Nat.blt j sz && Nat.beq (q_kind (σ o j)) kd)) = true by
              rw [Bool.and_eq_true, Bool.and_eq_true, Nat.blt_eq, hkd]
              exact ⟨htg, hj, q_beq_self kd⟩, cond_true]
            rfl
          rw [hX]
          exact w_Res.same hi hR hT hL ⟨o1, ⟨hin, os⟩, o3⟩
        next => cases hL
      next => cases hL
  next => cases hL
theorem w_bit_ok {J : q_J} {x : Int32} (hb : w_bit J = true) (hx : q_jr J x) : q_ib x = true := by
  simp only [w_bit, Bool.and_eq_true, Nat.ble_eq] at hb
  unfold q_ib
  rw [Bool.or_eq_true, decide_eq_true_eq, decide_eq_true_eq, ← Int32.toInt_inj, ← Int32.toInt_inj, q_pc_int x]
  have := hx.1
  have := hx.2
  have := hb.1
  have := hb.2
  show _ = (0 : Int) ∨ _ = (1 : Int)
  omega
theorem w_kp_ok {tg : Nat} {A B : w_A} {v : q_V Int32} (hk : w_kp tg A = some B) (hv : w_in ls σ A v) : ∃ w, q_kp q_O32 tg v = some w ∧ w_in ls σ B w ∧ w_kz B = B := by
  rcases A with ⟨J, g⟩ | u | l
  · obtain ⟨x, rfl, hx, -⟩ := hv
    unfold w_kp at hk
    dsimp only at hk
    unfold q_kp
    dsimp only
    cases h1 : Nat.beq tg 100 with
    | true =>
      rw [h1] at hk
      cases hk
      exact ⟨_, rfl, ⟨x, rfl, hx, Or.inl rfl⟩, rfl⟩
    | false =>
      rw [h1, cond_false] at hk
      rw [cond_false]
      cases h2 : Nat.beq tg 101 with
      | true =>
        rw [h2] at hk
        cases hk
        exact ⟨_, rfl, ⟨_, rfl, q_jbyte_ok x, Or.inl rfl⟩, rfl⟩
      | false =>
        rw [h2, cond_false] at hk
        rw [cond_false]
        obtain ⟨hc, hk⟩ := w_bs hk
        rw [Bool.and_eq_true] at hc
        cases hk
        rw [hc.1, show q_O32.2.2.2.2.2.1 x = true from w_bit_ok hc.2 hx]
        exact ⟨_, rfl, ⟨x, rfl, hx, Or.inl rfl⟩, rfl⟩
  · obtain ⟨x, rfl⟩ := hv
    obtain ⟨hc, hk⟩ := w_bs (show (bif Nat.beq tg 103 then some (.inr (.inl u)) else none) = some B from hk)
    cases hk
    refine ⟨.inr (.inl x), ?_, ⟨x, rfl⟩, rfl⟩
    show (bif Nat.beq tg 103 then _ else none) = _
    rw [hc]
    rfl
  · cases hk
theorem w_inr_ok {ms : List (Nat × Nat)} {a b g : Nat} (h : w_inr ms a b = true) (h1 : a ≤ g) (h2 : g ≤ b) : w_inm ms g = true := by
  unfold w_inr at h
  unfold w_inm
  rw [List.any_eq_true] at h ⊢
  obtain ⟨q, hq, hc⟩ := h
  rw [Bool.and_eq_true] at hc
  have := Nat.le_of_ble_eq_true hc.1
  have := Nat.le_of_ble_eq_true hc.2
  refine ⟨q, hq, ?_⟩
  rw [Bool.and_eq_true]
  exact ⟨q_ble_t (by omega), q_ble_t (by omega)⟩
theorem w_ovl_no {ms : List (Nat × Nat)} {a b g : Nat} (h : w_ovl ms a b = false) (h1 : a ≤ g) (h2 : g ≤ b) : w_inm ms g = false := by
  cases hm : w_inm ms g with
  | false => rfl
  | true =>
    unfold w_inm at hm
    rw [List.any_eq_true] at hm
    obtain ⟨q, hq, hc⟩ := hm
    rw [Bool.and_eq_true] at hc
    have := Nat.le_of_ble_eq_true hc.1
    have := Nat.le_of_ble_eq_true hc.2
    have h3 : w_ovl ms a b = true := by
      unfold w_ovl
      rw [List.any_eq_true]
      exact ⟨q, hq, by rw [Bool.and_eq_true]; exact ⟨q_ble_t (by omega), q_ble_t (by omega)⟩⟩
    rw [h3] at h
    cases h
theorem w_rng_ne {a b g k : Nat} (hp : w_rng a b g = false) (h1 : a ≤ k) (h2 : k ≤ b) : g ≠ k := by
  intro e
  subst e
  unfold w_rng at hp
  rw [q_ble_t h1, q_ble_t h2] at hp
  cases hp
theorem w_key_le {o j k : Nat} (h : j ≤ k) : w_key o j ≤ w_key o k := by
  unfold w_key
  omega
theorem w_ast_ok {V : w_V} {tag : Nat} (hi : w_sto ins = none) (hR : w_Rep sh h σ) (hT : w_T V sh σ) (ho : w_ok ls σ S st) (hL : w_ast sh ms tag (p + len) S = some L) : w_Res V sh ms ins ls σ ns (q_ast q_O32 tag len (p, ls, st) h ns) L := by
  unfold w_ast at hL
  obtain ⟨S1, S2, S3⟩ := S
  dsimp only at hL
  split at hL
  next A I n S2 =>
    rcases st with _ | ⟨v, _ | ⟨v2, _ | ⟨v3, st⟩⟩⟩
    · exact ho.2.1.elim
    · exact ho.2.1.2.elim
    · exact ho.2.1.2.2.elim
    · obtain ⟨o1, ⟨oa, oi, ⟨n2, rfl, hn⟩, os⟩, o3⟩ := ho
      have hn2 : n2 = n := by simpa using hn
      subst hn2
      have ei := w_ef_ok hT o3 oi
      have ea := w_ef_ok hT o3 oa
      split at hL
      next J g o tg sz l hI hc =>
        rw [hI] at ei
        obtain ⟨x, rfl, hx, -⟩ := ei
        split at hL
        next B hB =>
          obtain ⟨hb, hL⟩ := w_bs hL
          simp only [Bool.and_eq_true, Nat.ble_eq, Nat.blt_eq] at hb
          obtain ⟨b1, b2, b3, b4, b5, b6, b7, b8⟩ := hb
          have b9 : w_ovl g_pk (w_key o (J.1 - 2147483648)) (w_key o (J.2 - 2147483648)) = false := by simpa using b8
          obtain ⟨rfl, hsh, u, hu⟩ := w_cell_ok hR hc
          obtain ⟨w, hw, hwB, hBz⟩ := w_kp_ok hB ea
          have hx1 := hx.1
          have hx2 := hx.2
          have hix := w_ix (x := x) (by omega)
          have hj : q_pc x - 2147483648 < sz := by omega
          have k1 : w_key o (J.1 - 2147483648) ≤ w_key o (q_pc x - 2147483648) := w_key_le (by omega)
          have k2 : w_key o (q_pc x - 2147483648) ≤ w_key o (J.2 - 2147483648) := w_key_le (by omega)
          have hX : q_ast q_O32 tag len (p, ls, v :: .inl x :: .inr (.inr (o + 2)) :: st) h ns = some (.inl ((p + len, ls, st), h.set o (tg, sz, (q_pc x - 2147483648, w) :: u), ns)) := by
            unfold q_ast
            dsimp only
            rw [hu, show q_O32.2.2.2.2.1 x = some (q_pc x - 2147483648) from hix]
            dsimp only
            rw [show ((Nat.beq tg tag || (Nat.beq tag 101 && Nat.beq tg 102)) && Nat.blt (q_pc x - 2147483648) sz) = true by
              rw [Bool.and_eq_true, Nat.blt_eq]
              exact ⟨b1, hj⟩, cond_true, hw]
            rfl
          rw [hX]
          have hks := w_ks_ok (p := w_rng (w_key o (J.1 - 2147483648)) (w_key o (J.2 - 2147483648))) (σ2 := w_up σ o (q_pc x - 2147483648) w) (fun g hg hp => w_val_up (w_rng_ne hp k1 k2)) (⟨o1, os, o3⟩ : w_ok ls σ (S1, S2, S3) st)
          have hfr : w_fr ms σ (w_up σ o (q_pc x - 2147483648) w) := w_fr_up (w_inr_ok b7 k1 k2)
          have hls : w_lsr ins ls ls := by
            unfold w_lsr
            rw [hi]
          cases hone : q_jone J with
          | true =>
            rw [hone, cond_true] at hL
            have e := q_beq hone
            have ej : J.1 - 2147483648 = q_pc x - 2147483648 := by omega
            split at hL
            next C hC =>
              obtain ⟨hle, hL⟩ := w_bs hL
              cases hL
              refine ⟨_, List.mem_cons_self, ls, st, _, _, rfl, w_Rep_set hR hu w, ?_, ?_, hfr, hls⟩
              · refine w_T_up (ls := ls) (σ2 := σ) hT (w_ovl_no b9 k1 k2) (fun B2 hB2 => ?_)
                rw [ej, hB2] at hC
                cases hC
                have := w_le1_ok hle hwB
                rwa [w_ty_kz hB2] at this
              · refine w_setM_ok (w_key_ge _ _) ?_ hks
                rw [ej, w_ko_key (by omega), w_kk_key (by omega), w_up_self, ← hBz]
                exact w_in_kz hwB
            next => cases hL
          | false =>
            rw [hone, cond_false] at hL
            obtain ⟨hall, hL⟩ := w_bs hL
            cases hL
            refine ⟨_, List.mem_cons_self, ls, st, _, _, rfl, w_Rep_set hR hu w, ?_, hks, hfr, hls⟩
            refine w_T_up (ls := ls) (σ2 := σ) hT (w_ovl_no b9 k1 k2) (fun B2 hB2 => ?_)
            unfold w_ty at hB2
            rw [hsh] at hB2
            obtain ⟨-, hB3⟩ := w_bs hB2
            rw [Option.map_eq_some_iff] at hB3
            obtain ⟨C, hC, rfl⟩ := hB3
            rw [List.all_eq_true] at hall
            exact w_le1_ok (hall C (w_sub_mem (by omega) (by omega) (by omega) hC)) hwB
        next => cases hL
      next => cases hL
  next => cases hL
theorem w_aln_ok {V : w_V} (hi : w_sto ins = none) (hR : w_Rep sh h σ) (hT : w_T V sh σ) (ho : w_ok ls σ S st) (hL : w_aln sh (p + len) S = some L) : w_Res V sh ms ins ls σ ns (q_alen q_O32 none len (p, ls, st) h ns) L := by
  unfold w_aln at hL
  obtain ⟨S1, S2, S3⟩ := S
  dsimp only at hL
  split at hL
  next n S2 =>
    rcases st with _ | ⟨v, st⟩
    · exact ho.2.1.elim
    · obtain ⟨o1, ⟨⟨n2, rfl, hn⟩, os⟩, o3⟩ := ho
      have hn2 : n2 = n := by simpa using hn
      subst hn2
      split at hL
      next o tg sz l hc =>
        obtain ⟨hb, hL⟩ := w_bs hL
        obtain ⟨rfl, hsh, u, hu⟩ := w_cell_ok hR hc
        have hX : q_alen q_O32 none len (p, ls, .inr (.inr (o + 2)) :: st) h ns = some (.inl ((p + len, ls, .inl (Int32.ofNat sz) :: st), h, ns)) := by
          unfold q_alen
          dsimp only
          rw [hu]
          dsimp only
          rw [hb]
          rfl
        rw [hX]
        exact w_Res.same hi hR hT hL ⟨o1, ⟨w_pc_ok, os⟩, o3⟩
      next => cases hL
  next => cases hL
theorem w_dup_ok {V : w_V} (hi : w_sto ins = none) (hR : w_Rep sh h σ) (hT : w_T V sh σ) (ho : w_ok ls σ S st) (hL : w_dup (p + len) S = some L) : w_Res V sh ms ins ls σ ns (q_dup len (p, ls, st) h ns) L := by
  unfold w_dup at hL
  obtain ⟨S1, S2, S3⟩ := S
  rcases S2 with _ | ⟨A, S2⟩
  · cases hL
  · rcases st with _ | ⟨v, st⟩
    · exact ho.2.1.elim
    · obtain ⟨o1, ⟨oa, os⟩, o3⟩ := ho
      have hc := w_in_cat oa
      dsimp only at hL
      cases hl : w_isL A with
      | true => rw [hl] at hL; cases hL
      | false =>
        rw [hl, cond_false] at hL
        unfold w_cat at hc
        rw [hl, cond_false] at hc
        have hX : q_dup len (p, ls, v :: st) h ns = some (.inl ((p + len, ls, v :: v :: st), h, ns)) := by
          unfold q_dup
          dsimp only
          rw [hc]
          rfl
        rw [hX]
        exact w_Res.same hi hR hT hL ⟨o1, ⟨oa, oa, os⟩, o3⟩
theorem w_pop_ok {V : w_V} (hi : w_sto ins = none) (hR : w_Rep sh h σ) (hT : w_T V sh σ) (ho : w_ok ls σ S st) (hL : w_pop (p + len) S = some L) : w_Res V sh ms ins ls σ ns (q_pop len (p, ls, st) h ns) L := by
  unfold w_pop at hL
  obtain ⟨S1, S2, S3⟩ := S
  rcases S2 with _ | ⟨A, S2⟩
  · cases hL
  · rcases st with _ | ⟨v, st⟩
    · exact ho.2.1.elim
    · obtain ⟨o1, ⟨oa, os⟩, o3⟩ := ho
      have hc := w_in_cat oa
      dsimp only at hL
      cases hl : w_isL A with
      | true => rw [hl] at hL; cases hL
      | false =>
        rw [hl, cond_false] at hL
        unfold w_cat at hc
        rw [hl, cond_false] at hc
        have hX : q_pop len (p, ls, v :: st) h ns = some (.inl ((p + len, ls, st), h, ns)) := by
          unfold q_pop
          dsimp only
          rw [hc]
          rfl
        rw [hX]
        exact w_Res.same hi hR hT hL ⟨o1, os, o3⟩
theorem w_dp2_ok {V : w_V} (hi : w_sto ins = none) (hR : w_Rep sh h σ) (hT : w_T V sh σ) (ho : w_ok ls σ S st) (hL : w_dp2 (p + len) S = some L) : w_Res V sh ms ins ls σ ns (q_dup2 len (p, ls, st) h ns) L := by
  unfold w_dp2 at hL
  obtain ⟨S1, S2, S3⟩ := S
  rcases S2 with _ | ⟨A, _ | ⟨B, S2⟩⟩
  · cases hL
  · cases hL
  · rcases st with _ | ⟨v, _ | ⟨w, st⟩⟩
    · exact ho.2.1.elim
    · exact ho.2.1.2.elim
    · obtain ⟨o1, ⟨oa, ob, os⟩, o3⟩ := ho
      have hc := w_in_cat oa
      have hd := w_in_cat ob
      dsimp only at hL
      cases hl : (w_isL A || w_isL B) with
      | true => rw [hl] at hL; cases hL
      | false =>
        rw [hl, cond_false] at hL
        rw [Bool.or_eq_false_iff] at hl
        unfold w_cat at hc hd
        rw [hl.1, cond_false] at hc
        rw [hl.2, cond_false] at hd
        have hX : q_dup2 len (p, ls, v :: w :: st) h ns = some (.inl ((p + len, ls, v :: w :: v :: w :: st), h, ns)) := by
          unfold q_dup2
          dsimp only
          rw [hc, hd]
          rfl
        rw [hX]
        exact w_Res.same hi hR hT hL ⟨o1, ⟨oa, ob, oa, ob, os⟩, o3⟩
end INS3
