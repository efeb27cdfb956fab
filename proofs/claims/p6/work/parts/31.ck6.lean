section INS2
variable {sh : w_Sh} {ms : List (Nat × Nat)} {ins : Jvm.ClassFile.Instr} {ls : q_U Int32} {σ : w_G} {ns : Nat} {h : q_H Int32} {L : List (Nat × w_S)} {S : w_S} {st : List (q_V Int32)} {p len : Nat}
theorem w_cm_some {j : Nat} (hj : j < 6) (x y : Int32) : ∃ t, q_cm j x y = some t := by
  rcases j with _ | _ | _ | _ | _ | _ | j
  · exact ⟨_, rfl⟩
  · exact ⟨_, rfl⟩
  · exact ⟨_, rfl⟩
  · exact ⟨_, rfl⟩
  · exact ⟨_, rfl⟩
  · exact ⟨_, rfl⟩
  · omega
theorem w_Res.mem {V : w_V} {s : Nat × w_S} {st2 : List (q_V Int32)} (hi : w_sto ins = none) (hR : w_Rep sh h σ) (hT : w_T V sh σ) (hm : s ∈ L) (ho : w_ok ls σ s.2 st2) : w_Res V sh ms ins ls σ ns (some (.inl ((s.1, ls, st2), h, ns))) L := by
  refine ⟨s, hm, ls, st2, h, σ, rfl, hR, hT, ho, w_fr.rf, ?_⟩
  unfold w_lsr
  rw [hi]
theorem w_cond_ok {V : w_V} {j : Nat} {A B : w_A} {v w : q_V Int32} {r : List Nat} {st0 : List (q_V Int32)} (hi : w_sto ins = none) (hR : w_Rep sh h σ) (hT : w_T V sh σ) (ho : w_ok ls σ S st) (hA : w_in ls σ A v) (hB : w_in ls σ B w) (hL : w_cond sh j A B r (p + len) S = some L) : ∃ x y, v = .inl x ∧ w = .inl y ∧ w_Res V sh ms ins ls σ ns (q_jmp r len (q_cm j x y) (p, ls, st0) st h ns) L := by
  have ea := w_ef_ok hT ho.2.2 hA
  have eb := w_ef_ok hT ho.2.2 hB
  unfold w_cond at hL
  split at hL
  next a b tg hA2 hB2 =>
    rw [hA2] at ea
    rw [hB2] at eb
    obtain ⟨x, rfl, hx, kx⟩ := ea
    obtain ⟨y, rfl, hy, ky⟩ := eb
    obtain ⟨hj, hL⟩ := w_bs hL
    cases hL
    obtain ⟨t, ht⟩ := w_cm_some (q_blt hj) x y
    refine ⟨x, y, rfl, rfl, ?_⟩
    obtain ⟨S2, hm, ho2⟩ := w_br_ok (S := S) ht (show w_iv ls σ a x from ⟨hx, kx⟩) (show w_iv ls σ b y from ⟨hy, ky⟩) ho
    rw [ht]
    cases t with
    | true => exact w_Res.mem (s := (tg, S2)) hi hR hT (List.mem_append_left _ (List.mem_map.mpr ⟨S2, hm, rfl⟩)) ho2
    | false => exact w_Res.mem (s := (p + len, S2)) hi hR hT (List.mem_append_right _ (List.mem_map.mpr ⟨S2, hm, rfl⟩)) ho2
  next => cases hL
theorem w_if_ok {V : w_V} {j : Nat} {r : List Nat} {A : w_A} {S1 S3 : w_U} {S2 : List w_A} (hi : w_sto ins = none) (hR : w_Rep sh h σ) (hT : w_T V sh σ) (ho : w_ok ls σ (S1, A :: S2, S3) st) (hL : w_cond sh j A (.inl (q_jc 0, 0)) r (p + len) (S1, S2, S3) = some L) : w_Res V sh ms ins ls σ ns (q_if q_O32 j r len (p, ls, st) h ns) L := by
  rcases st with _ | ⟨v, st⟩
  · exact ho.2.1.elim
  · obtain ⟨o1, ⟨oa, os⟩, o3⟩ := ho
    obtain ⟨x, y, rfl, hy, hres⟩ := w_cond_ok (ms := ms) (ns := ns) (st0 := v :: st) hi hR hT (⟨o1, os, o3⟩ : w_ok ls σ (S1, S2, S3) st) oa (w_pc_ok (c := 0)) hL
    cases hy
    exact hres
theorem w_ic_ok {V : w_V} {j : Nat} {r : List Nat} {A B : w_A} {S1 S3 : w_U} {S2 : List w_A} (hi : w_sto ins = none) (hR : w_Rep sh h σ) (hT : w_T V sh σ) (ho : w_ok ls σ (S1, B :: A :: S2, S3) st) (hL : w_cond sh j A B r (p + len) (S1, S2, S3) = some L) : w_Res V sh ms ins ls σ ns (q_ic q_O32 j r len (p, ls, st) h ns) L := by
  rcases st with _ | ⟨w, _ | ⟨v, st⟩⟩
  · exact ho.2.1.elim
  · exact ho.2.1.2.elim
  · obtain ⟨o1, ⟨ob, oa, os⟩, o3⟩ := ho
    obtain ⟨x, y, rfl, rfl, hres⟩ := w_cond_ok (ms := ms) (ns := ns) (st0 := w :: v :: st) hi hR hT (⟨o1, os, o3⟩ : w_ok ls σ (S1, S2, S3) st) oa ob hL
    exact hres
theorem w_tb_mem {lo : Int} {a : q_J × Nat} {tg : Nat} : ∀ (tgs : List Nat) (k i : Nat), tgs[i]? = some tg → a.1.1 ≤ (lo + ((k + i : Nat) : Int) + 2147483648).toNat → (lo + ((k + i : Nat) : Int) + 2147483648).toNat ≤ a.1.2 → (tg, w_nr a.2 ((lo + ((k + i : Nat) : Int) + 2147483648).toNat, (lo + ((k + i : Nat) : Int) + 2147483648).toNat) S) ∈ w_tb lo a S k tgs
  | [], _, _, h, _, _ => by cases h
  | t :: r, k, 0, h, h1, h2 => by
    cases h
    unfold w_tb
    refine List.mem_append_left _ ?_
    have e : (Nat.ble a.1.1 (lo + (k : Int) + 2147483648).toNat && Nat.ble (lo + (k : Int) + 2147483648).toNat a.1.2) = true := by
      rw [Bool.and_eq_true]
      exact ⟨q_ble_t h1, q_ble_t h2⟩
    rw [e]
    exact List.mem_cons_self
  | t :: r, k, i + 1, h, h1, h2 => by
    unfold w_tb
    refine List.mem_append_right _ ?_
    have e : k + (i + 1) = k + 1 + i := by omega
    rw [e] at h1 h2 ⊢
    exact w_tb_mem r (k + 1) i h h1 h2
theorem w_ofInt {n : Int} (h1 : -2147483648 ≤ n) (h2 : n ≤ 2147483647) : (Int32.ofInt n).toInt = n := by
  rw [Int32.toInt_ofInt, show (Int32.size : Nat) = 4294967296 from rfl]
  apply Int.bmod_eq_of_le <;> omega
theorem w_tsw_ok {V : w_V} {lo hi : Int} {r : List Nat} (hi0 : w_sto ins = none) (hR : w_Rep sh h σ) (hT : w_T V sh σ) (ho : w_ok ls σ S st) (hL : w_tsw sh lo hi r S = some L) : w_Res V sh ms ins ls σ ns (q_tsw q_O32 lo hi r (p, ls, st) h ns) L := by
  unfold w_tsw at hL
  obtain ⟨S1, S2, S3⟩ := S
  rcases S2 with _ | ⟨A, S2⟩
  · cases hL
  · rcases r with _ | ⟨df, tgs⟩
    · cases hL
    · rcases st with _ | ⟨v, st⟩
      · exact ho.2.1.elim
      · obtain ⟨o1, ⟨oa, os⟩, o3⟩ := ho
        have ea := w_ef_ok hT o3 oa
        simp only at hL
        split at hL
        next a hA =>
          rw [hA] at ea
          obtain ⟨x, rfl, hx, kx⟩ := ea
          obtain ⟨hc, hL⟩ := w_bs hL
          cases hL
          simp only [Bool.and_eq_true, decide_eq_true_eq] at hc
          obtain ⟨c1, c2, c3, c4⟩ := hc
          have ho2 : w_ok ls σ (S1, S2, S3) st := ⟨o1, os, o3⟩
          have hlo := w_ofInt (n := lo) (by omega) (by omega)
          have hhi := w_ofInt (n := hi) (by omega) (by omega)
          unfold q_tsw
          dsimp only
          show w_Res V sh ms ins ls σ ns (match (match q_cm 2 x (Int32.ofInt lo), q_cm 4 x (Int32.ofInt hi) with
            | some true, _ => (df :: tgs)[0]?
            | some false, some true => (df :: tgs)[0]?
            | some false, some false => (df :: tgs)[(x.toInt - lo).toNat + 1]?
            | _, _ => none) with
            | some tg => some (.inl ((tg, ls, st), h, ns))
            | none => none) _
          have hdf : w_Res V sh ms ins ls σ ns (some (.inl ((df, ls, st), h, ns))) ((df, (S1, S2, S3)) :: w_tb lo a (S1, S2, S3) 0 tgs) := w_Res.mem (s := (df, (S1, S2, S3))) hi0 hR hT List.mem_cons_self ho2
          show w_Res V sh ms ins ls σ ns (match (match some (decide (x < Int32.ofInt lo)), some (decide (Int32.ofInt hi < x)) with
            | some true, _ => (df :: tgs)[0]?
            | some false, some true => (df :: tgs)[0]?
            | some false, some false => (df :: tgs)[(x.toInt - lo).toNat + 1]?
            | _, _ => none) with
            | some tg => some (.inl ((tg, ls, st), h, ns))
            | none => none) _
          cases d1 : decide (x < Int32.ofInt lo) with
          | true => exact hdf
          | false =>
            cases d2 : decide (Int32.ofInt hi < x) with
            | true => exact hdf
            | false =>
              have n1 := of_decide_eq_false d1
              have n2 := of_decide_eq_false d2
              rw [Int32.lt_iff_toInt_lt, hlo] at n1
              rw [Int32.lt_iff_toInt_lt, hhi] at n2
              have hlt : (x.toInt - lo).toNat < tgs.length := by omega
              obtain ⟨tg, htg⟩ : ∃ tg, tgs[(x.toInt - lo).toNat]? = some tg := ⟨_, List.getElem?_eq_getElem hlt⟩
              show w_Res V sh ms ins ls σ ns (match tgs[(x.toInt - lo).toNat]? with
                | some tg => some (.inl ((tg, ls, st), h, ns))
                | none => none) _
              rw [htg]
              have ep := q_pc_int x
              have e : (lo + ((0 + (x.toInt - lo).toNat : Nat) : Int) + 2147483648).toNat = q_pc x := by omega
              have hm := w_tb_mem (lo := lo) (a := a) (S := (S1, S2, S3)) tgs 0 _ htg (by rw [e]; exact hx.1) (by rw [e]; exact hx.2)
              rw [e] at hm
              exact w_Res.mem (s := (tg, w_nr a.2 (q_pc x, q_pc x) (S1, S2, S3))) hi0 hR hT (List.mem_cons_of_mem _ hm) (w_nr_ok ⟨Nat.le_refl _, Nat.le_refl _⟩ kx ho2)
        next => cases hL
theorem w_off (d : Int) (k : Int) : ∀ ps : List (Int × Int), Op.lookupswitch.offset ps d k = d ∨ ∃ q ∈ ps, Op.lookupswitch.offset ps d k = q.2
  | [] => Or.inl rfl
  | (a, o) :: r => by
    rw [Op.lookupswitch.offset_cons]
    split
    · exact Or.inr ⟨(a, o), List.mem_cons_self, rfl⟩
    · rcases w_off d k r with e | ⟨q, hq, e⟩
      · exact Or.inl e
      · exact Or.inr ⟨q, List.mem_cons_of_mem _ hq, e⟩
theorem w_lsw_ok {V : w_V} {d : Int} {ps : List (Int × Int)} (hi : w_sto ins = none) (hR : w_Rep sh h σ) (hT : w_T V sh σ) (ho : w_ok ls σ S st) (hL : w_lsw p d ps S = some L) : w_Res V sh ms ins ls σ ns (q_lsw q_O32 d ps (p, ls, st) h ns) L := by
  unfold w_lsw at hL
  obtain ⟨S1, S2, S3⟩ := S
  rcases S2 with _ | ⟨a | A, S2⟩
  · cases hL
  · rcases st with _ | ⟨v, st⟩
    · exact ho.2.1.elim
    · obtain ⟨o1, ⟨⟨x, rfl, -, -⟩, os⟩, o3⟩ := ho
      obtain ⟨hc, hL⟩ := w_bs hL
      cases hL
      simp only [Bool.and_eq_true, decide_eq_true_eq, List.all_eq_true] at hc
      have ho2 : w_ok ls σ (S1, S2, S3) st := ⟨o1, os, o3⟩
      unfold q_lsw
      dsimp only
      show w_Res V sh ms ins ls σ ns (if 0 ≤ (p : Int) + Op.lookupswitch.offset ps d x.toInt then some (.inl ((((p : Int) + Op.lookupswitch.offset ps d x.toInt).toNat, ls, st), h, ns)) else none) _
      rcases w_off d x.toInt ps with e | ⟨q, hq, e⟩
      · rw [e, if_pos hc.1]
        exact w_Res.mem (s := (((p : Int) + d).toNat, (S1, S2, S3))) hi hR hT List.mem_cons_self ho2
      · rw [e, if_pos (hc.2 q hq)]
        exact w_Res.mem (s := (((p : Int) + q.2).toNat, (S1, S2, S3))) hi hR hT (List.mem_cons_of_mem _ (List.mem_map.mpr ⟨q, hq, rfl⟩)) ho2
  · cases hL
theorem w_rd_ok {V : w_V} {M : w_U} {o k : Nat} {A : w_A} (hT : w_T V sh σ) (hM : w_oM ls σ M) (hk : k < 4096) (hr : w_rd sh M (w_key o k) = some A) : w_in ls σ A (σ o k) := by
  unfold w_rd at hr
  have e1 := w_ko_key (o := o) hk
  have e2 := w_kk_key (o := o) hk
  split at hr
  next J g hkn =>
    cases hr
    have := w_kn_ok hT hM hkn
    rw [e1, e2] at this
    obtain ⟨x, h1, h2, -⟩ := this
    refine ⟨x, h1, h2, Or.inr ?_⟩
    rw [w_val_hi (w_key_ge o k), e1, e2]
  next B hne hkn =>
    cases hr
    have := w_kn_ok hT hM hkn
    rwa [e1, e2] at this
  next => cases hr
theorem w_get_ok {V : w_V} {r : List Nat} (hi : w_sto ins = none) (hR : w_Rep sh h σ) (hT : w_T V sh σ) (ho : w_ok ls σ S st) (hL : w_get sh r (p + len) S = some L) : w_Res V sh ms ins ls σ ns (q_getf r len (p, ls, st) h ns) L := by
  unfold w_get at hL
  obtain ⟨S1, S2, S3⟩ := S
  dsimp only at hL
  split at hL
  next ci k rr n S2 =>
    rcases st with _ | ⟨v, st⟩
    · exact ho.2.1.elim
    · obtain ⟨o1, ⟨⟨n2, rfl, hn⟩, os⟩, o3⟩ := ho
      have hn2 : n2 = n := by simpa using hn
      subst hn2
      split at hL
      next A hA =>
        unfold w_gf at hA
        split at hA
        next o tag sz l hc =>
          obtain ⟨hb, hA⟩ := w_bs hA
          simp only [Bool.and_eq_true, Nat.beq_eq, Nat.blt_eq] at hb
          obtain ⟨b1, b2, b3, b4⟩ := hb
          obtain ⟨rfl, hsh, u, hu⟩ := w_cell_ok hR hc
          have hv := (hR.2 o _ hu k b3).1 b2
          have hX : q_getf (ci :: k :: rr) len (p, ls, .inr (.inr (o + 2)) :: st) h ns = some (.inl ((p + len, ls, σ o k :: st), h, ns)) := by
            unfold q_getf
            dsimp only
            rw [hu]
            dsimp only
            rw [show (Nat.beq tag ci && Nat.blt k sz) = true by rw [Bool.and_eq_true, Nat.beq_eq, Nat.blt_eq]; exact ⟨b1, b3⟩, cond_true]
            rw [show q_at u k = some (σ o k) from hv]
            rfl
          rw [hX]
          exact w_Res.same hi hR hT hL ⟨o1, ⟨w_rd_ok hT o3 b4 hA, os⟩, o3⟩
        next => cases hA
      next => cases hL
  next => cases hL
theorem w_fits_ok {kd : Nat} {A B : w_A} {v : q_V Int32} (hf : w_fits kd A B = true) (hv : w_in ls σ A v) : w_in ls σ B v ∧ q_fit q_O32 kd v = true := by
  unfold w_fits at hf
  rw [Bool.and_eq_true] at hf
  refine ⟨w_le1_ok hf.1 hv, ?_⟩
  have h2 := hf.2
  rcases A with ⟨J, g⟩ | u | l
  · obtain ⟨x, rfl, hx, -⟩ := hv
    show (Nat.beq kd 0 || (Nat.beq kd 1 && q_ib x)) = true
    simp only [w_bit, Bool.or_eq_true, Bool.and_eq_true, Nat.ble_eq] at h2
    rw [Bool.or_eq_true, Bool.and_eq_true]
    rcases h2 with h2 | ⟨h2, h3, h4⟩
    · exact Or.inl h2
    · refine Or.inr ⟨h2, ?_⟩
      unfold q_ib
      rw [Bool.or_eq_true, decide_eq_true_eq, decide_eq_true_eq, ← Int32.toInt_inj, ← Int32.toInt_inj, q_pc_int x]
      have := hx.1
      have := hx.2
      show _ = (0 : Int) ∨ _ = (1 : Int)
      omega
  · obtain ⟨x, rfl⟩ := hv
    exact h2
  · obtain ⟨x, rfl, -⟩ := hv
    exact h2
theorem w_put_ok {V : w_V} {r : List Nat} (hi : w_sto ins = none) (hR : w_Rep sh h σ) (hT : w_T V sh σ) (ho : w_ok ls σ S st) (hL : w_put sh ms r (p + len) S = some L) : w_Res V sh ms ins ls σ ns (q_putf q_O32 r len (p, ls, st) h ns) L := by
  unfold w_put at hL
  obtain ⟨S1, S2, S3⟩ := S
  dsimp only at hL
  split at hL
  next ci k kd rr A n S2 =>
    rcases st with _ | ⟨v, _ | ⟨v2, st⟩⟩
    · exact ho.2.1.elim
    · exact ho.2.1.2.elim
    · obtain ⟨o1, ⟨oa, ⟨n2, rfl, hn⟩, os⟩, o3⟩ := ho
      have hn2 : n2 = n := by simpa using hn
      subst hn2
      split at hL
      next o tag sz l hc =>
        split at hL
        next B hB =>
          obtain ⟨hb, hL⟩ := w_bs hL
          simp only [Bool.and_eq_true, Nat.beq_eq, Nat.blt_eq] at hb
          obtain ⟨b1, b2, b3, b4, b5, b6, b7⟩ := hb
          have b8 : w_inm g_pk (w_key o k) = false := by simpa using b7
          obtain ⟨rfl, hsh, u, hu⟩ := w_cell_ok hR hc
          have ea := w_ef_ok hT o3 oa
          obtain ⟨hvB, hfit⟩ := w_fits_ok b5 ea
          have hX : q_putf q_O32 (ci :: k :: kd :: rr) len (p, ls, v :: .inr (.inr (o + 2)) :: st) h ns = some (.inl ((p + len, ls, st), h.set o (tag, sz, (k, v) :: u), ns)) := by
            unfold q_putf
            dsimp only
            rw [hu]
            dsimp only
            rw [show (Nat.beq tag ci && (Nat.blt k sz && q_fit q_O32 kd v)) = true by rw [Bool.and_eq_true, Bool.and_eq_true, Nat.beq_eq, Nat.blt_eq]; exact ⟨b1, b3, hfit⟩, cond_true]
            rfl
          rw [hX]
          cases hL
          have hT2 : w_T V sh (w_up σ o k v) := w_T_up hT b8 (fun B2 hB2 => by
            rw [hB] at hB2
            cases hB2
            rw [w_ty_kz hB] at hvB
            exact hvB)
          have hks := w_ks_ok (p := Nat.beq (w_key o k)) (σ2 := w_up σ o k v) (fun g hg hp => w_val_up (fun e => by rw [e, q_beq_self] at hp; cases hp)) (⟨o1, os, o3⟩ : w_ok ls σ (S1, S2, S3) st)
          refine ⟨_, List.mem_cons_self, ls, st, _, w_up σ o k v, rfl, w_Rep_set hR hu v, hT2, w_setM_ok (w_key_ge o k) ?_ hks, w_fr_up b6, ?_⟩
          · rw [w_ko_key b4, w_kk_key b4, w_up_self]
            exact w_in_kz ea
          · unfold w_lsr
            rw [hi]
        next => cases hL
      next => cases hL
  next => cases hL
end INS2
