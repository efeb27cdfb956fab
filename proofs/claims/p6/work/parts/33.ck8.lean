section INS4
variable {sh : w_Sh} {ms : List (Nat × Nat)} {ins : Jvm.ClassFile.Instr} {ls : q_U Int32} {σ : w_G} {ns : Nat} {h : q_H Int32} {L : List (Nat × w_S)} {S : w_S} {st : List (q_V Int32)} {p len : Nat}
theorem w_cats_ok : ∀ (as : List w_A) (vs : List (q_V Int32)), w_sts ls σ as vs → q_cats vs = w_cats as
  | [], [], _ => rfl
  | [], _ :: _, h => h.elim
  | _ :: _, [], h => h.elim
  | A :: as, v :: vs, h => by
    show q_cat v + q_cats vs = w_cat A + w_cats as
    rw [w_in_cat h.1, w_cats_ok as vs h.2]
theorem w_mth_ok {V : w_V} {v : Nat} (hi : w_sto ins = none) (hR : w_Rep sh h σ) (hT : w_T V sh σ) (ho : w_ok ls σ S st) (hL : w_mth sh v (p + len) S = some L) : w_Res V sh ms ins ls σ ns (q_math q_O32 v len (p, ls, st) h ns) L := by
  obtain ⟨S1, S2, S3⟩ := S
  unfold w_mth at hL
  dsimp only at hL
  split at hL
  next A S2 =>
    obtain ⟨hb, hL⟩ := w_bs hL
    have hr := w_1_ok (ms := ms) (ns := ns) hi hR hT ho hL
    rcases st with _ | ⟨v, st⟩
    · exact ho.2.1.elim
    · rw [← w_cats_ok _ _ ho.2.1.2] at hb
      have hX : q_math q_O32 0 len (p, ls, v :: st) h ns = q_b1 q_O32 3 len (p, ls, v :: st) h ns := by
        show q_abs q_O32 len (p, ls, v :: st) h ns = _
        unfold q_abs q_b1
        dsimp only
        rcases v with x | v
        · dsimp only
          rw [hb]
          rfl
        · rfl
      rw [hX]
      exact hr
  next B A S2 =>
    obtain ⟨hb, hL⟩ := w_bs hL
    have hr := w_2_ok (ms := ms) (ns := ns) hi hR hT ho hL
    rcases st with _ | ⟨w, _ | ⟨v, st⟩⟩
    · exact ho.2.1.elim
    · exact ho.2.1.2.elim
    · rw [← w_cats_ok _ _ ho.2.1.2.2] at hb
      have hX : q_math q_O32 1 len (p, ls, w :: v :: st) h ns = q_b2 q_O32 11 len (p, ls, w :: v :: st) h ns := by
        show q_mm q_O32 11 len (p, ls, w :: v :: st) h ns = _
        unfold q_mm q_b2
        rcases w with y | w
        · rcases v with x | v
          · dsimp only
            rw [hb]
            rfl
          · rfl
        · rfl
      rw [hX]
      exact hr
  next B A S2 =>
    obtain ⟨hb, hL⟩ := w_bs hL
    have hr := w_2_ok (ms := ms) (ns := ns) hi hR hT ho hL
    rcases st with _ | ⟨w, _ | ⟨v, st⟩⟩
    · exact ho.2.1.elim
    · exact ho.2.1.2.elim
    · rw [← w_cats_ok _ _ ho.2.1.2.2] at hb
      have hX : q_math q_O32 2 len (p, ls, w :: v :: st) h ns = q_b2 q_O32 12 len (p, ls, w :: v :: st) h ns := by
        show q_mm q_O32 12 len (p, ls, w :: v :: st) h ns = _
        unfold q_mm q_b2
        rcases w with y | w
        · rcases v with x | v
          · dsimp only
            rw [hb]
            rfl
          · rfl
        · rfl
      rw [hX]
      exact hr
  next => cases hL
theorem w_l2_ok {V : w_V} {j : Nat} (hj : j < 3) (hi : w_sto ins = none) (hR : w_Rep sh h σ) (hT : w_T V sh σ) (ho : w_ok ls σ S st) (hL : w_l2 (p + len) S = some L) : w_Res V sh ms ins ls σ ns (q_l2 j len (p, ls, st) h ns) L := by
  obtain ⟨S1, S2, S3⟩ := S
  unfold w_l2 at hL
  dsimp only at hL
  split at hL
  next u1 u2 S2 =>
    rcases st with _ | ⟨w, _ | ⟨v, st⟩⟩
    · exact ho.2.1.elim
    · exact ho.2.1.2.elim
    · obtain ⟨o1, ⟨⟨y, rfl⟩, ⟨x, rfl⟩, os⟩, o3⟩ := ho
      have hz : ∃ z, q_lo j x y = some z := by
        rcases j with _ | _ | _ | j
        · exact ⟨_, rfl⟩
        · exact ⟨_, rfl⟩
        · exact ⟨_, rfl⟩
        · omega
      obtain ⟨z, hz⟩ := hz
      have hX : q_l2 j len (p, ls, .inr (.inl y) :: .inr (.inl x) :: st) h ns = some (.inl ((p + len, ls, .inr (.inl z) :: st), h, ns)) := by
        unfold q_l2
        dsimp only
        rw [hz]
        rfl
      rw [hX]
      exact w_Res.same hi hR hT hL ⟨o1, ⟨⟨z, rfl⟩, os⟩, o3⟩
  next => cases hL
theorem w_lsh_ok {V : w_V} (hi : w_sto ins = none) (hR : w_Rep sh h σ) (hT : w_T V sh σ) (ho : w_ok ls σ S st) (hL : w_lsh (p + len) S = some L) : w_Res V sh ms ins ls σ ns (q_lshl q_O32 len (p, ls, st) h ns) L := by
  obtain ⟨S1, S2, S3⟩ := S
  unfold w_lsh at hL
  dsimp only at hL
  split at hL
  next u1 u2 S2 =>
    rcases st with _ | ⟨w, _ | ⟨v, st⟩⟩
    · exact ho.2.1.elim
    · exact ho.2.1.2.elim
    · obtain ⟨o1, ⟨⟨y, rfl, -, -⟩, ⟨x, rfl⟩, os⟩, o3⟩ := ho
      exact w_Res.same hi hR hT hL ⟨o1, ⟨⟨_, rfl⟩, os⟩, o3⟩
  next => cases hL
theorem w_i2l_ok {V : w_V} (hi : w_sto ins = none) (hR : w_Rep sh h σ) (hT : w_T V sh σ) (ho : w_ok ls σ S st) (hL : w_i2l (p + len) S = some L) : w_Res V sh ms ins ls σ ns (q_i2l q_O32 len (p, ls, st) h ns) L := by
  obtain ⟨S1, S2, S3⟩ := S
  unfold w_i2l at hL
  dsimp only at hL
  split at hL
  next u1 S2 =>
    rcases st with _ | ⟨w, st⟩
    · exact ho.2.1.elim
    · obtain ⟨o1, ⟨⟨y, rfl, -, -⟩, os⟩, o3⟩ := ho
      exact w_Res.same hi hR hT hL ⟨o1, ⟨⟨_, rfl⟩, os⟩, o3⟩
  next => cases hL
theorem w_lg (x y : Int64) : q_jr (2147483647, 2147483649) (lg_cmp x y) := by
  unfold lg_cmp
  have a1 : q_pc (-1) = 2147483647 := by decide
  have a2 : q_pc 0 = 2147483648 := by decide
  have a3 : q_pc 1 = 2147483649 := by decide
  unfold q_jr
  split
  · rw [a3]; decide
  · split
    · rw [a2]; decide
    · rw [a1]; decide
theorem w_lcm_ok {V : w_V} (hi : w_sto ins = none) (hR : w_Rep sh h σ) (hT : w_T V sh σ) (ho : w_ok ls σ S st) (hL : w_lcm (p + len) S = some L) : w_Res V sh ms ins ls σ ns (q_lcmp q_O32 len (p, ls, st) h ns) L := by
  obtain ⟨S1, S2, S3⟩ := S
  unfold w_lcm at hL
  dsimp only at hL
  split at hL
  next u1 u2 S2 =>
    rcases st with _ | ⟨w, _ | ⟨v, st⟩⟩
    · exact ho.2.1.elim
    · exact ho.2.1.2.elim
    · obtain ⟨o1, ⟨⟨y, rfl⟩, ⟨x, rfl⟩, os⟩, o3⟩ := ho
      exact w_Res.same hi hR hT hL ⟨o1, ⟨⟨_, rfl, w_lg x y, Or.inl rfl⟩, os⟩, o3⟩
  next => cases hL
/-! arraycopy -/
def w_cp (σ : w_G) (s sp d dp n : Nat) : w_G := fun o2 k2 => if o2 = d ∧ dp ≤ k2 ∧ k2 < dp + n then σ s (sp + (k2 - dp)) else σ o2 k2
theorem w_cpy_at (q : q_C Int32) (sp dp : Nat) (u : q_U Int32) (k : Nat) : ∀ n, q_at (q_cpy q_O32 q sp dp n u) k = if dp ≤ k ∧ k < dp + n then some (q_el q_O32 q (sp + (k - dp))) else q_at u k := by
  intro n
  induction n with
  | zero =>
    rw [if_neg (by omega)]
    rfl
  | succ n ih =>
    show q_at ((dp + n, q_el q_O32 q (sp + n)) :: q_cpy q_O32 q sp dp n u) k = _
    rcases Nat.decEq (dp + n) k with e | e
    · rw [w_at_cons_ne e, ih]
      by_cases hc : dp ≤ k ∧ k < dp + n
      · rw [if_pos hc, if_pos (by omega)]
      · rw [if_neg hc, if_neg (by omega)]
    · subst e
      rw [w_at_cons, if_pos (by omega)]
      rw [show dp + n - dp = n by omega]
theorem w_cpy_ok {V : w_V} (hi : w_sto ins = none) (hR : w_Rep sh h σ) (hT : w_T V sh σ) (ho : w_ok ls σ S st) (hL : w_cpy sh ms (p + len) S = some L) : w_Res V sh ms ins ls σ ns (q_acpy q_O32 len (p, ls, st) h ns) L := by
  obtain ⟨S1, S2, S3⟩ := S
  unfold w_cpy at hL
  dsimp only at hL
  split at hL
  next N D nd P n0 S2 =>
    rcases st with _ | ⟨v1, _ | ⟨v2, _ | ⟨v3, _ | ⟨v4, _ | ⟨v5, st⟩⟩⟩⟩⟩
    · exact ho.2.1.elim
    · exact ho.2.1.2.elim
    · exact ho.2.1.2.2.elim
    · exact ho.2.1.2.2.2.elim
    · exact ho.2.1.2.2.2.2.elim
    · obtain ⟨o1, ⟨oN, oD, ⟨m1, rfl, hm1⟩, oP, ⟨m2, rfl, hm2⟩, os⟩, o3⟩ := ho
      have e1 : m1 = nd := by simpa using hm1
      have e2 : m2 = n0 := by simpa using hm2
      subst e1 e2
      have eN := w_ef_ok hT o3 oN
      have eD := w_ef_ok hT o3 oD
      have eP := w_ef_ok hT o3 oP
      split at hL
      next jn gn jd gd jp gp d td zd ld s tp zp lp hN hD hP hcd hcs =>
        rw [hN] at eN
        rw [hD] at eD
        rw [hP] at eP
        obtain ⟨xn, rfl, hxn, -⟩ := eN
        obtain ⟨xd, rfl, hxd, -⟩ := eD
        obtain ⟨xp, rfl, hxp, -⟩ := eP
        obtain ⟨hb, hL⟩ := w_bs hL
        simp only [Bool.and_eq_true, Nat.ble_eq, Nat.beq_eq, Nat.blt_eq] at hb
        obtain ⟨b1, b2, b3, b4, b5, b6, b7, b8, b9, b10, b11, hlp, b12⟩ := hb
        have b13 : w_ovl g_pk (w_key d (jd.1 - 2147483648)) (w_key d (zd - 1)) = false := by simpa using b12
        cases hL
        obtain ⟨rfl, hsd, ud, hud⟩ := w_cell_ok hR hcd
        obtain ⟨rfl, hss, us, hus⟩ := w_cell_ok hR hcs
        subst b1 b2
        have n1 := hxn.1
        have n2 := hxn.2
        have d1 := hxd.1
        have d2 := hxd.2
        have p1 := hxp.1
        have p2 := hxp.2
        have in1 := w_ix (x := xn) (by omega)
        have in2 := w_ix (x := xd) (by omega)
        have in3 := w_ix (x := xp) (by omega)
        obtain ⟨n, hn⟩ : ∃ n, n = q_pc xn - 2147483648 := ⟨_, rfl⟩
        obtain ⟨dp, hdp⟩ : ∃ n, n = q_pc xd - 2147483648 := ⟨_, rfl⟩
        obtain ⟨sp, hsp⟩ : ∃ n, n = q_pc xp - 2147483648 := ⟨_, rfl⟩
        rw [← hn] at in1
        rw [← hdp] at in2
        rw [← hsp] at in3
        have hsz : sp + n ≤ zp := by omega
        have hdz : dp + n ≤ zd := by omega
        have hX : q_acpy q_O32 len (p, ls, .inl xn :: .inl xd :: .inr (.inr (d + 2)) :: .inl xp :: .inr (.inr (s + 2)) :: st) h ns = some (.inl ((p + len, ls, st), h.set d (100, zd, q_cpy q_O32 (100, zp, us) sp dp n ud), ns)) := by
          unfold q_acpy
          dsimp only
          rw [hus, hud, show q_O32.2.2.2.2.1 xn = some n from in1, show q_O32.2.2.2.2.1 xd = some dp from in2, show q_O32.2.2.2.2.1 xp = some sp from in3]
          dsimp only
          rw [show (Nat.beq 100 100 && (Nat.beq 100 100 && (Nat.ble (sp + n) zp && (Nat.ble (dp + n) zd && Nat.ble (q_cats st) 8)))) = true by
            rw [w_cats_ok _ _ os, q_ble_t hsz, q_ble_t hdz, q_ble_t b9]
            rfl, cond_true]
          rfl
        rw [hX]
        have hlt : d < h.length := by
          rcases Nat.lt_or_ge d h.length with q | q
          · exact q
          · rw [List.getElem?_eq_none q] at hud
            cases hud
        have hR2 : w_Rep sh (h.set d (100, zd, q_cpy q_O32 (100, zp, us) sp dp n ud)) (w_cp σ s sp d dp n) := by
          constructor
          · intro o2
            rw [← hR.1 o2]
            rcases Nat.decEq o2 d with e | e
            · rw [List.getElem?_set_ne (fun q => e q.symm)]
            · subst e
              rw [List.getElem?_set_self hlt, hud]
              rfl
          · intro o2 q hq k2 hk2
            rcases Nat.decEq o2 d with e | e
            · rw [List.getElem?_set_ne (fun q => e q.symm)] at hq
              unfold w_cp
              rw [if_neg (fun z => e z.1)]
              exact hR.2 o2 q hq k2 hk2
            · subst e
              rw [List.getElem?_set_self hlt] at hq
              cases hq
              refine ⟨fun ht => absurd ht (Nat.lt_irrefl 100), fun _ => ?_⟩
              unfold w_cp q_el
              dsimp only
              rw [w_cpy_at]
              by_cases hc : dp ≤ k2 ∧ k2 < dp + n
              · rw [if_pos hc, if_pos ⟨rfl, hc.1, hc.2⟩]
                exact (hR.2 s _ hus (sp + (k2 - dp)) (show sp + (k2 - dp) < zp by omega)).2 (Nat.le_refl 100)
              · rw [if_neg hc, if_neg (fun z => hc z.2)]
                exact (hR.2 o2 _ hud k2 hk2).2 (Nat.le_refl 100)
        have hkey : ∀ k2, dp ≤ k2 ∧ k2 < dp + n → w_key d (jd.1 - 2147483648) ≤ w_key d k2 ∧ w_key d k2 ≤ w_key d (zd - 1) := fun k2 hk => ⟨w_key_le (by omega), w_key_le (by omega)⟩
        refine ⟨_, List.mem_cons_self, ls, st, _, _, rfl, hR2, ?_, ?_, ?_, ?_⟩
        · refine ⟨?_, V.2 σ _ (fun o2 k2 hk2 hm => ?_) hT.2⟩
          rotate_left
          · unfold w_cp
            rw [if_neg]
            rintro ⟨rfl, z2⟩
            obtain ⟨q1, q2⟩ := hkey _ z2
            rw [w_ovl_no b13 q1 q2] at hm
            cases hm
          intro o2 k2 A hA
          unfold w_cp
          by_cases hc : o2 = d ∧ dp ≤ k2 ∧ k2 < dp + n
          · rw [if_pos hc]
            obtain ⟨rfl, c1, c2⟩ := hc
            have hA0 := hA
            unfold w_ty at hA
            rw [hsd] at hA
            obtain ⟨-, hA⟩ := w_bs hA
            rw [Option.map_eq_some_iff] at hA
            obtain ⟨C, hC, rfl⟩ := hA
            rw [List.all_eq_true] at b10
            obtain ⟨B, hB⟩ : ∃ B, lp[(sp + (k2 - dp)) % lp.length]? = some B := ⟨_, List.getElem?_eq_getElem (Nat.mod_lt _ hlp)⟩
            have hty : w_ty sh s (sp + (k2 - dp)) = some (w_kz B) := by
              unfold w_ty
              rw [hss]
              dsimp only
              rw [show Nat.blt (sp + (k2 - dp)) zp = true by rw [Nat.blt_eq]; omega, cond_true, hB]
              rfl
            have h1 := hT.at hty ls
            have h2 := b10 B (List.mem_of_getElem? hB)
            rw [List.all_eq_true] at h2
            have h3 := w_le1_ok (h2 C (List.mem_of_getElem? hC)) h1
            have h4 := w_in_kz (ls2 := []) (σ2 := w_cp σ s sp o2 dp n) h3
            rwa [w_kz_kz] at h4
          · rw [if_neg hc]
            have h4 := w_in_kz (ls2 := []) (σ2 := w_cp σ s sp d dp n) (hT.1 o2 k2 A hA)
            rwa [w_ty_kz hA] at h4
        · refine w_ks_ok (fun g hg hp => ?_) (⟨o1, os, o3⟩ : w_ok ls σ (S1, S2, S3) st)
          unfold w_val
          cases hbg : Nat.blt g 64 with
          | true => rfl
          | false =>
            rw [cond_false, cond_false]
            have hg64 : 64 ≤ g := by
              rcases Nat.lt_or_ge g 64 with q | q
              · have : Nat.blt g 64 = true := by rw [Nat.blt_eq]; exact q
                rw [this] at hbg
                cases hbg
              · exact q
            unfold w_cp
            rw [if_neg]
            rintro ⟨z1, z2⟩
            obtain ⟨q1, q2⟩ := hkey _ z2
            have hk : w_key d (w_kk g) = g := by
              rw [← z1]
              exact w_key_inv hg64
            rw [hk] at q1 q2
            exact absurd rfl (w_rng_ne hp q1 q2)
        · intro o2 k2 hk2 hm
          unfold w_cp
          rw [if_neg]
          rintro ⟨rfl, z2⟩
          obtain ⟨q1, q2⟩ := hkey _ z2
          rw [w_inr_ok b11 q1 q2] at hm
          cases hm
        · unfold w_lsr
          rw [hi]
      next => cases hL
  next => cases hL
end INS4
