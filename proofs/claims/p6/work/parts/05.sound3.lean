section QS3
variable {p : Program} {l : Launch} {e : Env} {R : Room} {s : State} {m : MethodId} {args : Array Value} {below : List Frame} {meth : Method} {c : Code} {S b : Nat} {D : va_G} {cA : Nat → ClassId} {cl : List vw_C} {nL : Nat} {own : String} {cc : ByteArray} {Ts : List Cond}
variable {f f' : q_F Int32} {h h' : q_H Int32} {ns ns' : Nat}
theorem q_s_alen (cx : q_CX p s m args c S D cA cl nL own cc Ts) {len : Nat} {scr : Option (List Int32)} (hlen : len = 1) (hX : ∀ xs, scr = some xs → va_X b xs.length (fun j => xs.getD j 0) s s.heap ∧ b < s.heap.size ∧ ¬ S ≤ b) (hdg : decode cc f.1 = .ok (.arraylength, 1)) (hs : q_alen q_O32 scr len f h ns = some (.inl (f', h', ns'))) : q_K p l e R s m args below meth c S b D cA cl nL f h ns f' h' ns' := by
  subst hlen
  unfold q_alen at hs
  split at hs
  next o st hv =>
    split at hs
    next q hq =>
      cases hb : Nat.blt 99 q.1 && Nat.blt q.1 104 with
      | false => rw [hb] at hs; cases hs
      | true =>
        rw [hb, cond_true] at hs
        simp only [Bool.and_eq_true] at hb
        have h1 := q_blt hb.1
        have h2 := q_blt hb.2
        refine q_s_nx hs fun cells slots Q g H locs ls hz hP hS hl => ?_
        have hw := q_ws_at (S := S) (b := b) (cA := cA) hq
        have hK := cx.2.2.2.2.2.1
        rw [hv]
        have g1 := g H locs ls hz hP hS hl
        rcases (show q.1 = 100 ∨ q.1 = 101 ∨ q.1 = 102 ∨ q.1 = 103 by omega) with e1 | e1 | e1 | e1
        · rw [q_e_int (Or.inl e1)] at hw
          exact va_alen cx.1 cx.2.1 hK hP o 0 hw (by rw [e1]; rfl) rfl hdg g1
        · rw [q_e_int (Or.inr (Or.inl e1))] at hw
          exact va_alen cx.1 cx.2.1 hK hP o 1 hw (by rw [e1]; rfl) rfl hdg g1
        · rw [q_e_int (Or.inr (Or.inr e1))] at hw
          exact va_alen cx.1 cx.2.1 hK hP o 2 hw (by rw [e1]; rfl) rfl hdg g1
        · rw [q_e_long e1] at hw
          exact va_alen cx.1 cx.2.1 hK hP o 3 hw (by rw [e1]; rfl) rfl hdg g1
    next => cases hs
  next st hv =>
    split at hs
    next xs =>
      obtain ⟨hX1, hX2, hX3⟩ := hX xs rfl
      refine q_s_nx hs fun cells slots Q g H locs ls hz hP hS hl => ?_
      rw [hv]
      exact va_slen (A := fun q => S ≤ q) cx.1 cx.2.1 hX1 hX2 hX3 hS hdg (g H locs ls hz hP hS hl)
    next => cases hs
  next => cases hs
theorem q_s_dup (cx : q_CX p s m args c S D cA cl nL own cc Ts) {len : Nat} (hlen : len = 1) (hdg : decode cc f.1 = .ok (.dup, 1)) (hs : q_dup len f h ns = some (.inl (f', h', ns'))) : q_K p l e R s m args below meth c S b D cA cl nL f h ns f' h' ns' := by
  subst hlen
  unfold q_dup at hs
  split at hs
  next v st hv =>
    cases hb : Nat.beq (q_cat v) 1 with
    | false => rw [hb] at hs; cases hs
    | true =>
      rw [hb, cond_true] at hs
      exact q_s_nx hs (q_s_row hv fun H locs ls cells slots Q k => lv_dup cx.1 cx.2.1 hdg (by rw [q_ren_cat]; exact q_beq hb) k)
  next => cases hs
theorem q_s_pop (cx : q_CX p s m args c S D cA cl nL own cc Ts) {len : Nat} (hlen : len = 1) (hdg : decode cc f.1 = .ok (.pop, 1)) (hs : q_pop len f h ns = some (.inl (f', h', ns'))) : q_K p l e R s m args below meth c S b D cA cl nL f h ns f' h' ns' := by
  subst hlen
  unfold q_pop at hs
  split at hs
  next v st hv =>
    cases hb : Nat.beq (q_cat v) 1 with
    | false => rw [hb] at hs; cases hs
    | true =>
      rw [hb, cond_true] at hs
      exact q_s_nx hs (q_s_row hv fun H locs ls cells slots Q k => lv_pop cx.1 cx.2.1 hdg (by rw [q_ren_cat]; exact q_beq hb) k)
  next => cases hs
theorem q_s_dup2 (cx : q_CX p s m args c S D cA cl nL own cc Ts) {len : Nat} (hlen : len = 1) (hdg : decode cc f.1 = .ok (.dup2, 1)) (hs : q_dup2 len f h ns = some (.inl (f', h', ns'))) : q_K p l e R s m args below meth c S b D cA cl nL f h ns f' h' ns' := by
  subst hlen
  unfold q_dup2 at hs
  split at hs
  next v w st hv =>
    cases hb : Nat.beq (q_cat v) 1 && Nat.beq (q_cat w) 1 with
    | false => rw [hb] at hs; cases hs
    | true =>
      rw [hb, cond_true] at hs
      simp only [Bool.and_eq_true] at hb
      exact q_s_nx hs (q_s_row hv fun H locs ls cells slots Q k => lv_dup2_11 cx.1 cx.2.1 hdg (by rw [q_ren_cat]; exact q_beq hb.1) (by rw [q_ren_cat]; exact q_beq hb.2) k)
  next => cases hs
theorem q_s_lshl (cx : q_CX p s m args c S D cA cl nL own cc Ts) {len : Nat} (hlen : len = 1) (hdg : decode cc f.1 = .ok (.lshl, 1)) (hs : q_lshl q_O32 len f h ns = some (.inl (f', h', ns'))) : q_K p l e R s m args below meth c S b D cA cl nL f h ns f' h' ns' := by
  subst hlen
  unfold q_lshl at hs
  split at hs
  next y x st hv =>
    split at hs
    next z hz =>
      have hz' : z = y.toInt64 := (Option.some.inj hz).symm
      subst hz'
      exact q_s_nx hs (q_s_row hv fun H locs ls cells slots Q k => lv_lshl cx.1 cx.2.1 hdg rfl k)
    next => cases hs
  next => cases hs
theorem q_s_i2l (cx : q_CX p s m args c S D cA cl nL own cc Ts) {len : Nat} (hlen : len = 1) (hdg : decode cc f.1 = .ok (.i2l, 1)) (hs : q_i2l q_O32 len f h ns = some (.inl (f', h', ns'))) : q_K p l e R s m args below meth c S b D cA cl nL f h ns f' h' ns' := by
  subst hlen
  unfold q_i2l at hs
  split at hs
  next y st hv =>
    split at hs
    next z hz =>
      have hz' : z = y.toInt64 := (Option.some.inj hz).symm
      subst hz'
      exact q_s_nx hs (q_s_row hv fun H locs ls cells slots Q k => lv_i2l cx.1 cx.2.1 hdg rfl k)
    next => cases hs
  next => cases hs
theorem q_s_lcmp (cx : q_CX p s m args c S D cA cl nL own cc Ts) {len : Nat} (hlen : len = 1) (hdg : decode cc f.1 = .ok (.lcmp, 1)) (hs : q_lcmp q_O32 len f h ns = some (.inl (f', h', ns'))) : q_K p l e R s m args below meth c S b D cA cl nL f h ns f' h' ns' := by
  subst hlen
  unfold q_lcmp at hs
  split at hs
  next y x st hv => exact q_s_nx hs (q_s_row hv fun H locs ls cells slots Q k => W.lcmp cx.1 cx.2.1 hdg k)
  next => cases hs
theorem q_s_tsw (cx : q_CX p s m args c S D cA cl nL own cc Ts) {dflt lo hi : Int} {offs : Array Int} {r : List Nat} {len : Nat} (hlo : (Int32.ofInt lo).toInt = lo) (hhi : (Int32.ofInt hi).toInt = hi) (hdg : decode cc f.1 = .ok (.tableswitch dflt lo hi offs, len)) (ht0 : ∀ tg : Nat, r[0]? = some tg → (f.1 : Int) + dflt = (tg : Int)) (ht : ∀ (j tg : Nat), r[j + 1]? = some tg → ∃ off, offs[j]? = some off ∧ (f.1 : Int) + off = (tg : Int)) (hs : q_tsw q_O32 lo hi r f h ns = some (.inl (f', h', ns'))) : q_K p l e R s m args below meth c S b D cA cl nL f h ns f' h' ns' := by
  unfold q_tsw at hs
  split at hs
  next x st hv =>
    split at hs
    next tg htg =>
      cases hs
      have e1 : q_O32.2.2.2.1 2 x (q_O32.1 (Int32.ofInt lo)) = some (decide (x < Int32.ofInt lo)) := rfl
      have e2 : q_O32.2.2.2.1 4 x (q_O32.1 (Int32.ofInt hi)) = some (decide (Int32.ofInt hi < x)) := rfl
      rw [e1, e2] at htg
      refine q_K.same (q_s_row hv fun H locs ls cells slots Q k => ?_)
      by_cases h1 : x < Int32.ofInt lo
      · rw [decide_eq_true h1] at htg
        exact lv_tableOut cx.1 cx.2.1 hdg (Or.inl (by rw [← hlo]; exact Int32.lt_iff_toInt_lt.mp h1)) (ht0 tg htg) k
      · rw [decide_eq_false h1] at htg
        have h1' : ¬ x.toInt < lo := fun q => h1 (Int32.lt_iff_toInt_lt.mpr (by rw [hlo]; exact q))
        by_cases h2 : Int32.ofInt hi < x
        · rw [decide_eq_true h2] at htg
          exact lv_tableOut cx.1 cx.2.1 hdg (Or.inr (by rw [← hhi]; exact Int32.lt_iff_toInt_lt.mp h2)) (ht0 tg htg) k
        · rw [decide_eq_false h2] at htg
          have h2' : ¬ hi < x.toInt := fun q => h2 (Int32.lt_iff_toInt_lt.mpr (by rw [hhi]; exact q))
          obtain ⟨off, ho, hto⟩ := ht _ tg htg
          exact lv_tableIn cx.1 cx.2.1 hdg h1' h2' ho hto k
    next => cases hs
  next => cases hs
theorem q_dfs_at (O : q_O Int32) : ∀ (ks : List Nat) (i j : Nat), q_at (q_dfs O i ks) (i + j) = (ks[j]?).map (q_df O)
  | [], _, _ => rfl
  | k :: ks, i, j => by
    show q_at ((i, q_df O k) :: q_dfs O (i + 1) ks) (i + j) = _
    rw [q_at_cons]
    rcases j with _ | j
    · simp
    · rw [if_neg (by omega), show i + (j + 1) = (i + 1) + j by omega, q_dfs_at O ks (i + 1) j]
      simp
theorem q_df_ok {ty : FieldType} (hk : q_kd ty < 4) : defaultValue ty = q_ren S b (q_df q_O32 (q_kd ty)) := by
  cases ty <;> simp [q_kd] at hk <;> rfl
theorem q_s_new (cx : q_CX p s m args c S D cA cl nL own cc Ts) {ci idx len : Nat} {ks : List Nat} {C : String} {T : u_T} {N : Nat} {ty0 : Nat → FieldType} (hlen : len = 3) (hci : ci < 100) (hc : cl[ci]? = some (C, T, N)) (hcw : ∀ w ∈ u_ws C T N, w ∈ Ts) (hty : ∀ k, k < N → parseFieldDescriptor (T k).2.2.1 = some (ty0 k)) (hks : ks.length = N) (hkd : ∀ j, j < N → ks[j]? = some (q_kd (ty0 j)) ∧ q_kd (ty0 j) < 4) (hlk : Cond.classLink own idx C ∈ Ts ∧ Cond.instantiable C N ∈ Ts ∧ Cond.initialized C ∈ Ts) (hdg : decode cc f.1 = .ok (.new idx, 3)) (hs : q_new q_O32 (ci :: ks) len f h ns = some (.inl (f', h', ns'))) : q_K p l e R s m args below meth c S b D cA cl nL f h ns f' h' ns' := by
  subst hlen
  subst hks
  have hs : q_nx 3 f (.inr (.inr (h.length + 2)) :: f.2.2) (h ++ [(ci, ks.length, q_dfs q_O32 0 ks)]) (ns + ks.length) = some (.inl (f', h', ns')) := hs
  cases hs
  refine ⟨by simp, by omega, fun cells slots Q hcz hr1 hr2 g H locs ls hz hP hS hl => ?_⟩
  have hl1 : (h ++ [(ci, ks.length, q_dfs q_O32 0 ks)]).length - h.length = 1 := by simp
  have hl2 : ns + ks.length - ns = ks.length := by omega
  rw [hl1] at hr1 g
  rw [hl2] at hr2 g
  obtain ⟨hx, hb, -, hown, hts, hK, hS0⟩ := cx
  have hKn := hK.1 ci _ hc
  refine W.newcK hx hb hown (hts _ hlk.1) (hts _ hlk.2.1) (hts _ hlk.2.2) rfl hdg hr1 hr2 hKn.2.1 hz fun H1 kC hkC e1 z1 o1 => ?_
  have hk : ∀ (k : Nat) (x : Nat × va_E), (q_ws S b cA h)[k]? = some x → H1[x.1]? = H[x.1]? := fun k x hx => o1 x.1 (by rw [← hz]; exact (hP k x hx).lt)
  have hP1 : va_P D cl (q_ws S b cA (h ++ [(ci, ks.length, q_dfs q_O32 0 ks)])) H1 := by
    rw [q_ws_app]
    refine (hP.kept hk).app (fun k x hx => ?_)
    have hz : k < 1 := (List.getElem?_eq_some_iff.mp hx).1
    rw [show k = 0 by omega] at hx
    cases hx
    show va_at D cl (S + h.length, q_e S b cA (ci, ks.length, q_dfs q_O32 0 ks)) H1
    rw [show q_e S b cA (ci, ks.length, q_dfs q_O32 0 ks) = .inr (ci, q_fs S b (q_dfs q_O32 0 ks) ks.length) by unfold q_e; rw [if_pos hci]]
    refine ⟨_, hc, (u_born ty0 hts hcw hKn hkC e1 hty).to fun j hj => ?_⟩
    obtain ⟨h1, h2⟩ := hkd j hj
    have h3 : q_at (q_dfs q_O32 0 ks) j = some (q_df q_O32 (q_kd (ty0 j))) := by
      have := q_dfs_at q_O32 ks 0 j
      rw [Nat.zero_add] at this
      rw [this, h1]
      rfl
    have h4 := q_fs_at (S := S) (b := b) hj h3
    show defaultValue (ty0 j) = (q_fs S b (q_dfs q_O32 0 ks) ks.length).getD j .null
    rw [List.getD_eq_getElem?_getD, h4]
    exact q_df_ok h2
  have hS1 : va_S (fun q => S ≤ q) s.heap H1 locs := ⟨Nat.le_trans hS.1 (by omega), fun x h1 h2 => (o1 x (by rw [← hz]; exact Nat.lt_of_lt_of_le h1 hS.1)).trans (hS.2.1 x h1 h2), hS.2.2⟩
  exact g H1 locs ls (by rw [z1]; simp; omega) hP1 hS1 hl
def q_tg : ArrayType → Nat
  | .boolean => 102
  | .byte => 101
  | .int => 100
  | .long => 103
  | _ => 0
theorem q_s_newa (cx : q_CX p s m args c S D cA cl nL own cc Ts) {at0 : ArrayType} {tag len : Nat} (hlen : len = 2) (htag : q_tg at0 = tag) (h0 : tag ≠ 0) (hlk : Cond.arrayClass (newarray.typeOf at0) ∈ Ts) (hdg : decode cc f.1 = .ok (.newarray at0, 2)) (hs : q_newa q_O32 [tag] len f h ns = some (.inl (f', h', ns'))) : q_K p l e R s m args below meth c S b D cA cl nL f h ns f' h' ns' := by
  subst hlen
  unfold q_newa at hs
  split at hs
  next tag' n st he hv =>
    cases he
    split at hs
    next N hN =>
      cases hb : Nat.blt N 65536 with
      | false => rw [hb] at hs; cases hs
      | true =>
        rw [hb, cond_true] at hs
        cases hs
        have hN2 := q_blt hb
        obtain ⟨hn0, hnN⟩ := q_ix_spec hN
        refine ⟨by simp, by omega, fun cells slots Q hcz hr1 hr2 g H locs ls hz hP hS hl => ?_⟩
        have hl1 : (h ++ [(tag, N, ([] : q_U Int32))]).length - h.length = 1 := by simp
        have hl2 : ns + N - ns = N := by omega
        rw [hl1] at hr1 g
        rw [hl2] at hr2 g
        obtain ⟨hx, hcb, -, hown, hts, hK, hS0⟩ := cx
        rw [hv]
        refine va_newaK hx hcb (hts _ hlk) rfl hdg rfl hn0 hnN ?_ hr1 hr2 hz fun H1 cA' e1 z1 o1 hAr hNm => ?_
        · cases at0 <;> simp [q_tg] at htag <;> first | omega | (simp [newarray.typeOf, componentBytes]; omega)
        have hk : ∀ (k : Nat) (x : Nat × va_E), (q_ws S b cA h)[k]? = some x → H1[x.1]? = H[x.1]? := fun k x hx => o1 x.1 (by rw [← hz]; exact (hP k x hx).lt)
        have hP1 : va_P D cl (q_ws S b cA (h ++ [(tag, N, ([] : q_U Int32))])) H1 := by
          rw [q_ws_app]
          refine (hP.kept hk).app (fun k x hx => ?_)
          have hz : k < 1 := (List.getElem?_eq_some_iff.mp hx).1
          rw [show k = 0 by omega] at hx
          cases hx
          show va_at D cl (S + h.length, q_e S b cA (tag, N, [])) H1
          cases at0 <;> simp [q_tg] at htag <;> first | omega | skip
          · have e2 : cA' = cA 102 := Option.some.inj (hNm.symm.trans (hK.2 2 _ rfl).2)
            subst htag; subst e2
            rw [q_e_int (Or.inr (Or.inr rfl))]
            exact e1
          · have e2 : cA' = cA 101 := Option.some.inj (hNm.symm.trans (hK.2 1 _ rfl).2)
            subst htag; subst e2
            rw [q_e_int (Or.inr (Or.inl rfl))]
            exact e1
          · have e2 : cA' = cA 100 := Option.some.inj (hNm.symm.trans (hK.2 0 _ rfl).2)
            subst htag; subst e2
            rw [q_e_int (Or.inl rfl)]
            exact e1
          · have e2 : cA' = cA 103 := Option.some.inj (hNm.symm.trans (hK.2 3 _ rfl).2)
            subst htag; subst e2
            rw [q_e_long rfl]
            exact e1
        have hS1 : va_S (fun q => S ≤ q) s.heap H1 locs := ⟨Nat.le_trans hS.1 (by omega), fun x h1 h2 => (o1 x (by rw [← hz]; exact Nat.lt_of_lt_of_le h1 hS.1)).trans (hS.2.1 x h1 h2), hS.2.2⟩
        exact g H1 locs ls (by rw [z1]; simp; omega) hP1 hS1 hl
    next => cases hs
  next => cases hs
theorem q_cpy_at (O : q_O Int32) (q : q_C Int32) (t N sp dp : Nat) (u : q_U Int32) (k : Nat) : ∀ n, q_el O (t, N, q_cpy O q sp dp n u) k = if dp ≤ k ∧ k < dp + n then q_el O q (sp + (k - dp)) else q_el O (t, N, u) k
  | 0 => by
    rw [if_neg (by omega)]
    rfl
  | n + 1 => by
    show q_el O (t, N, (dp + n, q_el O q (sp + n)) :: q_cpy O q sp dp n u) k = _
    rw [q_el_cons, q_cpy_at O q t N sp dp u k n]
    by_cases h1 : dp + n = k
    · rw [if_pos h1, if_pos (by omega), show k - dp = n by omega]
    · rw [if_neg h1]
      by_cases h2 : dp ≤ k ∧ k < dp + n
      · rw [if_pos h2, if_pos (by omega)]
      · rw [if_neg h2, if_neg (by omega)]
theorem q_s_acpy (cx : q_CX p s m args c S D cA cl nL own cc Ts) {idx len : Nat} (hlen : len = 3) (hR : 1 ≤ R.frames ∧ 60 ≤ R.locals) (hlk : Cond.methodLink own idx arraycopyName ∈ Ts ∧ Cond.native arraycopyName ∈ Ts ∧ Cond.static arraycopyName ∈ Ts ∧ Cond.initialized "java/lang/System" ∈ Ts) (hdg : decode cc f.1 = .ok (.invokestatic idx, 3)) (hs : q_acpy q_O32 len f h ns = some (.inl (f', h', ns'))) : q_K p l e R s m args below meth c S b D cA cl nL f h ns f' h' ns' := by
  subst hlen
  unfold q_acpy at hs
  split at hs
  next n dp d sp o st hv =>
    split at hs
    next qs qd n' dp' sp' hqs hqd hn hdp hsp =>
      cases hb : Nat.beq qs.1 100 && (Nat.beq qd.1 100 && (Nat.ble (sp' + n') qs.2.1 && (Nat.ble (dp' + n') qd.2.1 && Nat.ble (q_cats st) 8))) with
      | false => rw [hb] at hs; cases hs
      | true =>
        rw [hb, cond_true] at hs
        simp only [Bool.and_eq_true] at hb
        obtain ⟨b1, b2, b3, b4, b5⟩ := hb
        cases hs
        obtain ⟨n0, n1⟩ := q_ix_spec hn
        obtain ⟨d0, d1⟩ := q_ix_spec hdp
        obtain ⟨s0, s1⟩ := q_ix_spec hsp
        refine ⟨by rw [List.length_set]; exact Nat.le_refl _, Nat.le_refl _, fun cells slots Q hcz _ _ g H locs ls hz hP hS hl => ?_⟩
        have e1 : qs.1 = 100 := q_beq b1
        have e2 : qd.1 = 100 := q_beq b2
        have hw1 := q_ws_at (S := S) (b := b) (cA := cA) hqs
        have hw2 := q_ws_at (S := S) (b := b) (cA := cA) hqd
        rw [q_e_int (Or.inl e1)] at hw1
        rw [q_e_int (Or.inl e2)] at hw2
        have e3 : q_e S b cA (qd.1, qd.2.1, q_cpy q_O32 qs sp' dp' n' qd.2.2) = .inl (cA qd.1, qd.2.1, .inl (va_cpy (fun j => q_in (q_el q_O32 qs j)) (fun j => q_in (q_el q_O32 qd j)) sp' dp' n')) := by
          obtain ⟨t, N, u⟩ := qd
          have hfun : (fun k => q_in (q_el q_O32 (t, N, q_cpy q_O32 qs sp' dp' n' u) k)) = va_cpy (fun j => q_in (q_el q_O32 qs j)) (fun j => q_in (q_el q_O32 (t, N, u) j)) sp' dp' n' := by
            funext k
            rw [q_cpy_at]
            unfold va_cpy
            by_cases hk : dp' ≤ k ∧ k < dp' + n'
            · rw [if_pos hk, if_pos hk]
            · rw [if_neg hk, if_neg hk]
          rw [q_e_int (q := (t, N, q_cpy q_O32 qs sp' dp' n' u)) (Or.inl e2)]
          simp only [hfun]
        rw [hv]
        refine va_copyi (ty := .int) cx.1 cx.2.1 (cx.2.2.1.trans hl.1.symm) cx.2.2.2.1 (cx.2.2.2.2.1 _ hlk.1) (cx.2.2.2.2.1 _ hlk.2.1) (cx.2.2.2.2.1 _ hlk.2.2.1) (cx.2.2.2.2.1 _ hlk.2.2.2) cx.2.2.2.2.2.1 hP (q_ws_D S b cA h) hS o d 0 0 hw1 hw2 (by rw [e1]; rfl) (by rw [e2]; rfl) rfl s0 d0 n0 (by rw [s1, n1]; exact Nat.le_of_ble_eq_true b3) (by rw [d1, n1]; exact Nat.le_of_ble_eq_true b4) (fun _ _ => rfl) hR.1 ?_ hdg ?_
        · rw [q_cats_map]
          have h1 := Nat.le_of_ble_eq_true b5
          have h2 : nativeFrameWords "java/lang/System" "arraycopy" 5 = 7 := by decide
          have h3 := hR.2
          omega
        · intro H1 locs1 hP1 _ hS1
          rw [s1, d1, n1, ← e3, ← q_ws_set] at hP1
          refine q_sz hP1 hS1 cx.2.2.2.2.2.2.1 (by rw [List.length_set]; exact hcz) fun hz1 => ?_
          have g1 := g H1 locs1 ls hz1 hP1 hS1 hl
          simp only [List.length_set, Nat.sub_self, Nat.add_zero] at g1
          exact g1
    next => cases hs
  next => cases hs
theorem q_s_obj (cx : q_CX p s m args c S D cA cl nL own cc Ts) {idx len : Nat} (hlen : len = 3) (hR : 1 ≤ R.frames ∧ 60 ≤ R.locals) (hlk : Cond.methodLink own idx objectInit ∈ Ts ∧ Cond.instanceMethod objectInit ∈ Ts ∧ Cond.code objectInit ⟨#[0xb1]⟩ 1 none ∈ Ts) (hdg : decode cc f.1 = .ok (.invokespecial idx, 3)) (hs : q_obj len f h ns = some (.inl (f', h', ns'))) : q_K p l e R s m args below meth c S b D cA cl nL f h ns f' h' ns' := by
  subst hlen
  unfold q_obj at hs
  split at hs
  next o st hv =>
    cases hb : Nat.ble (q_cats st) 8 with
    | false => rw [hb] at hs; cases hs
    | true =>
      rw [hb, cond_true] at hs
      refine q_s_nx hs fun cells slots Q g H locs ls hz hP hS hl => ?_
      rw [hv]
      exact W.objInit cx.1 cx.2.1 cx.2.2.2.1 (cx.2.2.2.2.1 _ hlk.1) (cx.2.2.2.2.1 _ hlk.2.1) (cx.2.2.2.2.1 _ hlk.2.2) rfl (hl.1.trans cx.2.2.1.symm) rfl hdg hR.1 (Nat.le_trans (Nat.add_le_add_right (lv_room (by rw [q_cats_map]; exact Nat.le_of_ble_eq_true hb)) 12) (by have h2 := hR.2; omega)) (g H locs ls hz hP hS hl)
  next => cases hs
theorem q_s_abs (cx : q_CX p s m args c S D cA cl nL own cc Ts) {idx len : Nat} (hlen : len = 3) (hR : 1 ≤ R.frames ∧ 60 ≤ R.locals) (hlk : Cond.methodLink own idx Lib.Math.abs.name ∈ Ts ∧ Cond.static Lib.Math.abs.name ∈ Ts ∧ Cond.initialized "java/lang/Math" ∈ Ts ∧ Cond.code Lib.Math.abs.name Lib.Math.abs.code 1 (some .int) ∈ Ts) (hdg : decode cc f.1 = .ok (.invokestatic idx, 3)) (hs : q_abs q_O32 len f h ns = some (.inl (f', h', ns'))) : q_K p l e R s m args below meth c S b D cA cl nL f h ns f' h' ns' := by
  subst hlen
  unfold q_abs at hs
  split at hs
  next x st hv =>
    cases hb : Nat.ble (q_cats st) 8 with
    | false => rw [hb] at hs; cases hs
    | true =>
      rw [hb, cond_true] at hs
      cases hs
      refine ⟨Nat.le_refl _, Nat.le_refl _, fun cells slots Q hcz hr1 hr2 g H locs ls hz hP hS hl => ?_⟩
      rw [Nat.sub_self, Nat.add_zero] at hr1 hr2
      rw [Nat.sub_self, Nat.sub_self, Nat.add_zero, Nat.add_zero] at g
      rw [hv]
      have hc8 := Nat.le_of_ble_eq_true hb
      have hts := cx.2.2.2.2.1
      exact va_mabs cx.1 cx.2.1 (cx.2.2.1.trans hl.1.symm) cx.2.2.2.1 (hts _ hlk.1) (hts _ hlk.2.1) (hts _ hlk.2.2.1) (hts _ hlk.2.2.2) hR.1 (by rw [q_cats_map]; have h2 := hR.2; omega) hr1 hr2 hdg (g H locs ls hz hP hS hl)
  next => cases hs
theorem q_s_max (cx : q_CX p s m args c S D cA cl nL own cc Ts) {idx len : Nat} (hlen : len = 3) (hR : 1 ≤ R.frames ∧ 60 ≤ R.locals) (hlk : Cond.methodLink own idx Lib.Math.max.name ∈ Ts ∧ Cond.static Lib.Math.max.name ∈ Ts ∧ Cond.initialized "java/lang/Math" ∈ Ts ∧ Cond.code Lib.Math.max.name Lib.Math.max.code 2 (some .int) ∈ Ts) (hdg : decode cc f.1 = .ok (.invokestatic idx, 3)) (hs : q_mm q_O32 11 len f h ns = some (.inl (f', h', ns'))) : q_K p l e R s m args below meth c S b D cA cl nL f h ns f' h' ns' := by
  subst hlen
  unfold q_mm at hs
  split at hs
  next y x st hv =>
    cases hb : Nat.ble (q_cats st) 8 with
    | false => rw [hb] at hs; cases hs
    | true =>
      rw [hb, cond_true] at hs
      cases hs
      refine ⟨Nat.le_refl _, Nat.le_refl _, fun cells slots Q hcz hr1 hr2 g H locs ls hz hP hS hl => ?_⟩
      rw [Nat.sub_self, Nat.add_zero] at hr1 hr2
      rw [Nat.sub_self, Nat.sub_self, Nat.add_zero, Nat.add_zero] at g
      rw [hv]
      have hc8 := Nat.le_of_ble_eq_true hb
      have hts := cx.2.2.2.2.1
      exact va_mmax cx.1 cx.2.1 (cx.2.2.1.trans hl.1.symm) cx.2.2.2.1 (hts _ hlk.1) (hts _ hlk.2.1) (hts _ hlk.2.2.1) (hts _ hlk.2.2.2) hR.1 (by rw [q_cats_map]; have h2 := hR.2; omega) hr1 hr2 hdg (g H locs ls hz hP hS hl)
  next => cases hs
theorem q_s_min (cx : q_CX p s m args c S D cA cl nL own cc Ts) {idx len : Nat} (hlen : len = 3) (hR : 1 ≤ R.frames ∧ 60 ≤ R.locals) (hlk : Cond.methodLink own idx Lib.Math.min.name ∈ Ts ∧ Cond.static Lib.Math.min.name ∈ Ts ∧ Cond.initialized "java/lang/Math" ∈ Ts ∧ Cond.code Lib.Math.min.name Lib.Math.min.code 2 (some .int) ∈ Ts) (hdg : decode cc f.1 = .ok (.invokestatic idx, 3)) (hs : q_mm q_O32 12 len f h ns = some (.inl (f', h', ns'))) : q_K p l e R s m args below meth c S b D cA cl nL f h ns f' h' ns' := by
  subst hlen
  unfold q_mm at hs
  split at hs
  next y x st hv =>
    cases hb : Nat.ble (q_cats st) 8 with
    | false => rw [hb] at hs; cases hs
    | true =>
      rw [hb, cond_true] at hs
      cases hs
      refine ⟨Nat.le_refl _, Nat.le_refl _, fun cells slots Q hcz hr1 hr2 g H locs ls hz hP hS hl => ?_⟩
      rw [Nat.sub_self, Nat.add_zero] at hr1 hr2
      rw [Nat.sub_self, Nat.sub_self, Nat.add_zero, Nat.add_zero] at g
      rw [hv]
      have hc8 := Nat.le_of_ble_eq_true hb
      have hts := cx.2.2.2.2.1
      exact va_mmin cx.1 cx.2.1 (cx.2.2.1.trans hl.1.symm) cx.2.2.2.1 (hts _ hlk.1) (hts _ hlk.2.1) (hts _ hlk.2.2.1) (hts _ hlk.2.2.2) hR.1 (by rw [q_cats_map]; have h2 := hR.2; omega) hr1 hr2 hdg (g H locs ls hz hP hS hl)
  next => cases hs
theorem q_s_lsw (cx : q_CX p s m args c S D cA cl nL own cc Ts) {d : Int} {ps : Array (Int × Int)} {len : Nat} (hp : (ps.toList.zip (ps.toList.drop 1)).all (fun (a, next) => a.1 < next.1) = true) (hdg : decode cc f.1 = .ok (.lookupswitch d ps, len)) (hs : q_lsw q_O32 d ps.toList f h ns = some (.inl (f', h', ns'))) : q_K p l e R s m args below meth c S b D cA cl nL f h ns f' h' ns' := by
  unfold q_lsw at hs
  split at hs
  next x st hv =>
    have e1 : q_O32.2.2.2.2.2.2.1 x = some x.toInt := rfl
    rw [e1] at hs
    simp only at hs
    by_cases h0 : 0 ≤ (f.1 : Int) + Op.lookupswitch.offset ps.toList d x.toInt
    · rw [if_pos h0] at hs
      cases hs
      exact q_K.same (q_s_row hv fun H locs ls cells slots Q k => lv_lookup cx.1 cx.2.1 hdg hp rfl (by omega) k)
    · rw [if_neg h0] at hs
      cases hs
  next => cases hs
end QS3
