section QUICK4
variable {I P : Type}
theorem q_f_st_ok (t i len : Nat) : q_yok (q_f_st (I := I) (P := P) t i len) (fun _ _ _ f h ns => q_st t i len f h ns) := q_f_fr_ok (n := fun _ f => q_fo (q_st t i len f [] 0)) (fun O scr cal f f' h ns hh => q_fr_st hh)
theorem q_f_iinc_ok (i : Nat) (n : Int) (len : Nat) : q_yok (q_f_iinc (I := I) (P := P) i n len) (fun O _ _ f h ns => q_iinc O i n len f h ns) := q_f_fr_ok (n := fun O f => q_fo (q_iinc O i n len f [] 0)) (fun O scr cal f f' h ns hh => q_fr_iinc hh)
theorem q_f_b1_ok (j len : Nat) : q_yok (q_f_b1 (I := I) (P := P) j len) (fun O _ _ f h ns => q_b1 O j len f h ns) := q_f_fr_ok (n := fun O f => q_fo (q_b1 O j len f [] 0)) (fun O scr cal f f' h ns hh => q_fr_b1 hh)
theorem q_f_i2l_ok (len : Nat) : q_yok (q_f_i2l (I := I) (P := P) len) (fun O _ _ f h ns => q_i2l O len f h ns) := q_f_fr_ok (n := fun O f => q_fo (q_i2l O len f [] 0)) (fun O scr cal f f' h ns hh => q_fr_i2l hh)
theorem q_f_l2_ok (j len : Nat) : q_yok (q_f_l2 (I := I) (P := P) j len) (fun _ _ _ f h ns => q_l2 j len f h ns) := q_f_fr_ok (n := fun _ f => q_fo (q_l2 j len f [] 0)) (fun O scr cal f f' h ns hh => q_fr_l2 hh)
theorem q_f_lshl_ok (len : Nat) : q_yok (q_f_lshl (I := I) (P := P) len) (fun O _ _ f h ns => q_lshl O len f h ns) := q_f_fr_ok (n := fun O f => q_fo (q_lshl O len f [] 0)) (fun O scr cal f f' h ns hh => q_fr_lshl hh)
theorem q_f_lcmp_ok (len : Nat) : q_yok (q_f_lcmp (I := I) (P := P) len) (fun O _ _ f h ns => q_lcmp O len f h ns) := q_f_fr_ok (n := fun O f => q_fo (q_lcmp O len f [] 0)) (fun O scr cal f f' h ns hh => q_fr_lcmp hh)
theorem q_f_dup_ok (len : Nat) : q_yok (q_f_dup (I := I) (P := P) len) (fun _ _ _ f h ns => q_dup len f h ns) := q_f_fr_ok (n := fun _ f => q_fo (q_dup len f [] 0)) (fun O scr cal f f' h ns hh => q_fr_dup hh)
theorem q_f_dup2_ok (len : Nat) : q_yok (q_f_dup2 (I := I) (P := P) len) (fun _ _ _ f h ns => q_dup2 len f h ns) := q_f_fr_ok (n := fun _ f => q_fo (q_dup2 len f [] 0)) (fun O scr cal f f' h ns hh => q_fr_dup2 hh)
theorem q_f_pop_ok (len : Nat) : q_yok (q_f_pop (I := I) (P := P) len) (fun _ _ _ f h ns => q_pop len f h ns) := q_f_fr_ok (n := fun _ f => q_fo (q_pop len f [] 0)) (fun O scr cal f f' h ns hh => q_fr_pop hh)
theorem q_f_tsw_ok (lo hi : Int) (r : List Nat) : q_yok (q_f_tsw (I := I) (P := P) lo hi r) (fun O _ _ f h ns => q_tsw O lo hi r f h ns) := q_f_fr_ok (n := fun O f => q_fo (q_tsw O lo hi r f [] 0)) (fun O scr cal f f' h ns hh => q_fr_tsw hh)
theorem q_f_obj_ok (len : Nat) : q_yok (q_f_obj (I := I) (P := P) len) (fun _ _ _ f h ns => q_obj len f h ns) := q_f_fr_ok (n := fun _ f => q_fo (q_obj len f [] 0)) (fun O scr cal f f' h ns hh => q_fr_obj hh)
theorem q_f_abs_ok (len : Nat) : q_yok (q_f_abs (I := I) (P := P) len) (fun O _ _ f h ns => q_abs O len f h ns) := q_f_fr_ok (n := fun O f => q_fo (q_abs O len f [] 0)) (fun O scr cal f f' h ns hh => q_fr_abs hh)
theorem q_y_ok (q : q_I) : q_yok (q_y (I := I) (P := P) q) (q_z q) := by
  obtain ⟨ins, len, r⟩ := q
  cases ins with
  | aload_n k => exact q_f_ld_ok 1 k.val len
  | iload_n k => exact q_f_ld_ok 0 k.val len
  | lload_n k => exact q_f_ld_ok 2 k.val len
  | aload i => exact q_f_ld_ok 1 i len
  | iload i => exact q_f_ld_ok 0 i len
  | lload i => exact q_f_ld_ok 2 i len
  | astore_n k => exact q_f_st_ok 1 k.val len
  | istore_n k => exact q_f_st_ok 0 k.val len
  | lstore_n k => exact q_f_st_ok 2 k.val len
  | astore i => exact q_f_st_ok 1 i len
  | istore i => exact q_f_st_ok 0 i len
  | lstore i => exact q_f_st_ok 2 i len
  | iinc i n => exact q_f_iinc_ok i n len
  | iconst n => exact q_f_k_ok (Int32.ofInt n) len
  | bipush n => exact q_f_k_ok (Int8.ofInt n).toInt32 len
  | sipush n => exact q_f_k_ok (Int16.ofInt n).toInt32 len
  | lconst n => exact q_f_lk_ok (Int64.ofNat n.val) len
  | ldc i =>
    rcases r with _ | ⟨v, _ | _⟩
    · exact q_f_no_ok _
    · exact q_f_k_ok (Int32.ofNat v) len
    · exact q_f_no_ok _
  | ldc_w i =>
    rcases r with _ | ⟨v, _ | _⟩
    · exact q_f_no_ok _
    · exact q_f_k_ok (Int32.ofNat v) len
    · exact q_f_no_ok _
  | ldc2_w i =>
    rcases r with _ | ⟨v, _ | _⟩
    · exact q_f_no_ok _
    · exact q_f_lk_ok (Int64.ofNat v) len
    · exact q_f_no_ok _
  | iadd => exact q_f_b2_ok 0 len
  | isub => exact q_f_b2_ok 1 len
  | imul => exact q_f_b2_ok 2 len
  | iand => exact q_f_b2_ok 3 len
  | ior => exact q_f_b2_ok 4 len
  | ixor => exact q_f_b2_ok 5 len
  | ishl => exact q_f_b2_ok 6 len
  | ishr => exact q_f_b2_ok 7 len
  | iushr => exact q_f_b2_ok 8 len
  | idiv => exact q_f_b2_ok 9 len
  | irem => exact q_f_b2_ok 10 len
  | ineg => exact q_f_b1_ok 0 len
  | i2b => exact q_f_b1_ok 1 len
  | i2c => exact q_f_b1_ok 2 len
  | i2l => exact q_f_i2l_ok len
  | ladd => exact q_f_l2_ok 0 len
  | lmul => exact q_f_l2_ok 1 len
  | lor => exact q_f_l2_ok 2 len
  | lshl => exact q_f_lshl_ok len
  | lcmp => exact q_f_lcmp_ok len
  | dup => exact q_f_dup_ok len
  | dup2 => exact q_f_dup2_ok len
  | pop => exact q_f_pop_ok len
  | ifCond cd off => exact q_f_if_ok (q_cn cd) r len
  | if_icmp cd off => exact q_f_ic_ok (q_cn cd) r len
  | goto off =>
    rcases r with _ | ⟨tg, _ | _⟩
    · exact q_f_no_ok _
    · exact q_f_goto_ok tg
    · exact q_f_no_ok _
  | tableswitch dflt lo hi offs => exact q_f_tsw_ok lo hi r
  | getfield i => exact q_f_getf_ok r len
  | putfield i => exact q_f_putf_ok r len
  | iaload => exact q_f_ald_ok 100 0 len
  | baload => exact q_f_ald_ok 101 0 len
  | laload => exact q_f_ald_ok 103 2 len
  | iastore => exact q_f_ast_ok 100 len
  | bastore => exact q_f_ast_ok 101 len
  | lastore => exact q_f_ast_ok 103 len
  | arraylength => exact q_f_alen_ok len
  | new i => exact q_f_new_ok r len
  | newarray a => exact q_f_newa_ok r len
  | invokevirtual i => exact q_f_inv_ok 1 r len
  | invokestatic i =>
    rcases r with _ | ⟨v, r⟩
    · exact q_f_acpy_ok len
    rcases r with _ | ⟨w, r⟩
    · exact q_f_abs_ok len
    · exact q_f_inv_ok 0 (v :: w :: r) len
  | invokespecial i =>
    rcases r with _ | ⟨v, r⟩
    · exact q_f_obj_ok len
    · exact q_f_inv_ok 2 (v :: r) len
  | ireturn => exact q_f_iret_ok r
  | lreturn => exact q_f_lret_ok
  | return_ => exact q_f_ret_ok
  | _ => exact q_f_no_ok _
theorem q_fetch_yt (t : q_T) (pc : Nat) : q_fetch (q_yt (I := I) (P := P) t) pc = (q_get t pc).map q_y := by
  unfold q_fetch q_get q_yt
  rw [q_hget_eq, List.getElem?_map]
  cases t[pc / 16]? with
  | none => rfl
  | some r => simp only [Option.map_some, q_hget_eq, List.getElem?_map]
theorem q_frun_cal {O : q_O I} {ts : List q_T} {n : Nat} (ih : ∀ (d : Nat) (t : q_T) (pc : Nat) (ls : q_U I) (st : List (q_V I)) (F : q_Hf I) (h : q_H I) (ns : Nat) (v : Option (q_V I)) (F' : q_Hf I) (ns' : Nat), q_rh F h → q_frun O (ts.map q_yt) n d (q_yt t) pc ls st F ns = some (v, F', ns') → ∃ h', q_exec O ts n d t (pc, ls, st) h ns = some (v, h', ns') ∧ q_rh F' h') (d : Nat) : q_rcal (q_fcal (ts.map q_yt) (q_frun O (ts.map q_yt) n) d) (q_call O ts n d) := by
  intro k a F h ns v F' ns' H hc
  unfold q_fcal at hc
  unfold q_call
  cases d with
  | zero => cases hc
  | succ d =>
    simp only [q_hget_eq, List.getElem?_map] at hc ⊢
    cases hk : ts[k]? with
    | none => rw [hk] at hc; cases hc
    | some t =>
      rw [hk] at hc
      exact ih d t 0 _ [] F h ns v F' ns' H hc
theorem q_frun_ok (O : q_O I) (ts : List q_T) : ∀ (n d : Nat) (t : q_T) (pc : Nat) (ls : q_U I) (st : List (q_V I)) (F : q_Hf I) (h : q_H I) (ns : Nat) (v : Option (q_V I)) (F' : q_Hf I) (ns' : Nat), q_rh F h → q_frun O (ts.map q_yt) n d (q_yt t) pc ls st F ns = some (v, F', ns') → ∃ h', q_exec O ts n d t (pc, ls, st) h ns = some (v, h', ns') ∧ q_rh F' h' := by
  intro n
  induction n with
  | zero => intro d t pc ls st F h ns v F' ns' H hs; cases hs
  | succ n ih =>
    intro d t pc ls st F h ns v F' ns' H hs
    replace hs : (match q_fetch (q_yt t) pc with
      | some y => y O none (q_fcal (ts.map q_yt) (q_frun O (ts.map q_yt) n) d) some (q_frun O (ts.map q_yt) n d (q_yt t)) pc ls st F ns
      | none => none) = some (v, F', ns') := hs
    rw [q_fetch_yt] at hs
    rw [q_exec_succ]
    unfold q_step
    cases hq : q_get t pc with
    | none => rw [hq] at hs; cases hs
    | some q =>
      rw [hq] at hs
      replace hs : q_y q O none (q_fcal (ts.map q_yt) (q_frun O (ts.map q_yt) n) d) some (q_frun O (ts.map q_yt) n d (q_yt t)) pc ls st F ns = some (v, F', ns') := hs
      rcases q_y_ok q O none _ (q_call O ts n d) some _ pc ls st F h ns _ H (q_frun_cal ih d) hs with ⟨pc1, ls1, st1, F1, h1, n1, hz, H1, hk⟩ | ⟨v1, F1, h1, n1, hz, H1, hk⟩
      · obtain ⟨h2, e2, H2⟩ := ih d t pc1 ls1 st1 F1 h1 n1 v F' ns' H1 hk
        refine ⟨h2, ?_, H2⟩
        show (match q_act O none (q_call O ts n d) q.1 q.2.1 q.2.2 (pc, ls, st) h ns with
          | some (.inl s) => q_exec O ts n d t s.1 s.2.1 s.2.2
          | some (.inr r) => some r
          | none => none) = _
        have hz2 : q_act O none (q_call O ts n d) q.1 q.2.1 q.2.2 (pc, ls, st) h ns = some (.inl ((pc1, ls1, st1), h1, n1)) := hz
        rw [hz2]
        exact e2
      · cases hk
        refine ⟨h1, ?_, H1⟩
        show (match q_act O none (q_call O ts n d) q.1 q.2.1 q.2.2 (pc, ls, st) h ns with
          | some (.inl s) => q_exec O ts n d t s.1 s.2.1 s.2.2
          | some (.inr r) => some r
          | none => none) = _
        have hz2 : q_act O none (q_call O ts n d) q.1 q.2.1 q.2.2 (pc, ls, st) h ns = some (.inr (v, h1, ns')) := hz
        rw [hz2]
theorem q_ftill_ok (O : q_O I) (scr : Option (List I)) (ts : List q_T) (n d : Nat) (t : q_T) (pe : Nat) : ∀ (j pc : Nat) (ls : q_U I) (st : List (q_V I)) (F : q_Hf I) (h : q_H I) (ns : Nat) (pc' : Nat) (ls' : q_U I) (st' : List (q_V I)) (F' : q_Hf I) (ns' : Nat), q_rh F h → q_ftill O scr (ts.map q_yt) n d (q_yt t) pe j pc ls st F ns = some (pc', ls', st', F', ns') → pc' = pe ∧ ∃ i h', q_iter O scr ts n d t i ((pc, ls, st), h, ns) = some ((pc', ls', st'), h', ns') ∧ q_rh F' h' := by
  intro j
  induction j with
  | zero => intro pc ls st F h ns pc' ls' st' F' ns' H hs; cases hs
  | succ j ih =>
    intro pc ls st F h ns pc' ls' st' F' ns' H hs
    replace hs : (bif Nat.beq pc pe then some (pc, ls, st, F, ns) else match q_fetch (q_yt t) pc with
      | some y => y O scr (q_fcal (ts.map q_yt) (q_frun O (ts.map q_yt) n) d) (fun _ => none) (q_ftill O scr (ts.map q_yt) n d (q_yt t) pe j) pc ls st F ns
      | none => none) = some (pc', ls', st', F', ns') := hs
    cases hb : Nat.beq pc pe with
    | true =>
      rw [hb, cond_true] at hs
      cases hs
      exact ⟨q_beq hb, 0, h, rfl, H⟩
    | false =>
      rw [hb, cond_false, q_fetch_yt] at hs
      cases hq : q_get t pc with
      | none => rw [hq] at hs; cases hs
      | some q =>
        rw [hq] at hs
        replace hs : q_y q O scr (q_fcal (ts.map q_yt) (q_frun O (ts.map q_yt) n) d) (fun _ => none) (q_ftill O scr (ts.map q_yt) n d (q_yt t) pe j) pc ls st F ns = some (pc', ls', st', F', ns') := hs
        rcases q_y_ok q O scr _ (q_call O ts n d) (fun _ => none) _ pc ls st F h ns _ H (q_frun_cal (q_frun_ok O ts n) d) hs with ⟨pc1, ls1, st1, F1, h1, n1, hz, H1, hk⟩ | ⟨v1, F1, h1, n1, hz, H1, hk⟩
        · obtain ⟨e1, i, h2, e2, H2⟩ := ih pc1 ls1 st1 F1 h1 n1 pc' ls' st' F' ns' H1 hk
          refine ⟨e1, i + 1, h2, ?_, H2⟩
          have hst : q_step O scr (q_call O ts n d) t (pc, ls, st) h ns = some (.inl ((pc1, ls1, st1), h1, n1)) := by
            unfold q_step
            rw [show (pc, ls, st).1 = pc from rfl, hq]
            exact hz
          unfold q_iter
          simp only [hst]
          exact e2
        · cases hk
end QUICK4
/-! the law's own frame: its runs are the machine's -/
theorem q_call_CO {l : Launch} {cl : List vw_C} {ty : Nat → Nat → FieldType} {Ts : List Cond} {ms : List q_M} {ts : List q_T} (G : q_GH cl ty Ts ms ts) (n d : Nat) : q_CO l cl Ts ms d (q_call q_O32 ts n d) := by
  intro k2 M2 a h2 ns2 v2 h2' ns2' hM2 ha hcal
  rcases d with _ | d
  · cases hcal
  · unfold q_call at hcal
    simp only at hcal
    split at hcal
    next t2 ht2 =>
      have hex := q_exec_ok (l := l) G n d k2 M2 t2 _ _ _ _ _ _ hM2 ht2 hcal
      exact ⟨by omega, hex.1, hex.2.1, fun S b D cA => q_met_of G.2.2.1 (G.2.2.2.2 k2 M2 t2 hM2 ht2).1 ha hex S b D cA⟩
    next => cases hcal
theorem q_K.trans {p : Program} {l : Launch} {e : Env} {R : Room} {s : State} {m : MethodId} {args : Array Value} {below : List Frame} {meth : Method} {c : Code} {S b : Nat} {D : va_G} {cA : Nat → ClassId} {cl : List vw_C} {nL : Nat} {f f1 f2 : q_F Int32} {h h1 h2 : q_H Int32} {ns ns1 ns2 : Nat} (k1 : q_K p l e R s m args below meth c S b D cA cl nL f h ns f1 h1 ns1) (k2 : q_K p l e R s m args below meth c S b D cA cl nL f1 h1 ns1 f2 h2 ns2) : q_K p l e R s m args below meth c S b D cA cl nL f h ns f2 h2 ns2 := by
  obtain ⟨a1, a2, a3⟩ := k1
  obtain ⟨b1, b2, b3⟩ := k2
  refine ⟨Nat.le_trans a1 b1, Nat.le_trans a2 b2, fun cells slots Q hz hc hsl g => ?_⟩
  refine a3 cells slots Q hz (by omega) (by omega) ?_
  refine b3 _ _ Q (by omega) (by omega) (by omega) ?_
  rw [show cells + (h1.length - h.length) + (h2.length - h1.length) = cells + (h2.length - h.length) by omega, show slots + (ns1 - ns) + (ns2 - ns1) = slots + (ns2 - ns) by omega]
  exact g
theorem q_iter_K {p : Program} {l : Launch} {e : Env} {R : Room} {s : State} {m : MethodId} {args : Array Value} {below : List Frame} {meth : Method} {c : Code} {S b : Nat} {D : va_G} {cA : Nat → ClassId} {cl : List vw_C} {nL : Nat} {own : String} {cc : ByteArray} {Ts : List Cond} {ty : Nat → Nat → FieldType} {ms : List q_M} {ts : List q_T} (G : q_GH cl ty Ts ms ts) (cx : q_CX p s m args c S D cA cl nL own cc Ts) {d : Nat} (hR : d + 1 ≤ R.frames ∧ 60 * (d + 1) ≤ R.locals) {ret : Option FieldType} {lt : q_LT} (hlt : ∀ q ∈ lt, q_lok cl ty Ts ms own q) {t : q_T} (htab : ∀ (pc : Nat) (q : q_I), q_get t pc = some q → q.1 = .nop ∨ q_ck1 cl lt own cc nL ret false pc q = true) {scr : Option (List Int32)} (hX : ∀ xs, scr = some xs → va_X b xs.length (fun j => xs.getD j 0) s s.heap ∧ b < s.heap.size ∧ ¬ S ≤ b) (n : Nat) : ∀ (i : Nat) (f : q_F Int32) (h : q_H Int32) (ns : Nat) (f' : q_F Int32) (h' : q_H Int32) (ns' : Nat), q_iter q_O32 scr ts n d t i (f, h, ns) = some (f', h', ns') → q_K p l e R s m args below meth c S b D cA cl nL f h ns f' h' ns' := by
  intro i
  induction i with
  | zero =>
    intro f h ns f' h' ns' hs
    cases hs
    exact q_K.same (fun cells slots Q g => g)
  | succ i ih =>
    intro f h ns f' h' ns' hs
    unfold q_iter at hs
    split at hs
    next s1 hst =>
      obtain ⟨f1, h1, ns1⟩ := s1
      obtain ⟨q, hq, hnop, hact⟩ := q_step_inv hst
      have hc := (htab f.1 q hq).resolve_left hnop
      exact (q_act_ok cx G.1 G.2.1 hlt (q_call_CO G n d) G.2.2.1 hR (fun hi => by cases hi) hX hc hact).trans (ih _ _ _ _ _ _ hs)
    next => cases hs
