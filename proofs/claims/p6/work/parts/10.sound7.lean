/-- a method's table is right: each entry is what its code holds there, linked as the words say -/
def q_TK1 (cl : List vw_C) (ty : Nat → Nat → FieldType) (Ts : List Cond) (ms : List q_M) (M : q_M) (t : q_T) : Prop :=
  plainName M.1.cls = true ∧ ∃ lt : q_LT, (∀ q ∈ lt, q_lok cl ty Ts ms M.1.cls q) ∧ ∀ (pc : Nat) (q : q_I), q_get t pc = some q → q.1 = .nop ∨ q_ck1 cl lt M.1.cls M.2.1 M.2.2.1 M.2.2.2.1 (decide (M.1.name = "<init>")) pc q = true
/-- several instructions that go over a static: right -/
def q_MS (cl : List vw_C) (Ts : List Cond) (M : q_M) (pc : Nat) (q : q_I) : Prop :=
  q.1 = .getstatic 0 ∧ ∀ (p : Program) (l : Launch) (e : Env) (R : Room) (s : State) (m : MethodId) (args : Array Value) (below : List Frame) (meth : Method) (c : Code) (S b : Nat) (D : va_G) (cA : Nat → ClassId) (f f' : q_F Int32) (h h' : q_H Int32) (ns ns' : Nat), q_CX p s m args c S D cA cl M.2.2.1 M.1.cls M.2.1 Ts → 6 ≤ R.frames ∧ 360 ≤ R.locals → f.1 = pc → q_mac q_O32 q.2.1 q.2.2 f h ns = some (.inl (f', h', ns')) → q_K p l e R s m args below meth c S b D cA cl M.2.2.1 f h ns f' h' ns'
/-- a table, with such -/
def q_TKM (cl : List vw_C) (ty : Nat → Nat → FieldType) (Ts : List Cond) (ms : List q_M) (M : q_M) (t : q_T) : Prop :=
  plainName M.1.cls = true ∧ ∃ lt : q_LT, (∀ q ∈ lt, q_lok cl ty Ts ms M.1.cls q) ∧ ∀ (pc : Nat) (q : q_I), q_get t pc = some q → q.1 = .nop ∨ q_ck1 cl lt M.1.cls M.2.1 M.2.2.1 M.2.2.2.1 (decide (M.1.name = "<init>")) pc q = true ∨ q_MS cl Ts M pc q
theorem q_TK1.M {cl : List vw_C} {ty : Nat → Nat → FieldType} {Ts : List Cond} {ms : List q_M} {M : q_M} {t : q_T} (h : q_TK1 cl ty Ts ms M t) : q_TKM cl ty Ts ms M t := by
  obtain ⟨h1, lt, h2, h3⟩ := h
  exact ⟨h1, lt, h2, fun pc q hq => (h3 pc q hq).imp id Or.inl⟩
abbrev q_GH (cl : List vw_C) (ty : Nat → Nat → FieldType) (Ts : List Cond) (ms : List q_M) (ts : List q_T) : Prop :=
  q_CK cl ty Ts ∧ q_AK Ts ∧ q_GW Ts ∧ ts.length ≤ ms.length ∧ ∀ (k : Nat) (M : q_M) (t : q_T), ms[k]? = some M → ts[k]? = some t → q_TKM cl ty Ts ms M t
theorem q_lgsl (S b : Nat) : ∀ a : List (q_V Int32), (lg_sl (a.map (q_ren S b))).length = q_cats a
  | [] => rfl
  | v :: a => by
    have ih := q_lgsl S b a
    simp only [lg_sl, List.map_cons, List.flatMap_cons, List.length_append] at ih ⊢
    rw [ih, q_cats, q_ren_cat]
    rcases v with x | y | n
    · rfl
    · rfl
    · rfl
theorem q_args_map (S b : Nat) : ∀ (a : List (q_V Int32)) (i : Nat), lv_args i (a.map (q_ren S b)) = (q_args i a).map (q_rl S b)
  | [], _ => rfl
  | v :: a, i => by
    show (i, q_ren S b v) :: lv_args (if (q_ren S b v).category = 2 then i + 2 else i + 1) (a.map (q_ren S b)) = (i, q_ren S b v) :: (q_args (bif Nat.beq (q_cat v) 2 then i + 2 else i + 1) a).map (q_rl S b)
    rw [q_args_map S b a, q_ren_cat]
    rcases v with x | y | n <;> rfl
/-- what a run of a method's frame gives -/
def q_EX (l : Launch) (cl : List vw_C) (Ts : List Cond) (d : Nat) (M : q_M) (f : q_F Int32) (h : q_H Int32) (ns : Nat) (v : Option (q_V Int32)) (h' : q_H Int32) (ns' : Nat) : Prop :=
  h.length ≤ h'.length ∧ ns ≤ ns' ∧ ∀ (p : Program) (e : Env) (R : Room) (s : State) (m : MethodId) (args : Array Value) (below : List Frame) (meth : Method) (c : Code) (S b : Nat) (D : va_G) (cA : Nat → ClassId) (cells slots : Nat),
    q_CX p s m args c S D cA cl M.2.2.1 M.1.cls M.2.1 Ts → meth.locks = false → meth.sig.returnType = M.2.2.2.1 → meth.name = M.1.name → d + 6 ≤ R.frames ∧ 60 * (d + 6) ≤ R.locals → s.heap.size + cells = S + h.length → cells + (h'.length - h.length) ≤ R.cells → slots + (ns' - ns) ≤ R.slots →
    q_G p l e R s m args below meth c S b D cA cl M.2.2.1 f h cells slots (MQ below (q_Qc S b D cA cl v h') args s (cells + (h'.length - h.length)) (slots + (ns' - ns)) (fun q => S ≤ q))
theorem q_met_of {l : Launch} {cl : List vw_C} {Ts : List Cond} {d : Nat} {M : q_M} {a : List (q_V Int32)} {h : q_H Int32} {ns : Nat} {v : Option (q_V Int32)} {h' : q_H Int32} {ns' : Nat} (hgood : q_GW Ts) (hpl : plainName M.1.cls = true) (ha : q_cats a ≤ M.2.2.1) (hex : q_EX l cl Ts d M (0, q_args 0 a, []) h ns v h' ns') (S b : Nat) (D : va_G) (cA : Nat → ClassId) :
    Met l M.1 (.code M.1 M.2.1 M.2.2.1 M.2.2.2.1 :: Ts.filter goodWord) (q_rm d (h'.length - h.length) (ns' - ns)) (q_Pc S b D cA cl Ts a h) (q_Qc S b D cA cl v h') (h'.length - h.length) (ns' - ns) (fun q => S ≤ q) := by
  refine Met.ofW (cc := M.2.1) (maxL := M.2.2.1) (ret := M.2.2.2.1) hpl rfl ?_
  intro p e s m args below meth c s₁ B hml hv
  obtain ⟨rfl, hsz, hP, hK, hN, hST⟩ := hv
  have hts0 := atoms_spec (ws := .code M.1 M.2.1 M.2.2.1 M.2.2.2.1 :: Ts.filter goodWord) B.pre
  have hts : ∀ w ∈ Ts, w.before (a.map (q_ren S b)).toArray s = true := fun w hw => (hgood w hw).elim (fun g => hts0 w (List.mem_cons_of_mem _ (List.mem_filter.mpr ⟨hw, g⟩))) (fun g => by
    have h5 := hN w hw g
    obtain ⟨a1, i1, x1, y1, rfl⟩ := q_isN_spec g
    exact va_Nw.use rfl h5)
  have hown : s.vm.findClass M.1.cls = some m.cls := findClass_of_methodNamed B.named
  have hl := lv_entry (a.map (q_ren S b)) (n := M.2.2.1) (by rw [q_lgsl]; exact ha)
  rw [lg_entry_eq]
  rw [q_args_map] at hl
  have hS : va_S (fun q => S ≤ q) s.heap s.heap [] := va_S.rf
  have key := hex.2.2 p e (q_rm d (h'.length - h.length) (ns' - ns)) s m (a.map (q_ren S b)).toArray below meth c S b D cA 0 0 ⟨B.exec, B.bytes, hml, hown, hts, hK, by rw [hsz]; exact Nat.le_add_right _ _, hST⟩ B.notSynchronized B.returns (name_of_methodNamed B.named B.method).1 ⟨Nat.le_refl _, Nat.le_refl _⟩ (by rw [hsz]; rfl) (by show 0 + _ ≤ _; rw [Nat.zero_add]; exact Nat.le_refl _) (by show 0 + _ ≤ _; rw [Nat.zero_add]; exact Nat.le_refl _) s.heap [] _ hsz hP hS hl
  rw [Nat.zero_add, Nat.zero_add] at key
  exact key
theorem q_step_inv {I : Type} {O : q_O I} {scr : Option (List I)} {cal : Nat → List (q_V I) → q_H I → Nat → Option (q_R I)} {t : q_T} {f : q_F I} {h : q_H I} {ns : Nat} {x : q_S I ⊕ q_R I} (hs : q_step O scr cal t f h ns = some x) : ∃ q, q_get t f.1 = some q ∧ q.1 ≠ .nop ∧ q_act O scr cal q.1 q.2.1 q.2.2 f h ns = some x := by
  unfold q_step at hs
  split at hs
  next q hq =>
    refine ⟨q, hq, fun hn => ?_, hs⟩
    rw [hn] at hs
    cases hs
  next => cases hs
theorem q_K.exec {l : Launch} {cl : List vw_C} {Ts : List Cond} {d : Nat} {M : q_M} {f f1 : q_F Int32} {h h1 : q_H Int32} {ns ns1 : Nat} {v : Option (q_V Int32)} {h' : q_H Int32} {ns' : Nat} (hk : ∀ (p : Program) (e : Env) (R : Room) (s : State) (m : MethodId) (args : Array Value) (below : List Frame) (meth : Method) (c : Code) (S b : Nat) (D : va_G) (cA : Nat → ClassId), q_CX p s m args c S D cA cl M.2.2.1 M.1.cls M.2.1 Ts → meth.name = M.1.name → d + 6 ≤ R.frames ∧ 60 * (d + 6) ≤ R.locals → q_K p l e R s m args below meth c S b D cA cl M.2.2.1 f h ns f1 h1 ns1) (hlen : h.length ≤ h1.length ∧ ns ≤ ns1) (hex : q_EX l cl Ts d M f1 h1 ns1 v h' ns') : q_EX l cl Ts d M f h ns v h' ns' := by
  obtain ⟨l1, l2⟩ := hlen
  obtain ⟨g1, g2, g3⟩ := hex
  refine ⟨Nat.le_trans l1 g1, Nat.le_trans l2 g2, fun p e R s m args below meth c S b D cA cells slots cx hlk hret hnm hR hcz hr1 hr2 => ?_⟩
  obtain ⟨-, -, k3⟩ := hk p e R s m args below meth c S b D cA cx hnm hR
  have e1 : cells + (h1.length - h.length) + (h'.length - h1.length) = cells + (h'.length - h.length) := by omega
  have e2 : slots + (ns1 - ns) + (ns' - ns1) = slots + (ns' - ns) := by omega
  refine k3 cells slots _ hcz (by omega) (by omega) ?_
  have key := g3 p e R s m args below meth c S b D cA (cells + (h1.length - h.length)) (slots + (ns1 - ns)) cx hlk hret hnm hR (by omega) (by omega) (by omega)
  rw [e1, e2] at key
  exact key
theorem q_exec_ok {l : Launch} {cl : List vw_C} {ty : Nat → Nat → FieldType} {Ts : List Cond} {ms : List q_M} {ts : List q_T} (G : q_GH cl ty Ts ms ts) : ∀ (n d k : Nat) (M : q_M) (t : q_T) (f : q_F Int32) (h : q_H Int32) (ns : Nat) (v : Option (q_V Int32)) (h' : q_H Int32) (ns' : Nat), ms[k]? = some M → ts[k]? = some t → q_exec q_O32 ts n d t f h ns = some (v, h', ns') → q_EX l cl Ts d M f h ns v h' ns' := by
  intro n
  induction n with
  | zero => intro d k M t f h ns v h' ns' _ _ hs; cases hs
  | succ n ih =>
    intro d k M t f h ns v h' ns' hM ht hs
    obtain ⟨hck, hak, hgood, hlen, hTK⟩ := id G
    obtain ⟨hpl, lt, hlt, htab⟩ := hTK k M t hM ht
    have hco : q_CO l cl Ts ms d (q_call q_O32 ts n d) := by
      intro k2 M2 a h2 ns2 v2 h2' ns2' hM2 ha hcal
      rcases d with _ | d
      · cases hcal
      · unfold q_call at hcal
        simp only at hcal
        split at hcal
        next t2 ht2 =>
          have hex := ih d k2 M2 t2 _ _ _ _ _ _ hM2 ht2 hcal
          exact ⟨by omega, hex.1, hex.2.1, fun S b D cA => q_met_of hgood (hTK k2 M2 t2 hM2 ht2).1 ha hex S b D cA⟩
        next => cases hcal
    have hcl : ∀ k2 a h2 ns2 v2 h2' ns2', q_call q_O32 ts n d k2 a h2 ns2 = some (v2, h2', ns2') → h2.length ≤ h2'.length ∧ ns2 ≤ ns2' := by
      intro k2 a h2 ns2 v2 h2' ns2' hcal
      rcases d with _ | d
      · cases hcal
      · unfold q_call at hcal
        simp only at hcal
        split at hcal
        next t2 ht2 =>
          obtain ⟨M2, hM2⟩ : ∃ M2, ms[k2]? = some M2 := ⟨_, List.getElem?_eq_getElem (by have := (List.getElem?_eq_some_iff.mp ht2).1; omega)⟩
          have hex := ih d k2 M2 t2 _ _ _ _ _ _ hM2 ht2 hcal
          exact ⟨hex.1, hex.2.1⟩
        next => cases hcal
    rw [q_exec_succ] at hs
    split at hs
    next s1 hst =>
      obtain ⟨f1, h1, ns1⟩ := s1
      obtain ⟨q, hq, hnop, hact⟩ := q_step_inv hst
      have hc := (htab f.1 q hq).resolve_left hnop
      refine q_K.exec (fun p e R s m args below meth c S b D cA cx hnm hR => ?_) ?_ (ih d k M t f1 h1 ns1 v h' ns' hM ht hs)
      · rcases hc with hc | hm
        · exact q_act_ok cx hck hak hlt hco hgood hR (fun hi => by rw [hnm]; exact of_decide_eq_true hi) (fun xs hxs => by cases hxs) hc hact
        · have hact2 := hact
          rw [hm.1] at hact2
          exact hm.2 p l e R s m args below meth c S b D cA f f1 h h1 ns ns1 cx ⟨by omega, by omega⟩ rfl hact2
      · exact q_act_len hcl hact
    next r hst =>
      cases hs
      obtain ⟨q, hq, hnop, hact⟩ := q_step_inv hst
      have hc := (htab f.1 q hq).resolve_left hnop
      have hc : q_ck1 cl lt M.1.cls M.2.1 M.2.2.1 M.2.2.2.1 (decide (M.1.name = "<init>")) f.1 q = true := by
        rcases hc with hc | hm
        · exact hc
        · exact absurd hact (q_noret (by rw [hm.1]; intro hh; cases hh) (by rw [hm.1]; intro hh; cases hh) (by rw [hm.1]; intro hh; cases hh))
      obtain ⟨e1, e2⟩ := q_act_ret_same hact
      subst e1; subst e2
      refine ⟨Nat.le_refl _, Nat.le_refl _, fun p e R s m args below meth c S b D cA cells slots cx hlk hret hnm hR hcz hr1 hr2 => ?_⟩
      rw [Nat.sub_self, Nat.sub_self, Nat.add_zero, Nat.add_zero]
      exact (q_act_ret cx hlk hret hc hact).2.2 cells slots
    next => cases hs
