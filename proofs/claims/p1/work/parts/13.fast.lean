/-! THE SAME RUNS, QUICKER TO REDUCE: a table's entries are what is done there, not the instructions; steps by Nat.rec -/
abbrev q_Z (I : Type) : Type := q_O I → Option (List I) → (Nat → List (q_V I) → q_H I → Nat → Option (q_R I)) → q_F I → q_H I → Nat → q_X I
def q_z {I : Type} (q : q_I) : q_Z I := fun O scr cal f h ns => q_act O scr cal q.1 q.2.1 q.2.2 f h ns
def q_z_ld {I : Type} (t i len : Nat) : q_Z I := fun _ _ _ f h ns => q_ld t i len f h ns
def q_z_st {I : Type} (t i len : Nat) : q_Z I := fun _ _ _ f h ns => q_st t i len f h ns
def q_z_iinc {I : Type} (i : Nat) (n : Int) (len : Nat) : q_Z I := fun O _ _ f h ns => q_iinc O i n len f h ns
def q_z_k {I : Type} (c : Int32) (len : Nat) : q_Z I := fun O _ _ f h ns => q_nx len f (.inl (O.1 c) :: f.2.2) h ns
def q_z_lk {I : Type} (c : Int64) (len : Nat) : q_Z I := fun _ _ _ f h ns => q_nx len f (.inr (.inl c) :: f.2.2) h ns
def q_z_b2 {I : Type} (j len : Nat) : q_Z I := fun O _ _ f h ns => q_b2 O j len f h ns
def q_z_b1 {I : Type} (j len : Nat) : q_Z I := fun O _ _ f h ns => q_b1 O j len f h ns
def q_z_i2l {I : Type} (len : Nat) : q_Z I := fun O _ _ f h ns => q_i2l O len f h ns
def q_z_l2 {I : Type} (j len : Nat) : q_Z I := fun _ _ _ f h ns => q_l2 j len f h ns
def q_z_lshl {I : Type} (len : Nat) : q_Z I := fun O _ _ f h ns => q_lshl O len f h ns
def q_z_lcmp {I : Type} (len : Nat) : q_Z I := fun O _ _ f h ns => q_lcmp O len f h ns
def q_z_dup {I : Type} (len : Nat) : q_Z I := fun _ _ _ f h ns => q_dup len f h ns
def q_z_dup2 {I : Type} (len : Nat) : q_Z I := fun _ _ _ f h ns => q_dup2 len f h ns
def q_z_pop {I : Type} (len : Nat) : q_Z I := fun _ _ _ f h ns => q_pop len f h ns
def q_z_if {I : Type} (j : Nat) (r : List Nat) (len : Nat) : q_Z I := fun O _ _ f h ns => q_if O j r len f h ns
def q_z_ic {I : Type} (j : Nat) (r : List Nat) (len : Nat) : q_Z I := fun O _ _ f h ns => q_ic O j r len f h ns
def q_z_goto {I : Type} (tg : Nat) : q_Z I := fun _ _ _ f h ns => some (.inl ((tg, f.2.1, f.2.2), h, ns))
def q_z_tsw {I : Type} (lo hi : Int) (r : List Nat) : q_Z I := fun O _ _ f h ns => q_tsw O lo hi r f h ns
def q_z_getf {I : Type} (r : List Nat) (len : Nat) : q_Z I := fun _ _ _ f h ns => q_getf r len f h ns
def q_z_putf {I : Type} (r : List Nat) (len : Nat) : q_Z I := fun O _ _ f h ns => q_putf O r len f h ns
def q_z_ald {I : Type} (tag kd len : Nat) : q_Z I := fun O scr _ f h ns => q_ald O scr tag kd len f h ns
def q_z_ast {I : Type} (tag len : Nat) : q_Z I := fun O _ _ f h ns => q_ast O tag len f h ns
def q_z_alen {I : Type} (len : Nat) : q_Z I := fun O scr _ f h ns => q_alen O scr len f h ns
def q_z_new {I : Type} (r : List Nat) (len : Nat) : q_Z I := fun O _ _ f h ns => q_new O r len f h ns
def q_z_newa {I : Type} (r : List Nat) (len : Nat) : q_Z I := fun O _ _ f h ns => q_newa O r len f h ns
def q_z_inv {I : Type} (sv : Nat) (r : List Nat) (len : Nat) : q_Z I := fun _ _ cal f h ns => q_inv cal sv r len f h ns
def q_z_acpy {I : Type} (len : Nat) : q_Z I := fun O _ _ f h ns => q_acpy O len f h ns
def q_z_obj {I : Type} (len : Nat) : q_Z I := fun _ _ _ f h ns => q_obj len f h ns
def q_z_iret {I : Type} (r : List Nat) : q_Z I := fun O _ _ f h ns => q_iret O r f h ns
def q_z_lret {I : Type} : q_Z I := fun _ _ _ f h ns => q_lret f h ns
def q_z_ret {I : Type} : q_Z I := fun _ _ _ f h ns => q_ret f h ns
def q_z_no {I : Type} : q_Z I := fun _ _ _ _ _ _ => none
abbrev q_ZT (I : Type) : Type := List (List (q_Z I))
def q_zt {I : Type} (t : q_T) : q_ZT I := t.map (fun r => r.map q_z)
def q_fetch {I : Type} (t : q_ZT I) (pc : Nat) : Option (q_Z I) := match t[pc / 16]? with
  | some r => r[pc % 16]?
  | none => none
def q_zcal {I : Type} (fs : List (q_ZT I)) (ih : Nat → q_ZT I → q_F I → q_H I → Nat → Option (q_R I)) (d : Nat) : Nat → List (q_V I) → q_H I → Nat → Option (q_R I) := fun k a h ns => match d with
  | 0 => none
  | d + 1 => (match fs[k]? with
    | some t => ih d t (0, q_args 0 a, []) h ns
    | none => none)
def q_zgo {I : Type} (O : q_O I) (fs : List (q_ZT I)) (ih : Nat → q_ZT I → q_F I → q_H I → Nat → Option (q_R I)) (d : Nat) (t : q_ZT I) (f : q_F I) (h : q_H I) (ns : Nat) : Option (q_R I) :=
  match q_fetch t f.1 with
  | some z => (match z O none (q_zcal fs ih d) f h ns with
    | some (.inl ((pc, ls, st), h, ns)) => ih d t (pc, ls, st) h ns
    | some (.inr r) => some r
    | none => none)
  | none => none
noncomputable def q_run {I : Type} (O : q_O I) (fs : List (q_ZT I)) (n : Nat) : Nat → q_ZT I → q_F I → q_H I → Nat → Option (q_R I) :=
  Nat.rec (motive := fun _ => Nat → q_ZT I → q_F I → q_H I → Nat → Option (q_R I)) (fun _ _ _ _ _ => none) (fun _ ih => q_zgo O fs ih) n
def q_zstep {I : Type} (O : q_O I) (scr : Option (List I)) (cal : Nat → List (q_V I) → q_H I → Nat → Option (q_R I)) (t : q_ZT I) (pe : Nat) (ih : q_F I → q_H I → Nat → Option (q_S I)) (f : q_F I) (h : q_H I) (ns : Nat) : Option (q_S I) :=
  bif Nat.beq f.1 pe then some (f, h, ns) else match q_fetch t f.1 with
  | some z => (match z O scr cal f h ns with
    | some (.inl ((pc, ls, st), h, ns)) => ih (pc, ls, st) h ns
    | _ => none)
  | none => none
/-- the frame of t, until it stands at pe -/
noncomputable def q_till {I : Type} (O : q_O I) (scr : Option (List I)) (fs : List (q_ZT I)) (n d : Nat) (t : q_ZT I) (pe : Nat) (j : Nat) : q_F I → q_H I → Nat → Option (q_S I) :=
  Nat.rec (motive := fun _ => q_F I → q_H I → Nat → Option (q_S I)) (fun _ _ _ => none) (fun _ ih => q_zstep O scr (q_zcal fs (q_run O fs n) d) t pe ih) j
theorem q_fetch_zt {I : Type} (t : q_T) (pc : Nat) : q_fetch (q_zt (I := I) t) pc = (q_get t pc).map q_z := by
  unfold q_fetch q_get q_zt
  rw [List.getElem?_map]
  cases t[pc / 16]? with
  | none => rfl
  | some r => simp only [Option.map_some, List.getElem?_map]
theorem q_zcal_eq {I : Type} {O : q_O I} {ts : List q_T} {n : Nat} (ih : ∀ d t f h ns, q_run O (ts.map q_zt) n d (q_zt t) f h ns = q_exec O ts n d t f h ns) (d : Nat) : q_zcal (ts.map q_zt) (q_run O (ts.map q_zt) n) d = q_call O ts n d := by
  funext k a h ns
  unfold q_zcal q_call
  cases d with
  | zero => rfl
  | succ d =>
    simp only [List.getElem?_map]
    cases ts[k]? with
    | none => rfl
    | some t => exact ih d t _ h ns
theorem q_run_eq {I : Type} (O : q_O I) (ts : List q_T) : ∀ (n d : Nat) (t : q_T) (f : q_F I) (h : q_H I) (ns : Nat), q_run O (ts.map q_zt) n d (q_zt t) f h ns = q_exec O ts n d t f h ns := by
  intro n
  induction n with
  | zero => intro d t f h ns; rfl
  | succ n ih =>
    intro d t f h ns
    rw [q_exec_succ]
    show q_zgo O (ts.map q_zt) (q_run O (ts.map q_zt) n) d (q_zt t) f h ns = _
    unfold q_zgo q_step
    rw [q_fetch_zt, q_zcal_eq ih]
    cases q_get t f.1 with
    | none => rfl
    | some q =>
      show (match q_act O none (q_call O ts n d) q.1 q.2.1 q.2.2 f h ns with
        | some (.inl ((pc, ls, st), h, ns)) => q_run O (ts.map q_zt) n d (q_zt t) (pc, ls, st) h ns
        | some (.inr r) => some r
        | none => none) = (match q_act O none (q_call O ts n d) q.1 q.2.1 q.2.2 f h ns with
        | some (.inl s) => q_exec O ts n d t s.1 s.2.1 s.2.2
        | some (.inr r) => some r
        | none => none)
      cases q_act O none (q_call O ts n d) q.1 q.2.1 q.2.2 f h ns with
      | none => rfl
      | some x =>
        cases x with
        | inl s =>
          obtain ⟨⟨pc, ls, st⟩, h1, n1⟩ := s
          exact ih d t _ h1 n1
        | inr r => rfl
theorem q_till_eq {I : Type} (O : q_O I) (scr : Option (List I)) (ts : List q_T) (n d : Nat) (t : q_T) (pe : Nat) : ∀ (j : Nat) (f : q_F I) (h : q_H I) (ns : Nat) (s : q_S I), q_till O scr (ts.map q_zt) n d (q_zt t) pe j f h ns = some s → s.1.1 = pe ∧ ∃ i, q_iter O scr ts n d t i (f, h, ns) = some s := by
  intro j
  induction j with
  | zero => intro f h ns s hs; cases hs
  | succ j ih =>
    intro f h ns s hs
    replace hs : q_zstep O scr (q_zcal (ts.map q_zt) (q_run O (ts.map q_zt) n) d) (q_zt t) pe (q_till O scr (ts.map q_zt) n d (q_zt t) pe j) f h ns = some s := hs
    rw [q_zcal_eq (q_run_eq O ts n)] at hs
    unfold q_zstep at hs
    cases hb : Nat.beq f.1 pe with
    | true =>
      rw [hb, cond_true] at hs
      cases hs
      exact ⟨q_beq hb, 0, rfl⟩
    | false =>
      rw [hb, cond_false, q_fetch_zt] at hs
      cases hq : q_get t f.1 with
      | none => rw [hq] at hs; cases hs
      | some q =>
        rw [hq] at hs
        replace hs : (match q_act O scr (q_call O ts n d) q.1 q.2.1 q.2.2 f h ns with
          | some (.inl ((pc, ls, st), h, ns)) => q_till O scr (ts.map q_zt) n d (q_zt t) pe j (pc, ls, st) h ns
          | _ => none) = some s := hs
        cases hx : q_act O scr (q_call O ts n d) q.1 q.2.1 q.2.2 f h ns with
        | none => rw [hx] at hs; cases hs
        | some x =>
          rw [hx] at hs
          cases x with
          | inr r => cases hs
          | inl s1 =>
            obtain ⟨⟨pc, ls, st⟩, h1, n1⟩ := s1
            obtain ⟨e1, i, hi⟩ := ih _ _ _ _ hs
            refine ⟨e1, i + 1, ?_⟩
            have hst : q_step O scr (q_call O ts n d) t f h ns = some (.inl ((pc, ls, st), h1, n1)) := by
              unfold q_step
              rw [hq]
              exact hx
            unfold q_iter
            simp only [hst]
            exact hi
