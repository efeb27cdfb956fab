/-! the law's own frame: its runs are the machine's -/
theorem q_call_CO {l : Launch} {cl : List vw_C} {ty : Nat → Nat → FieldType} {Ts : List Cond} {ms : List q_M} {ts : List q_T} (G : q_GH cl ty Ts ms ts) (n d : Nat) : q_CO l cl Ts ms d (q_call q_O32 ts n d) := by
  intro k2 M2 a h2 ns2 v2 h2' ns2' hM2 ha hcal
  rcases d with _ | d
  · cases hcal
  · unfold q_call at hcal
    simp only at hcal
    split at hcal
    next t2 ht2 =>
      have hex := q_exec_ok (l := l) G n d k2 M2 t2 _ _ _ _ _ _ hM2 ht2 hcal
      exact ⟨by omega, hex.1, hex.2.1, fun S b D cA => q_met_of G.2.2.1 (G.2.2.2.2 k2 M2 t2 hM2 ht2).1 ha hex S b D cA⟩
    next => cases hcal
theorem q_K.trans {p : Program} {l : Launch} {e : Env} {R : Room} {s : State} {m : MethodId} {args : Array Value} {below : List Frame} {meth : Method} {c : Code} {S b : Nat} {D : va_G} {cA : Nat → ClassId} {cl : List vw_C} {nL : Nat} {f f1 f2 : q_F Int32} {h h1 h2 : q_H Int32} {ns ns1 ns2 : Nat} (k1 : q_K p l e R s m args below meth c S b D cA cl nL f h ns f1 h1 ns1) (k2 : q_K p l e R s m args below meth c S b D cA cl nL f1 h1 ns1 f2 h2 ns2) : q_K p l e R s m args below meth c S b D cA cl nL f h ns f2 h2 ns2 := by
  obtain ⟨a1, a2, a3⟩ := k1
  obtain ⟨b1, b2, b3⟩ := k2
  refine ⟨Nat.le_trans a1 b1, Nat.le_trans a2 b2, fun cells slots Q hz hc hsl g => ?_⟩
  refine a3 cells slots Q hz (by omega) (by omega) ?_
  refine b3 _ _ Q (by omega) (by omega) (by omega) ?_
  rw [show cells + (h1.length - h.length) + (h2.length - h1.length) = cells + (h2.length - h.length) by omega, show slots + (ns1 - ns) + (ns2 - ns1) = slots + (ns2 - ns) by omega]
  exact g
theorem q_iter_K {p : Program} {l : Launch} {e : Env} {R : Room} {s : State} {m : MethodId} {args : Array Value} {below : List Frame} {meth : Method} {c : Code} {S b : Nat} {D : va_G} {cA : Nat → ClassId} {cl : List vw_C} {nL : Nat} {own : String} {cc : ByteArray} {Ts : List Cond} {ty : Nat → Nat → FieldType} {ms : List q_M} {ts : List q_T} (G : q_GH cl ty Ts ms ts) (cx : q_CX p s m args c S D cA cl nL own cc Ts) {d : Nat} (hR : d + 6 ≤ R.frames ∧ 60 * (d + 6) ≤ R.locals) {ret : Option FieldType} {lt : q_LT} (hlt : ∀ q ∈ lt, q_lok cl ty Ts ms own q) {t : q_T} (htab : ∀ (pc : Nat) (q : q_I), q_get t pc = some q → q.1 = .nop ∨ q_ck1 cl lt own cc nL ret false pc q = true) {scr : Option (List Int32)} (hX : ∀ xs, scr = some xs → va_X b xs.length (fun j => xs.getD j 0) s s.heap ∧ b < s.heap.size ∧ ¬ S ≤ b) (n : Nat) : ∀ (i : Nat) (f : q_F Int32) (h : q_H Int32) (ns : Nat) (f' : q_F Int32) (h' : q_H Int32) (ns' : Nat), q_iter q_O32 scr ts n d t i (f, h, ns) = some (f', h', ns') → q_K p l e R s m args below meth c S b D cA cl nL f h ns f' h' ns' := by
  intro i
  induction i with
  | zero =>
    intro f h ns f' h' ns' hs
    cases hs
    exact q_K.same (fun cells slots Q g => g)
  | succ i ih =>
    intro f h ns f' h' ns' hs
    unfold q_iter at hs
    split at hs
    next s1 hst =>
      obtain ⟨f1, h1, ns1⟩ := s1
      obtain ⟨q, hq, hnop, hact⟩ := q_step_inv hst
      have hc := (htab f.1 q hq).resolve_left hnop
      exact (q_act_ok cx G.1 G.2.1 hlt (q_call_CO G n d) G.2.2.1 hR (fun hi => by cases hi) hX hc hact).trans (ih _ _ _ _ _ _ hs)
    next => cases hs
