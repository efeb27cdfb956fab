section QS6
variable {p : Program} {l : Launch} {e : Env} {R : Room} {s : State} {m : MethodId} {args : Array Value} {below : List Frame} {meth : Method} {c : Code} {S b : Nat} {D : va_G} {cA : Nat → ClassId} {cl : List vw_C} {nL : Nat} {own : String} {cc : ByteArray} {Ts : List Cond}
variable {f f' : q_F Int32} {h h' : q_H Int32} {ns ns' : Nat}
theorem q_act_ret (cx : q_CX p s m args c S D cA cl nL own cc Ts) (hlocks : meth.locks = false) {ret : Option FieldType} (hret : meth.sig.returnType = ret) {lt : q_LT} {ini : Bool} {cal : Nat → List (q_V Int32) → q_H Int32 → Nat → Option (q_R Int32)} {scr : Option (List Int32)} {v : Option (q_V Int32)}
    {ins : Jvm.ClassFile.Instr} {len : Nat} {r : List Nat} (hc : q_ck1 cl lt own cc nL ret ini f.1 (ins, len, r) = true) (hs : q_act q_O32 scr cal ins len r f h ns = some (.inr (v, h', ns'))) : h' = h ∧ ns' = ns ∧ ∀ (cells slots : Nat), q_G p l e R s m args below meth c S b D cA cl nL f h cells slots (MQ below (q_Qc S b D cA cl v h) args s cells slots (fun q => S ≤ q)) := by
  simp only [q_ck1, Bool.and_eq_true, decide_eq_true_eq] at hc
  obtain ⟨hd, hl0, hc⟩ := hc
  have hx := cx.1
  have hb := cx.2.1
  have hq : ∀ (v : Option (q_V Int32)) (H : Heap) (locs : List Loc), H.size = S + h.length → va_P D cl (q_ws S b cA h) H → va_S (fun q => S ≤ q) s.heap H locs → ∀ t : State, t.heap = H → s.WarmedH t.vm → q_Qc S b D cA cl v h args s (.returned (v.map (q_ren S b))) t :=
    fun v H locs hz hP hS t ht _ => ⟨rfl, by rw [ht]; exact hz, by rw [ht]; exact hP, hS.F ht⟩
  have hnx : ∀ {n : Nat} {st : List (q_V Int32)} {v : Option (q_V Int32)} {h2 h3 : q_H Int32} {n2 n3 : Nat}, ¬ q_nx n f st h2 n2 = some (.inr (v, h3, n3)) := fun hh => by cases hh
  cases ins with
  | ireturn =>
    replace hs : q_iret q_O32 r f h ns = some (.inr (v, h', ns')) := hs
    unfold q_iret at hs
    split at hs
    · next kd x hst =>
      cases hf : q_fit q_O32 kd (.inl x) with
      | false => rw [hf] at hs; cases hs
      | true =>
        rw [hf, cond_true] at hs
        cases hs
        refine ⟨rfl, rfl, fun cells slots H locs ls hz hP hS hl => ?_⟩
        rw [hst]
        have hc : (match ret with
          | some t => Nat.beq kd (q_kd t) && Nat.blt kd 2
          | none => false) = true := by
          cases ret with
          | none => cases hc
          | some t => exact hc
        cases ret with
        | none => cases hc
        | some t =>
          have hc : (Nat.beq kd (q_kd t) && Nat.blt kd 2) = true := hc
          rw [Bool.and_eq_true] at hc
          have e1 := q_beq hc.1
          subst e1
          exact W.zret hx hb hret (q_fit_ok (S := S) (b := b) hf).1 (hq (some (.inl x)) H locs hz hP hS) hS.2.2 hd hlocks
    · cases hs
  | lreturn =>
    replace hs : q_lret f h ns = some (.inr (v, h', ns')) := hs
    unfold q_lret at hs
    split at hs
    · next x hst =>
      cases hs
      refine ⟨rfl, rfl, fun cells slots H locs ls hz hP hS hl => ?_⟩
      rw [hst]
      have hc : ret = some .long := of_decide_eq_true hc
      exact W.lret hx hb (by rw [hret, hc]) (hq (some (.inr (.inl x))) H locs hz hP hS) hS.2.2 hd hlocks
    · cases hs
  | return_ =>
    replace hs : q_ret f h ns = some (.inr (v, h', ns')) := hs
    unfold q_ret at hs
    split at hs
    · next hst =>
      cases hs
      refine ⟨rfl, rfl, fun cells slots H locs ls hz hP hS hl => ?_⟩
      rw [hst]
      have hc : ret = none := of_decide_eq_true hc
      exact W.vret hx hb (by rw [hret, hc]) (hq none H locs hz hP hS) hS.2.2 hd hlocks
    · cases hs
  | _ => exact absurd hs (q_noret (by intro hh; cases hh) (by intro hh; cases hh) (by intro hh; cases hh))
end QS6
