/-- a method: its name, code, locals, answer, how many values it takes -/
abbrev q_M : Type := MethodName × ByteArray × Nat × Option FieldType × Nat
/-- the words on a nest mate's private methods go along in the world, the others with the contract -/
def q_isN : Cond → Bool
  | .methodLinkNest _ _ _ _ => true
  | _ => false
theorem q_isN_spec {w : Cond} (h : q_isN w = true) : ∃ a i x y, w = .methodLinkNest a i x y := by
  unfold q_isN at h
  split at h
  next a i x y => exact ⟨a, i, x, y, rfl⟩
  next => cases h
abbrev q_GW (Ts : List Cond) : Prop := ∀ w ∈ Ts, goodWord w = true ∨ q_isN w = true
def q_NW (Ts : List Cond) (U : State) : Prop := ∀ w ∈ Ts, q_isN w = true → va_Nw w U
def q_Pc (S b : Nat) (D : va_G) (cA : Nat → ClassId) (cl : List vw_C) (Ts : List Cond) (a : List (q_V Int32)) (h : q_H Int32) : Array Value → State → Prop := va_Pc (a.map (q_ren S b)) (fun U => U.heap.size = S + h.length ∧ va_P D cl (q_ws S b cA h) U.heap ∧ va_K D cl (q_tys cA) U ∧ q_NW Ts U ∧ q_ST S U)
def q_Qc (S b : Nat) (D : va_G) (cA : Nat → ClassId) (cl : List vw_C) (v : Option (q_V Int32)) (h' : q_H Int32) : Array Value → State → Outcome → State → Prop := fun _ st oc t => oc = .returned (v.map (q_ren S b)) ∧ t.heap.size = S + h'.length ∧ va_P D cl (q_ws S b cA h') t.heap ∧ va_F (fun q => S ≤ q) st t
def q_rm (d mc ms : Nat) : Room := { frames := d + 6, cells := mc, slots := ms, locals := 60 * (d + 6) }
/-- calls that are right: a method of the list, at any place of the heap, d calls deep -/
def q_CO (l : Launch) (cl : List vw_C) (Ts : List Cond) (ms : List q_M) (d : Nat) (cal : Nat → List (q_V Int32) → q_H Int32 → Nat → Option (q_R Int32)) : Prop :=
  ∀ (k : Nat) (M : q_M) (a : List (q_V Int32)) (h : q_H Int32) (ns : Nat) (v : Option (q_V Int32)) (h' : q_H Int32) (ns' : Nat), ms[k]? = some M → q_cats a ≤ M.2.2.1 → cal k a h ns = some (v, h', ns') → 1 ≤ d ∧ h.length ≤ h'.length ∧ ns ≤ ns' ∧ ∀ (S b : Nat) (D : va_G) (cA : Nat → ClassId),
    Met l M.1 (.code M.1 M.2.1 M.2.2.1 M.2.2.2.1 :: Ts.filter goodWord) (q_rm (d - 1) (h'.length - h.length) (ns' - ns)) (q_Pc S b D cA cl Ts a h) (q_Qc S b D cA cl v h') (h'.length - h.length) (ns' - ns) (fun q => S ≤ q)
theorem q_blind (S b : Nat) (D : va_G) (cA : Nat → ClassId) (cl : List vw_C) (Ts : List Cond) (a : List (q_V Int32)) (h : q_H Int32) : FrameBlind (q_Pc S b D cA cl Ts a h) := by
  intro v U g mk q
  obtain ⟨q1, q2, q3, q4, q5, q6⟩ := q
  refine ⟨q1, q2, q3, va_K.moved (u := U) (U := U.calling g mk v) (Vm.Alike.refl U.vm) q4, fun w hw hn => ?_, q_ST.same (u := U) (U := U.calling g mk v) rfl rfl q6⟩
  have h5 := q5 w hw hn
  obtain ⟨a, i, x, y, rfl⟩ := q_isN_spec hn
  exact va_Nw.same (u := U) (U := U.calling g mk v) rfl rfl h5
theorem q_take_spec {I : Type} : ∀ (n : Nat) (st acc a r : List (q_V I)), q_take n st acc = some (a, r) → ∃ xs, xs.length = n ∧ st = xs ++ r ∧ a = xs.reverse ++ acc
  | 0, st, acc, a, r, h => by cases h; exact ⟨[], rfl, rfl, rfl⟩
  | n + 1, [], acc, a, r, h => by cases h
  | n + 1, v :: st, acc, a, r, h => by
    obtain ⟨xs, h1, h2, h3⟩ := q_take_spec n st (v :: acc) a r h
    exact ⟨v :: xs, by rw [List.length_cons, h1], by rw [h2]; rfl, by rw [h3]; simp⟩
theorem q_may1 {I : Type} {x : List Nat} {a : List (q_V I)} {h : q_H I} (hm : q_may 1 x a h = true) : ∃ o r q ci, a = .inr (.inr (o + 2)) :: r ∧ h[o]? = some q ∧ x = [ci] ∧ q.1 = ci := by
  rcases a with _ | ⟨v | v | n, r⟩
  · cases hm
  · cases hm
  · cases hm
  · rcases n with _ | _ | o
    · cases hm
    · cases hm
    · have hm2 : q_mayV x (h[o]?) = true := hm
      unfold q_mayV at hm2
      split at hm2
      next q ci hq => exact ⟨o, r, q, ci, rfl, hq, rfl, q_beq hm2⟩
      next => cases hm2
theorem q_may2 {I : Type} {x : List Nat} {a : List (q_V I)} {h : q_H I} (hm : q_may 2 x a h = true) : ∃ o r, a = .inr (.inr (o + 2)) :: r := by
  rcases a with _ | ⟨v | v | n, r⟩
  · cases hm
  · cases hm
  · cases hm
  · rcases n with _ | _ | o
    · cases hm
    · cases hm
    · exact ⟨o, r, rfl⟩
section QS4
variable {p : Program} {l : Launch} {e : Env} {R : Room} {s : State} {m : MethodId} {args : Array Value} {below : List Frame} {meth : Method} {c : Code} {S b : Nat} {D : va_G} {cA : Nat → ClassId} {cl : List vw_C} {nL : Nat} {own : String} {cc : ByteArray} {Ts : List Cond}
variable {f f' : q_F Int32} {h h' : q_H Int32} {ns ns' : Nat}
theorem q_goes {H : Heap} {locs : List Loc} {cells slots mc ms : Nat} {Q : State → Prop} {pc : Nat} {ls : Array Slot} {st0 rest : List Value} {v : Option (q_V Int32)} {a : Array Value} (hr : va_Run p l e R s m args below meth c H locs cells slots mc ms (F0 m pc ls st0) rest (q_Qc S b D cA cl v h' a) (fun q => S ≤ q)) (hS : va_S (fun q => S ≤ q) s.heap H locs)
    (kk : ∀ (H1 : Heap) (locs1 : List Loc), H1.size = S + h'.length → va_P D cl (q_ws S b cA h') H1 → va_S (fun q => S ≤ q) s.heap H1 locs1 → W p l e R s m args below meth c H1 locs1 (cells + mc) (slots + ms) Q (F0 m (pc + 3) ls ((v.map (q_ren S b)).toList ++ rest))) : W p l e R s m args below meth c H locs cells slots Q (F0 m pc ls st0) := by
  intro T hT X
  obtain ⟨v', st₀, t, T', L, h0, X', hL, e1, e2, ⟨hv, hz, hP1, hz2, hk⟩, st⟩ := hr T hT X
  have hv' : v' = v.map (q_ren S b) := by cases hv; rfl
  subst hv'
  rw [h0] at hz2 hk
  obtain ⟨t2, a1, b1⟩ := kk T'.heap (locs ++ L) (by rw [e1]; exact hz) (by rw [e1]; exact hP1)
    ⟨Nat.le_trans hS.1 (by rw [e1]; exact hz2), fun q h1 h2 => by rw [e1, hk q (Nat.lt_of_lt_of_le h1 hS.1) h2]; exact hS.2.1 q h1 h2, fun q hq => by
      rcases List.mem_append.mp hq with h | h
      · exact hS.2.2 q h
      · exact hL q h⟩ T' rfl X'
  exact ⟨t2, st t2 a1, b1⟩
/-- what a called method is, by the words -/
abbrev q_MW (Ts : List Cond) (M : q_M) (n : Nat) : Prop := Cond.code M.1 M.2.1 M.2.2.1 M.2.2.2.1 ∈ Ts ∧ Cond.initialized M.1.cls ∈ Ts ∧ (M.1.cls ≠ "java/lang/invoke/MethodHandle" ∧ M.1.cls ≠ "java/lang/invoke/VarHandle" ∧ (parseMethodDescriptor M.1.desc).map (fun d => d.parameters.length) = some n) ∧ M.2.2.1 ≤ 40
/-- how a call is linked: 0 static, 1 by the receiver, 2 a constructor, 3 static of a nest mate -/
def q_MK (cl : List vw_C) (Ts : List Cond) (own : String) (idx : Nat) (M : q_M) (x : List Nat) : Nat → Prop
  | 0 => q_MW Ts M M.2.2.2.2 ∧ Cond.methodLink own idx M.1 ∈ Ts ∧ Cond.static M.1 ∈ Ts
  | 1 => ∃ n ci T N, M.2.2.2.2 = n + 1 ∧ q_MW Ts M n ∧ Cond.methodLink own idx M.1 ∈ Ts ∧ Cond.instanceMethod M.1 ∈ Ts ∧ Cond.selects M.1.cls M.1 M.1 ∈ Ts ∧ x = [ci] ∧ ci < 100 ∧ cl[ci]? = some (M.1.cls, T, N)
  | 2 => ∃ n, M.2.2.2.2 = n + 1 ∧ q_MW Ts M n ∧ Cond.methodLink own idx M.1 ∈ Ts ∧ Cond.instanceMethod M.1 ∈ Ts ∧ M.1.name = "<init>" ∧ M.2.2.2.1 = none
  | 3 => ∃ host, q_MW Ts M M.2.2.2.2 ∧ Cond.methodLinkNest own idx M.1 host ∈ Ts ∧ Cond.static M.1 ∈ Ts
  | _ => False
theorem q_s_inv (cx : q_CX p s m args c S D cA cl nL own cc Ts) {ms : List q_M} {d : Nat} {cal : Nat → List (q_V Int32) → q_H Int32 → Nat → Option (q_R Int32)} (hco : q_CO l cl Ts ms d cal) (hgood : q_GW Ts) (hR : d + 6 ≤ R.frames ∧ 60 * (d + 6) ≤ R.locals) {idx len sv kd k na ml : Nat} {x : List Nat} {M : q_M} (hlen : len = 3) (hM : ms[k]? = some M) (hna : na = M.2.2.2.2) (hml : ml = M.2.2.1) (hmk : q_MK cl Ts own idx M x kd)
    (hdg : (sv = 0 ∧ (kd = 0 ∨ kd = 3) ∧ decode cc f.1 = .ok (.invokestatic idx, 3)) ∨ (sv = 1 ∧ kd = 1 ∧ decode cc f.1 = .ok (.invokevirtual idx, 3)) ∨ (sv = 2 ∧ kd = 2 ∧ decode cc f.1 = .ok (.invokespecial idx, 3))) (hs : q_inv cal sv (k :: na :: ml :: x) len f h ns = some (.inl (f', h', ns'))) : q_K p l e R s m args below meth c S b D cA cl nL f h ns f' h' ns' := by
  subst hlen
  subst hna
  subst hml
  unfold q_inv at hs
  simp only at hs
  split at hs
  next a st htk =>
    cases hb : Nat.ble (q_cats st) 8 && (Nat.ble (q_cats a) M.2.2.1 && q_may sv x a h) with
    | false => rw [hb] at hs; cases hs
    | true =>
      rw [hb, cond_true] at hs
      simp only [Bool.and_eq_true] at hb
      obtain ⟨b1, b2, b3⟩ := hb
      split at hs
      next v h1 ns1 hcal =>
        cases hs
        obtain ⟨hd, hl1, hl2, hmet⟩ := hco k M a h ns v h' ns' hM (Nat.le_of_ble_eq_true b2) hcal
        obtain ⟨xs, x1, x2, x3⟩ := q_take_spec _ _ _ _ _ htk
        rw [List.append_nil] at x3
        have hst : f.2.2 = a.reverse ++ st := by rw [x2, x3, List.reverse_reverse]
        have hal : a.length = M.2.2.2.2 := by rw [x3, List.length_reverse, x1]
        refine ⟨hl1, hl2, fun cells slots Q hcz hr1 hr2 g H locs ls hz hP hS hl => ?_⟩
        have hroom : 2 * (F0 m f.1 ls (f.2.2.map (q_ren S b))).monitorRoom + ((st.map (q_ren S b)).map fun v => v.category).sum ≤ 8 := lv_room (by rw [q_cats_map]; exact Nat.le_of_ble_eq_true b1)
        have hts := cx.2.2.2.2.1
        have hfix : CallFix p m c cc nL s args Ts own := ⟨cx.1, cx.2.1, cx.2.2.1, cx.2.2.2.1, hts⟩
        have hK := cx.2.2.2.2.2.1
        have hmet := hmet S b D cA
        have hpre : ∀ U : State, U.heap = H → s.WarmedH U.vm → q_Pc S b D cA cl Ts a h (a.map (q_ren S b)).toArray U := fun U hU hW => ⟨rfl, by rw [hU]; exact hz, by rw [hU]; exact hP, va_K.moved hW.alike hK, fun w hw hn => by
          have h5 := hts w hw
          obtain ⟨a1, i1, x1, y1, rfl⟩ := q_isN_spec hn
          exact va_Nw.warmM hW (va_Nw.of rfl h5), cx.2.2.2.2.2.2.2.go hS hU hW⟩
        have hGw : ∀ {ret : Option FieldType}, Cond.code M.1 M.2.1 M.2.2.1 ret ∈ Ts → GoodIn Ts (Cond.code M.1 M.2.1 M.2.2.1 ret :: Ts.filter goodWord) := fun hw w' hw' => (List.mem_cons.mp hw').elim (fun e => by rw [e]; exact ⟨hw, good_of_word ((hgood _ hw).resolve_right (fun hh => by cases hh))⟩) (fun h2 => ⟨(List.mem_filter.mp h2).1, good_of_word (List.mem_filter.mp h2).2⟩)
        have hRR : M.2.2.1 ≤ 40 → (q_rm (d - 1) (h'.length - h.length) (ns' - ns)).frames + 1 ≤ R.frames ∧ 8 + (M.2.2.1 + 11) + (q_rm (d - 1) (h'.length - h.length) (ns' - ns)).locals ≤ R.locals := by
          intro h40
          have e1 : (q_rm (d - 1) (h'.length - h.length) (ns' - ns)).frames = d + 5 := by show d - 1 + 6 = d + 5; omega
          have e2 : (q_rm (d - 1) (h'.length - h.length) (ns' - ns)).locals = 60 * (d + 5) := by show 60 * (d - 1 + 6) = 60 * (d + 5); omega
          rw [e1, e2]
          obtain ⟨g1, g2⟩ := hR
          refine ⟨g1, ?_⟩
          have e3 : 60 * (d + 6) = 60 * (d + 5) + 60 := Nat.mul_succ 60 (d + 5)
          rw [e3] at g2
          revert g2
          generalize 60 * (d + 5) = X
          generalize M.2.2.1 = Y at h40 ⊢
          intro g2
          omega
        have fin : va_Run p l e R s m args below meth c H locs cells slots (h'.length - h.length) (ns' - ns) (F0 m f.1 ls (f.2.2.map (q_ren S b))) (st.map (q_ren S b)) (q_Qc S b D cA cl v h' (a.map (q_ren S b)).toArray) (fun q => S ≤ q) → W p l e R s m args below meth c H locs cells slots Q (F0 m f.1 ls (f.2.2.map (q_ren S b))) := by
          intro hrun
          refine q_goes hrun hS fun H1 locs1 z1 P1 S1 => ?_
          have g1 := g H1 locs1 ls z1 P1 S1 hl
          rw [List.map_append] at g1
          have e3 : (v.map (q_ren S b)).toList = v.toList.map (q_ren S b) := by cases v <;> rfl
          rw [e3]
          exact g1
        apply fin
        rcases hdg with ⟨rfl, hkd, hd⟩ | ⟨rfl, rfl, hd⟩ | ⟨rfl, rfl, hd⟩
        · rcases hkd with rfl | rfl
          · obtain ⟨⟨w1, w2, w3, w4⟩, w5, w6⟩ := hmk
            exact va_runS (As := a.map (q_ren S b)) hfix hmet ⟨callB_of _ hts (hGw w1) rfl rfl rfl (hts _ w2) (hts _ w5) w3 (hRR w4), hts _ w6⟩ ⟨q_blind S b D cA cl Ts a h, hpre⟩ rfl (by rw [List.length_map, hal]) hl.1 (by show f.2.2.map (q_ren S b) = _; rw [hst, List.map_append, List.map_reverse]) hroom hd ⟨hr1, hr2⟩
          · obtain ⟨host, ⟨w1, w2, w3, w4⟩, w5, w6⟩ := hmk
            exact va_runSN (As := a.map (q_ren S b)) hfix hmet ⟨⟨⟨rfl, rfl, (hRR w4).1, (hRR w4).2, pay_in hts (hGw w1), List.mem_cons_self⟩, hts _ w1, hts _ w2, ⟨w3.1, w3.2.1⟩, fun sig hsig => by have h2 := w3.2.2; rw [hsig] at h2; exact (Option.some.inj h2).symm, hts _ w5⟩, hts _ w6, trivial⟩ ⟨q_blind S b D cA cl Ts a h, hpre⟩ rfl (by rw [List.length_map, hal]) hl.1 (by show f.2.2.map (q_ren S b) = _; rw [hst, List.map_append, List.map_reverse]) hroom hd ⟨hr1, hr2⟩
        · obtain ⟨n, ci, T, N, hn, ⟨w1, w2, w3, w4⟩, w5, w6, w7, hx, hci, hc⟩ := hmk
          obtain ⟨o, r, q, ci', ha, hq, hx', hqc⟩ := q_may1 b3
          rw [hx] at hx'
          cases hx'
          subst ha
          have hw := q_ws_at (S := S) (b := b) (cA := cA) hq
          rw [show q_e S b cA q = .inr (ci, q_fs S b q.2.2 q.2.1) by unfold q_e; rw [hqc, if_pos hci]] at hw
          exact va_runV (C := M.1.cls) (As := r.map (q_ren S b)) hfix hmet ⟨callB_of n hts (hGw w1) rfl rfl rfl (hts _ w2) (hts _ w5) w3 (hRR w4), hts _ w6, hts _ w7⟩ ⟨q_blind S b D cA cl Ts _ h, va_recv hK hP hc hw, hpre⟩ rfl (by rw [List.length_map]; rw [List.length_cons] at hal; omega) hl.1 (by show f.2.2.map (q_ren S b) = _; rw [hst, List.map_append, List.map_reverse, List.map_cons, List.reverse_cons, List.append_assoc]; rfl) hroom hd ⟨hr1, hr2⟩
        · obtain ⟨n, hn, ⟨w1, w2, w3, w4⟩, w5, w6, w7, w8⟩ := hmk
          obtain ⟨o, r, ha⟩ := q_may2 b3
          subst ha
          rw [w8] at hmet w1
          exact va_runI (As := r.map (q_ren S b)) hfix hmet ⟨callB_of n hts (hGw w1) rfl rfl rfl (hts _ w2) (hts _ w5) w3 (hRR w4), w7, hts _ w6⟩ ⟨q_blind S b D cA cl Ts _ h, hpre⟩ rfl (by rw [List.length_map]; rw [List.length_cons] at hal; omega) hl.1 (by show f.2.2.map (q_ren S b) = _; rw [hst, List.map_append, List.map_reverse, List.map_cons, List.reverse_cons, List.append_assoc]; rfl) hroom hd ⟨hr1, hr2⟩
      next => cases hs
  next => cases hs
end QS4
