/-! THE SMALL MACHINE'S STEPS ARE THE MACHINE'S: cell n lies at S + n; b is the script's cell -/
def q_ren (S b : Nat) : q_V Int32 → Value
  | .inl x => .int x
  | .inr (.inl y) => .long y
  | .inr (.inr 0) => .null
  | .inr (.inr 1) => .ref b
  | .inr (.inr (n + 2)) => .ref (S + n)
def q_rl (S b : Nat) (q : Nat × q_V Int32) : Nat × Value := (q.1, q_ren S b q.2)
def q_in (v : q_V Int32) : Int32 := match v with
  | .inl x => x
  | _ => 0
def q_lg (v : q_V Int32) : Int64 := match v with
  | .inr (.inl y) => y
  | _ => 0
def q_fs (S b : Nat) (u : q_U Int32) (N : Nat) : List Value := (List.range N).map (fun k => q_ren S b ((q_at u k).getD (.inr (.inr 0))))
def q_e (S b : Nat) (cA : Nat → ClassId) (q : q_C Int32) : va_E :=
  if q.1 < 100 then .inr (q.1, q_fs S b q.2.2 q.2.1)
  else if q.1 = 103 then .inl (cA q.1, q.2.1, .inr (.inl (fun j => q_lg (q_el q_O32 q j))))
  else .inl (cA q.1, q.2.1, .inl (fun j => q_in (q_el q_O32 q j)))
def q_ws (S b : Nat) (cA : Nat → ClassId) (h : q_H Int32) : va_W := h.mapIdx (fun i q => (S + i, q_e S b cA q))
def q_tys (cA : Nat → ClassId) : List (ClassId × FieldType) := [(cA 100, .int), (cA 101, .byte), (cA 102, .boolean), (cA 103, .long)]
theorem q_ren_cat (S b : Nat) (v : q_V Int32) : (q_ren S b v).category = q_cat v := by
  rcases v with x | y | n
  · rfl
  · rfl
  · rcases n with _ | _ | n <;> rfl
theorem q_cats_map (S b : Nat) (st : List (q_V Int32)) : ((st.map (q_ren S b)).map fun v => v.category).sum = q_cats st := by
  induction st with
  | nil => rfl
  | cons v st ih => simp only [List.map_cons, List.sum_cons, ih, q_ren_cat, q_cats]
theorem q_ws_at {S b : Nat} {cA : Nat → ClassId} {h : q_H Int32} {o : Nat} {q : q_C Int32} (hq : h[o]? = some q) : (q_ws S b cA h)[o]? = some (S + o, q_e S b cA q) := by
  simp [q_ws, List.getElem?_mapIdx, hq]
theorem q_ws_len (S b : Nat) (cA : Nat → ClassId) (h : q_H Int32) : (q_ws S b cA h).length = h.length := by simp [q_ws]
theorem q_ws_set (S b : Nat) (cA : Nat → ClassId) (h : q_H Int32) (o : Nat) (q : q_C Int32) : q_ws S b cA (h.set o q) = (q_ws S b cA h).set o (S + o, q_e S b cA q) := by
  apply List.ext_getElem?
  intro i
  simp only [q_ws, List.getElem?_mapIdx, List.getElem?_set, List.length_mapIdx]
  by_cases hi : o = i
  · subst hi
    by_cases hl : o < h.length <;> simp [hl]
  · simp [hi]
theorem q_ws_app (S b : Nat) (cA : Nat → ClassId) (h : q_H Int32) (q : q_C Int32) : q_ws S b cA (h ++ [q]) = q_ws S b cA h ++ [(S + h.length, q_e S b cA q)] := by
  simp [q_ws, List.mapIdx_append]
theorem q_ws_D (S b : Nat) (cA : Nat → ClassId) (h : q_H Int32) : va_D (fun q => S ≤ q) (q_ws S b cA h) := by
  refine ⟨fun i j x y hx hy e => ?_, fun k x hx => ?_⟩
  · simp only [q_ws, List.getElem?_mapIdx, Option.map_eq_some_iff] at hx hy
    obtain ⟨_, _, rfl⟩ := hx
    obtain ⟨_, _, rfl⟩ := hy
    simp only at e
    omega
  · simp only [q_ws, List.getElem?_mapIdx, Option.map_eq_some_iff] at hx
    obtain ⟨_, _, rfl⟩ := hx
    exact Nat.le_add_right _ _
theorem q_at_mem {α : Type} : ∀ {l : List (Nat × α)} {i : Nat} {v : α}, q_at l i = some v → (i, v) ∈ l
  | [], _, _, h => by simp [q_at] at h
  | q :: r, i, v, h => by
    unfold q_at at h
    cases hb : Nat.beq q.1 i with
    | true =>
      rw [hb, cond_true] at h
      have e := Nat.eq_of_beq_eq_true hb
      cases h
      subst e
      exact List.mem_cons_self
    | false =>
      rw [hb, cond_false] at h
      exact List.mem_cons_of_mem _ (q_at_mem h)
theorem q_lv {S b : Nat} {ls : Array Slot} {nL : Nat} {l : q_U Int32} (hl : lv_has ls nL (l.map (q_rl S b))) {i : Nat} {v : q_V Int32} (h : q_at l i = some v) : ls[i]? = some (.val (q_ren S b v)) :=
  hl.2.2 (i, q_ren S b v) (List.mem_map.mpr ⟨(i, v), q_at_mem h, rfl⟩)
theorem q_at_cons {α : Type} (i : Nat) (v : α) (l : List (Nat × α)) (k : Nat) : q_at ((i, v) :: l) k = if i = k then some v else q_at l k := by
  show (bif Nat.beq i k then some v else q_at l k) = _
  by_cases h : i = k
  · subst h
    simp
  · have h2 : Nat.beq i k = false := by
      cases hb : Nat.beq i k with
      | true => exact absurd (Nat.eq_of_beq_eq_true hb) h
      | false => rfl
    rw [h2, if_neg h]
    rfl
theorem q_fs_len (S b : Nat) (u : q_U Int32) (N : Nat) : (q_fs S b u N).length = N := by simp [q_fs]
theorem q_fs_at {S b : Nat} {u : q_U Int32} {N k : Nat} {v : q_V Int32} (hk : k < N) (h : q_at u k = some v) : (q_fs S b u N)[k]? = some (q_ren S b v) := by
  simp [q_fs, List.getElem?_map, List.getElem?_range hk, h]
theorem q_fs_set (S b : Nat) (u : q_U Int32) (N k : Nat) (v : q_V Int32) : q_fs S b ((k, v) :: u) N = (q_fs S b u N).set k (q_ren S b v) := by
  apply List.ext_getElem?
  intro i
  simp only [q_fs, List.getElem?_set, List.getElem?_map, List.length_map, List.length_range]
  by_cases hi : k = i
  · subst hi
    by_cases hl : k < N
    · simp [hl, q_at_cons]
    · simp [hl]
  · by_cases hl : i < N
    · simp [hi, hl, q_at_cons]
    · simp [hi, hl]
theorem q_beq {a b : Nat} (h : Nat.beq a b = true) : a = b := Nat.eq_of_beq_eq_true h
theorem q_blt {a b : Nat} (h : Nat.blt a b = true) : a < b := Nat.le_of_ble_eq_true h
theorem q_ix_spec {x : Int32} {j : Nat} (h : q_ix x = some j) : ¬ x < 0 ∧ x.toNatClampNeg = j := by
  unfold q_ix at h
  by_cases hx : x < 0
  · rw [if_pos hx] at h; cases h
  · rw [if_neg hx] at h
    exact ⟨hx, Option.some.inj h⟩
theorem q_ib_spec {x : Int32} (h : q_ib x = true) : x = 0 ∨ x = 1 := by
  unfold q_ib at h
  simpa using h
def q_G (p : Program) (l : Launch) (e : Env) (R : Room) (s : State) (m : MethodId) (args : Array Value) (below : List Frame) (meth : Method) (c : Code) (S b : Nat) (D : va_G) (cA : Nat → ClassId) (cl : List vw_C) (nL : Nat) (f : q_F Int32) (h : q_H Int32) (cells slots : Nat) (Q : State → Prop) : Prop :=
  ∀ (H : Heap) (locs : List Loc) (ls : Array Slot), H.size = S + h.length → va_P D cl (q_ws S b cA h) H → va_S (fun q => S ≤ q) s.heap H locs → lv_has ls nL (f.2.1.map (q_rl S b)) → W p l e R s m args below meth c H locs cells slots Q (F0 m f.1 ls (f.2.2.map (q_ren S b)))
def q_K (p : Program) (l : Launch) (e : Env) (R : Room) (s : State) (m : MethodId) (args : Array Value) (below : List Frame) (meth : Method) (c : Code) (S b : Nat) (D : va_G) (cA : Nat → ClassId) (cl : List vw_C) (nL : Nat) (f : q_F Int32) (h : q_H Int32) (ns : Nat) (f' : q_F Int32) (h' : q_H Int32) (ns' : Nat) : Prop :=
  h.length ≤ h'.length ∧ ns ≤ ns' ∧ ∀ (cells slots : Nat) (Q : State → Prop), s.heap.size + cells = S + h.length → cells + (h'.length - h.length) ≤ R.cells → slots + (ns' - ns) ≤ R.slots → q_G p l e R s m args below meth c S b D cA cl nL f' h' (cells + (h'.length - h.length)) (slots + (ns' - ns)) Q → q_G p l e R s m args below meth c S b D cA cl nL f h cells slots Q
abbrev q_CX (p : Program) (s : State) (m : MethodId) (args : Array Value) (c : Code) (S : Nat) (D : va_G) (cA : Nat → ClassId) (cl : List vw_C) (nL : Nat) (own : String) (cc : ByteArray) (Ts : List Cond) : Prop :=
  p.tables.exec = Jvm.exec ∧ c.code = cc ∧ c.maxLocals = nL ∧ s.vm.findClass own = some m.cls ∧ (∀ w ∈ Ts, w.before args s = true) ∧ va_K D cl (q_tys cA) s ∧ S ≤ s.heap.size ∧ q_ST S s
section QS1
variable {p : Program} {l : Launch} {e : Env} {R : Room} {s : State} {m : MethodId} {args : Array Value} {below : List Frame} {meth : Method} {c : Code} {S b : Nat} {D : va_G} {cA : Nat → ClassId} {cl : List vw_C} {nL : Nat} {own : String} {cc : ByteArray} {Ts : List Cond}
variable {f f' : q_F Int32} {h h' : q_H Int32} {ns ns' : Nat}
theorem q_K.same (k : ∀ (cells slots : Nat) (Q : State → Prop), q_G p l e R s m args below meth c S b D cA cl nL f' h cells slots Q → q_G p l e R s m args below meth c S b D cA cl nL f h cells slots Q) : q_K p l e R s m args below meth c S b D cA cl nL f h ns f' h ns :=
  ⟨Nat.le_refl _, Nat.le_refl _, fun cells slots Q _ _ _ g => k cells slots Q (by simpa using g)⟩
theorem q_s_nx {len : Nat} {st : List (q_V Int32)} (hs : q_nx len f st h ns = some (.inl (f', h', ns'))) (k : ∀ (cells slots : Nat) (Q : State → Prop), q_G p l e R s m args below meth c S b D cA cl nL (f.1 + len, f.2.1, st) h cells slots Q → q_G p l e R s m args below meth c S b D cA cl nL f h cells slots Q) : q_K p l e R s m args below meth c S b D cA cl nL f h ns f' h' ns' := by
  cases hs
  exact q_K.same k
/-- a row that leaves heap and locals as they are: its stack before and behind -/
theorem q_s_row {pc' : Nat} {st st' : List (q_V Int32)} (e0 : f.2.2 = st) (k : ∀ (H : Heap) (locs : List Loc) (ls : Array Slot) (cells slots : Nat) (Q : State → Prop), W p l e R s m args below meth c H locs cells slots Q (F0 m pc' ls (st'.map (q_ren S b))) → W p l e R s m args below meth c H locs cells slots Q (F0 m f.1 ls (st.map (q_ren S b)))) : ∀ (cells slots : Nat) (Q : State → Prop), q_G p l e R s m args below meth c S b D cA cl nL (pc', f.2.1, st') h cells slots Q → q_G p l e R s m args below meth c S b D cA cl nL f h cells slots Q := by
  intro cells slots Q g H locs ls hz hP hS hl
  rw [e0]
  exact k H locs ls cells slots Q (g H locs ls hz hP hS hl)
theorem q_s_ld {t i len : Nat} (hs : q_ld t i len f h ns = some (.inl (f', h', ns'))) (row : ∀ (v : q_V Int32), q_kind v = t → ∀ (H : Heap) (locs : List Loc) (ls : Array Slot) (cells slots : Nat) (Q : State → Prop) (rest : List Value), ls[i]? = some (.val (q_ren S b v)) → W p l e R s m args below meth c H locs cells slots Q (F0 m (f.1 + len) ls (q_ren S b v :: rest)) → W p l e R s m args below meth c H locs cells slots Q (F0 m f.1 ls rest)) : q_K p l e R s m args below meth c S b D cA cl nL f h ns f' h' ns' := by
  unfold q_ld at hs
  split at hs
  next v hv =>
    cases ht : Nat.beq (q_kind v) t with
    | false => rw [ht] at hs; cases hs
    | true =>
      rw [ht, cond_true] at hs
      refine q_s_nx hs fun cells slots Q g H locs ls hz hP hS hl => ?_
      exact row v (q_beq ht) H locs ls cells slots Q _ (q_lv hl hv) (g H locs ls hz hP hS hl)
  next => cases hs
theorem q_filter1 (S b i : Nat) (l : q_U Int32) : (l.map (q_rl S b)).filter (fun q => !(q.1 == i) && !(q.1 + 1 == i && q.2.category == 2)) = (l.filter (q_keep1 i)).map (q_rl S b) := by
  rw [List.filter_map]
  congr 1
  apply List.filter_congr
  intro q _
  simp only [Function.comp, q_rl, q_ren_cat, q_keep1]
theorem q_filter2 (S b i : Nat) (l : q_U Int32) : (l.map (q_rl S b)).filter (fun q => !(q.1 == i) && (!(q.1 == i + 1) && !(q.1 + 1 == i && q.2.category == 2))) = (l.filter (q_keep2 i)).map (q_rl S b) := by
  rw [List.filter_map]
  congr 1
  apply List.filter_congr
  intro q _
  simp only [Function.comp, q_rl, q_ren_cat, q_keep2]
theorem q_s_st {t i len : Nat} (ht2 : t ≠ 2) (hs : q_st t i len f h ns = some (.inl (f', h', ns'))) (row : ∀ (v : q_V Int32), q_kind v = t → ∀ (H : Heap) (locs : List Loc) (ls : Array Slot) (cells slots : Nat) (Q : State → Prop) (rest : List Value) (lv lv' : List (Nat × Value)), lv_has ls nL lv → (i, q_ren S b v) :: lv.filter (fun q => !(q.1 == i) && !(q.1 + 1 == i && q.2.category == 2)) = lv' → (∀ ls' : Array Slot, lv_has ls' nL lv' → W p l e R s m args below meth c H locs cells slots Q (F0 m (f.1 + len) ls' rest)) → W p l e R s m args below meth c H locs cells slots Q (F0 m f.1 ls (q_ren S b v :: rest))) : q_K p l e R s m args below meth c S b D cA cl nL f h ns f' h' ns' := by
  unfold q_st at hs
  split at hs
  next v r hv =>
    cases ht : Nat.beq (q_kind v) t with
    | false => rw [ht] at hs; cases hs
    | true =>
      have h2 : Nat.beq t 2 = false := by
        cases hb : Nat.beq t 2 with
        | true => exact absurd (q_beq hb) ht2
        | false => rfl
      rw [ht, cond_true, h2, cond_false] at hs
      cases hs
      refine q_K.same fun cells slots Q g H locs ls hz hP hS hl => ?_
      rw [hv]
      refine row v (q_beq ht) H locs ls cells slots Q _ _ _ hl rfl fun ls' hl' => g H locs ls' hz hP hS ?_
      rw [q_filter1] at hl'
      exact hl'
  next => cases hs
theorem q_s_st2 {i len : Nat} (hs : q_st 2 i len f h ns = some (.inl (f', h', ns'))) (row : ∀ (v : q_V Int32), q_kind v = 2 → ∀ (H : Heap) (locs : List Loc) (ls : Array Slot) (cells slots : Nat) (Q : State → Prop) (rest : List Value) (lv lv' : List (Nat × Value)), lv_has ls nL lv → (i, q_ren S b v) :: lv.filter (fun q => !(q.1 == i) && (!(q.1 == i + 1) && !(q.1 + 1 == i && q.2.category == 2))) = lv' → (∀ ls' : Array Slot, lv_has ls' nL lv' → W p l e R s m args below meth c H locs cells slots Q (F0 m (f.1 + len) ls' rest)) → W p l e R s m args below meth c H locs cells slots Q (F0 m f.1 ls (q_ren S b v :: rest))) : q_K p l e R s m args below meth c S b D cA cl nL f h ns f' h' ns' := by
  unfold q_st at hs
  split at hs
  next v r hv =>
    cases ht : Nat.beq (q_kind v) 2 with
    | false => rw [ht] at hs; cases hs
    | true =>
      rw [ht, cond_true] at hs
      cases hs
      refine q_K.same fun cells slots Q g H locs ls hz hP hS hl => ?_
      rw [hv]
      refine row v (q_beq ht) H locs ls cells slots Q _ _ _ hl rfl fun ls' hl' => g H locs ls' hz hP hS ?_
      rw [q_filter2] at hl'
      exact hl'
  next => cases hs
theorem q_kind0 {v : q_V Int32} (h : q_kind v = 0) : ∃ x, v = .inl x := by
  rcases v with x | y | n
  · exact ⟨x, rfl⟩
  · cases h
  · rcases n with _ | n <;> cases h
theorem q_kind1 {v : q_V Int32} (h : q_kind v = 1) : ∃ a, q_ren S b v = .ref a := by
  rcases v with x | y | n
  · cases h
  · cases h
  · rcases n with _ | _ | n
    · cases h
    · exact ⟨b, rfl⟩
    · exact ⟨S + n, rfl⟩
theorem q_kind2 {v : q_V Int32} (h : q_kind v = 2) : ∃ x, v = .inr (.inl x) := by
  rcases v with x | y | n
  · cases h
  · exact ⟨y, rfl⟩
  · rcases n with _ | n <;> cases h
theorem q_s_b2 {j len : Nat} (hs : q_b2 q_O32 j len f h ns = some (.inl (f', h', ns'))) (row : ∀ (x y z : Int32), q_o2 j x y = some z → ∀ (H : Heap) (locs : List Loc) (ls : Array Slot) (cells slots : Nat) (Q : State → Prop) (rest : List Value), W p l e R s m args below meth c H locs cells slots Q (F0 m (f.1 + len) ls (.int z :: rest)) → W p l e R s m args below meth c H locs cells slots Q (F0 m f.1 ls (.int y :: .int x :: rest))) : q_K p l e R s m args below meth c S b D cA cl nL f h ns f' h' ns' := by
  unfold q_b2 at hs
  split at hs
  next y x r hv =>
    split at hs
    next z hz => exact q_s_nx hs (q_s_row hv fun H locs ls cells slots Q k => row x y z hz H locs ls cells slots Q _ k)
    next => cases hs
  next => cases hs
theorem q_s_b1 {j len : Nat} (hs : q_b1 q_O32 j len f h ns = some (.inl (f', h', ns'))) (row : ∀ (x z : Int32), q_o1 j x = some z → ∀ (H : Heap) (locs : List Loc) (ls : Array Slot) (cells slots : Nat) (Q : State → Prop) (rest : List Value), W p l e R s m args below meth c H locs cells slots Q (F0 m (f.1 + len) ls (.int z :: rest)) → W p l e R s m args below meth c H locs cells slots Q (F0 m f.1 ls (.int x :: rest))) : q_K p l e R s m args below meth c S b D cA cl nL f h ns f' h' ns' := by
  unfold q_b1 at hs
  split at hs
  next x r hv =>
    split at hs
    next z hz => exact q_s_nx hs (q_s_row hv fun H locs ls cells slots Q k => row x z hz H locs ls cells slots Q _ k)
    next => cases hs
  next => cases hs
theorem q_s_l2 {j len : Nat} (hs : q_l2 j len f h ns = some (.inl (f', h', ns'))) (row : ∀ (x y z : Int64), q_lo j x y = some z → ∀ (H : Heap) (locs : List Loc) (ls : Array Slot) (cells slots : Nat) (Q : State → Prop) (rest : List Value), W p l e R s m args below meth c H locs cells slots Q (F0 m (f.1 + len) ls (.long z :: rest)) → W p l e R s m args below meth c H locs cells slots Q (F0 m f.1 ls (.long y :: .long x :: rest))) : q_K p l e R s m args below meth c S b D cA cl nL f h ns f' h' ns' := by
  unfold q_l2 at hs
  split at hs
  next y x r hv =>
    split at hs
    next z hz => exact q_s_nx hs (q_s_row hv fun H locs ls cells slots Q k => row x y z hz H locs ls cells slots Q _ k)
    next => cases hs
  next => cases hs
theorem q_s_iinc (cx : q_CX p s m args c S D cA cl nL own cc Ts) {i len : Nat} {n : Int} (hn : i < nL) (hlen : len = 3) (hdg : decode cc f.1 = .ok (.iinc i n, 3)) (hs : q_iinc q_O32 i n len f h ns = some (.inl (f', h', ns'))) : q_K p l e R s m args below meth c S b D cA cl nL f h ns f' h' ns' := by
  subst hlen
  unfold q_iinc at hs
  split at hs
  next x hx =>
    split at hs
    next y hy =>
      cases hs
      refine q_K.same fun cells slots Q g H locs ls hz hP hS hl => ?_
      obtain ⟨k, hk⟩ := List.mem_iff_getElem?.mp (List.mem_map.mpr ⟨(i, .inl x), q_at_mem hx, rfl⟩ : q_rl S b (i, .inl x) ∈ f.2.1.map (q_rl S b))
      refine lv_iinc (v := y) cx.1 cx.2.1 hdg hl (k := k) hk (Option.some.inj hy) hn rfl fun ls' hl' => g H locs ls' hz hP hS ?_
      rw [q_filter1] at hl'
      exact hl'
    next => cases hs
  next => cases hs
theorem q_s_jmp {r : List Nat} {len : Nat} {t : Option Bool} {st : List (q_V Int32)} (hs : q_jmp r len t f st h ns = some (.inl (f', h', ns'))) (k : ∀ tg, r = [tg] → ∀ (cells slots : Nat) (Q : State → Prop), (t = some true → q_G p l e R s m args below meth c S b D cA cl nL (tg, f.2.1, st) h cells slots Q) → (t = some false → q_G p l e R s m args below meth c S b D cA cl nL (f.1 + len, f.2.1, st) h cells slots Q) → t.isSome = true → q_G p l e R s m args below meth c S b D cA cl nL f h cells slots Q) : q_K p l e R s m args below meth c S b D cA cl nL f h ns f' h' ns' := by
  unfold q_jmp at hs
  split at hs
  next tg => cases hs; exact q_K.same fun cells slots Q g => k tg rfl cells slots Q (fun _ => g) (fun z => by cases z) rfl
  next tg => cases hs; exact q_K.same fun cells slots Q g => k tg rfl cells slots Q (fun z => by cases z) (fun _ => g) rfl
  next => cases hs
theorem q_s_if (cx : q_CX p s m args c S D cA cl nL own cc Ts) {cd : Jvm.ClassFile.Cond} {off : Int} {r : List Nat} {len : Nat} (hlen : len = 3) (hdg : decode cc f.1 = .ok (.ifCond cd off, 3)) (ht : ∀ tg, r = [tg] → (f.1 : Int) + off = (tg : Int)) (hs : q_if q_O32 (q_cn cd) r len f h ns = some (.inl (f', h', ns'))) : q_K p l e R s m args below meth c S b D cA cl nL f h ns f' h' ns' := by
  subst hlen
  unfold q_if at hs
  split at hs
  next x st hv =>
    refine q_s_jmp hs fun tg htg cells slots Q g1 g2 _ H locs ls hz hP hS hl => ?_
    have h1 := fun q => g1 q H locs ls hz hP hS hl
    have h2 := fun q => g2 q H locs ls hz hP hS hl
    rw [hv]
    cases cd
    · exact lv_if_eq cx.1 cx.2.1 hdg (ht tg htg) (fun q => h1 (by simpa [q_cn, q_O32, q_cm] using q)) (fun q => h2 (by simpa [q_cn, q_O32, q_cm] using q))
    · exact lv_if_ne cx.1 cx.2.1 hdg (ht tg htg) (fun q => h1 (by simpa [q_cn, q_O32, q_cm] using q)) (fun q => h2 (by simpa [q_cn, q_O32, q_cm] using q))
    · exact lv_if_lt cx.1 cx.2.1 hdg (ht tg htg) (fun q => h1 (by simpa [q_cn, q_O32, q_cm] using q)) (fun q => h2 (by simpa [q_cn, q_O32, q_cm] using q))
    · exact lv_if_ge cx.1 cx.2.1 hdg (ht tg htg) (fun q => h1 (by simpa [q_cn, q_O32, q_cm] using q)) (fun q => h2 (by simpa [q_cn, q_O32, q_cm] using q))
    · exact lv_if_gt cx.1 cx.2.1 hdg (ht tg htg) (fun q => h1 (by simpa [q_cn, q_O32, q_cm] using q)) (fun q => h2 (by simpa [q_cn, q_O32, q_cm] using q))
    · exact lv_if_le cx.1 cx.2.1 hdg (ht tg htg) (fun q => h1 (by simpa [q_cn, q_O32, q_cm] using q)) (fun q => h2 (by simpa [q_cn, q_O32, q_cm] using q))
  next => cases hs
theorem q_s_ic (cx : q_CX p s m args c S D cA cl nL own cc Ts) {cd : Jvm.ClassFile.Cond} {off : Int} {r : List Nat} {len : Nat} (hlen : len = 3) (hdg : decode cc f.1 = .ok (.if_icmp cd off, 3)) (ht : ∀ tg, r = [tg] → (f.1 : Int) + off = (tg : Int)) (hs : q_ic q_O32 (q_cn cd) r len f h ns = some (.inl (f', h', ns'))) : q_K p l e R s m args below meth c S b D cA cl nL f h ns f' h' ns' := by
  subst hlen
  unfold q_ic at hs
  split at hs
  next y x st hv =>
    refine q_s_jmp hs fun tg htg cells slots Q g1 g2 _ H locs ls hz hP hS hl => ?_
    have h1 := fun q => g1 q H locs ls hz hP hS hl
    have h2 := fun q => g2 q H locs ls hz hP hS hl
    rw [hv]
    cases cd
    · exact lv_icmp_eq cx.1 cx.2.1 hdg (ht tg htg) (fun q => h1 (by simpa [q_cn, q_O32, q_cm] using q)) (fun q => h2 (by simpa [q_cn, q_O32, q_cm] using q))
    · exact lv_icmp_ne cx.1 cx.2.1 hdg (ht tg htg) (fun q => h1 (by simpa [q_cn, q_O32, q_cm] using q)) (fun q => h2 (by simpa [q_cn, q_O32, q_cm] using q))
    · exact lv_icmp_lt cx.1 cx.2.1 hdg (ht tg htg) (fun q => h1 (by simpa [q_cn, q_O32, q_cm] using q)) (fun q => h2 (by simpa [q_cn, q_O32, q_cm] using q))
    · exact lv_icmp_ge cx.1 cx.2.1 hdg (ht tg htg) (fun q => h1 (by simpa [q_cn, q_O32, q_cm] using q)) (fun q => h2 (by simpa [q_cn, q_O32, q_cm] using q))
    · exact lv_icmp_gt cx.1 cx.2.1 hdg (ht tg htg) (fun q => h1 (by simpa [q_cn, q_O32, q_cm] using q)) (fun q => h2 (by simpa [q_cn, q_O32, q_cm] using q))
    · exact lv_icmp_le cx.1 cx.2.1 hdg (ht tg htg) (fun q => h1 (by simpa [q_cn, q_O32, q_cm] using q)) (fun q => h2 (by simpa [q_cn, q_O32, q_cm] using q))
  next => cases hs
end QS1
