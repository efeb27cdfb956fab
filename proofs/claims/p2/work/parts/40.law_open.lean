/-! THE CLAIM OUT OF ONE WALK OF THE LAW'S BODY. Your part is whole_start (and what it stands on); all else here is the same for every law, but numbers. -/
def R_law : String := "GoodbyeQuayLaw"
def lw_P (b : Addr) (xs : List Int32) (args : Array Value) (s : State) : Prop := args = #[.ref b] ∧ s.IntsAt b xs ∧ xs.length ≤ 3072 ∧ (Jvm.Cond.and given_1 narrow_1).before args s = true
def lw_Q (_ : Array Value) (s : State) (o : Outcome) (t : State) : Prop := o = .returned (some (.int 1)) ∧ Framed s o t [] 600000 7302250
def lw_Z (below : List Frame) (a : Array Value) (s : State) : State → Prop := fun t => ∃ o, t.status = .running ∧ Ended t below o ∧ lw_Q a s o t
/-- the law's own end, with 1 on the stack, nothing written that was there before, its room as the claim has it -/
theorem lw_ret {p : Program} {l : Launch} {e : Env} {s : State} {m : MethodId} {below : List Frame} {meth : Method} {c : Code} {b : Nat} (hx : p.tables.exec = Jvm.exec) (hb : c.code = code) (hr : meth.sig.returnType = ret) (hlocks : meth.locks = false) {pc : Nat} {H : Heap} {ls : Array Slot} (hdg : decode code pc = .ok (.ireturn, 1)) : W p l e room_1 s m #[Value.ref b] below meth c H [] 600000 7302250 (lw_Z below #[Value.ref b] s) (F0 m pc ls [.int 1]) := by
  intro T hT X
  obtain ⟨fs, hret, hrun, hended, hW, hframe⟩ := X.leave (v := some (.int 1)) (hlocks := hlocks) (fun h => by rw [hr] at h; cases h)
  have hmeth' : T.vm.method? m = some meth := X.method'
  refine ⟨T.setFrames fs, ?_, .returned (some (.int 1)), hrun, hended, rfl, ⟨_, rfl⟩, hW, hframe⟩
  jvm_step X.here [X.here.top, hx, hb, hdg, hmeth', hr, ret, narrow_b1]
  (try refine ⟨rfl, ?_⟩); (try refine ⟨rfl, ?_⟩)
  first | (intro acts; rw [hret _ acts rfl rfl rfl]) | rw [hret _ _ rfl rfl rfl]
  exact Steps.refl _
/-- what holds at the law's entry: the machine, the code, the tables' words (any of lw_tbl by 'hts w (by decide +kernel)'), the script of L ints xs at the cell b, what the Statement gives of the start (any of its parts by flat_of_before) -/
def lw_At (p : Program) (s : State) (m : MethodId) (meth : Method) (c : Code) (b L : Nat) (xs : Nat → Int32) : Prop :=
  p.tables.exec = Jvm.exec ∧ c.code = code ∧ meth.sig.returnType = ret ∧ c.maxLocals = 4 ∧ s.vm.findClass R_law = some m.cls ∧ (∀ w ∈ lw_tbl, w.before #[Value.ref b] s = true) ∧ va_X b L xs s s.heap ∧ b < s.heap.size ∧ meth.locks = false ∧ (Jvm.Cond.and given_1 narrow_1).before #[Value.ref b] s = true
/-- a script on which the small machine comes to the end of the law, with 1 -/
def g_Runs (xs : List Int32) : Prop := ∃ (n i : Nat) (ls : q_U Int32) (h : q_H Int32) (ns : Nat), q_iter q_O32 (some xs) g_ts n 100 g_tl i ((0, [(0, .inr (.inr 1))], []), [], 0) = some ((1620, ls, [.inl 1]), h, ns) ∧ h.length ≤ 600000 ∧ ns ≤ 7302250
theorem g_inst : ∀ (ci : Nat) (C : String) (T : u_T) (N : Nat), g_cl[ci]? = some (C, T, N) → Cond.instantiable C N ∈ g_tbl := by
  intro ci C T N h
  match ci, h with
  | 0, h => cases h; exact (g_tb1 _ (List.mem_of_getElem? (i := 51) (by decide +kernel)) rfl)
  | 1, h => cases h; exact (g_tb2 _ (List.mem_of_getElem? (i := 138) (by decide +kernel)) rfl)
  | 2, h => cases h; exact (g_tb2 _ (List.mem_of_getElem? (i := 21) (by decide +kernel)) rfl)
  | 3, h => cases h; exact (g_tb2 _ (List.mem_of_getElem? (i := 171) (by decide +kernel)) rfl)
  | 4, h => cases h; exact (g_tb1 _ (List.mem_of_getElem? (i := 163) (by decide +kernel)) rfl)
  | 5, h => cases h; exact (g_tb2 _ (List.mem_of_getElem? (i := 191) (by decide +kernel)) rfl)
  | 6, h => cases h; exact (g_tb1 _ (List.mem_of_getElem? (i := 202) (by decide +kernel)) rfl)
  | 7, h => cases h; exact (g_tb1 _ (List.mem_of_getElem? (i := 30) (by decide +kernel)) rfl)
  | 8, h => cases h; exact (g_tb1 _ (List.mem_of_getElem? (i := 45) (by decide +kernel)) rfl)
  | 9, h => cases h; exact (g_tb2 _ (List.mem_of_getElem? (i := 57) (by decide +kernel)) rfl)
  | 10, h => cases h; exact (g_tb1 _ (List.mem_of_getElem? (i := 22) (by decide +kernel)) rfl)
  | 11, h => cases h; exact (g_tb6 _ (List.mem_of_getElem? (i := 92) (by decide +kernel)) rfl)
  | k + 12, h => simp [g_cl] at h
theorem g_dend : decode code 1620 = .ok (.ireturn, 1) := by decide +kernel
theorem g_arr {s : State} {args : Array Value} {ty : FieldType} (h : (Cond.arrayClass ty).before args s = true) : ∃ cA : ClassId, ArrOfT s cA ty ∧ s.vm.findClass ("[" ++ ty.toString) = some cA := by
  obtain ⟨cA, kA, comp, h1, h2, h3⟩ := Cond.arrayClass_spec h
  exact ⟨cA, fun n z => ⟨fun k h => (by cases h), kA, h2, comp, h3⟩, h1⟩
theorem g_world {s : State} {args : Array Value} (hts : ∀ w ∈ g_tbl, w.before args s = true) : ∃ (D : va_G) (cA : Nat → ClassId), va_K D g_cl (q_tys cA) s := by
  have hc : ∀ k : Nat, ∃ (cC : ClassId) (iS : Nat → Nat), ∀ q : vw_C, g_cl[k]? = some q → u_Kn s q.1 q.2.1 q.2.2 cC iS := by
    intro k
    cases hq : g_cl[k]? with
    | none => exact ⟨0, fun _ => 0, fun q h => by cases h⟩
    | some q =>
      obtain ⟨C, T, N⟩ := q
      obtain ⟨cC, iS, hK⟩ := u_known hts (g_ck.2 k C T N hq).1 (hts _ (g_inst k C T N hq))
      exact ⟨cC, iS, fun q h => by cases h; exact hK⟩
  obtain ⟨c0, a0, f0⟩ := g_arr (hts _ g_ak.1)
  obtain ⟨c1, a1, f1⟩ := g_arr (hts _ g_ak.2.1)
  obtain ⟨c2, a2, f2⟩ := g_arr (hts _ g_ak.2.2.1)
  obtain ⟨c3, a3, f3⟩ := g_arr (hts _ g_ak.2.2.2)
  refine ⟨(fun k => Classical.choose (hc k), fun k => Classical.choose (Classical.choose_spec (hc k))), fun t => if t = 100 then c0 else if t = 101 then c1 else if t = 102 then c2 else c3, fun k q hq => Classical.choose_spec (Classical.choose_spec (hc k)) q hq, fun k q hq => ?_⟩
  match k, hq with
  | 0, hq => cases hq; exact ⟨a0, f0⟩
  | 1, hq => cases hq; exact ⟨a1, f1⟩
  | 2, hq => cases hq; exact ⟨a2, f2⟩
  | 3, hq => cases hq; exact ⟨a3, f3⟩
  | k + 4, hq => simp [q_tys] at hq
/-- OPEN: the hypothesis hruns is what is wanting -/
theorem whole_start_open {p : Program} {e : Env} {s : State} {m : MethodId} {below : List Frame} {meth : Method} {c : Code} (l : Launch) {b L : Nat} {xs : Nat → Int32} (hruns : ∀ zs : List Int32, zs.length ≤ 3072 → g_Runs zs) (hL : L ≤ 3072) (C0 : lw_At p s m meth c b L xs) : W p l e room_1 s m #[Value.ref b] below meth c s.heap [] 0 0 (lw_Z below #[Value.ref b] s) (entryFrame m ([Value.ref b] : List Value).toArray 4) := by
  obtain ⟨hx, hb, hr, hml, hown, hts, hX, hbl, hlocks, hgv⟩ := id C0
  obtain ⟨n, i, ls1, h1, ns1, hi, hlen, hns⟩ := hruns ((List.range L).map xs) (by simp; exact hL)
  have hts2 : ∀ w ∈ g_tbl, w.before #[Value.ref b] s = true := fun w hw => hts w (List.mem_filter.mp hw).1
  obtain ⟨D, cA, hK⟩ := g_world hts2
  have cx : q_CX p s m #[Value.ref b] c s.heap.size D cA g_cl 4 "GoodbyeQuayLaw" code g_tbl := ⟨hx, hb, hml, hown, hts2, hK, Nat.le_refl _⟩
  have hXl : ∀ zs, some ((List.range L).map xs) = some zs → va_X b zs.length (fun j => zs.getD j 0) s s.heap ∧ b < s.heap.size ∧ ¬ s.heap.size ≤ b := by
    intro zs hz
    cases hz
    refine ⟨?_, hbl, by omega⟩
    obtain ⟨scr, x1, x2, x3, x4, x5⟩ := hX
    refine ⟨scr, x1, x2, x3, by rw [x4]; simp, fun j hj => ?_⟩
    have hj2 : j < L := by simpa using hj
    rw [x5 j hj2]
    simp [hj2]
  obtain ⟨-, -, K⟩ := q_iter_K (l := l) (e := e) (below := below) (meth := meth) (R := room_1) (b := b) g_GH cx (d := 100) ⟨by decide, by decide⟩ g_lk11 g_kl hXl n i _ _ _ _ _ _ hi
  have hl := lv_entry ([.ref b]) (n := 4) (Nat.le_of_ble_eq_true rfl)
  rw [lg_entry_eq]
  have h1l : h1.length - ([] : q_H Int32).length = h1.length := rfl
  refine K 0 0 _ rfl (by rw [h1l, Nat.zero_add]; exact hlen) (by rw [Nat.zero_add, Nat.sub_zero]; exact hns) ?_ s.heap [] _ rfl (fun k q h => by simp [q_ws] at h) va_S.rf hl
  intro H locs ls hz hP hS hl2
  refine va_forget (fun q hq => hS.2.2 q hq) ?_
  refine W.widen (k := 600000) (n := 7302250) (by rw [h1l, Nat.zero_add]; exact hlen) (by rw [Nat.zero_add, Nat.sub_zero]; exact hns) ?_
  exact lw_ret hx hb hr hlocks g_dend
