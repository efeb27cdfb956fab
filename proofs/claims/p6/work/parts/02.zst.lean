/-! THE STATICS THAT NOBODY WRITES: two texts, the orders' row, two fields of the JDK -/
abbrev q_SA (S : Nat) : Nat → Prop := fun q => S ≤ q
def q_SJ (S : Nat) (K V : Nat → Nat) (U : State) : Prop := vk_S 2 q_sl q_sb K V (q_SA S) U U.heap ∧ va_Z "java/lang/String" "COMPACT_STRINGS" "Z" (.int 1) (q_SA S) U U.heap ∧ va_Zq "jdk/internal/util/Preconditions" "SIOOBE_FORMATTER" "Ljava/util/function/BiFunction;" (q_SA S) U U.heap
def q_SO (S : Nat) (K : Nat → Nat) (t : Nat) (U : State) : Prop := vk_R "GoodbyeQuay$Reader" 75 ";()<>=+-*/%" (K 0) U ∧ vk_R "GoodbyeQuay$Reader" 95 "ship pair rails lasts quarrels draw custom needs love behind left minute sails waits or and not " (K 1) U ∧ va_Z "GoodbyeQuay" "ORDERS_OF" "[I" (.ref t) (q_SA S) U U.heap ∧ va_T .int t 8 (fun j => .int (q_ord.getD j 0)) (q_SA S) U U.heap
def q_ST (S : Nat) (U : State) : Prop := ∃ (K V : Nat → Nat) (t : Nat), q_SJ S K V U ∧ q_SO S K t U
theorem q_SJ.go {S : Nat} {K V : Nat → Nat} {s U : State} {H : Heap} {locs : List Loc} (h : q_SJ S K V s) (hS : va_S (q_SA S) s.heap H locs) (hU : U.heap = H) (hW : s.WarmedH U.vm) : q_SJ S K V U := by
  subst hU
  exact ⟨(vk_S.moved hW.alike h.1).kept hS.2.1, (va_Z.moved hW.alike h.2.1).kept hS.2.1, (va_Zq.moved hW.alike h.2.2).kept hS.2.1⟩
theorem q_SO.go {S t : Nat} {K : Nat → Nat} {s U : State} {H : Heap} {locs : List Loc} (h : q_SO S K t s) (hS : va_S (q_SA S) s.heap H locs) (hU : U.heap = H) (hW : s.WarmedH U.vm) : q_SO S K t U := by
  subst hU
  exact ⟨vk_R.warm hW h.1, vk_R.warm hW h.2.1, (va_Z.moved hW.alike h.2.2.1).kept hS.2.1, (va_T.moved hW.alike h.2.2.2).kept hS.2.1⟩
theorem q_ST.go {S : Nat} {s U : State} {H : Heap} {locs : List Loc} (h : q_ST S s) (hS : va_S (q_SA S) s.heap H locs) (hU : U.heap = H) (hW : s.WarmedH U.vm) : q_ST S U := by
  obtain ⟨K, V, t, h1, h2⟩ := h
  exact ⟨K, V, t, h1.go hS hU hW, h2.go hS hU hW⟩
theorem q_SJ.same {S : Nat} {K V : Nat → Nat} {u U : State} (hv : U.vm = u.vm) (hh : U.heap = u.heap) (h : q_SJ S K V u) : q_SJ S K V U := by
  have ha : u.vm.Alike U.vm := by rw [hv]; exact Vm.Alike.refl _
  unfold q_SJ
  rw [hh]
  exact ⟨vk_S.moved ha h.1, va_Z.moved ha h.2.1, va_Zq.moved ha h.2.2⟩
theorem q_ST.same {S : Nat} {u U : State} (hv : U.vm = u.vm) (hh : U.heap = u.heap) (h : q_ST S u) : q_ST S U := by
  obtain ⟨K, V, t, h1, h2⟩ := h
  have ha : u.vm.Alike U.vm := by rw [hv]; exact Vm.Alike.refl _
  refine ⟨K, V, t, h1.same hv hh, ?_⟩
  unfold q_SO
  rw [hh]
  exact ⟨vk_R.same hv h2.1, vk_R.same hv h2.2.1, va_Z.moved ha h2.2.2.1, va_T.moved ha h2.2.2.2⟩
