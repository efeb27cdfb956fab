/-! THE JDK's OWN METHODS OF TEXT, over the machine itself (printed by wip/gen/genj.py, walks by hand) -/
def j_tbl : List Cond := g_tbl.filter goodWord
abbrev j_n_coder : MethodName := ⟨"java/lang/String", "coder", "()B"⟩
abbrev j_n_isLatin1 : MethodName := ⟨"java/lang/String", "isLatin1", "()Z"⟩
abbrev j_n_length : MethodName := ⟨"java/lang/String", "length", "()I"⟩
abbrev j_n_charAt : MethodName := ⟨"java/lang/String", "charAt", "(I)C"⟩
abbrev j_n_indexOf : MethodName := ⟨"java/lang/String", "indexOf", "(I)I"⟩
abbrev j_n_indexOf2 : MethodName := ⟨"java/lang/String", "indexOf", "(II)I"⟩
abbrev j_n_checkIndex : MethodName := ⟨"java/lang/String", "checkIndex", "(II)V"⟩
abbrev j_n_lCharAt : MethodName := ⟨"java/lang/StringLatin1", "charAt", "([BI)C"⟩
abbrev j_n_lIndexOf : MethodName := ⟨"java/lang/StringLatin1", "indexOf", "([BIII)I"⟩
abbrev j_n_canEncode : MethodName := ⟨"java/lang/StringLatin1", "canEncode", "(I)Z"⟩
abbrev j_n_indexOfChar : MethodName := ⟨"java/lang/StringLatin1", "indexOfChar", "([BIII)I"⟩
abbrev j_n_pCheck : MethodName := ⟨"jdk/internal/util/Preconditions", "checkIndex", "(IILjava/util/function/BiFunction;)I"⟩
theorem j_w_c_coder : Cond.code ⟨"java/lang/String", "coder", "()B"⟩ prog_17_method_152_code 1 (some .byte) ∈ j_tbl := List.mem_filter.mpr ⟨(g_tb3 _ (List.mem_of_getElem? (i := 92) (by decide +kernel)) rfl), rfl⟩
theorem j_w_i_coder : Cond.instanceMethod ⟨"java/lang/String", "coder", "()B"⟩ ∈ j_tbl := List.mem_filter.mpr ⟨(g_tb3 _ (List.mem_of_getElem? (i := 90) (by decide +kernel)) rfl), rfl⟩
theorem j_w_v_coder : Cond.selects "java/lang/String" ⟨"java/lang/String", "coder", "()B"⟩ ⟨"java/lang/String", "coder", "()B"⟩ ∈ j_tbl := List.mem_filter.mpr ⟨(g_tb3 _ (List.mem_of_getElem? (i := 91) (by decide +kernel)) rfl), rfl⟩
theorem j_w_c_isLatin1 : Cond.code ⟨"java/lang/String", "isLatin1", "()Z"⟩ prog_17_method_154_code 1 (some .boolean) ∈ j_tbl := List.mem_filter.mpr ⟨(g_tb3 _ (List.mem_of_getElem? (i := 102) (by decide +kernel)) rfl), rfl⟩
theorem j_w_i_isLatin1 : Cond.instanceMethod ⟨"java/lang/String", "isLatin1", "()Z"⟩ ∈ j_tbl := List.mem_filter.mpr ⟨(g_tb3 _ (List.mem_of_getElem? (i := 100) (by decide +kernel)) rfl), rfl⟩
theorem j_w_v_isLatin1 : Cond.selects "java/lang/String" ⟨"java/lang/String", "isLatin1", "()Z"⟩ ⟨"java/lang/String", "isLatin1", "()Z"⟩ ∈ j_tbl := List.mem_filter.mpr ⟨(g_tb3 _ (List.mem_of_getElem? (i := 101) (by decide +kernel)) rfl), rfl⟩
theorem j_w_c_length : Cond.code ⟨"java/lang/String", "length", "()I"⟩ prog_17_method_54_code 1 (some .int) ∈ j_tbl := List.mem_filter.mpr ⟨(g_tb3 _ (List.mem_of_getElem? (i := 88) (by decide +kernel)) rfl), rfl⟩
theorem j_w_i_length : Cond.instanceMethod ⟨"java/lang/String", "length", "()I"⟩ ∈ j_tbl := List.mem_filter.mpr ⟨(g_tb3 _ (List.mem_of_getElem? (i := 86) (by decide +kernel)) rfl), rfl⟩
theorem j_w_v_length : Cond.selects "java/lang/String" ⟨"java/lang/String", "length", "()I"⟩ ⟨"java/lang/String", "length", "()I"⟩ ∈ j_tbl := List.mem_filter.mpr ⟨(g_tb3 _ (List.mem_of_getElem? (i := 87) (by decide +kernel)) rfl), rfl⟩
theorem j_w_c_charAt : Cond.code ⟨"java/lang/String", "charAt", "(I)C"⟩ prog_17_method_56_code 2 (some .char) ∈ j_tbl := List.mem_filter.mpr ⟨(g_tb3 _ (List.mem_of_getElem? (i := 98) (by decide +kernel)) rfl), rfl⟩
theorem j_w_i_charAt : Cond.instanceMethod ⟨"java/lang/String", "charAt", "(I)C"⟩ ∈ j_tbl := List.mem_filter.mpr ⟨(g_tb3 _ (List.mem_of_getElem? (i := 96) (by decide +kernel)) rfl), rfl⟩
theorem j_w_v_charAt : Cond.selects "java/lang/String" ⟨"java/lang/String", "charAt", "(I)C"⟩ ⟨"java/lang/String", "charAt", "(I)C"⟩ ∈ j_tbl := List.mem_filter.mpr ⟨(g_tb3 _ (List.mem_of_getElem? (i := 97) (by decide +kernel)) rfl), rfl⟩
theorem j_w_c_indexOf : Cond.code ⟨"java/lang/String", "indexOf", "(I)I"⟩ prog_17_method_79_code 2 (some .int) ∈ j_tbl := List.mem_filter.mpr ⟨(g_tb3 _ (List.mem_of_getElem? (i := 144) (by decide +kernel)) rfl), rfl⟩
theorem j_w_i_indexOf : Cond.instanceMethod ⟨"java/lang/String", "indexOf", "(I)I"⟩ ∈ j_tbl := List.mem_filter.mpr ⟨(g_tb3 _ (List.mem_of_getElem? (i := 142) (by decide +kernel)) rfl), rfl⟩
theorem j_w_v_indexOf : Cond.selects "java/lang/String" ⟨"java/lang/String", "indexOf", "(I)I"⟩ ⟨"java/lang/String", "indexOf", "(I)I"⟩ ∈ j_tbl := List.mem_filter.mpr ⟨(g_tb3 _ (List.mem_of_getElem? (i := 143) (by decide +kernel)) rfl), rfl⟩
theorem j_w_c_indexOf2 : Cond.code ⟨"java/lang/String", "indexOf", "(II)I"⟩ prog_17_method_80_code 3 (some .int) ∈ j_tbl := List.mem_filter.mpr ⟨(g_tb3 _ (List.mem_of_getElem? (i := 148) (by decide +kernel)) rfl), rfl⟩
theorem j_w_i_indexOf2 : Cond.instanceMethod ⟨"java/lang/String", "indexOf", "(II)I"⟩ ∈ j_tbl := List.mem_filter.mpr ⟨(g_tb3 _ (List.mem_of_getElem? (i := 146) (by decide +kernel)) rfl), rfl⟩
theorem j_w_v_indexOf2 : Cond.selects "java/lang/String" ⟨"java/lang/String", "indexOf", "(II)I"⟩ ⟨"java/lang/String", "indexOf", "(II)I"⟩ ∈ j_tbl := List.mem_filter.mpr ⟨(g_tb3 _ (List.mem_of_getElem? (i := 147) (by decide +kernel)) rfl), rfl⟩
theorem j_w_c_checkIndex : Cond.code ⟨"java/lang/String", "checkIndex", "(II)V"⟩ prog_17_method_155_code 2 (none) ∈ j_tbl := List.mem_filter.mpr ⟨(g_tb3 _ (List.mem_of_getElem? (i := 108) (by decide +kernel)) rfl), rfl⟩
theorem j_w_s_checkIndex : Cond.static ⟨"java/lang/String", "checkIndex", "(II)V"⟩ ∈ j_tbl := List.mem_filter.mpr ⟨(g_tb3 _ (List.mem_of_getElem? (i := 107) (by decide +kernel)) rfl), rfl⟩
theorem j_w_c_lCharAt : Cond.code ⟨"java/lang/StringLatin1", "charAt", "([BI)C"⟩ prog_18_method_2_code 2 (some .char) ∈ j_tbl := List.mem_filter.mpr ⟨(g_tb3 _ (List.mem_of_getElem? (i := 105) (by decide +kernel)) rfl), rfl⟩
theorem j_w_s_lCharAt : Cond.static ⟨"java/lang/StringLatin1", "charAt", "([BI)C"⟩ ∈ j_tbl := List.mem_filter.mpr ⟨(g_tb3 _ (List.mem_of_getElem? (i := 104) (by decide +kernel)) rfl), rfl⟩
theorem j_w_c_lIndexOf : Cond.code ⟨"java/lang/StringLatin1", "indexOf", "([BIII)I"⟩ prog_18_method_22_code 4 (some .int) ∈ j_tbl := List.mem_filter.mpr ⟨(g_tb3 _ (List.mem_of_getElem? (i := 152) (by decide +kernel)) rfl), rfl⟩
theorem j_w_s_lIndexOf : Cond.static ⟨"java/lang/StringLatin1", "indexOf", "([BIII)I"⟩ ∈ j_tbl := List.mem_filter.mpr ⟨(g_tb3 _ (List.mem_of_getElem? (i := 151) (by decide +kernel)) rfl), rfl⟩
theorem j_w_c_canEncode : Cond.code ⟨"java/lang/StringLatin1", "canEncode", "(I)Z"⟩ prog_18_method_4_code 1 (some .boolean) ∈ j_tbl := List.mem_filter.mpr ⟨(g_tb3 _ (List.mem_of_getElem? (i := 155) (by decide +kernel)) rfl), rfl⟩
theorem j_w_s_canEncode : Cond.static ⟨"java/lang/StringLatin1", "canEncode", "(I)Z"⟩ ∈ j_tbl := List.mem_filter.mpr ⟨(g_tb3 _ (List.mem_of_getElem? (i := 154) (by decide +kernel)) rfl), rfl⟩
theorem j_w_c_indexOfChar : Cond.code ⟨"java/lang/StringLatin1", "indexOfChar", "([BIII)I"⟩ prog_18_method_23_code 6 (some .int) ∈ j_tbl := List.mem_filter.mpr ⟨(g_tb3 _ (List.mem_of_getElem? (i := 164) (by decide +kernel)) rfl), rfl⟩
theorem j_w_s_indexOfChar : Cond.static ⟨"java/lang/StringLatin1", "indexOfChar", "([BIII)I"⟩ ∈ j_tbl := List.mem_filter.mpr ⟨(g_tb3 _ (List.mem_of_getElem? (i := 163) (by decide +kernel)) rfl), rfl⟩
theorem j_w_c_pCheck : Cond.code ⟨"jdk/internal/util/Preconditions", "checkIndex", "(IILjava/util/function/BiFunction;)I"⟩ prog_21_method_11_code 3 (some .int) ∈ j_tbl := List.mem_filter.mpr ⟨(g_tb3 _ (List.mem_of_getElem? (i := 113) (by decide +kernel)) rfl), rfl⟩
theorem j_w_s_pCheck : Cond.static ⟨"jdk/internal/util/Preconditions", "checkIndex", "(IILjava/util/function/BiFunction;)I"⟩ ∈ j_tbl := List.mem_filter.mpr ⟨(g_tb3 _ (List.mem_of_getElem? (i := 112) (by decide +kernel)) rfl), rfl⟩
theorem j_w_nS : Cond.initialized "java/lang/String" ∈ j_tbl := List.mem_filter.mpr ⟨(g_tb1 _ (List.mem_of_getElem? (i := 14) (by decide +kernel)) rfl), rfl⟩
theorem j_w_nL : Cond.initialized "java/lang/StringLatin1" ∈ j_tbl := List.mem_filter.mpr ⟨(g_tb1 _ (List.mem_of_getElem? (i := 15) (by decide +kernel)) rfl), rfl⟩
theorem j_w_nP : Cond.initialized "jdk/internal/util/Preconditions" ∈ j_tbl := List.mem_filter.mpr ⟨(g_tb1 _ (List.mem_of_getElem? (i := 16) (by decide +kernel)) rfl), rfl⟩
theorem j_w_l335 : Cond.methodLink "java/lang/String" 335 ⟨"java/lang/String", "coder", "()B"⟩ ∈ j_tbl := List.mem_filter.mpr ⟨(g_tb3 _ (List.mem_of_getElem? (i := 89) (by decide +kernel)) rfl), rfl⟩
theorem j_w_l38 : Cond.fieldLink "java/lang/String" 38 "java/lang/String" "COMPACT_STRINGS" "Z" ∈ j_tbl := List.mem_filter.mpr ⟨(g_tb3 _ (List.mem_of_getElem? (i := 93) (by decide +kernel)) rfl), rfl⟩
theorem j_w_l15 : Cond.fieldLink "java/lang/String" 15 "java/lang/String" "coder" "B" ∈ j_tbl := List.mem_filter.mpr ⟨(g_tb10 _ (List.mem_of_getElem? (i := 1) (by decide +kernel)) rfl), rfl⟩
theorem j_w_l9 : Cond.fieldLink "java/lang/String" 9 "java/lang/String" "value" "[B" ∈ j_tbl := List.mem_filter.mpr ⟨(g_tb10 _ (List.mem_of_getElem? (i := 0) (by decide +kernel)) rfl), rfl⟩
theorem j_w_l492 : Cond.methodLink "java/lang/String" 492 ⟨"java/lang/String", "isLatin1", "()Z"⟩ ∈ j_tbl := List.mem_filter.mpr ⟨(g_tb3 _ (List.mem_of_getElem? (i := 99) (by decide +kernel)) rfl), rfl⟩
theorem j_w_l495 : Cond.methodLink "java/lang/String" 495 ⟨"java/lang/StringLatin1", "charAt", "([BI)C"⟩ ∈ j_tbl := List.mem_filter.mpr ⟨(g_tb3 _ (List.mem_of_getElem? (i := 103) (by decide +kernel)) rfl), rfl⟩
theorem j_w_l633 : Cond.methodLink "java/lang/String" 633 ⟨"java/lang/String", "indexOf", "(II)I"⟩ ∈ j_tbl := List.mem_filter.mpr ⟨(g_tb3 _ (List.mem_of_getElem? (i := 145) (by decide +kernel)) rfl), rfl⟩
theorem j_w_l505 : Cond.methodLink "java/lang/String" 505 ⟨"java/lang/String", "length", "()I"⟩ ∈ j_tbl := List.mem_filter.mpr ⟨(g_tb3 _ (List.mem_of_getElem? (i := 149) (by decide +kernel)) rfl), rfl⟩
theorem j_w_l637 : Cond.methodLink "java/lang/String" 637 ⟨"java/lang/StringLatin1", "indexOf", "([BIII)I"⟩ ∈ j_tbl := List.mem_filter.mpr ⟨(g_tb3 _ (List.mem_of_getElem? (i := 150) (by decide +kernel)) rfl), rfl⟩
theorem j_w_l1053 : Cond.fieldLink "java/lang/String" 1053 "jdk/internal/util/Preconditions" "SIOOBE_FORMATTER" "Ljava/util/function/BiFunction;" ∈ j_tbl := List.mem_filter.mpr ⟨(g_tb3 _ (List.mem_of_getElem? (i := 109) (by decide +kernel)) rfl), rfl⟩
theorem j_w_l1059 : Cond.methodLink "java/lang/String" 1059 ⟨"jdk/internal/util/Preconditions", "checkIndex", "(IILjava/util/function/BiFunction;)I"⟩ ∈ j_tbl := List.mem_filter.mpr ⟨(g_tb3 _ (List.mem_of_getElem? (i := 111) (by decide +kernel)) rfl), rfl⟩
theorem j_w_L9 : Cond.methodLink "java/lang/StringLatin1" 9 ⟨"java/lang/String", "checkIndex", "(II)V"⟩ ∈ j_tbl := List.mem_filter.mpr ⟨(g_tb3 _ (List.mem_of_getElem? (i := 106) (by decide +kernel)) rfl), rfl⟩
theorem j_w_L88 : Cond.methodLink "java/lang/StringLatin1" 88 ⟨"java/lang/StringLatin1", "canEncode", "(I)Z"⟩ ∈ j_tbl := List.mem_filter.mpr ⟨(g_tb3 _ (List.mem_of_getElem? (i := 153) (by decide +kernel)) rfl), rfl⟩
theorem j_w_L92 : Cond.methodLink "java/lang/StringLatin1" 92 ⟨"java/lang/Math", "max", "(II)I"⟩ ∈ j_tbl := List.mem_filter.mpr ⟨(g_tb3 _ (List.mem_of_getElem? (i := 156) (by decide +kernel)) rfl), rfl⟩
theorem j_w_L38 : Cond.methodLink "java/lang/StringLatin1" 38 ⟨"java/lang/Math", "min", "(II)I"⟩ ∈ j_tbl := List.mem_filter.mpr ⟨(g_tb3 _ (List.mem_of_getElem? (i := 159) (by decide +kernel)) rfl), rfl⟩
theorem j_w_L95 : Cond.methodLink "java/lang/StringLatin1" 95 ⟨"java/lang/StringLatin1", "indexOfChar", "([BIII)I"⟩ ∈ j_tbl := List.mem_filter.mpr ⟨(g_tb3 _ (List.mem_of_getElem? (i := 162) (by decide +kernel)) rfl), rfl⟩
theorem j_w_R97 : Cond.methodLink "GoodbyeQuay$Reader" 97 ⟨"java/lang/String", "length", "()I"⟩ ∈ j_tbl := List.mem_filter.mpr ⟨(g_tb3 _ (List.mem_of_getElem? (i := 85) (by decide +kernel)) rfl), rfl⟩
theorem j_w_R100 : Cond.methodLink "GoodbyeQuay$Reader" 100 ⟨"java/lang/String", "charAt", "(I)C"⟩ ∈ j_tbl := List.mem_filter.mpr ⟨(g_tb3 _ (List.mem_of_getElem? (i := 95) (by decide +kernel)) rfl), rfl⟩
theorem j_w_R77 : Cond.methodLink "GoodbyeQuay$Reader" 77 ⟨"java/lang/String", "indexOf", "(I)I"⟩ ∈ j_tbl := List.mem_filter.mpr ⟨(g_tb3 _ (List.mem_of_getElem? (i := 141) (by decide +kernel)) rfl), rfl⟩
theorem j_w_G393 : Cond.fieldLink "GoodbyeQuay" 393 "GoodbyeQuay" "ORDERS_OF" "[I" ∈ j_tbl := List.mem_filter.mpr ⟨(g_tb6 _ (List.mem_of_getElem? (i := 21) (by decide +kernel)) rfl), rfl⟩
theorem j_w_c_max : Cond.code ⟨"java/lang/Math", "max", "(II)I"⟩ prog_16_method_65_code 2 (some .int) ∈ j_tbl := List.mem_filter.mpr ⟨(g_tb3 _ (List.mem_of_getElem? (i := 158) (by decide +kernel)) rfl), rfl⟩
theorem j_w_s_max : Cond.static ⟨"java/lang/Math", "max", "(II)I"⟩ ∈ j_tbl := List.mem_filter.mpr ⟨(g_tb3 _ (List.mem_of_getElem? (i := 157) (by decide +kernel)) rfl), rfl⟩
theorem j_w_c_min : Cond.code ⟨"java/lang/Math", "min", "(II)I"⟩ prog_16_method_69_code 2 (some .int) ∈ j_tbl := List.mem_filter.mpr ⟨(g_tb3 _ (List.mem_of_getElem? (i := 161) (by decide +kernel)) rfl), rfl⟩
theorem j_w_s_min : Cond.static ⟨"java/lang/Math", "min", "(II)I"⟩ ∈ j_tbl := List.mem_filter.mpr ⟨(g_tb3 _ (List.mem_of_getElem? (i := 160) (by decide +kernel)) rfl), rfl⟩
theorem j_w_nM : Cond.initialized "java/lang/Math" ∈ j_tbl := List.mem_filter.mpr ⟨(g_tb1 _ (List.mem_of_getElem? (i := 18) (by decide +kernel)) rfl), rfl⟩
def j_rm (k : Nat) : Room := { frames := k, cells := 0, slots := 0, locals := 60 * k }
def j_P (av : List Value) (S : Nat) (K V : Nat → Nat) : Array Value → State → Prop := va_Pc av (fun U => q_SJ S K V U)
def j_Q (o : Option Value) : Array Value → State → Outcome → State → Prop := fun _ st oc t => oc = .returned o ∧ t.heap = st.heap
section JG
variable {p : Program} {l : Launch} {e : Env} {R : Room} {s : State} {m : MethodId} {args : Array Value} {below : List Frame} {meth : Method} {c : Code} {H : Heap} {locs : List Loc} {cells slots : Nat} {Q : State → Prop} {S : Nat} {K V : Nat → Nat} {own : String} {cc : ByteArray} {nL : Nat}
theorem j_goes {pc : Nat} {ls : Array Slot} {st0 rest : List Value} {o : Option Value} {a : Array Value} (hr : va_Run p l e R s m args below meth c H locs cells slots 0 0 (F0 m pc ls st0) rest (j_Q o a) (fun _ => False)) (kk : W p l e R s m args below meth c H locs cells slots Q (F0 m (pc + 3) ls (o.toList ++ rest))) : W p l e R s m args below meth c H locs cells slots Q (F0 m pc ls st0) := by
  intro T hT X
  obtain ⟨v', st₀, t, T', L, h0, X', hL, e1, e2, ⟨hv, hk⟩, st⟩ := hr T hT X
  have hv' : v' = o := by cases hv; rfl
  subst hv'
  have hL0 : L = [] := List.eq_nil_iff_forall_not_mem.mpr (fun q hq => hL q hq)
  subst hL0
  rw [List.append_nil] at X'
  obtain ⟨t2, a1, b1⟩ := kk T' (by rw [e1, hk, h0]) X'
  exact ⟨t2, st t2 a1, b1⟩
theorem j_blind {As : List Value} : FrameBlind (j_P As S K V) := by
  intro v U g mk q
  exact ⟨q.1, q_SJ.same (u := U) (U := U.calling g mk v) rfl rfl q.2⟩
theorem j_room {k maxL : Nat} (hR : k + 1 ≤ R.frames ∧ 60 * (k + 1) ≤ R.locals) (h : maxL ≤ 40) : (j_rm k).frames + 1 ≤ R.frames ∧ 8 + (maxL + 11) + (j_rm k).locals ≤ R.locals := by
  refine ⟨hR.1, ?_⟩
  show 8 + (maxL + 11) + 60 * k ≤ R.locals
  have := hR.2
  omega
theorem j_gin {y : MethodName} {bytes : ByteArray} {maxL : Nat} {ret : Option FieldType} (h : Cond.code y bytes maxL ret ∈ j_tbl) : GoodIn j_tbl (Cond.code y bytes maxL ret :: j_tbl) := fun w hw => (List.mem_cons.mp hw).elim (fun q => by rw [q]; exact ⟨h, good_of_word (List.mem_filter.mp h).2⟩) (fun h2 => ⟨h2, good_of_word (List.mem_filter.mp h2).2⟩)
/-- a static call -/
theorem j_goS {y : MethodName} {bytes : ByteArray} {maxL : Nat} {ret : Option FieldType} {As rest : List Value} {o : Option Value} {k n idx pc : Nat} {ls : Array Slot} (hf : CallFix p m c cc nL s args j_tbl own) (hM : Met l y (.code y bytes maxL ret :: j_tbl) (j_rm k) (j_P As S K V) (j_Q o) 0 0 (fun _ => False)) (w1 : Cond.code y bytes maxL ret ∈ j_tbl) (w2 : Cond.initialized y.cls ∈ j_tbl) (w3 : Cond.methodLink own idx y ∈ j_tbl) (w4 : Cond.static y ∈ j_tbl) (w5 : y.cls ≠ "java/lang/invoke/MethodHandle" ∧ y.cls ≠ "java/lang/invoke/VarHandle" ∧ (parseMethodDescriptor y.desc).map (fun d => d.parameters.length) = some n) (hn : As.length = n) (h40 : maxL ≤ 40) (hR : k + 1 ≤ R.frames ∧ 60 * (k + 1) ≤ R.locals) (hJ : q_SJ S K V s) (hS : va_S (q_SA S) s.heap H locs) (hls : ls.size = nL) (hcat : (rest.map fun v => v.category).sum ≤ 8) (hdg : decode cc pc = .ok (.invokestatic idx, 3)) (hr : cells ≤ R.cells ∧ slots ≤ R.slots) {st0 : List Value} (hst : st0 = As.reverse ++ rest) (kk : W p l e R s m args below meth c H locs cells slots Q (F0 m (pc + 3) ls (o.toList ++ rest))) : W p l e R s m args below meth c H locs cells slots Q (F0 m pc ls st0) := by
  have hts := hf.2.2.2.2
  refine j_goes (o := o) (a := As.toArray) (rest := rest) ?_ kk
  exact va_runS (As := As) (bytes := bytes) (maxL := maxL) (ret := ret) hf hM ⟨callB_of n hts (j_gin w1) rfl rfl rfl (hts _ w2) (hts _ w3) w5 (j_room hR h40), hts _ w4⟩ ⟨j_blind, fun U hU hW => ⟨rfl, hJ.go hS hU hW⟩⟩ rfl hn hls hst (lv_room hcat) hdg hr
/-- a call by a text -/
theorem j_goV {y : MethodName} {bytes : ByteArray} {maxL : Nat} {ret : Option FieldType} {As rest : List Value} {o : Option Value} {k n idx pc i : Nat} {ls : Array Slot} (hf : CallFix p m c cc nL s args j_tbl own) (hi : i < 2) (hM : Met l y (.code y bytes maxL ret :: j_tbl) (j_rm k) (j_P (.ref (K i) :: As) S K V) (j_Q o) 0 0 (fun _ => False)) (hy : y.cls = "java/lang/String") (w1 : Cond.code y bytes maxL ret ∈ j_tbl) (w2 : Cond.initialized y.cls ∈ j_tbl) (w3 : Cond.methodLink own idx y ∈ j_tbl) (w4 : Cond.instanceMethod y ∈ j_tbl) (w6 : Cond.selects "java/lang/String" y y ∈ j_tbl) (w5 : y.cls ≠ "java/lang/invoke/MethodHandle" ∧ y.cls ≠ "java/lang/invoke/VarHandle" ∧ (parseMethodDescriptor y.desc).map (fun d => d.parameters.length) = some n) (hn : As.length = n) (h40 : maxL ≤ 40) (hR : k + 1 ≤ R.frames ∧ 60 * (k + 1) ≤ R.locals) (hJ : q_SJ S K V s) (hS : va_S (q_SA S) s.heap H locs) (hls : ls.size = nL) (hcat : (rest.map fun v => v.category).sum ≤ 8) (hdg : decode cc pc = .ok (.invokevirtual idx, 3)) (hr : cells ≤ R.cells ∧ slots ≤ R.slots) {st0 : List Value} (hst : st0 = As.reverse ++ .ref (K i) :: rest) (kk : W p l e R s m args below meth c H locs cells slots Q (F0 m (pc + 3) ls (o.toList ++ rest))) : W p l e R s m args below meth c H locs cells slots Q (F0 m pc ls st0) := by
  have hts := hf.2.2.2.2
  refine j_goes (o := o) (a := (Value.ref (K i) :: As).toArray) (rest := rest) ?_ kk
  exact va_runV (C := "java/lang/String") (As := As) (bytes := bytes) (maxL := maxL) (ret := ret) hf hM ⟨callB_of n hts (j_gin w1) rfl rfl rfl (hts _ w2) (hts _ w3) w5 (j_room hR h40), hts _ w4, hts _ w6⟩ ⟨j_blind, vk_recv hJ.1 hi hS, fun U hU hW => ⟨rfl, hJ.go hS hU hW⟩⟩ rfl hn hls hst (lv_room hcat) hdg hr
end JG

theorem j_shr0 {i : Nat} (hi : i < 2) : Int32.ofNat (q_sl.getD i 0) >>> ((0 : Int32) &&& 31) = Int32.ofNat (q_sl.getD i 0) := by
  rcases (show i = 0 ∨ i = 1 by omega) with rfl | rfl <;> decide
theorem j_sl {i : Nat} (hi : i < 2) : q_sl.getD i 0 < 128 ∧ (q_sb.getD i []).length = q_sl.getD i 0 := by
  rcases (show i = 0 ∨ i = 1 by omega) with rfl | rfl <;> decide
theorem j_nat {x : Int32} {N : Nat} (hN : N < 128) (h0 : ¬ x < 0) (h1 : x < Int32.ofNat N) : x.toInt = (x.toNatClampNeg : Int) ∧ x.toNatClampNeg < N := by
  have a1 : (0 : Int) ≤ x.toInt := by
    have := Int32.not_lt.mp h0
    simpa using Int32.le_iff_toInt_le.mp this
  have a2 : x.toInt < (N : Int) := by
    have := Int32.lt_iff_toInt_lt.mp h1
    rwa [Int32.toInt_ofNat_of_lt (by omega)] at this
  have a3 : x.toNatClampNeg = x.toInt.toNat := rfl
  omega
theorem j_vin {i : Nat} {x : Int32} (hi : i < 2) (h0 : ¬ x < 0) (h1 : x < Int32.ofNat (q_sl.getD i 0)) : vp_in x (q_sl.getD i 0) := by
  have h := (j_nat (j_sl hi).1 h0 h1).2
  intro q
  rcases q with q | q
  · exact h0 q
  · omega
theorem j_nch0 : ∀ i, i < 2 → ∀ j, j < 96 → (j < q_sl.getD i 0 → narrow .char (.int (q_chr i j)) = .int (q_chr i j)) := by decide +kernel
theorem j_nch {i : Nat} {x : Int32} (hi : i < 2) (h0 : ¬ x < 0) (h1 : x < Int32.ofNat (q_sl.getD i 0)) : narrow .char (.int (q_chr i x.toNatClampNeg)) = .int (q_chr i x.toNatClampNeg) := by
  have h := (j_nat (j_sl hi).1 h0 h1).2
  have h2 : q_sl.getD i 0 ≤ 96 := by rcases (show i = 0 ∨ i = 1 by omega) with rfl | rfl <;> decide
  exact j_nch0 i hi _ (by omega) h
def j_can (x : Int32) : Int32 := if x < 0 then 0 else if 255 < x then 0 else 1
theorem j_can_lt {x : Int32} (h : x < 0) : j_can x = 0 := if_pos h
theorem j_can_gt {x : Int32} (h : 255 < x) : j_can x = 0 := by
  unfold j_can
  by_cases h2 : x < 0
  · rw [if_pos h2]
  · rw [if_neg h2, if_pos h]
theorem j_can_in {x : Int32} (h : ¬ x < 0) (h2 : ¬ 255 < x) : j_can x = 1 := by
  unfold j_can
  rw [if_neg h, if_neg h2]

set_option maxRecDepth 100000 in
theorem j_c_coder {l : Launch} {S : Nat} {K V : Nat → Nat} {i : Nat} (hi : i < 2) : Met l j_n_coder (.code j_n_coder prog_17_method_152_code 1 (some .byte) :: j_tbl) (j_rm 0) (j_P [.ref (K i)] S K V) (j_Q (some (.int 0))) 0 0 (fun _ => False) := by
  refine Met.ofW (cc := prog_17_method_152_code) (maxL := 1) (ret := some .byte) (by decide) rfl ?_
  intro p e s m args below meth c s₁ B hml hv
  obtain ⟨rfl, hJ⟩ := hv
  have hx := B.exec
  have hb := B.bytes
  have hr := B.returns
  have hts0 := atoms_spec (ws := .code j_n_coder prog_17_method_152_code 1 (some .byte) :: j_tbl) B.pre
  have hts : ∀ w ∈ j_tbl, w.before ([.ref (K i)] : List Value).toArray s = true := fun w hw => hts0 w (List.mem_cons_of_mem _ hw)
  have hown : s.vm.findClass "java/lang/String" = some m.cls := findClass_of_methodNamed B.named
  have hlocks := B.notSynchronized
  have hS : va_S (q_SA S) s.heap s.heap [] := va_S.rf
  have hf : CallFix p m c prog_17_method_152_code 1 s ([.ref (K i)] : List Value).toArray j_tbl "java/lang/String" := ⟨hx, hb, hml, hown, hts⟩
  have hl := lv_entry ([.ref (K i)]) (n := 1) (Nat.le_of_ble_eq_true rfl)
  rw [lg_entry_eq]
  generalize (lg_sl ([.ref (K i)]) ++ List.replicate (1 - (lg_sl ([.ref (K i)])).length) Slot.unset).toArray = ls at hl ⊢
  have hl : lv_has ls 1 [(0, .ref (K i))] := hl
  refine va_gets (C := "java/lang/String") (n := "COMPACT_STRINGS") (d := "Z") (ref := "java/lang/String") hx hb hJ.2.1 hS hown (hts _ j_w_l38) (fun _ h => h) (show decode prog_17_method_152_code 0 = .ok (.getstatic 38, 3) by decide +kernel) ?_
  refine lv_if_eq (tgt := 13) hx hb (show decode prog_17_method_152_code 3 = .ok (.ifCond .eq 10, 3) by decide +kernel) (by decide) (fun h => absurd h (by decide)) (fun _ => ?_)
  refine lv_aload_n hx hb (show decode prog_17_method_152_code 6 = .ok (.aload_n 0, 1) by decide +kernel) rfl (lv_at hl 0 rfl) ?_
  refine vk_getf (o := "java/lang/String") (n := "coder") (d := "B") (ref := "java/lang/String") hx hb (hJ.1.1 i hi).2.1 hS hown (hts _ j_w_l15) (fun _ h => h) (show decode prog_17_method_152_code 7 = .ok (.getfield 15, 3) by decide +kernel) ?_
  refine lv_goto (tgt := 14) hx hb (show decode prog_17_method_152_code 10 = .ok (.goto 4, 3) by decide +kernel) (by decide) ?_
  exact W.zret hx hb hr rfl (fun t ht hW => ⟨rfl, ht⟩) (fun q hq => by cases hq) (show decode prog_17_method_152_code 14 = .ok (.ireturn, 1) by decide +kernel)

set_option maxRecDepth 100000 in
theorem j_c_isLatin1 {l : Launch} {S : Nat} {K V : Nat → Nat} {i : Nat} (hi : i < 2) : Met l j_n_isLatin1 (.code j_n_isLatin1 prog_17_method_154_code 1 (some .boolean) :: j_tbl) (j_rm 0) (j_P [.ref (K i)] S K V) (j_Q (some (.int 1))) 0 0 (fun _ => False) := by
  refine Met.ofW (cc := prog_17_method_154_code) (maxL := 1) (ret := some .boolean) (by decide) rfl ?_
  intro p e s m args below meth c s₁ B hml hv
  obtain ⟨rfl, hJ⟩ := hv
  have hx := B.exec
  have hb := B.bytes
  have hr := B.returns
  have hts0 := atoms_spec (ws := .code j_n_isLatin1 prog_17_method_154_code 1 (some .boolean) :: j_tbl) B.pre
  have hts : ∀ w ∈ j_tbl, w.before ([.ref (K i)] : List Value).toArray s = true := fun w hw => hts0 w (List.mem_cons_of_mem _ hw)
  have hown : s.vm.findClass "java/lang/String" = some m.cls := findClass_of_methodNamed B.named
  have hlocks := B.notSynchronized
  have hS : va_S (q_SA S) s.heap s.heap [] := va_S.rf
  have hf : CallFix p m c prog_17_method_154_code 1 s ([.ref (K i)] : List Value).toArray j_tbl "java/lang/String" := ⟨hx, hb, hml, hown, hts⟩
  have hl := lv_entry ([.ref (K i)]) (n := 1) (Nat.le_of_ble_eq_true rfl)
  rw [lg_entry_eq]
  generalize (lg_sl ([.ref (K i)]) ++ List.replicate (1 - (lg_sl ([.ref (K i)])).length) Slot.unset).toArray = ls at hl ⊢
  have hl : lv_has ls 1 [(0, .ref (K i))] := hl
  refine va_gets (C := "java/lang/String") (n := "COMPACT_STRINGS") (d := "Z") (ref := "java/lang/String") hx hb hJ.2.1 hS hown (hts _ j_w_l38) (fun _ h => h) (show decode prog_17_method_154_code 0 = .ok (.getstatic 38, 3) by decide +kernel) ?_
  refine lv_if_eq (tgt := 17) hx hb (show decode prog_17_method_154_code 3 = .ok (.ifCond .eq 14, 3) by decide +kernel) (by decide) (fun h => absurd h (by decide)) (fun _ => ?_)
  refine lv_aload_n hx hb (show decode prog_17_method_154_code 6 = .ok (.aload_n 0, 1) by decide +kernel) rfl (lv_at hl 0 rfl) ?_
  refine vk_getf (o := "java/lang/String") (n := "coder") (d := "B") (ref := "java/lang/String") hx hb (hJ.1.1 i hi).2.1 hS hown (hts _ j_w_l15) (fun _ h => h) (show decode prog_17_method_154_code 7 = .ok (.getfield 15, 3) by decide +kernel) ?_
  refine lv_if_ne (tgt := 17) hx hb (show decode prog_17_method_154_code 10 = .ok (.ifCond .ne 7, 3) by decide +kernel) (by decide) (fun h => absurd rfl h) (fun _ => ?_)
  refine lv_iconst (v := 1) hx hb (show decode prog_17_method_154_code 13 = .ok (.iconst 1, 1) by decide +kernel) (by decide) ?_
  refine lv_goto (tgt := 18) hx hb (show decode prog_17_method_154_code 14 = .ok (.goto 4, 3) by decide +kernel) (by decide) ?_
  exact W.zret hx hb hr rfl (fun t ht hW => ⟨rfl, ht⟩) (fun q hq => by cases hq) (show decode prog_17_method_154_code 18 = .ok (.ireturn, 1) by decide +kernel)

set_option maxRecDepth 100000 in
theorem j_c_length {l : Launch} {S : Nat} {K V : Nat → Nat} {i : Nat} (hi : i < 2) : Met l j_n_length (.code j_n_length prog_17_method_54_code 1 (some .int) :: j_tbl) (j_rm 1) (j_P [.ref (K i)] S K V) (j_Q (some (.int (Int32.ofNat (q_sl.getD i 0))))) 0 0 (fun _ => False) := by
  refine Met.ofW (cc := prog_17_method_54_code) (maxL := 1) (ret := some .int) (by decide) rfl ?_
  intro p e s m args below meth c s₁ B hml hv
  obtain ⟨rfl, hJ⟩ := hv
  have hx := B.exec
  have hb := B.bytes
  have hr := B.returns
  have hts0 := atoms_spec (ws := .code j_n_length prog_17_method_54_code 1 (some .int) :: j_tbl) B.pre
  have hts : ∀ w ∈ j_tbl, w.before ([.ref (K i)] : List Value).toArray s = true := fun w hw => hts0 w (List.mem_cons_of_mem _ hw)
  have hown : s.vm.findClass "java/lang/String" = some m.cls := findClass_of_methodNamed B.named
  have hlocks := B.notSynchronized
  have hS : va_S (q_SA S) s.heap s.heap [] := va_S.rf
  have hf : CallFix p m c prog_17_method_54_code 1 s ([.ref (K i)] : List Value).toArray j_tbl "java/lang/String" := ⟨hx, hb, hml, hown, hts⟩
  have hl := lv_entry ([.ref (K i)]) (n := 1) (Nat.le_of_ble_eq_true rfl)
  rw [lg_entry_eq]
  generalize (lg_sl ([.ref (K i)]) ++ List.replicate (1 - (lg_sl ([.ref (K i)])).length) Slot.unset).toArray = ls at hl ⊢
  have hl : lv_has ls 1 [(0, .ref (K i))] := hl
  refine lv_aload_n hx hb (show decode prog_17_method_54_code 0 = .ok (.aload_n 0, 1) by decide +kernel) rfl (lv_at hl 0 rfl) ?_
  refine vk_getf (o := "java/lang/String") (n := "value") (d := "[B") (ref := "java/lang/String") hx hb (hJ.1.1 i hi).2.2.1 hS hown (hts _ j_w_l9) (fun _ h => h) (show decode prog_17_method_54_code 1 = .ok (.getfield 9, 3) by decide +kernel) ?_
  refine va_tlen (v := Int32.ofNat (q_sl.getD i 0)) hx hb (hJ.1.1 i hi).2.2.2 hS rfl (show decode prog_17_method_54_code 4 = .ok (.arraylength, 1) by decide +kernel) ?_
  refine lv_aload_n hx hb (show decode prog_17_method_54_code 5 = .ok (.aload_n 0, 1) by decide +kernel) rfl (lv_at hl 0 rfl) ?_
  refine j_goV (y := j_n_coder) (bytes := prog_17_method_152_code) (maxL := 1) (ret := (some .byte)) (K := K) (V := V) (S := S) (i := i) (k := 0) (n := 0) (As := []) (rest := [.int (Int32.ofNat (q_sl.getD i 0))]) (o := some (.int 0)) hf hi (j_c_coder hi) rfl j_w_c_coder j_w_nS j_w_l335 j_w_i_coder j_w_v_coder (by decide +kernel) rfl (by decide) ⟨Nat.le_of_ble_eq_true rfl, Nat.le_of_ble_eq_true rfl⟩ hJ hS hl.1 (Nat.le_of_ble_eq_true rfl) (show decode prog_17_method_54_code 6 = .ok (.invokevirtual 335, 3) by decide +kernel) ⟨Nat.zero_le _, Nat.zero_le _⟩ rfl ?_
  refine lv_ishr hx hb (show decode prog_17_method_54_code 9 = .ok (.ishr, 1) by decide +kernel) ?_
  rw [show Int32.ofNat (q_sl.getD i 0) >>> ((0 : Int32) &&& 31) = Int32.ofNat (q_sl.getD i 0) from j_shr0 hi]
  exact W.zret hx hb hr rfl (fun t ht hW => ⟨rfl, ht⟩) (fun q hq => by cases hq) (show decode prog_17_method_54_code 10 = .ok (.ireturn, 1) by decide +kernel)

set_option maxRecDepth 100000 in
theorem j_c_pCheckN {l : Launch} {S : Nat} {K V : Nat → Nat} {x y : Int32} (h0 : ¬ x < 0) (h1 : x < y) : Met l j_n_pCheck (.code j_n_pCheck prog_21_method_11_code 3 (some .int) :: j_tbl) (j_rm 0) (j_P [.int x, .int y, .null] S K V) (j_Q (some (.int x))) 0 0 (fun _ => False) := by
  refine Met.ofW (cc := prog_21_method_11_code) (maxL := 3) (ret := some .int) (by decide) rfl ?_
  intro p e s m args below meth c s₁ B hml hv
  obtain ⟨rfl, hJ⟩ := hv
  have hx := B.exec
  have hb := B.bytes
  have hr := B.returns
  have hts0 := atoms_spec (ws := .code j_n_pCheck prog_21_method_11_code 3 (some .int) :: j_tbl) B.pre
  have hts : ∀ w ∈ j_tbl, w.before ([.int x, .int y, .null] : List Value).toArray s = true := fun w hw => hts0 w (List.mem_cons_of_mem _ hw)
  have hown : s.vm.findClass "jdk/internal/util/Preconditions" = some m.cls := findClass_of_methodNamed B.named
  have hlocks := B.notSynchronized
  have hS : va_S (q_SA S) s.heap s.heap [] := va_S.rf
  have hf : CallFix p m c prog_21_method_11_code 3 s ([.int x, .int y, .null] : List Value).toArray j_tbl "jdk/internal/util/Preconditions" := ⟨hx, hb, hml, hown, hts⟩
  have hl := lv_entry ([.int x, .int y, .null]) (n := 3) (Nat.le_of_ble_eq_true rfl)
  rw [lg_entry_eq]
  generalize (lg_sl ([.int x, .int y, .null]) ++ List.replicate (3 - (lg_sl ([.int x, .int y, .null])).length) Slot.unset).toArray = ls at hl ⊢
  have hl : lv_has ls 3 [(0, .int x), (1, .int y), (2, .null)] := hl
  refine lv_iload_n hx hb (show decode prog_21_method_11_code 0 = .ok (.iload_n 0, 1) by decide +kernel) rfl (lv_at hl 0 rfl) ?_
  refine lv_if_lt (tgt := 9) hx hb (show decode prog_21_method_11_code 1 = .ok (.ifCond .lt 8, 3) by decide +kernel) (by decide) (fun h => absurd h h0) (fun _ => ?_)
  refine lv_iload_n hx hb (show decode prog_21_method_11_code 4 = .ok (.iload_n 0, 1) by decide +kernel) rfl (lv_at hl 0 rfl) ?_
  refine lv_iload_n hx hb (show decode prog_21_method_11_code 5 = .ok (.iload_n 1, 1) by decide +kernel) rfl (lv_at hl 1 rfl) ?_
  refine lv_icmp_lt (tgt := 16) hx hb (show decode prog_21_method_11_code 6 = .ok (.if_icmp .lt 10, 3) by decide +kernel) (by decide) (fun _ => ?_) (fun h => absurd h1 h)
  refine lv_iload_n hx hb (show decode prog_21_method_11_code 16 = .ok (.iload_n 0, 1) by decide +kernel) rfl (lv_at hl 0 rfl) ?_
  exact W.zret hx hb hr rfl (fun t ht hW => ⟨rfl, ht⟩) (fun q hq => by cases hq) (show decode prog_21_method_11_code 17 = .ok (.ireturn, 1) by decide +kernel)

set_option maxRecDepth 100000 in
theorem j_c_pCheckR {l : Launch} {S : Nat} {K V : Nat → Nat} {a : Nat} {x y : Int32} (h0 : ¬ x < 0) (h1 : x < y) : Met l j_n_pCheck (.code j_n_pCheck prog_21_method_11_code 3 (some .int) :: j_tbl) (j_rm 0) (j_P [.int x, .int y, .ref a] S K V) (j_Q (some (.int x))) 0 0 (fun _ => False) := by
  refine Met.ofW (cc := prog_21_method_11_code) (maxL := 3) (ret := some .int) (by decide) rfl ?_
  intro p e s m args below meth c s₁ B hml hv
  obtain ⟨rfl, hJ⟩ := hv
  have hx := B.exec
  have hb := B.bytes
  have hr := B.returns
  have hts0 := atoms_spec (ws := .code j_n_pCheck prog_21_method_11_code 3 (some .int) :: j_tbl) B.pre
  have hts : ∀ w ∈ j_tbl, w.before ([.int x, .int y, .ref a] : List Value).toArray s = true := fun w hw => hts0 w (List.mem_cons_of_mem _ hw)
  have hown : s.vm.findClass "jdk/internal/util/Preconditions" = some m.cls := findClass_of_methodNamed B.named
  have hlocks := B.notSynchronized
  have hS : va_S (q_SA S) s.heap s.heap [] := va_S.rf
  have hf : CallFix p m c prog_21_method_11_code 3 s ([.int x, .int y, .ref a] : List Value).toArray j_tbl "jdk/internal/util/Preconditions" := ⟨hx, hb, hml, hown, hts⟩
  have hl := lv_entry ([.int x, .int y, .ref a]) (n := 3) (Nat.le_of_ble_eq_true rfl)
  rw [lg_entry_eq]
  generalize (lg_sl ([.int x, .int y, .ref a]) ++ List.replicate (3 - (lg_sl ([.int x, .int y, .ref a])).length) Slot.unset).toArray = ls at hl ⊢
  have hl : lv_has ls 3 [(0, .int x), (1, .int y), (2, .ref a)] := hl
  refine lv_iload_n hx hb (show decode prog_21_method_11_code 0 = .ok (.iload_n 0, 1) by decide +kernel) rfl (lv_at hl 0 rfl) ?_
  refine lv_if_lt (tgt := 9) hx hb (show decode prog_21_method_11_code 1 = .ok (.ifCond .lt 8, 3) by decide +kernel) (by decide) (fun h => absurd h h0) (fun _ => ?_)
  refine lv_iload_n hx hb (show decode prog_21_method_11_code 4 = .ok (.iload_n 0, 1) by decide +kernel) rfl (lv_at hl 0 rfl) ?_
  refine lv_iload_n hx hb (show decode prog_21_method_11_code 5 = .ok (.iload_n 1, 1) by decide +kernel) rfl (lv_at hl 1 rfl) ?_
  refine lv_icmp_lt (tgt := 16) hx hb (show decode prog_21_method_11_code 6 = .ok (.if_icmp .lt 10, 3) by decide +kernel) (by decide) (fun _ => ?_) (fun h => absurd h1 h)
  refine lv_iload_n hx hb (show decode prog_21_method_11_code 16 = .ok (.iload_n 0, 1) by decide +kernel) rfl (lv_at hl 0 rfl) ?_
  exact W.zret hx hb hr rfl (fun t ht hW => ⟨rfl, ht⟩) (fun q hq => by cases hq) (show decode prog_21_method_11_code 17 = .ok (.ireturn, 1) by decide +kernel)

theorem j_c_pCheck {l : Launch} {S : Nat} {K V : Nat → Nat} {x y : Int32} {z : Value} (hz : z = .null ∨ ∃ a, z = .ref a) (h0 : ¬ x < 0) (h1 : x < y) : Met l j_n_pCheck (.code j_n_pCheck prog_21_method_11_code 3 (some .int) :: j_tbl) (j_rm 0) (j_P [.int x, .int y, z] S K V) (j_Q (some (.int x))) 0 0 (fun _ => False) := by
  rcases hz with rfl | ⟨a, rfl⟩
  · exact j_c_pCheckN h0 h1
  · exact j_c_pCheckR h0 h1

set_option maxRecDepth 100000 in
theorem j_c_checkIndex {l : Launch} {S : Nat} {K V : Nat → Nat} {x y : Int32} (h0 : ¬ x < 0) (h1 : x < y) : Met l j_n_checkIndex (.code j_n_checkIndex prog_17_method_155_code 2 (none) :: j_tbl) (j_rm 1) (j_P [.int x, .int y] S K V) (j_Q (none)) 0 0 (fun _ => False) := by
  refine Met.ofW (cc := prog_17_method_155_code) (maxL := 2) (ret := none) (by decide) rfl ?_
  intro p e s m args below meth c s₁ B hml hv
  obtain ⟨rfl, hJ⟩ := hv
  have hx := B.exec
  have hb := B.bytes
  have hr := B.returns
  have hts0 := atoms_spec (ws := .code j_n_checkIndex prog_17_method_155_code 2 (none) :: j_tbl) B.pre
  have hts : ∀ w ∈ j_tbl, w.before ([.int x, .int y] : List Value).toArray s = true := fun w hw => hts0 w (List.mem_cons_of_mem _ hw)
  have hown : s.vm.findClass "java/lang/String" = some m.cls := findClass_of_methodNamed B.named
  have hlocks := B.notSynchronized
  have hS : va_S (q_SA S) s.heap s.heap [] := va_S.rf
  have hf : CallFix p m c prog_17_method_155_code 2 s ([.int x, .int y] : List Value).toArray j_tbl "java/lang/String" := ⟨hx, hb, hml, hown, hts⟩
  have hl := lv_entry ([.int x, .int y]) (n := 2) (Nat.le_of_ble_eq_true rfl)
  rw [lg_entry_eq]
  generalize (lg_sl ([.int x, .int y]) ++ List.replicate (2 - (lg_sl ([.int x, .int y])).length) Slot.unset).toArray = ls at hl ⊢
  have hl : lv_has ls 2 [(0, .int x), (1, .int y)] := hl
  obtain ⟨z, hz0, hZ⟩ : ∃ z : Value, (z = .null ∨ ∃ a, z = .ref a) ∧ va_Z "jdk/internal/util/Preconditions" "SIOOBE_FORMATTER" "Ljava/util/function/BiFunction;" z (q_SA S) s s.heap := hJ.2.2.elim (fun h => ⟨_, Or.inl rfl, h⟩) (fun h => by obtain ⟨a, h⟩ := h; exact ⟨_, Or.inr ⟨a, rfl⟩, h⟩)
  refine lv_iload_n hx hb (show decode prog_17_method_155_code 0 = .ok (.iload_n 0, 1) by decide +kernel) rfl (lv_at hl 0 rfl) ?_
  refine lv_iload_n hx hb (show decode prog_17_method_155_code 1 = .ok (.iload_n 1, 1) by decide +kernel) rfl (lv_at hl 1 rfl) ?_
  refine va_gets (C := "jdk/internal/util/Preconditions") (n := "SIOOBE_FORMATTER") (d := "Ljava/util/function/BiFunction;") (ref := "jdk/internal/util/Preconditions") hx hb hZ hS hown (hts _ j_w_l1053) (fun _ h => h) (show decode prog_17_method_155_code 2 = .ok (.getstatic 1053, 3) by decide +kernel) ?_
  refine j_goS (y := j_n_pCheck) (bytes := prog_21_method_11_code) (maxL := 3) (ret := (some .int)) (K := K) (V := V) (S := S) (k := 0) (n := 3) (As := [.int x, .int y, z]) (rest := []) (o := some (.int x)) hf (j_c_pCheck hz0 h0 h1) j_w_c_pCheck j_w_nP j_w_l1059 j_w_s_pCheck (by decide +kernel) rfl (by decide) ⟨Nat.le_of_ble_eq_true rfl, Nat.le_of_ble_eq_true rfl⟩ hJ hS hl.1 (Nat.le_of_ble_eq_true rfl) (show decode prog_17_method_155_code 5 = .ok (.invokestatic 1059, 3) by decide +kernel) ⟨Nat.zero_le _, Nat.zero_le _⟩ rfl ?_
  refine lv_pop hx hb (show decode prog_17_method_155_code 8 = .ok (.pop, 1) by decide +kernel) rfl ?_
  exact W.vret hx hb hr (fun t ht hW => ⟨rfl, ht⟩) (fun q hq => by cases hq) (show decode prog_17_method_155_code 9 = .ok (.return_, 1) by decide +kernel)

set_option maxRecDepth 100000 in
theorem j_c_lCharAt {l : Launch} {S : Nat} {K V : Nat → Nat} {i : Nat} {x : Int32} (hi : i < 2) (h0 : ¬ x < 0) (h1 : x < Int32.ofNat (q_sl.getD i 0)) : Met l j_n_lCharAt (.code j_n_lCharAt prog_18_method_2_code 2 (some .char) :: j_tbl) (j_rm 2) (j_P [.ref (V i), .int x] S K V) (j_Q (some (.int (q_chr i x.toNatClampNeg)))) 0 0 (fun _ => False) := by
  refine Met.ofW (cc := prog_18_method_2_code) (maxL := 2) (ret := some .char) (by decide) rfl ?_
  intro p e s m args below meth c s₁ B hml hv
  obtain ⟨rfl, hJ⟩ := hv
  have hx := B.exec
  have hb := B.bytes
  have hr := B.returns
  have hts0 := atoms_spec (ws := .code j_n_lCharAt prog_18_method_2_code 2 (some .char) :: j_tbl) B.pre
  have hts : ∀ w ∈ j_tbl, w.before ([.ref (V i), .int x] : List Value).toArray s = true := fun w hw => hts0 w (List.mem_cons_of_mem _ hw)
  have hown : s.vm.findClass "java/lang/StringLatin1" = some m.cls := findClass_of_methodNamed B.named
  have hlocks := B.notSynchronized
  have hS : va_S (q_SA S) s.heap s.heap [] := va_S.rf
  have hf : CallFix p m c prog_18_method_2_code 2 s ([.ref (V i), .int x] : List Value).toArray j_tbl "java/lang/StringLatin1" := ⟨hx, hb, hml, hown, hts⟩
  have hl := lv_entry ([.ref (V i), .int x]) (n := 2) (Nat.le_of_ble_eq_true rfl)
  rw [lg_entry_eq]
  generalize (lg_sl ([.ref (V i), .int x]) ++ List.replicate (2 - (lg_sl ([.ref (V i), .int x])).length) Slot.unset).toArray = ls at hl ⊢
  have hl : lv_has ls 2 [(0, .ref (V i)), (1, .int x)] := hl
  refine lv_iload_n hx hb (show decode prog_18_method_2_code 0 = .ok (.iload_n 1, 1) by decide +kernel) rfl (lv_at hl 1 rfl) ?_
  refine lv_aload_n hx hb (show decode prog_18_method_2_code 1 = .ok (.aload_n 0, 1) by decide +kernel) rfl (lv_at hl 0 rfl) ?_
  refine va_tlen (v := Int32.ofNat (q_sl.getD i 0)) hx hb (hJ.1.1 i hi).2.2.2 hS rfl (show decode prog_18_method_2_code 2 = .ok (.arraylength, 1) by decide +kernel) ?_
  refine j_goS (y := j_n_checkIndex) (bytes := prog_17_method_155_code) (maxL := 2) (ret := (none)) (K := K) (V := V) (S := S) (k := 1) (n := 2) (As := [.int x, .int (Int32.ofNat (q_sl.getD i 0))]) (rest := []) (o := none) hf (j_c_checkIndex h0 h1) j_w_c_checkIndex j_w_nS j_w_L9 j_w_s_checkIndex (by decide +kernel) rfl (by decide) ⟨Nat.le_of_ble_eq_true rfl, Nat.le_of_ble_eq_true rfl⟩ hJ hS hl.1 (Nat.le_of_ble_eq_true rfl) (show decode prog_18_method_2_code 3 = .ok (.invokestatic 9, 3) by decide +kernel) ⟨Nat.zero_le _, Nat.zero_le _⟩ rfl ?_
  refine lv_aload_n hx hb (show decode prog_18_method_2_code 6 = .ok (.aload_n 0, 1) by decide +kernel) rfl (lv_at hl 0 rfl) ?_
  refine lv_iload_n hx hb (show decode prog_18_method_2_code 7 = .ok (.iload_n 1, 1) by decide +kernel) rfl (lv_at hl 1 rfl) ?_
  refine va_tb hx hb (hJ.1.1 i hi).2.2.2 hS (j_vin hi h0 h1) rfl (show decode prog_18_method_2_code 8 = .ok (.baload, 1) by decide +kernel) ?_
  refine lv_sipush (v := 255) hx hb (show decode prog_18_method_2_code 9 = .ok (.sipush 255, 3) by decide +kernel) (by decide) ?_
  refine lv_iand hx hb (show decode prog_18_method_2_code 12 = .ok (.iand, 1) by decide +kernel) ?_
  refine lv_i2c hx hb (show decode prog_18_method_2_code 13 = .ok (.i2c, 1) by decide +kernel) rfl ?_
  exact W.zret hx hb hr (j_nch hi h0 h1) (fun t ht hW => ⟨rfl, ht⟩) (fun q hq => by cases hq) (show decode prog_18_method_2_code 14 = .ok (.ireturn, 1) by decide +kernel)

set_option maxRecDepth 100000 in
theorem j_c_charAt {l : Launch} {S : Nat} {K V : Nat → Nat} {i : Nat} {x : Int32} (hi : i < 2) (h0 : ¬ x < 0) (h1 : x < Int32.ofNat (q_sl.getD i 0)) : Met l j_n_charAt (.code j_n_charAt prog_17_method_56_code 2 (some .char) :: j_tbl) (j_rm 3) (j_P [.ref (K i), .int x] S K V) (j_Q (some (.int (q_chr i x.toNatClampNeg)))) 0 0 (fun _ => False) := by
  refine Met.ofW (cc := prog_17_method_56_code) (maxL := 2) (ret := some .char) (by decide) rfl ?_
  intro p e s m args below meth c s₁ B hml hv
  obtain ⟨rfl, hJ⟩ := hv
  have hx := B.exec
  have hb := B.bytes
  have hr := B.returns
  have hts0 := atoms_spec (ws := .code j_n_charAt prog_17_method_56_code 2 (some .char) :: j_tbl) B.pre
  have hts : ∀ w ∈ j_tbl, w.before ([.ref (K i), .int x] : List Value).toArray s = true := fun w hw => hts0 w (List.mem_cons_of_mem _ hw)
  have hown : s.vm.findClass "java/lang/String" = some m.cls := findClass_of_methodNamed B.named
  have hlocks := B.notSynchronized
  have hS : va_S (q_SA S) s.heap s.heap [] := va_S.rf
  have hf : CallFix p m c prog_17_method_56_code 2 s ([.ref (K i), .int x] : List Value).toArray j_tbl "java/lang/String" := ⟨hx, hb, hml, hown, hts⟩
  have hl := lv_entry ([.ref (K i), .int x]) (n := 2) (Nat.le_of_ble_eq_true rfl)
  rw [lg_entry_eq]
  generalize (lg_sl ([.ref (K i), .int x]) ++ List.replicate (2 - (lg_sl ([.ref (K i), .int x])).length) Slot.unset).toArray = ls at hl ⊢
  have hl : lv_has ls 2 [(0, .ref (K i)), (1, .int x)] := hl
  refine lv_aload_n hx hb (show decode prog_17_method_56_code 0 = .ok (.aload_n 0, 1) by decide +kernel) rfl (lv_at hl 0 rfl) ?_
  refine j_goV (y := j_n_isLatin1) (bytes := prog_17_method_154_code) (maxL := 1) (ret := (some .boolean)) (K := K) (V := V) (S := S) (i := i) (k := 0) (n := 0) (As := []) (rest := []) (o := some (.int 1)) hf hi (j_c_isLatin1 hi) rfl j_w_c_isLatin1 j_w_nS j_w_l492 j_w_i_isLatin1 j_w_v_isLatin1 (by decide +kernel) rfl (by decide) ⟨Nat.le_of_ble_eq_true rfl, Nat.le_of_ble_eq_true rfl⟩ hJ hS hl.1 (Nat.le_of_ble_eq_true rfl) (show decode prog_17_method_56_code 1 = .ok (.invokevirtual 492, 3) by decide +kernel) ⟨Nat.zero_le _, Nat.zero_le _⟩ rfl ?_
  refine lv_if_eq (tgt := 16) hx hb (show decode prog_17_method_56_code 4 = .ok (.ifCond .eq 12, 3) by decide +kernel) (by decide) (fun h => absurd h (by decide)) (fun _ => ?_)
  refine lv_aload_n hx hb (show decode prog_17_method_56_code 7 = .ok (.aload_n 0, 1) by decide +kernel) rfl (lv_at hl 0 rfl) ?_
  refine vk_getf (o := "java/lang/String") (n := "value") (d := "[B") (ref := "java/lang/String") hx hb (hJ.1.1 i hi).2.2.1 hS hown (hts _ j_w_l9) (fun _ h => h) (show decode prog_17_method_56_code 8 = .ok (.getfield 9, 3) by decide +kernel) ?_
  refine lv_iload_n hx hb (show decode prog_17_method_56_code 11 = .ok (.iload_n 1, 1) by decide +kernel) rfl (lv_at hl 1 rfl) ?_
  refine j_goS (y := j_n_lCharAt) (bytes := prog_18_method_2_code) (maxL := 2) (ret := (some .char)) (K := K) (V := V) (S := S) (k := 2) (n := 2) (As := [.ref (V i), .int x]) (rest := []) (o := some (.int (q_chr i x.toNatClampNeg))) hf (j_c_lCharAt hi h0 h1) j_w_c_lCharAt j_w_nL j_w_l495 j_w_s_lCharAt (by decide +kernel) rfl (by decide) ⟨Nat.le_of_ble_eq_true rfl, Nat.le_of_ble_eq_true rfl⟩ hJ hS hl.1 (Nat.le_of_ble_eq_true rfl) (show decode prog_17_method_56_code 12 = .ok (.invokestatic 495, 3) by decide +kernel) ⟨Nat.zero_le _, Nat.zero_le _⟩ rfl ?_
  exact W.zret hx hb hr (j_nch hi h0 h1) (fun t ht hW => ⟨rfl, ht⟩) (fun q hq => by cases hq) (show decode prog_17_method_56_code 15 = .ok (.ireturn, 1) by decide +kernel)

set_option maxRecDepth 100000 in
theorem j_c_canEncode {l : Launch} {S : Nat} {K V : Nat → Nat} {x : Int32} : Met l j_n_canEncode (.code j_n_canEncode prog_18_method_4_code 1 (some .boolean) :: j_tbl) (j_rm 0) (j_P [.int x] S K V) (j_Q (some (.int (j_can x)))) 0 0 (fun _ => False) := by
  refine Met.ofW (cc := prog_18_method_4_code) (maxL := 1) (ret := some .boolean) (by decide) rfl ?_
  intro p e s m args below meth c s₁ B hml hv
  obtain ⟨rfl, hJ⟩ := hv
  have hx := B.exec
  have hb := B.bytes
  have hr := B.returns
  have hts0 := atoms_spec (ws := .code j_n_canEncode prog_18_method_4_code 1 (some .boolean) :: j_tbl) B.pre
  have hts : ∀ w ∈ j_tbl, w.before ([.int x] : List Value).toArray s = true := fun w hw => hts0 w (List.mem_cons_of_mem _ hw)
  have hown : s.vm.findClass "java/lang/StringLatin1" = some m.cls := findClass_of_methodNamed B.named
  have hlocks := B.notSynchronized
  have hS : va_S (q_SA S) s.heap s.heap [] := va_S.rf
  have hf : CallFix p m c prog_18_method_4_code 1 s ([.int x] : List Value).toArray j_tbl "java/lang/StringLatin1" := ⟨hx, hb, hml, hown, hts⟩
  have hl := lv_entry ([.int x]) (n := 1) (Nat.le_of_ble_eq_true rfl)
  rw [lg_entry_eq]
  generalize (lg_sl ([.int x]) ++ List.replicate (1 - (lg_sl ([.int x])).length) Slot.unset).toArray = ls at hl ⊢
  have hl : lv_has ls 1 [(0, .int x)] := hl
  refine lv_iload_n hx hb (show decode prog_18_method_4_code 0 = .ok (.iload_n 0, 1) by decide +kernel) rfl (lv_at hl 0 rfl) ?_
  refine lv_if_lt (tgt := 15) hx hb (show decode prog_18_method_4_code 1 = .ok (.ifCond .lt 14, 3) by decide +kernel) (by decide) (fun h => ?_) (fun h => ?_)
  · rw [j_can_lt h]
    refine lv_iconst (v := 0) hx hb (show decode prog_18_method_4_code 15 = .ok (.iconst 0, 1) by decide +kernel) (by decide) ?_
    exact W.zret hx hb hr rfl (fun t ht hW => ⟨rfl, ht⟩) (fun q hq => by cases hq) (show decode prog_18_method_4_code 16 = .ok (.ireturn, 1) by decide +kernel)
  refine lv_iload_n hx hb (show decode prog_18_method_4_code 4 = .ok (.iload_n 0, 1) by decide +kernel) rfl (lv_at hl 0 rfl) ?_
  refine lv_sipush (v := 255) hx hb (show decode prog_18_method_4_code 5 = .ok (.sipush 255, 3) by decide +kernel) (by decide) ?_
  refine lv_icmp_gt (tgt := 15) hx hb (show decode prog_18_method_4_code 8 = .ok (.if_icmp .gt 7, 3) by decide +kernel) (by decide) (fun h2 => ?_) (fun h2 => ?_)
  · rw [j_can_gt h2]
    refine lv_iconst (v := 0) hx hb (show decode prog_18_method_4_code 15 = .ok (.iconst 0, 1) by decide +kernel) (by decide) ?_
    exact W.zret hx hb hr rfl (fun t ht hW => ⟨rfl, ht⟩) (fun q hq => by cases hq) (show decode prog_18_method_4_code 16 = .ok (.ireturn, 1) by decide +kernel)
  rw [j_can_in h h2]
  refine lv_iconst (v := 1) hx hb (show decode prog_18_method_4_code 11 = .ok (.iconst 1, 1) by decide +kernel) (by decide) ?_
  refine lv_goto (tgt := 16) hx hb (show decode prog_18_method_4_code 12 = .ok (.goto 4, 3) by decide +kernel) (by decide) ?_
  exact W.zret hx hb hr rfl (fun t ht hW => ⟨rfl, ht⟩) (fun q hq => by cases hq) (show decode prog_18_method_4_code 16 = .ok (.ireturn, 1) by decide +kernel)

theorem j_can_ne {x : Int32} (h : ¬ j_can x = 0) : ¬ x < 0 ∧ ¬ 255 < x := ⟨fun q => h (j_can_lt q), fun q => h (j_can_gt q)⟩
theorem j_ixo_in {x : Int32} (h0 : ¬ x < 0) (h1 : ¬ 255 < x) : q_ixo x = q_ixf x.toInt8.toInt32 (q_sb.getD 0 []) 0 := by
  unfold q_ixo
  rw [if_neg h0, if_neg h1]
theorem j_ixo_out {x : Int32} (h2 : j_can x = 0) : q_ixo x = -1 := by
  unfold q_ixo
  by_cases h0 : x < 0
  · rw [if_pos h0]
  · by_cases h1 : 255 < x
    · rw [if_neg h0, if_pos h1]
    · rw [j_can_in h0 h1] at h2
      exact absurd h2 (by decide)

set_option maxRecDepth 100000 in
theorem j_c_indexOfChar {l : Launch} {S : Nat} {K V : Nat → Nat} {ch : Int32} : Met l j_n_indexOfChar (.code j_n_indexOfChar prog_18_method_23_code 6 (some .int) :: j_tbl) (j_rm 0) (j_P [.ref (V 0), .int ch, .int (Int32.ofNat 0), .int (Int32.ofNat 11)] S K V) (j_Q (some (.int (q_ixf ch.toInt8.toInt32 (q_sb.getD 0 []) 0)))) 0 0 (fun _ => False) := by
  refine Met.ofW (cc := prog_18_method_23_code) (maxL := 6) (ret := some .int) (by decide) rfl ?_
  intro p e s m args below meth c s₁ B hml hv
  obtain ⟨rfl, hJ⟩ := hv
  have hx := B.exec
  have hb := B.bytes
  have hr := B.returns
  have hts0 := atoms_spec (ws := .code j_n_indexOfChar prog_18_method_23_code 6 (some .int) :: j_tbl) B.pre
  have hts : ∀ w ∈ j_tbl, w.before ([.ref (V 0), .int ch, .int (Int32.ofNat 0), .int (Int32.ofNat 11)] : List Value).toArray s = true := fun w hw => hts0 w (List.mem_cons_of_mem _ hw)
  have hown : s.vm.findClass "java/lang/StringLatin1" = some m.cls := findClass_of_methodNamed B.named
  have hlocks := B.notSynchronized
  have hS : va_S (q_SA S) s.heap s.heap [] := va_S.rf
  have hf : CallFix p m c prog_18_method_23_code 6 s ([.ref (V 0), .int ch, .int (Int32.ofNat 0), .int (Int32.ofNat 11)] : List Value).toArray j_tbl "java/lang/StringLatin1" := ⟨hx, hb, hml, hown, hts⟩
  have hl := lv_entry ([.ref (V 0), .int ch, .int (Int32.ofNat 0), .int (Int32.ofNat 11)]) (n := 6) (Nat.le_of_ble_eq_true rfl)
  rw [lg_entry_eq]
  generalize (lg_sl ([.ref (V 0), .int ch, .int (Int32.ofNat 0), .int (Int32.ofNat 11)]) ++ List.replicate (6 - (lg_sl ([.ref (V 0), .int ch, .int (Int32.ofNat 0), .int (Int32.ofNat 11)])).length) Slot.unset).toArray = ls at hl ⊢
  have hl : lv_has ls 6 [(0, .ref (V 0)), (1, .int ch), (2, .int (Int32.ofNat 0)), (3, .int (Int32.ofNat 11))] := hl
  generalize hRR : q_ixf ch.toInt8.toInt32 (q_sb.getD 0 []) 0 = RR
  generalize hbb : ch.toInt8.toInt32 = bb at hRR
  have lp11 : ∀ ls2 : Array Slot, q_ixf bb [] 11 = RR → lv_has ls2 6 [(5, .int (Int32.ofNat 11)), (4, .int bb), (0, .ref (V 0)), (1, .int ch), (2, .int (Int32.ofNat 0)), (3, .int (Int32.ofNat 11))] → W p l e (headSpec (.code j_n_indexOfChar prog_18_method_23_code 6 (some .int) :: j_tbl) (j_rm 0)).room s m ([.ref (V 0), .int ch, .int (Int32.ofNat 0), .int (Int32.ofNat 11)] : List Value).toArray below meth c s.heap [] 0 0 (MQ below (j_Q (some (.int RR))) ([.ref (V 0), .int ch, .int (Int32.ofNat 0), .int (Int32.ofNat 11)] : List Value).toArray s 0 0 (fun _ => False)) (F0 m 7 ls2 []) := by
    intro ls2 hk hl
    refine lv_iload hx hb (show decode prog_18_method_23_code 7 = .ok (.iload 5, 2) by decide +kernel) (lv_at hl 0 rfl) ?_
    refine lv_iload_n hx hb (show decode prog_18_method_23_code 9 = .ok (.iload_n 3, 1) by decide +kernel) rfl (lv_at hl 5 rfl) ?_
    refine lv_icmp_ge (tgt := 31) hx hb (show decode prog_18_method_23_code 10 = .ok (.if_icmp .ge 21, 3) by decide +kernel) (by decide) (fun _ => ?_) (fun h => absurd h (by decide))
    have e : RR = -1 := hk.symm
    subst e
    refine lv_iconst (v := -1) hx hb (show decode prog_18_method_23_code 31 = .ok (.iconst (-1), 1) by decide +kernel) (by decide) ?_
    exact W.zret hx hb hr rfl (fun t ht hW => ⟨rfl, ht⟩) (fun q hq => by cases hq) (show decode prog_18_method_23_code 32 = .ok (.ireturn, 1) by decide +kernel)
  have lp10 : ∀ ls2 : Array Slot, q_ixf bb [37] 10 = RR → lv_has ls2 6 [(5, .int (Int32.ofNat 10)), (4, .int bb), (0, .ref (V 0)), (1, .int ch), (2, .int (Int32.ofNat 0)), (3, .int (Int32.ofNat 11))] → W p l e (headSpec (.code j_n_indexOfChar prog_18_method_23_code 6 (some .int) :: j_tbl) (j_rm 0)).room s m ([.ref (V 0), .int ch, .int (Int32.ofNat 0), .int (Int32.ofNat 11)] : List Value).toArray below meth c s.heap [] 0 0 (MQ below (j_Q (some (.int RR))) ([.ref (V 0), .int ch, .int (Int32.ofNat 0), .int (Int32.ofNat 11)] : List Value).toArray s 0 0 (fun _ => False)) (F0 m 7 ls2 []) := by
    intro ls2 hk hl
    refine lv_iload hx hb (show decode prog_18_method_23_code 7 = .ok (.iload 5, 2) by decide +kernel) (lv_at hl 0 rfl) ?_
    refine lv_iload_n hx hb (show decode prog_18_method_23_code 9 = .ok (.iload_n 3, 1) by decide +kernel) rfl (lv_at hl 5 rfl) ?_
    refine lv_icmp_ge (tgt := 31) hx hb (show decode prog_18_method_23_code 10 = .ok (.if_icmp .ge 21, 3) by decide +kernel) (by decide) (fun h => absurd h (by decide)) (fun _ => ?_)
    refine lv_aload_n hx hb (show decode prog_18_method_23_code 13 = .ok (.aload_n 0, 1) by decide +kernel) rfl (lv_at hl 2 rfl) ?_
    refine lv_iload hx hb (show decode prog_18_method_23_code 14 = .ok (.iload 5, 2) by decide +kernel) (lv_at hl 0 rfl) ?_
    refine va_tb (v := .int 37) hx hb (hJ.1.1 0 (by decide)).2.2.2 hS (by unfold vp_in; decide) (by decide) (show decode prog_18_method_23_code 16 = .ok (.baload, 1) by decide +kernel) ?_
    refine lv_iload hx hb (show decode prog_18_method_23_code 17 = .ok (.iload 4, 2) by decide +kernel) (lv_at hl 1 rfl) ?_
    refine lv_icmp_ne (tgt := 25) hx hb (show decode prog_18_method_23_code 19 = .ok (.if_icmp .ne 6, 3) by decide +kernel) (by decide) (fun h => ?_) (fun h => ?_)
    · have e : q_ixf bb [] 11 = RR := by
        rw [← hk]
        exact (if_neg h).symm
      refine lv_iinc (k := 0) (v := Int32.ofNat 11) hx hb (show decode prog_18_method_23_code 25 = .ok (.iinc 5 1, 3) by decide +kernel) hl rfl (by decide) (by decide) rfl (fun ls3 hl3 => ?_)
      refine lv_goto (tgt := 7) hx hb (show decode prog_18_method_23_code 28 = .ok (.goto (-21), 3) by decide +kernel) (by decide) ?_
      exact lp11 ls3 e hl3
    · have e2 : (37 : Int32) = bb := by first | exact h | exact Decidable.of_not_not h
      have e : RR = Int32.ofNat 10 := by
        rw [← hk]
        exact if_pos e2
      subst e
      refine lv_iload hx hb (show decode prog_18_method_23_code 22 = .ok (.iload 5, 2) by decide +kernel) (lv_at hl 0 rfl) ?_
      exact W.zret hx hb hr rfl (fun t ht hW => ⟨rfl, ht⟩) (fun q hq => by cases hq) (show decode prog_18_method_23_code 24 = .ok (.ireturn, 1) by decide +kernel)
  have lp9 : ∀ ls2 : Array Slot, q_ixf bb [47, 37] 9 = RR → lv_has ls2 6 [(5, .int (Int32.ofNat 9)), (4, .int bb), (0, .ref (V 0)), (1, .int ch), (2, .int (Int32.ofNat 0)), (3, .int (Int32.ofNat 11))] → W p l e (headSpec (.code j_n_indexOfChar prog_18_method_23_code 6 (some .int) :: j_tbl) (j_rm 0)).room s m ([.ref (V 0), .int ch, .int (Int32.ofNat 0), .int (Int32.ofNat 11)] : List Value).toArray below meth c s.heap [] 0 0 (MQ below (j_Q (some (.int RR))) ([.ref (V 0), .int ch, .int (Int32.ofNat 0), .int (Int32.ofNat 11)] : List Value).toArray s 0 0 (fun _ => False)) (F0 m 7 ls2 []) := by
    intro ls2 hk hl
    refine lv_iload hx hb (show decode prog_18_method_23_code 7 = .ok (.iload 5, 2) by decide +kernel) (lv_at hl 0 rfl) ?_
    refine lv_iload_n hx hb (show decode prog_18_method_23_code 9 = .ok (.iload_n 3, 1) by decide +kernel) rfl (lv_at hl 5 rfl) ?_
    refine lv_icmp_ge (tgt := 31) hx hb (show decode prog_18_method_23_code 10 = .ok (.if_icmp .ge 21, 3) by decide +kernel) (by decide) (fun h => absurd h (by decide)) (fun _ => ?_)
    refine lv_aload_n hx hb (show decode prog_18_method_23_code 13 = .ok (.aload_n 0, 1) by decide +kernel) rfl (lv_at hl 2 rfl) ?_
    refine lv_iload hx hb (show decode prog_18_method_23_code 14 = .ok (.iload 5, 2) by decide +kernel) (lv_at hl 0 rfl) ?_
    refine va_tb (v := .int 47) hx hb (hJ.1.1 0 (by decide)).2.2.2 hS (by unfold vp_in; decide) (by decide) (show decode prog_18_method_23_code 16 = .ok (.baload, 1) by decide +kernel) ?_
    refine lv_iload hx hb (show decode prog_18_method_23_code 17 = .ok (.iload 4, 2) by decide +kernel) (lv_at hl 1 rfl) ?_
    refine lv_icmp_ne (tgt := 25) hx hb (show decode prog_18_method_23_code 19 = .ok (.if_icmp .ne 6, 3) by decide +kernel) (by decide) (fun h => ?_) (fun h => ?_)
    · have e : q_ixf bb [37] 10 = RR := by
        rw [← hk]
        exact (if_neg h).symm
      refine lv_iinc (k := 0) (v := Int32.ofNat 10) hx hb (show decode prog_18_method_23_code 25 = .ok (.iinc 5 1, 3) by decide +kernel) hl rfl (by decide) (by decide) rfl (fun ls3 hl3 => ?_)
      refine lv_goto (tgt := 7) hx hb (show decode prog_18_method_23_code 28 = .ok (.goto (-21), 3) by decide +kernel) (by decide) ?_
      exact lp10 ls3 e hl3
    · have e2 : (47 : Int32) = bb := by first | exact h | exact Decidable.of_not_not h
      have e : RR = Int32.ofNat 9 := by
        rw [← hk]
        exact if_pos e2
      subst e
      refine lv_iload hx hb (show decode prog_18_method_23_code 22 = .ok (.iload 5, 2) by decide +kernel) (lv_at hl 0 rfl) ?_
      exact W.zret hx hb hr rfl (fun t ht hW => ⟨rfl, ht⟩) (fun q hq => by cases hq) (show decode prog_18_method_23_code 24 = .ok (.ireturn, 1) by decide +kernel)
  have lp8 : ∀ ls2 : Array Slot, q_ixf bb [42, 47, 37] 8 = RR → lv_has ls2 6 [(5, .int (Int32.ofNat 8)), (4, .int bb), (0, .ref (V 0)), (1, .int ch), (2, .int (Int32.ofNat 0)), (3, .int (Int32.ofNat 11))] → W p l e (headSpec (.code j_n_indexOfChar prog_18_method_23_code 6 (some .int) :: j_tbl) (j_rm 0)).room s m ([.ref (V 0), .int ch, .int (Int32.ofNat 0), .int (Int32.ofNat 11)] : List Value).toArray below meth c s.heap [] 0 0 (MQ below (j_Q (some (.int RR))) ([.ref (V 0), .int ch, .int (Int32.ofNat 0), .int (Int32.ofNat 11)] : List Value).toArray s 0 0 (fun _ => False)) (F0 m 7 ls2 []) := by
    intro ls2 hk hl
    refine lv_iload hx hb (show decode prog_18_method_23_code 7 = .ok (.iload 5, 2) by decide +kernel) (lv_at hl 0 rfl) ?_
    refine lv_iload_n hx hb (show decode prog_18_method_23_code 9 = .ok (.iload_n 3, 1) by decide +kernel) rfl (lv_at hl 5 rfl) ?_
    refine lv_icmp_ge (tgt := 31) hx hb (show decode prog_18_method_23_code 10 = .ok (.if_icmp .ge 21, 3) by decide +kernel) (by decide) (fun h => absurd h (by decide)) (fun _ => ?_)
    refine lv_aload_n hx hb (show decode prog_18_method_23_code 13 = .ok (.aload_n 0, 1) by decide +kernel) rfl (lv_at hl 2 rfl) ?_
    refine lv_iload hx hb (show decode prog_18_method_23_code 14 = .ok (.iload 5, 2) by decide +kernel) (lv_at hl 0 rfl) ?_
    refine va_tb (v := .int 42) hx hb (hJ.1.1 0 (by decide)).2.2.2 hS (by unfold vp_in; decide) (by decide) (show decode prog_18_method_23_code 16 = .ok (.baload, 1) by decide +kernel) ?_
    refine lv_iload hx hb (show decode prog_18_method_23_code 17 = .ok (.iload 4, 2) by decide +kernel) (lv_at hl 1 rfl) ?_
    refine lv_icmp_ne (tgt := 25) hx hb (show decode prog_18_method_23_code 19 = .ok (.if_icmp .ne 6, 3) by decide +kernel) (by decide) (fun h => ?_) (fun h => ?_)
    · have e : q_ixf bb [47, 37] 9 = RR := by
        rw [← hk]
        exact (if_neg h).symm
      refine lv_iinc (k := 0) (v := Int32.ofNat 9) hx hb (show decode prog_18_method_23_code 25 = .ok (.iinc 5 1, 3) by decide +kernel) hl rfl (by decide) (by decide) rfl (fun ls3 hl3 => ?_)
      refine lv_goto (tgt := 7) hx hb (show decode prog_18_method_23_code 28 = .ok (.goto (-21), 3) by decide +kernel) (by decide) ?_
      exact lp9 ls3 e hl3
    · have e2 : (42 : Int32) = bb := by first | exact h | exact Decidable.of_not_not h
      have e : RR = Int32.ofNat 8 := by
        rw [← hk]
        exact if_pos e2
      subst e
      refine lv_iload hx hb (show decode prog_18_method_23_code 22 = .ok (.iload 5, 2) by decide +kernel) (lv_at hl 0 rfl) ?_
      exact W.zret hx hb hr rfl (fun t ht hW => ⟨rfl, ht⟩) (fun q hq => by cases hq) (show decode prog_18_method_23_code 24 = .ok (.ireturn, 1) by decide +kernel)
  have lp7 : ∀ ls2 : Array Slot, q_ixf bb [45, 42, 47, 37] 7 = RR → lv_has ls2 6 [(5, .int (Int32.ofNat 7)), (4, .int bb), (0, .ref (V 0)), (1, .int ch), (2, .int (Int32.ofNat 0)), (3, .int (Int32.ofNat 11))] → W p l e (headSpec (.code j_n_indexOfChar prog_18_method_23_code 6 (some .int) :: j_tbl) (j_rm 0)).room s m ([.ref (V 0), .int ch, .int (Int32.ofNat 0), .int (Int32.ofNat 11)] : List Value).toArray below meth c s.heap [] 0 0 (MQ below (j_Q (some (.int RR))) ([.ref (V 0), .int ch, .int (Int32.ofNat 0), .int (Int32.ofNat 11)] : List Value).toArray s 0 0 (fun _ => False)) (F0 m 7 ls2 []) := by
    intro ls2 hk hl
    refine lv_iload hx hb (show decode prog_18_method_23_code 7 = .ok (.iload 5, 2) by decide +kernel) (lv_at hl 0 rfl) ?_
    refine lv_iload_n hx hb (show decode prog_18_method_23_code 9 = .ok (.iload_n 3, 1) by decide +kernel) rfl (lv_at hl 5 rfl) ?_
    refine lv_icmp_ge (tgt := 31) hx hb (show decode prog_18_method_23_code 10 = .ok (.if_icmp .ge 21, 3) by decide +kernel) (by decide) (fun h => absurd h (by decide)) (fun _ => ?_)
    refine lv_aload_n hx hb (show decode prog_18_method_23_code 13 = .ok (.aload_n 0, 1) by decide +kernel) rfl (lv_at hl 2 rfl) ?_
    refine lv_iload hx hb (show decode prog_18_method_23_code 14 = .ok (.iload 5, 2) by decide +kernel) (lv_at hl 0 rfl) ?_
    refine va_tb (v := .int 45) hx hb (hJ.1.1 0 (by decide)).2.2.2 hS (by unfold vp_in; decide) (by decide) (show decode prog_18_method_23_code 16 = .ok (.baload, 1) by decide +kernel) ?_
    refine lv_iload hx hb (show decode prog_18_method_23_code 17 = .ok (.iload 4, 2) by decide +kernel) (lv_at hl 1 rfl) ?_
    refine lv_icmp_ne (tgt := 25) hx hb (show decode prog_18_method_23_code 19 = .ok (.if_icmp .ne 6, 3) by decide +kernel) (by decide) (fun h => ?_) (fun h => ?_)
    · have e : q_ixf bb [42, 47, 37] 8 = RR := by
        rw [← hk]
        exact (if_neg h).symm
      refine lv_iinc (k := 0) (v := Int32.ofNat 8) hx hb (show decode prog_18_method_23_code 25 = .ok (.iinc 5 1, 3) by decide +kernel) hl rfl (by decide) (by decide) rfl (fun ls3 hl3 => ?_)
      refine lv_goto (tgt := 7) hx hb (show decode prog_18_method_23_code 28 = .ok (.goto (-21), 3) by decide +kernel) (by decide) ?_
      exact lp8 ls3 e hl3
    · have e2 : (45 : Int32) = bb := by first | exact h | exact Decidable.of_not_not h
      have e : RR = Int32.ofNat 7 := by
        rw [← hk]
        exact if_pos e2
      subst e
      refine lv_iload hx hb (show decode prog_18_method_23_code 22 = .ok (.iload 5, 2) by decide +kernel) (lv_at hl 0 rfl) ?_
      exact W.zret hx hb hr rfl (fun t ht hW => ⟨rfl, ht⟩) (fun q hq => by cases hq) (show decode prog_18_method_23_code 24 = .ok (.ireturn, 1) by decide +kernel)
  have lp6 : ∀ ls2 : Array Slot, q_ixf bb [43, 45, 42, 47, 37] 6 = RR → lv_has ls2 6 [(5, .int (Int32.ofNat 6)), (4, .int bb), (0, .ref (V 0)), (1, .int ch), (2, .int (Int32.ofNat 0)), (3, .int (Int32.ofNat 11))] → W p l e (headSpec (.code j_n_indexOfChar prog_18_method_23_code 6 (some .int) :: j_tbl) (j_rm 0)).room s m ([.ref (V 0), .int ch, .int (Int32.ofNat 0), .int (Int32.ofNat 11)] : List Value).toArray below meth c s.heap [] 0 0 (MQ below (j_Q (some (.int RR))) ([.ref (V 0), .int ch, .int (Int32.ofNat 0), .int (Int32.ofNat 11)] : List Value).toArray s 0 0 (fun _ => False)) (F0 m 7 ls2 []) := by
    intro ls2 hk hl
    refine lv_iload hx hb (show decode prog_18_method_23_code 7 = .ok (.iload 5, 2) by decide +kernel) (lv_at hl 0 rfl) ?_
    refine lv_iload_n hx hb (show decode prog_18_method_23_code 9 = .ok (.iload_n 3, 1) by decide +kernel) rfl (lv_at hl 5 rfl) ?_
    refine lv_icmp_ge (tgt := 31) hx hb (show decode prog_18_method_23_code 10 = .ok (.if_icmp .ge 21, 3) by decide +kernel) (by decide) (fun h => absurd h (by decide)) (fun _ => ?_)
    refine lv_aload_n hx hb (show decode prog_18_method_23_code 13 = .ok (.aload_n 0, 1) by decide +kernel) rfl (lv_at hl 2 rfl) ?_
    refine lv_iload hx hb (show decode prog_18_method_23_code 14 = .ok (.iload 5, 2) by decide +kernel) (lv_at hl 0 rfl) ?_
    refine va_tb (v := .int 43) hx hb (hJ.1.1 0 (by decide)).2.2.2 hS (by unfold vp_in; decide) (by decide) (show decode prog_18_method_23_code 16 = .ok (.baload, 1) by decide +kernel) ?_
    refine lv_iload hx hb (show decode prog_18_method_23_code 17 = .ok (.iload 4, 2) by decide +kernel) (lv_at hl 1 rfl) ?_
    refine lv_icmp_ne (tgt := 25) hx hb (show decode prog_18_method_23_code 19 = .ok (.if_icmp .ne 6, 3) by decide +kernel) (by decide) (fun h => ?_) (fun h => ?_)
    · have e : q_ixf bb [45, 42, 47, 37] 7 = RR := by
        rw [← hk]
        exact (if_neg h).symm
      refine lv_iinc (k := 0) (v := Int32.ofNat 7) hx hb (show decode prog_18_method_23_code 25 = .ok (.iinc 5 1, 3) by decide +kernel) hl rfl (by decide) (by decide) rfl (fun ls3 hl3 => ?_)
      refine lv_goto (tgt := 7) hx hb (show decode prog_18_method_23_code 28 = .ok (.goto (-21), 3) by decide +kernel) (by decide) ?_
      exact lp7 ls3 e hl3
    · have e2 : (43 : Int32) = bb := by first | exact h | exact Decidable.of_not_not h
      have e : RR = Int32.ofNat 6 := by
        rw [← hk]
        exact if_pos e2
      subst e
      refine lv_iload hx hb (show decode prog_18_method_23_code 22 = .ok (.iload 5, 2) by decide +kernel) (lv_at hl 0 rfl) ?_
      exact W.zret hx hb hr rfl (fun t ht hW => ⟨rfl, ht⟩) (fun q hq => by cases hq) (show decode prog_18_method_23_code 24 = .ok (.ireturn, 1) by decide +kernel)
  have lp5 : ∀ ls2 : Array Slot, q_ixf bb [61, 43, 45, 42, 47, 37] 5 = RR → lv_has ls2 6 [(5, .int (Int32.ofNat 5)), (4, .int bb), (0, .ref (V 0)), (1, .int ch), (2, .int (Int32.ofNat 0)), (3, .int (Int32.ofNat 11))] → W p l e (headSpec (.code j_n_indexOfChar prog_18_method_23_code 6 (some .int) :: j_tbl) (j_rm 0)).room s m ([.ref (V 0), .int ch, .int (Int32.ofNat 0), .int (Int32.ofNat 11)] : List Value).toArray below meth c s.heap [] 0 0 (MQ below (j_Q (some (.int RR))) ([.ref (V 0), .int ch, .int (Int32.ofNat 0), .int (Int32.ofNat 11)] : List Value).toArray s 0 0 (fun _ => False)) (F0 m 7 ls2 []) := by
    intro ls2 hk hl
    refine lv_iload hx hb (show decode prog_18_method_23_code 7 = .ok (.iload 5, 2) by decide +kernel) (lv_at hl 0 rfl) ?_
    refine lv_iload_n hx hb (show decode prog_18_method_23_code 9 = .ok (.iload_n 3, 1) by decide +kernel) rfl (lv_at hl 5 rfl) ?_
    refine lv_icmp_ge (tgt := 31) hx hb (show decode prog_18_method_23_code 10 = .ok (.if_icmp .ge 21, 3) by decide +kernel) (by decide) (fun h => absurd h (by decide)) (fun _ => ?_)
    refine lv_aload_n hx hb (show decode prog_18_method_23_code 13 = .ok (.aload_n 0, 1) by decide +kernel) rfl (lv_at hl 2 rfl) ?_
    refine lv_iload hx hb (show decode prog_18_method_23_code 14 = .ok (.iload 5, 2) by decide +kernel) (lv_at hl 0 rfl) ?_
    refine va_tb (v := .int 61) hx hb (hJ.1.1 0 (by decide)).2.2.2 hS (by unfold vp_in; decide) (by decide) (show decode prog_18_method_23_code 16 = .ok (.baload, 1) by decide +kernel) ?_
    refine lv_iload hx hb (show decode prog_18_method_23_code 17 = .ok (.iload 4, 2) by decide +kernel) (lv_at hl 1 rfl) ?_
    refine lv_icmp_ne (tgt := 25) hx hb (show decode prog_18_method_23_code 19 = .ok (.if_icmp .ne 6, 3) by decide +kernel) (by decide) (fun h => ?_) (fun h => ?_)
    · have e : q_ixf bb [43, 45, 42, 47, 37] 6 = RR := by
        rw [← hk]
        exact (if_neg h).symm
      refine lv_iinc (k := 0) (v := Int32.ofNat 6) hx hb (show decode prog_18_method_23_code 25 = .ok (.iinc 5 1, 3) by decide +kernel) hl rfl (by decide) (by decide) rfl (fun ls3 hl3 => ?_)
      refine lv_goto (tgt := 7) hx hb (show decode prog_18_method_23_code 28 = .ok (.goto (-21), 3) by decide +kernel) (by decide) ?_
      exact lp6 ls3 e hl3
    · have e2 : (61 : Int32) = bb := by first | exact h | exact Decidable.of_not_not h
      have e : RR = Int32.ofNat 5 := by
        rw [← hk]
        exact if_pos e2
      subst e
      refine lv_iload hx hb (show decode prog_18_method_23_code 22 = .ok (.iload 5, 2) by decide +kernel) (lv_at hl 0 rfl) ?_
      exact W.zret hx hb hr rfl (fun t ht hW => ⟨rfl, ht⟩) (fun q hq => by cases hq) (show decode prog_18_method_23_code 24 = .ok (.ireturn, 1) by decide +kernel)
  have lp4 : ∀ ls2 : Array Slot, q_ixf bb [62, 61, 43, 45, 42, 47, 37] 4 = RR → lv_has ls2 6 [(5, .int (Int32.ofNat 4)), (4, .int bb), (0, .ref (V 0)), (1, .int ch), (2, .int (Int32.ofNat 0)), (3, .int (Int32.ofNat 11))] → W p l e (headSpec (.code j_n_indexOfChar prog_18_method_23_code 6 (some .int) :: j_tbl) (j_rm 0)).room s m ([.ref (V 0), .int ch, .int (Int32.ofNat 0), .int (Int32.ofNat 11)] : List Value).toArray below meth c s.heap [] 0 0 (MQ below (j_Q (some (.int RR))) ([.ref (V 0), .int ch, .int (Int32.ofNat 0), .int (Int32.ofNat 11)] : List Value).toArray s 0 0 (fun _ => False)) (F0 m 7 ls2 []) := by
    intro ls2 hk hl
    refine lv_iload hx hb (show decode prog_18_method_23_code 7 = .ok (.iload 5, 2) by decide +kernel) (lv_at hl 0 rfl) ?_
    refine lv_iload_n hx hb (show decode prog_18_method_23_code 9 = .ok (.iload_n 3, 1) by decide +kernel) rfl (lv_at hl 5 rfl) ?_
    refine lv_icmp_ge (tgt := 31) hx hb (show decode prog_18_method_23_code 10 = .ok (.if_icmp .ge 21, 3) by decide +kernel) (by decide) (fun h => absurd h (by decide)) (fun _ => ?_)
    refine lv_aload_n hx hb (show decode prog_18_method_23_code 13 = .ok (.aload_n 0, 1) by decide +kernel) rfl (lv_at hl 2 rfl) ?_
    refine lv_iload hx hb (show decode prog_18_method_23_code 14 = .ok (.iload 5, 2) by decide +kernel) (lv_at hl 0 rfl) ?_
    refine va_tb (v := .int 62) hx hb (hJ.1.1 0 (by decide)).2.2.2 hS (by unfold vp_in; decide) (by decide) (show decode prog_18_method_23_code 16 = .ok (.baload, 1) by decide +kernel) ?_
    refine lv_iload hx hb (show decode prog_18_method_23_code 17 = .ok (.iload 4, 2) by decide +kernel) (lv_at hl 1 rfl) ?_
    refine lv_icmp_ne (tgt := 25) hx hb (show decode prog_18_method_23_code 19 = .ok (.if_icmp .ne 6, 3) by decide +kernel) (by decide) (fun h => ?_) (fun h => ?_)
    · have e : q_ixf bb [61, 43, 45, 42, 47, 37] 5 = RR := by
        rw [← hk]
        exact (if_neg h).symm
      refine lv_iinc (k := 0) (v := Int32.ofNat 5) hx hb (show decode prog_18_method_23_code 25 = .ok (.iinc 5 1, 3) by decide +kernel) hl rfl (by decide) (by decide) rfl (fun ls3 hl3 => ?_)
      refine lv_goto (tgt := 7) hx hb (show decode prog_18_method_23_code 28 = .ok (.goto (-21), 3) by decide +kernel) (by decide) ?_
      exact lp5 ls3 e hl3
    · have e2 : (62 : Int32) = bb := by first | exact h | exact Decidable.of_not_not h
      have e : RR = Int32.ofNat 4 := by
        rw [← hk]
        exact if_pos e2
      subst e
      refine lv_iload hx hb (show decode prog_18_method_23_code 22 = .ok (.iload 5, 2) by decide +kernel) (lv_at hl 0 rfl) ?_
      exact W.zret hx hb hr rfl (fun t ht hW => ⟨rfl, ht⟩) (fun q hq => by cases hq) (show decode prog_18_method_23_code 24 = .ok (.ireturn, 1) by decide +kernel)
  have lp3 : ∀ ls2 : Array Slot, q_ixf bb [60, 62, 61, 43, 45, 42, 47, 37] 3 = RR → lv_has ls2 6 [(5, .int (Int32.ofNat 3)), (4, .int bb), (0, .ref (V 0)), (1, .int ch), (2, .int (Int32.ofNat 0)), (3, .int (Int32.ofNat 11))] → W p l e (headSpec (.code j_n_indexOfChar prog_18_method_23_code 6 (some .int) :: j_tbl) (j_rm 0)).room s m ([.ref (V 0), .int ch, .int (Int32.ofNat 0), .int (Int32.ofNat 11)] : List Value).toArray below meth c s.heap [] 0 0 (MQ below (j_Q (some (.int RR))) ([.ref (V 0), .int ch, .int (Int32.ofNat 0), .int (Int32.ofNat 11)] : List Value).toArray s 0 0 (fun _ => False)) (F0 m 7 ls2 []) := by
    intro ls2 hk hl
    refine lv_iload hx hb (show decode prog_18_method_23_code 7 = .ok (.iload 5, 2) by decide +kernel) (lv_at hl 0 rfl) ?_
    refine lv_iload_n hx hb (show decode prog_18_method_23_code 9 = .ok (.iload_n 3, 1) by decide +kernel) rfl (lv_at hl 5 rfl) ?_
    refine lv_icmp_ge (tgt := 31) hx hb (show decode prog_18_method_23_code 10 = .ok (.if_icmp .ge 21, 3) by decide +kernel) (by decide) (fun h => absurd h (by decide)) (fun _ => ?_)
    refine lv_aload_n hx hb (show decode prog_18_method_23_code 13 = .ok (.aload_n 0, 1) by decide +kernel) rfl (lv_at hl 2 rfl) ?_
    refine lv_iload hx hb (show decode prog_18_method_23_code 14 = .ok (.iload 5, 2) by decide +kernel) (lv_at hl 0 rfl) ?_
    refine va_tb (v := .int 60) hx hb (hJ.1.1 0 (by decide)).2.2.2 hS (by unfold vp_in; decide) (by decide) (show decode prog_18_method_23_code 16 = .ok (.baload, 1) by decide +kernel) ?_
    refine lv_iload hx hb (show decode prog_18_method_23_code 17 = .ok (.iload 4, 2) by decide +kernel) (lv_at hl 1 rfl) ?_
    refine lv_icmp_ne (tgt := 25) hx hb (show decode prog_18_method_23_code 19 = .ok (.if_icmp .ne 6, 3) by decide +kernel) (by decide) (fun h => ?_) (fun h => ?_)
    · have e : q_ixf bb [62, 61, 43, 45, 42, 47, 37] 4 = RR := by
        rw [← hk]
        exact (if_neg h).symm
      refine lv_iinc (k := 0) (v := Int32.ofNat 4) hx hb (show decode prog_18_method_23_code 25 = .ok (.iinc 5 1, 3) by decide +kernel) hl rfl (by decide) (by decide) rfl (fun ls3 hl3 => ?_)
      refine lv_goto (tgt := 7) hx hb (show decode prog_18_method_23_code 28 = .ok (.goto (-21), 3) by decide +kernel) (by decide) ?_
      exact lp4 ls3 e hl3
    · have e2 : (60 : Int32) = bb := by first | exact h | exact Decidable.of_not_not h
      have e : RR = Int32.ofNat 3 := by
        rw [← hk]
        exact if_pos e2
      subst e
      refine lv_iload hx hb (show decode prog_18_method_23_code 22 = .ok (.iload 5, 2) by decide +kernel) (lv_at hl 0 rfl) ?_
      exact W.zret hx hb hr rfl (fun t ht hW => ⟨rfl, ht⟩) (fun q hq => by cases hq) (show decode prog_18_method_23_code 24 = .ok (.ireturn, 1) by decide +kernel)
  have lp2 : ∀ ls2 : Array Slot, q_ixf bb [41, 60, 62, 61, 43, 45, 42, 47, 37] 2 = RR → lv_has ls2 6 [(5, .int (Int32.ofNat 2)), (4, .int bb), (0, .ref (V 0)), (1, .int ch), (2, .int (Int32.ofNat 0)), (3, .int (Int32.ofNat 11))] → W p l e (headSpec (.code j_n_indexOfChar prog_18_method_23_code 6 (some .int) :: j_tbl) (j_rm 0)).room s m ([.ref (V 0), .int ch, .int (Int32.ofNat 0), .int (Int32.ofNat 11)] : List Value).toArray below meth c s.heap [] 0 0 (MQ below (j_Q (some (.int RR))) ([.ref (V 0), .int ch, .int (Int32.ofNat 0), .int (Int32.ofNat 11)] : List Value).toArray s 0 0 (fun _ => False)) (F0 m 7 ls2 []) := by
    intro ls2 hk hl
    refine lv_iload hx hb (show decode prog_18_method_23_code 7 = .ok (.iload 5, 2) by decide +kernel) (lv_at hl 0 rfl) ?_
    refine lv_iload_n hx hb (show decode prog_18_method_23_code 9 = .ok (.iload_n 3, 1) by decide +kernel) rfl (lv_at hl 5 rfl) ?_
    refine lv_icmp_ge (tgt := 31) hx hb (show decode prog_18_method_23_code 10 = .ok (.if_icmp .ge 21, 3) by decide +kernel) (by decide) (fun h => absurd h (by decide)) (fun _ => ?_)
    refine lv_aload_n hx hb (show decode prog_18_method_23_code 13 = .ok (.aload_n 0, 1) by decide +kernel) rfl (lv_at hl 2 rfl) ?_
    refine lv_iload hx hb (show decode prog_18_method_23_code 14 = .ok (.iload 5, 2) by decide +kernel) (lv_at hl 0 rfl) ?_
    refine va_tb (v := .int 41) hx hb (hJ.1.1 0 (by decide)).2.2.2 hS (by unfold vp_in; decide) (by decide) (show decode prog_18_method_23_code 16 = .ok (.baload, 1) by decide +kernel) ?_
    refine lv_iload hx hb (show decode prog_18_method_23_code 17 = .ok (.iload 4, 2) by decide +kernel) (lv_at hl 1 rfl) ?_
    refine lv_icmp_ne (tgt := 25) hx hb (show decode prog_18_method_23_code 19 = .ok (.if_icmp .ne 6, 3) by decide +kernel) (by decide) (fun h => ?_) (fun h => ?_)
    · have e : q_ixf bb [60, 62, 61, 43, 45, 42, 47, 37] 3 = RR := by
        rw [← hk]
        exact (if_neg h).symm
      refine lv_iinc (k := 0) (v := Int32.ofNat 3) hx hb (show decode prog_18_method_23_code 25 = .ok (.iinc 5 1, 3) by decide +kernel) hl rfl (by decide) (by decide) rfl (fun ls3 hl3 => ?_)
      refine lv_goto (tgt := 7) hx hb (show decode prog_18_method_23_code 28 = .ok (.goto (-21), 3) by decide +kernel) (by decide) ?_
      exact lp3 ls3 e hl3
    · have e2 : (41 : Int32) = bb := by first | exact h | exact Decidable.of_not_not h
      have e : RR = Int32.ofNat 2 := by
        rw [← hk]
        exact if_pos e2
      subst e
      refine lv_iload hx hb (show decode prog_18_method_23_code 22 = .ok (.iload 5, 2) by decide +kernel) (lv_at hl 0 rfl) ?_
      exact W.zret hx hb hr rfl (fun t ht hW => ⟨rfl, ht⟩) (fun q hq => by cases hq) (show decode prog_18_method_23_code 24 = .ok (.ireturn, 1) by decide +kernel)
  have lp1 : ∀ ls2 : Array Slot, q_ixf bb [40, 41, 60, 62, 61, 43, 45, 42, 47, 37] 1 = RR → lv_has ls2 6 [(5, .int (Int32.ofNat 1)), (4, .int bb), (0, .ref (V 0)), (1, .int ch), (2, .int (Int32.ofNat 0)), (3, .int (Int32.ofNat 11))] → W p l e (headSpec (.code j_n_indexOfChar prog_18_method_23_code 6 (some .int) :: j_tbl) (j_rm 0)).room s m ([.ref (V 0), .int ch, .int (Int32.ofNat 0), .int (Int32.ofNat 11)] : List Value).toArray below meth c s.heap [] 0 0 (MQ below (j_Q (some (.int RR))) ([.ref (V 0), .int ch, .int (Int32.ofNat 0), .int (Int32.ofNat 11)] : List Value).toArray s 0 0 (fun _ => False)) (F0 m 7 ls2 []) := by
    intro ls2 hk hl
    refine lv_iload hx hb (show decode prog_18_method_23_code 7 = .ok (.iload 5, 2) by decide +kernel) (lv_at hl 0 rfl) ?_
    refine lv_iload_n hx hb (show decode prog_18_method_23_code 9 = .ok (.iload_n 3, 1) by decide +kernel) rfl (lv_at hl 5 rfl) ?_
    refine lv_icmp_ge (tgt := 31) hx hb (show decode prog_18_method_23_code 10 = .ok (.if_icmp .ge 21, 3) by decide +kernel) (by decide) (fun h => absurd h (by decide)) (fun _ => ?_)
    refine lv_aload_n hx hb (show decode prog_18_method_23_code 13 = .ok (.aload_n 0, 1) by decide +kernel) rfl (lv_at hl 2 rfl) ?_
    refine lv_iload hx hb (show decode prog_18_method_23_code 14 = .ok (.iload 5, 2) by decide +kernel) (lv_at hl 0 rfl) ?_
    refine va_tb (v := .int 40) hx hb (hJ.1.1 0 (by decide)).2.2.2 hS (by unfold vp_in; decide) (by decide) (show decode prog_18_method_23_code 16 = .ok (.baload, 1) by decide +kernel) ?_
    refine lv_iload hx hb (show decode prog_18_method_23_code 17 = .ok (.iload 4, 2) by decide +kernel) (lv_at hl 1 rfl) ?_
    refine lv_icmp_ne (tgt := 25) hx hb (show decode prog_18_method_23_code 19 = .ok (.if_icmp .ne 6, 3) by decide +kernel) (by decide) (fun h => ?_) (fun h => ?_)
    · have e : q_ixf bb [41, 60, 62, 61, 43, 45, 42, 47, 37] 2 = RR := by
        rw [← hk]
        exact (if_neg h).symm
      refine lv_iinc (k := 0) (v := Int32.ofNat 2) hx hb (show decode prog_18_method_23_code 25 = .ok (.iinc 5 1, 3) by decide +kernel) hl rfl (by decide) (by decide) rfl (fun ls3 hl3 => ?_)
      refine lv_goto (tgt := 7) hx hb (show decode prog_18_method_23_code 28 = .ok (.goto (-21), 3) by decide +kernel) (by decide) ?_
      exact lp2 ls3 e hl3
    · have e2 : (40 : Int32) = bb := by first | exact h | exact Decidable.of_not_not h
      have e : RR = Int32.ofNat 1 := by
        rw [← hk]
        exact if_pos e2
      subst e
      refine lv_iload hx hb (show decode prog_18_method_23_code 22 = .ok (.iload 5, 2) by decide +kernel) (lv_at hl 0 rfl) ?_
      exact W.zret hx hb hr rfl (fun t ht hW => ⟨rfl, ht⟩) (fun q hq => by cases hq) (show decode prog_18_method_23_code 24 = .ok (.ireturn, 1) by decide +kernel)
  have lp0 : ∀ ls2 : Array Slot, q_ixf bb [59, 40, 41, 60, 62, 61, 43, 45, 42, 47, 37] 0 = RR → lv_has ls2 6 [(5, .int (Int32.ofNat 0)), (4, .int bb), (0, .ref (V 0)), (1, .int ch), (2, .int (Int32.ofNat 0)), (3, .int (Int32.ofNat 11))] → W p l e (headSpec (.code j_n_indexOfChar prog_18_method_23_code 6 (some .int) :: j_tbl) (j_rm 0)).room s m ([.ref (V 0), .int ch, .int (Int32.ofNat 0), .int (Int32.ofNat 11)] : List Value).toArray below meth c s.heap [] 0 0 (MQ below (j_Q (some (.int RR))) ([.ref (V 0), .int ch, .int (Int32.ofNat 0), .int (Int32.ofNat 11)] : List Value).toArray s 0 0 (fun _ => False)) (F0 m 7 ls2 []) := by
    intro ls2 hk hl
    refine lv_iload hx hb (show decode prog_18_method_23_code 7 = .ok (.iload 5, 2) by decide +kernel) (lv_at hl 0 rfl) ?_
    refine lv_iload_n hx hb (show decode prog_18_method_23_code 9 = .ok (.iload_n 3, 1) by decide +kernel) rfl (lv_at hl 5 rfl) ?_
    refine lv_icmp_ge (tgt := 31) hx hb (show decode prog_18_method_23_code 10 = .ok (.if_icmp .ge 21, 3) by decide +kernel) (by decide) (fun h => absurd h (by decide)) (fun _ => ?_)
    refine lv_aload_n hx hb (show decode prog_18_method_23_code 13 = .ok (.aload_n 0, 1) by decide +kernel) rfl (lv_at hl 2 rfl) ?_
    refine lv_iload hx hb (show decode prog_18_method_23_code 14 = .ok (.iload 5, 2) by decide +kernel) (lv_at hl 0 rfl) ?_
    refine va_tb (v := .int 59) hx hb (hJ.1.1 0 (by decide)).2.2.2 hS (by unfold vp_in; decide) (by decide) (show decode prog_18_method_23_code 16 = .ok (.baload, 1) by decide +kernel) ?_
    refine lv_iload hx hb (show decode prog_18_method_23_code 17 = .ok (.iload 4, 2) by decide +kernel) (lv_at hl 1 rfl) ?_
    refine lv_icmp_ne (tgt := 25) hx hb (show decode prog_18_method_23_code 19 = .ok (.if_icmp .ne 6, 3) by decide +kernel) (by decide) (fun h => ?_) (fun h => ?_)
    · have e : q_ixf bb [40, 41, 60, 62, 61, 43, 45, 42, 47, 37] 1 = RR := by
        rw [← hk]
        exact (if_neg h).symm
      refine lv_iinc (k := 0) (v := Int32.ofNat 1) hx hb (show decode prog_18_method_23_code 25 = .ok (.iinc 5 1, 3) by decide +kernel) hl rfl (by decide) (by decide) rfl (fun ls3 hl3 => ?_)
      refine lv_goto (tgt := 7) hx hb (show decode prog_18_method_23_code 28 = .ok (.goto (-21), 3) by decide +kernel) (by decide) ?_
      exact lp1 ls3 e hl3
    · have e2 : (59 : Int32) = bb := by first | exact h | exact Decidable.of_not_not h
      have e : RR = Int32.ofNat 0 := by
        rw [← hk]
        exact if_pos e2
      subst e
      refine lv_iload hx hb (show decode prog_18_method_23_code 22 = .ok (.iload 5, 2) by decide +kernel) (lv_at hl 0 rfl) ?_
      exact W.zret hx hb hr rfl (fun t ht hW => ⟨rfl, ht⟩) (fun q hq => by cases hq) (show decode prog_18_method_23_code 24 = .ok (.ireturn, 1) by decide +kernel)
  refine lv_iload_n hx hb (show decode prog_18_method_23_code 0 = .ok (.iload_n 1, 1) by decide +kernel) rfl (lv_at hl 1 rfl) ?_
  refine lv_i2b hx hb (show decode prog_18_method_23_code 1 = .ok (.i2b, 1) by decide +kernel) hbb ?_
  refine lv_istore (lv' := [(4, .int bb), (0, .ref (V 0)), (1, .int ch), (2, .int (Int32.ofNat 0)), (3, .int (Int32.ofNat 11))]) hx hb (show decode prog_18_method_23_code 2 = .ok (.istore 4, 2) by decide +kernel) hl (by decide) rfl (fun ls1 hl => ?_)
  refine lv_iload_n hx hb (show decode prog_18_method_23_code 4 = .ok (.iload_n 2, 1) by decide +kernel) rfl (lv_at hl 3 rfl) ?_
  refine lv_istore (lv' := [(5, .int (Int32.ofNat 0)), (4, .int bb), (0, .ref (V 0)), (1, .int ch), (2, .int (Int32.ofNat 0)), (3, .int (Int32.ofNat 11))]) hx hb (show decode prog_18_method_23_code 5 = .ok (.istore 5, 2) by decide +kernel) hl (by decide) rfl (fun ls2 hl => ?_)
  exact lp0 ls2 hRR hl

set_option maxRecDepth 100000 in
theorem j_c_lIndexOf {l : Launch} {S : Nat} {K V : Nat → Nat} {ch : Int32} : Met l j_n_lIndexOf (.code j_n_lIndexOf prog_18_method_22_code 4 (some .int) :: j_tbl) (j_rm 1) (j_P [.ref (V 0), .int ch, .int (Int32.ofNat 0), .int (Int32.ofNat 11)] S K V) (j_Q (some (.int (q_ixo ch)))) 0 0 (fun _ => False) := by
  refine Met.ofW (cc := prog_18_method_22_code) (maxL := 4) (ret := some .int) (by decide) rfl ?_
  intro p e s m args below meth c s₁ B hml hv
  obtain ⟨rfl, hJ⟩ := hv
  have hx := B.exec
  have hb := B.bytes
  have hr := B.returns
  have hts0 := atoms_spec (ws := .code j_n_lIndexOf prog_18_method_22_code 4 (some .int) :: j_tbl) B.pre
  have hts : ∀ w ∈ j_tbl, w.before ([.ref (V 0), .int ch, .int (Int32.ofNat 0), .int (Int32.ofNat 11)] : List Value).toArray s = true := fun w hw => hts0 w (List.mem_cons_of_mem _ hw)
  have hown : s.vm.findClass "java/lang/StringLatin1" = some m.cls := findClass_of_methodNamed B.named
  have hlocks := B.notSynchronized
  have hS : va_S (q_SA S) s.heap s.heap [] := va_S.rf
  have hf : CallFix p m c prog_18_method_22_code 4 s ([.ref (V 0), .int ch, .int (Int32.ofNat 0), .int (Int32.ofNat 11)] : List Value).toArray j_tbl "java/lang/StringLatin1" := ⟨hx, hb, hml, hown, hts⟩
  have hl := lv_entry ([.ref (V 0), .int ch, .int (Int32.ofNat 0), .int (Int32.ofNat 11)]) (n := 4) (Nat.le_of_ble_eq_true rfl)
  rw [lg_entry_eq]
  generalize (lg_sl ([.ref (V 0), .int ch, .int (Int32.ofNat 0), .int (Int32.ofNat 11)]) ++ List.replicate (4 - (lg_sl ([.ref (V 0), .int ch, .int (Int32.ofNat 0), .int (Int32.ofNat 11)])).length) Slot.unset).toArray = ls at hl ⊢
  have hl : lv_has ls 4 [(0, .ref (V 0)), (1, .int ch), (2, .int (Int32.ofNat 0)), (3, .int (Int32.ofNat 11))] := hl
  refine lv_iload_n hx hb (show decode prog_18_method_22_code 0 = .ok (.iload_n 1, 1) by decide +kernel) rfl (lv_at hl 1 rfl) ?_
  refine j_goS (y := j_n_canEncode) (bytes := prog_18_method_4_code) (maxL := 1) (ret := (some .boolean)) (K := K) (V := V) (S := S) (k := 0) (n := 1) (As := [.int ch]) (rest := []) (o := some (.int (j_can ch))) hf j_c_canEncode j_w_c_canEncode j_w_nL j_w_L88 j_w_s_canEncode (by decide +kernel) rfl (by decide) ⟨Nat.le_of_ble_eq_true rfl, Nat.le_of_ble_eq_true rfl⟩ hJ hS hl.1 (Nat.le_of_ble_eq_true rfl) (show decode prog_18_method_22_code 1 = .ok (.invokestatic 88, 3) by decide +kernel) ⟨Nat.zero_le _, Nat.zero_le _⟩ rfl ?_
  refine lv_if_ne (tgt := 9) hx hb (show decode prog_18_method_22_code 4 = .ok (.ifCond .ne 5, 3) by decide +kernel) (by decide) (fun h => ?_) (fun h => ?_)
  · obtain ⟨h0, h1⟩ := j_can_ne h
    rw [j_ixo_in h0 h1]
    refine lv_iload_n hx hb (show decode prog_18_method_22_code 9 = .ok (.iload_n 2, 1) by decide +kernel) rfl (lv_at hl 2 rfl) ?_
    refine lv_iconst (v := 0) hx hb (show decode prog_18_method_22_code 10 = .ok (.iconst 0, 1) by decide +kernel) (by decide) ?_
    refine va_mmax hx hb (hml.trans hl.1.symm) hown (hts _ j_w_L92) (hts _ j_w_s_max) (hts _ j_w_nM) (hts _ j_w_c_max) (Nat.le_of_ble_eq_true rfl) (Nat.le_of_ble_eq_true rfl) (Nat.zero_le _) (Nat.zero_le _) (show decode prog_18_method_22_code 11 = .ok (.invokestatic 92, 3) by decide +kernel) ?_
    refine lv_topi (fun y1 e1 => ?_)
    have e1 : y1 = Int32.ofNat 0 := e1.trans (by decide)
    subst e1
    refine lv_istore_n (lv' := [(2, .int (Int32.ofNat 0)), (0, .ref (V 0)), (1, .int ch), (3, .int (Int32.ofNat 11))]) hx hb (show decode prog_18_method_22_code 14 = .ok (.istore_n 2, 1) by decide +kernel) rfl hl (by decide) rfl (fun ls1 hl => ?_)
    refine lv_iload_n hx hb (show decode prog_18_method_22_code 15 = .ok (.iload_n 3, 1) by decide +kernel) rfl (lv_at hl 3 rfl) ?_
    refine lv_aload_n hx hb (show decode prog_18_method_22_code 16 = .ok (.aload_n 0, 1) by decide +kernel) rfl (lv_at hl 1 rfl) ?_
    refine va_tlen (v := Int32.ofNat 11) hx hb (hJ.1.1 0 (by decide)).2.2.2 hS rfl (show decode prog_18_method_22_code 17 = .ok (.arraylength, 1) by decide +kernel) ?_
    refine va_mmin hx hb (hml.trans hl.1.symm) hown (hts _ j_w_L38) (hts _ j_w_s_min) (hts _ j_w_nM) (hts _ j_w_c_min) (Nat.le_of_ble_eq_true rfl) (Nat.le_of_ble_eq_true rfl) (Nat.zero_le _) (Nat.zero_le _) (show decode prog_18_method_22_code 18 = .ok (.invokestatic 38, 3) by decide +kernel) ?_
    refine lv_topi (fun y1 e1 => ?_)
    have e1 : y1 = Int32.ofNat 11 := e1.trans (by decide)
    subst e1
    refine lv_istore_n (lv' := [(3, .int (Int32.ofNat 11)), (2, .int (Int32.ofNat 0)), (0, .ref (V 0)), (1, .int ch)]) hx hb (show decode prog_18_method_22_code 21 = .ok (.istore_n 3, 1) by decide +kernel) rfl hl (by decide) rfl (fun ls2 hl => ?_)
    refine lv_iload_n hx hb (show decode prog_18_method_22_code 22 = .ok (.iload_n 2, 1) by decide +kernel) rfl (lv_at hl 1 rfl) ?_
    refine lv_iload_n hx hb (show decode prog_18_method_22_code 23 = .ok (.iload_n 3, 1) by decide +kernel) rfl (lv_at hl 0 rfl) ?_
    refine lv_icmp_lt (tgt := 29) hx hb (show decode prog_18_method_22_code 24 = .ok (.if_icmp .lt 5, 3) by decide +kernel) (by decide) (fun _ => ?_) (fun h => absurd (by decide) h)
    refine lv_aload_n hx hb (show decode prog_18_method_22_code 29 = .ok (.aload_n 0, 1) by decide +kernel) rfl (lv_at hl 2 rfl) ?_
    refine lv_iload_n hx hb (show decode prog_18_method_22_code 30 = .ok (.iload_n 1, 1) by decide +kernel) rfl (lv_at hl 3 rfl) ?_
    refine lv_iload_n hx hb (show decode prog_18_method_22_code 31 = .ok (.iload_n 2, 1) by decide +kernel) rfl (lv_at hl 1 rfl) ?_
    refine lv_iload_n hx hb (show decode prog_18_method_22_code 32 = .ok (.iload_n 3, 1) by decide +kernel) rfl (lv_at hl 0 rfl) ?_
    refine j_goS (y := j_n_indexOfChar) (bytes := prog_18_method_23_code) (maxL := 6) (ret := (some .int)) (K := K) (V := V) (S := S) (k := 0) (n := 4) (As := [.ref (V 0), .int ch, .int (Int32.ofNat 0), .int (Int32.ofNat 11)]) (rest := []) (o := some (.int (q_ixf ch.toInt8.toInt32 (q_sb.getD 0 []) 0))) hf j_c_indexOfChar j_w_c_indexOfChar j_w_nL j_w_L95 j_w_s_indexOfChar (by decide +kernel) rfl (by decide) ⟨Nat.le_of_ble_eq_true rfl, Nat.le_of_ble_eq_true rfl⟩ hJ hS hl.1 (Nat.le_of_ble_eq_true rfl) (show decode prog_18_method_22_code 33 = .ok (.invokestatic 95, 3) by decide +kernel) ⟨Nat.zero_le _, Nat.zero_le _⟩ rfl ?_
    exact W.zret hx hb hr rfl (fun t ht hW => ⟨rfl, ht⟩) (fun q hq => by cases hq) (show decode prog_18_method_22_code 36 = .ok (.ireturn, 1) by decide +kernel)
  · rw [j_ixo_out h]
    refine lv_iconst (v := -1) hx hb (show decode prog_18_method_22_code 7 = .ok (.iconst (-1), 1) by decide +kernel) (by decide) ?_
    exact W.zret hx hb hr rfl (fun t ht hW => ⟨rfl, ht⟩) (fun q hq => by cases hq) (show decode prog_18_method_22_code 8 = .ok (.ireturn, 1) by decide +kernel)

set_option maxRecDepth 100000 in
theorem j_c_indexOf2 {l : Launch} {S : Nat} {K V : Nat → Nat} {ch : Int32} : Met l j_n_indexOf2 (.code j_n_indexOf2 prog_17_method_80_code 3 (some .int) :: j_tbl) (j_rm 2) (j_P [.ref (K 0), .int ch, .int (Int32.ofNat 0)] S K V) (j_Q (some (.int (q_ixo ch)))) 0 0 (fun _ => False) := by
  refine Met.ofW (cc := prog_17_method_80_code) (maxL := 3) (ret := some .int) (by decide) rfl ?_
  intro p e s m args below meth c s₁ B hml hv
  obtain ⟨rfl, hJ⟩ := hv
  have hx := B.exec
  have hb := B.bytes
  have hr := B.returns
  have hts0 := atoms_spec (ws := .code j_n_indexOf2 prog_17_method_80_code 3 (some .int) :: j_tbl) B.pre
  have hts : ∀ w ∈ j_tbl, w.before ([.ref (K 0), .int ch, .int (Int32.ofNat 0)] : List Value).toArray s = true := fun w hw => hts0 w (List.mem_cons_of_mem _ hw)
  have hown : s.vm.findClass "java/lang/String" = some m.cls := findClass_of_methodNamed B.named
  have hlocks := B.notSynchronized
  have hS : va_S (q_SA S) s.heap s.heap [] := va_S.rf
  have hf : CallFix p m c prog_17_method_80_code 3 s ([.ref (K 0), .int ch, .int (Int32.ofNat 0)] : List Value).toArray j_tbl "java/lang/String" := ⟨hx, hb, hml, hown, hts⟩
  have hl := lv_entry ([.ref (K 0), .int ch, .int (Int32.ofNat 0)]) (n := 3) (Nat.le_of_ble_eq_true rfl)
  rw [lg_entry_eq]
  generalize (lg_sl ([.ref (K 0), .int ch, .int (Int32.ofNat 0)]) ++ List.replicate (3 - (lg_sl ([.ref (K 0), .int ch, .int (Int32.ofNat 0)])).length) Slot.unset).toArray = ls at hl ⊢
  have hl : lv_has ls 3 [(0, .ref (K 0)), (1, .int ch), (2, .int (Int32.ofNat 0))] := hl
  refine lv_aload_n hx hb (show decode prog_17_method_80_code 0 = .ok (.aload_n 0, 1) by decide +kernel) rfl (lv_at hl 0 rfl) ?_
  refine j_goV (y := j_n_isLatin1) (bytes := prog_17_method_154_code) (maxL := 1) (ret := (some .boolean)) (K := K) (V := V) (S := S) (i := 0) (k := 0) (n := 0) (As := []) (rest := []) (o := some (.int 1)) hf (by decide) (j_c_isLatin1 (by decide)) rfl j_w_c_isLatin1 j_w_nS j_w_l492 j_w_i_isLatin1 j_w_v_isLatin1 (by decide +kernel) rfl (by decide) ⟨Nat.le_of_ble_eq_true rfl, Nat.le_of_ble_eq_true rfl⟩ hJ hS hl.1 (Nat.le_of_ble_eq_true rfl) (show decode prog_17_method_80_code 1 = .ok (.invokevirtual 492, 3) by decide +kernel) ⟨Nat.zero_le _, Nat.zero_le _⟩ rfl ?_
  refine lv_if_eq (tgt := 23) hx hb (show decode prog_17_method_80_code 4 = .ok (.ifCond .eq 19, 3) by decide +kernel) (by decide) (fun h => absurd h (by decide)) (fun _ => ?_)
  refine lv_aload_n hx hb (show decode prog_17_method_80_code 7 = .ok (.aload_n 0, 1) by decide +kernel) rfl (lv_at hl 0 rfl) ?_
  refine vk_getf (o := "java/lang/String") (n := "value") (d := "[B") (ref := "java/lang/String") hx hb (hJ.1.1 0 (by decide)).2.2.1 hS hown (hts _ j_w_l9) (fun _ h => h) (show decode prog_17_method_80_code 8 = .ok (.getfield 9, 3) by decide +kernel) ?_
  refine lv_iload_n hx hb (show decode prog_17_method_80_code 11 = .ok (.iload_n 1, 1) by decide +kernel) rfl (lv_at hl 1 rfl) ?_
  refine lv_iload_n hx hb (show decode prog_17_method_80_code 12 = .ok (.iload_n 2, 1) by decide +kernel) rfl (lv_at hl 2 rfl) ?_
  refine lv_aload_n hx hb (show decode prog_17_method_80_code 13 = .ok (.aload_n 0, 1) by decide +kernel) rfl (lv_at hl 0 rfl) ?_
  refine j_goV (y := j_n_length) (bytes := prog_17_method_54_code) (maxL := 1) (ret := (some .int)) (K := K) (V := V) (S := S) (i := 0) (k := 1) (n := 0) (As := []) (rest := [.int (Int32.ofNat 0), .int ch, .ref (V 0)]) (o := some (.int (Int32.ofNat 11))) hf (by decide) (j_c_length (by decide)) rfl j_w_c_length j_w_nS j_w_l505 j_w_i_length j_w_v_length (by decide +kernel) rfl (by decide) ⟨Nat.le_of_ble_eq_true rfl, Nat.le_of_ble_eq_true rfl⟩ hJ hS hl.1 (Nat.le_of_ble_eq_true rfl) (show decode prog_17_method_80_code 14 = .ok (.invokevirtual 505, 3) by decide +kernel) ⟨Nat.zero_le _, Nat.zero_le _⟩ rfl ?_
  refine j_goS (y := j_n_lIndexOf) (bytes := prog_18_method_22_code) (maxL := 4) (ret := (some .int)) (K := K) (V := V) (S := S) (k := 1) (n := 4) (As := [.ref (V 0), .int ch, .int (Int32.ofNat 0), .int (Int32.ofNat 11)]) (rest := []) (o := some (.int (q_ixo ch))) hf j_c_lIndexOf j_w_c_lIndexOf j_w_nL j_w_l637 j_w_s_lIndexOf (by decide +kernel) rfl (by decide) ⟨Nat.le_of_ble_eq_true rfl, Nat.le_of_ble_eq_true rfl⟩ hJ hS hl.1 (Nat.le_of_ble_eq_true rfl) (show decode prog_17_method_80_code 17 = .ok (.invokestatic 637, 3) by decide +kernel) ⟨Nat.zero_le _, Nat.zero_le _⟩ rfl ?_
  refine lv_goto (tgt := 36) hx hb (show decode prog_17_method_80_code 20 = .ok (.goto 16, 3) by decide +kernel) (by decide) ?_
  exact W.zret hx hb hr rfl (fun t ht hW => ⟨rfl, ht⟩) (fun q hq => by cases hq) (show decode prog_17_method_80_code 36 = .ok (.ireturn, 1) by decide +kernel)

set_option maxRecDepth 100000 in
theorem j_c_indexOf {l : Launch} {S : Nat} {K V : Nat → Nat} {ch : Int32} : Met l j_n_indexOf (.code j_n_indexOf prog_17_method_79_code 2 (some .int) :: j_tbl) (j_rm 3) (j_P [.ref (K 0), .int ch] S K V) (j_Q (some (.int (q_ixo ch)))) 0 0 (fun _ => False) := by
  refine Met.ofW (cc := prog_17_method_79_code) (maxL := 2) (ret := some .int) (by decide) rfl ?_
  intro p e s m args below meth c s₁ B hml hv
  obtain ⟨rfl, hJ⟩ := hv
  have hx := B.exec
  have hb := B.bytes
  have hr := B.returns
  have hts0 := atoms_spec (ws := .code j_n_indexOf prog_17_method_79_code 2 (some .int) :: j_tbl) B.pre
  have hts : ∀ w ∈ j_tbl, w.before ([.ref (K 0), .int ch] : List Value).toArray s = true := fun w hw => hts0 w (List.mem_cons_of_mem _ hw)
  have hown : s.vm.findClass "java/lang/String" = some m.cls := findClass_of_methodNamed B.named
  have hlocks := B.notSynchronized
  have hS : va_S (q_SA S) s.heap s.heap [] := va_S.rf
  have hf : CallFix p m c prog_17_method_79_code 2 s ([.ref (K 0), .int ch] : List Value).toArray j_tbl "java/lang/String" := ⟨hx, hb, hml, hown, hts⟩
  have hl := lv_entry ([.ref (K 0), .int ch]) (n := 2) (Nat.le_of_ble_eq_true rfl)
  rw [lg_entry_eq]
  generalize (lg_sl ([.ref (K 0), .int ch]) ++ List.replicate (2 - (lg_sl ([.ref (K 0), .int ch])).length) Slot.unset).toArray = ls at hl ⊢
  have hl : lv_has ls 2 [(0, .ref (K 0)), (1, .int ch)] := hl
  refine lv_aload_n hx hb (show decode prog_17_method_79_code 0 = .ok (.aload_n 0, 1) by decide +kernel) rfl (lv_at hl 0 rfl) ?_
  refine lv_iload_n hx hb (show decode prog_17_method_79_code 1 = .ok (.iload_n 1, 1) by decide +kernel) rfl (lv_at hl 1 rfl) ?_
  refine lv_iconst (v := Int32.ofNat 0) hx hb (show decode prog_17_method_79_code 2 = .ok (.iconst 0, 1) by decide +kernel) (by decide) ?_
  refine j_goV (y := j_n_indexOf2) (bytes := prog_17_method_80_code) (maxL := 3) (ret := (some .int)) (K := K) (V := V) (S := S) (i := 0) (k := 2) (n := 2) (As := [.int ch, .int (Int32.ofNat 0)]) (rest := []) (o := some (.int (q_ixo ch))) hf (by decide) j_c_indexOf2 rfl j_w_c_indexOf2 j_w_nS j_w_l633 j_w_i_indexOf2 j_w_v_indexOf2 (by decide +kernel) rfl (by decide) ⟨Nat.le_of_ble_eq_true rfl, Nat.le_of_ble_eq_true rfl⟩ hJ hS hl.1 (Nat.le_of_ble_eq_true rfl) (show decode prog_17_method_79_code 3 = .ok (.invokevirtual 633, 3) by decide +kernel) ⟨Nat.zero_le _, Nat.zero_le _⟩ rfl ?_
  exact W.zret hx hb hr rfl (fun t ht hW => ⟨rfl, ht⟩) (fun q hq => by cases hq) (show decode prog_17_method_79_code 6 = .ok (.ireturn, 1) by decide +kernel)

theorem j_w_G38 : Cond.fieldLink "GoodbyeQuay" 38 "GoodbyeQuay" "now" "LGoodbyeQuay$State;" ∈ j_tbl := List.mem_filter.mpr ⟨(g_tb2 _ (List.mem_of_getElem? (i := 234) (by decide +kernel)) rfl), rfl⟩
theorem j_w_G170 : Cond.fieldLink "GoodbyeQuay" 170 "GoodbyeQuay$State" "size" "I" ∈ j_tbl := List.mem_filter.mpr ⟨(g_tb1 _ (List.mem_of_getElem? (i := 214) (by decide +kernel)) rfl), rfl⟩
theorem j_mac_ok {len : Nat} {r : List Nat} {f : q_F Int32} {h : q_H Int32} {ns : Nat} {x : q_S Int32 ⊕ q_R Int32} (hs : q_mac q_O32 len r f h ns = some x) : q_cats f.2.2 ≤ 6 := by
  unfold q_mac at hs
  cases hb : Nat.ble (q_cats f.2.2) 6 with
  | true => exact Nat.le_of_ble_eq_true hb
  | false => rw [hb] at hs; cases hs
theorem j_m1 {j len : Nat} {x0 : Int32} {f : q_F Int32} {h : q_H Int32} {ns : Nat} {x : q_S Int32 ⊕ q_R Int32} (hs : q_m1 q_O32 j x0 len f h ns = some x) : ∃ z, q_o1 j x0 = some z ∧ x = .inl ((f.1 + len, f.2.1, .inl z :: f.2.2), h, ns) := by
  unfold q_m1 at hs
  split at hs
  next z hz => cases hs; exact ⟨z, hz, rfl⟩
  next => cases hs
theorem j_mac_1 {len v : Nat} {f : q_F Int32} {h : q_H Int32} {ns : Nat} {x : q_S Int32 ⊕ q_R Int32} (hs : q_mac q_O32 len [v] f h ns = some x) : x = .inl ((f.1 + len, f.2.1, .inl (Int32.ofNat v) :: f.2.2), h, ns) := by
  have hb := Nat.ble_eq_true_of_le (j_mac_ok hs)
  unfold q_mac at hs
  rw [hb, cond_true] at hs
  cases hs
  rfl
theorem j_mac_2 {len j i : Nat} {f : q_F Int32} {h : q_H Int32} {ns : Nat} {x : q_S Int32 ⊕ q_R Int32} (hs : q_mac q_O32 len [j, i] f h ns = some x) : ∃ y z, q_at f.2.1 i = some (.inl y) ∧ q_o1 j y = some z ∧ x = .inl ((f.1 + len, f.2.1, .inl z :: f.2.2), h, ns) := by
  have hb := Nat.ble_eq_true_of_le (j_mac_ok hs)
  unfold q_mac at hs
  rw [hb, cond_true] at hs
  dsimp only at hs
  split at hs
  next y hy =>
    obtain ⟨z, h1, h2⟩ := j_m1 hs
    exact ⟨y, z, hy, h1, h2⟩
  next => cases hs
theorem j_mac_5 {len j c1 k1 c2 k2 : Nat} {f : q_F Int32} {h : q_H Int32} {ns : Nat} {x : q_S Int32 ⊕ q_R Int32} (hs : q_mac q_O32 len [j, c1, k1, c2, k2] f h ns = some x) : ∃ y z, q_f2 c1 k1 c2 k2 f h = some y ∧ q_o1 j y = some z ∧ x = .inl ((f.1 + len, f.2.1, .inl z :: f.2.2), h, ns) := by
  have hb := Nat.ble_eq_true_of_le (j_mac_ok hs)
  unfold q_mac at hs
  rw [hb, cond_true] at hs
  dsimp only at hs
  split at hs
  next y hy =>
    obtain ⟨z, h1, h2⟩ := j_m1 hs
    exact ⟨y, z, hy, h1, h2⟩
  next => cases hs
theorem j_mac_6 {len j c1 k1 c2 k2 i : Nat} {f : q_F Int32} {h : q_H Int32} {ns : Nat} {x : q_S Int32 ⊕ q_R Int32} (hs : q_mac q_O32 len [j, c1, k1, c2, k2, i] f h ns = some x) : ∃ y w z, q_f2 c1 k1 c2 k2 f h = some y ∧ q_at f.2.1 i = some (.inl w) ∧ q_o1 j (y - 1 - w) = some z ∧ x = .inl ((f.1 + len, f.2.1, .inl z :: f.2.2), h, ns) := by
  have hb := Nat.ble_eq_true_of_le (j_mac_ok hs)
  unfold q_mac at hs
  rw [hb, cond_true] at hs
  dsimp only at hs
  split at hs
  next y w hy hw =>
    obtain ⟨z, h1, h2⟩ := j_m1 (show q_m1 q_O32 j (y - 1 - w) len f h ns = some x from hs)
    exact ⟨y, w, z, hy, hw, h1, h2⟩
  next => cases hs
theorem j_f2 {c1 k1 c2 k2 : Nat} {f : q_F Int32} {h : q_H Int32} {y : Int32} (hs : q_f2 c1 k1 c2 k2 f h = some y) : ∃ o q o2 q2, q_at f.2.1 0 = some (.inr (.inr (o + 2))) ∧ h[o]? = some q ∧ q.1 = c1 ∧ k1 < q.2.1 ∧ q_at q.2.2 k1 = some (.inr (.inr (o2 + 2))) ∧ h[o2]? = some q2 ∧ q2.1 = c2 ∧ k2 < q2.2.1 ∧ q_at q2.2.2 k2 = some (.inl y) := by
  unfold q_f2 at hs
  split at hs
  next o ho =>
    split at hs
    next q hq =>
      cases hb : Nat.beq q.1 c1 && Nat.blt k1 q.2.1 with
      | false => rw [hb] at hs; cases hs
      | true =>
        rw [hb, cond_true] at hs
        rw [Bool.and_eq_true] at hb
        split at hs
        next o2 ho2 =>
          split at hs
          next q2 hq2 =>
            cases hb2 : Nat.beq q2.1 c2 && Nat.blt k2 q2.2.1 with
            | false => rw [hb2] at hs; cases hs
            | true =>
              rw [hb2, cond_true] at hs
              rw [Bool.and_eq_true] at hb2
              split at hs
              next x hx =>
                cases hs
                exact ⟨o, q, o2, q2, ho, hq, q_beq hb.1, q_blt hb.2, ho2, hq2, q_beq hb2.1, q_blt hb2.2, hx⟩
              next => cases hs
          next => cases hs
        next => cases hs
    next => cases hs
  next => cases hs
theorem j_ord {y z : Int32} (h : q_o1 4 y = some z) : vp_in y 8 ∧ Value.int (q_ord.getD y.toNatClampNeg 0) = .int z := by
  have h2 : (if y < 0 then none else if y < 8 then some (q_ord.getD y.toNatClampNeg 0) else none) = some z := h
  by_cases h0 : y < 0
  · rw [if_pos h0] at h2; cases h2
  · rw [if_neg h0] at h2
    by_cases h1 : y < 8
    · rw [if_pos h1] at h2
      cases h2
      have h3 := (j_nat (N := 8) (by decide) h0 h1).2
      refine ⟨fun q => ?_, rfl⟩
      rcases q with q | q
      · exact h0 q
      · omega
    · rw [if_neg h1] at h2; cases h2
theorem j_chr {y z : Int32} (h : q_o1 6 y = some z) : ¬ y < 0 ∧ y < Int32.ofNat (q_sl.getD 1 0) ∧ z = q_chr 1 y.toNatClampNeg := by
  have h2 : (if y < 0 then none else if y < 96 then some (q_chr 1 y.toNatClampNeg) else none) = some z := h
  by_cases h0 : y < 0
  · rw [if_pos h0] at h2; cases h2
  · rw [if_neg h0] at h2
    by_cases h1 : y < 96
    · rw [if_pos h1] at h2
      cases h2
      exact ⟨h0, h1, rfl⟩
    · rw [if_neg h1] at h2; cases h2
section JM
variable {p : Program} {l : Launch} {e : Env} {R : Room} {s : State} {m : MethodId} {args : Array Value} {below : List Frame} {meth : Method} {c : Code} {H : Heap} {locs : List Loc} {cells slots : Nat} {Q : State → Prop} {S b : Nat} {D : va_G} {cA : Nat → ClassId} {own : String} {cc : ByteArray} {nL : Nat}
theorem j_fix (cx : q_CX p s m args c S D cA g_cl nL own cc g_tbl) : CallFix p m c cc nL s args j_tbl own := ⟨cx.1, cx.2.1, cx.2.2.1, cx.2.2.2.1, fun w hw => cx.2.2.2.2.1 w (List.mem_filter.mp hw).1⟩
theorem j_cat {st : List (q_V Int32)} (h : q_cats st ≤ 6) : ((st.map (q_ren S b)).map fun v => v.category).sum ≤ 8 := by
  rw [q_cats_map]
  omega
/-- this.now.size onto the stack -/
theorem j_size (cx : q_CX p s m args c S D cA g_cl nL "GoodbyeQuay" cc g_tbl) {f : q_F Int32} {h : q_H Int32} {y : Int32} (hf : q_f2 10 4 6 1 f h = some y) {ls : Array Slot} (hP : va_P D g_cl (q_ws S b cA h) H) (hl : lv_has ls nL (f.2.1.map (q_rl S b))) {pc : Nat} {rest : List Value} (d1 : decode cc pc = .ok (.aload_n 0, 1)) (d2 : decode cc (pc + 1) = .ok (.getfield 38, 3)) (d3 : decode cc (pc + 1 + 3) = .ok (.getfield 170, 3)) (kk : W p l e R s m args below meth c H locs cells slots Q (F0 m (pc + 1 + 3 + 3) ls (.int y :: rest))) : W p l e R s m args below meth c H locs cells slots Q (F0 m pc ls rest) := by
  obtain ⟨o, q, o2, q2, ho, hq, e1, hk1, ho2, hq2, e2, hk2, hy⟩ := j_f2 hf
  refine lv_aload_n (x := S + o) cx.1 cx.2.1 d1 rfl (q_lv hl ho) ?_
  have hw := q_ws_at (S := S) (b := b) (cA := cA) hq
  rw [show q_e S b cA q = .inr (10, q_fs S b q.2.2 q.2.1) by unfold q_e; rw [e1, if_pos (by decide)]] at hw
  have hw2 := q_ws_at (S := S) (b := b) (cA := cA) hq2
  rw [show q_e S b cA q2 = .inr (6, q_fs S b q2.2.2 q2.2.1) by unfold q_e; rw [e2, if_pos (by decide)]] at hw2
  have hts := fun w (hw : w ∈ j_tbl) => cx.2.2.2.2.1 w (List.mem_filter.mp hw).1
  refine va_get (C := "GoodbyeQuay") (T := g_T10) (N := 15) (v := .ref (S + o2)) cx.1 cx.2.1 cx.2.2.2.2.1 g_cw10 cx.2.2.2.1 cx.2.2.2.2.2.1 hP o hw rfl 4 (by decide) (hts _ j_w_G38) (fun _ q => q) (q_fs_at hk1 ho2) d2 ?_
  exact va_get (C := "GoodbyeQuay$State") (T := g_T6) (N := 10) (v := .int y) cx.1 cx.2.1 cx.2.2.2.2.1 g_cw6 cx.2.2.2.1 cx.2.2.2.2.2.1 hP o2 hw2 rfl 1 (by decide) (hts _ j_w_G170) (fun _ q => q) (q_fs_at hk2 hy) d3 kk
end JM

set_option maxRecDepth 100000 in
theorem j_ms_len : q_MS g_cl g_tbl g_m112 11 (.getstatic 0, 5, [96]) := by
  refine ⟨rfl, fun p l e R s m args below meth c S b D cA f f2 h h2 ns ns2 cx hR hpc hs => ?_⟩
  have hc6 := j_mac_ok hs
  have hx := j_mac_1 hs
  cases hx
  obtain ⟨pc, lv, st⟩ := f
  have hpc : pc = 11 := hpc
  subst hpc
  obtain ⟨K, V, t, hJ, hO⟩ := cx.2.2.2.2.2.2.2
  have hfx := j_fix cx
  have hts := fun w (hw : w ∈ j_tbl) => cx.2.2.2.2.1 w (List.mem_filter.mp hw).1
  refine ⟨Nat.le_refl _, Nat.le_refl _, fun cells slots Q hcz hr1 hr2 g H locs ls hz hP hS hl => ?_⟩
  have hr1 : cells ≤ R.cells := by omega
  have hr2 : slots ≤ R.slots := by omega
  rw [Nat.sub_self, Nat.sub_self, Nat.add_zero, Nat.add_zero] at g
  refine va_ldcS cx.1 cx.2.1 cx.2.2.2.1 hO.2.1 (show decode prog_6_method_7_code 11 = .ok (.ldc 95, 2) by decide +kernel) ?_
  refine j_goV (y := j_n_length) (bytes := prog_17_method_54_code) (maxL := 1) (ret := (some .int)) (K := K) (V := V) (S := S) (i := 1) (k := 1) (n := 0) (As := []) (rest := st.map (q_ren S b)) (o := some (.int (Int32.ofNat 96))) hfx (by decide) (j_c_length (by decide)) rfl j_w_c_length j_w_nS j_w_R97 j_w_i_length j_w_v_length (by decide +kernel) rfl (by decide) ⟨by omega, by omega⟩ hJ hS hl.1 (j_cat hc6) (show decode prog_6_method_7_code 13 = .ok (.invokevirtual 97, 3) by decide +kernel) ⟨hr1, hr2⟩ rfl ?_
  exact g H locs ls hz hP hS hl

set_option maxRecDepth 100000 in
theorem j_ms_chr : q_MS g_cl g_tbl g_m112 19 (.getstatic 0, 7, [6, 4]) := by
  refine ⟨rfl, fun p l e R s m args below meth c S b D cA f f2 h h2 ns ns2 cx hR hpc hs => ?_⟩
  have hc6 := j_mac_ok hs
  obtain ⟨y, z, hy, h1, hx⟩ := j_mac_2 hs
  cases hx
  obtain ⟨pc, lv, st⟩ := f
  have hpc : pc = 19 := hpc
  subst hpc
  obtain ⟨K, V, t, hJ, hO⟩ := cx.2.2.2.2.2.2.2
  have hfx := j_fix cx
  have hts := fun w (hw : w ∈ j_tbl) => cx.2.2.2.2.1 w (List.mem_filter.mp hw).1
  refine ⟨Nat.le_refl _, Nat.le_refl _, fun cells slots Q hcz hr1 hr2 g H locs ls hz hP hS hl => ?_⟩
  have hr1 : cells ≤ R.cells := by omega
  have hr2 : slots ≤ R.slots := by omega
  rw [Nat.sub_self, Nat.sub_self, Nat.add_zero, Nat.add_zero] at g
  obtain ⟨c0, c1, rfl⟩ := j_chr h1
  refine va_ldcS cx.1 cx.2.1 cx.2.2.2.1 hO.2.1 (show decode prog_6_method_7_code 19 = .ok (.ldc 95, 2) by decide +kernel) ?_
  refine lv_iload (x := y) cx.1 cx.2.1 (show decode prog_6_method_7_code 21 = .ok (.iload 4, 2) by decide +kernel) (q_lv hl hy) ?_
  refine j_goV (y := j_n_charAt) (bytes := prog_17_method_56_code) (maxL := 2) (ret := (some .char)) (K := K) (V := V) (S := S) (i := 1) (k := 3) (n := 1) (As := [.int y]) (rest := st.map (q_ren S b)) (o := some (.int (q_chr 1 y.toNatClampNeg))) hfx (by decide) (j_c_charAt (by decide) c0 c1) rfl j_w_c_charAt j_w_nS j_w_R100 j_w_i_charAt j_w_v_charAt (by decide +kernel) rfl (by decide) ⟨by omega, by omega⟩ hJ hS hl.1 (j_cat hc6) (show decode prog_6_method_7_code 23 = .ok (.invokevirtual 100, 3) by decide +kernel) ⟨hr1, hr2⟩ rfl ?_
  exact g H locs ls hz hP hS hl

set_option maxRecDepth 100000 in
theorem j_ms_ix : q_MS g_cl g_tbl g_m105 130 (.getstatic 0, 7, [5, 1]) := by
  refine ⟨rfl, fun p l e R s m args below meth c S b D cA f f2 h h2 ns ns2 cx hR hpc hs => ?_⟩
  have hc6 := j_mac_ok hs
  obtain ⟨y, z, hy, h1, hx⟩ := j_mac_2 hs
  cases hx
  obtain ⟨pc, lv, st⟩ := f
  have hpc : pc = 130 := hpc
  subst hpc
  obtain ⟨K, V, t, hJ, hO⟩ := cx.2.2.2.2.2.2.2
  have hfx := j_fix cx
  have hts := fun w (hw : w ∈ j_tbl) => cx.2.2.2.2.1 w (List.mem_filter.mp hw).1
  refine ⟨Nat.le_refl _, Nat.le_refl _, fun cells slots Q hcz hr1 hr2 g H locs ls hz hP hS hl => ?_⟩
  have hr1 : cells ≤ R.cells := by omega
  have hr2 : slots ≤ R.slots := by omega
  rw [Nat.sub_self, Nat.sub_self, Nat.add_zero, Nat.add_zero] at g
  cases h1
  refine va_ldcS cx.1 cx.2.1 cx.2.2.2.1 hO.1 (show decode prog_6_method_4_code 130 = .ok (.ldc 75, 2) by decide +kernel) ?_
  refine lv_iload_n (x := y) cx.1 cx.2.1 (show decode prog_6_method_4_code 132 = .ok (.iload_n 1, 1) by decide +kernel) rfl (q_lv hl hy) ?_
  refine lv_i2c cx.1 cx.2.1 (show decode prog_6_method_4_code 133 = .ok (.i2c, 1) by decide +kernel) rfl ?_
  refine j_goV (y := j_n_indexOf) (bytes := prog_17_method_79_code) (maxL := 2) (ret := (some .int)) (K := K) (V := V) (S := S) (i := 0) (k := 3) (n := 1) (As := [.int (y.toUInt32 % 65536).toInt32]) (rest := st.map (q_ren S b)) (o := some (.int (q_ixo (y.toUInt32 % 65536).toInt32))) hfx (by decide) j_c_indexOf rfl j_w_c_indexOf j_w_nS j_w_R77 j_w_i_indexOf j_w_v_indexOf (by decide +kernel) rfl (by decide) ⟨by omega, by omega⟩ hJ hS hl.1 (j_cat hc6) (show decode prog_6_method_4_code 134 = .ok (.invokevirtual 77, 3) by decide +kernel) ⟨hr1, hr2⟩ rfl ?_
  exact g H locs ls hz hP hS hl

set_option maxRecDepth 100000 in
theorem j_ms_o1 : q_MS g_cl g_tbl g_m9 117 (.getstatic 0, 6, [4, 7]) := by
  refine ⟨rfl, fun p l e R s m args below meth c S b D cA f f2 h h2 ns ns2 cx hR hpc hs => ?_⟩
  have hc6 := j_mac_ok hs
  obtain ⟨y, z, hy, h1, hx⟩ := j_mac_2 hs
  cases hx
  obtain ⟨pc, lv, st⟩ := f
  have hpc : pc = 117 := hpc
  subst hpc
  obtain ⟨K, V, t, hJ, hO⟩ := cx.2.2.2.2.2.2.2
  have hfx := j_fix cx
  have hts := fun w (hw : w ∈ j_tbl) => cx.2.2.2.2.1 w (List.mem_filter.mp hw).1
  refine ⟨Nat.le_refl _, Nat.le_refl _, fun cells slots Q hcz hr1 hr2 g H locs ls hz hP hS hl => ?_⟩
  have hr1 : cells ≤ R.cells := by omega
  have hr2 : slots ≤ R.slots := by omega
  rw [Nat.sub_self, Nat.sub_self, Nat.add_zero, Nat.add_zero] at g
  obtain ⟨hin, hv⟩ := j_ord h1
  refine va_gets (C := "GoodbyeQuay") (n := "ORDERS_OF") (d := "[I") (ref := "GoodbyeQuay") (v := .ref t) cx.1 cx.2.1 hO.2.2.1 hS cx.2.2.2.1 (hts _ j_w_G393) (fun _ h => h) (show decode prog_1_method_59_code 117 = .ok (.getstatic 393, 3) by decide +kernel) ?_
  refine lv_iload (x := y) cx.1 cx.2.1 (show decode prog_1_method_59_code 120 = .ok (.iload 7, 2) by decide +kernel) (q_lv hl hy) ?_
  refine va_ti cx.1 cx.2.1 hO.2.2.2 hS hin hv (show decode prog_1_method_59_code 122 = .ok (.iaload, 1) by decide +kernel) ?_
  exact g H locs ls hz hP hS hl

set_option maxRecDepth 100000 in
theorem j_ms_o2 : q_MS g_cl g_tbl g_m9 123 (.getstatic 0, 16, [4, 10, 4, 6, 1, 7]) := by
  refine ⟨rfl, fun p l e R s m args below meth c S b D cA f f2 h h2 ns ns2 cx hR hpc hs => ?_⟩
  have hc6 := j_mac_ok hs
  obtain ⟨y, y2, z, hy, hy2, h1, hx⟩ := j_mac_6 hs
  cases hx
  obtain ⟨pc, lv, st⟩ := f
  have hpc : pc = 123 := hpc
  subst hpc
  obtain ⟨K, V, t, hJ, hO⟩ := cx.2.2.2.2.2.2.2
  have hfx := j_fix cx
  have hts := fun w (hw : w ∈ j_tbl) => cx.2.2.2.2.1 w (List.mem_filter.mp hw).1
  refine ⟨Nat.le_refl _, Nat.le_refl _, fun cells slots Q hcz hr1 hr2 g H locs ls hz hP hS hl => ?_⟩
  have hr1 : cells ≤ R.cells := by omega
  have hr2 : slots ≤ R.slots := by omega
  rw [Nat.sub_self, Nat.sub_self, Nat.add_zero, Nat.add_zero] at g
  obtain ⟨hin, hv⟩ := j_ord h1
  refine va_gets (C := "GoodbyeQuay") (n := "ORDERS_OF") (d := "[I") (ref := "GoodbyeQuay") (v := .ref t) cx.1 cx.2.1 hO.2.2.1 hS cx.2.2.2.1 (hts _ j_w_G393) (fun _ h => h) (show decode prog_1_method_59_code 123 = .ok (.getstatic 393, 3) by decide +kernel) ?_
  refine j_size cx hy hP hl (show decode prog_1_method_59_code 126 = .ok (.aload_n 0, 1) by decide +kernel) (show decode prog_1_method_59_code (126 + 1) = .ok (.getfield 38, 3) by decide +kernel) (show decode prog_1_method_59_code (126 + 1 + 3) = .ok (.getfield 170, 3) by decide +kernel) ?_
  refine lv_iconst (v := 1) cx.1 cx.2.1 (show decode prog_1_method_59_code 133 = .ok (.iconst 1, 1) by decide +kernel) (by decide) ?_
  refine lv_isub cx.1 cx.2.1 (show decode prog_1_method_59_code 134 = .ok (.isub, 1) by decide +kernel) ?_
  refine lv_iload (x := y2) cx.1 cx.2.1 (show decode prog_1_method_59_code 135 = .ok (.iload 7, 2) by decide +kernel) (q_lv hl hy2) ?_
  refine lv_isub cx.1 cx.2.1 (show decode prog_1_method_59_code 137 = .ok (.isub, 1) by decide +kernel) ?_
  refine va_ti cx.1 cx.2.1 hO.2.2.2 hS hin hv (show decode prog_1_method_59_code 138 = .ok (.iaload, 1) by decide +kernel) ?_
  exact g H locs ls hz hP hS hl

set_option maxRecDepth 100000 in
theorem j_ms_o3 : q_MS g_cl g_tbl g_m9 177 (.getstatic 0, 11, [4, 10, 4, 6, 1]) := by
  refine ⟨rfl, fun p l e R s m args below meth c S b D cA f f2 h h2 ns ns2 cx hR hpc hs => ?_⟩
  have hc6 := j_mac_ok hs
  obtain ⟨y, z, hy, h1, hx⟩ := j_mac_5 hs
  cases hx
  obtain ⟨pc, lv, st⟩ := f
  have hpc : pc = 177 := hpc
  subst hpc
  obtain ⟨K, V, t, hJ, hO⟩ := cx.2.2.2.2.2.2.2
  have hfx := j_fix cx
  have hts := fun w (hw : w ∈ j_tbl) => cx.2.2.2.2.1 w (List.mem_filter.mp hw).1
  refine ⟨Nat.le_refl _, Nat.le_refl _, fun cells slots Q hcz hr1 hr2 g H locs ls hz hP hS hl => ?_⟩
  have hr1 : cells ≤ R.cells := by omega
  have hr2 : slots ≤ R.slots := by omega
  rw [Nat.sub_self, Nat.sub_self, Nat.add_zero, Nat.add_zero] at g
  obtain ⟨hin, hv⟩ := j_ord h1
  refine va_gets (C := "GoodbyeQuay") (n := "ORDERS_OF") (d := "[I") (ref := "GoodbyeQuay") (v := .ref t) cx.1 cx.2.1 hO.2.2.1 hS cx.2.2.2.1 (hts _ j_w_G393) (fun _ h => h) (show decode prog_1_method_59_code 177 = .ok (.getstatic 393, 3) by decide +kernel) ?_
  refine j_size cx hy hP hl (show decode prog_1_method_59_code 180 = .ok (.aload_n 0, 1) by decide +kernel) (show decode prog_1_method_59_code (180 + 1) = .ok (.getfield 38, 3) by decide +kernel) (show decode prog_1_method_59_code (180 + 1 + 3) = .ok (.getfield 170, 3) by decide +kernel) ?_
  refine va_ti cx.1 cx.2.1 hO.2.2.2 hS hin hv (show decode prog_1_method_59_code 187 = .ok (.iaload, 1) by decide +kernel) ?_
  exact g H locs ls hz hP hS hl

def q_ckrM (cl : List vw_C) (lt : q_LT) (own : String) (cc : ByteArray) (nL : Nat) (ret : Option FieldType) (ini : Bool) (mp : List Nat) : Nat → List q_I → Bool
  | _, [] => true
  | pc, q :: r => (q_nop q || (mp.contains pc || q_ck1 cl lt own cc nL ret ini pc q)) && q_ckrM cl lt own cc nL ret ini mp (pc + 1) r
def q_cktM (cl : List vw_C) (lt : q_LT) (own : String) (cc : ByteArray) (nL : Nat) (ret : Option FieldType) (ini : Bool) (mp : List Nat) : Nat → q_T → Bool
  | _, [] => true
  | i, r :: t => q_ckrM cl lt own cc nL ret ini mp (16 * i) r && q_cktM cl lt own cc nL ret ini mp (i + 1) t
theorem q_ckrM_spec {cl : List vw_C} {lt : q_LT} {own : String} {cc : ByteArray} {nL : Nat} {ret : Option FieldType} {ini : Bool} {mp : List Nat} : ∀ (r : List q_I) (pc : Nat), q_ckrM cl lt own cc nL ret ini mp pc r = true → ∀ (j : Nat) (q : q_I), r[j]? = some q → q.1 = .nop ∨ pc + j ∈ mp ∨ q_ck1 cl lt own cc nL ret ini (pc + j) q = true
  | [], _, _, j, q, hq => by simp at hq
  | x :: r, pc, h, j, q, hq => by
    unfold q_ckrM at h
    rw [Bool.and_eq_true, Bool.or_eq_true, Bool.or_eq_true] at h
    rcases j with _ | j
    · rw [List.getElem?_cons_zero] at hq
      cases hq
      exact h.1.imp q_nop_spec (fun h2 => h2.imp (fun h3 => by simpa using h3) id)
    · rw [List.getElem?_cons_succ] at hq
      have h1 := q_ckrM_spec r (pc + 1) h.2 j q hq
      rw [show pc + (j + 1) = pc + 1 + j by omega]
      exact h1
theorem q_cktM_spec {cl : List vw_C} {lt : q_LT} {own : String} {cc : ByteArray} {nL : Nat} {ret : Option FieldType} {ini : Bool} {mp : List Nat} : ∀ (t : q_T) (i : Nat), q_cktM cl lt own cc nL ret ini mp i t = true → ∀ (k : Nat) (r : List q_I), t[k]? = some r → q_ckrM cl lt own cc nL ret ini mp (16 * (i + k)) r = true
  | [], _, _, k, r, hr => by simp at hr
  | x :: t, i, h, k, r, hr => by
    unfold q_cktM at h
    rw [Bool.and_eq_true] at h
    rcases k with _ | k
    · rw [List.getElem?_cons_zero] at hr
      cases hr
      exact h.1
    · rw [List.getElem?_cons_succ] at hr
      have h1 := q_cktM_spec t (i + 1) h.2 k r hr
      rw [show i + (k + 1) = i + 1 + k by omega]
      exact h1
theorem q_cktM_ok {cl : List vw_C} {lt : q_LT} {own : String} {cc : ByteArray} {nL : Nat} {ret : Option FieldType} {ini : Bool} {mp : List Nat} {t : q_T} (h : q_cktM cl lt own cc nL ret ini mp 0 t = true) (pc : Nat) (q : q_I) (hq : q_get t pc = some q) : q.1 = .nop ∨ pc ∈ mp ∨ q_ck1 cl lt own cc nL ret ini pc q = true := by
  unfold q_get at hq
  split at hq
  next r hr =>
    have h1 := q_ckrM_spec r _ (q_cktM_spec t 0 h (pc / 16) r hr) (pc % 16) q hq
    rw [show 16 * (0 + pc / 16) + pc % 16 = pc by omega] at h1
    exact h1
  next => cases hq

set_option maxRecDepth 100000 in
theorem g_k9 : q_TKM g_cl g_ty g_tbl g_ms g_m9 g_t9 := by
  refine ⟨by decide +kernel, g_l0, g_lk0, fun pc q hq => ?_⟩
  rcases q_cktM_ok (mp := [117, 123, 177]) (lt := g_l0) (cl := g_cl) (own := g_m9.1.cls) (cc := g_m9.2.1) (nL := g_m9.2.2.1) (ret := g_m9.2.2.2.1) (ini := decide (g_m9.1.name = "<init>")) (by decide +kernel) pc q hq with h | h | h
  · exact Or.inl h
  · simp only [List.mem_cons, List.not_mem_nil, or_false] at h
    rcases h with rfl | rfl | rfl
    · cases hq
      exact Or.inr (Or.inr j_ms_o1)
    · cases hq
      exact Or.inr (Or.inr j_ms_o2)
    · cases hq
      exact Or.inr (Or.inr j_ms_o3)
  · exact Or.inr (Or.inl h)

set_option maxRecDepth 100000 in
theorem g_k105 : q_TKM g_cl g_ty g_tbl g_ms g_m105 g_t105 := by
  refine ⟨by decide +kernel, g_l5, g_lk5, fun pc q hq => ?_⟩
  rcases q_cktM_ok (mp := [130]) (lt := g_l5) (cl := g_cl) (own := g_m105.1.cls) (cc := g_m105.2.1) (nL := g_m105.2.2.1) (ret := g_m105.2.2.2.1) (ini := decide (g_m105.1.name = "<init>")) (by decide +kernel) pc q hq with h | h | h
  · exact Or.inl h
  · simp only [List.mem_cons, List.not_mem_nil, or_false] at h
    rcases h with rfl
    · cases hq
      exact Or.inr (Or.inr j_ms_ix)
  · exact Or.inr (Or.inl h)

set_option maxRecDepth 100000 in
theorem g_k112 : q_TKM g_cl g_ty g_tbl g_ms g_m112 g_t112 := by
  refine ⟨by decide +kernel, g_l5, g_lk5, fun pc q hq => ?_⟩
  rcases q_cktM_ok (mp := [11, 19]) (lt := g_l5) (cl := g_cl) (own := g_m112.1.cls) (cc := g_m112.2.1) (nL := g_m112.2.2.1) (ret := g_m112.2.2.2.1) (ini := decide (g_m112.1.name = "<init>")) (by decide +kernel) pc q hq with h | h | h
  · exact Or.inl h
  · simp only [List.mem_cons, List.not_mem_nil, or_false] at h
    rcases h with rfl | rfl
    · cases hq
      exact Or.inr (Or.inr j_ms_len)
    · cases hq
      exact Or.inr (Or.inr j_ms_chr)
  · exact Or.inr (Or.inl h)

