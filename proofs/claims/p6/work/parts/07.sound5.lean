/-- Math.abs, max, min -/
def q_mlok (Ts : List Cond) (own : String) (i : Nat) : Nat → Prop
  | 0 => Cond.methodLink own i Lib.Math.abs.name ∈ Ts ∧ Cond.static Lib.Math.abs.name ∈ Ts ∧ Cond.initialized "java/lang/Math" ∈ Ts ∧ Cond.code Lib.Math.abs.name Lib.Math.abs.code 1 (some .int) ∈ Ts
  | 1 => Cond.methodLink own i Lib.Math.max.name ∈ Ts ∧ Cond.static Lib.Math.max.name ∈ Ts ∧ Cond.initialized "java/lang/Math" ∈ Ts ∧ Cond.code Lib.Math.max.name Lib.Math.max.code 2 (some .int) ∈ Ts
  | 2 => Cond.methodLink own i Lib.Math.min.name ∈ Ts ∧ Cond.static Lib.Math.min.name ∈ Ts ∧ Cond.initialized "java/lang/Math" ∈ Ts ∧ Cond.code Lib.Math.min.name Lib.Math.min.code 2 (some .int) ∈ Ts
  | _ => False
/-- a link: its kind, its entry in the pool, what it is -/
abbrev q_LT : Type := List (Nat × Nat × List Nat)
def q_lok (cl : List vw_C) (ty : Nat → Nat → FieldType) (Ts : List Cond) (ms : List q_M) (own : String) (q : Nat × Nat × List Nat) : Prop := match q.1, q.2.2 with
  | 1, [ci, k, kd] => ∃ C T N, cl[ci]? = some (C, T, N) ∧ k < N ∧ kd = q_kd (ty ci k) ∧ Cond.fieldLink own q.2.1 (T k).1 (T k).2.1 (T k).2.2.1 ∈ Ts
  | 3, ci :: ks => ∃ C T N, cl[ci]? = some (C, T, N) ∧ ks.length = N ∧ (∀ j, j < N → ks[j]? = some (q_kd (ty ci j)) ∧ q_kd (ty ci j) < 4) ∧ (Cond.classLink own q.2.1 C ∈ Ts ∧ Cond.instantiable C N ∈ Ts ∧ Cond.initialized C ∈ Ts)
  | 7, [] => Cond.methodLink own q.2.1 objectInit ∈ Ts ∧ Cond.instanceMethod objectInit ∈ Ts ∧ Cond.code objectInit ⟨#[0xb1]⟩ 1 none ∈ Ts
  | 8, [] => Cond.methodLink own q.2.1 arraycopyName ∈ Ts ∧ Cond.native arraycopyName ∈ Ts ∧ Cond.static arraycopyName ∈ Ts ∧ Cond.initialized "java/lang/System" ∈ Ts
  | 9, [v] => Cond.constant own q.2.1 (Int32.ofNat v) ∈ Ts
  | 10, [v] => Cond.constantLong own q.2.1 (Int64.ofNat v) ∈ Ts
  | 11, [v] => q_mlok Ts own q.2.1 v
  | 20, k :: na :: ml :: x => ∃ M, ms[k]? = some M ∧ na = M.2.2.2.2 ∧ ml = M.2.2.1 ∧ q_MK cl Ts own q.2.1 M x 0
  | 21, k :: na :: ml :: x => ∃ M, ms[k]? = some M ∧ na = M.2.2.2.2 ∧ ml = M.2.2.1 ∧ q_MK cl Ts own q.2.1 M x 1
  | 22, k :: na :: ml :: x => ∃ M, ms[k]? = some M ∧ na = M.2.2.2.2 ∧ ml = M.2.2.1 ∧ q_MK cl Ts own q.2.1 M x 2
  | 23, k :: na :: ml :: x => ∃ M, ms[k]? = some M ∧ na = M.2.2.2.2 ∧ ml = M.2.2.1 ∧ q_MK cl Ts own q.2.1 M x 3
  | _, _ => False
def q_has (lt : q_LT) (k i : Nat) (r : List Nat) : Bool := match lt with
  | [] => false
  | q :: lt => (Nat.beq q.1 k && (Nat.beq q.2.1 i && decide (q.2.2 = r))) || q_has lt k i r
def q_ln (ins : Jvm.ClassFile.Instr) (len : Nat) : Nat := match ins with
  | .aload _ | .iload _ | .lload _ | .astore _ | .istore _ | .lstore _ | .bipush _ | .ldc _ | .newarray _ => 2
  | .iinc _ _ | .sipush _ | .ldc_w _ | .ldc2_w _ | .ifCond _ _ | .if_icmp _ _ | .goto _ | .getfield _ | .putfield _ | .new _ | .invokevirtual _ | .invokestatic _ | .invokespecial _ => 3
  | .tableswitch _ _ _ _ | .lookupswitch _ _ => len
  | _ => 1
def q_tgt (pc : Nat) (off : Int) (r : List Nat) : Bool := match r with
  | [tg] => decide ((pc : Int) + off = (tg : Int))
  | _ => false
def q_tgs (pc : Nat) : List Int → List Nat → Bool
  | [], [] => true
  | o :: os, t :: ts => decide ((pc : Int) + o = (t : Int)) && q_tgs pc os ts
  | _, _ => false
/-- a field that may be put here -/
def q_mayP (cl : List vw_C) (own : String) (ini : Bool) (r : List Nat) : Bool := match r with
  | [ci, k, _] => (match cl[ci]? with
    | some q => !(q.2.1 k).2.2.2 || (ini && decide ((q.2.1 k).1 = own))
    | none => false)
  | _ => false
def q_ck2 (cl : List vw_C) (lt : q_LT) (own : String) (nL : Nat) (ret : Option FieldType) (ini : Bool) (pc : Nat) (ins : Jvm.ClassFile.Instr) (r : List Nat) : Bool := match ins with
  | .astore_n k => Nat.blt k.val nL
  | .istore_n k => Nat.blt k.val nL
  | .lstore_n k => Nat.blt (k.val + 1) nL
  | .astore i => Nat.blt i nL
  | .istore i => Nat.blt i nL
  | .lstore i => Nat.blt (i + 1) nL
  | .iinc i _ => Nat.blt i nL
  | .ldc i => q_has lt 9 i r
  | .ldc_w i => q_has lt 9 i r
  | .ldc2_w i => q_has lt 10 i r
  | .ifCond _ off => q_tgt pc off r
  | .if_icmp _ off => q_tgt pc off r
  | .goto off => q_tgt pc off r
  | .tableswitch d lo hi os => decide ((Int32.ofInt lo).toInt = lo) && (decide ((Int32.ofInt hi).toInt = hi) && q_tgs pc (d :: os.toList) r)
  | .lookupswitch _ ps => (ps.toList.zip (ps.toList.drop 1)).all (fun (a, next) => decide (a.1 < next.1))
  | .getfield i => q_has lt 1 i r
  | .putfield i => q_has lt 1 i r && q_mayP cl own ini r
  | .new i => q_has lt 3 i r
  | .newarray a => (match r with
    | [tg] => Nat.beq (q_tg a) tg && Nat.blt 0 tg
    | _ => false)
  | .invokevirtual i => q_has lt 21 i r
  | .invokestatic i => (match r with
    | [] => q_has lt 8 i []
    | [v] => q_has lt 11 i [v]
    | _ => q_has lt 20 i r || q_has lt 23 i r)
  | .invokespecial i => (match r with
    | [] => q_has lt 7 i []
    | _ => q_has lt 22 i r)
  | .ireturn => (match r, ret with
    | [kd], some t => Nat.beq kd (q_kd t) && Nat.blt kd 2
    | _, _ => false)
  | .lreturn => decide (ret = some .long)
  | .return_ => decide (ret = none)
  | .getstatic _ => false
  | _ => true
def q_ck1 (cl : List vw_C) (lt : q_LT) (own : String) (cc : ByteArray) (nL : Nat) (ret : Option FieldType) (ini : Bool) (pc : Nat) (q : q_I) : Bool :=
  decide (decode cc pc = .ok (q.1, q_ln q.1 q.2.1)) && (Nat.beq q.2.1 (q_ln q.1 q.2.1) && q_ck2 cl lt own nL ret ini pc q.1 q.2.2)
theorem q_has_spec {lt : q_LT} {k i : Nat} {r : List Nat} (h : q_has lt k i r = true) : (k, i, r) ∈ lt := by
  induction lt with
  | nil => cases h
  | cons q lt ih =>
    unfold q_has at h
    rcases (Bool.or_eq_true _ _).mp h with h | h
    · simp only [Bool.and_eq_true, decide_eq_true_eq] at h
      obtain ⟨h1, h2, h3⟩ := h
      have e1 := q_beq h1
      have e2 := q_beq h2
      obtain ⟨a, b, c⟩ := q
      simp only at e1 e2 h3
      subst e1; subst e2; subst h3
      exact List.mem_cons_self
    · exact List.mem_cons_of_mem _ (ih h)
theorem q_tgt_spec {pc : Nat} {off : Int} {r : List Nat} (h : q_tgt pc off r = true) : ∀ tg, r = [tg] → (pc : Int) + off = (tg : Int) := by
  intro tg e
  subst e
  simpa [q_tgt] using h
theorem q_tgs_spec {pc : Nat} : ∀ {os : List Int} {r : List Nat}, q_tgs pc os r = true → ∀ (j tg : Nat), r[j]? = some tg → ∃ off, os[j]? = some off ∧ (pc : Int) + off = (tg : Int)
  | [], [], _, j, tg, hj => by simp at hj
  | [], _ :: _, h, _, _, _ => by cases h
  | _ :: _, [], h, _, _, _ => by cases h
  | o :: os, t :: ts, h, j, tg, hj => by
    simp only [q_tgs, Bool.and_eq_true, decide_eq_true_eq] at h
    rcases j with _ | j
    · simp only [List.getElem?_cons_zero, Option.some.injEq] at hj
      subst hj
      exact ⟨o, rfl, h.1⟩
    · simp only [List.getElem?_cons_succ] at hj ⊢
      exact q_tgs_spec h.2 j tg hj
/-- what is known of the classes -/
abbrev q_CK (cl : List vw_C) (ty : Nat → Nat → FieldType) (Ts : List Cond) : Prop := cl.length ≤ 100 ∧ ∀ (ci : Nat) (C : String) (T : u_T) (N : Nat), cl[ci]? = some (C, T, N) → (∀ w ∈ u_ws C T N, w ∈ Ts) ∧ (∀ k, k < N → parseFieldDescriptor (T k).2.2.1 = some (ty ci k)) ∧ (∀ a, a < N → ∀ b, b < N → a ≠ b → (T a).2.1 ≠ (T b).2.1)
abbrev q_AK (Ts : List Cond) : Prop := Cond.arrayClass .int ∈ Ts ∧ Cond.arrayClass .byte ∈ Ts ∧ Cond.arrayClass .boolean ∈ Ts ∧ Cond.arrayClass .long ∈ Ts
section QS5
variable {p : Program} {l : Launch} {e : Env} {R : Room} {s : State} {m : MethodId} {args : Array Value} {below : List Frame} {meth : Method} {c : Code} {S b : Nat} {D : va_G} {cA : Nat → ClassId} {cl : List vw_C} {nL : Nat} {own : String} {cc : ByteArray} {Ts : List Cond}
variable {f f' : q_F Int32} {h h' : q_H Int32} {ns ns' : Nat}
set_option maxHeartbeats 4000000 in
theorem q_act_ok (cx : q_CX p s m args c S D cA cl nL own cc Ts) {ty : Nat → Nat → FieldType} (hck : q_CK cl ty Ts) (hak : q_AK Ts) {ms : List q_M} {lt : q_LT} (hlt : ∀ q ∈ lt, q_lok cl ty Ts ms own q) {d : Nat} {cal : Nat → List (q_V Int32) → q_H Int32 → Nat → Option (q_R Int32)} (hco : q_CO l cl Ts ms d cal) (hgood : q_GW Ts) (hR : d + 6 ≤ R.frames ∧ 60 * (d + 6) ≤ R.locals) {ret : Option FieldType} {ini : Bool} (hini : ini = true → meth.name = "<init>") {scr : Option (List Int32)} (hX : ∀ xs, scr = some xs → va_X b xs.length (fun j => xs.getD j 0) s s.heap ∧ b < s.heap.size ∧ ¬ S ≤ b)
    {ins : Jvm.ClassFile.Instr} {len : Nat} {r : List Nat} (hc : q_ck1 cl lt own cc nL ret ini f.1 (ins, len, r) = true) (hs : q_act q_O32 scr cal ins len r f h ns = some (.inl (f', h', ns'))) : q_K p l e R s m args below meth c S b D cA cl nL f h ns f' h' ns' := by
  simp only [q_ck1, Bool.and_eq_true, decide_eq_true_eq] at hc
  obtain ⟨hd, hl0, hc⟩ := hc
  have hl := q_beq hl0
  have hx := cx.1
  have hb := cx.2.1
  have hts := cx.2.2.2.2.1
  have hci : ∀ {ci : Nat} {q : vw_C}, cl[ci]? = some q → ci < 100 := fun hq => Nat.lt_of_lt_of_le (List.getElem?_eq_some_iff.mp hq).1 hck.1
  have hR1 : 1 ≤ R.frames ∧ 60 ≤ R.locals := ⟨by omega, by omega⟩
  cases ins with
  | aload_n k =>
    have hl : len = 1 := hl
    subst hl
    exact q_s_ld hs fun v hk H locs ls cells slots Q rest hls K => by
      obtain ⟨a, ha⟩ := q_kind1 (S := S) (b := b) hk
      rw [ha] at hls K
      exact lv_aload_n hx hb hd rfl hls K
  | aload k =>
    have hl : len = 2 := hl
    subst hl
    exact q_s_ld hs fun v hk H locs ls cells slots Q rest hls K => by
      obtain ⟨a, ha⟩ := q_kind1 (S := S) (b := b) hk
      rw [ha] at hls K
      exact lv_aload hx hb hd hls K
  | iload_n k =>
    have hl : len = 1 := hl
    subst hl
    exact q_s_ld hs fun v hk H locs ls cells slots Q rest hls K => by
      obtain ⟨a, ha⟩ := q_kind0 hk
      subst ha
      exact lv_iload_n hx hb hd rfl hls K
  | iload k =>
    have hl : len = 2 := hl
    subst hl
    exact q_s_ld hs fun v hk H locs ls cells slots Q rest hls K => by
      obtain ⟨a, ha⟩ := q_kind0 hk
      subst ha
      exact lv_iload hx hb hd hls K
  | lload_n k =>
    have hl : len = 1 := hl
    subst hl
    exact q_s_ld hs fun v hk H locs ls cells slots Q rest hls K => by
      obtain ⟨a, ha⟩ := q_kind2 hk
      subst ha
      exact lv_lload_n hx hb hd rfl hls K
  | lload k =>
    have hl : len = 2 := hl
    subst hl
    exact q_s_ld hs fun v hk H locs ls cells slots Q rest hls K => by
      obtain ⟨a, ha⟩ := q_kind2 hk
      subst ha
      exact lv_lload hx hb hd hls K
  | astore_n k =>
    have hl : len = 1 := hl
    subst hl
    exact q_s_st (by decide) hs fun v hk H locs ls cells slots Q rest lv lv' hh e K => by
      obtain ⟨a, ha⟩ := q_kind1 (S := S) (b := b) hk
      rw [ha] at e ⊢
      exact lv_astore_n hx hb hd rfl hh (q_blt hc) e K
  | astore k =>
    have hl : len = 2 := hl
    subst hl
    exact q_s_st (by decide) hs fun v hk H locs ls cells slots Q rest lv lv' hh e K => by
      obtain ⟨a, ha⟩ := q_kind1 (S := S) (b := b) hk
      rw [ha] at e ⊢
      exact lv_astore hx hb hd hh (q_blt hc) e K
  | istore_n k =>
    have hl : len = 1 := hl
    subst hl
    exact q_s_st (by decide) hs fun v hk H locs ls cells slots Q rest lv lv' hh e K => by
      obtain ⟨a, ha⟩ := q_kind0 hk
      subst ha
      exact lv_istore_n hx hb hd rfl hh (q_blt hc) e K
  | istore k =>
    have hl : len = 2 := hl
    subst hl
    exact q_s_st (by decide) hs fun v hk H locs ls cells slots Q rest lv lv' hh e K => by
      obtain ⟨a, ha⟩ := q_kind0 hk
      subst ha
      exact lv_istore hx hb hd hh (q_blt hc) e K
  | lstore_n k =>
    have hl : len = 1 := hl
    subst hl
    exact q_s_st2 hs fun v hk H locs ls cells slots Q rest lv lv' hh e K => by
      obtain ⟨a, ha⟩ := q_kind2 hk
      subst ha
      exact lv_lstore_n hx hb hd rfl hh (q_blt hc) e K
  | lstore k =>
    have hl : len = 2 := hl
    subst hl
    exact q_s_st2 hs fun v hk H locs ls cells slots Q rest lv lv' hh e K => by
      obtain ⟨a, ha⟩ := q_kind2 hk
      subst ha
      exact lv_lstore hx hb hd hh (q_blt hc) e K
  | iinc i n => exact q_s_iinc cx (q_blt hc) hl hd hs
  | iconst n =>
    have hl : len = 1 := hl
    subst hl
    exact q_s_nx hs (q_s_row rfl fun H locs ls cells slots Q K => lv_iconst hx hb hd rfl K)
  | bipush n =>
    have hl : len = 2 := hl
    subst hl
    exact q_s_nx hs (q_s_row rfl fun H locs ls cells slots Q K => lv_bipush hx hb hd rfl K)
  | sipush n =>
    have hl : len = 3 := hl
    subst hl
    exact q_s_nx hs (q_s_row rfl fun H locs ls cells slots Q K => lv_sipush hx hb hd rfl K)
  | lconst n =>
    have hl : len = 1 := hl
    subst hl
    exact q_s_nx hs (q_s_row rfl fun H locs ls cells slots Q K => lv_lconst hx hb hd rfl K)
  | ldc i =>
    have hl : len = 2 := hl
    subst hl
    rcases r with _ | ⟨v, _ | _⟩
    · cases hs
    · exact q_s_nx hs (q_s_row rfl fun H locs ls cells slots Q K => lv_ldc hx hb cx.2.2.2.1 (hts _ (hlt _ (q_has_spec hc))) hd K)
    · cases hs
  | ldc_w i =>
    have hl : len = 3 := hl
    subst hl
    rcases r with _ | ⟨v, _ | _⟩
    · cases hs
    · exact q_s_nx hs (q_s_row rfl fun H locs ls cells slots Q K => lv_ldcw hx hb cx.2.2.2.1 (hts _ (hlt _ (q_has_spec hc))) hd K)
    · cases hs
  | ldc2_w i =>
    have hl : len = 3 := hl
    subst hl
    rcases r with _ | ⟨v, _ | _⟩
    · cases hs
    · exact q_s_nx hs (q_s_row rfl fun H locs ls cells slots Q K => lv_ldc2 hx hb cx.2.2.2.1 (hts _ (hlt _ (q_has_spec hc))) hd K)
    · cases hs
  | iadd =>
    have hl : len = 1 := hl
    subst hl
    exact q_s_b2 (j := 0) hs fun x y z hz H locs ls cells slots Q rest K => by cases hz; exact lv_iadd hx hb hd K
  | isub =>
    have hl : len = 1 := hl
    subst hl
    exact q_s_b2 (j := 1) hs fun x y z hz H locs ls cells slots Q rest K => by cases hz; exact lv_isub hx hb hd K
  | imul =>
    have hl : len = 1 := hl
    subst hl
    exact q_s_b2 (j := 2) hs fun x y z hz H locs ls cells slots Q rest K => by cases hz; exact lv_imul hx hb hd K
  | iand =>
    have hl : len = 1 := hl
    subst hl
    exact q_s_b2 (j := 3) hs fun x y z hz H locs ls cells slots Q rest K => by cases hz; exact lv_iand hx hb hd K
  | ior =>
    have hl : len = 1 := hl
    subst hl
    exact q_s_b2 (j := 4) hs fun x y z hz H locs ls cells slots Q rest K => by cases hz; exact lv_ior hx hb hd K
  | ixor =>
    have hl : len = 1 := hl
    subst hl
    exact q_s_b2 (j := 5) hs fun x y z hz H locs ls cells slots Q rest K => by cases hz; exact lv_ixor hx hb hd K
  | ishl =>
    have hl : len = 1 := hl
    subst hl
    exact q_s_b2 (j := 6) hs fun x y z hz H locs ls cells slots Q rest K => by cases hz; exact lv_ishl hx hb hd K
  | ishr =>
    have hl : len = 1 := hl
    subst hl
    exact q_s_b2 (j := 7) hs fun x y z hz H locs ls cells slots Q rest K => by cases hz; exact lv_ishr hx hb hd K
  | iushr =>
    have hl : len = 1 := hl
    subst hl
    exact q_s_b2 (j := 8) hs fun x y z hz H locs ls cells slots Q rest K => by cases hz; exact lv_iushr hx hb hd rfl K
  | idiv =>
    have hl : len = 1 := hl
    subst hl
    exact q_s_b2 (j := 9) hs fun x y z hz H locs ls cells slots Q rest K => by
      by_cases hy : y = 0
      · simp [q_o2, hy] at hz
      · simp only [q_o2, if_neg hy] at hz
        cases hz
        exact lv_idiv hx hb hd hy K
  | irem =>
    have hl : len = 1 := hl
    subst hl
    exact q_s_b2 (j := 10) hs fun x y z hz H locs ls cells slots Q rest K => by
      by_cases hy : y = 0
      · simp [q_o2, hy] at hz
      · simp only [q_o2, if_neg hy] at hz
        cases hz
        exact lv_irem hx hb hd hy K
  | ineg =>
    have hl : len = 1 := hl
    subst hl
    exact q_s_b1 (j := 0) hs fun x z hz H locs ls cells slots Q rest K => by cases hz; exact lv_ineg hx hb hd K
  | i2b =>
    have hl : len = 1 := hl
    subst hl
    exact q_s_b1 (j := 1) hs fun x z hz H locs ls cells slots Q rest K => by cases hz; exact lv_i2b hx hb hd rfl K
  | i2c =>
    have hl : len = 1 := hl
    subst hl
    exact q_s_b1 (j := 2) hs fun x z hz H locs ls cells slots Q rest K => by cases hz; exact lv_i2c hx hb hd rfl K
  | ladd =>
    have hl : len = 1 := hl
    subst hl
    exact q_s_l2 (j := 0) hs fun x y z hz H locs ls cells slots Q rest K => by cases hz; exact lv_ladd hx hb hd K
  | lmul =>
    have hl : len = 1 := hl
    subst hl
    exact q_s_l2 (j := 1) hs fun x y z hz H locs ls cells slots Q rest K => by cases hz; exact lv_lmul hx hb hd K
  | lor =>
    have hl : len = 1 := hl
    subst hl
    exact q_s_l2 (j := 2) hs fun x y z hz H locs ls cells slots Q rest K => by cases hz; exact lv_lor hx hb hd K
  | i2l => exact q_s_i2l cx hl hd hs
  | lshl => exact q_s_lshl cx hl hd hs
  | lcmp => exact q_s_lcmp cx hl hd hs
  | dup => exact q_s_dup cx hl hd hs
  | dup2 => exact q_s_dup2 cx hl hd hs
  | pop => exact q_s_pop cx hl hd hs
  | ifCond cd off => exact q_s_if cx hl hd (q_tgt_spec hc) hs
  | if_icmp cd off => exact q_s_ic cx hl hd (q_tgt_spec hc) hs
  | goto off =>
    rcases r with _ | ⟨tg, _ | _⟩
    · cases hs
    · cases hs
      exact q_K.same (q_s_row rfl fun H locs ls cells slots Q K => lv_goto hx hb hd (q_tgt_spec (show q_tgt f.1 off [tg] = true from hc) tg rfl) K)
    · cases hs
  | tableswitch dflt lo hi offs =>
    have hc : (decide ((Int32.ofInt lo).toInt = lo) && (decide ((Int32.ofInt hi).toInt = hi) && q_tgs f.1 (dflt :: offs.toList) r)) = true := hc
    simp only [Bool.and_eq_true, decide_eq_true_eq] at hc
    refine q_s_tsw cx hc.1 hc.2.1 hd (fun tg htg => ?_) (fun j tg htg => ?_) hs
    · obtain ⟨off, h1, h2⟩ := q_tgs_spec hc.2.2 0 tg htg
      cases h1
      exact h2
    · obtain ⟨off, h1, h2⟩ := q_tgs_spec hc.2.2 (j + 1) tg htg
      exact ⟨off, by simpa using h1, h2⟩
  | lookupswitch d ps => exact q_s_lsw cx hc hd hs
  | getfield i =>
    have hk := hlt _ (q_has_spec hc)
    rcases r with _ | ⟨ci, _ | ⟨k, _ | ⟨kd, _ | _⟩⟩⟩
    · exact hk.elim
    · exact hk.elim
    · exact hk.elim
    · obtain ⟨C, T, N, h1, h2, h3, h4⟩ := hk
      exact q_s_getf cx hl (hci h1) h1 h2 (hck.2 _ _ _ _ h1).1 h4 hd hs
    · exact hk.elim
  | putfield i =>
    have hc : (q_has lt 1 i r && q_mayP cl own ini r) = true := hc
    rw [Bool.and_eq_true] at hc
    have hk := hlt _ (q_has_spec hc.1)
    have hm := hc.2
    rcases r with _ | ⟨ci, _ | ⟨k, _ | ⟨kd, _ | _⟩⟩⟩
    · exact hk.elim
    · exact hk.elim
    · exact hk.elim
    · obtain ⟨C, T, N, h1, h2, h3, h4⟩ := hk
      obtain ⟨g1, g2, g3⟩ := hck.2 _ _ _ _ h1
      refine q_s_putf cx hl (hci h1) h1 h2 g1 g2 g3 h3 ?_ h4 hd hs
      simp only [q_mayP, h1, Bool.or_eq_true, Bool.not_eq_true', Bool.and_eq_true, decide_eq_true_eq] at hm
      rcases hm with hm | ⟨hm1, hm2⟩
      · exact Or.inl hm
      · cases hf : (T k).2.2.2 with
        | false => exact Or.inl rfl
        | true => exact Or.inr ⟨rfl, hini hm1, hm2⟩
    · exact hk.elim
  | iaload => exact q_s_ald cx hl hX (Or.inl ⟨rfl, rfl, hd⟩) hs
  | baload => exact q_s_ald cx hl hX (Or.inr (Or.inl ⟨rfl, rfl, hd⟩)) hs
  | laload => exact q_s_ald cx hl hX (Or.inr (Or.inr ⟨rfl, rfl, hd⟩)) hs
  | iastore => exact q_s_ast cx hl (Or.inl ⟨rfl, hd⟩) hs
  | bastore => exact q_s_ast cx hl (Or.inr (Or.inl ⟨rfl, hd⟩)) hs
  | lastore => exact q_s_ast cx hl (Or.inr (Or.inr ⟨rfl, hd⟩)) hs
  | arraylength => exact q_s_alen cx hl hX hd hs
  | new i =>
    have hk := hlt _ (q_has_spec hc)
    rcases r with _ | ⟨ci, ks⟩
    · exact hk.elim
    · obtain ⟨C, T, N, h1, h2, h3, h4⟩ := hk
      obtain ⟨g1, g2, -⟩ := hck.2 _ _ _ _ h1
      exact q_s_new cx hl (hci h1) h1 g1 g2 h2 h3 h4 hd hs
  | newarray a =>
    rcases r with _ | ⟨tg, _ | _⟩
    · cases hc
    · have hc : (Nat.beq (q_tg a) tg && Nat.blt 0 tg) = true := hc
      rw [Bool.and_eq_true] at hc
      have h1 := q_beq hc.1
      have h2 := q_blt hc.2
      refine q_s_newa cx hl h1 (by omega) ?_ hd hs
      cases a <;> simp [q_tg] at h1 <;> first | omega | skip
      · exact hak.2.2.1
      · exact hak.2.1
      · exact hak.1
      · exact hak.2.2.2
    · cases hc
  | invokevirtual i =>
    have hk := hlt _ (q_has_spec hc)
    rcases r with _ | ⟨k, _ | ⟨na, _ | ⟨ml, x⟩⟩⟩
    · exact hk.elim
    · exact hk.elim
    · exact hk.elim
    · obtain ⟨M, h1, h2, h3, h4⟩ := hk
      exact q_s_inv cx hco hgood hR hl h1 h2 h3 h4 (Or.inr (Or.inl ⟨rfl, rfl, hd⟩)) hs
  | invokestatic i =>
    rcases r with _ | ⟨k, r⟩
    · exact q_s_acpy cx hl hR1 (hlt _ (q_has_spec hc)) hd hs
    rcases r with _ | ⟨k2, r⟩
    · have hk := hlt _ (q_has_spec hc)
      rcases k with _ | _ | _ | k
      · exact q_s_abs cx hl hR1 hk hd hs
      · exact q_s_max cx hl hR1 hk hd hs
      · exact q_s_min cx hl hR1 hk hd hs
      · exact hk.elim
    · have hc : (q_has lt 20 i (k :: k2 :: r) || q_has lt 23 i (k :: k2 :: r)) = true := hc
      replace hs : q_inv cal 0 (k :: k2 :: r) len f h ns = some (.inl (f', h', ns')) := hs
      rcases (Bool.or_eq_true _ _).mp hc with hc | hc
      · have hk := hlt _ (q_has_spec hc)
        rcases r with _ | ⟨ml, x⟩
        · exact hk.elim
        · obtain ⟨M, h1, h2, h3, h4⟩ := hk
          exact q_s_inv cx hco hgood hR hl h1 h2 h3 h4 (Or.inl ⟨rfl, Or.inl rfl, hd⟩) hs
      · have hk := hlt _ (q_has_spec hc)
        rcases r with _ | ⟨ml, x⟩
        · exact hk.elim
        · obtain ⟨M, h1, h2, h3, h4⟩ := hk
          exact q_s_inv cx hco hgood hR hl h1 h2 h3 h4 (Or.inl ⟨rfl, Or.inr rfl, hd⟩) hs
  | invokespecial i =>
    rcases r with _ | ⟨k, r⟩
    · exact q_s_obj cx hl hR1 (hlt _ (q_has_spec hc)) hd hs
    · have hk := hlt _ (q_has_spec (show q_has lt 22 i (k :: r) = true from hc))
      replace hs : q_inv cal 2 (k :: r) len f h ns = some (.inl (f', h', ns')) := hs
      rcases r with _ | ⟨na, _ | ⟨ml, x⟩⟩
      · exact hk.elim
      · exact hk.elim
      · obtain ⟨M, h1, h2, h3, h4⟩ := hk
        exact q_s_inv cx hco hgood hR hl h1 h2 h3 h4 (Or.inr (Or.inr ⟨rfl, rfl, hd⟩)) hs
  | ireturn =>
    replace hs : q_iret q_O32 r f h ns = some (.inl (f', h', ns')) := hs
    unfold q_iret at hs
    split at hs
    · next kd x _ =>
      cases hq : q_fit q_O32 kd (.inl x) with
      | true => rw [hq] at hs; cases hs
      | false => rw [hq] at hs; cases hs
    · cases hs
  | lreturn =>
    replace hs : q_lret f h ns = some (.inl (f', h', ns')) := hs
    unfold q_lret at hs
    split at hs <;> cases hs
  | return_ =>
    replace hs : q_ret f h ns = some (.inl (f', h', ns')) := hs
    unfold q_ret at hs
    split at hs <;> cases hs
  | getstatic i => exact Bool.noConfusion (show false = true from hc)
  | _ => cases hs
end QS5
