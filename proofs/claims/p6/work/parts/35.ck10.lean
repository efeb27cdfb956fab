theorem w_nn {α : Type} {x : α} {P : Prop} (h : (none : Option α) = some x) : P := by cases h
set_option maxHeartbeats 1000000 in
theorem w_act_ok {V : w_V} {sh : w_Sh} {ts : List q_T} {ls : q_U Int32} {σ : w_G} {ns : Nat} {h : q_H Int32} {L : List (Nat × w_S)} {S : w_S} {st : List (q_V Int32)} {p len : Nat} {E0 E : w_E} {d : Nat} {r : List Nat} (ins : Jvm.ClassFile.Instr) (hd : E0.2.2.2.2.2 ≤ d + 1) (hE : w_Ent V sh ts E) (hR : w_Rep sh h σ) (hT : w_T V sh σ) (ho : w_ok ls σ S st) (hL : w_act sh E0 E ins len r p S = some L) : ∃ n, w_Res V sh E0.2.2.2.1 ins ls σ ns (q_act q_O32 none (q_call q_O32 ts n d) ins len r (p, ls, st) h ns) L := by
  cases ins with
  | aload_n k => exact ⟨0, w_ld_ok rfl hR hT ho hL⟩
  | iload_n k => exact ⟨0, w_ld_ok rfl hR hT ho hL⟩
  | lload_n k => exact ⟨0, w_ld_ok rfl hR hT ho hL⟩
  | aload i => exact ⟨0, w_ld_ok rfl hR hT ho hL⟩
  | iload i => exact ⟨0, w_ld_ok rfl hR hT ho hL⟩
  | lload i => exact ⟨0, w_ld_ok rfl hR hT ho hL⟩
  | astore_n k => exact ⟨0, w_st_ok rfl (by intro e; first | exact Bool.noConfusion e | decide) (by intro m n e; cases e) hR hT ho hL⟩
  | istore_n k => exact ⟨0, w_st_ok rfl (by intro e; first | exact Bool.noConfusion e | decide) (by intro m n e; cases e) hR hT ho hL⟩
  | lstore_n k => exact ⟨0, w_st_ok rfl (by intro e; first | exact Bool.noConfusion e | decide) (by intro m n e; cases e) hR hT ho hL⟩
  | astore i => exact ⟨0, w_st_ok rfl (by intro e; first | exact Bool.noConfusion e | decide) (by intro m n e; cases e) hR hT ho hL⟩
  | istore i => exact ⟨0, w_st_ok rfl (by intro e; first | exact Bool.noConfusion e | decide) (by intro m n e; cases e) hR hT ho hL⟩
  | lstore i => exact ⟨0, w_st_ok rfl (by intro e; first | exact Bool.noConfusion e | decide) (by intro m n e; cases e) hR hT ho hL⟩
  | iinc i n => exact ⟨0, w_ii_ok hR hT ho hL⟩
  | iconst n => exact ⟨0, w_ps_ok rfl hR hT ho w_pc_ok hL⟩
  | bipush n => exact ⟨0, w_ps_ok rfl hR hT ho w_pc_ok hL⟩
  | sipush n => exact ⟨0, w_ps_ok rfl hR hT ho w_pc_ok hL⟩
  | lconst n => exact ⟨0, w_ps_ok (A := .inr (.inl ())) rfl hR hT ho ⟨_, rfl⟩ hL⟩
  | ldc i =>
    rcases r with _ | ⟨v, _ | ⟨w, r⟩⟩
    · cases hL
    · exact ⟨0, w_ps_ok rfl hR hT ho w_pc_ok hL⟩
    · cases hL
  | ldc_w i =>
    rcases r with _ | ⟨v, _ | ⟨w, r⟩⟩
    · cases hL
    · exact ⟨0, w_ps_ok rfl hR hT ho w_pc_ok hL⟩
    · cases hL
  | ldc2_w i =>
    rcases r with _ | ⟨v, _ | ⟨w, r⟩⟩
    · cases hL
    · exact ⟨0, w_ps_ok (A := .inr (.inl ())) rfl hR hT ho ⟨_, rfl⟩ hL⟩
    · cases hL
  | iadd => exact ⟨0, w_2_ok (j := 0) rfl hR hT ho (show w_2 sh 0 (p + len) S = some L from hL)⟩
  | isub => exact ⟨0, w_2_ok (j := 1) rfl hR hT ho (show w_2 sh 1 (p + len) S = some L from hL)⟩
  | imul => exact ⟨0, w_2_ok (j := 2) rfl hR hT ho (show w_2 sh 2 (p + len) S = some L from hL)⟩
  | iand => exact ⟨0, w_2_ok (j := 3) rfl hR hT ho (show w_2 sh 3 (p + len) S = some L from hL)⟩
  | ior => exact ⟨0, w_2_ok (j := 4) rfl hR hT ho (show w_2 sh 4 (p + len) S = some L from hL)⟩
  | ixor => exact ⟨0, w_2_ok (j := 5) rfl hR hT ho (show w_2 sh 5 (p + len) S = some L from hL)⟩
  | ishl => exact ⟨0, w_2_ok (j := 6) rfl hR hT ho (show w_2 sh 6 (p + len) S = some L from hL)⟩
  | ishr => exact ⟨0, w_2_ok (j := 7) rfl hR hT ho (show w_2 sh 7 (p + len) S = some L from hL)⟩
  | iushr => exact ⟨0, w_2_ok (j := 8) rfl hR hT ho (show w_2 sh 8 (p + len) S = some L from hL)⟩
  | idiv => exact ⟨0, w_2_ok (j := 9) rfl hR hT ho (show w_2 sh 9 (p + len) S = some L from hL)⟩
  | irem => exact ⟨0, w_2_ok (j := 10) rfl hR hT ho (show w_2 sh 10 (p + len) S = some L from hL)⟩
  | ineg => exact ⟨0, w_1_ok (j := 0) rfl hR hT ho (show w_1 sh 0 (p + len) S = some L from hL)⟩
  | i2b => exact ⟨0, w_1_ok (j := 1) rfl hR hT ho (show w_1 sh 1 (p + len) S = some L from hL)⟩
  | i2c => exact ⟨0, w_1_ok (j := 2) rfl hR hT ho (show w_1 sh 2 (p + len) S = some L from hL)⟩
  | i2l => exact ⟨0, w_i2l_ok rfl hR hT ho hL⟩
  | ladd => exact ⟨0, w_l2_ok (j := 0) (by decide) rfl hR hT ho (show w_l2 (p + len) S = some L from hL)⟩
  | lmul => exact ⟨0, w_l2_ok (j := 1) (by decide) rfl hR hT ho (show w_l2 (p + len) S = some L from hL)⟩
  | lor => exact ⟨0, w_l2_ok (j := 2) (by decide) rfl hR hT ho (show w_l2 (p + len) S = some L from hL)⟩
  | lshl => exact ⟨0, w_lsh_ok rfl hR hT ho hL⟩
  | lcmp => exact ⟨0, w_lcm_ok rfl hR hT ho hL⟩
  | dup => exact ⟨0, w_dup_ok rfl hR hT ho hL⟩
  | dup2 => exact ⟨0, w_dp2_ok rfl hR hT ho hL⟩
  | pop => exact ⟨0, w_pop_ok rfl hR hT ho hL⟩
  | ifCond cd i =>
    obtain ⟨S1, S2, S3⟩ := S
    rcases S2 with _ | ⟨A, S2⟩
    · cases hL
    · exact ⟨0, w_if_ok rfl hR hT ho hL⟩
  | if_icmp cd i =>
    obtain ⟨S1, S2, S3⟩ := S
    rcases S2 with _ | ⟨B, _ | ⟨A, S2⟩⟩
    · cases hL
    · cases hL
    · exact ⟨0, w_ic_ok rfl hR hT ho hL⟩
  | goto i =>
    rcases r with _ | ⟨v, _ | ⟨w, r⟩⟩
    · cases hL
    · exact ⟨0, w_Res.same rfl hR hT hL ho⟩
    · cases hL
  | tableswitch i lo hi l => exact ⟨0, w_tsw_ok rfl hR hT ho hL⟩
  | lookupswitch i l => exact ⟨0, w_lsw_ok rfl hR hT ho hL⟩
  | getfield i => exact ⟨0, w_get_ok rfl hR hT ho hL⟩
  | putfield i => exact ⟨0, w_put_ok rfl hR hT ho hL⟩
  | iaload => exact ⟨0, w_ale_ok rfl hR hT ho hL⟩
  | baload => exact ⟨0, w_ale_ok rfl hR hT ho hL⟩
  | laload => exact ⟨0, w_ale_ok rfl hR hT ho hL⟩
  | iastore => exact ⟨0, w_ast_ok rfl hR hT ho hL⟩
  | bastore => exact ⟨0, w_ast_ok rfl hR hT ho hL⟩
  | lastore => exact ⟨0, w_ast_ok rfl hR hT ho hL⟩
  | arraylength => exact ⟨0, w_aln_ok rfl hR hT ho hL⟩
  | invokevirtual i => exact w_inv_ok rfl hd hE hR hT ho hL
  | invokestatic i =>
    rcases r with _ | ⟨k, _ | ⟨k2, r⟩⟩
    · exact ⟨0, w_cpy_ok rfl hR hT ho hL⟩
    · exact ⟨0, w_mth_ok rfl hR hT ho hL⟩
    · exact w_inv_ok rfl hd hE hR hT ho hL
  | _ => exact w_nn (show (none : Option (List (Nat × w_S))) = some L from hL)
