section QUICK3
variable {I P : Type}
def q_rcal (cal' : q_Lf I) (cal : Nat → List (q_V I) → q_H I → Nat → Option (q_R I)) : Prop := ∀ k a F h ns v F' ns', q_rh F h → cal' k a F ns = some (v, F', ns') → ∃ h', cal k a h ns = some (v, h', ns') ∧ q_rh F' h'
/-- a quick entry does what its instruction does -/
def q_yok (y : q_Y I P) (z : q_O I → Option (List I) → (Nat → List (q_V I) → q_H I → Nat → Option (q_R I)) → q_F I → q_H I → Nat → q_X I) : Prop :=
  ∀ (O : q_O I) (scr : Option (List I)) (cal' : q_Lf I) (cal : Nat → List (q_V I) → q_H I → Nat → Option (q_R I)) (rt : q_Rf I → Option P) (k : q_Kf I P) (pc : Nat) (ls : q_U I) (st : List (q_V I)) (F : q_Hf I) (h : q_H I) (ns : Nat) (r : P), q_rh F h → q_rcal cal' cal → y O scr cal' rt k pc ls st F ns = some r →
    (∃ pc' ls' st' F' h' ns', z O scr cal (pc, ls, st) h ns = some (.inl ((pc', ls', st'), h', ns')) ∧ q_rh F' h' ∧ k pc' ls' st' F' ns' = some r) ∨ (∃ v F' h' ns', z O scr cal (pc, ls, st) h ns = some (.inr (v, h', ns')) ∧ q_rh F' h' ∧ rt (v, F', ns') = some r)
theorem q_f_ld_ok (t i len : Nat) : q_yok (q_f_ld (I := I) (P := P) t i len) (fun _ _ _ f h ns => q_ld t i len f h ns) := by
  intro O scr cal' cal rt k pc ls st F h ns r H hcal hs
  unfold q_f_ld at hs
  simp only [q_fat_eq] at hs
  split at hs
  next v hv =>
    cases hb : Nat.beq (q_kind v) t with
    | false => rw [hb] at hs; cases hs
    | true =>
      rw [hb, cond_true] at hs
      refine .inl ⟨_, _, _, _, h, _, ?_, H, hs⟩
      show q_ld t i len (pc, ls, st) h ns = _
      unfold q_ld
      simp only [hv, hb]
      rfl
  next => cases hs
theorem q_f_fr_ok {n : q_O I → q_F I → Option (q_F I)} {z : q_O I → Option (List I) → (Nat → List (q_V I) → q_H I → Nat → Option (q_R I)) → q_F I → q_H I → Nat → q_X I} (hz : ∀ O scr cal f f' h ns, n O f = some f' → z O scr cal f h ns = some (.inl (f', h, ns))) : q_yok (q_f_fr (P := P) n) z := by
  intro O scr cal' cal rt k pc ls st F h ns r H hcal hs
  unfold q_f_fr at hs
  split at hs
  next pc' ls' st' hn => exact .inl ⟨pc', ls', st', F, h, ns, hz _ _ _ _ _ _ _ hn, H, hs⟩
  next => cases hs
theorem q_fo_some {x : q_X I} {f : q_F I} (hh : q_fo x = some f) : ∃ h n, x = some (.inl (f, h, n)) := by
  unfold q_fo at hh
  split at hh
  next s =>
    cases hh
    exact ⟨s.2.1, s.2.2, rfl⟩
  next => cases hh
theorem q_fr_nx {n : Nat} {f f' : q_F I} {st : List (q_V I)} {h h0 : q_H I} {ns n0 : Nat} (hh : q_nx n f st [] 0 = some (.inl (f', h0, n0))) : q_nx n f st h ns = some (.inl (f', h, ns)) := by
  cases hh
  rfl
theorem q_fr_st {t i len : Nat} {f f' : q_F I} {h : q_H I} {ns : Nat} (hh : q_fo (q_st t i len f [] 0) = some f') : q_st t i len f h ns = some (.inl (f', h, ns)) := by
  obtain ⟨h0, n0, hh⟩ := q_fo_some hh
  unfold q_st at hh ⊢
  split at hh
  next v r hv =>
    try simp only [hv]
    cases hb : Nat.beq (q_kind v) t with
    | false => rw [hb] at hh; cases hh
    | true =>
      rw [hb, cond_true] at hh
      rw [cond_true]
      cases hh
      rfl
  next => cases hh
theorem q_fr_iinc {O : q_O I} {i len : Nat} {n : Int} {f f' : q_F I} {h : q_H I} {ns : Nat} (hh : q_fo (q_iinc O i n len f [] 0) = some f') : q_iinc O i n len f h ns = some (.inl (f', h, ns)) := by
  obtain ⟨h0, n0, hh⟩ := q_fo_some hh
  unfold q_iinc at hh ⊢
  split at hh
  next x hx =>
    try simp only [hx]
    split at hh
    next y hy =>
      try simp only [hy]
      cases hh
      rfl
    next => cases hh
  next => cases hh
theorem q_fr_b1 {O : q_O I} {j len : Nat} {f f' : q_F I} {h : q_H I} {ns : Nat} (hh : q_fo (q_b1 O j len f [] 0) = some f') : q_b1 O j len f h ns = some (.inl (f', h, ns)) := by
  obtain ⟨h0, n0, hh⟩ := q_fo_some hh
  unfold q_b1 at hh ⊢
  split at hh
  next x r hx =>
    try simp only [hx]
    split at hh
    next y hy =>
      try simp only [hy]
      exact q_fr_nx hh
    next => cases hh
  next => cases hh
theorem q_fr_i2l {O : q_O I} {len : Nat} {f f' : q_F I} {h : q_H I} {ns : Nat} (hh : q_fo (q_i2l O len f [] 0) = some f') : q_i2l O len f h ns = some (.inl (f', h, ns)) := by
  obtain ⟨h0, n0, hh⟩ := q_fo_some hh
  unfold q_i2l at hh ⊢
  split at hh
  next x r hx =>
    try simp only [hx]
    split at hh
    next y hy =>
      try simp only [hy]
      exact q_fr_nx hh
    next => cases hh
  next => cases hh
theorem q_fr_l2 {j len : Nat} {f f' : q_F I} {h : q_H I} {ns : Nat} (hh : q_fo (q_l2 j len f [] 0) = some f') : q_l2 j len f h ns = some (.inl (f', h, ns)) := by
  obtain ⟨h0, n0, hh⟩ := q_fo_some hh
  unfold q_l2 at hh ⊢
  split at hh
  next x y r hx =>
    try simp only [hx]
    split at hh
    next z hz =>
      try simp only [hz]
      exact q_fr_nx hh
    next => cases hh
  next => cases hh
theorem q_fr_lshl {O : q_O I} {len : Nat} {f f' : q_F I} {h : q_H I} {ns : Nat} (hh : q_fo (q_lshl O len f [] 0) = some f') : q_lshl O len f h ns = some (.inl (f', h, ns)) := by
  obtain ⟨h0, n0, hh⟩ := q_fo_some hh
  unfold q_lshl at hh ⊢
  split at hh
  next x y r hx =>
    try simp only [hx]
    split at hh
    next z hz =>
      try simp only [hz]
      exact q_fr_nx hh
    next => cases hh
  next => cases hh
theorem q_fr_lcmp {O : q_O I} {len : Nat} {f f' : q_F I} {h : q_H I} {ns : Nat} (hh : q_fo (q_lcmp O len f [] 0) = some f') : q_lcmp O len f h ns = some (.inl (f', h, ns)) := by
  obtain ⟨h0, n0, hh⟩ := q_fo_some hh
  unfold q_lcmp at hh ⊢
  split at hh
  next x y r hx =>
    try simp only [hx]
    exact q_fr_nx hh
  next => cases hh
theorem q_fr_dup {len : Nat} {f f' : q_F I} {h : q_H I} {ns : Nat} (hh : q_fo (q_dup len f [] 0) = some f') : q_dup len f h ns = some (.inl (f', h, ns)) := by
  obtain ⟨h0, n0, hh⟩ := q_fo_some hh
  unfold q_dup at hh ⊢
  split at hh
  next v st hx =>
    try simp only [hx]
    cases hb : Nat.beq (q_cat v) 1 with
    | false => rw [hb] at hh; cases hh
    | true => rw [hb, cond_true] at hh; rw [cond_true]; exact q_fr_nx hh
  next => cases hh
theorem q_fr_pop {len : Nat} {f f' : q_F I} {h : q_H I} {ns : Nat} (hh : q_fo (q_pop len f [] 0) = some f') : q_pop len f h ns = some (.inl (f', h, ns)) := by
  obtain ⟨h0, n0, hh⟩ := q_fo_some hh
  unfold q_pop at hh ⊢
  split at hh
  next v st hx =>
    try simp only [hx]
    cases hb : Nat.beq (q_cat v) 1 with
    | false => rw [hb] at hh; cases hh
    | true => rw [hb, cond_true] at hh; rw [cond_true]; exact q_fr_nx hh
  next => cases hh
theorem q_fr_dup2 {len : Nat} {f f' : q_F I} {h : q_H I} {ns : Nat} (hh : q_fo (q_dup2 len f [] 0) = some f') : q_dup2 len f h ns = some (.inl (f', h, ns)) := by
  obtain ⟨h0, n0, hh⟩ := q_fo_some hh
  unfold q_dup2 at hh ⊢
  split at hh
  next v w st hx =>
    try simp only [hx]
    cases hb : Nat.beq (q_cat v) 1 && Nat.beq (q_cat w) 1 with
    | false => rw [hb] at hh; cases hh
    | true => rw [hb, cond_true] at hh; rw [cond_true]; exact q_fr_nx hh
  next => cases hh
theorem q_fr_obj {len : Nat} {f f' : q_F I} {h : q_H I} {ns : Nat} (hh : q_fo (q_obj len f [] 0) = some f') : q_obj len f h ns = some (.inl (f', h, ns)) := by
  obtain ⟨h0, n0, hh⟩ := q_fo_some hh
  unfold q_obj at hh ⊢
  split at hh
  next o st hx =>
    try simp only [hx]
    cases hb : Nat.ble (q_cats st) 8 with
    | false => rw [hb] at hh; cases hh
    | true => rw [hb, cond_true] at hh; rw [cond_true]; exact q_fr_nx hh
  next => cases hh
theorem q_fr_abs {O : q_O I} {len : Nat} {f f' : q_F I} {h : q_H I} {ns : Nat} (hh : q_fo (q_abs O len f [] 0) = some f') : q_abs O len f h ns = some (.inl (f', h, ns)) := by
  obtain ⟨h0, n0, hh⟩ := q_fo_some hh
  unfold q_abs at hh ⊢
  split at hh
  next x st hx =>
    try simp only [hx]
    cases hb : Nat.ble (q_cats st) 8 with
    | false => rw [hb] at hh; cases hh
    | true =>
      rw [hb, cond_true] at hh
      rw [cond_true]
      split at hh
      next z hz =>
        try simp only [hz]
        exact q_fr_nx hh
      next => cases hh
  next => cases hh
theorem q_fr_tsw {O : q_O I} {lo hi : Int} {r : List Nat} {f f' : q_F I} {h : q_H I} {ns : Nat} (hh : q_fo (q_tsw O lo hi r f [] 0) = some f') : q_tsw O lo hi r f h ns = some (.inl (f', h, ns)) := by
  obtain ⟨h0, n0, hh⟩ := q_fo_some hh
  unfold q_tsw at hh ⊢
  split at hh
  next x st hx =>
    try simp only [hx]
    split at hh
    next tg htg =>
      try simp only [htg]
      cases hh
      rfl
    next => cases hh
  next => cases hh
theorem q_f_k_ok (c : Int32) (len : Nat) : q_yok (q_f_k (I := I) (P := P) c len) (fun O _ _ f h ns => q_nx len f (.inl (O.1 c) :: f.2.2) h ns) := by
  intro O scr cal' cal rt k pc ls st F h ns r H hcal hs
  exact .inl ⟨_, _, _, _, h, _, rfl, H, hs⟩
theorem q_f_lk_ok (c : Int64) (len : Nat) : q_yok (q_f_lk (I := I) (P := P) c len) (fun _ _ _ f h ns => q_nx len f (.inr (.inl c) :: f.2.2) h ns) := by
  intro O scr cal' cal rt k pc ls st F h ns r H hcal hs
  exact .inl ⟨_, _, _, _, h, _, rfl, H, hs⟩
theorem q_f_b2_ok (j len : Nat) : q_yok (q_f_b2 (I := I) (P := P) j len) (fun O _ _ f h ns => q_b2 O j len f h ns) := by
  intro O scr cal' cal rt k pc ls st F h ns r H hcal hs
  unfold q_f_b2 at hs
  split at hs
  next y x st =>
    split at hs
    next z hz =>
      refine .inl ⟨_, _, _, _, h, _, ?_, H, hs⟩
      show q_b2 O j len (pc, ls, .inl y :: .inl x :: st) h ns = _
      unfold q_b2
      simp only [hz]
      rfl
    next => cases hs
  next => cases hs
theorem q_f_jmp_ok {r : List Nat} {len : Nat} {t : Option Bool} {k : q_Kf I P} {pc : Nat} {ls : q_U I} {st0 st : List (q_V I)} {F : q_Hf I} {h : q_H I} {ns : Nat} {res : P} (H : q_rh F h) (hs : q_f_jmp r len t k pc ls st F ns = some res) : ∃ pc' ls' st' F' h' ns', q_jmp r len t (pc, ls, st0) st h ns = some (.inl ((pc', ls', st'), h', ns')) ∧ q_rh F' h' ∧ k pc' ls' st' F' ns' = some res := by
  unfold q_f_jmp at hs
  split at hs
  · exact ⟨_, _, _, _, h, _, rfl, H, hs⟩
  · exact ⟨_, _, _, _, h, _, rfl, H, hs⟩
  · cases hs
theorem q_f_if_ok (j : Nat) (r : List Nat) (len : Nat) : q_yok (q_f_if (I := I) (P := P) j r len) (fun O _ _ f h ns => q_if O j r len f h ns) := by
  intro O scr cal' cal rt k pc ls st F h ns res H hcal hs
  unfold q_f_if at hs
  split at hs
  next x st => exact .inl (q_f_jmp_ok (st0 := .inl x :: st) H hs)
  next => cases hs
theorem q_f_ic_ok (j : Nat) (r : List Nat) (len : Nat) : q_yok (q_f_ic (I := I) (P := P) j r len) (fun O _ _ f h ns => q_ic O j r len f h ns) := by
  intro O scr cal' cal rt k pc ls st F h ns res H hcal hs
  unfold q_f_ic at hs
  split at hs
  next y x st => exact .inl (q_f_jmp_ok (st0 := .inl y :: .inl x :: st) H hs)
  next => cases hs
theorem q_f_goto_ok (tg : Nat) : q_yok (q_f_goto (I := I) (P := P) tg) (fun _ _ _ f h ns => some (.inl ((tg, f.2.1, f.2.2), h, ns))) := by
  intro O scr cal' cal rt k pc ls st F h ns r H hcal hs
  exact .inl ⟨_, _, _, _, h, _, rfl, H, hs⟩
theorem q_f_no_ok (z : q_O I → Option (List I) → (Nat → List (q_V I) → q_H I → Nat → Option (q_R I)) → q_F I → q_H I → Nat → q_X I) : q_yok (q_f_no (I := I) (P := P)) z := by
  intro O scr cal' cal rt k pc ls st F h ns r H hcal hs
  cases hs
theorem q_f_getf_ok (r : List Nat) (len : Nat) : q_yok (q_f_getf (I := I) (P := P) r len) (fun _ _ _ f h ns => q_getf r len f h ns) := by
  intro O scr cal' cal rt kk pc ls st F h ns res H hcal hs
  unfold q_f_getf at hs
  split at hs
  next ci k y o st =>
    split at hs
    next c hc =>
      obtain ⟨q, hq, e1, e2, e3, e4⟩ := H.2.2 o c hc
      cases hb : Nat.beq c.1 ci && Nat.blt k c.2.1 with
      | false => rw [hb] at hs; cases hs
      | true =>
        rw [hb, cond_true] at hs
        rw [e1, e2] at hb
        split at hs
        next v hv =>
          rw [e4] at hv
          refine .inl ⟨_, _, _, _, h, _, ?_, H, hs⟩
          show q_getf (ci :: k :: y) len (pc, ls, .inr (.inr (o + 2)) :: st) h ns = _
          unfold q_getf
          simp only [hq, hb, hv]
          rfl
        next => cases hs
    next => cases hs
  next => cases hs
theorem q_f_putf_ok (r : List Nat) (len : Nat) : q_yok (q_f_putf (I := I) (P := P) r len) (fun O _ _ f h ns => q_putf O r len f h ns) := by
  intro O scr cal' cal rt kk pc ls st F h ns res H hcal hs
  unfold q_f_putf at hs
  split at hs
  next ci k kd y v o st =>
    split at hs
    next c hc =>
      obtain ⟨q, hq, hrc⟩ := H.2.2 o c hc
      have e1 := hrc.1
      have e2 := hrc.2.1
      cases hb : Nat.beq c.1 ci && (Nat.blt k c.2.1 && q_fit O kd v) with
      | false => rw [hb] at hs; cases hs
      | true =>
        rw [hb, cond_true] at hs
        rw [e1, e2] at hb
        refine .inl ⟨_, _, _, _, h.set o (q.1, q.2.1, (k, v) :: q.2.2), _, ?_, q_rh_set H hq (q_rc_put hrc k v), hs⟩
        show q_putf O (ci :: k :: kd :: y) len (pc, ls, v :: .inr (.inr (o + 2)) :: st) h ns = _
        unfold q_putf
        simp only [hq, hb]
        rfl
    next => cases hs
  next => cases hs
theorem q_f_el_eq {O : q_O I} {c : q_Cf I} {q : q_C I} (hc : q_rc c q) (i : Nat) : q_f_el O c i = q_el O q i := by
  unfold q_f_el q_el
  rw [hc.2.2.2 i, hc.1]
  rfl
theorem q_f_ald_ok (tag kd len : Nat) : q_yok (q_f_ald (I := I) (P := P) tag kd len) (fun O scr _ f h ns => q_ald O scr tag kd len f h ns) := by
  intro O scr cal' cal rt kk pc ls st F h ns res H hcal hs
  unfold q_f_ald at hs
  split at hs
  next i o st =>
    split at hs
    next c j hc hj =>
      obtain ⟨q, hq, hrc⟩ := H.2.2 o c hc
      rw [q_f_el_eq hrc, hrc.1, hrc.2.1] at hs
      cases hb : (Nat.beq q.1 tag || (Nat.beq tag 101 && Nat.beq q.1 102)) && (Nat.blt j q.2.1 && Nat.beq (q_kind (q_el O q j)) kd) with
      | false => rw [hb] at hs; cases hs
      | true =>
        rw [hb, cond_true] at hs
        refine .inl ⟨_, _, _, _, h, _, ?_, H, hs⟩
        show q_ald O scr tag kd len (pc, ls, .inl i :: .inr (.inr (o + 2)) :: st) h ns = _
        unfold q_ald
        simp only [hq, hj, hb]
        rfl
    next => cases hs
  next i st =>
    split at hs
    next xs j hj =>
      split at hs
      next x hx =>
        cases hb : Nat.beq tag 100 with
        | false => rw [hb] at hs; cases hs
        | true =>
          rw [hb, cond_true] at hs
          refine .inl ⟨_, _, _, _, h, _, ?_, H, hs⟩
          show q_ald O (some xs) tag kd len (pc, ls, .inl i :: .inr (.inr 1) :: st) h ns = _
          unfold q_ald
          simp only [hj, hx, hb]
          rfl
      next => cases hs
    next => cases hs
  next => cases hs
theorem q_f_ast_ok (tag len : Nat) : q_yok (q_f_ast (I := I) (P := P) tag len) (fun O _ _ f h ns => q_ast O tag len f h ns) := by
  intro O scr cal' cal rt kk pc ls st F h ns res H hcal hs
  unfold q_f_ast at hs
  split at hs
  next v i o st =>
    split at hs
    next c j hc hj =>
      obtain ⟨q, hq, hrc⟩ := H.2.2 o c hc
      cases hb : (Nat.beq c.1 tag || (Nat.beq tag 101 && Nat.beq c.1 102)) && Nat.blt j c.2.1 with
      | false => rw [hb] at hs; cases hs
      | true =>
        rw [hb, cond_true] at hs
        split at hs
        next w hw =>
          rw [hrc.1, hrc.2.1] at hb
          rw [hrc.1] at hw
          refine .inl ⟨_, _, _, _, h.set o (q.1, q.2.1, (j, w) :: q.2.2), _, ?_, q_rh_set H hq (q_rc_put hrc j w), hs⟩
          show q_ast O tag len (pc, ls, v :: .inl i :: .inr (.inr (o + 2)) :: st) h ns = _
          unfold q_ast
          simp only [hq, hj, hb, hw]
          rfl
        next => cases hs
    next => cases hs
  next => cases hs
theorem q_f_alen_ok (len : Nat) : q_yok (q_f_alen (I := I) (P := P) len) (fun O scr _ f h ns => q_alen O scr len f h ns) := by
  intro O scr cal' cal rt kk pc ls st F h ns res H hcal hs
  unfold q_f_alen at hs
  split at hs
  next o st =>
    split at hs
    next c hc =>
      obtain ⟨q, hq, hrc⟩ := H.2.2 o c hc
      rw [hrc.1, hrc.2.1] at hs
      cases hb : Nat.blt 99 q.1 && Nat.blt q.1 104 with
      | false => rw [hb] at hs; cases hs
      | true =>
        rw [hb, cond_true] at hs
        refine .inl ⟨_, _, _, _, h, _, ?_, H, hs⟩
        show q_alen O scr len (pc, ls, .inr (.inr (o + 2)) :: st) h ns = _
        unfold q_alen
        simp only [hq, hb]
        rfl
    next => cases hs
  next st =>
    split at hs
    next xs => exact .inl ⟨_, _, _, _, h, _, rfl, H, hs⟩
    next => cases hs
  next => cases hs
theorem q_f_dfs_ok (O : q_O I) : ∀ (ks : List Nat) (i : Nat), (q_f_dfs O i ks).length = 16 ∧ ∀ k, q_mg (q_f_dfs O i ks) k = q_at (q_dfs O i ks) k
  | [], i => ⟨rfl, fun k => by unfold q_f_dfs; rw [q_m0_get]; rfl⟩
  | x :: ks, i => by
    obtain ⟨h1, h2⟩ := q_f_dfs_ok O ks (i + 1)
    unfold q_f_dfs q_dfs
    refine ⟨by rw [q_ms_len]; exact h1, fun k => ?_⟩
    rw [q_ms_get h1, q_at_cons, h2 k]
theorem q_f_new_ok (r : List Nat) (len : Nat) : q_yok (q_f_new (I := I) (P := P) r len) (fun O _ _ f h ns => q_new O r len f h ns) := by
  intro O scr cal' cal rt kk pc ls st F h ns res H hcal hs
  unfold q_f_new at hs
  split at hs
  next ci ks =>
    refine .inl ⟨_, _, _, _, h ++ [(ci, ks.length, q_dfs O 0 ks)], _, ?_, q_rh_app H (c := (ci, ks.length, q_f_dfs O 0 ks)) ⟨rfl, rfl, (q_f_dfs_ok O ks 0).1, (q_f_dfs_ok O ks 0).2⟩, hs⟩
    show q_new O (ci :: ks) len (pc, ls, st) h ns = _
    unfold q_new
    rw [H.1]
    rfl
  next => cases hs
theorem q_f_newa_ok (r : List Nat) (len : Nat) : q_yok (q_f_newa (I := I) (P := P) r len) (fun O _ _ f h ns => q_newa O r len f h ns) := by
  intro O scr cal' cal rt kk pc ls st F h ns res H hcal hs
  unfold q_f_newa at hs
  split at hs
  next tag n st =>
    split at hs
    next N hN =>
      cases hb : Nat.blt N 65536 with
      | false => rw [hb] at hs; cases hs
      | true =>
        rw [hb, cond_true] at hs
        refine .inl ⟨_, _, _, _, h ++ [(tag, N, [])], _, ?_, q_rh_app H (c := (tag, N, q_m0)) ⟨rfl, rfl, rfl, fun k => by show q_mg q_m0 k = none; exact q_m0_get k⟩, hs⟩
        show q_newa O [tag] len (pc, ls, .inl n :: st) h ns = _
        unfold q_newa
        simp only [hN, hb]
        rw [H.1]
        rfl
    next => cases hs
  next => cases hs
theorem q_f_cpy_ok (O : q_O I) {c : q_Cf I} {q : q_C I} (hc : q_rc c q) (sp dp : Nat) {m : q_Mp (q_V I)} {u : q_U I} (h1 : m.length = 16) (h2 : ∀ k, q_mg m k = q_at u k) : ∀ n, (q_f_cpy O c sp dp n m).length = 16 ∧ ∀ k, q_mg (q_f_cpy O c sp dp n m) k = q_at (q_cpy O q sp dp n u) k
  | 0 => ⟨h1, h2⟩
  | n + 1 => by
    obtain ⟨g1, g2⟩ := q_f_cpy_ok O hc sp dp h1 h2 n
    unfold q_f_cpy q_cpy
    refine ⟨by rw [q_ms_len]; exact g1, fun k => ?_⟩
    rw [q_ms_get g1, q_at_cons, g2 k, q_f_el_eq hc]
theorem q_f_acpy_ok (len : Nat) : q_yok (q_f_acpy (I := I) (P := P) len) (fun O _ _ f h ns => q_acpy O len f h ns) := by
  intro O scr cal' cal rt kk pc ls st F h ns res H hcal hs
  unfold q_f_acpy at hs
  split at hs
  next n dp d sp o st =>
    split at hs
    next cs cd n' dp' sp' hcs hcd hn hdp hsp =>
      obtain ⟨qs, hqs, hrs⟩ := H.2.2 o cs hcs
      obtain ⟨qd, hqd, hrd⟩ := H.2.2 d cd hcd
      cases hb : Nat.beq cs.1 100 && (Nat.beq cd.1 100 && (Nat.ble (sp' + n') cs.2.1 && (Nat.ble (dp' + n') cd.2.1 && Nat.ble (q_cats st) 8))) with
      | false => rw [hb] at hs; cases hs
      | true =>
        rw [hb, cond_true] at hs
        rw [hrs.1, hrd.1, hrs.2.1, hrd.2.1] at hb
        obtain ⟨g1, g2⟩ := q_f_cpy_ok O hrs sp' dp' hrd.2.2.1 hrd.2.2.2 n'
        refine .inl ⟨_, _, _, _, h.set d (qd.1, qd.2.1, q_cpy O qs sp' dp' n' qd.2.2), _, ?_, q_rh_set H hqd (c := (cd.1, cd.2.1, q_f_cpy O cs sp' dp' n' cd.2.2)) ⟨hrd.1, hrd.2.1, g1, g2⟩, hs⟩
        show q_acpy O len (pc, ls, .inl n :: .inl dp :: .inr (.inr (d + 2)) :: .inl sp :: .inr (.inr (o + 2)) :: st) h ns = _
        unfold q_acpy
        simp only [hqs, hqd, hn, hdp, hsp, hb]
        rfl
    next => cases hs
  next => cases hs
theorem q_f_may_ok {sv : Nat} {x : List Nat} {a : List (q_V I)} {F : q_Hf I} {h : q_H I} (H : q_rh F h) (hm : q_f_may sv x a F = true) : q_may sv x a h = true := by
  unfold q_f_may at hm
  split at hm
  next => rfl
  next o r =>
    show q_mayV x (h[o]?) = true
    unfold q_f_mayV at hm
    split at hm
    next c ci hc =>
      obtain ⟨q, hq, hrc⟩ := H.2.2 o c hc
      rw [hq]
      show Nat.beq q.1 ci = true
      rw [← hrc.1]
      exact hm
    next => cases hm
  next o r => rfl
  next => cases hm
theorem q_f_inv_ok (sv : Nat) (r : List Nat) (len : Nat) : q_yok (q_f_inv (I := I) (P := P) sv r len) (fun _ _ cal f h ns => q_inv cal sv r len f h ns) := by
  intro O scr cal' cal rt kk pc ls st F h ns res H hcal hs
  unfold q_f_inv at hs
  split at hs
  next k na ml x =>
    split at hs
    next a st' htk =>
      cases hb : Nat.ble (q_cats st') 8 && (Nat.ble (q_cats a) ml && q_f_may sv x a F) with
      | false => rw [hb] at hs; cases hs
      | true =>
        rw [hb, cond_true] at hs
        split at hs
        next v F' ns' hc =>
          obtain ⟨h', hc', H'⟩ := hcal k a F h ns v F' ns' H hc
          simp only [Bool.and_eq_true] at hb
          have hb2 : (Nat.ble (q_cats st') 8 && (Nat.ble (q_cats a) ml && q_may sv x a h)) = true := by
            rw [hb.1, hb.2.1, q_f_may_ok H hb.2.2]
            rfl
          refine .inl ⟨_, _, _, _, h', _, ?_, H', hs⟩
          show q_inv cal sv (k :: na :: ml :: x) len (pc, ls, st) h ns = _
          unfold q_inv
          simp only [htk, hb2, hc']
          rfl
        next => cases hs
    next => cases hs
  next => cases hs
theorem q_f_iret_ok (r : List Nat) : q_yok (q_f_iret (I := I) (P := P) r) (fun O _ _ f h ns => q_iret O r f h ns) := by
  intro O scr cal' cal rt kk pc ls st F h ns res H hcal hs
  unfold q_f_iret at hs
  split at hs
  next kd x =>
    cases hb : q_fit O kd (.inl x) with
    | false => rw [hb] at hs; cases hs
    | true =>
      rw [hb, cond_true] at hs
      refine .inr ⟨_, _, h, _, ?_, H, hs⟩
      show q_iret O [kd] (pc, ls, [.inl x]) h ns = _
      unfold q_iret
      simp only [hb]
      rfl
  next => cases hs
theorem q_f_lret_ok : q_yok (q_f_lret (I := I) (P := P)) (fun _ _ _ f h ns => q_lret f h ns) := by
  intro O scr cal' cal rt kk pc ls st F h ns res H hcal hs
  unfold q_f_lret at hs
  split at hs
  next x => exact .inr ⟨_, _, h, _, rfl, H, hs⟩
  next => cases hs
theorem q_f_ret_ok : q_yok (q_f_ret (I := I) (P := P)) (fun _ _ _ f h ns => q_ret f h ns) := by
  intro O scr cal' cal rt kk pc ls st F h ns res H hcal hs
  unfold q_f_ret at hs
  split at hs
  next => exact .inr ⟨_, _, h, _, rfl, H, hs⟩
  next => cases hs
end QUICK3
