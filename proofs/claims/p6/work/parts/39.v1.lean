/-! THE LAW'S OWN FRAME: its walk, over calls by contract -/
theorem q_iter_mono {scr : Option (List Int32)} {n m d : Nat} {t : q_T} (hm : n ≤ m) : ∀ (i : Nat) (s r : q_S Int32), q_iter q_O32 scr g_ts n d t i s = some r → q_iter q_O32 scr g_ts m d t i s = some r := by
  intro i
  induction i with
  | zero => intro s r hs; exact hs
  | succ i ih =>
    intro s r hs
    unfold q_iter at hs ⊢
    split at hs
    next s1 hst =>
      rw [q_step_mono (q_call_mono g_ts hm (Nat.le_refl d)) hst]
      exact ih s1 r hs
    next => cases hs
theorem l_scr {xs : List Int32} {cal : Nat → List (q_V Int32) → q_H Int32 → Nat → Option (q_R Int32)} {ins : Jvm.ClassFile.Instr} {len : Nat} {r : List Nat} {f : q_F Int32} {h : q_H Int32} {ns : Nat} {x : q_S Int32 ⊕ q_R Int32} (hs : q_act q_O32 none cal ins len r f h ns = some x) : q_act q_O32 (some xs) cal ins len r f h ns = some x := by
  have hald : ∀ tag kd, q_ald q_O32 none tag kd len f h ns = some x → q_ald q_O32 (some xs) tag kd len f h ns = some x := by
    intro tag kd hs
    obtain ⟨pc, ls, st⟩ := f
    unfold q_ald at hs ⊢
    dsimp only at hs ⊢
    rcases st with _ | ⟨v, _ | ⟨w, st⟩⟩
    · exact hs
    · rcases v with i | y | n
      · exact hs
      · exact hs
      · exact hs
    · rcases v with i | y | n
      · rcases w with i2 | y | n
        · exact hs
        · exact hs
        · rcases n with _ | _ | o
          · exact hs
          · cases hs
          · exact hs
      · exact hs
      · exact hs
  have hlen : q_alen q_O32 none len f h ns = some x → q_alen q_O32 (some xs) len f h ns = some x := by
    intro hs
    obtain ⟨pc, ls, st⟩ := f
    unfold q_alen at hs ⊢
    dsimp only at hs ⊢
    rcases st with _ | ⟨v, st⟩
    · exact hs
    · rcases v with i | y | n
      · exact hs
      · exact hs
      · rcases n with _ | _ | o
        · exact hs
        · cases hs
        · exact hs
  cases ins with
  | iaload => exact hald _ _ hs
  | baload => exact hald _ _ hs
  | laload => exact hald _ _ hs
  | arraylength => exact hlen hs
  | _ => exact hs
theorem l_len {h : q_H Int32} {σ : w_G} (hR : w_Rep g_sh h σ) : h.length = g_sh.length := by
  rcases Nat.lt_trichotomy h.length g_sh.length with q | q | q
  · have h1 := hR.1 h.length
    rw [List.getElem?_eq_none (Nat.le_refl _), List.getElem?_eq_getElem q] at h1
    cases h1
  · exact q
  · have h1 := hR.1 g_sh.length
    rw [List.getElem?_eq_none (Nat.le_refl _), List.getElem?_eq_getElem q] at h1
    cases h1
/-- what is to be shown at a place of the law: it comes to its end with 1 -/
def l_W (xs : List Int32) (p : Nat) (ls : q_U Int32) (st : List (q_V Int32)) (s : y_H) : Prop := ∀ h ns, w_Rep g_sh h (y_mk g_sh s) → ∃ (n i : Nat) (ls2 : q_U Int32) (h2 : q_H Int32), q_iter q_O32 (some xs) g_ts n 100 g_tl i ((p, ls, st), h, ns) = some ((1620, ls2, [.inl 1]), h2, ns) ∧ h2.length = h.length
section LW
variable {xs : List Int32} {p : Nat} {ls : q_U Int32} {st : List (q_V Int32)} {s : y_H}
theorem l_step {p2 : Nat} {ls2 : q_U Int32} {st2 : List (q_V Int32)} {s2 : y_H} (hs : ∀ h ns, w_Rep g_sh h (y_mk g_sh s) → ∃ n h2, q_step q_O32 (some xs) (q_call q_O32 g_ts n 100) g_tl (p, ls, st) h ns = some (.inl ((p2, ls2, st2), h2, ns)) ∧ w_Rep g_sh h2 (y_mk g_sh s2)) (hw : l_W xs p2 ls2 st2 s2) : l_W xs p ls st s := by
  intro h ns hR
  obtain ⟨n, h2, hq, hR2⟩ := hs h ns hR
  obtain ⟨m, i, ls3, h3, hi, hl⟩ := hw h2 ns hR2
  refine ⟨max n m, i + 1, ls3, h3, ?_, hl.trans ((l_len hR2).trans (l_len hR).symm)⟩
  unfold q_iter
  rw [q_step_mono (q_call_mono g_ts (Nat.le_max_left n m) (Nat.le_refl 100)) hq]
  exact q_iter_mono (Nat.le_max_right n m) i _ _ hi
theorem l_end : l_W xs 1620 ls [.inl 1] s := fun h ns _ => ⟨0, 0, ls, h, rfl, rfl⟩
theorem l_run (n : Nat) {p2 : Nat} {ls2 : q_U Int32} {st2 : List (q_V Int32)} {s2 : y_H} (hs : y_it g_sh g_tl n p ls st s = some (p2, ls2, st2, s2)) (hw : l_W xs p2 ls2 st2 s2) : l_W xs p ls st s := by
  induction n generalizing p ls st s with
  | zero =>
    cases hs
    exact hw
  | succ n ih =>
    unfold y_it at hs
    split at hs
    next q hq =>
      split at hs
      next p3 ls3 st3 s3 ha =>
        refine l_step (p2 := p3) (ls2 := ls3) (st2 := st3) (s2 := s3) (fun h ns hR => ?_) (ih hs)
        obtain ⟨h2, hx, hR2⟩ := y_act_ok (cal := q_call q_O32 g_ts 0 100) (ns := ns) hR ha
        refine ⟨0, h2, ?_, hR2⟩
        unfold q_step
        dsimp only
        rw [hq]
        exact l_scr hx
      next => cases hs
    next => cases hs
theorem l_ic {cd : Jvm.ClassFile.Cond} {off : Int} {len tg : Nat} {x y : Int32} (hq : q_get g_tl p = some (.if_icmp cd off, len, [tg])) (h1 : y_cmp cd x.toInt y.toInt → l_W xs tg ls st s) (h2 : ¬ y_cmp cd x.toInt y.toInt → l_W xs (p + len) ls st s) : l_W xs p ls (.inl y :: .inl x :: st) s := by
  rcases y_cm cd x y with ⟨hc, hb⟩ | ⟨hc, hb⟩
  · refine l_step (fun h ns hR => ⟨0, h, ?_, hR⟩) (h1 hc)
    unfold q_step
    dsimp only
    rw [hq]
    show q_jmp [tg] len (q_cm (q_cn cd) x y) _ st h ns = _
    rw [hb]
    rfl
  · refine l_step (fun h ns hR => ⟨0, h, ?_, hR⟩) (h2 hc)
    unfold q_step
    dsimp only
    rw [hq]
    show q_jmp [tg] len (q_cm (q_cn cd) x y) _ st h ns = _
    rw [hb]
    rfl
theorem l_if {cd : Jvm.ClassFile.Cond} {off : Int} {len tg : Nat} {x : Int32} (hq : q_get g_tl p = some (.ifCond cd off, len, [tg])) (h1 : y_cmp cd x.toInt 0 → l_W xs tg ls st s) (h2 : ¬ y_cmp cd x.toInt 0 → l_W xs (p + len) ls st s) : l_W xs p ls (.inl x :: st) s := by
  rcases y_cm cd x 0 with ⟨hc, hb⟩ | ⟨hc, hb⟩
  · refine l_step (fun h ns hR => ⟨0, h, ?_, hR⟩) (h1 hc)
    unfold q_step
    dsimp only
    rw [hq]
    show q_jmp [tg] len (q_cm (q_cn cd) x 0) _ st h ns = _
    rw [hb]
    rfl
  · refine l_step (fun h ns hR => ⟨0, h, ?_, hR⟩) (h2 hc)
    unfold q_step
    dsimp only
    rw [hq]
    show q_jmp [tg] len (q_cm (q_cn cd) x 0) _ st h ns = _
    rw [hb]
    rfl
/-- an element of the script -/
theorem l_sld {x e : Int32} {j : Nat} (hq : q_get g_tl p = some (.iaload, 1, [])) (hx : x.toInt = (j : Int)) (he : xs[j]? = some e) (hw : l_W xs (p + 1) ls (.inl e :: st) s) : l_W xs p ls (.inl x :: .inr (.inr 1) :: st) s := by
  refine l_step (fun h ns hR => ⟨0, h, ?_, hR⟩) hw
  unfold q_step
  dsimp only
  rw [hq]
  show q_ald q_O32 (some xs) 100 0 1 (p, ls, .inl x :: .inr (.inr 1) :: st) h ns = _
  unfold q_ald
  dsimp only
  rw [show q_O32.2.2.2.2.1 x = some j from y_ix hx]
  dsimp only
  rw [he]
  rfl
theorem l_slen (hq : q_get g_tl p = some (.arraylength, 1, [])) (hw : l_W xs (p + 1) ls (.inl (Int32.ofNat xs.length) :: st) s) : l_W xs p ls (.inr (.inr 1) :: st) s := by
  refine l_step (fun h ns hR => ⟨0, h, ?_, hR⟩) hw
  unfold q_step
  dsimp only
  rw [hq]
  rfl
def l_tg : List Nat := [276, 339, 362, 375, 398, 431, 464, 487, 520, 543, 556, 589, 612, 635, 658, 681, 704, 717, 730, 773, 796, 819, 832, 845, 858, 871, 884, 897, 920, 943, 966, 989, 1012, 1025, 1058, 1081, 1114, 1127, 1150, 1183, 1196, 1219, 1232, 1245, 1258, 1271, 1294, 1327, 1350, 1409, 1432, 1455, 1478, 1511, 1544, 1567, 1590]
theorem l_tsw {x : Int32} {v : Nat} (hx : x.toInt = (v : Int)) (hv : v < 64) (hw : ∀ tg : Nat, (v < 57 → l_tg[v]? = some tg) → (57 ≤ v → tg = 1613) → l_W xs tg ls st s) : l_W xs 33 ls (.inl x :: st) s := by
  have hq : ∃ d os, q_get g_tl 33 = some (.tableswitch d 0 56 os, 243, 1613 :: l_tg) := ⟨_, _, rfl⟩
  obtain ⟨d, os, hq⟩ := hq
  have e1 : q_O32.2.2.2.1 2 x (q_O32.1 (Int32.ofInt 0)) = some false := by
    rcases y_cm .lt x 0 with ⟨hc, hb⟩ | ⟨hc, hb⟩
    · have h2 : x.toInt < 0 := hc
      omega
    · exact hb
  have e3 : q_O32.2.2.2.2.2.2.1 x = some (v : Int) := congrArg some hx
  rcases Nat.lt_or_ge v 57 with q | q
  · have e2 : q_O32.2.2.2.1 4 x (q_O32.1 (Int32.ofInt 56)) = some false := by
      rcases y_cm .gt x 56 with ⟨hc, hb⟩ | ⟨hc, hb⟩
      · have h2 : (56 : Int) < x.toInt := hc
        omega
      · exact hb
    have hl : v < l_tg.length := q
    refine l_step (fun h ns hR => ⟨0, h, ?_, hR⟩) (hw l_tg[v] (fun _ => List.getElem?_eq_getElem hl) (fun h => by omega))
    unfold q_step
    dsimp only
    rw [hq]
    show q_tsw q_O32 0 56 (1613 :: l_tg) (33, ls, .inl x :: st) h ns = _
    unfold q_tsw
    dsimp only
    rw [e1, e2]
    dsimp only
    rw [e3]
    dsimp only
    rw [show ((v : Int) - 0).toNat + 1 = v + 1 by omega, List.getElem?_cons_succ, List.getElem?_eq_getElem hl]
  · have e2 : q_O32.2.2.2.1 4 x (q_O32.1 (Int32.ofInt 56)) = some true := by
      rcases y_cm .gt x 56 with ⟨hc, hb⟩ | ⟨hc, hb⟩
      · exact hb
      · have h2 : ¬ (56 : Int) < x.toInt := hc
        omega
    refine l_step (fun h ns hR => ⟨0, h, ?_, hR⟩) (hw 1613 (fun h => by omega) (fun _ => rfl))
    unfold q_step
    dsimp only
    rw [hq]
    show q_tsw q_O32 0 56 (1613 :: l_tg) (33, ls, .inl x :: st) h ns = _
    unfold q_tsw
    dsimp only
    rw [e1, e2]
    rfl
/-- a call -/
theorem l_call {k D na ml ix ci : Nat} {st2 a : List (q_V Int32)} {P : List (q_V Int32) → y_H → Prop} {Q : List (q_V Int32) → y_H → Option (q_V Int32) → y_H → Prop} (hC : y_C g_sh g_ts k D P Q) (hq : q_get g_tl p = some (.invokevirtual ix, 3, [k, na, ml, ci])) (htk : q_take na st [] = some (a, st2)) (hc : (Nat.ble (q_cats st2) 8 && Nat.ble (q_cats a) ml) = true) (hm : ∀ h, w_Rep g_sh h (y_mk g_sh s) → q_may 1 [ci] a h = true) (hd : D ≤ 100) (hP : P a s) (hw : ∀ v s2, Q a s v s2 → l_W xs (p + 3) ls (v.toList ++ st2) s2) : l_W xs p ls st s := by
  intro h ns hR
  obtain ⟨n, v, h2, s2, hcall, hR2, hQ⟩ := hC 100 a s hd hP h ns hR
  obtain ⟨m, i, ls3, h3, hi, hl⟩ := hw v s2 hQ h2 ns hR2
  refine ⟨max n m, i + 1, ls3, h3, ?_, hl.trans ((l_len hR2).trans (l_len hR).symm)⟩
  have hst : q_step q_O32 (some xs) (q_call q_O32 g_ts n 100) g_tl (p, ls, st) h ns = some (.inl ((p + 3, ls, v.toList ++ st2), h2, ns)) := by
    unfold q_step
    dsimp only
    rw [hq]
    show q_inv (q_call q_O32 g_ts n 100) 1 (k :: na :: ml :: [ci]) 3 (p, ls, st) h ns = _
    unfold q_inv
    dsimp only
    rw [htk]
    dsimp only
    rw [Bool.and_eq_true] at hc
    rw [hc.1, hc.2, hm h hR]
    simp only [Bool.and_self, cond_true]
    rw [hcall]
    rfl
  unfold q_iter
  rw [q_step_mono (q_call_mono g_ts (Nat.le_max_left n m) (Nat.le_refl 100)) hst]
  exact q_iter_mono (Nat.le_max_right n m) i _ _ hi
end LW
/-! what holds between the law's calls -/
def LInv (n : Nat) (s : y_H) : Prop := w_T (y_Vn n) g_sh (y_mk g_sh s) ∧ y_Td n s ∧ y_Un s
def l_G (s s2 : y_H) : Prop := (∀ o k, lX o k → s2.1 o k = s.1 o k) ∧ (∀ o k, tv o k → s2.1 o k = s.1 o k) ∧ s2.2.2 0 2 = s.2.2 0 2 ∧ ∀ o k, sS o k → s2.1 o k = s.1 o k
theorem jA_G {s s2 : y_H} (hU : y_Un s) (hg : jA s) (h : l_G s s2) : jA s2 := jA_of hU hg (jX_fr hg.1 h.1) h.2.1 h.2.2.1
theorem jS_G {s s2 : y_H} (hU : y_Un s) (hg : jS s) (h : l_G s s2) : jS s2 := jS_of hg (jA_G hU hg.1 h) (fun o k q => h.2.1 o k (Or.inr (Or.inr (Or.inl q)))) h.2.2.2
theorem l_ty {o k : Nat} {q : Nat × Nat × List w_A} (hs : g_sh[o]? = some q) (hk : k < q.2.1) : ∃ A, w_ty g_sh o k = some A := by
  unfold w_ty
  rw [hs]
  dsimp only
  rw [show Nat.blt k q.2.1 = true by rw [Nat.blt_eq]; exact hk, cond_true]
  have hlt : k % q.2.2.length < q.2.2.length := Nat.mod_lt _ (y_shok_l g_shok o q hs).1
  rw [List.getElem?_eq_getElem hlt]
  exact ⟨_, rfl⟩
theorem lX_ty {o k : Nat} (h : lX o k) : (∃ A, w_ty g_sh o k = some A) ∧ y_kd g_sh o k = 0 := by
  unfold lX at h
  rcases h with ⟨rfl, rfl⟩ | ⟨rfl, h⟩ | ⟨rfl, rfl | rfl | rfl⟩ | ⟨rfl, h⟩ | ⟨rfl, rfl | rfl⟩
  · exact ⟨⟨_, rfl⟩, rfl⟩
  · exact ⟨l_ty rfl h, u_k0 (o := 2) rfl (by decide) (by decide) k⟩
  · exact ⟨⟨_, rfl⟩, rfl⟩
  · exact ⟨⟨_, rfl⟩, rfl⟩
  · exact ⟨⟨_, rfl⟩, rfl⟩
  · exact ⟨l_ty rfl h, u_k0 (o := 66) rfl (by decide) (by decide) k⟩
  · exact ⟨⟨_, rfl⟩, rfl⟩
  · exact ⟨⟨_, rfl⟩, rfl⟩
def l_rs : List (Nat × Nat) := [(4161, 4161), (8256, 9855), (110664, 110665), (266305, 266307), (270400, 271999)]
def l_kX (K : List (Nat × Nat)) : Bool := l_rs.all (fun r => K.all (fun q => Nat.blt q.2 r.1 || Nat.blt r.2 q.1))
theorem l_kX_ok {K : List (Nat × Nat)} {o k : Nat} (hK : l_kX K = true) (h : lX o k) : w_inm K (w_key o k) = false := by
  have hr : ∃ r, r ∈ l_rs ∧ r.1 ≤ w_key o k ∧ w_key o k ≤ r.2 := by
    unfold lX at h
    unfold w_key
    rcases h with ⟨rfl, rfl⟩ | ⟨rfl, h⟩ | ⟨rfl, rfl | rfl | rfl⟩ | ⟨rfl, h⟩ | ⟨rfl, rfl | rfl⟩
    · exact ⟨(4161, 4161), by decide, by decide, by decide⟩
    · exact ⟨(8256, 9855), by decide, by show 8256 ≤ _; omega, by show _ ≤ 9855; omega⟩
    · exact ⟨(266305, 266307), by decide, by decide, by decide⟩
    · exact ⟨(266305, 266307), by decide, by decide, by decide⟩
    · exact ⟨(266305, 266307), by decide, by decide, by decide⟩
    · exact ⟨(270400, 271999), by decide, by show 270400 ≤ _; omega, by show _ ≤ 271999; omega⟩
    · exact ⟨(110664, 110665), by decide, by decide, by decide⟩
    · exact ⟨(110664, 110665), by decide, by decide, by decide⟩
  obtain ⟨r, hr1, hr2, hr3⟩ := hr
  unfold l_kX at hK
  rw [List.all_eq_true] at hK
  have h2 := hK r hr1
  rw [List.all_eq_true] at h2
  unfold w_inm
  cases hc : K.any (fun q => Nat.ble q.1 (w_key o k) && Nat.ble (w_key o k) q.2) with
  | false => rfl
  | true =>
    rw [List.any_eq_true] at hc
    obtain ⟨q, hq, hq2⟩ := hc
    rw [Bool.and_eq_true] at hq2
    have a1 := Nat.le_of_ble_eq_true hq2.1
    have a2 := Nat.le_of_ble_eq_true hq2.2
    have h3 := h2 q hq
    rw [Bool.or_eq_true] at h3
    rcases h3 with h3 | h3
    · have := q_blt h3
      omega
    · have := q_blt h3
      omega
theorem l_X_at {K : List (Nat × Nat)} {s s2 : y_H} (hf : y_fr g_sh K s s2) (hK : l_kX K = true) : ∀ o k, lX o k → s2.1 o k = s.1 o k := fun o k h => by
  obtain ⟨⟨A, hA⟩, h0⟩ := lX_ty h
  exact hf.at hA h0 (l_kX_ok hK h)
abbrev l_A (ref na : Nat) (a : List (q_V Int32)) : Prop := ∃ ys : List Int32, ys.length = na ∧ a = .inr (.inr ref) :: ys.map .inl
def l_PubP (k D : Nat) (Pa : List (q_V Int32) → Prop) : Prop := ∀ n, y_C g_sh g_ts k D (fun a s => LInv n s ∧ Pa a) (fun _ s v s2 => LInv n s2 ∧ l_G s s2 ∧ ∃ x : Int32, v = some (.inl x))
abbrev l_Pub (ref k na D : Nat) : Prop := l_PubP k D (l_A ref na)
def l_kok (K : List (Nat × Nat)) : Bool := !(w_inm K 66) && (!(w_inm K 67) && (!(w_inm K 12356) && (!(w_inm K 61508) && (l_kX K && (l_kR l_rt K && (l_kR l_rv K && l_kS K))))))
def l_isI (A : Option w_A) : Bool := match A with
  | some (.inl _) => true
  | _ => false
def l_ook (outs : List (List (Nat × q_J) × Option w_A × w_U)) : Bool := outs.all (fun q => y_ex g_sh q.2.2 && l_isI q.2.1)
theorem l_keep {K : List (Nat × Nat)} {n : Nat} {s s2 : y_H} (hK : l_kok K = true) (hI : LInv n s) (hT : w_T (y_Vn n) g_sh (y_mk g_sh s2)) (hf : y_fr g_sh K s s2) : LInv n s2 ∧ l_G s s2 := by
  unfold l_kok at hK
  simp only [Bool.and_eq_true, Bool.not_eq_true'] at hK
  obtain ⟨k1, k2, k3, k4, k5, k6, k7, k8⟩ := hK
  refine ⟨⟨hT, y_Td_fr hf k1 k3 k4 hI.2.1, ?_⟩, ⟨l_X_at hf k5, fun o k h => by rcases h with h | h | h | h; exact t_at hf k6 (Or.inl h); exact t_at hf k6 (Or.inr (Or.inl h)); exact t_at hf k6 (Or.inr (Or.inr h)); exact v_at hf k7 h, y_fr66 hf k1, fun o k h => s_at hf k8 h⟩⟩
  unfold y_Un
  rw [y_fr66 hf k1, y_fr67 hf k2]
  exact hI.2.2
theorem l_outI {outs : List (List (Nat × q_J) × Option w_A × w_U)} {a : List (q_V Int32)} {σ : w_G} {v : Option (q_V Int32)} (ho : l_ook outs = true) (h : ∃ q ∈ outs, w_out a σ q v) : ∃ x : Int32, v = some (.inl x) := by
  obtain ⟨q, hq, h⟩ := h
  unfold l_ook at ho
  rw [List.all_eq_true] at ho
  have h1 := ho q hq
  rw [Bool.and_eq_true] at h1
  obtain ⟨l, A, M⟩ := q
  rcases A with _ | ((⟨⟨lo, hi⟩, g⟩) | A)
  · cases h1.2
  · obtain ⟨x, e, -, -⟩ := y_ans h
    exact ⟨x, e⟩
  · cases h1.2
theorem l_sts {σ : w_G} : ∀ ys : List Int32, w_sts [] σ ((List.replicate ys.length (w_t 0)).map w_kz) (ys.map .inl)
  | [] => True.intro
  | y :: ys => ⟨y_ivall, l_sts ys⟩
theorem l_exE {k D : Nat} {as : List w_A} {M : w_U} {K : List (Nat × Nat)} {outs : List (List (Nat × q_J) × Option w_A × w_U)} (hM : y_ex g_sh M = true) (ho : l_ook outs = true) : y_exE g_sh (k, as, M, K, outs, D) = true := by
  unfold y_exE
  rw [Bool.and_eq_true]
  refine ⟨hM, ?_⟩
  unfold l_ook at ho
  rw [List.all_eq_true] at ho ⊢
  intro q hq
  have h1 := ho q hq
  rw [Bool.and_eq_true] at h1
  exact h1.1
/-- a checked method of the class, that asks for the told one -/
theorem l_pubCP {k D D5 D17 : Nat} {Pa : List (q_V Int32) → Prop} {as5 as17 : List w_A} {K5 K17 : List (Nat × Nat)} {o5 o17 : List (List (Nat × q_J) × Option w_A × w_U)} (E5 : ∀ n, w_Ent (y_Vn n) g_sh g_ts (k, as5, [(66, w_r 5)], K5, o5, D5)) (E17 : ∀ n, w_Ent (y_Vn n) g_sh g_ts (k, as17, [(66, w_r 17)], K17, o17, D17)) (h5 : ∀ (σ : w_G) (a : List (q_V Int32)), Pa a → w_sts [] σ (as5.map w_kz) a) (h17 : ∀ (σ : w_G) (a : List (q_V Int32)), Pa a → w_sts [] σ (as17.map w_kz) a) (hK : (l_kok K5 && l_kok K17) = true) (ho : (l_ook o5 && l_ook o17) = true) (hD : D5 ≤ D ∧ D17 ≤ D) : l_PubP k D Pa := by
  rw [Bool.and_eq_true] at hK ho
  intro n d a s hd hP h ns hR
  obtain ⟨hI, hPa⟩ := hP
  have fin : ∀ (r : Nat) (as : List w_A) (K : List (Nat × Nat)) (o : List (List (Nat × q_J) × Option w_A × w_U)) (DD : Nat), w_Ent (y_Vn n) g_sh g_ts (k, as, [(66, w_r r)], K, o, DD) → (∀ (σ : w_G) (a : List (q_V Int32)), Pa a → w_sts [] σ (as.map w_kz) a) → l_kok K = true → l_ook o = true → DD ≤ D → s.2.2 0 2 = r → ∃ n_1 v h2 s2, q_call q_O32 g_ts n_1 d k a h ns = some (v, h2, ns) ∧ w_Rep g_sh h2 (y_mk g_sh s2) ∧ LInv n s2 ∧ l_G s s2 ∧ ∃ x : Int32, v = some (.inl x) := by
    intro r as K o DD E hst hk hoo hDD hr
    obtain ⟨m, v, h2, s2, hc, hR2, hT2, hf2, hv⟩ := y_C.ofE g_shok g_pkok (l_exE y_ex66 hoo) E d a s (Nat.le_trans hDD hd) ⟨hI.1, hst _ _ hPa, y_o66 hr⟩ h ns hR
    obtain ⟨g1, g2⟩ := l_keep hk hI hT2 hf2
    exact ⟨m, v, h2, s2, hc, hR2, g1, g2, l_outI hoo hv⟩
  rcases hI.2.1 with ⟨r5, -⟩ | ⟨r5, -⟩
  · exact fin 5 as5 K5 o5 D5 (E5 n) h5 hK.1 ho.1 hD.1 r5
  · exact fin 17 as17 K17 o17 D17 (E17 n) h17 hK.2 ho.2 hD.2 r5
theorem l_stA {ref na : Nat} {as : List w_A} (e : as = w_r ref :: List.replicate na (w_t 0)) (σ : w_G) (a : List (q_V Int32)) (h : l_A ref na a) : w_sts [] σ (as.map w_kz) a := by
  subst e
  obtain ⟨ys, rfl, rfl⟩ := h
  exact ⟨⟨ref, rfl, List.mem_cons_self⟩, l_sts ys⟩
theorem l_pubC {k na D D5 D17 : Nat} {as5 as17 : List w_A} {K5 K17 : List (Nat × Nat)} {o5 o17 : List (List (Nat × q_J) × Option w_A × w_U)} (E5 : ∀ n, w_Ent (y_Vn n) g_sh g_ts (k, as5, [(66, w_r 5)], K5, o5, D5)) (E17 : ∀ n, w_Ent (y_Vn n) g_sh g_ts (k, as17, [(66, w_r 17)], K17, o17, D17)) (h5 : as5 = w_r 2 :: List.replicate na (w_t 0)) (h17 : as17 = w_r 2 :: List.replicate na (w_t 0)) (hK : (l_kok K5 && l_kok K17) = true) (ho : (l_ook o5 && l_ook o17) = true) (hD : D5 ≤ D ∧ D17 ≤ D) : l_Pub 2 k na D := l_pubCP E5 E17 (l_stA h5) (l_stA h17) hK ho hD
/-- a checked method that asks for nothing -/
theorem l_pubNP {k D D5 : Nat} {Pa : List (q_V Int32) → Prop} {as5 : List w_A} {K5 : List (Nat × Nat)} {o5 : List (List (Nat × q_J) × Option w_A × w_U)} (E5 : ∀ n, w_Ent (y_Vn n) g_sh g_ts (k, as5, [], K5, o5, D5)) (h5 : ∀ (σ : w_G) (a : List (q_V Int32)), Pa a → w_sts [] σ (as5.map w_kz) a) (hK : l_kok K5 = true) (ho : l_ook o5 = true) (hD : D5 ≤ D) : l_PubP k D Pa := by
  intro n d a s hd hP h ns hR
  obtain ⟨hI, hPa⟩ := hP
  obtain ⟨m, v, h2, s2, hc, hR2, hT2, hf2, hv⟩ := y_C.ofE g_shok g_pkok (l_exE rfl ho) (E5 n) d a s (Nat.le_trans hD hd) ⟨hI.1, h5 _ _ hPa, fun q hq => by cases hq⟩ h ns hR
  obtain ⟨g1, g2⟩ := l_keep hK hI hT2 hf2
  exact ⟨m, v, h2, s2, hc, hR2, g1, g2, l_outI ho hv⟩
theorem l_pubN {ref k na D D5 : Nat} {as5 : List w_A} {K5 : List (Nat × Nat)} {o5 : List (List (Nat × q_J) × Option w_A × w_U)} (E5 : ∀ n, w_Ent (y_Vn n) g_sh g_ts (k, as5, [], K5, o5, D5)) (h5 : as5 = w_r ref :: List.replicate na (w_t 0)) (hK : l_kok K5 = true) (ho : l_ook o5 = true) (hD : D5 ≤ D) : l_Pub ref k na D := l_pubNP E5 (l_stA h5) hK ho hD
/-- a method by hand -/
theorem l_pubH {ref k na D : Nat} {K : List (Nat × Nat)} {P : Nat → List (q_V Int32) → y_H → Prop} {Q : Nat → List (q_V Int32) → y_H → Option (q_V Int32) → y_H → Prop} (hC : ∀ n, y_C g_sh g_ts k D (P n) (Q n)) (hP : ∀ n a s, LInv n s → l_A ref na a → P n a s) (hQ : ∀ n a s v s2, Q n a s v s2 → w_T (y_Vn n) g_sh (y_mk g_sh s2) ∧ y_fr g_sh K s s2 ∧ ∃ x : Int32, v = some (.inl x)) (hK : l_kok K = true) : l_Pub ref k na D := by
  intro n d a s hd hP2 h ns hR
  obtain ⟨m, v, h2, s2, hc, hR2, hq⟩ := hC n d a s hd (hP n a s hP2.1 hP2.2) h ns hR
  obtain ⟨q1, q2, q3⟩ := hQ n a s v s2 hq
  obtain ⟨g1, g2⟩ := l_keep hK hP2.1 q1 q2
  exact ⟨m, v, h2, s2, hc, hR2, g1, g2, q3⟩
theorem l_a0 {ref : Nat} {a : List (q_V Int32)} (h : l_A ref 0 a) : a = [.inr (.inr ref)] := by
  obtain ⟨ys, h1, rfl⟩ := h
  rw [List.length_eq_zero_iff.mp h1]
  rfl
theorem l_a1 {ref : Nat} {a : List (q_V Int32)} (h : l_A ref 1 a) : ∃ x : Int32, a = [.inr (.inr ref), .inl x] := by
  obtain ⟨ys, h1, rfl⟩ := h
  rcases ys with _ | ⟨x, _ | ⟨y, ys⟩⟩
  · cases h1
  · exact ⟨x, rfl⟩
  · cases h1
theorem l_a2 {ref : Nat} {a : List (q_V Int32)} (h : l_A ref 2 a) : ∃ x y : Int32, a = [.inr (.inr ref), .inl x, .inl y] := by
  obtain ⟨ys, h1, rfl⟩ := h
  rcases ys with _ | ⟨x, _ | ⟨y, _ | ⟨z, ys⟩⟩⟩
  · cases h1
  · cases h1
  · exact ⟨x, y, rfl⟩
  · cases h1
/-- a checked method, with its frame: of the class, that asks for the told one -/
theorem l_frCP {k D D5 D17 : Nat} {Pa : List (q_V Int32) → Prop} {as5 as17 : List w_A} {K5 K17 KK : List (Nat × Nat)} {o5 o17 : List (List (Nat × q_J) × Option w_A × w_U)} (E5 : ∀ n, w_Ent (y_Vn n) g_sh g_ts (k, as5, [(66, w_r 5)], K5, o5, D5)) (E17 : ∀ n, w_Ent (y_Vn n) g_sh g_ts (k, as17, [(66, w_r 17)], K17, o17, D17)) (h5 : ∀ (σ : w_G) (a : List (q_V Int32)), Pa a → w_sts [] σ (as5.map w_kz) a) (h17 : ∀ (σ : w_G) (a : List (q_V Int32)), Pa a → w_sts [] σ (as17.map w_kz) a) (hK : (y_inc K5 KK && y_inc K17 KK) = true) (ho : (l_ook o5 && l_ook o17) = true) (hD : D5 ≤ D ∧ D17 ≤ D) : ∀ n, y_C g_sh g_ts k D (fun a s => LInv n s ∧ Pa a) (fun _ s v s2 => w_T (y_Vn n) g_sh (y_mk g_sh s2) ∧ y_fr g_sh KK s s2 ∧ ∃ x : Int32, v = some (.inl x)) := by
  rw [Bool.and_eq_true] at hK ho
  intro n d a s hd hP h ns hR
  obtain ⟨hI, hPa⟩ := hP
  have fin : ∀ (r : Nat) (as : List w_A) (K : List (Nat × Nat)) (o : List (List (Nat × q_J) × Option w_A × w_U)) (DD : Nat), w_Ent (y_Vn n) g_sh g_ts (k, as, [(66, w_r r)], K, o, DD) → (∀ (σ : w_G) (a : List (q_V Int32)), Pa a → w_sts [] σ (as.map w_kz) a) → y_inc K KK = true → l_ook o = true → DD ≤ D → s.2.2 0 2 = r → ∃ n_1 v h2 s2, q_call q_O32 g_ts n_1 d k a h ns = some (v, h2, ns) ∧ w_Rep g_sh h2 (y_mk g_sh s2) ∧ w_T (y_Vn n) g_sh (y_mk g_sh s2) ∧ y_fr g_sh KK s s2 ∧ ∃ x : Int32, v = some (.inl x) := by
    intro r as K o DD E hst hk hoo hDD hr
    obtain ⟨m, v, h2, s2, hc, hR2, hT2, hf2, hv⟩ := y_C.ofE g_shok g_pkok (l_exE y_ex66 hoo) E d a s (Nat.le_trans hDD hd) ⟨hI.1, hst _ _ hPa, y_o66 hr⟩ h ns hR
    exact ⟨m, v, h2, s2, hc, hR2, hT2, hf2.mono hk, l_outI hoo hv⟩
  rcases hI.2.1 with ⟨r5, -⟩ | ⟨r5, -⟩
  · exact fin 5 as5 K5 o5 D5 (E5 n) h5 hK.1 ho.1 hD.1 r5
  · exact fin 17 as17 K17 o17 D17 (E17 n) h17 hK.2 ho.2 hD.2 r5
/-- a checked method that asks for nothing, with its frame -/
theorem l_frNP {k D D5 : Nat} {Pa : List (q_V Int32) → Prop} {as5 : List w_A} {K5 KK : List (Nat × Nat)} {o5 : List (List (Nat × q_J) × Option w_A × w_U)} (E5 : ∀ n, w_Ent (y_Vn n) g_sh g_ts (k, as5, [], K5, o5, D5)) (h5 : ∀ (σ : w_G) (a : List (q_V Int32)), Pa a → w_sts [] σ (as5.map w_kz) a) (hK : y_inc K5 KK = true) (ho : l_ook o5 = true) (hD : D5 ≤ D) : ∀ n, y_C g_sh g_ts k D (fun a s => LInv n s ∧ Pa a) (fun _ s v s2 => w_T (y_Vn n) g_sh (y_mk g_sh s2) ∧ y_fr g_sh KK s s2 ∧ ∃ x : Int32, v = some (.inl x)) := by
  intro n d a s hd hP h ns hR
  obtain ⟨hI, hPa⟩ := hP
  obtain ⟨m, v, h2, s2, hc, hR2, hT2, hf2, hv⟩ := y_C.ofE g_shok g_pkok (l_exE rfl ho) (E5 n) d a s (Nat.le_trans hD hd) ⟨hI.1, h5 _ _ hPa, fun q hq => by cases hq⟩ h ns hR
  exact ⟨m, v, h2, s2, hc, hR2, hT2, hf2.mono hK, l_outI ho hv⟩
/-- the law's own: what holds behind a call with such a frame -/
theorem l_frI {K : List (Nat × Nat)} {n : Nat} {s s2 : y_H} (hK : (!(w_inm K 66) && (!(w_inm K 67) && (!(w_inm K 12356) && !(w_inm K 61508)))) = true) (hI : LInv n s) (hT : w_T (y_Vn n) g_sh (y_mk g_sh s2)) (hf : y_fr g_sh K s s2) : LInv n s2 ∧ s2.2.2 0 2 = s.2.2 0 2 := by
  simp only [Bool.and_eq_true, Bool.not_eq_true'] at hK
  obtain ⟨k1, k2, k3, k4⟩ := hK
  refine ⟨⟨hT, y_Td_fr hf k1 k3 k4 hI.2.1, ?_⟩, y_fr66 hf k1⟩
  unfold y_Un
  rw [y_fr66 hf k1, y_fr67 hf k2]
  exact hI.2.2
