/-! THE CLASS'S QUAY BY CONTRACT, WITH ALL THAT IT LEAVES (printed by wip/gen/zq3.py) -/
theorem z_ou {K : List (Nat × Nat)} {r : Nat × Nat} {g : Nat} (hK : K.all (fun q => Nat.blt q.2 r.1 || Nat.blt r.2 q.1) = true) (h1 : r.1 ≤ g) (h2 : g ≤ r.2) : w_inm K g = false := by
  rw [List.all_eq_true] at hK
  unfold w_inm
  cases hc : K.any (fun q => Nat.ble q.1 g && Nat.ble g q.2) with
  | false => rfl
  | true =>
    rw [List.any_eq_true] at hc
    obtain ⟨q, hq, hq2⟩ := hc
    rw [Bool.and_eq_true] at hq2
    have a1 := Nat.le_of_ble_eq_true hq2.1
    have a2 := Nat.le_of_ble_eq_true hq2.2
    have h3 := hK q hq
    rw [Bool.or_eq_true] at h3
    rcases h3 with h3 | h3
    · have := q_blt h3
      omega
    · have := q_blt h3
      omega
/-- a slot of the heap that is an int -/
def zT (o k : Nat) : Prop := (∃ q, g_sh[o]? = some q ∧ k < q.2.1) ∧ y_kd g_sh o k = 0
theorem zT_ty {o k : Nat} (h : zT o k) : ∃ A, w_ty g_sh o k = some A := by
  obtain ⟨⟨q, hs, hk⟩, -⟩ := h
  unfold w_ty
  rw [hs]
  dsimp only
  rw [show Nat.blt k q.2.1 = true by rw [Nat.blt_eq]; exact hk, cond_true]
  have hlt : k % q.2.2.length < q.2.2.length := Nat.mod_lt _ (y_shok_l g_shok o q hs).1
  rw [List.getElem?_eq_getElem hlt]
  exact ⟨_, rfl⟩
theorem zT_fr {K : List (Nat × Nat)} {s s2 : y_H} {o k : Nat} (h : zT o k) (hf : y_fr g_sh K s s2) (hm : w_inm K (w_key o k) = false) : s2.1 o k = s.1 o k := by
  obtain ⟨A, hA⟩ := zT_ty h
  exact hf.at hA h.2 hm
theorem zT_A {t : u_H} {s : y_H} {o k : Nat} (h : zT o k) (hz : zA t s) : t.1 o k = s.1 o k := by
  obtain ⟨⟨q, hs, hk⟩, h0⟩ := h
  exact hz.i hs hk h0
/-- what was told, in the class: of the Told R -/
def qD (R o k : Nat) : Prop := (o = R - 2 ∧ (k = 0 ∨ k = 4 ∨ (9 ≤ k ∧ k ≤ 12))) ∨ (o = R ∧ k < 5) ∨ (o = R + 1 ∧ k < 5) ∨ (o = R + 3 ∧ k < 7) ∨ (o = R + 4 ∧ k < 7) ∨ (o = R + 5 ∧ k < 7) ∨ (o = R + 6 ∧ (k = 3 ∨ k = 4)) ∨ (o = R + 7 ∧ k < 270)
/-- the class's state, its past, its boxes, what lies there, what was seen -/
def qS (o k : Nat) : Prop := (o = 28 ∧ (k = 1 ∨ k = 3 ∨ (6 ≤ k ∧ k ≤ 9))) ∨ (o = 29 ∧ k < 7) ∨ (o = 30 ∧ k < 7) ∨ (o = 31 ∧ k < 2) ∨ (o = 32 ∧ k < 2)
def qP (o k : Nat) : Prop := (o = 33 ∧ (k = 1 ∨ k = 2 ∨ k = 3)) ∨ (o = 34 ∧ k < 984) ∨ (o = 35 ∧ k < 72) ∨ (o = 0 ∧ (k = 7 ∨ k = 14)) ∨ (o = 64 ∧ k < 7)
def qV (o k : Nat) : Prop := (o = 55 ∧ (k = 0 ∨ k = 1)) ∨ (o = 56 ∧ k < 30) ∨ (o = 57 ∧ k < 30) ∨ (o = 58 ∧ k < 30) ∨ (o = 59 ∧ k < 30) ∨ (o = 60 ∧ k < 30)
theorem zT_a {o k tag sz : Nat} {l : List w_A} (hs : g_sh[o]? = some (tag, sz, l)) (hk : k < sz) (h1 : 100 ≤ tag) (h2 : tag ≠ 103) : zT o k := ⟨⟨_, hs, hk⟩, u_k0 hs h1 h2 k⟩
theorem qS_T {o k : Nat} (h : qS o k) : zT o k := by
  unfold qS at h
  rcases h with ⟨rfl, h⟩ | ⟨rfl, h⟩ | ⟨rfl, h⟩ | ⟨rfl, h⟩ | ⟨rfl, h⟩
  · rcases (show k = 1 ∨ k = 3 ∨ k = 6 ∨ k = 7 ∨ k = 8 ∨ k = 9 by omega) with rfl | rfl | rfl | rfl | rfl | rfl <;> exact ⟨⟨_, rfl, by decide⟩, rfl⟩
  · exact zT_a rfl h (by decide) (by decide)
  · exact zT_a rfl h (by decide) (by decide)
  · exact zT_a rfl h (by decide) (by decide)
  · exact zT_a rfl h (by decide) (by decide)
theorem qP_T {o k : Nat} (h : qP o k) : zT o k := by
  unfold qP at h
  rcases h with ⟨rfl, h⟩ | ⟨rfl, h⟩ | ⟨rfl, h⟩ | ⟨rfl, h⟩ | ⟨rfl, h⟩
  · rcases h with rfl | rfl | rfl <;> exact ⟨⟨_, rfl, by decide⟩, rfl⟩
  · exact ⟨⟨_, rfl, h⟩, y_k34 k h⟩
  · exact ⟨⟨_, rfl, h⟩, y_k35 k h⟩
  · rcases h with rfl | rfl <;> exact ⟨⟨_, rfl, by decide⟩, rfl⟩
  · exact zT_a rfl h (by decide) (by decide)
theorem qV_T {o k : Nat} (h : qV o k) : zT o k := by
  unfold qV at h
  rcases h with ⟨rfl, h⟩ | ⟨rfl, h⟩ | ⟨rfl, h⟩ | ⟨rfl, h⟩ | ⟨rfl, h⟩ | ⟨rfl, h⟩
  · rcases h with rfl | rfl <;> exact ⟨⟨_, rfl, by decide⟩, rfl⟩
  · exact zT_a rfl h (by decide) (by decide)
  · exact zT_a rfl h (by decide) (by decide)
  · exact zT_a rfl h (by decide) (by decide)
  · exact zT_a rfl h (by decide) (by decide)
  · exact zT_a rfl h (by decide) (by decide)
theorem qD_T {R o k : Nat} (hR : R = 5 ∨ R = 17) (h : qD R o k) : zT o k := by
  unfold qD at h
  rcases hR with rfl | rfl
  · rcases h with ⟨rfl, h⟩ | ⟨rfl, h⟩ | ⟨rfl, h⟩ | ⟨rfl, h⟩ | ⟨rfl, h⟩ | ⟨rfl, h⟩ | ⟨rfl, h⟩ | ⟨rfl, h⟩
    · rcases (show k = 0 ∨ k = 4 ∨ k = 9 ∨ k = 10 ∨ k = 11 ∨ k = 12 by omega) with rfl | rfl | rfl | rfl | rfl | rfl <;> exact ⟨⟨_, rfl, by decide⟩, rfl⟩
    · exact zT_a rfl h (by decide) (by decide)
    · exact zT_a rfl h (by decide) (by decide)
    · exact zT_a rfl h (by decide) (by decide)
    · exact zT_a rfl h (by decide) (by decide)
    · exact zT_a rfl h (by decide) (by decide)
    · rcases h with rfl | rfl <;> exact ⟨⟨_, rfl, by decide⟩, rfl⟩
    · exact zT_a rfl h (by decide) (by decide)
  · rcases h with ⟨rfl, h⟩ | ⟨rfl, h⟩ | ⟨rfl, h⟩ | ⟨rfl, h⟩ | ⟨rfl, h⟩ | ⟨rfl, h⟩ | ⟨rfl, h⟩ | ⟨rfl, h⟩
    · rcases (show k = 0 ∨ k = 4 ∨ k = 9 ∨ k = 10 ∨ k = 11 ∨ k = 12 by omega) with rfl | rfl | rfl | rfl | rfl | rfl <;> exact ⟨⟨_, rfl, by decide⟩, rfl⟩
    · exact zT_a rfl h (by decide) (by decide)
    · exact zT_a rfl h (by decide) (by decide)
    · exact zT_a rfl h (by decide) (by decide)
    · exact zT_a rfl h (by decide) (by decide)
    · exact zT_a rfl h (by decide) (by decide)
    · rcases h with rfl | rfl <;> exact ⟨⟨_, rfl, by decide⟩, rfl⟩
    · exact zT_a rfl h (by decide) (by decide)
theorem z_call {k D : Nat} {P : List (q_V Int32) → y_H → Prop} {Q : List (q_V Int32) → y_H → Option (q_V Int32) → y_H → Prop} (h : y_C g_sh g_ts k D P Q) (hk : u_ok k = true) : y_C g_sh g_ts k D P (fun a s v s2 => Q a s v s2 ∧ ∃ t, u_c k a (uP s) = some (v, t) ∧ zA t s2) := y_C.u hk h
/-- what a quay with a fault leaves -/
def z3_F (R : Nat) (s s2 : y_H) : Prop := (∀ o k, (qD (22 - R) o k ∨ qS o k ∨ qP o k ∨ qV o k) → s2.1 o k = s.1 o k) ∧ s2.2.2 0 2 = s.2.2 0 2
/-- what a good quay leaves -/
def z3_G (R : Nat) (tq : u_H) (s s2 : y_H) : Prop := (∀ o k, qD R o k → s2.1 o k = tq.1 o k) ∧ nB s2.1 (tq.1 (R - 2) 4) (tq.1 (R - 2) 12) ∧ ((s2.1 33 1).toInt = 0 ∧ (s2.1 33 2).toInt = 0 ∧ (s2.1 33 3).toInt = 0 ∧ ∀ k, k < 24 → s2.1 34 k = y_srow s2 k) ∧ s2.1 0 7 = 0 ∧ s2.1 0 14 = 0 ∧ s2.1 55 1 = 0 ∧ s2.1 55 0 = s.1 55 0 ∧ s2.2.2 0 2 = R
def z3_Q (R : Nat) (s : y_H) (v : Option (q_V Int32)) (s2 : y_H) : Prop := y_quQ s v s2 ∧ ∃ (x1 : Int32) (tq : u_H), u_c 115 [.inr (.inr 29), .inr (.inr R)] (uP s) = some (some (.inl x1), tq) ∧ (s2.1 27 8 = tq.1 27 8 ∧ s2.1 27 9 = tq.1 27 9) ∧ ((x1 = 0 ∧ v = some (.inl (Int32.ofInt (-1))) ∧ z3_F R s s2) ∨ (x1 ≠ 0 ∧ v = some (.inl (tq.1 (R - 2) 4)) ∧ z3_G R tq s s2))
theorem qS_so : ∀ k, k < 24 → qS (y_so k).1 (y_so k).2 := by
  intro k hk
  have h : ∀ j : Fin 24, ((y_so j.1).1 = 28 ∧ ((y_so j.1).2 = 1 ∨ (y_so j.1).2 = 3 ∨ (6 ≤ (y_so j.1).2 ∧ (y_so j.1).2 ≤ 9))) ∨ ((y_so j.1).1 = 29 ∧ (y_so j.1).2 < 7) ∨ ((y_so j.1).1 = 30 ∧ (y_so j.1).2 < 7) ∨ ((y_so j.1).1 = 31 ∧ (y_so j.1).2 < 2) ∨ ((y_so j.1).1 = 32 ∧ (y_so j.1).2 < 2) := by decide
  exact h ⟨k, hk⟩
theorem z3_quay5 {n : Nat} {Kr : List (Nat × Nat)} {M0 M1 : w_U} {Ks : Nat → List (Nat × Nat)} {Ms : Nat → w_U} (hrd : y_eRdI (y_Vn n) 17 Kr y_rdK17 M0 M1) (hsr : ∀ m, y_eSiR (y_Vn m) 17 (Ks m) y_srK17 (Ms m)) (hMs : ∀ m, Ms m = [(225345, w_n 0 0 0)]) {d : Nat} {s : y_H} (hd : 72 ≤ d) (hT : w_T (y_Vn n) g_sh (y_mk g_sh s)) (hr2 : s.2.2 0 2 = 5) (hr3 : s.2.2 0 3 = 17) (hn : (s.1 3 4).toInt = (n : Int)) : y_W g_sh g_ts d g_t57 (z3_Q 17 s) 0 [(0, .inr (.inr 2))] [] s := by
  obtain ⟨i1, i2, hE⟩ := hrd
  refine y_run 4 rfl ?_
  show y_W g_sh g_ts d g_t57 (z3_Q 17 s) 8 [(0, .inr (.inr 2))] [.inr (.inr (s.2.2 0 3)), .inr (.inr 29)] s
  rw [hr3]
  refine z_callM (by decide) hE (by simpa [Bool.and_eq_true] using i2) 1 rfl (fun _ _ _ => rfl) (a := [.inr (.inr 29), .inr (.inr 17)]) rfl rfl (fun h hR => y_mayV (o := 27) (sz := 10) rfl hR) (by omega) hT ⟨⟨29, rfl, List.mem_cons_self⟩, ⟨17, rfl, List.mem_cons_self⟩, True.intro⟩ (fun v s1 hT1 hf1 hv ht1 => ?_)
  have g1 := hf1.mono i1
  have key : ∀ x : Int32, x.toInt = 0 ∨ x.toInt = 1 → (∃ t, u_c 115 [.inr (.inr 29), .inr (.inr 17)] (uP s) = some (some (.inl x), t) ∧ zA t s1) → y_W g_sh g_ts d g_t57 (z3_Q 17 s) 11 [(0, .inr (.inr 2))] [.inl x] s1 := by
    intro x hx hu
    obtain ⟨tq, hu1, hu2⟩ := hu
    have hu8 : tq.1 27 8 = s1.1 27 8 := hu2.i (o := 27) (k := 8) rfl (by decide) rfl
    have hu9 : tq.1 27 9 = s1.1 27 9 := hu2.i (o := 27) (k := 9) rfl (by decide) rfl
    have hT2 := y_Tup (lo := 2147483648) (hi := 2147485248) (g := 0) (o := 1) (k := 1) (x := Int32.ofInt 0) hT1 rfl rfl (by decide +kernel) (show _ ≤ (0 : Int) by omega) (show (0 : Int) ≤ _ by omega)
    have f2 := (g1.mono (m2 := y_quKC) (by decide +kernel)).up (o := 1) (k := 1) (v := .inl (Int32.ofInt 0)) rfl (by decide +kernel)
    have e15 : ∀ o k, ¬ (o = 1 ∧ k = 1) → (y_up s1 1 1 (.inl (Int32.ofInt 0))).1 o k = s1.1 o k := fun o k h => y_up_ne h
    have e16 : (y_up s1 1 1 (.inl (Int32.ofInt 0))).2.2 0 2 = s1.2.2 0 2 := rfl
    have e11 : ((y_up s1 1 1 (.inl (Int32.ofInt 0))).1 1 1).toInt = 0 := rfl
    have a2 : (y_up s1 1 1 (.inl (Int32.ofInt 0))).2.2 0 2 = 5 := (y_fr66 g1 (by decide +kernel)).trans hr2
    have a3 : (y_up s1 1 1 (.inl (Int32.ofInt 0))).2.2 0 3 = 17 := (y_fr67 g1 (by decide +kernel)).trans hr3
    have an : ((y_up s1 1 1 (.inl (Int32.ofInt 0))).1 3 4).toInt = (n : Int) := by
      rw [y_up_ne (by omega), g1.at (o := 3) (k := 4) (A := w_n 0 7 0) rfl rfl (by decide +kernel)]
      exact hn
    refine y_run 5 rfl ?_
    show y_W g_sh g_ts d g_t57 (z3_Q 17 s) 20 ((1, .inl x) :: [(0, .inr (.inr 2))]) [] (y_up s1 1 1 (.inl (Int32.ofInt 0)))
    revert hT2 f2 e15 e16 e11 a2 a3 an
    generalize y_up s1 1 1 (.inl (Int32.ofInt 0)) = s2
    intro hT2 f2 e15 e16 e11 a2 a3 an
    refine y_run 1 rfl ?_
    refine y_if rfl (fun h => ?_) (fun h => ?_)
    rotate_left
    · refine y_run 1 rfl ?_
      have hx0 : x = 0 := by
        have h2 : ¬ x.toInt ≠ 0 := h
        have h3 : x.toInt = 0 := by omega
        exact Int32.toInt_inj.mp h3
      have keep : ∀ o k, (qD 5 o k ∨ qS o k ∨ qP o k ∨ qV o k) → s2.1 o k = s.1 o k := by
        intro o k h
        have hT : zT o k := by
          rcases h with h | h | h | h
          · exact qD_T (by omega) h
          · exact qS_T h
          · exact qP_T h
          · exact qV_T h
        have hk4 : k < 1000 := by
          rcases h with h | h | h | h
          · unfold qD at h
            omega
          · unfold qS at h
            omega
          · unfold qP at h
            omega
          · unfold qV at h
            omega
        have h11 : ¬ (o = 1 ∧ k = 1) := by
          rcases h with h | h | h | h
          · unfold qD at h
            omega
          · unfold qS at h
            omega
          · unfold qP at h
            omega
          · unfold qV at h
            omega
        rw [e15 o k h11]
        have hcases : (o = 0 ∧ k < 15) ∨ (3 ≤ o ∧ o ≤ 12) ∨ (15 ≤ o ∧ o ≤ 24) ∨ (28 ≤ o ∧ o ≤ 64) := by
          rcases h with h | h | h | h
          · unfold qD at h
            omega
          · unfold qS at h
            omega
          · unfold qP at h
            omega
          · unfold qV at h
            omega
        have hno : ¬ (15 ≤ o ∧ o ≤ 24) := by
          rcases h with h | h | h | h
          · unfold qD at h
            omega
          · unfold qS at h
            omega
          · unfold qP at h
            omega
          · unfold qV at h
            omega
        refine zT_fr hT g1 ?_
        rcases hcases with q | q | q | q
        · exact z_ou (r := (64, 80)) (by decide +kernel) (by unfold w_key; show 64 ≤ _; omega) (by unfold w_key; show _ ≤ 80; omega)
        · exact z_ou (r := (12352, 53311)) (by decide +kernel) (by unfold w_key; show 12352 ≤ _; omega) (by unfold w_key; show _ ≤ 53311; omega)
        · exact absurd q hno
        · exact z_ou (r := (114752, 268000)) (by decide +kernel) (by unfold w_key; show 114752 ≤ _; omega) (by unfold w_key; show _ ≤ 268000; omega)
      exact y_iret rfl ⟨⟨n, hT2, Or.inl ⟨a2, an⟩, Or.inl ⟨a2, a3⟩, f2, e11, _, rfl⟩, x, tq, hu1, ⟨(e15 27 8 (by omega)).trans hu8.symm, (e15 27 9 (by omega)).trans hu9.symm⟩, Or.inl ⟨hx0, rfl, keep, e16.trans (y_fr66 g1 (by decide +kernel))⟩⟩
    have hV2 := y_VT hT2
    refine y_run 2 rfl ?_
    show y_W g_sh g_ts d g_t57 (z3_Q 17 s) 30 ((1, .inl x) :: [(0, .inr (.inr 2))]) [.inr (.inr (s2.2.2 0 3))] s2
    rw [a3]
    refine y_run 1 rfl ?_
    refine y_sub (ls1 := [(0, .inr (.inr 2)), (2, .inr (.inr 17))]) (show ([0, 2] : List Nat).Nodup by decide) (y_R_cons rfl (y_R_cons rfl y_R_nil)) ?_
    have t3 := y_Tupr (o := 0) (k := 2) (m := 17) (l := [5, 17]) (y_Tupr (o := 0) (k := 3) (m := 5) (l := [5, 17]) (y_t0 hT2) rfl rfl (by decide +kernel) (by decide)) rfl rfl (by decide +kernel) (by decide)
    have f3 := (f2.up (o := 0) (k := 3) (v := .inr (.inr 5)) rfl (by decide +kernel)).up (o := 0) (k := 2) (v := .inr (.inr 17)) rfl (by decide +kernel)
    have g3 : (y_up (y_up s2 0 3 (.inr (.inr 5))) 0 2 (.inr (.inr 17))).1 = s2.1 := rfl
    have b2 : (y_up (y_up s2 0 3 (.inr (.inr 5))) 0 2 (.inr (.inr 17))).2.2 0 2 = 17 := rfl
    have b3 : (y_up (y_up s2 0 3 (.inr (.inr 5))) 0 2 (.inr (.inr 17))).2.2 0 3 = 5 := rfl
    refine y_run 3 rfl ?_
    show y_W g_sh g_ts d g_t57 (z3_Q 17 s) 36 [(0, .inr (.inr 2)), (2, .inr (.inr 17))] [.inr (.inr (s2.2.2 0 2)), .inr (.inr 2)] s2
    rw [a2]
    refine y_run 4 rfl ?_
    show y_W g_sh g_ts d g_t57 (z3_Q 17 s) 44 [(0, .inr (.inr 2)), (2, .inr (.inr 17))] [] (y_up (y_up s2 0 3 (.inr (.inr 5))) 0 2 (.inr (.inr 17)))
    revert t3 f3 g3 b2 b3
    generalize y_up (y_up s2 0 3 (.inr (.inr 5))) 0 2 (.inr (.inr 17)) = s3
    intro t3 f3 g3 b2 b3
    refine y_run 4 rfl ?_
    show y_W g_sh g_ts d g_t57 (z3_Q 17 s) 52 [(0, .inr (.inr 2)), (2, .inr (.inr 17))] [.inr (.inr (s3.2.2 0 2)), .inr (.inr 30)] s3
    rw [b2]
    refine y_call (z_call y_beginF17 (by decide)) 1 rfl (fun _ _ _ => rfl) (a := [.inr (.inr 30), .inr (.inr 17)]) rfl rfl (fun h hR => y_mayV (o := 28) (sz := 10) rfl hR) (by omega) ⟨t3, rfl⟩ (fun v s4 hQ => ?_)
    obtain ⟨⟨rfl, t4, f4, e28, hln⟩, tb, htb, hzb⟩ := hQ
    obtain ⟨tb2, nb1, nb2, nb3⟩ := c_begin (W := 17) (by omega) (uP s3)
    rw [nb1] at htb
    have etb : tb2 = tb := congrArg Prod.snd (Option.some.inj htb)
    subst etb
    have nb4 : ∀ o k, qS o k → s4.1 o k = tb2.1 o k := fun o k h => (zT_A (qS_T h) hzb).symm
    have td4 : ∀ o k, qD 17 o k → s4.1 o k = s3.1 o k := fun o k h => by
      rw [← zT_A (qD_T (by omega) h) hzb]
      exact nb3.i (fun q => by unfold qD at h; have q1 : 28 ≤ o := q.1; omega)
    refine y_run 4 rfl ?_
    refine y_call y_restartF 1 rfl (fun _ _ _ => rfl) (a := [.inr (.inr 35), .inr (.inr 30)]) rfl rfl (fun h hR => y_mayV (o := 33) (sz := 4) rfl hR) (by omega) ⟨t4, rfl⟩ (fun v s5 hQ => ?_)
    obtain ⟨rfl, t5, f5, u5, ⟨r1, r2, r3⟩, hrow⟩ := hQ
    have t6 := y_Tup0 (lo := 2147483648) (hi := 2147483655) (o := 0) (k := 14) (x := Int32.ofInt 0) (y_Tup0 (lo := 2147483648) (hi := 2147483655) (o := 0) (k := 7) (x := Int32.ofInt 0) t5 rfl rfl (show _ ≤ (0 : Int) by omega) (show (0 : Int) ≤ _ by omega)) rfl rfl (show _ ≤ (0 : Int) by omega) (show (0 : Int) ≤ _ by omega)
    have F5 := (f3.tr (f4.mono (by decide +kernel))).tr (f5.mono (by decide +kernel))
    have f6 := ((y_fr.rf (sh := g_sh) (ms := y_quKC) (s := s5)).up (o := 0) (k := 7) (v := .inl (Int32.ofInt 0)) rfl (by decide +kernel)).up (o := 0) (k := 14) (v := .inl (Int32.ofInt 0)) rfl (by decide +kernel)
    have u6 : ∀ o k, ¬ (o = 0 ∧ k = 7) → ¬ (o = 0 ∧ k = 14) → (y_up (y_up s5 0 7 (.inl (Int32.ofInt 0))) 0 14 (.inl (Int32.ofInt 0))).1 o k = s5.1 o k := fun o k h1 h2 => (y_up_ne h2).trans (y_up_ne h1)
    have z6 : (y_up (y_up s5 0 7 (.inl (Int32.ofInt 0))) 0 14 (.inl (Int32.ofInt 0))).1 0 7 = Int32.ofInt 0 := rfl
    have z7 : (y_up (y_up s5 0 7 (.inl (Int32.ofInt 0))) 0 14 (.inl (Int32.ofInt 0))).1 0 14 = Int32.ofInt 0 := rfl
    have c2 : (y_up (y_up s5 0 7 (.inl (Int32.ofInt 0))) 0 14 (.inl (Int32.ofInt 0))).2.2 0 2 = 17 := ((y_fr66 f5 (by decide +kernel)).trans (y_fr66 f4 (by decide +kernel))).trans b2
    have c3 : (y_up (y_up s5 0 7 (.inl (Int32.ofInt 0))) 0 14 (.inl (Int32.ofInt 0))).2.2 0 3 = 5 := ((y_fr67 f5 (by decide +kernel)).trans (y_fr67 f4 (by decide +kernel))).trans b3
    refine y_run 6 rfl ?_
    show y_W g_sh g_ts d g_t57 (z3_Q 17 s) 76 [(0, .inr (.inr 2)), (2, .inr (.inr 17))] [] (y_up (y_up s5 0 7 (.inl (Int32.ofInt 0))) 0 14 (.inl (Int32.ofInt 0)))
    revert t6 f6 u6 z6 z7 c2 c3
    generalize y_up (y_up s5 0 7 (.inl (Int32.ofInt 0))) 0 14 (.inl (Int32.ofInt 0)) = s6
    intro t6 f6 u6 z6 z7 c2 c3
    have F6 := F5.tr f6
    have eT : s4.1 15 4 = s3.1 15 4 := f4.at (o := 15) (k := 4) (A := w_n 0 7 0) rfl rfl (by decide +kernel)
    have rT := y_rng (lo := 2147483648) (hi := 2147483655) (g := 0) t3 (o := 15) (k := 4) rfl rfl
    obtain ⟨m, hm⟩ : ∃ m : Nat, (s3.1 15 4).toInt = (m : Int) := ⟨(s3.1 15 4).toInt.toNat, by omega⟩
    have hC : y_VC m s6.1 := by
      refine y_rs_VC2 (s := y_up (y_up s4 0 7 (.inl (Int32.ofInt 0))) 0 14 (.inl (Int32.ofInt 0))) (fun o k h1 h2 => ?_) (by rw [u6 33 1 (by omega) (by omega)]; exact r1) (by rw [u6 33 2 (by omega) (by omega)]; exact r2) (by rw [u6 33 3 (by omega) (by omega)]; exact r3) (fun k hk => ?_) (fun p hp h7 _ => ⟨p, h7, ?_, ?_⟩) (fun b hb hbit => ?_)
      · by_cases q1 : o = 0 ∧ k = 14
        · obtain ⟨rfl, rfl⟩ := q1
          rw [z7]
          rfl
        · by_cases q2 : o = 0 ∧ k = 7
          · obtain ⟨rfl, rfl⟩ := q2
            rw [z6]
            rfl
          · rw [u6 o k q2 q1, u5 o k h1 h2, y_up_ne q1, y_up_ne q2]
      · rw [u6 34 k (by omega) (by omega), hrow k hk]
        have hs := y_so_le k hk
        exact ((y_up_ne (by omega)).trans (y_up_ne (by omega))).symm
      · rw [y_up_ne (by omega), y_up_ne (by omega), e28, hm]
        omega
      · rw [y_up_ne (by omega), y_up_ne (by omega)]
        exact hln p h7
      · have hbit2 : y_bit (Int32.ofInt 0) b := hbit
        have : ∀ b, b < 3 → ¬ (Int32.ofInt 0).toInt.toNat / 2 ^ b % 2 = 1 := by decide
        exact absurd hbit2 (this b hb)
    have F36 := ((f4.mono (m2 := y_quKC) (by decide +kernel)).tr (f5.mono (by decide +kernel))).tr f6
    have hV3 : y_V1 n s3.1 := by rw [g3]; exact hV2
    obtain ⟨hF6, hM6⟩ := y_MF_fr F36 (by decide +kernel) hV3
    have hT6 : w_T (y_Vn m) g_sh (y_mk g_sh s6) := y_TV t6 ⟨hF6, hM6, hC⟩
    refine y_run 8 rfl ?_
    show y_W g_sh g_ts d g_t57 (z3_Q 17 s) 92 [(0, .inr (.inr 2)), (2, .inr (.inr 17))] [.inr (.inr 30), .inr (.inr (s6.2.2 0 2)), .inr (.inr 38), .inr (.inr 57)] s6
    rw [c2]
    refine y_callM (hsr m).2.2 (by simpa using (hsr m).2.1) 1 rfl (fun _ _ _ => rfl) (a := [.inr (.inr 57), .inr (.inr 38), .inr (.inr 17), .inr (.inr 30)]) rfl rfl (fun h hR => y_mayV (o := 55) (sz := 10) rfl hR) (by omega) hT6 ⟨⟨57, rfl, List.mem_cons_self⟩, ⟨38, rfl, List.mem_cons_self⟩, ⟨17, rfl, List.mem_cons_self⟩, ⟨30, rfl, List.mem_cons_self⟩, True.intro⟩ (fun v s7 hT7 hf7 hv7 => ?_)
    obtain ⟨q7, hq7, ho7⟩ := hv7
    have eq7 : q7 = ([], none, Ms m) := by simpa using hq7
    subst eq7
    have ev7 := y_ansV ho7
    subst ev7
    have g7 := hf7.mono (hsr m).1
    have z551 : s7.1 55 1 = 0 := by
      have hm7 := ho7.2.2
      rw [hMs m] at hm7
      have := y_pre (o := 55) (k := 1) (lo := 2147483648) (hi := 2147483648) hm7 List.mem_cons_self (by omega) rfl
      refine Int32.toInt_inj.mp ?_
      show _ = (0 : Int)
      omega
    have d2 : s7.2.2 0 2 = 17 := (y_fr66 g7 (by decide +kernel)).trans c2
    have d3 : s7.2.2 0 3 = 5 := (y_fr67 g7 (by decide +kernel)).trans c3
    have dn : (s7.1 15 4).toInt = (m : Int) := by
      rw [g7.at (o := 15) (k := 4) (A := w_n 0 7 0) rfl rfl (by decide +kernel), u6 15 4 (by omega) (by omega), u5 15 4 (by omega) (by omega), eT]
      exact hm
    have dz : (s7.1 1 1).toInt = 0 := by
      rw [g7.at (o := 1) (k := 1) (A := w_n 0 1600 0) rfl rfl (by decide +kernel), u6 1 1 (by omega) (by omega), u5 1 1 (by omega) (by omega), f4.at (o := 1) (k := 1) (A := w_n 0 1600 0) rfl rfl (by decide +kernel), g3]
      exact e11
    refine y_run 2 rfl ?_
    show y_W g_sh g_ts d g_t57 (z3_Q 17 s) 99 [(0, .inr (.inr 2)), (2, .inr (.inr 17))] [.inr (.inr (s7.2.2 0 2))] s7
    rw [d2]
    refine y_run 1 rfl ?_
    have hx0 : ¬ x = 0 := by
      intro e
      have h2 : x.toInt ≠ 0 := h
      exact h2 (by rw [e]; rfl)
    have w7 : ∀ o k, (qD 17 o k ∨ qS o k ∨ (o = 33 ∧ (k = 1 ∨ k = 2 ∨ k = 3)) ∨ (o = 34 ∧ k < 24)) → s7.1 o k = s5.1 o k := by
      intro o k h
      have hT : zT o k := by
        rcases h with h | h | h | h
        · exact qD_T (by omega) h
        · exact qS_T h
        · exact qP_T (Or.inl h)
        · exact qP_T (Or.inr (Or.inl ⟨h.1, by omega⟩))
      have hb : (15 ≤ o ∧ o ≤ 24 ∧ k < 300) ∨ (28 ≤ o ∧ o ≤ 34 ∧ k < 30) := by
        rcases h with h | h | h | h
        · unfold qD at h
          omega
        · unfold qS at h
          omega
        · omega
        · omega
      have hn : w_inm y_srK17 (w_key o k) = false := by
        rcases hb with q | q
        · exact z_ou (r := (61504, 102400)) (by decide +kernel) (by unfold w_key; show 61504 ≤ _; omega) (by unfold w_key; show _ ≤ 102400; omega)
        · exact z_ou (r := (114752, 140000)) (by decide +kernel) (by unfold w_key; show 114752 ≤ _; omega) (by unfold w_key; show _ ≤ 140000; omega)
      rw [zT_fr hT g7 hn]
      exact u6 o k (by omega) (by omega)
    have w5 : ∀ o k, (qD 17 o k ∨ qS o k) → s7.1 o k = s4.1 o k := by
      intro o k h
      have h33 : o ≠ 33 ∧ o ≠ 34 := by
        rcases h with h | h
        · unfold qD at h
          omega
        · unfold qS at h
          omega
      rw [w7 o k (by rcases h with h | h; exact Or.inl h; exact Or.inr (Or.inl h))]
      exact u5 o k h33.1 h33.2
    have wD : ∀ o k, qD 17 o k → s7.1 o k = tq.1 o k := by
      intro o k h
      have h11 : ¬ (o = 1 ∧ k = 1) := by
        unfold qD at h
        omega
      rw [w5 o k (Or.inl h), td4 o k h, g3, e15 o k h11]
      exact (zT_A (qD_T (by omega) h) hu2).symm
    have h3q : ∀ o k, qD 17 o k → s3.1 o k = tq.1 o k := by
      intro o k h
      have h11 : ¬ (o = 1 ∧ k = 1) := by
        unfold qD at h
        omega
      rw [g3, e15 o k h11]
      exact (zT_A (qD_T (by omega) h) hu2).symm
    have wB : nB s7.1 (tq.1 (17 - 2) 4) (tq.1 (17 - 2) 12) := by
      have b4 : (uP s3).1 (17 - 2) 4 = tq.1 (17 - 2) 4 := h3q _ 4 (by unfold qD; omega)
      have b12 : (uP s3).1 (17 - 2) 12 = tq.1 (17 - 2) 12 := h3q _ 12 (by unfold qD; omega)
      rw [b4, b12] at nb2
      have e : ∀ o k, qS o k → s7.1 o k = tb2.1 o k := fun o k h => (w5 o k (Or.inr h)).trans (nb4 o k h)
      obtain ⟨⟨n1, n2, n3, n4, n5, n6⟩, n7, n8⟩ := nb2
      refine ⟨⟨?_, ?_, ?_, ?_, ?_, ?_⟩, fun k hk => ?_, fun k hk => ?_⟩
      · rw [e 28 1 (by unfold qS; omega)]; exact n1
      · rw [e 28 3 (by unfold qS; omega)]; exact n2
      · rw [e 28 6 (by unfold qS; omega)]; exact n3
      · rw [e 28 7 (by unfold qS; omega)]; exact n4
      · rw [e 28 8 (by unfold qS; omega)]; exact n5
      · rw [e 28 9 (by unfold qS; omega)]; exact n6
      · rw [e 29 k (by unfold qS; omega), e 30 k (by unfold qS; omega)]; exact n7 k hk
      · rw [e 31 k (by unfold qS; omega), e 32 k (by unfold qS; omega)]; exact n8 k hk
    have wP : (s7.1 33 1).toInt = 0 ∧ (s7.1 33 2).toInt = 0 ∧ (s7.1 33 3).toInt = 0 ∧ ∀ k, k < 24 → s7.1 34 k = y_srow s7 k := by
      refine ⟨?_, ?_, ?_, fun k hk => ?_⟩
      · rw [w7 33 1 (Or.inr (Or.inr (Or.inl ⟨rfl, by omega⟩)))]; exact r1
      · rw [w7 33 2 (Or.inr (Or.inr (Or.inl ⟨rfl, by omega⟩)))]; exact r2
      · rw [w7 33 3 (Or.inr (Or.inr (Or.inl ⟨rfl, by omega⟩)))]; exact r3
      · rw [w7 34 k (Or.inr (Or.inr (Or.inr ⟨rfl, hk⟩))), hrow k hk]
        have hs : qS (y_so k).1 (y_so k).2 := qS_so k hk
        exact (w5 _ _ (Or.inr hs)).symm
    have w0 : s7.1 0 7 = 0 ∧ s7.1 0 14 = 0 := by
      refine ⟨?_, ?_⟩
      · exact (g7.at (o := 0) (k := 7) rfl rfl (by decide +kernel)).trans z6
      · exact (g7.at (o := 0) (k := 14) rfl rfl (by decide +kernel)).trans z7
    have wt : s7.1 55 0 = s.1 55 0 := by
      rw [g7.at (o := 55) (k := 0) rfl rfl (by decide +kernel), u6 55 0 (by omega) (by omega), u5 55 0 (by omega) (by omega), f4.at (o := 55) (k := 0) rfl rfl (by decide +kernel), g3, e15 55 0 (by omega), g1.at (o := 55) (k := 0) rfl rfl (by decide +kernel)]
    have e7 : s7.1 15 4 = tq.1 15 4 := wD 15 4 (by unfold qD; omega)
    have e8 : s7.1 27 8 = tq.1 27 8 := by
      rw [g7.at (o := 27) (k := 8) rfl rfl (by decide +kernel), u6 27 8 (by omega) (by omega), u5 27 8 (by omega) (by omega), f4.at (o := 27) (k := 8) rfl rfl (by decide +kernel), g3, e15 27 8 (by omega), hu8]
    have e9 : s7.1 27 9 = tq.1 27 9 := by
      rw [g7.at (o := 27) (k := 9) rfl rfl (by decide +kernel), u6 27 9 (by omega) (by omega), u5 27 9 (by omega) (by omega), f4.at (o := 27) (k := 9) rfl rfl (by decide +kernel), g3, e15 27 9 (by omega), hu9]
    exact y_iret rfl ⟨⟨m, hT7, Or.inr ⟨d2, dn⟩, Or.inr ⟨d2, d3⟩, F6.tr (g7.mono (by decide +kernel)), dz, _, rfl⟩, x, tq, hu1, ⟨e8, e9⟩, Or.inr ⟨hx0, congrArg (fun z => some (Sum.inl z)) e7, wD, wB, wP, w0.1, w0.2, z551, wt, d2⟩⟩
  obtain ⟨q, hq2, ho⟩ := hv
  have eq : q = ([], some (w_n 0 0 0), M0) ∨ q = ([], some (w_n 1 1 0), M1) := by simpa using hq2
  rcases eq with rfl | rfl
  · obtain ⟨z, rfl, z1, z2⟩ := y_ans ho
    exact key z (Or.inl (by omega)) ht1
  · obtain ⟨z, rfl, z1, z2⟩ := y_ans ho
    exact key z (Or.inr (by omega)) ht1
theorem z3_quay17 {n : Nat} {Kr : List (Nat × Nat)} {M0 M1 : w_U} {Ks : Nat → List (Nat × Nat)} {Ms : Nat → w_U} (hrd : y_eRdI (y_Vn n) 5 Kr y_rdK5 M0 M1) (hsr : ∀ m, y_eSiR (y_Vn m) 5 (Ks m) y_srK5 (Ms m)) (hMs : ∀ m, Ms m = [(225345, w_n 0 0 0)]) {d : Nat} {s : y_H} (hd : 72 ≤ d) (hT : w_T (y_Vn n) g_sh (y_mk g_sh s)) (hr2 : s.2.2 0 2 = 17) (hr3 : s.2.2 0 3 = 5) (hn : (s.1 15 4).toInt = (n : Int)) : y_W g_sh g_ts d g_t57 (z3_Q 5 s) 0 [(0, .inr (.inr 2))] [] s := by
  obtain ⟨i1, i2, hE⟩ := hrd
  refine y_run 4 rfl ?_
  show y_W g_sh g_ts d g_t57 (z3_Q 5 s) 8 [(0, .inr (.inr 2))] [.inr (.inr (s.2.2 0 3)), .inr (.inr 29)] s
  rw [hr3]
  refine z_callM (by decide) hE (by simpa [Bool.and_eq_true] using i2) 1 rfl (fun _ _ _ => rfl) (a := [.inr (.inr 29), .inr (.inr 5)]) rfl rfl (fun h hR => y_mayV (o := 27) (sz := 10) rfl hR) (by omega) hT ⟨⟨29, rfl, List.mem_cons_self⟩, ⟨5, rfl, List.mem_cons_self⟩, True.intro⟩ (fun v s1 hT1 hf1 hv ht1 => ?_)
  have g1 := hf1.mono i1
  have key : ∀ x : Int32, x.toInt = 0 ∨ x.toInt = 1 → (∃ t, u_c 115 [.inr (.inr 29), .inr (.inr 5)] (uP s) = some (some (.inl x), t) ∧ zA t s1) → y_W g_sh g_ts d g_t57 (z3_Q 5 s) 11 [(0, .inr (.inr 2))] [.inl x] s1 := by
    intro x hx hu
    obtain ⟨tq, hu1, hu2⟩ := hu
    have hu8 : tq.1 27 8 = s1.1 27 8 := hu2.i (o := 27) (k := 8) rfl (by decide) rfl
    have hu9 : tq.1 27 9 = s1.1 27 9 := hu2.i (o := 27) (k := 9) rfl (by decide) rfl
    have hT2 := y_Tup (lo := 2147483648) (hi := 2147485248) (g := 0) (o := 1) (k := 1) (x := Int32.ofInt 0) hT1 rfl rfl (by decide +kernel) (show _ ≤ (0 : Int) by omega) (show (0 : Int) ≤ _ by omega)
    have f2 := (g1.mono (m2 := y_quKC) (by decide +kernel)).up (o := 1) (k := 1) (v := .inl (Int32.ofInt 0)) rfl (by decide +kernel)
    have e15 : ∀ o k, ¬ (o = 1 ∧ k = 1) → (y_up s1 1 1 (.inl (Int32.ofInt 0))).1 o k = s1.1 o k := fun o k h => y_up_ne h
    have e16 : (y_up s1 1 1 (.inl (Int32.ofInt 0))).2.2 0 2 = s1.2.2 0 2 := rfl
    have e11 : ((y_up s1 1 1 (.inl (Int32.ofInt 0))).1 1 1).toInt = 0 := rfl
    have a2 : (y_up s1 1 1 (.inl (Int32.ofInt 0))).2.2 0 2 = 17 := (y_fr66 g1 (by decide +kernel)).trans hr2
    have a3 : (y_up s1 1 1 (.inl (Int32.ofInt 0))).2.2 0 3 = 5 := (y_fr67 g1 (by decide +kernel)).trans hr3
    have an : ((y_up s1 1 1 (.inl (Int32.ofInt 0))).1 15 4).toInt = (n : Int) := by
      rw [y_up_ne (by omega), g1.at (o := 15) (k := 4) (A := w_n 0 7 0) rfl rfl (by decide +kernel)]
      exact hn
    refine y_run 5 rfl ?_
    show y_W g_sh g_ts d g_t57 (z3_Q 5 s) 20 ((1, .inl x) :: [(0, .inr (.inr 2))]) [] (y_up s1 1 1 (.inl (Int32.ofInt 0)))
    revert hT2 f2 e15 e16 e11 a2 a3 an
    generalize y_up s1 1 1 (.inl (Int32.ofInt 0)) = s2
    intro hT2 f2 e15 e16 e11 a2 a3 an
    refine y_run 1 rfl ?_
    refine y_if rfl (fun h => ?_) (fun h => ?_)
    rotate_left
    · refine y_run 1 rfl ?_
      have hx0 : x = 0 := by
        have h2 : ¬ x.toInt ≠ 0 := h
        have h3 : x.toInt = 0 := by omega
        exact Int32.toInt_inj.mp h3
      have keep : ∀ o k, (qD 17 o k ∨ qS o k ∨ qP o k ∨ qV o k) → s2.1 o k = s.1 o k := by
        intro o k h
        have hT : zT o k := by
          rcases h with h | h | h | h
          · exact qD_T (by omega) h
          · exact qS_T h
          · exact qP_T h
          · exact qV_T h
        have hk4 : k < 1000 := by
          rcases h with h | h | h | h
          · unfold qD at h
            omega
          · unfold qS at h
            omega
          · unfold qP at h
            omega
          · unfold qV at h
            omega
        have h11 : ¬ (o = 1 ∧ k = 1) := by
          rcases h with h | h | h | h
          · unfold qD at h
            omega
          · unfold qS at h
            omega
          · unfold qP at h
            omega
          · unfold qV at h
            omega
        rw [e15 o k h11]
        have hcases : (o = 0 ∧ k < 15) ∨ (3 ≤ o ∧ o ≤ 12) ∨ (15 ≤ o ∧ o ≤ 24) ∨ (28 ≤ o ∧ o ≤ 64) := by
          rcases h with h | h | h | h
          · unfold qD at h
            omega
          · unfold qS at h
            omega
          · unfold qP at h
            omega
          · unfold qV at h
            omega
        have hno : ¬ (3 ≤ o ∧ o ≤ 12) := by
          rcases h with h | h | h | h
          · unfold qD at h
            omega
          · unfold qS at h
            omega
          · unfold qP at h
            omega
          · unfold qV at h
            omega
        refine zT_fr hT g1 ?_
        rcases hcases with q | q | q | q
        · exact z_ou (r := (64, 80)) (by decide +kernel) (by unfold w_key; show 64 ≤ _; omega) (by unfold w_key; show _ ≤ 80; omega)
        · exact absurd q hno
        · exact z_ou (r := (61504, 102463)) (by decide +kernel) (by unfold w_key; show 61504 ≤ _; omega) (by unfold w_key; show _ ≤ 102463; omega)
        · exact z_ou (r := (114752, 268000)) (by decide +kernel) (by unfold w_key; show 114752 ≤ _; omega) (by unfold w_key; show _ ≤ 268000; omega)
      exact y_iret rfl ⟨⟨n, hT2, Or.inr ⟨a2, an⟩, Or.inr ⟨a2, a3⟩, f2, e11, _, rfl⟩, x, tq, hu1, ⟨(e15 27 8 (by omega)).trans hu8.symm, (e15 27 9 (by omega)).trans hu9.symm⟩, Or.inl ⟨hx0, rfl, keep, e16.trans (y_fr66 g1 (by decide +kernel))⟩⟩
    have hV2 := y_VT hT2
    refine y_run 2 rfl ?_
    show y_W g_sh g_ts d g_t57 (z3_Q 5 s) 30 ((1, .inl x) :: [(0, .inr (.inr 2))]) [.inr (.inr (s2.2.2 0 3))] s2
    rw [a3]
    refine y_run 1 rfl ?_
    refine y_sub (ls1 := [(0, .inr (.inr 2)), (2, .inr (.inr 5))]) (show ([0, 2] : List Nat).Nodup by decide) (y_R_cons rfl (y_R_cons rfl y_R_nil)) ?_
    have t3 := y_Tupr (o := 0) (k := 2) (m := 5) (l := [5, 17]) (y_Tupr (o := 0) (k := 3) (m := 17) (l := [5, 17]) (y_t0 hT2) rfl rfl (by decide +kernel) (by decide)) rfl rfl (by decide +kernel) (by decide)
    have f3 := (f2.up (o := 0) (k := 3) (v := .inr (.inr 17)) rfl (by decide +kernel)).up (o := 0) (k := 2) (v := .inr (.inr 5)) rfl (by decide +kernel)
    have g3 : (y_up (y_up s2 0 3 (.inr (.inr 17))) 0 2 (.inr (.inr 5))).1 = s2.1 := rfl
    have b2 : (y_up (y_up s2 0 3 (.inr (.inr 17))) 0 2 (.inr (.inr 5))).2.2 0 2 = 5 := rfl
    have b3 : (y_up (y_up s2 0 3 (.inr (.inr 17))) 0 2 (.inr (.inr 5))).2.2 0 3 = 17 := rfl
    refine y_run 3 rfl ?_
    show y_W g_sh g_ts d g_t57 (z3_Q 5 s) 36 [(0, .inr (.inr 2)), (2, .inr (.inr 5))] [.inr (.inr (s2.2.2 0 2)), .inr (.inr 2)] s2
    rw [a2]
    refine y_run 4 rfl ?_
    show y_W g_sh g_ts d g_t57 (z3_Q 5 s) 44 [(0, .inr (.inr 2)), (2, .inr (.inr 5))] [] (y_up (y_up s2 0 3 (.inr (.inr 17))) 0 2 (.inr (.inr 5)))
    revert t3 f3 g3 b2 b3
    generalize y_up (y_up s2 0 3 (.inr (.inr 17))) 0 2 (.inr (.inr 5)) = s3
    intro t3 f3 g3 b2 b3
    refine y_run 4 rfl ?_
    show y_W g_sh g_ts d g_t57 (z3_Q 5 s) 52 [(0, .inr (.inr 2)), (2, .inr (.inr 5))] [.inr (.inr (s3.2.2 0 2)), .inr (.inr 30)] s3
    rw [b2]
    refine y_call (z_call y_beginF5 (by decide)) 1 rfl (fun _ _ _ => rfl) (a := [.inr (.inr 30), .inr (.inr 5)]) rfl rfl (fun h hR => y_mayV (o := 28) (sz := 10) rfl hR) (by omega) ⟨t3, rfl⟩ (fun v s4 hQ => ?_)
    obtain ⟨⟨rfl, t4, f4, e28, hln⟩, tb, htb, hzb⟩ := hQ
    obtain ⟨tb2, nb1, nb2, nb3⟩ := c_begin (W := 5) (by omega) (uP s3)
    rw [nb1] at htb
    have etb : tb2 = tb := congrArg Prod.snd (Option.some.inj htb)
    subst etb
    have nb4 : ∀ o k, qS o k → s4.1 o k = tb2.1 o k := fun o k h => (zT_A (qS_T h) hzb).symm
    have td4 : ∀ o k, qD 5 o k → s4.1 o k = s3.1 o k := fun o k h => by
      rw [← zT_A (qD_T (by omega) h) hzb]
      exact nb3.i (fun q => by unfold qD at h; have q1 : 28 ≤ o := q.1; omega)
    refine y_run 4 rfl ?_
    refine y_call y_restartF 1 rfl (fun _ _ _ => rfl) (a := [.inr (.inr 35), .inr (.inr 30)]) rfl rfl (fun h hR => y_mayV (o := 33) (sz := 4) rfl hR) (by omega) ⟨t4, rfl⟩ (fun v s5 hQ => ?_)
    obtain ⟨rfl, t5, f5, u5, ⟨r1, r2, r3⟩, hrow⟩ := hQ
    have t6 := y_Tup0 (lo := 2147483648) (hi := 2147483655) (o := 0) (k := 14) (x := Int32.ofInt 0) (y_Tup0 (lo := 2147483648) (hi := 2147483655) (o := 0) (k := 7) (x := Int32.ofInt 0) t5 rfl rfl (show _ ≤ (0 : Int) by omega) (show (0 : Int) ≤ _ by omega)) rfl rfl (show _ ≤ (0 : Int) by omega) (show (0 : Int) ≤ _ by omega)
    have F5 := (f3.tr (f4.mono (by decide +kernel))).tr (f5.mono (by decide +kernel))
    have f6 := ((y_fr.rf (sh := g_sh) (ms := y_quKC) (s := s5)).up (o := 0) (k := 7) (v := .inl (Int32.ofInt 0)) rfl (by decide +kernel)).up (o := 0) (k := 14) (v := .inl (Int32.ofInt 0)) rfl (by decide +kernel)
    have u6 : ∀ o k, ¬ (o = 0 ∧ k = 7) → ¬ (o = 0 ∧ k = 14) → (y_up (y_up s5 0 7 (.inl (Int32.ofInt 0))) 0 14 (.inl (Int32.ofInt 0))).1 o k = s5.1 o k := fun o k h1 h2 => (y_up_ne h2).trans (y_up_ne h1)
    have z6 : (y_up (y_up s5 0 7 (.inl (Int32.ofInt 0))) 0 14 (.inl (Int32.ofInt 0))).1 0 7 = Int32.ofInt 0 := rfl
    have z7 : (y_up (y_up s5 0 7 (.inl (Int32.ofInt 0))) 0 14 (.inl (Int32.ofInt 0))).1 0 14 = Int32.ofInt 0 := rfl
    have c2 : (y_up (y_up s5 0 7 (.inl (Int32.ofInt 0))) 0 14 (.inl (Int32.ofInt 0))).2.2 0 2 = 5 := ((y_fr66 f5 (by decide +kernel)).trans (y_fr66 f4 (by decide +kernel))).trans b2
    have c3 : (y_up (y_up s5 0 7 (.inl (Int32.ofInt 0))) 0 14 (.inl (Int32.ofInt 0))).2.2 0 3 = 17 := ((y_fr67 f5 (by decide +kernel)).trans (y_fr67 f4 (by decide +kernel))).trans b3
    refine y_run 6 rfl ?_
    show y_W g_sh g_ts d g_t57 (z3_Q 5 s) 76 [(0, .inr (.inr 2)), (2, .inr (.inr 5))] [] (y_up (y_up s5 0 7 (.inl (Int32.ofInt 0))) 0 14 (.inl (Int32.ofInt 0)))
    revert t6 f6 u6 z6 z7 c2 c3
    generalize y_up (y_up s5 0 7 (.inl (Int32.ofInt 0))) 0 14 (.inl (Int32.ofInt 0)) = s6
    intro t6 f6 u6 z6 z7 c2 c3
    have F6 := F5.tr f6
    have eT : s4.1 3 4 = s3.1 3 4 := f4.at (o := 3) (k := 4) (A := w_n 0 7 0) rfl rfl (by decide +kernel)
    have rT := y_rng (lo := 2147483648) (hi := 2147483655) (g := 0) t3 (o := 3) (k := 4) rfl rfl
    obtain ⟨m, hm⟩ : ∃ m : Nat, (s3.1 3 4).toInt = (m : Int) := ⟨(s3.1 3 4).toInt.toNat, by omega⟩
    have hC : y_VC m s6.1 := by
      refine y_rs_VC2 (s := y_up (y_up s4 0 7 (.inl (Int32.ofInt 0))) 0 14 (.inl (Int32.ofInt 0))) (fun o k h1 h2 => ?_) (by rw [u6 33 1 (by omega) (by omega)]; exact r1) (by rw [u6 33 2 (by omega) (by omega)]; exact r2) (by rw [u6 33 3 (by omega) (by omega)]; exact r3) (fun k hk => ?_) (fun p hp h7 _ => ⟨p, h7, ?_, ?_⟩) (fun b hb hbit => ?_)
      · by_cases q1 : o = 0 ∧ k = 14
        · obtain ⟨rfl, rfl⟩ := q1
          rw [z7]
          rfl
        · by_cases q2 : o = 0 ∧ k = 7
          · obtain ⟨rfl, rfl⟩ := q2
            rw [z6]
            rfl
          · rw [u6 o k q2 q1, u5 o k h1 h2, y_up_ne q1, y_up_ne q2]
      · rw [u6 34 k (by omega) (by omega), hrow k hk]
        have hs := y_so_le k hk
        exact ((y_up_ne (by omega)).trans (y_up_ne (by omega))).symm
      · rw [y_up_ne (by omega), y_up_ne (by omega), e28, hm]
        omega
      · rw [y_up_ne (by omega), y_up_ne (by omega)]
        exact hln p h7
      · have hbit2 : y_bit (Int32.ofInt 0) b := hbit
        have : ∀ b, b < 3 → ¬ (Int32.ofInt 0).toInt.toNat / 2 ^ b % 2 = 1 := by decide
        exact absurd hbit2 (this b hb)
    have F36 := ((f4.mono (m2 := y_quKC) (by decide +kernel)).tr (f5.mono (by decide +kernel))).tr f6
    have hV3 : y_V1 n s3.1 := by rw [g3]; exact hV2
    obtain ⟨hF6, hM6⟩ := y_MF_fr F36 (by decide +kernel) hV3
    have hT6 : w_T (y_Vn m) g_sh (y_mk g_sh s6) := y_TV t6 ⟨hF6, hM6, hC⟩
    refine y_run 8 rfl ?_
    show y_W g_sh g_ts d g_t57 (z3_Q 5 s) 92 [(0, .inr (.inr 2)), (2, .inr (.inr 5))] [.inr (.inr 30), .inr (.inr (s6.2.2 0 2)), .inr (.inr 38), .inr (.inr 57)] s6
    rw [c2]
    refine y_callM (hsr m).2.2 (by simpa using (hsr m).2.1) 1 rfl (fun _ _ _ => rfl) (a := [.inr (.inr 57), .inr (.inr 38), .inr (.inr 5), .inr (.inr 30)]) rfl rfl (fun h hR => y_mayV (o := 55) (sz := 10) rfl hR) (by omega) hT6 ⟨⟨57, rfl, List.mem_cons_self⟩, ⟨38, rfl, List.mem_cons_self⟩, ⟨5, rfl, List.mem_cons_self⟩, ⟨30, rfl, List.mem_cons_self⟩, True.intro⟩ (fun v s7 hT7 hf7 hv7 => ?_)
    obtain ⟨q7, hq7, ho7⟩ := hv7
    have eq7 : q7 = ([], none, Ms m) := by simpa using hq7
    subst eq7
    have ev7 := y_ansV ho7
    subst ev7
    have g7 := hf7.mono (hsr m).1
    have z551 : s7.1 55 1 = 0 := by
      have hm7 := ho7.2.2
      rw [hMs m] at hm7
      have := y_pre (o := 55) (k := 1) (lo := 2147483648) (hi := 2147483648) hm7 List.mem_cons_self (by omega) rfl
      refine Int32.toInt_inj.mp ?_
      show _ = (0 : Int)
      omega
    have d2 : s7.2.2 0 2 = 5 := (y_fr66 g7 (by decide +kernel)).trans c2
    have d3 : s7.2.2 0 3 = 17 := (y_fr67 g7 (by decide +kernel)).trans c3
    have dn : (s7.1 3 4).toInt = (m : Int) := by
      rw [g7.at (o := 3) (k := 4) (A := w_n 0 7 0) rfl rfl (by decide +kernel), u6 3 4 (by omega) (by omega), u5 3 4 (by omega) (by omega), eT]
      exact hm
    have dz : (s7.1 1 1).toInt = 0 := by
      rw [g7.at (o := 1) (k := 1) (A := w_n 0 1600 0) rfl rfl (by decide +kernel), u6 1 1 (by omega) (by omega), u5 1 1 (by omega) (by omega), f4.at (o := 1) (k := 1) (A := w_n 0 1600 0) rfl rfl (by decide +kernel), g3]
      exact e11
    refine y_run 2 rfl ?_
    show y_W g_sh g_ts d g_t57 (z3_Q 5 s) 99 [(0, .inr (.inr 2)), (2, .inr (.inr 5))] [.inr (.inr (s7.2.2 0 2))] s7
    rw [d2]
    refine y_run 1 rfl ?_
    have hx0 : ¬ x = 0 := by
      intro e
      have h2 : x.toInt ≠ 0 := h
      exact h2 (by rw [e]; rfl)
    have w7 : ∀ o k, (qD 5 o k ∨ qS o k ∨ (o = 33 ∧ (k = 1 ∨ k = 2 ∨ k = 3)) ∨ (o = 34 ∧ k < 24)) → s7.1 o k = s5.1 o k := by
      intro o k h
      have hT : zT o k := by
        rcases h with h | h | h | h
        · exact qD_T (by omega) h
        · exact qS_T h
        · exact qP_T (Or.inl h)
        · exact qP_T (Or.inr (Or.inl ⟨h.1, by omega⟩))
      have hb : (3 ≤ o ∧ o ≤ 12 ∧ k < 300) ∨ (28 ≤ o ∧ o ≤ 34 ∧ k < 30) := by
        rcases h with h | h | h | h
        · unfold qD at h
          omega
        · unfold qS at h
          omega
        · omega
        · omega
      have hn : w_inm y_srK5 (w_key o k) = false := by
        rcases hb with q | q
        · exact z_ou (r := (12352, 53248)) (by decide +kernel) (by unfold w_key; show 12352 ≤ _; omega) (by unfold w_key; show _ ≤ 53248; omega)
        · exact z_ou (r := (114752, 140000)) (by decide +kernel) (by unfold w_key; show 114752 ≤ _; omega) (by unfold w_key; show _ ≤ 140000; omega)
      rw [zT_fr hT g7 hn]
      exact u6 o k (by omega) (by omega)
    have w5 : ∀ o k, (qD 5 o k ∨ qS o k) → s7.1 o k = s4.1 o k := by
      intro o k h
      have h33 : o ≠ 33 ∧ o ≠ 34 := by
        rcases h with h | h
        · unfold qD at h
          omega
        · unfold qS at h
          omega
      rw [w7 o k (by rcases h with h | h; exact Or.inl h; exact Or.inr (Or.inl h))]
      exact u5 o k h33.1 h33.2
    have wD : ∀ o k, qD 5 o k → s7.1 o k = tq.1 o k := by
      intro o k h
      have h11 : ¬ (o = 1 ∧ k = 1) := by
        unfold qD at h
        omega
      rw [w5 o k (Or.inl h), td4 o k h, g3, e15 o k h11]
      exact (zT_A (qD_T (by omega) h) hu2).symm
    have h3q : ∀ o k, qD 5 o k → s3.1 o k = tq.1 o k := by
      intro o k h
      have h11 : ¬ (o = 1 ∧ k = 1) := by
        unfold qD at h
        omega
      rw [g3, e15 o k h11]
      exact (zT_A (qD_T (by omega) h) hu2).symm
    have wB : nB s7.1 (tq.1 (5 - 2) 4) (tq.1 (5 - 2) 12) := by
      have b4 : (uP s3).1 (5 - 2) 4 = tq.1 (5 - 2) 4 := h3q _ 4 (by unfold qD; omega)
      have b12 : (uP s3).1 (5 - 2) 12 = tq.1 (5 - 2) 12 := h3q _ 12 (by unfold qD; omega)
      rw [b4, b12] at nb2
      have e : ∀ o k, qS o k → s7.1 o k = tb2.1 o k := fun o k h => (w5 o k (Or.inr h)).trans (nb4 o k h)
      obtain ⟨⟨n1, n2, n3, n4, n5, n6⟩, n7, n8⟩ := nb2
      refine ⟨⟨?_, ?_, ?_, ?_, ?_, ?_⟩, fun k hk => ?_, fun k hk => ?_⟩
      · rw [e 28 1 (by unfold qS; omega)]; exact n1
      · rw [e 28 3 (by unfold qS; omega)]; exact n2
      · rw [e 28 6 (by unfold qS; omega)]; exact n3
      · rw [e 28 7 (by unfold qS; omega)]; exact n4
      · rw [e 28 8 (by unfold qS; omega)]; exact n5
      · rw [e 28 9 (by unfold qS; omega)]; exact n6
      · rw [e 29 k (by unfold qS; omega), e 30 k (by unfold qS; omega)]; exact n7 k hk
      · rw [e 31 k (by unfold qS; omega), e 32 k (by unfold qS; omega)]; exact n8 k hk
    have wP : (s7.1 33 1).toInt = 0 ∧ (s7.1 33 2).toInt = 0 ∧ (s7.1 33 3).toInt = 0 ∧ ∀ k, k < 24 → s7.1 34 k = y_srow s7 k := by
      refine ⟨?_, ?_, ?_, fun k hk => ?_⟩
      · rw [w7 33 1 (Or.inr (Or.inr (Or.inl ⟨rfl, by omega⟩)))]; exact r1
      · rw [w7 33 2 (Or.inr (Or.inr (Or.inl ⟨rfl, by omega⟩)))]; exact r2
      · rw [w7 33 3 (Or.inr (Or.inr (Or.inl ⟨rfl, by omega⟩)))]; exact r3
      · rw [w7 34 k (Or.inr (Or.inr (Or.inr ⟨rfl, hk⟩))), hrow k hk]
        have hs : qS (y_so k).1 (y_so k).2 := qS_so k hk
        exact (w5 _ _ (Or.inr hs)).symm
    have w0 : s7.1 0 7 = 0 ∧ s7.1 0 14 = 0 := by
      refine ⟨?_, ?_⟩
      · exact (g7.at (o := 0) (k := 7) rfl rfl (by decide +kernel)).trans z6
      · exact (g7.at (o := 0) (k := 14) rfl rfl (by decide +kernel)).trans z7
    have wt : s7.1 55 0 = s.1 55 0 := by
      rw [g7.at (o := 55) (k := 0) rfl rfl (by decide +kernel), u6 55 0 (by omega) (by omega), u5 55 0 (by omega) (by omega), f4.at (o := 55) (k := 0) rfl rfl (by decide +kernel), g3, e15 55 0 (by omega), g1.at (o := 55) (k := 0) rfl rfl (by decide +kernel)]
    have e7 : s7.1 3 4 = tq.1 3 4 := wD 3 4 (by unfold qD; omega)
    have e8 : s7.1 27 8 = tq.1 27 8 := by
      rw [g7.at (o := 27) (k := 8) rfl rfl (by decide +kernel), u6 27 8 (by omega) (by omega), u5 27 8 (by omega) (by omega), f4.at (o := 27) (k := 8) rfl rfl (by decide +kernel), g3, e15 27 8 (by omega), hu8]
    have e9 : s7.1 27 9 = tq.1 27 9 := by
      rw [g7.at (o := 27) (k := 9) rfl rfl (by decide +kernel), u6 27 9 (by omega) (by omega), u5 27 9 (by omega) (by omega), f4.at (o := 27) (k := 9) rfl rfl (by decide +kernel), g3, e15 27 9 (by omega), hu9]
    exact y_iret rfl ⟨⟨m, hT7, Or.inl ⟨d2, dn⟩, Or.inl ⟨d2, d3⟩, F6.tr (g7.mono (by decide +kernel)), dz, _, rfl⟩, x, tq, hu1, ⟨e8, e9⟩, Or.inr ⟨hx0, congrArg (fun z => some (Sum.inl z)) e7, wD, wB, wP, w0.1, w0.2, z551, wt, d2⟩⟩
  obtain ⟨q, hq2, ho⟩ := hv
  have eq : q = ([], some (w_n 0 0 0), M0) ∨ q = ([], some (w_n 1 1 0), M1) := by simpa using hq2
  rcases eq with rfl | rfl
  · obtain ⟨z, rfl, z1, z2⟩ := y_ans ho
    exact key z (Or.inl (by omega)) ht1
  · obtain ⟨z, rfl, z1, z2⟩ := y_ans ho
    exact key z (Or.inr (by omega)) ht1
theorem z3_quayC {n : Nat} {K5 K17 : List (Nat × Nat)} {A0 A1 B0 B1 : w_U} {L5 L17 : Nat → List (Nat × Nat)} {M5 M17 : Nat → w_U} (h17 : y_eRdI (y_Vn n) 17 K17 y_rdK17 A0 A1) (h5 : y_eRdI (y_Vn n) 5 K5 y_rdK5 B0 B1) (s17 : ∀ m, y_eSiR (y_Vn m) 17 (L17 m) y_srK17 (M17 m)) (s5 : ∀ m, y_eSiR (y_Vn m) 5 (L5 m) y_srK5 (M5 m)) (hM17 : ∀ m, M17 m = [(225345, w_n 0 0 0)]) (hM5 : ∀ m, M5 m = [(225345, w_n 0 0 0)]) : y_C g_sh g_ts 57 73 (fun a s => w_T (y_Vn n) g_sh (y_mk g_sh s) ∧ y_Td n s ∧ y_Un s ∧ a = [.inr (.inr 2)]) (fun _ s v s2 => z3_Q (s.2.2 0 3) s v s2) := by
  refine y_C.of (t := g_t57) rfl (by decide) ?_
  rintro d a s hd ⟨hT, hD, hU, rfl⟩
  rcases hU with ⟨u1, u2⟩ | ⟨u1, u2⟩
  · rcases hD with ⟨d1, d2⟩ | ⟨d1, d2⟩
    · show y_W g_sh g_ts d g_t57 (z3_Q (s.2.2 0 3) s) 0 [(0, .inr (.inr 2))] [] s
      rw [u2]
      exact z3_quay5 h17 s17 hM17 (by omega) hT u1 u2 d2
    · omega
  · rcases hD with ⟨d1, d2⟩ | ⟨d1, d2⟩
    · omega
    · show y_W g_sh g_ts d g_t57 (z3_Q (s.2.2 0 3) s) 0 [(0, .inr (.inr 2))] [] s
      rw [u2]
      exact z3_quay17 h5 s5 hM5 (by omega) hT u1 u2 d2
