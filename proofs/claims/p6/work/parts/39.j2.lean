/-! by hand: the model's stepsUp: it ends; where all ships are gone the queue is empty behind it -/
/-- the keys that it writes: at rail R -/
def y_suK (R : Nat) : List (Nat × Nat) := [(299072, 299135), (303168, 303173), (352320, 352326), (352328, 352336), (352338 + R, 352338 + R), (352341 + R, 352341 + R), (352345, 352345), (352347, 352347), (368704, 368711)]
abbrev y_su0 : List (Nat × Nat) := [(352320, 352326), (352328, 352336), (352345, 352345)]
def y_suQ (V : w_V) (R : Nat) (tl : Bool) (s0 : y_H) (v : Option (q_V Int32)) (s2 : y_H) : Prop := v = none ∧ w_T V g_sh (y_mk g_sh s2) ∧ y_fr g_sh (y_suK R) s0 s2 ∧ (s2.1 86 8).toInt ≤ (s0.1 86 8).toInt ∧ (30000 ≤ (s0.1 86 26).toInt → (s2.1 86 8).toInt = 0 ∧ s2.1 86 (18 + R) = s0.1 86 (18 + R)) ∧ (tl = false → s2.1 86 27 = s0.1 86 27)
theorem y_suInc : ∀ R, R < 3 → y_inc y_su0 (y_suK R) = true := by decide +kernel
theorem y_suIncL : ∀ R, R < 3 → y_inc y_lm (y_suK R) = true := by decide +kernel
theorem y_suIncT : ∀ R, R < 3 → y_inc [(352320, 352326), (352328, 352328)] (y_suK R) = true := by decide +kernel
theorem y_suSt : ∀ R, R < 3 → ∀ j, j < 8 → w_inm (y_suK R) (w_key 86 (9 + j)) = true := by decide +kernel
theorem y_suRl : ∀ R, R < 3 → w_inm (y_suK R) (w_key 86 (18 + R)) = true ∧ w_inm (y_suK R) (w_key 86 (21 + R)) = true ∧ w_inm (y_suK R) (w_key 86 27) = true := by decide +kernel
theorem y_suSb : ∀ R, R < 3 → ∀ j, j < 8 → w_inm (y_suK R) (w_key 90 j) = true := by decide +kernel
theorem y_su0r : ∀ R, R < 3 → w_inm y_su0 (w_key 86 (18 + R)) = false := by decide +kernel
theorem y_adds {a b : Int32} {A B : Nat} (ha : a.toInt = (A : Int)) (hb : b.toInt = (B : Int)) (h : A + B < 1000000) : (a + b).toInt = ((A + B : Nat) : Int) := by
  rw [y_add (by omega) (by omega)]
  omega
abbrev y_eSails (V : w_V) : Prop := w_Ent V g_sh g_ts (291, [w_r 67, w_n 0 4 0], [], [], [([], some (w_n 0 20238 0), [])], 2)
abbrev y_eMiss (V : w_V) : Prop := w_Ent V g_sh g_ts (261, [w_r 67, w_n 0 7 0], [], [(352329, 352336), (352345, 352345)], [([], none, [])], 1)
abbrev y_eLen (V : w_V) : Prop := w_Ent V g_sh g_ts (250, [w_r 67, w_n 0 7 0, w_t 0], [], [(299072, 299135), (303168, 303173)], [([], some (w_n 1 60 0), [])], 3)
section SU
variable {V : w_V} {d : Nat} {R : Nat} {r b : Int32} {s0 : y_H}
/-- behind the queue: a pair p, for v minutes, at the rail -/
theorem y_su_end {tl : Bool} (hr : r.toInt = (R : Int)) (hR : R < 3) {s : y_H} {P : Nat} {p v : Int32} (hT : w_T V g_sh (y_mk g_sh s)) (hf : y_fr g_sh (y_suK R) s0 s) (hp : p.toInt = (P : Int)) (hP : P < 8) (hm : (s.1 86 8).toInt ≤ (s0.1 86 8).toInt) (hlate : ¬ 30000 ≤ (s0.1 86 26).toInt) (hsd : tl = false → s.1 86 27 = s0.1 86 27) : y_W g_sh g_ts d g_t304 (y_suQ V R tl s0) 123 [(0, .inr (.inr 67)), (1, .inl r), (3, .inl v), (4, .inl p)] [] s := by
  have e9 : ((Int8.ofInt 9).toInt32 + p).toInt = ((9 + P : Nat) : Int) := y_adds (A := 9) rfl hp (by omega)
  have e18 : ((Int8.ofInt 18).toInt32 + r).toInt = ((18 + R : Nat) : Int) := y_adds (A := 18) rfl hr (by omega)
  have e21 : ((Int8.ofInt 21).toInt32 + r).toInt = ((21 + R : Nat) : Int) := y_adds (A := 21) rfl hr (by omega)
  have hv := y_toIntB v
  refine y_run 6 rfl ?_
  refine y_ast86 (lo := 2147483648) (hi := 2147483652) hT rfl e9 (by omega) (y_airs P hP) (show (_ : Int) ≤ 1 by omega) (show (1 : Int) ≤ _ by omega) (fun hT2 => ?_)
  have hf2 := hf.up (o := 86) (k := 9 + P) (v := .inl (Int32.ofInt 1)) (y_airk _ (by omega)) (y_suSt R hR P hP)
  refine y_run 6 rfl ?_
  refine y_ast86 (lo := 2147483647) (hi := 2147483655) hT2 rfl e18 (by omega) (y_airr R hR) (by omega) (by omega) (fun hT3 => ?_)
  have hf3 := hf2.up (o := 86) (k := 18 + R) (v := .inl p) (y_airk _ (by omega)) (y_suRl R hR).1
  refine y_run 6 rfl ?_
  refine y_ast86 (lo := 0) (hi := 4294967295) hT3 rfl e21 (by omega) (y_airy R hR) (by omega) (by omega) (fun hT4 => ?_)
  have hf4 := hf3.up (o := 86) (k := 21 + R) (v := .inl v) (y_airk _ (by omega)) (y_suRl R hR).2.1
  refine y_run 5 rfl ?_
  have hkd : y_kd g_sh 90 P = 0 := y_kdA (tag := 100) (sz := 8) (a := ((0, 4294967295), 0)) rfl
  refine y_ast (o := 90) (sz := 8) (j := P) rfl rfl hp hP hkd ?_
  have hg := y_toIntB (s.1 65 62)
  refine y_vret rfl ⟨rfl, y_Tup (lo := 0) (hi := 4294967295) (g := 0) hT4 (y_tyA (tag := 100) (sz := 8) (A := .inl ((0, 4294967295), 0)) rfl hP) hkd (y_pkA (sz := 8) (by decide +kernel) hP) (by show _ ≤ (s.1 65 62).toInt; omega) (by show (s.1 65 62).toInt ≤ _; omega), hf4.up hkd (y_suSb R hR P hP), ?_, fun h => absurd h hlate, fun h => ?_⟩
  · rw [y_up_ne (by omega), y_up_ne (by omega), y_up_ne (by omega), y_up_ne (by omega)]
    exact hm
  · rw [y_up_ne (by omega), y_up_ne (by omega), y_up_ne (by omega), y_up_ne (by omega)]
    exact hsd h
end SU
