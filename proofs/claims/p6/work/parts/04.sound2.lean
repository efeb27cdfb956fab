section QS2
variable {p : Program} {l : Launch} {e : Env} {R : Room} {s : State} {m : MethodId} {args : Array Value} {below : List Frame} {meth : Method} {c : Code} {S b : Nat} {D : va_G} {cA : Nat → ClassId} {cl : List vw_C} {nL : Nat} {own : String} {cc : ByteArray} {Ts : List Cond}
variable {f f' : q_F Int32} {h h' : q_H Int32} {ns ns' : Nat}
theorem q_ws_le {H : Heap} (hP : va_P D cl (q_ws S b cA h) H) (hS : S ≤ H.size) : S + h.length ≤ H.size := by
  rcases Nat.eq_zero_or_pos h.length with h0 | h0
  · omega
  · have hl : h.length - 1 < h.length := by omega
    have h1 := (hP _ _ (q_ws_at (S := S) (b := b) (cA := cA) (List.getElem?_eq_getElem hl))).lt
    simp only at h1
    omega
theorem q_sz {H : Heap} {locs : List Loc} {cells slots : Nat} {Q : State → Prop} {g : JFrame} (hP : va_P D cl (q_ws S b cA h) H) (hS : va_S (fun q => S ≤ q) s.heap H locs) (hS0 : S ≤ s.heap.size) (hc : s.heap.size + cells = S + h.length) (k : H.size = S + h.length → W p l e R s m args below meth c H locs cells slots Q g) : W p l e R s m args below meth c H locs cells slots Q g := by
  intro T hT X
  refine k ?_ T hT X
  have h1 := X.heapSize
  rw [hT] at h1
  have h2 := q_ws_le hP (Nat.le_trans hS0 hS.1)
  omega
theorem q_s_getf (cx : q_CX p s m args c S D cA cl nL own cc Ts) {ci k idx len : Nat} {x : List Nat} {C : String} {T : u_T} {N : Nat} (hlen : len = 3) (hci : ci < 100) (hc : cl[ci]? = some (C, T, N)) (hk : k < N) (hcw : ∀ w ∈ u_ws C T N, w ∈ Ts) (hlk : Cond.fieldLink own idx (T k).1 (T k).2.1 (T k).2.2.1 ∈ Ts) (hdg : decode cc f.1 = .ok (.getfield idx, 3)) (hs : q_getf (ci :: k :: x) len f h ns = some (.inl (f', h', ns'))) : q_K p l e R s m args below meth c S b D cA cl nL f h ns f' h' ns' := by
  subst hlen
  unfold q_getf at hs
  split at hs
  next ci' k' x' o st he hv =>
    cases he
    split at hs
    next q hq =>
      cases hb : Nat.beq q.1 ci && Nat.blt k q.2.1 with
      | false => rw [hb] at hs; cases hs
      | true =>
        rw [hb, cond_true] at hs
        simp only [Bool.and_eq_true] at hb
        split at hs
        next v hat =>
          refine q_s_nx hs fun cells slots Q g H locs ls hz hP hS hl => ?_
          have hw := q_ws_at (S := S) (b := b) (cA := cA) hq
          have e1 : q.1 = ci := q_beq hb.1
          rw [show q_e S b cA q = .inr (ci, q_fs S b q.2.2 q.2.1) by unfold q_e; rw [e1, if_pos hci]] at hw
          rw [hv]
          exact va_get cx.1 cx.2.1 cx.2.2.2.2.1 hcw cx.2.2.2.1 cx.2.2.2.2.2.1 hP o hw hc k hk (cx.2.2.2.2.1 _ hlk) (fun _ q => q) (q_fs_at (q_blt hb.2) hat) hdg (g H locs ls hz hP hS hl)
        next => cases hs
    next => cases hs
  next => cases hs
def q_kd : FieldType → Nat
  | .boolean => 1
  | .long => 2
  | .object _ => 3
  | .array _ => 3
  | .int => 0
  | _ => 9
theorem q_fit_ok {ty : FieldType} {v : q_V Int32} (hf : q_fit q_O32 (q_kd ty) v = true) : narrow ty (q_ren S b v) = q_ren S b v ∧ fits ty (q_ren S b v) = true := by
  rcases v with x | y | n
  · cases ty <;> simp [q_fit, q_kd, Nat.beq] at hf
    · exact ⟨rfl, rfl⟩
    · rcases q_ib_spec hf with rfl | rfl
      · exact ⟨show Value.int ((0 : Int32) &&& 1) = Value.int 0 by decide, show ((0 : Int32) == 0 || (0 : Int32) == 1) = true by decide⟩
      · exact ⟨show Value.int ((1 : Int32) &&& 1) = Value.int 1 by decide, show ((1 : Int32) == 0 || (1 : Int32) == 1) = true by decide⟩
  · cases ty <;> simp [q_fit, q_kd, Nat.beq] at hf
    exact ⟨rfl, rfl⟩
  · cases ty <;> simp [q_fit, q_kd, Nat.beq] at hf <;> rcases n with _ | _ | n <;> exact ⟨rfl, rfl⟩
theorem q_s_putf (cx : q_CX p s m args c S D cA cl nL own cc Ts) {ci k kd idx len : Nat} {C : String} {T : u_T} {N : Nat} {ty0 : Nat → FieldType} (hlen : len = 3) (hci : ci < 100) (hc : cl[ci]? = some (C, T, N)) (hk : k < N) (hcw : ∀ w ∈ u_ws C T N, w ∈ Ts) (hty : ∀ k, k < N → parseFieldDescriptor (T k).2.2.1 = some (ty0 k)) (hnm : ∀ a, a < N → ∀ b, b < N → a ≠ b → (T a).2.1 ≠ (T b).2.1) (hkd : kd = q_kd (ty0 k)) (hfin : (T k).2.2.2 = false ∨ ((T k).2.2.2 = true ∧ meth.name = "<init>" ∧ (T k).1 = own)) (hlk : Cond.fieldLink own idx (T k).1 (T k).2.1 (T k).2.2.1 ∈ Ts) (hdg : decode cc f.1 = .ok (.putfield idx, 3)) (hs : q_putf q_O32 [ci, k, kd] len f h ns = some (.inl (f', h', ns'))) : q_K p l e R s m args below meth c S b D cA cl nL f h ns f' h' ns' := by
  subst hlen
  subst hkd
  unfold q_putf at hs
  split at hs
  next ci' k' kd' x' v o st he hv =>
    cases he
    split at hs
    next q hq =>
      cases hb : Nat.beq q.1 ci && (Nat.blt k q.2.1 && q_fit q_O32 (q_kd (ty0 k)) v) with
      | false => rw [hb] at hs; cases hs
      | true =>
        rw [hb, cond_true] at hs
        simp only [Bool.and_eq_true] at hb
        cases hs
        refine ⟨by rw [List.length_set]; exact Nat.le_refl _, Nat.le_refl _, fun cells slots Q hcz _ _ g H locs ls hz hP hS hl => ?_⟩
        have hw := q_ws_at (S := S) (b := b) (cA := cA) hq
        have e1 : q.1 = ci := q_beq hb.1
        have e2 : q_e S b cA (q.1, q.2.1, (k, v) :: q.2.2) = .inr (ci, (q_fs S b q.2.2 q.2.1).set k (q_ren S b v)) := by
          unfold q_e
          rw [e1, if_pos hci, q_fs_set]
        rw [show q_e S b cA q = .inr (ci, q_fs S b q.2.2 q.2.1) by unfold q_e; rw [e1, if_pos hci]] at hw
        obtain ⟨hn, hft⟩ := q_fit_ok (S := S) (b := b) hb.2.2
        rw [hv]
        have go : ∀ (H1 : Heap) (locs1 : List Loc), va_P D cl ((q_ws S b cA h).set o (S + o, .inr (ci, (q_fs S b q.2.2 q.2.1).set k (q_ren S b v)))) H1 → va_D (fun q => S ≤ q) ((q_ws S b cA h).set o (S + o, .inr (ci, (q_fs S b q.2.2 q.2.1).set k (q_ren S b v)))) → va_S (fun q => S ≤ q) s.heap H1 locs1 → W p l e R s m args below meth c H1 locs1 cells slots Q (F0 m (f.1 + 3) ls (st.map (q_ren S b))) := by
          intro H1 locs1 hP1 _ hS1
          rw [← e2, ← q_ws_set] at hP1
          refine q_sz hP1 hS1 cx.2.2.2.2.2.2.1 (by rw [List.length_set]; exact hcz) fun hz1 => ?_
          have g1 := g H1 locs1 ls hz1 hP1 hS1 hl
          simp only [List.length_set, Nat.sub_self, Nat.add_zero] at g1
          exact g1
        rcases hfin with hfin | ⟨hfin, hin2, hdecl⟩
        · exact va_put cx.1 cx.2.1 cx.2.2.2.2.1 hcw ty0 hty hnm cx.2.2.2.1 cx.2.2.2.2.2.1 hP (q_ws_D S b cA h) hS o hw hc k hk (cx.2.2.2.2.1 _ hlk) (fun _ q => q) hfin (hty k hk) hn hft (by rw [q_fs_len]; exact q_blt hb.2.1) hdg go
        · exact va_putF cx.1 cx.2.1 cx.2.2.2.2.1 hcw ty0 hty hnm cx.2.2.2.1 cx.2.2.2.2.2.1 hP (q_ws_D S b cA h) hS o hw hc k hk (cx.2.2.2.2.1 _ hlk) (fun _ q => q) hfin hin2 hdecl (hty k hk) hn hft (by rw [q_fs_len]; exact q_blt hb.2.1) hdg go
    next => cases hs
  next => cases hs
theorem q_e_int {q : q_C Int32} (h1 : q.1 = 100 ∨ q.1 = 101 ∨ q.1 = 102) : q_e S b cA q = .inl (cA q.1, q.2.1, .inl (fun j => q_in (q_el q_O32 q j))) := by
  unfold q_e
  rw [if_neg (by omega), if_neg (by omega)]
theorem q_e_long {q : q_C Int32} (h1 : q.1 = 103) : q_e S b cA q = .inl (cA q.1, q.2.1, .inr (.inl (fun j => q_lg (q_el q_O32 q j)))) := by
  unfold q_e
  rw [if_neg (by omega), if_pos h1]
theorem q_vin {i : Int32} {j n : Nat} (h : q_ix i = some j) (hj : j < n) : vp_in i n := by
  obtain ⟨h1, h2⟩ := q_ix_spec h
  rintro (h3 | h3)
  · exact h1 h3
  · omega
theorem q_s_ald (cx : q_CX p s m args c S D cA cl nL own cc Ts) {tag kd len : Nat} {scr : Option (List Int32)} (hlen : len = 1) (hX : ∀ xs, scr = some xs → va_X b xs.length (fun j => xs.getD j 0) s s.heap ∧ b < s.heap.size ∧ ¬ S ≤ b)
    (hdg : (tag = 100 ∧ kd = 0 ∧ decode cc f.1 = .ok (.iaload, 1)) ∨ (tag = 101 ∧ kd = 0 ∧ decode cc f.1 = .ok (.baload, 1)) ∨ (tag = 103 ∧ kd = 2 ∧ decode cc f.1 = .ok (.laload, 1))) (hs : q_ald q_O32 scr tag kd len f h ns = some (.inl (f', h', ns'))) : q_K p l e R s m args below meth c S b D cA cl nL f h ns f' h' ns' := by
  subst hlen
  unfold q_ald at hs
  split at hs
  next i o st hv =>
    split at hs
    next q j hq hj =>
      cases hb : (Nat.beq q.1 tag || (Nat.beq tag 101 && Nat.beq q.1 102)) && (Nat.blt j q.2.1 && Nat.beq (q_kind (q_el q_O32 q j)) kd) with
      | false => rw [hb] at hs; cases hs
      | true =>
        rw [hb, cond_true] at hs
        simp only [Bool.and_eq_true, Bool.or_eq_true] at hb
        obtain ⟨ht, hj2, hk⟩ := hb
        refine q_s_nx hs fun cells slots Q g H locs ls hz hP hS hl => ?_
        have hw := q_ws_at (S := S) (b := b) (cA := cA) hq
        have g1 := g H locs ls hz hP hS hl
        have hjj : i.toNatClampNeg = j := (q_ix_spec hj).2
        have hin : vp_in i q.2.1 := q_vin hj (q_blt hj2)
        have hK := cx.2.2.2.2.2.1
        rw [hv]
        rcases hdg with ⟨rfl, rfl, hd⟩ | ⟨rfl, rfl, hd⟩ | ⟨rfl, rfl, hd⟩
        · obtain ⟨x, hx⟩ := q_kind0 (q_beq hk)
          have e1 : q.1 = 100 := by
            rcases ht with h1 | ⟨h1, -⟩
            · exact q_beq h1
            · cases h1
          rw [q_e_int (Or.inl e1)] at hw
          refine va_iald cx.1 cx.2.1 hK hP o 0 hw (by rw [e1]; rfl) hin hd ?_
          simp only [hjj, hx, q_in]
          simp only [hx] at g1
          exact g1
        · obtain ⟨x, hx⟩ := q_kind0 (q_beq hk)
          rcases ht with h1 | ⟨-, h1⟩
          · have e1 : q.1 = 101 := q_beq h1
            rw [q_e_int (Or.inr (Or.inl e1))] at hw
            refine va_bald cx.1 cx.2.1 hK hP o 1 hw (by rw [e1]; rfl) hin hd ?_
            simp only [hjj, hx, q_in]
            simp only [hx] at g1
            exact g1
          · have e1 : q.1 = 102 := q_beq h1
            rw [q_e_int (Or.inr (Or.inr e1))] at hw
            refine va_zald cx.1 cx.2.1 hK hP o 2 hw (by rw [e1]; rfl) hin hd ?_
            simp only [hjj, hx, q_in]
            simp only [hx] at g1
            exact g1
        · obtain ⟨x, hx⟩ := q_kind2 (q_beq hk)
          have e1 : q.1 = 103 := by
            rcases ht with h1 | ⟨h1, -⟩
            · exact q_beq h1
            · cases h1
          rw [q_e_long e1] at hw
          refine va_lald cx.1 cx.2.1 hK hP o 3 hw (by rw [e1]; rfl) hin hd ?_
          simp only [hjj, hx, q_lg]
          simp only [hx] at g1
          exact g1
    next => cases hs
  next i st hv =>
    split at hs
    next xs j hj =>
      split at hs
      next x hx =>
        cases ht : Nat.beq tag 100 with
        | false => rw [ht] at hs; cases hs
        | true =>
          rw [ht, cond_true] at hs
          have ht1 := q_beq ht
          have hd : decode cc f.1 = .ok (.iaload, 1) := by
            rcases hdg with ⟨-, -, hd⟩ | ⟨h1, -, -⟩ | ⟨h1, -, -⟩
            · exact hd
            · omega
            · omega
          obtain ⟨hX1, hX2, hX3⟩ := hX xs rfl
          have hjl : j < xs.length := (List.getElem?_eq_some_iff.mp hx).1
          refine q_s_nx hs fun cells slots Q g H locs ls hz hP hS hl => ?_
          have g1 := g H locs ls hz hP hS hl
          rw [hv]
          refine va_sld (A := fun q => S ≤ q) cx.1 cx.2.1 hX1 hX2 hX3 hS (q_vin hj hjl) hd ?_
          have e2 : xs.getD i.toNatClampNeg 0 = x := by rw [(q_ix_spec hj).2]; simp [List.getD, hx]
          simp only [e2]
          exact g1
      next => cases hs
    next => cases hs
  next => cases hs
theorem q_el_cons (O : q_O Int32) (t n j k : Nat) (w : q_V Int32) (u : q_U Int32) : q_el O (t, n, (j, w) :: u) k = if j = k then w else q_el O (t, n, u) k := by
  unfold q_el
  rw [show (t, n, (j, w) :: u).2.2 = (j, w) :: u from rfl, q_at_cons]
  by_cases h : j = k
  · simp [h]
  · simp only [if_neg h]
theorem q_upd_int (t n j : Nat) (w : q_V Int32) (u : q_U Int32) (x : Int32) (hw : q_in w = x) : (fun k => q_in (q_el q_O32 (t, n, (j, w) :: u) k)) = upd (fun k => q_in (q_el q_O32 (t, n, u) k)) j x := by
  funext k
  rw [q_el_cons]
  unfold upd
  by_cases h : j = k
  · subst h
    simp [hw]
  · rw [if_neg h, if_neg (fun q => h q.symm)]
theorem q_upd_long (t n j : Nat) (w : q_V Int32) (u : q_U Int32) (x : Int64) (hw : q_lg w = x) : (fun k => q_lg (q_el q_O32 (t, n, (j, w) :: u) k)) = vp_updL (fun k => q_lg (q_el q_O32 (t, n, u) k)) j x := by
  funext k
  rw [q_el_cons]
  unfold vp_updL
  by_cases h : j = k
  · subst h
    simp [hw]
  · rw [if_neg h, if_neg (fun q => h q.symm)]
theorem q_e_intP {q : q_C Int32} (h1 : q.1 = 100 ∨ q.1 = 101 ∨ q.1 = 102) (j k : Nat) (w : q_V Int32) (x : Int32) (hw : q_in w = x) (hj : k = j) : q_e S b cA (q.1, q.2.1, (j, w) :: q.2.2) = .inl (cA q.1, q.2.1, .inl (upd (fun j => q_in (q_el q_O32 q j)) k x)) := by
  subst hj
  obtain ⟨t, n, u⟩ := q
  rw [q_e_int (q := (t, n, (k, w) :: u)) h1]
  simp only [q_upd_int t n k w u x hw]
theorem q_e_longP {q : q_C Int32} (h1 : q.1 = 103) (j k : Nat) (w : q_V Int32) (x : Int64) (hw : q_lg w = x) (hj : k = j) : q_e S b cA (q.1, q.2.1, (j, w) :: q.2.2) = .inl (cA q.1, q.2.1, .inr (.inl (vp_updL (fun j => q_lg (q_el q_O32 q j)) k x))) := by
  subst hj
  obtain ⟨t, n, u⟩ := q
  rw [q_e_long (q := (t, n, (k, w) :: u)) h1]
  simp only [q_upd_long t n k w u x hw]
theorem q_s_ast (cx : q_CX p s m args c S D cA cl nL own cc Ts) {tag len : Nat} (hlen : len = 1)
    (hdg : (tag = 100 ∧ decode cc f.1 = .ok (.iastore, 1)) ∨ (tag = 101 ∧ decode cc f.1 = .ok (.bastore, 1)) ∨ (tag = 103 ∧ decode cc f.1 = .ok (.lastore, 1))) (hs : q_ast q_O32 tag len f h ns = some (.inl (f', h', ns'))) : q_K p l e R s m args below meth c S b D cA cl nL f h ns f' h' ns' := by
  subst hlen
  unfold q_ast at hs
  split at hs
  next v i o st hv =>
    split at hs
    next q j hq hj =>
      cases hb : (Nat.beq q.1 tag || (Nat.beq tag 101 && Nat.beq q.1 102)) && Nat.blt j q.2.1 with
      | false => rw [hb] at hs; cases hs
      | true =>
        rw [hb, cond_true] at hs
        simp only [Bool.and_eq_true, Bool.or_eq_true] at hb
        obtain ⟨ht, hj2⟩ := hb
        split at hs
        next w hkp =>
          cases hs
          refine ⟨by rw [List.length_set]; exact Nat.le_refl _, Nat.le_refl _, fun cells slots Q hcz _ _ g H locs ls hz hP hS hl => ?_⟩
          have hw := q_ws_at (S := S) (b := b) (cA := cA) hq
          have hjj : i.toNatClampNeg = j := (q_ix_spec hj).2
          have hin : vp_in i q.2.1 := q_vin hj (q_blt hj2)
          have hK := cx.2.2.2.2.2.1
          have go : ∀ (E : va_E), q_e S b cA (q.1, q.2.1, (j, w) :: q.2.2) = E → ∀ (H1 : Heap) (locs1 : List Loc), va_P D cl ((q_ws S b cA h).set o (S + o, E)) H1 → va_D (fun q => S ≤ q) ((q_ws S b cA h).set o (S + o, E)) → va_S (fun q => S ≤ q) s.heap H1 locs1 → W p l e R s m args below meth c H1 locs1 cells slots Q (F0 m (f.1 + 1) ls (st.map (q_ren S b))) := by
            intro E hE H1 locs1 hP1 _ hS1
            rw [← hE, ← q_ws_set] at hP1
            refine q_sz hP1 hS1 cx.2.2.2.2.2.2.1 (by rw [List.length_set]; exact hcz) fun hz1 => ?_
            have g1 := g H1 locs1 ls hz1 hP1 hS1 hl
            simp only [List.length_set, Nat.sub_self, Nat.add_zero] at g1
            exact g1
          rw [hv]
          rcases hdg with ⟨rfl, hd⟩ | ⟨rfl, hd⟩ | ⟨rfl, hd⟩
          · have e1 : q.1 = 100 := by
              rcases ht with h1 | ⟨h1, -⟩
              · exact q_beq h1
              · cases h1
            rw [e1] at hkp
            rcases v with x | y | n
            · have hx : w = .inl x := by simpa [q_kp, Nat.beq] using hkp.symm
              rw [q_e_int (Or.inl e1)] at hw
              exact va_iast cx.1 cx.2.1 hK hP (q_ws_D S b cA h) hS o 0 hw (by rw [e1]; rfl) hin hd (go _ (q_e_intP (Or.inl e1) j _ w x (by rw [hx]; rfl) hjj))
            · simp [q_kp, Nat.beq] at hkp
            · simp [q_kp] at hkp
          · rcases ht with h1 | ⟨-, h1⟩
            · have e1 : q.1 = 101 := q_beq h1
              rw [e1] at hkp
              rcases v with x | y | n
              · have hx : w = .inl x.toInt8.toInt32 := by simpa [q_kp, Nat.beq, q_O32, q_o1] using hkp.symm
                rw [q_e_int (Or.inr (Or.inl e1))] at hw
                exact va_bast cx.1 cx.2.1 hK hP (q_ws_D S b cA h) hS o 1 hw (by rw [e1]; rfl) hin hd (go _ (q_e_intP (Or.inr (Or.inl e1)) j _ w (vp_nar .byte x) (by rw [hx, vp_nar_byte]; rfl) hjj))
              · simp [q_kp, Nat.beq] at hkp
              · simp [q_kp] at hkp
            · have e1 : q.1 = 102 := q_beq h1
              rw [e1] at hkp
              rcases v with x | y | n
              · have hx : q_ib x = true ∧ w = .inl x := by
                  simp only [q_kp, Nat.beq, cond_false, Bool.true_and] at hkp
                  cases hx1 : q_ib x with
                  | true =>
                    rw [show q_O32.2.2.2.2.2.1 x = q_ib x from rfl, hx1, cond_true] at hkp
                    exact ⟨rfl, (Option.some.inj hkp).symm⟩
                  | false =>
                    rw [show q_O32.2.2.2.2.2.1 x = q_ib x from rfl, hx1, cond_false] at hkp
                    cases hkp
                rw [q_e_int (Or.inr (Or.inr e1))] at hw
                exact va_zast cx.1 cx.2.1 hK hP (q_ws_D S b cA h) hS o 2 hw (by rw [e1]; rfl) hin hd (go _ (q_e_intP (Or.inr (Or.inr e1)) j _ w (vp_nar .boolean x) (by rw [hx.2]; rcases q_ib_spec hx.1 with h0 | h0 <;> rw [h0] <;> decide) hjj))
              · simp [q_kp, Nat.beq] at hkp
              · simp [q_kp] at hkp
          · have e1 : q.1 = 103 := by
              rcases ht with h1 | ⟨h1, -⟩
              · exact q_beq h1
              · cases h1
            rw [e1] at hkp
            rcases v with x | y | n
            · simp [q_kp, Nat.beq] at hkp
            · have hx : w = .inr (.inl y) := by simpa [q_kp, Nat.beq] using hkp.symm
              rw [q_e_long e1] at hw
              exact va_last cx.1 cx.2.1 hK hP (q_ws_D S b cA h) hS o 3 hw (by rw [e1]; rfl) hin hd (go _ (q_e_longP e1 j _ w y (by rw [hx]; rfl) hjj))
            · simp [q_kp] at hkp
        next => cases hs
    next => cases hs
  next => cases hs
end QS2
