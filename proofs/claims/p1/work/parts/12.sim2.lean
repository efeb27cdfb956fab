section SIM2
variable {A : Type} {d : A → Int32} {O : q_O A}
theorem q_m_getf {r : List Nat} {len : Nat} {f : q_F A} {h : q_H A} {ns : Nat} {x : q_S A ⊕ q_R A} (hs : q_getf r len f h ns = some x) : q_getf r len (q_mF d f) (q_mH d h) ns = some (q_mX d x) := by
  unfold q_getf at hs ⊢
  split at hs
  next ci k y o st hv =>
    rw [show (q_mF d f).2.2 = .inr (.inr (o + 2)) :: q_mL d st by show q_mL d f.2.2 = _; rw [hv]; rfl]
    simp only [q_m_get]
    split at hs
    next q hq =>
      rw [hq]
      simp only [Option.map_some, show (q_mC d q).1 = q.1 from rfl, show (q_mC d q).2.1 = q.2.1 from rfl, show (q_mC d q).2.2 = q_mU d q.2.2 from rfl, q_m_at]
      cases hb : Nat.beq q.1 ci && Nat.blt k q.2.1 with
      | false => rw [hb] at hs; cases hs
      | true =>
        rw [hb, cond_true] at hs
        rw [cond_true]
        split at hs
        next v hat =>
          rw [hat]
          exact q_m_nx hs
        next => cases hs
    next => cases hs
  next => cases hs
theorem q_m_putf (H : q_Hm O d) {r : List Nat} {len : Nat} {f : q_F A} {h : q_H A} {ns : Nat} {x : q_S A ⊕ q_R A} (hs : q_putf O r len f h ns = some x) : q_putf q_O32 r len (q_mF d f) (q_mH d h) ns = some (q_mX d x) := by
  unfold q_putf at hs ⊢
  split at hs
  next ci k kd y v o st hv =>
    rw [show (q_mF d f).2.2 = q_mV d v :: .inr (.inr (o + 2)) :: q_mL d st by show q_mL d f.2.2 = _; rw [hv]; rfl]
    simp only [q_m_get]
    split at hs
    next q hq =>
      rw [hq]
      show (bif Nat.beq q.1 ci && (Nat.blt k q.2.1 && q_fit q_O32 kd (q_mV d v)) then q_nx len (q_mF d f) (q_mL d st) ((q_mH d h).set o (q.1, q.2.1, (k, q_mV d v) :: q_mU d q.2.2)) ns else none) = some (q_mX d x)
      cases hb : Nat.beq q.1 ci && (Nat.blt k q.2.1 && q_fit O kd v) with
      | false => rw [hb] at hs; cases hs
      | true =>
        rw [hb, cond_true] at hs
        simp only [Bool.and_eq_true] at hb
        rw [hb.1, hb.2.1, q_m_fit H hb.2.2]
        have h1 := q_m_nx (d := d) hs
        rw [q_m_set] at h1
        exact h1
    next => cases hs
  next => cases hs
theorem q_m_ald (H : q_Hm O d) {scr : Option (List A)} {tag kd len : Nat} {f : q_F A} {h : q_H A} {ns : Nat} {x : q_S A ⊕ q_R A} (hs : q_ald O scr tag kd len f h ns = some x) : q_ald q_O32 (scr.map (fun l => l.map d)) tag kd len (q_mF d f) (q_mH d h) ns = some (q_mX d x) := by
  unfold q_ald at hs ⊢
  split at hs
  next i o st hv =>
    rw [show (q_mF d f).2.2 = .inl (d i) :: .inr (.inr (o + 2)) :: q_mL d st by show q_mL d f.2.2 = _; rw [hv]; rfl]
    simp only [q_m_get]
    split at hs
    next q j hq hj =>
      have h1 : q_O32.2.2.2.2.1 (d i) = some j := H.2.2.2.2.1 _ _ hj
      rw [hq]
      simp only [h1, Option.map_some, q_m_el H, q_m_kind, show (q_mC d q).1 = q.1 from rfl, show (q_mC d q).2.1 = q.2.1 from rfl]
      cases hb : (Nat.beq q.1 tag || (Nat.beq tag 101 && Nat.beq q.1 102)) && (Nat.blt j q.2.1 && Nat.beq (q_kind (q_el O q j)) kd) with
      | false => rw [hb] at hs; cases hs
      | true =>
        rw [hb, cond_true] at hs
        rw [cond_true]
        exact q_m_nx hs
    next => cases hs
  next i st hv =>
    rw [show (q_mF d f).2.2 = .inl (d i) :: .inr (.inr 1) :: q_mL d st by show q_mL d f.2.2 = _; rw [hv]; rfl]
    split at hs
    next xs j hj =>
      have h1 : q_O32.2.2.2.2.1 (d i) = some j := H.2.2.2.2.1 _ _ hj
      split at hs
      next a ha =>
        simp only [h1, Option.map_some, List.getElem?_map, ha]
        cases hb : Nat.beq tag 100 with
        | false => rw [hb] at hs; cases hs
        | true =>
          rw [hb, cond_true] at hs
          rw [cond_true]
          exact q_m_nx hs
      next => cases hs
    next => cases hs
  next => cases hs
theorem q_m_kp (H : q_Hm O d) {tag : Nat} {v w : q_V A} (hs : q_kp O tag v = some w) : q_kp q_O32 tag (q_mV d v) = some (q_mV d w) := by
  rcases v with a | y | n
  · unfold q_kp at hs ⊢
    show (bif Nat.beq tag 100 then some (.inl (d a)) else bif Nat.beq tag 101 then (match q_O32.2.2.1 1 (d a) with
      | some y => some (.inl y)
      | none => none) else bif Nat.beq tag 102 && q_O32.2.2.2.2.2.1 (d a) then some (.inl (d a)) else none) = some (q_mV d w)
    cases h1 : Nat.beq tag 100 with
    | true => simp only [h1, cond_true] at hs; cases hs; rfl
    | false =>
      simp only [h1, cond_false] at hs
      cases h2 : Nat.beq tag 101 with
      | true =>
        simp only [h2, cond_true] at hs
        rw [cond_false, cond_true]
        split at hs
        next z hz =>
          have h3 : q_O32.2.2.1 1 (d a) = some (d z) := H.2.2.1 _ _ _ hz
          rw [h3]
          cases hs
          rfl
        next => cases hs
      | false =>
        simp only [h2, cond_false] at hs
        cases h3 : Nat.beq tag 102 && O.2.2.2.2.2.1 a with
        | false => simp only [h3] at hs; cases hs
        | true =>
          simp only [h3, cond_true] at hs
          simp only [Bool.and_eq_true] at h3
          have h4 : q_O32.2.2.2.2.2.1 (d a) = true := H.2.2.2.2.2.1 _ h3.2
          rw [h3.1, h4]
          cases hs
          rfl
  · unfold q_kp at hs ⊢
    show (bif Nat.beq tag 103 then some (.inr (.inl y)) else none) = some (q_mV d w)
    cases h1 : Nat.beq tag 103 with
    | true => simp only [h1, cond_true] at hs; cases hs; rfl
    | false => simp only [h1] at hs; cases hs
  · cases hs
theorem q_m_ast (H : q_Hm O d) {tag len : Nat} {f : q_F A} {h : q_H A} {ns : Nat} {x : q_S A ⊕ q_R A} (hs : q_ast O tag len f h ns = some x) : q_ast q_O32 tag len (q_mF d f) (q_mH d h) ns = some (q_mX d x) := by
  unfold q_ast at hs ⊢
  split at hs
  next v i o st hv =>
    rw [show (q_mF d f).2.2 = q_mV d v :: .inl (d i) :: .inr (.inr (o + 2)) :: q_mL d st by show q_mL d f.2.2 = _; rw [hv]; rfl]
    simp only [q_m_get]
    split at hs
    next q j hq hj =>
      have h1 : q_O32.2.2.2.2.1 (d i) = some j := H.2.2.2.2.1 _ _ hj
      rw [hq]
      simp only [h1, Option.map_some, show (q_mC d q).1 = q.1 from rfl, show (q_mC d q).2.1 = q.2.1 from rfl]
      cases hb : (Nat.beq q.1 tag || (Nat.beq tag 101 && Nat.beq q.1 102)) && Nat.blt j q.2.1 with
      | false => rw [hb] at hs; cases hs
      | true =>
        rw [hb, cond_true] at hs
        rw [cond_true]
        split at hs
        next w hw =>
          rw [q_m_kp H hw]
          have h1 := q_m_nx (d := d) hs
          rw [q_m_set] at h1
          exact h1
        next => cases hs
    next => cases hs
  next => cases hs
theorem q_m_alen (H : q_Hm O d) {scr : Option (List A)} {len : Nat} {f : q_F A} {h : q_H A} {ns : Nat} {x : q_S A ⊕ q_R A} (hs : q_alen O scr len f h ns = some x) : q_alen q_O32 (scr.map (fun l => l.map d)) len (q_mF d f) (q_mH d h) ns = some (q_mX d x) := by
  unfold q_alen at hs ⊢
  split at hs
  next o st hv =>
    rw [show (q_mF d f).2.2 = .inr (.inr (o + 2)) :: q_mL d st by show q_mL d f.2.2 = _; rw [hv]; rfl]
    simp only [q_m_get]
    split at hs
    next q hq =>
      rw [hq]
      simp only [Option.map_some, show (q_mC d q).1 = q.1 from rfl, show (q_mC d q).2.1 = q.2.1 from rfl]
      cases hb : Nat.blt 99 q.1 && Nat.blt q.1 104 with
      | false => rw [hb] at hs; cases hs
      | true =>
        rw [hb, cond_true] at hs
        rw [cond_true]
        have h1 := q_m_nx (d := d) hs
        rw [show q_mL d (.inl (O.1 (Int32.ofNat q.2.1)) :: st) = .inl (Int32.ofNat q.2.1) :: q_mL d st by show Sum.inl (d (O.1 _)) :: _ = _; rw [H.1]; rfl] at h1
        exact h1
    next => cases hs
  next st hv =>
    rw [show (q_mF d f).2.2 = .inr (.inr 1) :: q_mL d st by show q_mL d f.2.2 = _; rw [hv]; rfl]
    split at hs
    next xs =>
      simp only [Option.map_some, List.length_map]
      have h1 := q_m_nx (d := d) hs
      rw [show q_mL d (.inl (O.1 (Int32.ofNat xs.length)) :: st) = .inl (Int32.ofNat xs.length) :: q_mL d st by show Sum.inl (d (O.1 _)) :: _ = _; rw [H.1]; rfl] at h1
      exact h1
    next => cases hs
  next => cases hs
theorem q_m_dup {len : Nat} {f : q_F A} {h : q_H A} {ns : Nat} {x : q_S A ⊕ q_R A} (hs : q_dup len f h ns = some x) : q_dup len (q_mF d f) (q_mH d h) ns = some (q_mX d x) := by
  unfold q_dup at hs ⊢
  split at hs
  next v st hv =>
    rw [show (q_mF d f).2.2 = q_mV d v :: q_mL d st by show q_mL d f.2.2 = _; rw [hv]; rfl]
    simp only [q_m_cat]
    cases hb : Nat.beq (q_cat v) 1 with
    | false => rw [hb] at hs; cases hs
    | true => rw [hb, cond_true] at hs; rw [cond_true]; exact q_m_nx hs
  next => cases hs
theorem q_m_pop {len : Nat} {f : q_F A} {h : q_H A} {ns : Nat} {x : q_S A ⊕ q_R A} (hs : q_pop len f h ns = some x) : q_pop len (q_mF d f) (q_mH d h) ns = some (q_mX d x) := by
  unfold q_pop at hs ⊢
  split at hs
  next v st hv =>
    rw [show (q_mF d f).2.2 = q_mV d v :: q_mL d st by show q_mL d f.2.2 = _; rw [hv]; rfl]
    simp only [q_m_cat]
    cases hb : Nat.beq (q_cat v) 1 with
    | false => rw [hb] at hs; cases hs
    | true => rw [hb, cond_true] at hs; rw [cond_true]; exact q_m_nx hs
  next => cases hs
theorem q_m_dup2 {len : Nat} {f : q_F A} {h : q_H A} {ns : Nat} {x : q_S A ⊕ q_R A} (hs : q_dup2 len f h ns = some x) : q_dup2 len (q_mF d f) (q_mH d h) ns = some (q_mX d x) := by
  unfold q_dup2 at hs ⊢
  split at hs
  next v w st hv =>
    rw [show (q_mF d f).2.2 = q_mV d v :: q_mV d w :: q_mL d st by show q_mL d f.2.2 = _; rw [hv]; rfl]
    simp only [q_m_cat]
    cases hb : Nat.beq (q_cat v) 1 && Nat.beq (q_cat w) 1 with
    | false => rw [hb] at hs; cases hs
    | true => rw [hb, cond_true] at hs; rw [cond_true]; exact q_m_nx hs
  next => cases hs
theorem q_m_new (H : q_Hm O d) {r : List Nat} {len : Nat} {f : q_F A} {h : q_H A} {ns : Nat} {x : q_S A ⊕ q_R A} (hs : q_new O r len f h ns = some x) : q_new q_O32 r len (q_mF d f) (q_mH d h) ns = some (q_mX d x) := by
  unfold q_new at hs ⊢
  split at hs
  next ci ks =>
    have h1 := q_m_nx (d := d) hs
    rw [q_m_app, show q_mC d (ci, ks.length, q_dfs O 0 ks) = (ci, ks.length, q_mU d (q_dfs O 0 ks)) from rfl, q_m_dfs H] at h1
    simp only [q_m_len]
    exact h1
  next => cases hs
theorem q_m_newa (H : q_Hm O d) {r : List Nat} {len : Nat} {f : q_F A} {h : q_H A} {ns : Nat} {x : q_S A ⊕ q_R A} (hs : q_newa O r len f h ns = some x) : q_newa q_O32 r len (q_mF d f) (q_mH d h) ns = some (q_mX d x) := by
  unfold q_newa at hs ⊢
  split at hs
  next tag n st hv =>
    rw [show (q_mF d f).2.2 = .inl (d n) :: q_mL d st by show q_mL d f.2.2 = _; rw [hv]; rfl]
    split at hs
    next N hN =>
      have h1 : q_O32.2.2.2.2.1 (d n) = some N := H.2.2.2.2.1 _ _ hN
      simp only [h1]
      cases hb : Nat.blt N 65536 with
      | false => rw [hb] at hs; cases hs
      | true =>
        rw [hb, cond_true] at hs
        rw [cond_true]
        have h2 := q_m_nx (d := d) hs
        rw [q_m_app] at h2
        simp only [q_m_len]
        exact h2
    next => cases hs
  next => cases hs
theorem q_m_acpy (H : q_Hm O d) {len : Nat} {f : q_F A} {h : q_H A} {ns : Nat} {x : q_S A ⊕ q_R A} (hs : q_acpy O len f h ns = some x) : q_acpy q_O32 len (q_mF d f) (q_mH d h) ns = some (q_mX d x) := by
  unfold q_acpy at hs ⊢
  split at hs
  next n dp q sp o st hv =>
    rw [show (q_mF d f).2.2 = .inl (d n) :: .inl (d dp) :: .inr (.inr (q + 2)) :: .inl (d sp) :: .inr (.inr (o + 2)) :: q_mL d st by show q_mL d f.2.2 = _; rw [hv]; rfl]
    simp only [q_m_get]
    split at hs
    next qs qd n' dp' sp' hqs hqd hn hdp hsp =>
      have h1 : q_O32.2.2.2.2.1 (d n) = some n' := H.2.2.2.2.1 _ _ hn
      have h2 : q_O32.2.2.2.2.1 (d dp) = some dp' := H.2.2.2.2.1 _ _ hdp
      have h3 : q_O32.2.2.2.2.1 (d sp) = some sp' := H.2.2.2.2.1 _ _ hsp
      rw [hqs, hqd]
      simp only [h1, h2, h3, Option.map_some, show (q_mC d qs).1 = qs.1 from rfl, show (q_mC d qd).1 = qd.1 from rfl, show (q_mC d qs).2.1 = qs.2.1 from rfl, show (q_mC d qd).2.1 = qd.2.1 from rfl, show (q_mC d qd).2.2 = q_mU d qd.2.2 from rfl, q_m_cats, q_m_cpy H]
      cases hb : Nat.beq qs.1 100 && (Nat.beq qd.1 100 && (Nat.ble (sp' + n') qs.2.1 && (Nat.ble (dp' + n') qd.2.1 && Nat.ble (q_cats st) 8))) with
      | false => rw [hb] at hs; cases hs
      | true =>
        rw [hb, cond_true] at hs
        rw [cond_true]
        have h4 := q_m_nx (d := d) hs
        rw [q_m_set] at h4
        exact h4
    next => cases hs
  next => cases hs
theorem q_m_may {sv : Nat} {y : List Nat} {a : List (q_V A)} {h : q_H A} : q_may sv y (q_mL d a) (q_mH d h) = q_may sv y a h := by
  rcases sv with _ | _ | _ | sv
  · rfl
  · rcases a with _ | ⟨v | v | n, r⟩
    · rfl
    · rfl
    · rfl
    · rcases n with _ | _ | o
      · rfl
      · rfl
      · show q_mayV y ((q_mH d h)[o]?) = q_mayV y (h[o]?)
        rw [q_m_get]
        cases h[o]? with
        | none => rfl
        | some q => rcases y with _ | ⟨ci, _ | _⟩ <;> rfl
  · rcases a with _ | ⟨v | v | n, r⟩
    · rfl
    · rfl
    · rfl
    · rcases n with _ | _ | o <;> rfl
  · rfl
theorem q_m_inv {cal : Nat → List (q_V A) → q_H A → Nat → Option (q_R A)} {cal' : Nat → List (q_V Int32) → q_H Int32 → Nat → Option (q_R Int32)} (hcal : ∀ k a h ns r, cal k a h ns = some r → cal' k (q_mL d a) (q_mH d h) ns = some (q_mR d r)) {sv : Nat} {r : List Nat} {len : Nat} {f : q_F A} {h : q_H A} {ns : Nat} {x : q_S A ⊕ q_R A} (hs : q_inv cal sv r len f h ns = some x) : q_inv cal' sv r len (q_mF d f) (q_mH d h) ns = some (q_mX d x) := by
  unfold q_inv at hs ⊢
  split at hs
  next k na ml y =>
    have h1 := q_m_take (d := d) na f.2.2 []
    split at hs
    next a st htk =>
      rw [htk] at h1
      have h1' : q_take na (q_mF d f).2.2 [] = some (q_mL d a, q_mL d st) := h1
      simp only [h1', q_m_cats, q_m_may]
      cases hb : Nat.ble (q_cats st) 8 && (Nat.ble (q_cats a) ml && q_may sv y a h) with
      | false => rw [hb] at hs; cases hs
      | true =>
        rw [hb, cond_true] at hs
        rw [cond_true]
        split at hs
        next v h2 ns2 hc =>
          rw [hcal _ _ _ _ _ hc]
          have h3 := q_m_nx (d := d) hs
          have e3 : (v.map (q_mV d)).toList ++ q_mL d st = q_mL d (v.toList ++ st) := by cases v <;> rfl
          show q_nx len (q_mF d f) ((v.map (q_mV d)).toList ++ q_mL d st) (q_mH d h2) ns2 = _
          rw [e3]
          cases hs
          rfl
        next => cases hs
    next => cases hs
  next => cases hs
theorem q_m_abs (H : q_Hm O d) {len : Nat} {f : q_F A} {h : q_H A} {ns : Nat} {x : q_S A ⊕ q_R A} (hs : q_abs O len f h ns = some x) : q_abs q_O32 len (q_mF d f) (q_mH d h) ns = some (q_mX d x) := by
  unfold q_abs at hs ⊢
  split at hs
  next a st hv =>
    rw [show (q_mF d f).2.2 = .inl (d a) :: q_mL d st by show q_mL d f.2.2 = _; rw [hv]; rfl]
    simp only [q_m_cats]
    cases hb : Nat.ble (q_cats st) 8 with
    | false => rw [hb] at hs; cases hs
    | true =>
      rw [hb, cond_true] at hs
      rw [cond_true]
      split at hs
      next z hz =>
        have h1 : q_O32.2.2.1 3 (d a) = some (d z) := H.2.2.1 _ _ _ hz
        simp only [h1]
        exact q_m_nx hs
      next => cases hs
  next => cases hs
theorem q_m_obj {len : Nat} {f : q_F A} {h : q_H A} {ns : Nat} {x : q_S A ⊕ q_R A} (hs : q_obj len f h ns = some x) : q_obj len (q_mF d f) (q_mH d h) ns = some (q_mX d x) := by
  unfold q_obj at hs ⊢
  split at hs
  next o st hv =>
    rw [show (q_mF d f).2.2 = .inr (.inr (o + 2)) :: q_mL d st by show q_mL d f.2.2 = _; rw [hv]; rfl]
    simp only [q_m_cats]
    cases hb : Nat.ble (q_cats st) 8 with
    | false => rw [hb] at hs; cases hs
    | true => rw [hb, cond_true] at hs; rw [cond_true]; exact q_m_nx hs
  next => cases hs
theorem q_m_iret (H : q_Hm O d) {r : List Nat} {f : q_F A} {h : q_H A} {ns : Nat} {x : q_S A ⊕ q_R A} (hs : q_iret O r f h ns = some x) : q_iret q_O32 r (q_mF d f) (q_mH d h) ns = some (q_mX d x) := by
  unfold q_iret at hs ⊢
  split at hs
  next kd a hv =>
    rw [show (q_mF d f).2.2 = [.inl (d a)] by show q_mL d f.2.2 = _; rw [hv]; rfl]
    cases hb : q_fit O kd (.inl a) with
    | false => rw [hb] at hs; cases hs
    | true =>
      rw [hb, cond_true] at hs
      have h1 : q_fit q_O32 kd (.inl (d a)) = true := q_m_fit H hb
      simp only [h1, cond_true]
      cases hs
      rfl
  next => cases hs
theorem q_m_lret {f : q_F A} {h : q_H A} {ns : Nat} {x : q_S A ⊕ q_R A} (hs : q_lret f h ns = some x) : q_lret (q_mF d f) (q_mH d h) ns = some (q_mX d x) := by
  unfold q_lret at hs ⊢
  split at hs
  next y hv =>
    rw [show (q_mF d f).2.2 = [.inr (.inl y)] by show q_mL d f.2.2 = _; rw [hv]; rfl]
    cases hs
    rfl
  next => cases hs
theorem q_m_ret {f : q_F A} {h : q_H A} {ns : Nat} {x : q_S A ⊕ q_R A} (hs : q_ret f h ns = some x) : q_ret (q_mF d f) (q_mH d h) ns = some (q_mX d x) := by
  unfold q_ret at hs ⊢
  split at hs
  next hv =>
    rw [show (q_mF d f).2.2 = [] by show q_mL d f.2.2 = _; rw [hv]; rfl]
    cases hs
    rfl
  next => cases hs
theorem q_m_k (H : q_Hm O d) {len : Nat} {c : Int32} {f : q_F A} {st : List (q_V A)} {h : q_H A} {ns : Nat} {x : q_S A ⊕ q_R A} (hs : q_nx len f (.inl (O.1 c) :: st) h ns = some x) : q_nx len (q_mF d f) (.inl c :: q_mL d st) (q_mH d h) ns = some (q_mX d x) := by
  have h1 := q_m_nx (d := d) hs
  rw [show q_mL d (.inl (O.1 c) :: st) = .inl c :: q_mL d st by show Sum.inl (d (O.1 _)) :: _ = _; rw [H.1]; rfl] at h1
  exact h1
theorem q_m_act (H : q_Hm O d) {scr : Option (List A)} {cal : Nat → List (q_V A) → q_H A → Nat → Option (q_R A)} {cal' : Nat → List (q_V Int32) → q_H Int32 → Nat → Option (q_R Int32)} (hcal : ∀ k a h ns r, cal k a h ns = some r → cal' k (q_mL d a) (q_mH d h) ns = some (q_mR d r)) {ins : Jvm.ClassFile.Instr} {len : Nat} {r : List Nat} {f : q_F A} {h : q_H A} {ns : Nat} {x : q_S A ⊕ q_R A} (hs : q_act O scr cal ins len r f h ns = some x) : q_act q_O32 (scr.map (fun l => l.map d)) cal' ins len r (q_mF d f) (q_mH d h) ns = some (q_mX d x) := by
  cases ins with
  | aload_n k => exact q_m_ld hs
  | aload k => exact q_m_ld hs
  | iload_n k => exact q_m_ld hs
  | iload k => exact q_m_ld hs
  | lload_n k => exact q_m_ld hs
  | lload k => exact q_m_ld hs
  | astore_n k => exact q_m_st hs
  | astore k => exact q_m_st hs
  | istore_n k => exact q_m_st hs
  | istore k => exact q_m_st hs
  | lstore_n k => exact q_m_st hs
  | lstore k => exact q_m_st hs
  | iinc i n => exact q_m_iinc H hs
  | iconst n => exact q_m_k H hs
  | bipush n => exact q_m_k H hs
  | sipush n => exact q_m_k H hs
  | lconst n => exact q_m_nx hs
  | ldc i =>
    rcases r with _ | ⟨v, _ | _⟩
    · cases hs
    · exact q_m_k H hs
    · cases hs
  | ldc_w i =>
    rcases r with _ | ⟨v, _ | _⟩
    · cases hs
    · exact q_m_k H hs
    · cases hs
  | ldc2_w i =>
    rcases r with _ | ⟨v, _ | _⟩
    · cases hs
    · exact q_m_nx hs
    · cases hs
  | iadd => exact q_m_b2 H (j := 0) hs
  | isub => exact q_m_b2 H (j := 1) hs
  | imul => exact q_m_b2 H (j := 2) hs
  | iand => exact q_m_b2 H (j := 3) hs
  | ior => exact q_m_b2 H (j := 4) hs
  | ixor => exact q_m_b2 H (j := 5) hs
  | ishl => exact q_m_b2 H (j := 6) hs
  | ishr => exact q_m_b2 H (j := 7) hs
  | iushr => exact q_m_b2 H (j := 8) hs
  | idiv => exact q_m_b2 H (j := 9) hs
  | irem => exact q_m_b2 H (j := 10) hs
  | ineg => exact q_m_b1 H (j := 0) hs
  | i2b => exact q_m_b1 H (j := 1) hs
  | i2c => exact q_m_b1 H (j := 2) hs
  | i2l => exact q_m_i2l H hs
  | ladd => exact q_m_l2 (j := 0) hs
  | lmul => exact q_m_l2 (j := 1) hs
  | lor => exact q_m_l2 (j := 2) hs
  | lshl => exact q_m_lshl H hs
  | lcmp => exact q_m_lcmp H hs
  | dup => exact q_m_dup hs
  | dup2 => exact q_m_dup2 hs
  | pop => exact q_m_pop hs
  | ifCond cd off => exact q_m_if H hs
  | if_icmp cd off => exact q_m_ic H hs
  | goto off =>
    rcases r with _ | ⟨tg, _ | _⟩
    · cases hs
    · cases hs; rfl
    · cases hs
  | tableswitch dflt lo hi offs => exact q_m_tsw H hs
  | getfield i => exact q_m_getf hs
  | putfield i => exact q_m_putf H hs
  | iaload => exact q_m_ald H hs
  | baload => exact q_m_ald H hs
  | laload => exact q_m_ald H hs
  | iastore => exact q_m_ast H hs
  | bastore => exact q_m_ast H hs
  | lastore => exact q_m_ast H hs
  | arraylength => exact q_m_alen H hs
  | new i => exact q_m_new H hs
  | newarray a => exact q_m_newa H hs
  | invokevirtual i => exact q_m_inv hcal hs
  | invokestatic i =>
    rcases r with _ | ⟨k, r⟩
    · exact q_m_acpy H hs
    rcases r with _ | ⟨k2, r⟩
    · exact q_m_abs H hs
    · exact q_m_inv hcal hs
  | invokespecial i =>
    rcases r with _ | ⟨k, r⟩
    · exact q_m_obj hs
    · exact q_m_inv hcal hs
  | ireturn => exact q_m_iret H hs
  | lreturn => exact q_m_lret hs
  | return_ => exact q_m_ret hs
  | _ => cases hs
theorem q_m_step (H : q_Hm O d) {scr : Option (List A)} {cal : Nat → List (q_V A) → q_H A → Nat → Option (q_R A)} {cal' : Nat → List (q_V Int32) → q_H Int32 → Nat → Option (q_R Int32)} (hcal : ∀ k a h ns r, cal k a h ns = some r → cal' k (q_mL d a) (q_mH d h) ns = some (q_mR d r)) {t : q_T} {f : q_F A} {h : q_H A} {ns : Nat} {x : q_S A ⊕ q_R A} (hs : q_step O scr cal t f h ns = some x) : q_step q_O32 (scr.map (fun l => l.map d)) cal' t (q_mF d f) (q_mH d h) ns = some (q_mX d x) := by
  unfold q_step at hs ⊢
  rw [show (q_mF d f).1 = f.1 from rfl]
  split at hs
  next q hq =>
    exact q_m_act H hcal hs
  next => cases hs
theorem q_m_exec (H : q_Hm O d) (ts : List q_T) : ∀ (n dp : Nat) (t : q_T) (f : q_F A) (h : q_H A) (ns : Nat) (r : q_R A), q_exec O ts n dp t f h ns = some r → q_exec q_O32 ts n dp t (q_mF d f) (q_mH d h) ns = some (q_mR d r) := by
  intro n
  induction n with
  | zero => intro dp t f h ns r hs; cases hs
  | succ n ih =>
    intro dp t f h ns r hs
    have hcal : ∀ k a h ns r, q_call O ts n dp k a h ns = some r → q_call q_O32 ts n dp k (q_mL d a) (q_mH d h) ns = some (q_mR d r) := by
      intro k a h ns r hc
      rcases dp with _ | dp
      · cases hc
      · unfold q_call at hc ⊢
        simp only at hc ⊢
        split at hc
        next t2 ht2 =>
          have h1 := ih dp t2 (0, q_args 0 a, []) h ns r hc
          rw [show q_mF d (0, q_args 0 a, []) = (0, q_args 0 (q_mL d a), []) by rw [q_m_args]; rfl] at h1
          exact h1
        next => cases hc
    rw [q_exec_succ] at hs ⊢
    split at hs
    next s1 hst =>
      have h1 := q_m_step H hcal hst
      rw [show (Option.map (fun l => List.map d l) none : Option (List Int32)) = none from rfl] at h1
      rw [h1]
      exact ih dp t s1.1 s1.2.1 s1.2.2 r hs
    next r1 hst =>
      have h1 := q_m_step H hcal hst
      rw [show (Option.map (fun l => List.map d l) none : Option (List Int32)) = none from rfl] at h1
      rw [h1]
      cases hs
      rfl
    next => cases hs
theorem q_m_call (H : q_Hm O d) (ts : List q_T) (n dp : Nat) : ∀ k a h ns r, q_call O ts n dp k a h ns = some r → q_call q_O32 ts n dp k (q_mL d a) (q_mH d h) ns = some (q_mR d r) := by
  intro k a h ns r hc
  rcases dp with _ | dp
  · cases hc
  · unfold q_call at hc ⊢
    simp only at hc ⊢
    split at hc
    next t2 ht2 =>
      have h1 := q_m_exec H ts n dp t2 (0, q_args 0 a, []) h ns r hc
      rw [show q_mF d (0, q_args 0 a, []) = (0, q_args 0 (q_mL d a), []) by rw [q_m_args]; rfl] at h1
      exact h1
    next => cases hc
theorem q_m_iter (H : q_Hm O d) (ts : List q_T) (n dp : Nat) (t : q_T) (scr : Option (List A)) : ∀ (j : Nat) (s s' : q_S A), q_iter O scr ts n dp t j s = some s' → q_iter q_O32 (scr.map (fun l => l.map d)) ts n dp t j (q_mS d s) = some (q_mS d s') := by
  intro j
  induction j with
  | zero => intro s s' hs; cases hs; rfl
  | succ j ih =>
    intro s s' hs
    unfold q_iter at hs ⊢
    split at hs
    next s1 hst =>
      have h1 := q_m_step H (q_m_call H ts n dp) hst
      rw [show q_step q_O32 (scr.map (fun l => l.map d)) (q_call q_O32 ts n dp) t (q_mS d s).1 (q_mS d s).2.1 (q_mS d s).2.2 = some (.inl (q_mS d s1)) from h1]
      exact ih s1 s' hs
    next => cases hs
end SIM2
