/-! more steps do no harm: what a run gives, every longer one gives -/
section MONO
variable {I : Type} {O : q_O I}
theorem q_act_mono {scr : Option (List I)} {cal cal' : Nat → List (q_V I) → q_H I → Nat → Option (q_R I)} (hc : ∀ k a h ns r, cal k a h ns = some r → cal' k a h ns = some r) {ins : Jvm.ClassFile.Instr} {len : Nat} {r : List Nat} {f : q_F I} {h : q_H I} {ns : Nat} {x : q_S I ⊕ q_R I} (hs : q_act O scr cal ins len r f h ns = some x) : q_act O scr cal' ins len r f h ns = some x := by
  have hinv : ∀ sv r, q_inv cal sv r len f h ns = some x → q_inv cal' sv r len f h ns = some x := by
    intro sv r hh
    unfold q_inv at hh ⊢
    rcases r with _ | ⟨k, _ | ⟨na, _ | ⟨ml, y⟩⟩⟩
    · cases hh
    · cases hh
    · cases hh
    · simp only at hh ⊢
      cases htk : q_take na f.2.2 [] with
      | none => rw [htk] at hh; cases hh
      | some q =>
        obtain ⟨a, st⟩ := q
        rw [htk] at hh
        simp only at hh ⊢
        cases hb : Nat.ble (q_cats st) 8 && (Nat.ble (q_cats a) ml && q_may sv y a h) with
        | false => rw [hb] at hh; cases hh
        | true =>
          rw [hb, cond_true] at hh
          rw [cond_true]
          cases hcl : cal k a h ns with
          | none => rw [hcl] at hh; cases hh
          | some q =>
            rw [hcl] at hh
            rw [hc _ _ _ _ _ hcl]
            exact hh
  cases ins with
  | invokevirtual i => exact hinv _ _ hs
  | invokestatic i =>
    rcases r with _ | ⟨k, _ | ⟨k2, r⟩⟩
    · exact hs
    · exact hs
    · exact hinv _ _ hs
  | invokespecial i =>
    rcases r with _ | ⟨k, r⟩
    · exact hs
    · exact hinv _ _ hs
  | _ => exact hs
theorem q_step_mono {scr : Option (List I)} {cal cal' : Nat → List (q_V I) → q_H I → Nat → Option (q_R I)} (hc : ∀ k a h ns r, cal k a h ns = some r → cal' k a h ns = some r) {t : q_T} {f : q_F I} {h : q_H I} {ns : Nat} {x : q_S I ⊕ q_R I} (hs : q_step O scr cal t f h ns = some x) : q_step O scr cal' t f h ns = some x := by
  unfold q_step at hs ⊢
  split at hs
  next q hq => exact q_act_mono hc hs
  next => cases hs
theorem q_exec_mono (ts : List q_T) : ∀ (n m d e : Nat) (t : q_T) (f : q_F I) (h : q_H I) (ns : Nat) (r : q_R I), n ≤ m → d ≤ e → q_exec O ts n d t f h ns = some r → q_exec O ts m e t f h ns = some r := by
  intro n
  induction n with
  | zero => intro m d e t f h ns r _ _ hs; cases hs
  | succ n ih =>
    intro m d e t f h ns r hm hd hs
    rcases m with _ | m
    · omega
    · have hcal : ∀ k a h ns r, q_call O ts n d k a h ns = some r → q_call O ts m e k a h ns = some r := by
        intro k a h ns r hc
        rcases d with _ | d
        · cases hc
        · rcases e with _ | e
          · omega
          · unfold q_call at hc ⊢
            simp only at hc ⊢
            cases hk : ts[k]? with
            | none => rw [hk] at hc; cases hc
            | some t2 =>
              rw [hk] at hc
              exact ih m d e t2 _ h ns r (by omega) (by omega) hc
      rw [q_exec_succ] at hs ⊢
      split at hs
      next s hst =>
        rw [q_step_mono hcal hst]
        exact ih m d e t _ _ _ r (by omega) hd hs
      next r1 hst =>
        rw [q_step_mono hcal hst]
        exact hs
      next => cases hs
theorem q_call_mono (ts : List q_T) {n m d e : Nat} (hm : n ≤ m) (hd : d ≤ e) : ∀ k a h ns r, q_call O ts n d k a h ns = some r → q_call O ts m e k a h ns = some r := by
  intro k a h ns r hc
  rcases d with _ | d
  · cases hc
  · rcases e with _ | e
    · omega
    · unfold q_call at hc ⊢
      simp only at hc ⊢
      cases hk : ts[k]? with
      | none => rw [hk] at hc; cases hc
      | some t2 =>
        rw [hk] at hc
        exact q_exec_mono ts n m d e t2 _ h ns r hm (by omega) hc
/-- a method's run, whatever the steps: it ends with r -/
def q_Ends (O : q_O I) (ts : List q_T) (d : Nat) (t : q_T) (f : q_F I) (h : q_H I) (ns : Nat) (r : q_R I) : Prop := ∃ n, q_exec O ts n d t f h ns = some r
/-- one step on, with calls that end -/
theorem q_Ends.step {ts : List q_T} {d n : Nat} {t : q_T} {f f1 : q_F I} {h h1 : q_H I} {ns n1 : Nat} {r : q_R I} (hs : q_step O none (q_call O ts n d) t f h ns = some (.inl (f1, h1, n1))) (he : q_Ends O ts d t f1 h1 n1 r) : q_Ends O ts d t f h ns r := by
  obtain ⟨m, hm⟩ := he
  refine ⟨max n m + 1, ?_⟩
  rw [q_exec_succ, q_step_mono (q_call_mono ts (Nat.le_max_left n m) (Nat.le_refl d)) hs]
  exact q_exec_mono ts m _ d d t f1 h1 n1 r (Nat.le_max_right n m) (Nat.le_refl d) hm
theorem q_Ends.ret {ts : List q_T} {d n : Nat} {t : q_T} {f : q_F I} {h : q_H I} {ns : Nat} {r : q_R I} (hs : q_step O none (q_call O ts n d) t f h ns = some (.inr r)) : q_Ends O ts d t f h ns r := ⟨n + 1, by rw [q_exec_succ, hs]⟩
end MONO
