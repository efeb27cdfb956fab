/-! ALL THAT IS ALIKE, over a call -/
section JA
theorem y_Un_T {s : y_H} (h : y_Un s) : (s.2.2 0 2 = 5 ∨ s.2.2 0 2 = 17) ∧ (s.2.2 0 3 = 5 ∨ s.2.2 0 3 = 17) ∧ 22 - s.2.2 0 3 = s.2.2 0 2 := by
  rcases h with ⟨a, b⟩ | ⟨a, b⟩
  · rw [a, b]
    exact ⟨Or.inl rfl, Or.inr rfl, rfl⟩
  · rw [a, b]
    exact ⟨Or.inr rfl, Or.inl rfl, rfl⟩
theorem jA_of {s s3 : y_H} (hU : y_Un s) (hg : jA s) (hX : jX s3.1) (e : ∀ o k, tv o k → s3.1 o k = s.1 o k) (eT : s3.2.2 0 2 = s.2.2 0 2) : jA s3 := by
  obtain ⟨-, ⟨a, b, h1⟩, m, t, h2⟩ := hg
  refine ⟨hX, ⟨a, b, ?_⟩, m, t, aV_fr h2 (fun o k q => e o k (Or.inr (Or.inr (Or.inr q))))⟩
  rw [eT]
  exact aT_fr h1 (fun o k q => e o k (tv_D (y_Un_T hU).1 q))
/-- behind a quay -/
theorem jA_quay {s s2 s3 : y_H} {v v3 : Option (q_V Int32)} (hU : y_Un s) (hg : jA s) (hx : z3_Q (s.2.2 0 3) s v s2) (h2 : ∀ o k, 65 ≤ o → zT o k → s2.1 o k = s.1 o k) (h3 : ∀ o k, o ≤ 64 → zT o k → s3.1 o k = s2.1 o k) (h3T : s3.2.2 0 2 = s2.2.2 0 2) (h31 : s3.1 1 1 = 0) (h365 : s3.1 65 1 = 0) (hm : ∃ t3, u_c 275 [.inr (.inr 67)] (uP s2) = some (v3, t3) ∧ zA t3 s3) : v = v3 ∧ jA s3 := by
  obtain ⟨u1, u2, u3⟩ := y_Un_T hU
  obtain ⟨hX, ⟨a0, b0, hT⟩, m0, t0, hV⟩ := hg
  obtain ⟨⟨w1, w2, w3⟩, hq⟩ := q_alike u2 hX hx.2 h2 h3 hm
  have zf : ∀ k, (k = 8 ∨ k = 9) → zT 27 k := fun k hk => by
    rcases hk with rfl | rfl <;> exact ⟨⟨_, rfl, by decide⟩, rfl⟩
  have hX3 : jX s3.1 := by
    refine ⟨⟨0, Nat.zero_le _, h31, h365, fun k hk => absurd hk (Nat.not_lt_zero k)⟩, ?_, ?_⟩
    · rw [h3 27 8 (by omega) (zf 8 (by omega))]
      exact w2
    · rw [h3 27 9 (by omega) (zf 9 (by omega))]
      exact w3
  refine ⟨w1, ?_⟩
  rcases hq with ⟨⟨f1, f2⟩, f3⟩ | ⟨a, b, d, tq, hAT, ⟨g1, g2, g3, g4, g5, g6, g7, g8⟩, -, -, -, ⟨k1, k2, k3, k4, k5⟩, k6⟩
  · rw [u3] at f1
    refine ⟨hX3, ⟨a0, b0, ?_⟩, m0, t0, aV_fr hV (fun o k q => ?_)⟩
    · rw [h3T, f2]
      refine aT_fr hT (fun o k q => ?_)
      rcases q with q | q
      · have hz : zT o k := qD_T u1 q
        have ho : o ≤ 64 := by
          unfold qD at q
          omega
        rw [h3 o k ho hz]
        exact f1 o k (Or.inl q)
      · have hz : zT o k := mD_T q
        refine f3 o k ?_ hz ?_
        · unfold mD at q
          omega
        · unfold mD at q
          unfold fMR fML
          omega
    · have hz : zT o k := vS_T q
      rcases q with q | q | q
      · have ho : o ≤ 64 := by
          unfold qV at q
          omega
        rw [h3 o k ho hz]
        exact f1 o k (Or.inr (Or.inr (Or.inr q)))
      · refine f3 o k (by omega) hz ?_
        unfold fMR fML
        omega
      · refine f3 o k (by omega) hz ?_
        unfold fMR fML
        omega
  · have z55 : ∀ k, (k = 0 ∨ k = 1) → zT 55 k := fun k hk => qV_T (by unfold qV; omega)
    refine ⟨hX3, ⟨a, b, ?_⟩, 0, t0, Nat.zero_le _, hV.2.1, ⟨?_, k3, ?_, ?_⟩, fun j hj => absurd hj (Nat.not_lt_zero j)⟩
    · rw [h3T, g8]
      exact hAT
    · rw [h3 55 1 (by omega) (z55 1 (by omega))]
      exact g6
    · rw [h3 55 0 (by omega) (z55 0 (by omega)), g7]
      exact hV.2.2.1.2.2.1
    · rw [k6]
      exact hV.2.2.1.2.2.2
end JA
