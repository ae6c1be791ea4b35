/-! the questions: way, wayMood, count -/
theorem pc_surveyed2 {σ : hb_Mem} (h : σ 147 0 = 1) : fn_X5_surveyed 0 σ = some σ := by
  unfold fn_X5_surveyed jn_X5_surveyed_21
  rw [hc_r6, if_neg (by rw [h]; decide)]
theorem sp_in2 (x : Int32) : (∃ w, w < 3 ∧ x = nI w ∧ fq_in x 0 2 = some 1) ∨ ((x < 0 ∨ (¬ x < 0 ∧ ¬ x ≤ 2)) ∧ fq_in x 0 2 = some 0) := by
  rcases pq_in (x := x) (n := 3) (by omega) with ⟨w, hw, hx, hi⟩ | ⟨hno, hi⟩
  · exact Or.inl ⟨w, hw, hx, hi⟩
  · refine Or.inr ⟨?_, hi⟩
    by_cases h0 : x < 0
    · exact Or.inl h0
    · obtain ⟨t, ht, rfl⟩ := pl_nat h0
      refine Or.inr ⟨h0, fun hc => ?_⟩
      have hc : nI t ≤ nI 2 := hc
      rw [nI_leI (by omega) (by omega)] at hc
      exact hno t (by omega) rfl
