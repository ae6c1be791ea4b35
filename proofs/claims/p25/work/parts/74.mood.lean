/-- a page of B is a page of A, moved rows aside -/
theorem wp_same {n m : Nat} {A B : Nat → Int32} {p : Nat} (h : pl_WP n A p) (hnm : n ≤ m) (hj : ∀ j, 1 + 13 * p ≤ j → j < 14 + 13 * p → B j = A j) : pl_WP m B p := by
  obtain ⟨a1, a2, a3, a4, a5, a6⟩ := h
  have hm : pl_m B p = pl_m A p := wb_m (hj _ (by omega) (by omega))
  unfold pl_WP
  rw [hm, hj _ (by omega) (by omega), hj _ (by omega) (by omega), hj _ (by omega) (by omega), hj _ (by omega) (by omega)]
  refine ⟨a1, a2, a3, a4, a5, fun c hc => ?_⟩
  obtain ⟨⟨t, t1, t2⟩, k2, k3⟩ := a6 c hc
  refine ⟨⟨t, by omega, ?_⟩, ?_, ?_⟩
  · rw [hj _ (by omega) (by omega)]; exact t2
  · rw [hj _ (by omega) (by omega)]; exact k2
  · rw [hj _ (by omega) (by omega)]; exact k3
theorem wr_up {n m : Nat} {a f : Int32} (h : pl_WR n a f) (hnm : n ≤ m) : pl_WR m a f := by
  rcases h with h | ⟨⟨p, hp, ha⟩, hf⟩
  · exact Or.inl h
  · exact Or.inr ⟨⟨p, by omega, ha⟩, hf⟩
