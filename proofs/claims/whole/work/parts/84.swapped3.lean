theorem pm_exch {n p q : Nat} {μ : hb_Mem} (h : pl_WB n (μ 1)) (hp : p < n) (hq : q < n) (hne : p ≠ q) (v : Int32) : ∃ t1 t2, ll_X6_exchange_63 0 (nI p) (nI q) v (0, μ) = some t1 ∧ ll_X6_exchange_125 0 (nI p) (nI q) v (0, t1) = some t2 ∧ (∀ k, k ≠ 1 → t2 k = μ k) ∧ sx (μ 1) (t2 1) n p q := by
  have hn := h.1
  obtain ⟨t1, a1, a2, a3⟩ := pm_swap (n := n) (μ := μ) (show p < 32 by omega) (show q < 32 by omega) hne v
  have hrow3 : ∀ r, t1 1 (4 + 13 * r) = μ 1 (4 + 13 * pgm p q r) := fun r => by
    have := sw1_row (B := μ 1) (r := r) (w := 3) hne (by decide)
    rw [show 1 + 13 * r + 3 = 4 + 13 * r by omega, show 1 + 13 * pgm p q r + 3 = 4 + 13 * pgm p q r by omega] at this
    rw [a3, this]
  obtain ⟨t2, b1, b2, b3⟩ := pm_retarget (n := n) (p := p) (q := q) (μ := t1) hn (by rw [a3, sw1_off (by omega) (by omega) (Or.inl rfl)]; exact h.2.1) (fun r hr => by
    obtain ⟨m1, m2⟩ := h.m (pgm_lt hp hq hr)
    have e : pl_m (t1 1) r = pl_m (μ 1) (pgm p q r) := by
      unfold pl_m
      rw [hrow3]
    rw [e, hrow3]
    exact ⟨m1, m2⟩) v
  exact ⟨t1, t2, a1, b1, fun k hk => (b2 k hk).trans (a2 k hk), sx_of h hp hq hne a3 b3⟩
