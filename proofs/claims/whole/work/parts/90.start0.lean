/-! the first memories stand in the simulation -/
theorem sm_start : Sm hc_s0 hm_s0 := by
  have hr2 : ∀ r, r < 2 → hm_s0 1 (417 + 3 * r) = -5 := by decide +kernel
  have hr3 : ∀ r, r < 2 → hc_s0 17 r = -1 ∧ hc_s0 19 r = hm_s0 1 (419 + 3 * r) := by decide +kernel
  have h423 : hm_s0 1 423 = -5 := by decide +kernel
  have h10 : hc_s0 1 10 = -1 := by decide +kernel
  have hplc : ∀ f, pl_plc (-5) f = -1 := fun f => by
    unfold pl_plc
    rw [if_pos rfl]
  refine ⟨⟨0, ⟨by decide, by decide +kernel, fun p hp => by omega, fun r hr => Or.inl (hr2 r hr), Or.inl h423⟩, ⟨by decide +kernel, fun p hp => by omega, fun r hr => ⟨?_, (hr3 r hr).2⟩, ?_⟩, Or.inl (by decide +kernel)⟩, ⟨by decide +kernel, Or.inl (by decide +kernel)⟩, ⟨0, 0, by decide, by decide, by decide +kernel, by decide +kernel, by decide +kernel, fun i hi => by omega⟩, ⟨0, by decide, by decide +kernel, by decide +kernel, fun i hi => by omega⟩⟩
  · rw [hr2 r hr, hplc]
    exact (hr3 r hr).1
  · rw [h423, hplc]
    exact h10
