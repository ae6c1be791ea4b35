/-! the history: record, undo, keep, restore -/
theorem pc_ring : ∀ nx, nx < 4 → ∀ σ : hb_Mem, fn_X0_stateAt 58 (nI nx) σ = some (some (60 + 19 * nx)) := by
  intro nx h σ
  have h4 : nx = 0 ∨ nx = 1 ∨ nx = 2 ∨ nx = 3 := by omega
  rcases h4 with rfl | rfl | rfl | rfl
  · rfl
  · rfl
  · rfl
  · rfl
theorem pl_st_ring {nx : Nat} (h : nx < 4) : pl_st (60 + 19 * nx) := (by decide : ∀ nx, nx < 4 → pl_st (60 + 19 * nx)) nx h
theorem pc_record {σ : hb_Mem} {sz nx : Nat} (h1 : sz ≤ 4) (h2 : nx < 4) (h3 : σ 58 2 = nI sz) (h4 : σ 58 1 = nI nx) : ∃ σ', fn_X5_record 0 σ = some σ' ∧ (∀ c, c ≠ 58 → c ≠ 147 → (c < 60 + 19 * nx ∨ 60 + 19 * nx + 19 ≤ c) → σ' c = σ c) ∧ pl_same σ' (60 + 19 * nx) σ 1 ∧ σ' 58 1 = nI ((nx + 1) % 4) ∧ σ' 58 2 = nI (min 4 (sz + 1)) ∧ σ' 147 0 = 0 := by
  unfold fn_X5_record fn_X0_push
  rw [show hc_rf 0 4 = 58 from by decide, hc_r0, hc_r6, h4, pc_ring nx h2, Option.bind_some, Option.bind_some]
  obtain ⟨σ1, c1, c2, c3⟩ := pl_copy (pl_st_ring h2) (show pl_st 1 by decide) (by omega) σ
  rw [c1, Option.bind_some]
  have e58 : σ1 58 = σ 58 := c2 58 (by omega)
  unfold jn_X0_push_18 jn_X0_push_39 jn_X0_push_61
  simp only [hb_nm]
  have key : ∀ (x y : Int32), x = nI ((nx + 1) % 4) → y = nI (min 4 (sz + 1)) → ∃ σ', (some (hb_up (hb_up (hb_up σ1 58 1 x) 58 2 y) 147 0 0) : Option hb_Mem) = some σ' ∧ (∀ c, c ≠ 58 → c ≠ 147 → (c < 60 + 19 * nx ∨ 60 + 19 * nx + 19 ≤ c) → σ' c = σ c) ∧ pl_same σ' (60 + 19 * nx) σ 1 ∧ σ' 58 1 = nI ((nx + 1) % 4) ∧ σ' 58 2 = nI (min 4 (sz + 1)) ∧ σ' 147 0 = 0 := by
    intro x y hx hy
    refine ⟨_, rfl, fun c k1 k2 k3 => ?_, ?_, ?_, ?_, pl_up_same _ _ _ _⟩
    · rw [hb_up_ne k2, hb_up_ne k1, hb_up_ne k1]
      exact c2 c k3
    · obtain ⟨a1, a2, a3, a4, a5, a6, a7, a8, a9, a10, a11⟩ := c3
      have hh : ∀ c, 60 ≤ c → c < 147 → hb_up (hb_up (hb_up σ1 58 1 x) 58 2 y) 147 0 0 c = σ1 c := fun c k1 k2 => by rw [hb_up_ne (by omega), hb_up_ne (by omega), hb_up_ne (by omega)]
      refine ⟨?_, ?_, ?_, ?_, ?_, ?_, ?_, ?_, ?_, ?_, ?_⟩
      · rw [hh _ (by omega) (by omega)]; exact a1
      · rw [hh _ (by omega) (by omega)]; exact a2
      · rw [hh _ (by omega) (by omega)]; exact a3
      · rw [hh _ (by omega) (by omega)]; exact a4
      · rw [hh _ (by omega) (by omega)]; exact a5
      · rw [hh _ (by omega) (by omega)]; exact a6
      · rw [hh _ (by omega) (by omega)]; exact a7
      · rw [hh _ (by omega) (by omega)]; exact a8
      · rw [hh _ (by omega) (by omega)]; exact a9
      · rw [hh _ (by omega) (by omega)]; exact a10
      · rw [hh _ (by omega) (by omega)]; exact a11
    · rw [pl_up_ne (by decide), pl_up_other (by decide), pl_up_same]; exact hx
    · rw [pl_up_ne (by decide), pl_up_same]; exact hy
  have e582 : ∀ v, hb_up σ1 58 1 v 58 2 = nI sz := fun v => by rw [pl_up_other (by decide), e58]; exact h3
  rw [e58, h4, e582, e582, nI_1, nI_1]
  by_cases q1 : 3 ≤ nx
  · have z1 : (4 : Int32) ≤ nI (nx + 1) := by show nI 4 ≤ _; rw [nI_leI (by omega) (by omega)]; omega
    rw [if_pos z1]
    have hx : (0 : Int32) = nI ((nx + 1) % 4) := by rw [show (nx + 1) % 4 = 0 by omega]; rfl
    by_cases q2 : 4 ≤ sz
    · have z2 : (4 : Int32) ≤ nI sz := by show nI 4 ≤ _; rw [nI_leI (by omega) (by omega)]; omega
      rw [if_pos z2, Option.bind_some]
      exact key _ _ hx (by rw [show min 4 (sz + 1) = 4 by omega]; rfl)
    · have z2 : ¬ (4 : Int32) ≤ nI sz := by show ¬ nI 4 ≤ _; rw [nI_leI (by omega) (by omega)]; omega
      rw [if_neg z2, Option.bind_some]
      exact key _ _ hx (by rw [show min 4 (sz + 1) = sz + 1 by omega])
  · have z1 : ¬ (4 : Int32) ≤ nI (nx + 1) := by show ¬ nI 4 ≤ _; rw [nI_leI (by omega) (by omega)]; omega
    rw [if_neg z1]
    have hx : nI (nx + 1) = nI ((nx + 1) % 4) := by rw [show (nx + 1) % 4 = nx + 1 by omega]
    by_cases q2 : 4 ≤ sz
    · have z2 : (4 : Int32) ≤ nI sz := by show nI 4 ≤ _; rw [nI_leI (by omega) (by omega)]; omega
      rw [if_pos z2, Option.bind_some]
      exact key _ _ hx (by rw [show min 4 (sz + 1) = 4 by omega]; rfl)
    · have z2 : ¬ (4 : Int32) ≤ nI sz := by show ¬ nI 4 ≤ _; rw [nI_leI (by omega) (by omega)]; omega
      rw [if_neg z2, Option.bind_some]
      exact key _ _ hx (by rw [show min 4 (sz + 1) = sz + 1 by omega])
