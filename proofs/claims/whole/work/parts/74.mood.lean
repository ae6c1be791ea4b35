/-! setMood, addPage -/
theorem sp_mood (x : Int32) : ((-99 ≤ x.toInt ∧ x.toInt ≤ 99) ∧ fn_X5_isMood x = some 1 ∧ fn_X6_isTenths x = some 1) ∨ (fn_X5_isMood x = some 0 ∧ fn_X6_isTenths x = some 0) := by
  unfold fn_X5_isMood fn_X6_isTenths fn_X6_in
  by_cases h1 : x < -99
  · right
    rw [if_pos h1]
    exact ⟨rfl, rfl⟩
  · by_cases h2 : 99 < x
    · right
      rw [if_neg h1, if_pos h2]
      exact ⟨rfl, rfl⟩
    · left
      rw [if_neg h1, if_neg h2]
      rw [Int32.lt_iff_toInt_lt] at h1 h2
      have h1 : ¬ x.toInt < -99 := h1
      have h2 : ¬ 99 < x.toInt := h2
      exact ⟨⟨by omega, by omega⟩, rfl, rfl⟩
theorem sp_flags (x : Int32) : (∃ f, f < 32 ∧ x = nI f ∧ fn_X5_isFlagSet x = some 1 ∧ fn_X6_areFlags x = some 1) ∨ (fn_X5_isFlagSet x = some 0 ∧ fn_X6_areFlags x = some 0) := by
  unfold fn_X5_isFlagSet fn_X6_areFlags
  rcases pm_in (x := x) (n := 32) (by omega) with ⟨p, hp, hx, hi⟩ | ⟨hno, hi⟩
  · left
    have hi : fn_X6_in x 0 31 = some 1 := hi
    refine ⟨p, hp, hx, ?_, by rw [hi]; rfl⟩
    rw [hx, if_neg (nI_pos (by omega)), if_neg (by show ¬ nI 32 ≤ nI p; rw [nI_leI (by omega) (by omega)]; omega)]
  · right
    have hi : fn_X6_in x 0 31 = some 0 := hi
    refine ⟨?_, by rw [hi]; rfl⟩
    by_cases h0 : x < 0
    · rw [if_pos h0]
    · obtain ⟨t, ht, rfl⟩ := pl_nat h0
      rw [if_neg h0, if_pos]
      show nI 32 ≤ nI t
      rw [nI_leI (by omega) (by omega)]
      apply Nat.le_of_not_lt
      intro hc
      exact hno t hc rfl
/-- a page of B is a page of A, moved rows aside -/
theorem wp_same {n m : Nat} {A B : Nat → Int32} {p : Nat} (h : pl_WP n A p) (hnm : n ≤ m) (hj : ∀ j, 1 + 13 * p ≤ j → j < 14 + 13 * p → B j = A j) : pl_WP m B p := by
  obtain ⟨a1, a2, a3, a4, a5, a6⟩ := h
  have hm : pl_m B p = pl_m A p := wb_m (hj _ (by omega) (by omega))
  unfold pl_WP
  rw [hm, hj _ (by omega) (by omega), hj _ (by omega) (by omega), hj _ (by omega) (by omega), hj _ (by omega) (by omega)]
  refine ⟨a1, a2, a3, a4, a5, fun c hc => ?_⟩
  obtain ⟨⟨t, t1, t2⟩, k2, k3⟩ := a6 c hc
  refine ⟨⟨t, by omega, ?_⟩, ?_, ?_⟩
  · rw [hj _ (by omega) (by omega)]; exact t2
  · rw [hj _ (by omega) (by omega)]; exact k2
  · rw [hj _ (by omega) (by omega)]; exact k3
theorem wr_up {n m : Nat} {a f : Int32} (h : pl_WR n a f) (hnm : n ≤ m) : pl_WR m a f := by
  rcases h with h | ⟨⟨p, hp, ha⟩, hf⟩
  · exact Or.inl h
  · exact Or.inr ⟨⟨p, by omega, ha⟩, hf⟩
theorem sm_setMood : hs_setMood Sm := by
  intro σ μ hSm a1 a2
  have hSm' := hSm
  obtain ⟨⟨n, h, hr, hk⟩, -⟩ := hSm'
  have hn := h.1
  have z1 : ¬ (1 : Int32) = 0 := by decide
  unfold fn_X5_setMood fn_X6_setMood jn_X6_setMood_27
  rw [hc_r0]
  rcases sp_page h hr a1 with ⟨p, hp, rfl, e1, e2⟩ | ⟨e1, e2⟩
  · rw [e1, e2, Option.bind_some, Option.bind_some, if_neg z1, if_neg z1]
    rcases sp_mood a2 with ⟨hv, f1, f2⟩ | ⟨f1, f2⟩
    · obtain ⟨r1, r2, r3, r4, r5⟩ := hr.2.1 p hp
      rw [f1, f2, Option.bind_some, Option.bind_some, if_neg z1, if_neg z1, pl_at (r := hc_rf 1 1) (a := 3) (n := 32) (by decide) (by omega), Option.bind_some, pm_of0 (by omega), Option.bind_some, show σ 3 p = μ 1 (1 + 13 * p) from r1]
      by_cases q : μ 1 (1 + 13 * p) = a2
      · rw [if_pos q, if_pos q, Option.bind_some, if_neg z1]
        exact ⟨_, _, _, rfl, rfl, hSm⟩
      · obtain ⟨σ1, μ1, k1, k2, k3, k4, k5, k6, k7, k8⟩ := sm_record hSm
        have eB : μ1 1 = μ 1 := k7 1 (by decide) (by decide)
        have h1 : pl_WB n (μ1 1) := by rw [eB]; exact h
        have hr1 : pl_RS σ1 1 n (μ1 1) := by rw [eB]; exact hr.congr (fun c _ h2 => k5 c (by omega))
        have est : hb_st ΛM μ1 (hm_rf 0 0) (((1 : Int32) + ((13 : Int32) * nI p)) + 0) a2 = some (hb_up μ1 1 (1 + 13 * p) a2) := by
          rw [show (0 : Int32) = nI 0 from rfl, pm_i1]
          exact pm_stt (a := hm_rf 0 0) (n := 425) (by decide) (by omega) (by decide) a2 μ1
        have hB : ∀ j, hb_up μ1 1 (1 + 13 * p) a2 1 j = if j = 1 + 13 * p then a2 else μ1 1 j := by
          intro j
          by_cases k0 : j = 1 + 13 * p
          · rw [if_pos k0, k0, pl_up_same]
          · rw [if_neg k0, pl_up_other k0]
        have hS : ∀ j, hb_up σ1 3 p a2 3 j = if j = p then a2 else σ1 3 j := by
          intro j
          by_cases k0 : j = p
          · rw [if_pos k0, k0, pl_up_same]
          · rw [if_neg k0, pl_up_other k0]
        have hsz : fn_X1_at (hc_rf 1 4) (nI p) (hb_up σ1 3 p a2) = some (μ 1 (4 + 13 * p)) := by
          rw [pl_at (r := hc_rf 1 4) (a := 9) (n := 32) (by decide) (by omega), hb_up_ne (by decide), k5 9 (by decide)]
          exact congrArg some r4
        obtain ⟨μ2, hμ2⟩ : ∃ m, m = hb_up μ1 1 (1 + 13 * p) a2 := ⟨_, rfl⟩
        obtain ⟨σ2, hσ2⟩ : ∃ s, s = hb_up σ1 3 p a2 := ⟨_, rfl⟩
        have hoff2 : ∀ c, c ≠ 3 → σ2 c = σ1 c := fun c hc => by rw [hσ2, hb_up_ne hc]
        have hoff : ∀ c, c ≠ 1 → μ2 c = μ1 c := fun c hc => by rw [hμ2, hb_up_ne hc]
        rw [if_neg q, if_neg q, k1, k2, Option.bind_some, Option.bind_some, pl_put (r := hc_rf 1 1) (a := 3) (n := 32) (by decide) (by omega), Option.bind_some, hsz, Option.bind_some, est, Option.bind_some, pm_of3 (by omega), Option.bind_some, hB, if_neg (by omega), eB]
        rw [← hμ2] at hB ⊢
        rw [← hσ2] at hS ⊢
        have hlow : ∀ j, j ≠ 1 + 13 * p → μ2 1 j = μ1 1 j := fun j hj => by rw [hB, if_neg hj]
        have hW : pl_WB n (μ2 1) := by
          refine ⟨hn, by rw [hlow _ (by omega)]; exact h1.2.1, fun p' hp' => ?_, fun r' hr' => by rw [hlow _ (by omega), hlow _ (by omega)]; exact h1.2.2.2.1 r' hr', by rw [hlow _ (by omega), hlow _ (by omega)]; exact h1.2.2.2.2⟩
          have hP := h1.2.2.1 p' hp'
          by_cases e : p' = p
          · subst e
            obtain ⟨b1, b2, b3, b4, b5, b6⟩ := hP
            have hm : pl_m (μ2 1) p' = pl_m (μ1 1) p' := wb_m (hlow _ (by omega))
            unfold pl_WP
            rw [hm, hB, if_pos rfl, hlow _ (by omega), hlow _ (by omega), hlow _ (by omega)]
            refine ⟨hv, b2, b3, b4, b5, fun c hc => ?_⟩
            have := b6 c hc
            unfold pl_WC at this ⊢
            rw [hlow _ (by omega), hlow _ (by omega), hlow _ (by omega)]
            exact this
          · exact wp_same hP (Nat.le_refl n) (fun j j1 j2 => hlow j (by omega))
        have hR : pl_RS σ2 1 n (μ2 1) := by
          obtain ⟨c1, c2, c3, c4⟩ := hr1
          refine ⟨by rw [hoff2 1 (by decide)]; exact c1, fun p' hp' => ?_, fun r' hr' => by rw [hlow _ (by omega), hlow _ (by omega), hlow _ (by omega), hoff2 _ (by decide), hoff2 _ (by decide)]; exact c3 r' hr', by rw [hlow _ (by omega), hlow _ (by omega), hoff2 1 (by decide)]; exact c4⟩
          obtain ⟨b1, b2, b3, b4, b5⟩ := c2 p' hp'
          have hm : pl_m (μ2 1) p' = pl_m (μ1 1) p' := wb_m (hlow _ (by omega))
          have hm3 := (h1.m hp').1
          rw [hm, hlow (2 + 13 * p') (by omega), hlow (3 + 13 * p') (by omega), hlow (4 + 13 * p') (by omega)]
          refine ⟨?_, by rw [hoff2 _ (by decide)]; exact b2, by rw [hoff2 _ (by decide)]; exact b3, by rw [hoff2 _ (by decide)]; exact b4, fun c hc => ?_⟩
          · show σ2 3 p' = _
            rw [hS, hB]
            by_cases e : p' = p
            · rw [if_pos e, if_pos (by omega)]
            · rw [if_neg e, if_neg (by omega)]
              exact b1
          · rw [hlow _ (by omega), hlow _ (by omega), hlow _ (by omega), hoff2 _ (by decide), hoff2 _ (by decide), hoff2 _ (by decide)]
            exact b5 c hc
        exact ⟨_, _, _, rfl, rfl, k3.put k4 (fun c hc => hoff2 c (by omega)) hoff hW hR⟩
    · rw [f1, f2, Option.bind_some, Option.bind_some, if_pos rfl, if_pos rfl, Option.bind_some, if_pos rfl]
      exact ⟨_, _, _, rfl, rfl, hSm⟩
  · rw [e1, e2]
    exact ⟨_, _, _, rfl, rfl, hSm⟩
