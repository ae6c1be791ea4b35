/-! addPage -/
theorem sm_addPage : hs_addPage Sm := by
  intro σ μ hSm a1 a2 a3
  have hSm' := hSm
  obtain ⟨⟨n, h, hr, hk⟩, -⟩ := hSm'
  have hn := h.1
  have z1 : ¬ (1 : Int32) = 0 := by decide
  unfold fn_X5_addPage fn_X6_addPage
  rw [hc_r0]
  rcases sp_mood a1 with ⟨hv, f1, f2⟩ | ⟨f1, f2⟩
  · rw [f1, f2, Option.bind_some, Option.bind_some, if_neg z1, if_neg z1]
    rcases sp_flags a2 with ⟨s, hs, rfl, f3, f4⟩ | ⟨f3, f4⟩
    · rw [f3, f4, Option.bind_some, Option.bind_some, if_neg z1, if_neg z1]
      rcases sp_flags a3 with ⟨t, ht, rfl, f5, f6⟩ | ⟨f5, f6⟩
      · rw [f5, f6, Option.bind_some, Option.bind_some, if_neg z1, if_neg z1, hr.1, pm_n0 h, Option.bind_some]
        by_cases q : n = 32
        · have q1 : ¬ nI n < 32 := by show ¬ nI n < nI 32; rw [nI_ltI (by omega) (by omega)]; omega
          have q2 : nI n = 32 := by rw [q]; rfl
          rw [if_neg q1, if_pos q2]
          exact ⟨_, _, _, rfl, rfl, hSm⟩
        · have q1 : nI n < 32 := by show nI n < nI 32; rw [nI_ltI (by omega) (by omega)]; omega
          have q2 : ¬ nI n = 32 := fun hc => q ((nI_eq (b := 32) (by omega) (by omega)).mp hc)
          obtain ⟨σ1, μ1, k1, k2, k3, k4, k5, k6, k7, k8⟩ := sm_record hSm
          have eB : μ1 1 = μ 1 := k7 1 (by decide) (by decide)
          have h1 : pl_WB n (μ1 1) := by rw [eB]; exact h
          have hr1 : pl_RS σ1 1 n (μ1 1) := by rw [eB]; exact hr.congr (fun c _ h2 => k5 c (by omega))
          have est : ∀ w v (τ : hb_Mem), w < 13 → hb_st ΛM τ (hm_rf 0 0) (((1 : Int32) + ((13 : Int32) * nI n)) + nI w) v = some (hb_up τ 1 (1 + 13 * n + w) v) := fun w v τ hw => by
            rw [pm_i1]
            exact pm_stt (a := hm_rf 0 0) (n := 425) (by decide) (by omega) (by decide) v τ
          have st0 : ∀ v (τ : hb_Mem), hb_st ΛM τ (hm_rf 0 0) 0 v = some (hb_up τ 1 0 v) := fun v τ => pm_stt (a := hm_rf 0 0) (n := 425) (i := 0) (by decide) (by decide) (by decide) v τ
          have ld0 : ∀ (τ : hb_Mem), hb_ld ΛM τ (hm_rf 0 0) 0 = some (τ 1 0) := fun τ => pm_ld (a := hm_rf 0 0) (n := 425) (i := 0) (by decide) (by decide) (by decide) τ
          have hbind : fn_X2_bindPage 1 a1 (nI s) (nI t) σ1 = some (nI n, hb_up (hb_up (hb_up (hb_up (hb_up σ1 3 n a1) 5 n (nI s)) 7 n (nI t)) 9 n 0) 1 0 (nI n + 1)) := by
            unfold fn_X2_bindPage
            simp only [hb_nm]
            rw [hr1.1, pl_put (r := hc_rf 1 1) (a := 3) (n := 32) (by decide) (by omega), Option.bind_some, pl_put (r := hc_rf 1 2) (a := 5) (n := 32) (by decide) (by omega), Option.bind_some, pl_put (r := hc_rf 1 3) (a := 7) (n := 32) (by decide) (by omega), Option.bind_some, pl_put (r := hc_rf 1 4) (a := 9) (n := 32) (by decide) (by omega), Option.bind_some]
          have e4 : hb_up (hb_up (hb_up (hb_up μ1 1 (1 + 13 * n + 0) a1) 1 (1 + 13 * n + 1) (nI s)) 1 (1 + 13 * n + 2) (nI t)) 1 (1 + 13 * n + 3) 0 1 0 = nI n := by
            rw [pl_up_other (by omega), pl_up_other (by omega), pl_up_other (by omega), pl_up_other (by omega)]
            exact h1.2.1
          rw [if_pos q1, if_neg q2, k1, k2, Option.bind_some, Option.bind_some, hbind, Option.bind_some, pm_n0 h1, Option.bind_some]
          simp only [hb_nm]
          rw [show (0 : Int32) = nI 0 from rfl, show (1 : Int32) = nI 1 from rfl, show (2 : Int32) = nI 2 from rfl, show (3 : Int32) = nI 3 from rfl, show nI 0 = (0 : Int32) from rfl, show nI 1 = (1 : Int32) from rfl]
          rw [show hb_st ΛM μ1 (hm_rf 0 0) (((1 : Int32) + ((13 : Int32) * nI n)) + 0) a1 = some (hb_up μ1 1 (1 + 13 * n + 0) a1) from est 0 _ _ (by decide), Option.bind_some]
          rw [show ∀ τ, hb_st ΛM τ (hm_rf 0 0) (((1 : Int32) + ((13 : Int32) * nI n)) + 1) (nI s) = some (hb_up τ 1 (1 + 13 * n + 1) (nI s)) from fun τ => est 1 _ _ (by decide), Option.bind_some, est 2 _ _ (by decide), Option.bind_some, est 3 _ _ (by decide), Option.bind_some, ld0, e4, Option.bind_some, st0, Option.bind_some, ld0, pl_up_same, Option.bind_some]
          obtain ⟨μ2, hμ2⟩ : ∃ m, m = hb_up (hb_up (hb_up (hb_up (hb_up μ1 1 (1 + 13 * n + 0) a1) 1 (1 + 13 * n + 1) (nI s)) 1 (1 + 13 * n + 2) (nI t)) 1 (1 + 13 * n + 3) 0) 1 0 (nI n + 1) := ⟨_, rfl⟩
          obtain ⟨σ2, hσ2⟩ : ∃ x, x = hb_up (hb_up (hb_up (hb_up (hb_up σ1 3 n a1) 5 n (nI s)) 7 n (nI t)) 9 n 0) 1 0 (nI n + 1) := ⟨_, rfl⟩
          rw [← hμ2, ← hσ2]
          have hoff : ∀ c, c ≠ 1 → μ2 c = μ1 c := fun c hc => by rw [hμ2, hb_up_ne hc, hb_up_ne hc, hb_up_ne hc, hb_up_ne hc, hb_up_ne hc]
          have hoff2 : ∀ c, c ≠ 1 → c ≠ 3 → c ≠ 5 → c ≠ 7 → c ≠ 9 → σ2 c = σ1 c := fun c c1 c3 c5 c7 c9 => by rw [hσ2, hb_up_ne c1, hb_up_ne c9, hb_up_ne c7, hb_up_ne c5, hb_up_ne c3]
          have hlow : ∀ j, j ≠ 0 → (j < 1 + 13 * n ∨ 5 + 13 * n ≤ j) → μ2 1 j = μ1 1 j := fun j j0 j1 => by rw [hμ2, pl_up_other j0, pl_up_other (by omega), pl_up_other (by omega), pl_up_other (by omega), pl_up_other (by omega)]
          have b0 : μ2 1 0 = nI (n + 1) := by rw [hμ2, pl_up_same, nI_1]
          have b1 : μ2 1 (1 + 13 * n) = a1 := by
            rw [hμ2, pl_up_other (by omega), pl_up_other (by omega), pl_up_other (by omega), pl_up_other (by omega)]
            exact pl_up_same μ1 1 (1 + 13 * n) a1
          have b2 : μ2 1 (2 + 13 * n) = nI s := by
            rw [hμ2, pl_up_other (by omega), pl_up_other (by omega), pl_up_other (by omega), show 2 + 13 * n = 1 + 13 * n + 1 by omega, pl_up_same]
          have b3 : μ2 1 (3 + 13 * n) = nI t := by
            rw [hμ2, pl_up_other (by omega), pl_up_other (by omega), show 3 + 13 * n = 1 + 13 * n + 2 by omega, pl_up_same]
          have b4 : μ2 1 (4 + 13 * n) = nI 0 := by
            rw [hμ2, pl_up_other (by omega), show 4 + 13 * n = 1 + 13 * n + 3 by omega, pl_up_same]
            rfl
          have hmn : pl_m (μ2 1) n = 0 := by
            unfold pl_m
            rw [b4]
            rfl
          have hW : pl_WB (n + 1) (μ2 1) := by
            refine ⟨by omega, b0, fun p hp => ?_, fun r hr => ?_, ?_⟩
            · by_cases e : p = n
              · subst e
                unfold pl_WP
                rw [hmn, b1, b2, b3, b4]
                exact ⟨hv, ⟨s, hs, rfl⟩, ⟨t, ht, rfl⟩, by omega, rfl, fun c hc => by omega⟩
              · exact wp_same (h1.2.2.1 p (by omega)) (by omega) (fun j j1 j2 => hlow j (by omega) (by omega))
            · rw [hlow _ (by omega) (by omega), hlow _ (by omega) (by omega)]
              exact wr_up (h1.2.2.2.1 r hr) (by omega)
            · rw [hlow _ (by omega) (by omega), hlow _ (by omega) (by omega)]
              exact wr_up h1.2.2.2.2 (by omega)
          have hR : pl_RS σ2 1 (n + 1) (μ2 1) := by
            obtain ⟨c1, c2, c3, c4⟩ := hr1
            refine ⟨by rw [hσ2, pl_up_same, nI_1], fun p hp => ?_, fun r hr => ?_, ?_⟩
            · by_cases e : p = n
              · subst e
                rw [hmn, b1, b2, b3, b4]
                refine ⟨?_, ?_, ?_, ?_, fun c hc => by omega⟩
                · rw [hσ2, hb_up_ne (by decide), hb_up_ne (by decide), hb_up_ne (by decide), hb_up_ne (by decide)]
                  exact pl_up_same σ1 3 p a1
                · rw [hσ2, hb_up_ne (by decide), hb_up_ne (by decide), hb_up_ne (by decide)]
                  exact pl_up_same _ 5 p (nI s)
                · rw [hσ2, hb_up_ne (by decide), hb_up_ne (by decide)]
                  exact pl_up_same _ 7 p (nI t)
                · rw [hσ2, hb_up_ne (by decide)]
                  exact pl_up_same _ 9 p 0
              · obtain ⟨d1, d2, d3, d4, d5⟩ := c2 p (by omega)
                have hm : pl_m (μ2 1) p = pl_m (μ1 1) p := wb_m (hlow _ (by omega) (by omega))
                have hm3 := (h1.m (p := p) (by omega)).1
                have g3 : σ2 3 p = σ1 3 p := by rw [hσ2, pl_up_ne (by decide), pl_up_ne (by decide), pl_up_ne (by decide), pl_up_ne (by decide), pl_up_other e]
                have g5 : σ2 5 p = σ1 5 p := by rw [hσ2, pl_up_ne (by decide), pl_up_ne (by decide), pl_up_ne (by decide), pl_up_other e, pl_up_ne (by decide)]
                have g7 : σ2 7 p = σ1 7 p := by rw [hσ2, pl_up_ne (by decide), pl_up_ne (by decide), pl_up_other e, pl_up_ne (by decide), pl_up_ne (by decide)]
                have g9 : σ2 9 p = σ1 9 p := by rw [hσ2, pl_up_ne (by decide), pl_up_other e, pl_up_ne (by decide), pl_up_ne (by decide), pl_up_ne (by decide)]
                rw [hm, hlow (1 + 13 * p) (by omega) (by omega), hlow (2 + 13 * p) (by omega) (by omega), hlow (3 + 13 * p) (by omega) (by omega), hlow (4 + 13 * p) (by omega) (by omega)]
                refine ⟨g3.trans d1, g5.trans d2, g7.trans d3, g9.trans d4, fun c hc => ?_⟩
                rw [hlow _ (by omega) (by omega), hlow _ (by omega) (by omega), hlow _ (by omega) (by omega), hoff2 _ (by decide) (by decide) (by decide) (by decide) (by decide), hoff2 _ (by decide) (by decide) (by decide) (by decide) (by decide), hoff2 _ (by decide) (by decide) (by decide) (by decide) (by decide)]
                exact d5 c hc
            · rw [hlow _ (by omega) (by omega), hlow _ (by omega) (by omega), hlow _ (by omega) (by omega), hoff2 _ (by decide) (by decide) (by decide) (by decide) (by decide), hoff2 _ (by decide) (by decide) (by decide) (by decide) (by decide)]
              exact c3 r hr
            · rw [hlow _ (by omega) (by omega), hlow _ (by omega) (by omega), hσ2, pl_up_other (by decide), pl_up_ne (by decide), pl_up_ne (by decide), pl_up_ne (by decide), pl_up_ne (by decide)]
              exact c4
          refine ⟨nI n, σ2, μ2, rfl, ?_, k3.put k4 (fun c hc => hoff2 c (by omega) (by omega) (by omega) (by omega) (by omega)) hoff hW hR⟩
          rw [nI_1, show nI (n + 1) - 1 = nI n from nI_pred n]
      · rw [f5, f6]
        exact ⟨_, _, _, rfl, rfl, hSm⟩
    · rw [f3, f4]
      exact ⟨_, _, _, rfl, rfl, hSm⟩
  · rw [f1, f2]
    exact ⟨_, _, _, rfl, rfl, hSm⟩
