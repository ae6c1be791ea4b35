/-! exchange -/
theorem sm_exchange : hs_exchange Sm := by
  intro σ μ hSm a1 a2
  have hSm' := hSm
  obtain ⟨⟨n, h, hr, hk⟩, -⟩ := hSm'
  have hn := h.1
  have z1 : ¬ (1 : Int32) = 0 := by decide
  unfold fn_X5_exchange fn_X6_exchange jn_X6_exchange_21
  rw [hc_r0]
  rcases sp_page h hr a1 with ⟨p, hp, rfl, e1, e2⟩ | ⟨e1, e2⟩
  · rw [e1, e2, Option.bind_some, Option.bind_some, if_neg z1, if_neg z1]
    rcases sp_page h hr a2 with ⟨q, hq, rfl, e3, e4⟩ | ⟨e3, e4⟩
    · rw [e3, e4, Option.bind_some, Option.bind_some, if_neg z1, if_neg z1]
      by_cases hpq : p = q
      · have z : nI p = nI q := by rw [hpq]
        rw [if_pos z, if_pos z, Option.bind_some, if_neg z1, Option.bind_some, if_neg z1]
        exact ⟨_, _, _, rfl, rfl, hSm⟩
      · have z : ¬ nI p = nI q := fun hc => hpq ((nI_eq (by omega) (by omega)).mp hc)
        obtain ⟨σ1, μ1, k1, k2, k3, k4, k5, k6, k7, k8⟩ := sm_record hSm
        have eB : μ1 1 = μ 1 := k7 1 (by decide) (by decide)
        have h1 : pl_WB n (μ1 1) := by rw [eB]; exact h
        have hr1 : pl_RS σ1 1 n (μ1 1) := by rw [eB]; exact hr.congr (fun c _ h2 => k5 c (by omega))
        obtain ⟨μ2, m1, m2, m3⟩ := pm_exch2 h1 hp hq hpq (nI (sp_to n (μ1 1) (nI p)) + nI (sp_to n (μ1 1) (nI q)))
        obtain ⟨σ2, g1, g2, g3⟩ := pc_exch h1 hr1 hp hq hpq m3
        have hW := sX_WB h1 hp hq m3
        rw [if_neg z, if_neg z, k1, k2, Option.bind_some, Option.bind_some, g1, Option.bind_some, pc_to hW g3, pc_to hW g3, Option.bind_some, Option.bind_some, pm_to h1, pm_to h1, Option.bind_some, Option.bind_some]
        have ep : pgm p q p = q := by unfold pgm; rw [if_pos rfl]
        have eq : pgm p q q = p := by unfold pgm; rw [if_neg (fun hc => hpq hc.symm), if_pos rfl]
        rw [sX_to h1 hp hq hpq hp m3, sX_to h1 hp hq hpq hq m3, ep, eq]
        refine ⟨_, _, _, rfl, ?_, k3.put k4 (fun c hc => g2 c (by omega)) m2 hW g3⟩
        rw [Int32.add_comm (nI (sp_to n (μ1 1) (nI q)))]
        exact m1
    · rw [e3, e4, Option.bind_some, Option.bind_some, if_pos rfl, if_pos rfl, Option.bind_some, if_neg z1]
      exact ⟨_, _, _, rfl, rfl, hSm⟩
  · rw [e1, e2]
    exact ⟨_, _, _, rfl, rfl, hSm⟩
