/-! addChoices -/
theorem tx_fits {σ μ : hb_Mem} (ht : sm_text σ μ) : ∃ T len, tx_C σ T len ∧ tx_M μ T len := by
  obtain ⟨len, a1, a2, a3, a4⟩ := ht
  refine ⟨fun i => if i < len then (σ 138 i).toNatClampNeg else 0, len, ⟨a1, a2, fun i hi => ?_, fun i hi => ?_⟩, ⟨a1, a3, fun i hi => ?_, fun i hi => ?_⟩⟩
  · show _ = if i < len then (σ 138 i).toNatClampNeg else 0
    rw [if_pos hi]
  · show (if i < len then (σ 138 i).toNatClampNeg else 0) = 0
    rw [if_neg (by omega)]
  · show _ = if i < len then (σ 138 i).toNatClampNeg else 0
    rw [if_pos hi, a4 i hi]
  · show (if i < len then (σ 138 i).toNatClampNeg else 0) = 0
    rw [if_neg (by omega)]
theorem sm_read {σ μ σ' μ' : hb_Mem} (h : Sm σ μ) (hc : ∀ c, c ≠ 136 → c ≠ 140 → c ≠ 142 → c ≠ 144 → c ≠ 146 → (c < 20 ∨ 39 ≤ c) → σ' c = σ c) (h1 : σ' 136 1 = σ 136 1) (hm : tx_mA μ μ') : Sm σ' μ' := by
  refine h.text (fun c k1 k2 => hc c (by omega) (by omega) (by omega) (by omega) (by omega) k1) (fun c k1 k2 => hm.1 c (by omega) (by omega)) (hm.2 2 (by decide) (by decide) (by decide)) (hm.2 4 (by decide) (by decide) (by decide)) ?_
  exact h.2.2.2.fr h1 (hc 138 (by decide) (by decide) (by decide) (by decide) (by decide) (by omega)) (hm.1 4 (by decide) (by decide)) (hm.2 6 (by decide) (by decide) (by decide))
theorem sm_addChoices : hs_addChoices Sm := by
  intro σ μ hSm
  have hSm' := hSm
  obtain ⟨⟨n, h, hr, hk⟩, -, -, htx⟩ := hSm'
  have hn := h.1
  have z1 : ¬ (1 : Int32) = 0 := by decide
  obtain ⟨T, len, hC, hM⟩ := tx_fits htx
  obtain ⟨σ1, p1, p2, p3, p4⟩ := pc_parse hC
  obtain ⟨μ1, q1, q2, q3, q4, q5⟩ := pm_right hM
  have hiv := tx_all_iv hC.2.2.2
  have h60 := hC.1
  unfold fn_X5_addChoices fn_X6_addChoices
  rw [show hc_rf 0 5 = 136 from by decide, show hc_rf 0 1 = 20 from by decide, show hc_rf 0 0 = 1 from by decide, p1, q1, Option.bind_some, Option.bind_some]
  have hread : ∀ τ : hb_Mem, (∀ c, (c < 20 ∨ 39 ≤ c) → τ c = σ1 c) → Sm τ μ1 := fun τ hτ => sm_read hSm (fun c c1 c2 c3 c4 c5 c6 => (hτ c c6).trans (p2.1 c c1 c2 c3 c4 c5)) (by rw [hτ 136 (by omega)]; exact p2.2.1 1 (by decide) (by decide) (by decide)) q2
  by_cases hgood : (tx_all T).1 = true ∧ (tx_all T).2.1 = len
  · have hml := q5 hgood
    have hN : (tx_all T).2.2.1 < 16 := by
      have := hiv.2.1 hgood.1
      have := hiv.1
      omega
    have e1 : μ1 1 = μ 1 := q2.1 1 (by decide) (by decide)
    have hW1 : pl_WB n (μ1 1) := by rw [e1]; exact h
    have hR1 : pl_RS σ1 1 n (μ1 1) := by rw [e1]; exact hr.congr (fun c c1 c2 => p2.1 c (by omega) (by omega) (by omega) (by omega) (by omega))
    obtain ⟨σ2, d1, d2, d3⟩ := pl_copy (show pl_st 20 by decide) (show pl_st 1 by decide) (by decide) σ1
    have hR2 : pl_RS σ2 20 n (μ1 1) := pl_RS.same hW1 hR1 d3
    obtain ⟨M, m1, m2, m3⟩ := tx_far n (μ1 1) (tx_all T).2.2.2 (tx_all T).2.2.1
    have hout : ∀ c, 39 ≤ c → σ2 c = σ1 c := fun c hc => d2 c (by omega)
    obtain ⟨t, g1, g2⟩ := pc_adds (N := (tx_all T).2.2.1) (M := M) (L := (tx_all T).2.2.2) hW1 hR2 hN m1 hiv.2.2 (fun k hk => by
      rw [hout 140 (by decide), hout 142 (by decide), hout 144 (by decide), hout 146 (by decide)]
      exact p2.2.2.2 k hk) (by rw [hout 136 (by decide)]; exact p2.2.2.1) m2 m3
    have hwhy := pm_why (N := (tx_all T).2.2.1) (M := M) (L := (tx_all T).2.2.2) hW1 hN m1 hiv.2.2 hml m2 m3
    rw [if_pos hgood, if_neg z1, if_neg z1, d1, Option.bind_some, g1, Option.bind_some, hwhy, Option.bind_some]
    rcases g2 with ⟨hMN, τ, rfl, f1, f2⟩ | ⟨hMN, τ, rfl, f1⟩
    · have hfit : ∀ j, j < (tx_all T).2.2.1 → tx_fit n (μ1 1) (tx_all T).2.2.2 j := fun j hj => m2 j (by omega)
      have hτ : ∀ c, (c < 20 ∨ 39 ≤ c) → τ c = σ1 c := fun c hc => (f1 c hc).trans (d2 c (by omega))
      obtain ⟨σ3, μ3, k1, k2, k3, k4, k5, k6, k7, k8⟩ := sm_record (hread τ hτ)
      have e3 : μ3 1 = μ1 1 := k7 1 (by decide) (by decide)
      have hml3 : tx_mL (tx_all T).2.2.1 (tx_all T).2.2.2 μ3 := ⟨by rw [k8 19 (by decide)]; exact hml.1, fun k hk => by rw [k7 12 (by decide) (by decide)]; exact hml.2 k hk⟩
      obtain ⟨μ4, u1, u2, u3⟩ := pm_addall (N := (tx_all T).2.2.1) (L := (tx_all T).2.2.2) (μ := μ3) (n := n) (by rw [e3]; exact hW1) hN hiv.2.2 hml3 (by rw [e3]; exact hfit)
      obtain ⟨σ4, v1, v2, v3⟩ := pl_copy (show pl_st 1 by decide) (show pl_st 20 by decide) (by decide) σ3
      have hWN : pl_WB n (tx_bk (μ1 1) (tx_all T).2.2.2 (tx_all T).2.2.1) := tx_bk_WB hW1 _ (fun j hj => ⟨hiv.2.2 j hj, hfit j hj⟩)
      have hR3 : pl_RS σ3 20 n (tx_bk (μ1 1) (tx_all T).2.2.2 (tx_all T).2.2.1) := f2.congr (fun c c1 c2 => k5 c (by omega))
      have hR4 : pl_RS σ4 1 n (tx_bk (μ1 1) (tx_all T).2.2.2 (tx_all T).2.2.1) := pl_RS.same hWN hR3 v3
      rw [if_pos hMN, if_pos (show (0 : Int32) ≤ 0 by decide), k2, Option.bind_some, u1, Option.bind_some]
      show ∃ r σ' μ', jn_X5_addChoices_144 0 τ = some (r, σ') ∧ some (μ4 0 19, μ4) = some (r, μ') ∧ Sm σ' μ'
      unfold jn_X5_addChoices_144
      rw [show hc_rf 0 5 = 136 from by decide, show hc_rf 0 1 = 20 from by decide, show hc_rf 0 0 = 1 from by decide, k1, Option.bind_some, v1, Option.bind_some]
      have ec : σ4 136 4 = nI (tx_all T).2.2.1 := by rw [v2 136 (by omega), k6 136 (by decide) (by decide), hτ 136 (by omega)]; exact p2.2.2.1
      have em : μ4 0 19 = nI (tx_all T).2.2.1 := by rw [u2 0 (by decide)]; exact hml3.1
      rw [ec, em]
      refine ⟨_, _, _, rfl, rfl, Sm.put (n := n) k3 k4 (fun c hc => v2 c (by omega)) u2 ?_ ?_⟩
      · rw [u3, e3]
        exact hWN
      · rw [u3, e3]
        exact hR4
    · have hneg : ¬ 0 ≤ tx_er n (tx_all T).2.2.2 M := by
        unfold tx_er
        split
        · decide
        · decide
      rw [if_neg (show ¬ M = (tx_all T).2.2.1 by omega), if_neg hneg]
      refine ⟨_, _, _, rfl, rfl, hread τ (fun c hc => (f1 c hc).trans (d2 c (by omega)))⟩
  · rw [if_neg hgood, if_pos rfl, if_pos rfl]
    dsimp only
    rw [p3, q3]
    exact ⟨_, _, _, rfl, rfl, hread σ1 (fun _ _ => rfl)⟩
