/-! the questions: page, choice -/
theorem Sm.askn {σ μ σ' μ' : hb_Mem} {n : Nat} (h : Sm σ μ) (hW : pl_WB n (μ 1)) (hc : ∀ c, c < 147 → σ' c = σ c) (hk : pm_kp μ μ') (hs : pc_known σ' n (μ 1)) : Sm σ' μ' := by
  refine h.ask hc hk (fun m b1 b2 => ?_)
  have : m = n := by
    have e := b1.2.1.symm.trans hW.2.1
    have := b1.1
    have := hW.1
    exact (nI_eq (by omega) (by omega)).mp e
  rw [this]
  exact hs
theorem hc_r0 : hc_rf 0 0 = 1 := by decide
theorem hc_r6 : hc_rf 0 6 = 147 := by decide
theorem pl_bool (b : Bool) : ((if b = true then (1 : Int32) else 0) = 0) ↔ b = false := by cases b <;> decide
theorem sm_page : hs_page Sm := by
  intro σ μ hSm a1 a2
  have hSm' := hSm
  obtain ⟨⟨n, h, hr, hk⟩, -⟩ := hSm'
  have hn := h.1
  have z1 : ¬ (1 : Int32) = 0 := by decide
  have hM := pb_pl_good h
  obtain ⟨σ', s1, s2, s3, s4⟩ := pc_surveyed h hr hk
  have hkn : pc_known σ' n (μ 1) := Or.inr ⟨s3, s4⟩
  have hrs : pl_RS σ' 1 n (μ 1) := hr.congr (fun c _ h2 => s2 c (by omega))
  unfold fn_X5_page fn_X6_page
  rw [hc_r0, hc_r6]
  rcases sp_page h hr a1 with ⟨p, hp, rfl, e1, e2⟩ | ⟨e1, e2⟩
  · rw [e1, e2, Option.bind_some, Option.bind_some, if_neg z1, if_neg z1]
    obtain ⟨r1, r2, r3, r4, r5⟩ := hr.2.1 p hp
    by_cases q0 : a2 = 0
    · rw [if_pos q0, if_pos q0, pl_at (r := hc_rf 1 4) (a := 9) (n := 32) (by decide) (by omega), Option.bind_some, pm_of3 (by omega), Option.bind_some, show σ 9 p = μ 1 (4 + 13 * p) from r4]
      exact ⟨_, _, _, rfl, rfl, hSm⟩
    rw [if_neg q0, if_neg q0]
    by_cases q1 : a2 = 1
    · rw [if_pos q1, if_pos q1, pl_at (r := hc_rf 1 2) (a := 5) (n := 32) (by decide) (by omega), Option.bind_some, pm_of1 (by omega), Option.bind_some, show σ 5 p = μ 1 (2 + 13 * p) from r2]
      exact ⟨_, _, _, rfl, rfl, hSm⟩
    rw [if_neg q1, if_neg q1]
    by_cases q2 : a2 = 2
    · rw [if_pos q2, if_pos q2, pl_at (r := hc_rf 1 3) (a := 7) (n := 32) (by decide) (by omega), Option.bind_some, pm_of2 (by omega), Option.bind_some, show σ 7 p = μ 1 (3 + 13 * p) from r3]
      exact ⟨_, _, _, rfl, rfl, hSm⟩
    rw [if_neg q2, if_neg q2]
    by_cases q3 : a2 = 3
    · have hw := (h.2.2.1 p hp).1
      obtain ⟨b1, b2⟩ := pf_bits hw.1 hw.2
      rw [if_pos q3, if_pos q3, pc_mood (by decide) h hr hp, Option.bind_some, b1, Option.bind_some, pm_mood h hp, Option.bind_some, b2, Option.bind_some]
      exact ⟨_, _, _, rfl, rfl, hSm⟩
    rw [if_neg q3, if_neg q3]
    by_cases q4 : a2 = 4
    · rw [if_pos q4, if_pos q4, pc_kind (by decide) h hr hp, Option.bind_some, pm_isEnd h hp, Option.bind_some]
      by_cases hm : pl_m (μ 1) p = 0
      · rw [if_pos hm, if_pos hm, if_neg z1, pm_isHappy h hp, Option.bind_some]
        by_cases hh : μ 1 (1 + 13 * p) ≤ 0
        · have z4 : ¬ (pl_m (μ 1) p = 0 ∧ ¬ μ 1 (1 + 13 * p) ≤ 0) := fun hc => hc.2 hh
          rw [if_pos hh, if_neg z4, if_pos rfl]
          exact ⟨_, _, _, rfl, rfl, hSm⟩
        · have z4 : pl_m (μ 1) p = 0 ∧ ¬ μ 1 (1 + 13 * p) ≤ 0 := ⟨hm, hh⟩
          rw [if_neg hh, if_pos z4, if_neg z1]
          exact ⟨_, _, _, rfl, rfl, hSm⟩
      · rw [if_neg hm, if_neg hm, if_pos rfl]
        exact ⟨_, _, _, rfl, rfl, hSm⟩
    rw [if_neg q4, if_neg q4]
    by_cases q5 : a2 = 5
    · obtain ⟨μ', m1, m2⟩ := pm_placesOf h rfl (p := p) (by omega)
      have hle : sp_places (pb_pl n (μ 1)) p ≤ 32 * 1 := ct_le 32 (fun i hi => by split <;> omega)
      rw [if_pos q5, if_pos q5, s1, Option.bind_some, pc_dead s4 hn hM (by omega), Option.bind_some, pc_oneIf, Option.bind_some, m1, Option.bind_some]
      have hd : sp_dead (pb_pl n (μ 1)) p = true ↔ nI (sp_places (pb_pl n (μ 1)) p) = 0 := by
        unfold sp_dead
        rw [decide_eq_true_iff, pl_eq0 (by omega)]
      by_cases hz : nI (sp_places (pb_pl n (μ 1)) p) = 0
      · rw [if_pos (hd.mpr hz)]
        refine ⟨1, σ', μ', rfl, ?_, hSm.askn h s2 m2.kp hkn⟩
        show (if nI (sp_places (pb_pl n (μ 1)) p) = 0 then some ((1 : Int32), μ') else some (0, μ')) = _
        rw [if_pos hz]
      · rw [if_neg (fun hc => hz (hd.mp hc))]
        refine ⟨0, σ', μ', rfl, ?_, hSm.askn h s2 m2.kp hkn⟩
        show (if nI (sp_places (pb_pl n (μ 1)) p) = 0 then some ((1 : Int32), μ') else some (0, μ')) = _
        rw [if_neg hz]
    rw [if_neg q5, if_neg q5]
    by_cases q6 : a2 = 6
    · obtain ⟨μ1, k1, k2, k3, k4, k5⟩ := pm_keeps h rfl
      have hB1 : μ1 1 = μ 1 := k4 1 (by decide) (by decide) (by decide) (by decide) (by decide) (by decide)
      have hk1 : pm_kp μ μ1 := ⟨fun c h1 h2 => k4 c (by omega) (by omega) (by omega) (by omega) (by omega) (by omega), fun j h1 _ => k5 j h1⟩
      obtain ⟨μ', m1, m2⟩ := pm_again h hB1 hM k3 (p := p) (by omega)
      rw [if_pos q6, if_pos q6, s1, Option.bind_some, pc_again s4 hn hM (by omega), Option.bind_some, pc_oneIf, Option.bind_some, k1, Option.bind_some, m1, Option.bind_some]
      have hfin : Sm σ' μ' := hSm.askn h s2 (hk1.tr m2.kp) hkn
      cases sp_again (pg_nx (μ 1)) (pb_pl n (μ 1)) p with
      | true => exact ⟨1, σ', μ', rfl, rfl, hfin⟩
      | false => exact ⟨0, σ', μ', rfl, rfl, hfin⟩
    rw [if_neg q6, if_neg q6]
    by_cases q7 : a2 = 7
    · obtain ⟨μ', m1, m2⟩ := pm_stuckIn h rfl (lo := 32 * p) (N := 31) (by omega)
      have e0 : fn_X6_stuckIn 0 ((32 : Int32) * nI p) (((32 : Int32) * nI p) + 31) μ = some (nI (sp_stucks (μ 1) (pb_pl n (μ 1)) p), μ') := by
        have e3 : ((32 : Int32) * nI p) = nI (32 * p) := by rw [show (32 : Int32) = nI 32 from rfl, pl_mul]
        rw [e3, show (31 : Int32) = nI 31 from rfl, nI_add]
        exact m1
      have hle : sp_stucks (μ 1) (pb_pl n (μ 1)) p ≤ 32 * 1 := ct_le 32 (fun i hi => by split <;> omega)
      unfold jn_X5_page_169
      rw [if_pos q7, if_pos q7, s1, Option.bind_some, pc_stucksWith s4 hn hM (by omega), Option.bind_some, e0, Option.bind_some]
      have hfin : Sm σ' μ' := hSm.askn h s2 m2 hkn
      by_cases hz : nI (sp_stucks (μ 1) (pb_pl n (μ 1)) p) ≤ 0
      · rw [if_pos hz]
        refine ⟨0, σ', μ', rfl, ?_, hfin⟩
        show (if nI (sp_stucks (μ 1) (pb_pl n (μ 1)) p) ≤ 0 then some ((0 : Int32), μ') else some (1, μ')) = _
        rw [if_pos hz]
      · rw [if_neg hz]
        refine ⟨1, σ', μ', rfl, ?_, hfin⟩
        show (if nI (sp_stucks (μ 1) (pb_pl n (μ 1)) p) ≤ 0 then some ((0 : Int32), μ') else some (1, μ')) = _
        rw [if_neg hz]
    rw [if_neg q7, if_neg q7]
    by_cases q8 : a2 = 8
    · obtain ⟨μ', m1, m2⟩ := pm_placesOf h rfl (p := p) (by omega)
      rw [if_pos q8, if_pos q8, s1, Option.bind_some, pc_placesWith s4 hn hM (by omega), Option.bind_some, m1, Option.bind_some]
      exact ⟨_, σ', μ', rfl, rfl, hSm.askn h s2 m2.kp hkn⟩
    rw [if_neg q8, if_neg q8]
    by_cases q9 : a2 = 9
    · obtain ⟨μ', m1, m2⟩ := pm_fewest h rfl (p := p) (by omega)
      rw [if_pos q9, if_pos q9, s1, Option.bind_some, pc_few s4 hn hM (by omega), Option.bind_some, m1, Option.bind_some]
      exact ⟨_, σ', μ', rfl, rfl, hSm.askn h s2 m2.kp hkn⟩
    rw [if_neg q9, if_neg q9]
    by_cases q10 : a2 = 10
    · rw [if_pos q10, if_pos q10, pc_to h hr, pm_to h, Option.bind_some, Option.bind_some]
      exact ⟨_, _, _, rfl, rfl, hSm⟩
    rw [if_neg q10, if_neg q10]
    exact ⟨_, _, _, rfl, rfl, hSm⟩
  · rw [e1, e2]
    exact ⟨_, _, _, rfl, rfl, hSm⟩
theorem sm_choice : hs_choice Sm := by
  intro σ μ hSm a1 a2 a3
  have hSm' := hSm
  obtain ⟨⟨n, h, hr, hk⟩, -⟩ := hSm'
  have hn := h.1
  have z1 : ¬ (1 : Int32) = 0 := by decide
  have hM := pb_pl_good h
  obtain ⟨σ', s1, s2, s3, s4⟩ := pc_surveyed h hr hk
  have hkn : pc_known σ' n (μ 1) := Or.inr ⟨s3, s4⟩
  have hrs : pl_RS σ' 1 n (μ 1) := hr.congr (fun c _ h2 => s2 c (by omega))
  unfold fn_X5_choice fn_X6_choice
  rw [hc_r0, hc_r6]
  rcases sp_choice h hr a1 a2 with ⟨p, c, hp, hc, rfl, rfl, e1, e2⟩ | ⟨e1, e2⟩
  · obtain ⟨m1, m2⟩ := h.m hp
    obtain ⟨r1, r2, r3⟩ := (hr.2.1 p hp).2.2.2.2 c hc
    rw [e1, e2, Option.bind_some, Option.bind_some, if_neg z1, if_neg z1, pc_slot, Option.bind_some]
    by_cases q0 : a3 = 0
    · rw [if_pos q0, if_pos q0, q0, pl_at (r := hc_rf 1 5) (a := 11) (n := 96) (by decide) (by omega), Option.bind_some, pm_oc0 (by omega) (by omega), Option.bind_some, show σ 11 (3 * p + c) = μ 1 (5 + 13 * p + 3 * c) from r1]
      exact ⟨_, _, _, rfl, rfl, hSm⟩
    rw [if_neg q0, if_neg q0]
    by_cases q1 : a3 = 1
    · rw [if_pos q1, if_pos q1, q1, pl_at (r := hc_rf 1 6) (a := 13) (n := 96) (by decide) (by omega), Option.bind_some, pm_oc1 (by omega) (by omega), Option.bind_some, show σ 13 (3 * p + c) = μ 1 (6 + 13 * p + 3 * c) from r2]
      exact ⟨_, _, _, rfl, rfl, hSm⟩
    rw [if_neg q1, if_neg q1]
    by_cases q2 : a3 = 2
    · rw [if_pos q2, if_pos q2, q2, pl_at (r := hc_rf 1 7) (a := 15) (n := 96) (by decide) (by omega), Option.bind_some, pm_oc2 (by omega) (by omega), Option.bind_some, show σ 15 (3 * p + c) = μ 1 (7 + 13 * p + 3 * c) from r3]
      exact ⟨_, _, _, rfl, rfl, hSm⟩
    rw [if_neg q2, if_neg q2]
    by_cases q3 : a3 = 3
    · obtain ⟨μ', k1, k2⟩ := pm_ever h rfl hp hc
      rw [if_pos q3, if_pos q3, s1, Option.bind_some, pc_ever h hrs s4 hM hp (by omega), Option.bind_some, pc_oneIf, Option.bind_some, k1, Option.bind_some]
      exact ⟨_, σ', μ', rfl, rfl, hSm.askn h s2 k2.kp hkn⟩
    rw [if_neg q3, if_neg q3]
    exact ⟨_, _, _, rfl, rfl, hSm⟩
  · rw [e1, e2]
    exact ⟨_, _, _, rfl, rfl, hSm⟩
