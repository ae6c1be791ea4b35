/-! the questions: way, wayMood, count -/
theorem pc_surveyed2 {σ : hb_Mem} (h : σ 147 0 = 1) : fn_X5_surveyed 0 σ = some σ := by
  unfold fn_X5_surveyed jn_X5_surveyed_21
  rw [hc_r6, if_neg (by rw [h]; decide)]
theorem sp_in2 (x : Int32) : (∃ w, w < 3 ∧ x = nI w ∧ fn_X6_in x 0 2 = some 1) ∨ ((x < 0 ∨ (¬ x < 0 ∧ ¬ x ≤ 2)) ∧ fn_X6_in x 0 2 = some 0) := by
  rcases pm_in (x := x) (n := 3) (by omega) with ⟨w, hw, hx, hi⟩ | ⟨hno, hi⟩
  · exact Or.inl ⟨w, hw, hx, hi⟩
  · refine Or.inr ⟨?_, hi⟩
    by_cases h0 : x < 0
    · exact Or.inl h0
    · obtain ⟨t, ht, rfl⟩ := pl_nat h0
      refine Or.inr ⟨h0, fun hc => ?_⟩
      have hc : nI t ≤ nI 2 := hc
      rw [nI_leI (by omega) (by omega)] at hc
      exact hno t (by omega) rfl
theorem sm_way : hs_way Sm := by
  intro σ μ hSm a1 a2
  have hSm' := hSm
  obtain ⟨⟨n, h, hr, hk⟩, -⟩ := hSm'
  have hn := h.1
  have z1 : ¬ (1 : Int32) = 0 := by decide
  have hM := pb_pl_good h
  obtain ⟨σ', s1, s2, s3, s4⟩ := pc_surveyed h hr hk
  have hkn : pc_known σ' n (μ 1) := Or.inr ⟨s3, s4⟩
  obtain ⟨μ', m1, m2, m3, m4⟩ := pm_findsWay h rfl
  have hfin : Sm σ' μ' := hSm.askn h s2 m2 hkn
  unfold fn_X5_way fn_X6_way
  rw [hc_r6]
  by_cases h0 : a1 < 0
  · rw [if_pos h0, if_pos h0]
    exact ⟨_, _, _, rfl, rfl, hSm⟩
  rw [if_neg h0, if_neg h0]
  obtain ⟨t, ht, rfl⟩ := pl_nat h0
  rcases sp_in2 a2 with ⟨w, hw, rfl, f2⟩ | ⟨f1, f2⟩
  · have z5 : nI w ≤ 2 := by
      show nI w ≤ nI 2
      rw [nI_leI (by omega) (by omega)]
      omega
    rw [f2, Option.bind_some, if_neg z1, if_neg (nI_pos (by omega)), if_pos z5, s1, Option.bind_some, m1, Option.bind_some]
    have hway := s4.2.2.2.2.2
    unfold pc_way at hway
    cases hg : pw_goal (μ 1) (pb_pl n (μ 1)) with
    | none =>
      rw [hg] at hway
      have hway : σ' 147 10 = -1 := hway
      have z6 : ¬ nI t ≤ -1 := by
        intro hc
        rw [Int32.le_iff_toInt_le, nI_toInt ht] at hc
        have hc : (t : Int) ≤ -1 := hc
        omega
      rw [hway, if_neg z6]
      exact ⟨-5, σ', μ', rfl, rfl, hfin⟩
    | some g =>
      rw [hg] at hway
      obtain ⟨w1, w2⟩ := hway
      obtain ⟨v1, v2⟩ := m4 g hg
      have hgm : g ∈ (pb_pl n (μ 1)).1 := List.mem_of_find?_eq_some hg
      have hd := hM.d hgm
      have hsome : ((if (some g).isSome = true then (1 : Int32) else 0, μ') : Int32 × hb_Mem) = (1, μ') := rfl
      rw [hsome]
      rw [w1]
      show ∃ r σ'' μ'', _ = _ ∧ (if (1 : Int32) = 0 then _ else if nI t ≤ μ' 0 15 then _ else _) = _ ∧ _
      rw [if_neg z1, v1]
      by_cases hle : t ≤ (pb_pl n (μ 1)).2.1 g
      · have z7 : nI t ≤ nI ((pb_pl n (μ 1)).2.1 g) := by rw [nI_leI (by omega) (by omega)]; exact hle
        rw [if_pos z7, if_pos z7]
        obtain ⟨u1, u2⟩ := pw_up_ok hM hgm ((pb_pl n (μ 1)).2.1 g - t) (by omega)
        have hul := hM.lt u1
        have e := w2 ((pb_pl n (μ 1)).2.1 g - t) (by omega)
        have e' := v2 ((pb_pl n (μ 1)).2.1 g - t) (by omega)
        rw [show (pb_pl n (μ 1)).2.1 g - ((pb_pl n (μ 1)).2.1 g - t) = t by omega] at e e'
        have eL : fn_X1_at (hc_rf 147 11) (nI t) σ' = some (nI (pw_up (pb_pl n (μ 1)) ((pb_pl n (μ 1)).2.1 g - t) g)) := by
          rw [pl_at (r := hc_rf 147 11) (a := 159) (n := 1024) (by decide) (by omega), e]
        have eR : hb_ld ΛM μ' (hm_rf 0 14) (nI t) = some (nI (pw_up (pb_pl n (μ 1)) ((pb_pl n (μ 1)).2.1 g - t) g)) := by
          rw [pm_ld (a := hm_rf 0 14) (n := 1024) (by decide) (by omega) (by decide)]
          exact congrArg some e'
        have hw3 : w = 0 ∨ w = 1 ∨ w = 2 := by omega
        rcases hw3 with rfl | rfl | rfl
        · rw [if_pos (show nI 0 = 0 from rfl), if_pos (show nI 0 = 0 from rfl), eL, eR, Option.bind_some, pc_page (by omega), Option.bind_some, Option.bind_some]
          exact ⟨_, σ', μ', rfl, by rw [pl_div _ (by omega)], hfin⟩
        · rw [if_neg (show ¬ nI 1 = 0 by decide), if_neg (show ¬ nI 1 = 0 by decide), if_pos (show nI 1 = 1 from rfl), if_pos (show nI 1 = 1 from rfl), eL, eR, Option.bind_some, pc_flags (by omega), Option.bind_some, Option.bind_some]
          exact ⟨_, σ', μ', rfl, by rw [pl_mod _ (by omega)], hfin⟩
        · rw [if_neg (show ¬ nI 2 = 0 by decide), if_neg (show ¬ nI 2 = 0 by decide), if_neg (show ¬ nI 2 = 1 by decide), if_neg (show ¬ nI 2 = 1 by decide), pc_onWay s4 hn hM hg hle, Option.bind_some]
          by_cases heq : (pb_pl n (μ 1)).2.1 g ≤ t
          · have z8 : nI t = nI ((pb_pl n (μ 1)).2.1 g) := by rw [show t = (pb_pl n (μ 1)).2.1 g by omega]
            rw [if_pos heq]
            refine ⟨-5, σ', μ', rfl, ?_, hfin⟩
            show (if nI t = μ' 0 15 then some (-5, μ') else _) = some ((-5 : Int32), μ')
            rw [v1, if_pos z8]
          · have z8 : ¬ nI t = nI ((pb_pl n (μ 1)).2.1 g) := fun hc => by
              have := (nI_eq (by omega) (by omega)).mp hc
              omega
            obtain ⟨u3, u4⟩ := pw_up_ok hM hgm ((pb_pl n (μ 1)).2.1 g - (t + 1)) (by omega)
            have hul2 := hM.lt u3
            have e2 := v2 ((pb_pl n (μ 1)).2.1 g - (t + 1)) (by omega)
            rw [show (pb_pl n (μ 1)).2.1 g - ((pb_pl n (μ 1)).2.1 g - (t + 1)) = t + 1 by omega] at e2
            have eR2 : hb_ld ΛM μ' (hm_rf 0 14) (nI t + 1) = some (nI (pw_up (pb_pl n (μ 1)) ((pb_pl n (μ 1)).2.1 g - (t + 1)) g)) := by
              rw [nI_1, pm_ld (a := hm_rf 0 14) (n := 1024) (by decide) (by omega) (by decide)]
              exact congrArg some e2
            have eR3 : hb_ld ΛM μ' (hm_rf 0 9) (nI (pw_up (pb_pl n (μ 1)) ((pb_pl n (μ 1)).2.1 g - (t + 1)) g)) = some (nI ((pb_pl n (μ 1)).2.2.2 (pw_up (pb_pl n (μ 1)) ((pb_pl n (μ 1)).2.1 g - (t + 1)) g))) := by
              rw [pm_ld (a := hm_rf 0 9) (n := 1024) (by decide) (by omega) (by decide)]
              exact congrArg some (m3.2.2.2 _ u3 (by omega)).2
            rw [if_neg heq]
            refine ⟨_, σ', μ', rfl, ?_, hfin⟩
            show (if nI t = μ' 0 15 then some (-5, μ') else (hb_ld ΛM μ' (hm_rf 0 14) (nI t + 1)).bind fun v3 => (hb_ld ΛM μ' (hm_rf 0 9) v3).bind fun v4 => some (v4, μ')) = _
            rw [v1, if_neg z8, eR2, Option.bind_some, eR3, Option.bind_some]
      · have z7 : ¬ nI t ≤ nI ((pb_pl n (μ 1)).2.1 g) := by rw [nI_leI (by omega) (by omega)]; exact hle
        rw [if_neg z7, if_neg z7]
        exact ⟨-5, σ', μ', rfl, rfl, hfin⟩
  · rw [f2, Option.bind_some, if_pos rfl]
    rcases f1 with f1 | ⟨f0, f1⟩
    · rw [if_pos f1]
      exact ⟨_, _, _, rfl, rfl, hSm⟩
    · rw [if_neg f0, if_neg f1]
      exact ⟨_, _, _, rfl, rfl, hSm⟩
theorem sm_wayMood : hs_wayMood Sm := by
  intro σ μ hSm
  have hSm' := hSm
  obtain ⟨⟨n, h, hr, hk⟩, -⟩ := hSm'
  have hn := h.1
  have z1 : ¬ (1 : Int32) = 0 := by decide
  have hM := pb_pl_good h
  obtain ⟨σ', s1, s2, s3, s4⟩ := pc_surveyed h hr hk
  have hkn : pc_known σ' n (μ 1) := Or.inr ⟨s3, s4⟩
  have hrs : pl_RS σ' 1 n (μ 1) := hr.congr (fun c _ h2 => s2 c (by omega))
  obtain ⟨μ', m1, m2, m3, m4⟩ := pm_findsWay h rfl
  have hB' : μ' 1 = μ 1 := m2.1 1 (by decide) (by decide)
  have hfin : Sm σ' μ' := hSm.askn h s2 m2 hkn
  unfold fn_X5_wayMood fn_X6_wayMood jn_X5_wayMood_61
  rw [hc_r6, s1, m1, Option.bind_some, Option.bind_some]
  have hway := s4.2.2.2.2.2
  unfold pc_way at hway
  cases hg : pw_goal (μ 1) (pb_pl n (μ 1)) with
  | none =>
    rw [hg] at hway
    have hway : σ' 147 10 = -1 := hway
    rw [hway, if_neg (show ¬ (0 : Int32) ≤ -1 by decide)]
    exact ⟨-5, σ', μ', rfl, rfl, hfin⟩
  | some g =>
    have hway2 := hway
    rw [hg] at hway2
    obtain ⟨w1, w2⟩ := hway2
    obtain ⟨v1, v2⟩ := m4 g hg
    have hgm : g ∈ (pb_pl n (μ 1)).1 := List.mem_of_find?_eq_some hg
    have hd := hM.d hgm
    obtain ⟨b1, b2⟩ := ws_bits h hM hgm
    have z6 : (0 : Int32) ≤ nI ((pb_pl n (μ 1)).2.1 g) := by
      show nI 0 ≤ _
      rw [nI_leI (by omega) (by omega)]
      omega
    rw [w1, if_pos z6, pc_wayMood h hrs s4 hM hg, Option.bind_some, b1, Option.bind_some]
    refine ⟨_, σ', μ', rfl, ?_, hfin⟩
    show (if (1 : Int32) = 0 then _ else (ll_X6_wayMood_14 0 μ' (FP.fconst0, 0)).bind fun t6 => (fn_Jxf58ca_floatToIntBits_5c35a t6).bind fun x7 => some (x7, μ')) = _
    rw [if_neg z1, pm_wayMood h hB' hM hgm v1 v2, Option.bind_some, b2, Option.bind_some]
theorem sm_count : hs_count Sm := by
  intro σ μ hSm a1
  have hSm' := hSm
  obtain ⟨⟨n, h, hr, hk⟩, hsn, hhi, htx⟩ := hSm'
  have hn := h.1
  have z1 : ¬ (1 : Int32) = 0 := by decide
  have hM := pb_pl_good h
  obtain ⟨σ', s1, s2, s3, s4⟩ := pc_surveyed h hr hk
  have s1' := pc_surveyed2 s3
  have hkn : pc_known σ' n (μ 1) := Or.inr ⟨s3, s4⟩
  unfold fn_X5_count fn_X6_count jn_X5_count_181
  rw [hc_r0, hc_r6, show hc_rf 0 4 = 58 from by decide, show hc_rf 0 5 = 136 from by decide]
  by_cases q0 : a1 = 0
  · rw [if_pos q0, if_pos q0, pm_n0 h, Option.bind_some, hr.1]
    exact ⟨_, _, _, rfl, rfl, hSm⟩
  rw [if_neg q0, if_neg q0]
  by_cases q1 : a1 = 1
  · rw [if_pos q1, if_pos q1, pc_allch h hr, pm_allch h, Option.bind_some, Option.bind_some]
    exact ⟨_, _, _, rfl, rfl, hSm⟩
  rw [if_neg q1, if_neg q1]
  by_cases q2 : a1 = 2
  · obtain ⟨μ', m1, m2⟩ := pm_there h rfl (k := 0) (by decide)
    have hl := sp_live_deads (pb_pl n (μ 1)) n
    have hw : pm_want (μ 1) 0 = fun _ => true := rfl
    rw [hw] at m1
    have m1 : fn_X6_pagesThere 0 0 μ = some (nI (sp_live n (pb_pl n (μ 1)) fun _ => true), μ') := m1
    rw [if_pos q2, if_pos q2, s1, Option.bind_some, pc_deads s4 hn hM, Option.bind_some, pm_n0 h, Option.bind_some, m1, Option.bind_some, pl_sub (by omega)]
    refine ⟨_, σ', μ', rfl, ?_, hSm.askn h s2 m2.kp hkn⟩
    rw [show n - sp_live n (pb_pl n (μ 1)) (fun _ => true) = sp_deads n (pb_pl n (μ 1)) by omega]
  rw [if_neg q2, if_neg q2]
  by_cases q3 : a1 = 3
  · obtain ⟨μ', m1, m2⟩ := pm_againAll h rfl
    rw [if_pos q3, if_pos q3, s1, Option.bind_some, pc_agains s4 hn hM, Option.bind_some, m1, Option.bind_some]
    exact ⟨_, σ', μ', rfl, rfl, hSm.askn h s2 m2 hkn⟩
  rw [if_neg q3, if_neg q3]
  by_cases q4 : a1 = 4
  · obtain ⟨μ', m1, m2⟩ := pm_stuckIn h rfl (lo := 0) (N := 1023) (by omega)
    rw [show 1023 + 1 = 1024 from rfl, sp_allStuck_eq hn hM] at m1
    have m1 : fn_X6_stuckIn 0 0 1023 μ = some (nI (sp_allStuck n (μ 1) (pb_pl n (μ 1))), μ') := m1
    rw [if_pos q4, if_pos q4, s1, Option.bind_some, pc_allStuck s4 hn hM, Option.bind_some, m1, Option.bind_some]
    exact ⟨_, σ', μ', rfl, rfl, hSm.askn h s2 m2 hkn⟩
  rw [if_neg q4, if_neg q4]
  by_cases q5 : a1 = 5
  · obtain ⟨μ', m1, m2, m3⟩ := pm_reaches h rfl
    unfold fn_X6_places
    rw [if_pos q5, if_pos q5, s1, Option.bind_some, m1, Option.bind_some, Option.bind_some, s4.2.1.1, m2.1]
    exact ⟨_, σ', μ', rfl, rfl, hSm.askn h s2 m3.kp hkn⟩
  rw [if_neg q5, if_neg q5]
  by_cases q6 : a1 = 6
  · obtain ⟨μ', m1, m2⟩ := pm_there h rfl (k := 1) (by decide)
    have hw : pm_want (μ 1) 1 = pe_end (μ 1) := rfl
    rw [hw] at m1
    have m1 : fn_X6_pagesThere 0 (a1 - 5) μ = some (nI (sp_live n (pb_pl n (μ 1)) (pe_end (μ 1))), μ') := by rw [q6]; exact m1
    rw [if_pos q6, if_pos q6, s1, Option.bind_some, s1', Option.bind_some, pc_live s4 hn hM _ (pe_end (μ 1)) (fun p hp => by
      rw [s4.2.2.2.2.1.1 p (by omega)]
      unfold pe_end
      rw [decide_eq_true_iff]
      exact ⟨fun h => h.2, fun h => ⟨hp, h⟩⟩), Option.bind_some, m1, Option.bind_some]
    exact ⟨_, σ', μ', rfl, rfl, hSm.askn h s2 m2.kp hkn⟩
  rw [if_neg q6, if_neg q6]
  by_cases q7 : a1 = 7
  · obtain ⟨μ', m1, m2⟩ := pm_there h rfl (k := 2) (by decide)
    have hw : pm_want (μ 1) 2 = pe_hap (μ 1) := rfl
    rw [hw] at m1
    have m1 : fn_X6_pagesThere 0 (a1 - 5) μ = some (nI (sp_live n (pb_pl n (μ 1)) (pe_hap (μ 1))), μ') := by rw [q7]; exact m1
    rw [if_pos q7, if_pos q7, s1, Option.bind_some, s1', Option.bind_some, pc_live s4 hn hM _ (pe_hap (μ 1)) (fun p hp => by
      rw [s4.2.2.2.2.1.2 p (by omega)]
      unfold pe_hap
      rw [decide_eq_true_iff]
      exact ⟨fun h => h.2, fun h => ⟨hp, h⟩⟩), Option.bind_some, m1, Option.bind_some]
    exact ⟨_, σ', μ', rfl, rfl, hSm.askn h s2 m2.kp hkn⟩
  rw [if_neg q7, if_neg q7]
  by_cases q8 : a1 = 8
  · obtain ⟨μ', m1, m2, m3, m4⟩ := pm_findsWay h rfl
    have hfin : Sm σ' μ' := hSm.askn h s2 m2 hkn
    rw [if_pos q8, if_pos q8, s1, Option.bind_some, s1', Option.bind_some, m1, Option.bind_some]
    have hway := s4.2.2.2.2.2
    unfold pc_way at hway
    cases hg : pw_goal (μ 1) (pb_pl n (μ 1)) with
    | none =>
      rw [hg] at hway
      have hway : σ' 147 10 = -1 := hway
      rw [hway, if_neg (show ¬ (0 : Int32) ≤ -1 by decide)]
      exact ⟨-5, σ', μ', rfl, rfl, hfin⟩
    | some g =>
      rw [hg] at hway
      obtain ⟨w1, w2⟩ := hway
      obtain ⟨v1, v2⟩ := m4 g hg
      have hgm : g ∈ (pb_pl n (μ 1)).1 := List.mem_of_find?_eq_some hg
      have hd := hM.d hgm
      have z6 : (0 : Int32) ≤ nI ((pb_pl n (μ 1)).2.1 g) := by
        show nI 0 ≤ _
        rw [nI_leI (by omega) (by omega)]
        omega
      rw [w1, if_pos z6]
      refine ⟨_, σ', μ', rfl, ?_, hfin⟩
      show (if (1 : Int32) = 0 then _ else some (μ' 0 15, μ')) = _
      rw [if_neg z1, v1]
  rw [if_neg q8, if_neg q8]
  by_cases q9 : a1 = 9
  · have e423 : hb_ld ΛM μ (hm_rf 0 0) 423 = some (μ 1 423) := pm_ld (a := hm_rf 0 0) (n := 425) (i := 423) (by decide) (by decide) (by decide) μ
    rw [if_pos q9, if_pos q9, e423, Option.bind_some, hr.2.2.2]
    rcases sp_plc h.2.2.2.2 with ⟨h5, e⟩ | ⟨p, g, hp, hg, ha, hf, e⟩
    · rw [e, if_pos rfl, if_pos h5]
      exact ⟨_, _, _, rfl, rfl, hSm⟩
    · have z2 : ¬ nI (32 * p + g) = -1 := pl_ne_neg (by omega) (by decide)
      have z3 : ¬ nI p = -5 := pl_ne_neg (by omega) (by decide)
      rw [e, if_neg z2, ha, if_neg z3]
      exact ⟨_, _, _, rfl, rfl, hSm⟩
  rw [if_neg q9, if_neg q9]
  by_cases q10 : a1 = 10
  · obtain ⟨sz, nx, k1, k2, k3, k4, k5, k6⟩ := hhi
    rw [if_pos q10, if_pos q10, k3, k5]
    exact ⟨_, _, _, rfl, rfl, hSm⟩
  rw [if_neg q10, if_neg q10]
  by_cases q11 : a1 = 11
  · obtain ⟨len, k1, k2, k3, k4⟩ := htx
    rw [if_pos q11, if_pos q11, k2, k3]
    exact ⟨_, _, _, rfl, rfl, hSm⟩
  rw [if_neg q11, if_neg q11]
  exact ⟨_, _, _, rfl, rfl, hSm⟩
