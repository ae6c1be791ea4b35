/-! mark, goToMark, type, clearText -/
theorem sm_marked {n r : Nat} {μ : hb_Mem} (h : pl_WB n (μ 1)) (hr2 : r < 2) (hno : ¬ (μ 1 423 = -5 ∧ μ 1 (417 + 3 * r) = -5)) : fn_X6_isMarked 0 (nI r) μ = some (if pl_plc (μ 1 423) (μ 1 424) = pl_plc (μ 1 (417 + 3 * r)) (μ 1 (418 + 3 * r)) then 1 else 0) := by
  have hn := h.1
  have e423 : hb_ld ΛM μ (hm_rf 0 0) 423 = some (μ 1 423) := pm_ld (a := hm_rf 0 0) (n := 425) (i := 423) (by decide) (by decide) (by decide) μ
  have e424 : hb_ld ΛM μ (hm_rf 0 0) 424 = some (μ 1 424) := pm_ld (a := hm_rf 0 0) (n := 425) (i := 424) (by decide) (by decide) (by decide) μ
  have m0 : fn_X6_ofReader 0 (nI r) 0 μ = some (μ 1 (417 + 3 * r)) := pm_rdr (w := 0) hr2 (by decide) μ
  have m1 : fn_X6_ofReader 0 (nI r) 1 μ = some (μ 1 (418 + 3 * r)) := by
    have := pm_rdr (w := 1) hr2 (by decide) μ
    rw [show 417 + 3 * r + 1 = 418 + 3 * r by omega] at this
    exact this
  unfold fn_X6_isMarked
  rw [e423, m0, Option.bind_some, Option.bind_some, e424, m1, Option.bind_some, Option.bind_some]
  rcases sp_plc h.2.2.2.2 with ⟨h5, e⟩ | ⟨p', g', hp', hg', ha', hf', e'⟩
  · rcases sp_plc (h.2.2.2.1 r hr2) with ⟨h5', e'⟩ | ⟨p, g, hp, hg, ha, hf, e'⟩
    · exact absurd ⟨h5, h5'⟩ hno
    · have z1 : ¬ μ 1 423 = μ 1 (417 + 3 * r) := by
        rw [h5, ha]
        exact fun hc => pl_ne_neg (c := -5) (by omega) (by decide) hc.symm
      have z2 : ¬ pl_plc (μ 1 423) (μ 1 424) = pl_plc (μ 1 (417 + 3 * r)) (μ 1 (418 + 3 * r)) := by
        rw [e, e']
        exact fun hc => pl_ne_neg (c := -1) (by omega) (by decide) hc.symm
      rw [if_neg z1, if_neg z2]
  · rcases sp_plc (h.2.2.2.1 r hr2) with ⟨h5, e⟩ | ⟨p, g, hp, hg, ha, hf, e⟩
    · have z1 : ¬ μ 1 423 = μ 1 (417 + 3 * r) := by
        rw [h5, ha']
        exact pl_ne_neg (c := -5) (by omega) (by decide)
      have z2 : ¬ pl_plc (μ 1 423) (μ 1 424) = pl_plc (μ 1 (417 + 3 * r)) (μ 1 (418 + 3 * r)) := by
        rw [e, e']
        exact pl_ne_neg (c := -1) (by omega) (by decide)
      rw [if_neg z1, if_neg z2]
    · rw [e, e', ha, ha', hf, hf']
      by_cases q1 : p' = p
      · by_cases q2 : g' = g
        · rw [if_pos (show nI p' = nI p by rw [q1]), if_pos (show nI g' = nI g by rw [q2]), if_pos (by rw [q1, q2])]
        · have z1 : ¬ nI g' = nI g := fun hc => q2 ((nI_eq (by omega) (by omega)).mp hc)
          have z2 : ¬ nI (32 * p' + g') = nI (32 * p + g) := fun hc => by
            have := (nI_eq (by omega) (by omega)).mp hc
            omega
          rw [if_pos (show nI p' = nI p by rw [q1]), if_neg z1, if_neg z2]
      · have z1 : ¬ nI p' = nI p := fun hc => q1 ((nI_eq (by omega) (by omega)).mp hc)
        have z2 : ¬ nI (32 * p' + g') = nI (32 * p + g) := fun hc => by
          have := (nI_eq (by omega) (by omega)).mp hc
          omega
        rw [if_neg z1, if_neg z2]
theorem sm_mark : hs_mark Sm := by
  intro σ μ hSm a1
  have hSm' := hSm
  obtain ⟨⟨n, h, hr, hk⟩, -⟩ := hSm'
  have hn := h.1
  have z1 : ¬ (1 : Int32) = 0 := by decide
  unfold fn_X5_mark fn_X6_mark jn_X6_mark_28
  rw [hc_r0]
  rcases sp_reader a1 with ⟨r, hr2, rfl, e1, e2⟩ | ⟨e1, e2⟩
  · have m0 : ∀ τ : hb_Mem, fn_X6_ofReader 0 (nI r) 0 τ = some (τ 1 (417 + 3 * r)) := fun τ => pm_rdr (w := 0) hr2 (by decide) τ
    have m1 : ∀ τ : hb_Mem, fn_X6_ofReader 0 (nI r) 1 τ = some (τ 1 (418 + 3 * r)) := fun τ => by
      have := pm_rdr (w := 1) hr2 (by decide) τ
      rw [show 417 + 3 * r + 1 = 418 + 3 * r by omega] at this
      exact this
    rw [e1, e2, Option.bind_some, Option.bind_some, if_neg z1, if_neg z1, pc_rdr hr hr2, m0, Option.bind_some, Option.bind_some, Option.bind_some]
    rcases sp_plc (h.2.2.2.1 r hr2) with ⟨h5, e⟩ | ⟨p, g, hp, hg, ha, hf, e⟩
    · rw [e, if_pos rfl, if_pos h5, if_pos h5]
      exact ⟨_, _, _, rfl, rfl, hSm⟩
    · have z2 : ¬ nI (32 * p + g) = -1 := pl_ne_neg (by omega) (by decide)
      have z3 : ¬ μ 1 (417 + 3 * r) = -5 := by rw [ha]; exact pl_ne_neg (by omega) (by decide)
      rw [e, if_neg z2, if_neg z3, if_neg z3, sm_marked h hr2 (fun hc => z3 hc.2), Option.bind_some, hr.2.2.2, e]
      by_cases q : pl_plc (μ 1 423) (μ 1 424) = nI (32 * p + g)
      · rw [if_pos q, if_pos q, if_neg z1]
        exact ⟨_, _, _, rfl, rfl, hSm⟩
      · obtain ⟨σ1, μ1, r1, r2, r3, r4, r5, r6, r7, r8⟩ := sm_record hSm
        have eB : μ1 1 = μ 1 := r7 1 (by decide) (by decide)
        have h1 : pl_WB n (μ1 1) := by rw [eB]; exact h
        have hr1 : pl_RS σ1 1 n (μ1 1) := by rw [eB]; exact hr.congr (fun c _ h2 => r5 c (by omega))
        have st1 : ∀ v, hb_st ΛM μ1 (hm_rf 0 0) 423 v = some (hb_up μ1 1 423 v) := fun v => pm_stt (a := hm_rf 0 0) (n := 425) (i := 423) (by decide) (by decide) (by decide) v μ1
        have st2 : ∀ v (τ : hb_Mem), hb_st ΛM τ (hm_rf 0 0) 424 v = some (hb_up τ 1 424 v) := fun v τ => pm_stt (a := hm_rf 0 0) (n := 425) (i := 424) (by decide) (by decide) (by decide) v τ
        have ld3 : ∀ (τ : hb_Mem), hb_ld ΛM τ (hm_rf 0 0) 423 = some (τ 1 423) := fun τ => pm_ld (a := hm_rf 0 0) (n := 425) (i := 423) (by decide) (by decide) (by decide) τ
        have e8 : hb_up μ1 1 423 (nI p) 1 (418 + 3 * r) = nI g := by rw [pl_up_other (by omega), eB, hf]
        rw [if_neg q, if_neg q, if_pos rfl, r1, r2, Option.bind_some, Option.bind_some, m0, Option.bind_some, eB, ha, st1, Option.bind_some, m1, Option.bind_some, e8, st2, Option.bind_some, ld3, Option.bind_some, pc_page (by omega)]
        simp only [hb_nm]
        rw [Option.bind_some, show (32 * p + g) / 32 = p by omega, pl_up_other (by decide), pl_up_same]
        have hB : ∀ j, hb_up (hb_up μ1 1 423 (nI p)) 1 424 (nI g) 1 j = if j = 423 then nI p else if j = 424 then nI g else μ1 1 j := by
          intro j
          by_cases k0 : j = 423
          · rw [if_pos k0, k0, pl_up_other (by decide), pl_up_same]
          · rw [if_neg k0]
            by_cases k1 : j = 424
            · rw [if_pos k1, k1, pl_up_same]
            · rw [if_neg k1, pl_up_other k1, pl_up_other k0]
        have hlow : ∀ j, j < 423 → hb_up (hb_up μ1 1 423 (nI p)) 1 424 (nI g) 1 j = μ1 1 j := fun j hj => by rw [hB, if_neg (by omega), if_neg (by omega)]
        have b423 : hb_up (hb_up μ1 1 423 (nI p)) 1 424 (nI g) 1 423 = nI p := by rw [hB, if_pos rfl]
        have b424 : hb_up (hb_up μ1 1 423 (nI p)) 1 424 (nI g) 1 424 = nI g := by rw [hB, if_neg (by decide), if_pos rfl]
        have hW : pl_WB n (hb_up (hb_up μ1 1 423 (nI p)) 1 424 (nI g) 1) := by
          refine wb_pages h1 (fun j hj => hlow j (by omega)) (fun r' hr' => ?_) ?_
          · rw [hlow _ (by omega), hlow _ (by omega)]
            exact h1.2.2.2.1 r' hr'
          · rw [b423, b424]
            exact Or.inr ⟨⟨p, hp, rfl⟩, g, hg, rfl⟩
        have hR : pl_RS (hb_up σ1 1 10 (nI (32 * p + g))) 1 n (hb_up (hb_up μ1 1 423 (nI p)) 1 424 (nI g) 1) := by
          refine rs_pages h1 hr1 (fun j hj => hlow j (by omega)) (pl_up_other (by decide)) (fun c k1 k2 => hb_up_ne (by omega)) (fun r' hr' => ?_) ?_
          · rw [hlow _ (by omega), hlow _ (by omega), hlow _ (by omega), hb_up_ne (by decide), hb_up_ne (by decide)]
            exact hr1.2.2.1 r' hr'
          · rw [b423, b424, pl_up_same]
            unfold pl_plc
            rw [if_neg (pl_ne_neg (by omega) (by decide)), pl_place]
        exact ⟨_, _, _, rfl, rfl, r3.put r4 (fun c hc => hb_up_ne (by omega)) (fun c hc => by rw [hb_up_ne hc, hb_up_ne hc]) hW hR⟩
  · rw [e1, e2]
    exact ⟨_, _, _, rfl, rfl, hSm⟩
theorem sm_goToMark : hs_goToMark Sm := by
  intro σ μ hSm a1
  have hSm' := hSm
  obtain ⟨⟨n, h, hr, hk⟩, -⟩ := hSm'
  have hn := h.1
  have z1 : ¬ (1 : Int32) = 0 := by decide
  have ld3 : ∀ (τ : hb_Mem), hb_ld ΛM τ (hm_rf 0 0) 423 = some (τ 1 423) := fun τ => pm_ld (a := hm_rf 0 0) (n := 425) (i := 423) (by decide) (by decide) (by decide) τ
  have ld4 : ∀ (τ : hb_Mem), hb_ld ΛM τ (hm_rf 0 0) 424 = some (τ 1 424) := fun τ => pm_ld (a := hm_rf 0 0) (n := 425) (i := 424) (by decide) (by decide) (by decide) τ
  unfold fn_X5_goToMark fn_X6_goToMark jn_X6_goToMark_30
  rw [hc_r0]
  rcases sp_reader a1 with ⟨r, hr2, rfl, e1, e2⟩ | ⟨e1, e2⟩
  · rw [e1, e2, Option.bind_some, Option.bind_some, if_neg z1, if_neg z1, ld3, Option.bind_some, Option.bind_some, hr.2.2.2, pc_rdr hr hr2, Option.bind_some]
    rcases sp_plc h.2.2.2.2 with ⟨h5, e⟩ | ⟨p, g, hp, hg, ha, hf, e⟩
    · rw [e, if_pos rfl, if_pos h5, if_pos h5]
      exact ⟨_, _, _, rfl, rfl, hSm⟩
    · have z2 : ¬ nI (32 * p + g) = -1 := pl_ne_neg (by omega) (by decide)
      have z3 : ¬ μ 1 423 = -5 := by rw [ha]; exact pl_ne_neg (by omega) (by decide)
      rw [sm_marked h hr2 (fun hc => z3 hc.1), Option.bind_some, e, if_neg z2, if_neg z3, if_neg z3]
      by_cases q : nI (32 * p + g) = pl_plc (μ 1 (417 + 3 * r)) (μ 1 (418 + 3 * r))
      · rw [if_pos q.symm, if_pos q, if_neg z1]
        exact ⟨_, _, _, rfl, rfl, hSm⟩
      · obtain ⟨σ1, μ1, r1, r2, r3, r4, r5, r6, r7, r8⟩ := sm_record hSm
        have eB : μ1 1 = μ 1 := r7 1 (by decide) (by decide)
        have h1 : pl_WB n (μ1 1) := by rw [eB]; exact h
        have hr1 : pl_RS σ1 1 n (μ1 1) := by rw [eB]; exact hr.congr (fun c _ h2 => r5 c (by omega))
        obtain ⟨σ2, μ2, g1, g2, g3, g4, g5, g6, g7⟩ := sm_goes r3 r4 h1 hr1 hr2 hp hg 0
        have e10 : σ1 1 10 = nI (32 * p + g) := by rw [hr1.2.2.2, eB, e]
        rw [if_neg (fun hc => q hc.symm), if_neg q, if_pos rfl, r1, r2, Option.bind_some, Option.bind_some, e10, g1, Option.bind_some, g6, e10, pc_page (by omega), Option.bind_some, ld3, ld4, Option.bind_some, Option.bind_some, eB, ha, hf, g2, Option.bind_some, ld3, Option.bind_some, g7, eB, ha, show (32 * p + g) / 32 = p by omega]
        exact ⟨_, _, _, rfl, rfl, g3⟩
  · rw [e1, e2]
    exact ⟨_, _, _, rfl, rfl, hSm⟩
theorem pc_known.congr {σ σ' : hb_Mem} {n : Nat} {B : Nat → Int32} (h : pc_known σ n B) (hc : ∀ c, 147 ≤ c → σ' c = σ c) : pc_known σ' n B := by
  unfold pc_known pc_SV pc_rows pc_bits at h ⊢
  have hw : pc_way σ' B (pb_pl n B) = pc_way σ B (pb_pl n B) := by
    unfold pc_way
    rw [hc 147 (by decide), hc 159 (by decide)]
  rw [hw, hc 147 (by decide), hc 149 (by decide), hc 151 (by decide), hc 153 (by decide), hc 155 (by decide), hc 157 (by decide)]
  exact h
/-- an act on the text alone -/
theorem Sm.text {σ μ σ' μ' : hb_Mem} (h : Sm σ μ) (hc : ∀ c, (c < 20 ∨ 39 ≤ c) → (c < 136 ∨ 147 ≤ c) → σ' c = σ c) (hm : ∀ c, 1 ≤ c → c < 4 → μ' c = μ c) (h2 : μ' 0 2 = μ 0 2) (h4 : μ' 0 4 = μ 0 4) (ht : sm_text σ' μ') : Sm σ' μ' := by
  obtain ⟨⟨n, a1, a2, a3⟩, b, c, -⟩ := h
  have e1 : μ' 1 = μ 1 := hm 1 (by decide) (by decide)
  refine ⟨⟨n, by rw [e1]; exact a1, by rw [e1]; exact a2.congr (fun c _ h2 => hc c (by omega) (by omega)), by rw [e1]; exact a3.congr (fun c hc' => hc c (by omega) (by omega))⟩, ?_, ?_, ht⟩
  · exact b.fr (by rw [hc 0 (by omega) (by omega)]) (fun c k1 k2 => hc c (by omega) (by omega)) (hm 2 (by decide) (by decide)) h2
  · exact c.fr (fun c k1 k2 => hc c (by omega) (by omega)) (hm 3 (by decide) (by decide)) h4
theorem sm_type : hs_type Sm := by
  intro σ μ hSm a1
  have hSm' := hSm
  obtain ⟨-, -, -, ⟨len, t1, t2, t3, t4⟩⟩ := hSm'
  generalize (a1.toUInt32 % 65536).toInt32 = v
  unfold fn_X5_type fn_X6_type fn_X4_append
  rw [show hc_rf 0 5 = 136 from by decide, t2, t3]
  by_cases q : len = 60
  · have z1 : ¬ nI len < 60 := by show ¬ nI len < nI 60; rw [nI_ltI (by omega) (by omega)]; omega
    have z2 : nI len = 60 := by rw [q]; rfl
    rw [if_neg z1, if_pos z2]
    exact ⟨_, _, _, rfl, rfl, hSm⟩
  · have z1 : nI len < 60 := by show nI len < nI 60; rw [nI_ltI (by omega) (by omega)]; omega
    have z2 : ¬ nI len = 60 := fun hc => q ((nI_eq (b := 60) (by omega) (by omega)).mp hc)
    have est : hb_st ΛM μ (hm_rf 0 5) (nI len) v = some (hb_up μ 4 len v) := pm_stt (a := hm_rf 0 5) (n := 60) (by decide) (by omega) (by decide) v μ
    rw [if_pos z1, if_neg z2, pl_put (r := hc_rf 136 0) (a := 138) (n := 60) (by decide) (by omega), Option.bind_some, est, Option.bind_some]
    simp only [hb_nm]
    rw [Option.bind_some, pl_up_same, pl_up_same, pl_up_ne (by decide), pl_up_ne (by decide), t2, t3, nI_1]
    refine ⟨nI (len + 1), hb_up (hb_up σ 138 len v) 136 1 (nI (len + 1)), hb_up (hb_up μ 4 len v) 0 6 (nI (len + 1)), rfl, rfl, hSm.text (fun c k1 k2 => ?_) (fun c k1 k2 => ?_) ?_ ?_ ⟨len + 1, by omega, pl_up_same _ _ _ _, pl_up_same _ _ _ _, fun i hi => ?_⟩⟩
    · rw [hb_up_ne (by omega), hb_up_ne (by omega)]
    · rw [hb_up_ne (by omega), hb_up_ne (by omega)]
    · rw [pl_up_other (by decide), hb_up_ne (by decide)]
    · rw [pl_up_other (by decide), hb_up_ne (by decide)]
    · rw [pl_up_ne (k := 136) (c := 138) (by decide), pl_up_ne (k := 0) (c := 4) (by decide)]
      by_cases e : i = len
      · rw [e, pl_up_same, pl_up_same]
      · rw [pl_up_other e, pl_up_other e]
        exact t4 i (by omega)
theorem sm_clearText : hs_clearText Sm := by
  intro σ μ hSm
  have hSm' := hSm
  obtain ⟨-, -, -, ⟨len, t1, t2, t3, t4⟩⟩ := hSm'
  unfold fn_X5_clearText fn_X6_clearText
  simp only [hb_nm]
  rw [show hc_rf 0 5 = 136 from by decide, t2, t3]
  refine ⟨nI len, hb_up σ 136 1 0, hb_up μ 0 6 0, rfl, rfl, hSm.text (fun c k1 k2 => hb_up_ne (by omega)) (fun c k1 k2 => hb_up_ne (by omega)) (pl_up_other (by decide)) (pl_up_other (by decide)) ⟨0, by omega, pl_up_same _ _ _ _, pl_up_same _ _ _ _, fun i hi => by omega⟩⟩
