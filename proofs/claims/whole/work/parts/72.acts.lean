/-! acts on readers, the bookmark, the text -/
theorem wb_m {A B : Nat → Int32} {p : Nat} (h : B (4 + 13 * p) = A (4 + 13 * p)) : pl_m B p = pl_m A p := by
  unfold pl_m
  rw [h]
/-- pages kept: what a place says may change -/
theorem wb_pages {n : Nat} {A B : Nat → Int32} (h : pl_WB n A) (hj : ∀ j, j < 417 → B j = A j) (hr : ∀ r, r < 2 → pl_WR n (B (417 + 3 * r)) (B (418 + 3 * r))) (hb : pl_WR n (B 423) (B 424)) : pl_WB n B := by
  obtain ⟨h1, h2, h3, -, -⟩ := h
  refine ⟨h1, by rw [hj 0 (by decide)]; exact h2, fun p hp => ?_, hr, hb⟩
  obtain ⟨a1, a2, a3, a4, a5, a6⟩ := h3 p hp
  have hm : pl_m B p = pl_m A p := wb_m (hj _ (by omega))
  unfold pl_WP
  rw [hm, hj _ (by omega), hj _ (by omega), hj _ (by omega), hj _ (by omega)]
  refine ⟨a1, a2, a3, a4, a5, fun c hc => ?_⟩
  have := a6 c hc
  unfold pl_WC at this ⊢
  rw [hj _ (by omega), hj _ (by omega), hj _ (by omega)]
  exact this
theorem rs_pages {n : Nat} {A B : Nat → Int32} {σ τ : hb_Mem} (h : pl_WB n A) (hR : pl_RS σ 1 n A) (hj : ∀ j, j < 417 → B j = A j) (h0 : τ 1 0 = σ 1 0) (hc : ∀ c, 3 ≤ c → c < 17 → τ c = σ c) (hr : ∀ r, r < 2 → τ 17 r = pl_plc (B (417 + 3 * r)) (B (418 + 3 * r)) ∧ τ 19 r = B (419 + 3 * r)) (hb : τ 1 10 = pl_plc (B 423) (B 424)) : pl_RS τ 1 n B := by
  have hn := h.1
  obtain ⟨a1, a2, -, -⟩ := hR
  refine ⟨by rw [h0]; exact a1, fun p hp => ?_, hr, hb⟩
  obtain ⟨b1, b2, b3, b4, b5⟩ := a2 p hp
  have hm : pl_m B p = pl_m A p := wb_m (hj _ (by omega))
  have hm3 := (h.m hp).1
  rw [hm, hj _ (by omega), hj _ (by omega), hj _ (by omega), hj _ (by omega), hc _ (by omega) (by omega), hc _ (by omega) (by omega), hc _ (by omega) (by omega), hc _ (by omega) (by omega)]
  refine ⟨b1, b2, b3, b4, fun c hc' => ?_⟩
  rw [hj _ (by omega), hj _ (by omega), hj _ (by omega), hc _ (by omega) (by omega), hc _ (by omega) (by omega), hc _ (by omega) (by omega)]
  exact b5 c hc'
/-- a reader put at a place, on both sides -/
theorem sm_goes {n r p g : Nat} {σ μ : hb_Mem} (hSm : Sm σ μ) (h0 : σ 147 0 = 0) (h : pl_WB n (μ 1)) (hr : pl_RS σ 1 n (μ 1)) (hr2 : r < 2) (hp : p < n) (hg : g < 32) (tk : Int32) : ∃ σ' μ', fn_X2_putReader 1 (nI r) (nI (32 * p + g)) tk σ = some σ' ∧ fn_X6_goes 0 (nI r) (nI p) (nI g) tk μ = some μ' ∧ Sm σ' μ' ∧ (∀ j, j < 417 → μ' 1 j = μ 1 j) ∧ pl_WB n (μ' 1) ∧ σ' 1 = σ 1 ∧ μ' 1 423 = μ 1 423 := by
  have hn := h.1
  unfold fn_X2_putReader fn_X6_goes
  rw [pl_put (r := hc_rf 1 8) (a := 17) (n := 2) (by decide) hr2, Option.bind_some, pl_put (r := hc_rf 1 9) (a := 19) (n := 2) (by decide) hr2, Option.bind_some]
  have e : ∀ w, ((417 : Int32) + ((3 : Int32) * nI r)) + nI w = nI (417 + 3 * r + w) := fun w => by
    rw [show (417 : Int32) = nI 417 from rfl, show (3 : Int32) = nI 3 from rfl, pl_mul, nI_add, nI_add]
  have est : ∀ w v (τ : hb_Mem), w < 3 → hb_st ΛM τ (hm_rf 0 0) (((417 : Int32) + ((3 : Int32) * nI r)) + nI w) v = some (hb_up τ 1 (417 + 3 * r + w) v) := fun w v τ hw => by
    rw [e w]
    exact pm_stt (a := hm_rf 0 0) (n := 425) (by decide) (by omega) (by decide) v τ
  rw [show (0 : Int32) = nI 0 from rfl, show (1 : Int32) = nI 1 from rfl, show (2 : Int32) = nI 2 from rfl, est 0 _ _ (by decide), Option.bind_some, est 1 _ _ (by decide), Option.bind_some, est 2 _ _ (by decide), Option.bind_some]
  have hB : ∀ j, hb_up (hb_up (hb_up μ 1 (417 + 3 * r + 0) (nI p)) 1 (417 + 3 * r + 1) (nI g)) 1 (417 + 3 * r + 2) tk 1 j = if j = 417 + 3 * r then nI p else if j = 418 + 3 * r then nI g else if j = 419 + 3 * r then tk else μ 1 j := by
    intro j
    by_cases k0 : j = 417 + 3 * r
    · rw [if_pos k0, k0, pl_up_other (by omega), pl_up_other (by omega)]
      exact pl_up_same μ 1 (417 + 3 * r) (nI p)
    · rw [if_neg k0]
      by_cases k1 : j = 418 + 3 * r
      · rw [if_pos k1, k1, pl_up_other (by omega), show 418 + 3 * r = 417 + 3 * r + 1 by omega, pl_up_same]
      · rw [if_neg k1]
        by_cases k2 : j = 419 + 3 * r
        · rw [if_pos k2, k2, show 419 + 3 * r = 417 + 3 * r + 2 by omega, pl_up_same]
        · rw [if_neg k2, pl_up_other (by omega), pl_up_other (by omega), pl_up_other (by omega)]
  obtain ⟨μ', hμ'⟩ : ∃ m, m = hb_up (hb_up (hb_up μ 1 (417 + 3 * r + 0) (nI p)) 1 (417 + 3 * r + 1) (nI g)) 1 (417 + 3 * r + 2) tk := ⟨_, rfl⟩
  have hoff : ∀ c, c ≠ 1 → μ' c = μ c := fun c hc => by rw [hμ', hb_up_ne hc, hb_up_ne hc, hb_up_ne hc]
  rw [← hμ'] at hB ⊢
  obtain ⟨σ', hσ'⟩ : ∃ s, s = hb_up (hb_up σ 17 r (nI (32 * p + g))) 19 r tk := ⟨_, rfl⟩
  have hoff2 : ∀ c, c ≠ 17 → c ≠ 19 → σ' c = σ c := fun c h1 h2 => by rw [hσ', hb_up_ne h2, hb_up_ne h1]
  rw [← hσ']
  have hlow : ∀ j, j < 417 → μ' 1 j = μ 1 j := fun j hj => by rw [hB, if_neg (by omega), if_neg (by omega), if_neg (by omega)]
  have h423 : μ' 1 423 = μ 1 423 := by rw [hB, if_neg (by omega), if_neg (by omega), if_neg (by omega)]
  have h424 : μ' 1 424 = μ 1 424 := by rw [hB, if_neg (by omega), if_neg (by omega), if_neg (by omega)]
  have hW : pl_WB n (μ' 1) := by
    refine wb_pages h hlow (fun r' hr' => ?_) (by rw [h423, h424]; exact h.2.2.2.2)
    by_cases e : r' = r
    · subst e
      rw [hB, if_pos rfl, hB, if_neg (by omega), if_pos rfl]
      exact Or.inr ⟨⟨p, hp, rfl⟩, g, hg, rfl⟩
    · rw [hB, if_neg (by omega), if_neg (by omega), if_neg (by omega), hB, if_neg (by omega), if_neg (by omega), if_neg (by omega)]
      exact h.2.2.2.1 r' hr'
  have hR : pl_RS σ' 1 n (μ' 1) := by
    refine rs_pages h hr hlow (by rw [hoff2 1 (by decide) (by decide)]) (fun c h1 h2 => hoff2 c (by omega) (by omega)) (fun r' hr' => ?_) (by rw [hoff2 1 (by decide) (by decide), h423, h424]; exact hr.2.2.2)
    by_cases e : r' = r
    · subst e
      refine ⟨?_, ?_⟩
      · rw [hB, if_pos rfl, hB, if_neg (by omega), if_pos rfl, hσ', hb_up_ne (by decide), pl_up_same]
        unfold pl_plc
        rw [if_neg (pl_ne_neg (by omega) (by decide)), pl_place]
      · rw [hB, if_neg (by omega), if_neg (by omega), if_pos rfl, hσ', pl_up_same]
    · obtain ⟨k1, k2⟩ := hr.2.2.1 r' hr'
      refine ⟨?_, ?_⟩
      · rw [hB, if_neg (by omega), if_neg (by omega), if_neg (by omega), hB, if_neg (by omega), if_neg (by omega), if_neg (by omega), hσ', hb_up_ne (by decide), pl_up_other e]
        exact k1
      · rw [hB, if_neg (by omega), if_neg (by omega), if_neg (by omega), hσ', pl_up_other e, hb_up_ne (by decide)]
        exact k2
  exact ⟨σ', μ', rfl, rfl, hSm.put h0 (fun c hc => hoff2 c (by omega) (by omega)) hoff hW hR, hlow, hW, hoff2 1 (by decide) (by decide), h423⟩
theorem pg_com_congr {A B : Nat → Int32} {p f : Nat} (hj : ∀ j, j < 417 → B j = A j) (hp : p < 32) : pg_com B p f = pg_com A p f := by
  unfold pg_com pg_tak pg_set
  rw [hj _ (by omega), hj _ (by omega)]
theorem sm_begin : hs_begin Sm := by
  intro σ μ hSm a1
  have hSm' := hSm
  obtain ⟨⟨n, h, hr, hk⟩, -⟩ := hSm'
  have hn := h.1
  have z1 : ¬ (1 : Int32) = 0 := by decide
  unfold fn_X5_begin fn_X6_begin
  rw [hc_r0]
  rcases sp_reader a1 with ⟨r, hr2, rfl, e1, e2⟩ | ⟨e1, e2⟩
  · rw [e1, e2, Option.bind_some, Option.bind_some, if_neg z1, if_neg z1, hr.1, pm_n0 h, Option.bind_some]
    by_cases q : n = 0
    · have z : nI n = 0 := by rw [q]; rfl
      rw [if_pos z, if_pos z]
      exact ⟨_, _, _, rfl, rfl, hSm⟩
    · have z : ¬ nI n = 0 := fun hc => q ((pl_eq0 (by omega)).mp hc)
      obtain ⟨σ1, μ1, r1, r2, r3, r4, r5, r6, r7, r8⟩ := sm_record hSm
      have eB : μ1 1 = μ 1 := r7 1 (by decide) (by decide)
      have h1 : pl_WB n (μ1 1) := by rw [eB]; exact h
      have hr1 : pl_RS σ1 1 n (μ1 1) := by rw [eB]; exact hr.congr (fun c _ h2 => r5 c (by omega))
      have hc0 : pg_com (μ1 1) 0 0 < 32 := pg_com_lt h1 (by omega) (by decide)
      have hfp : fn_X2_firstPlace 1 σ1 = some (nI (32 * 0 + pg_com (μ1 1) 0 0)) := by
        unfold fn_X2_firstPlace
        rw [show (0 : Int32) = nI 0 from rfl, pc_com (k := 1) (p := 0) (f := 0) (by decide) h1 hr1 (by omega) (by decide)]
        rfl
      have hmp : ∀ (τ : hb_Mem), pl_WB n (τ 1) → fn_X6_firstPlace 0 τ = some (nI (pg_com (τ 1) 0 0)) := by
        intro τ hτ
        unfold fn_X6_firstPlace
        rw [show (0 : Int32) = nI 0 from rfl, pm_coming hτ (by omega) (by decide)]
        rfl
      obtain ⟨σ2, μ2, g1, g2, g3, g4, g5, -, -⟩ := sm_goes r3 r4 h1 hr1 hr2 (p := 0) (g := pg_com (μ1 1) 0 0) (by omega) hc0 0
      have g2 : fn_X6_goes 0 (nI r) 0 (nI (pg_com (μ1 1) 0 0)) 0 μ1 = some μ2 := g2
      rw [if_neg z, if_neg z, r1, r2, Option.bind_some, Option.bind_some, hfp, hmp μ1 h1, Option.bind_some, Option.bind_some, g1, g2, Option.bind_some, Option.bind_some, pc_flags (by omega), hmp μ2 g5, Option.bind_some, Option.bind_some, pg_com_congr g4 (by decide), show (32 * 0 + pg_com (μ1 1) 0 0) % 32 = pg_com (μ1 1) 0 0 by omega]
      exact ⟨_, _, _, rfl, rfl, g3⟩
  · rw [e1, e2]
    exact ⟨_, _, _, rfl, rfl, hSm⟩
theorem sm_choose : hs_choose Sm := by
  intro σ μ hSm a1 a2
  have hSm' := hSm
  obtain ⟨⟨n, h, hr, hk⟩, -⟩ := hSm'
  have hn := h.1
  have z1 : ¬ (1 : Int32) = 0 := by decide
  unfold fn_X5_choose fn_X6_choose fn_X6_why
  rw [hc_r0]
  rcases sp_reader a1 with ⟨r, hr2, rfl, e1, e2⟩ | ⟨e1, e2⟩
  · rw [e1, e2, Option.bind_some, Option.bind_some, if_neg z1, if_neg z1]
    rcases sp_number a2 with ⟨c, hc, rfl, f1, f2⟩ | ⟨f1, f2⟩
    · rw [f1, f2, Option.bind_some, Option.bind_some, if_neg z1, if_neg z1, pc_whyR h hr hr2 hc, pm_reason h hr2 hc, Option.bind_some, Option.bind_some, Option.bind_some]
      by_cases q : sp_why (μ 1) r c = 0
      · rcases sp_plc (h.2.2.2.1 r hr2) with ⟨h5, e⟩ | ⟨p, g, hp, hg, ha, hf, e⟩
        · exfalso
          unfold sp_why at q
          rw [if_pos h5] at q
          exact z1 q
        · rw [sp_why_at (by omega) hg ha hf] at q
          have hw5 := pg_why_lt (μ 1) p g c
          have hw : pg_why (μ 1) p g c = 0 := (pl_eq0 (by omega)).mp q
          have hcm : c < pl_m (μ 1) p := pg_why_c hw
          obtain ⟨t1, t2⟩ := h.to hp hcm
          obtain ⟨σ1, μ1, r1, r2, r3, r4, r5, r6, r7, r8⟩ := sm_record hSm
          have eB : μ1 1 = μ 1 := r7 1 (by decide) (by decide)
          have h1 : pl_WB n (μ1 1) := by rw [eB]; exact h
          have hr1 : pl_RS σ1 1 n (μ1 1) := by rw [eB]; exact hr.congr (fun c _ h2 => r5 c (by omega))
          have hcom := pg_com_lt h t1 hg
          have hnx : pg_nx (μ1 1) (32 * p + g) c = some (32 * pg_to (μ 1) p c + pg_com (μ 1) (pg_to (μ 1) p c) g) := by
            rw [eB]
            unfold pg_nx
            rw [show (32 * p + g) / 32 = p by omega, show (32 * p + g) % 32 = g by omega, if_pos hw]
          have hpl : fn_X1_at (hc_rf 1 8) (nI r) σ1 = some (nI (32 * p + g)) := by
            rw [pc_rdr hr1 hr2, eB, e]
          have htk : fn_X1_at (hc_rf 1 9) (nI r) σ1 = some (μ 1 (419 + 3 * r)) := by rw [pc_rtk hr1 hr2, eB]
          obtain ⟨σ2, μ2, g1, g2, g3, g4, g5, -, -⟩ := sm_goes r3 r4 h1 hr1 hr2 t1 hcom (μ 1 (419 + 3 * r) + 1)
          have m0 : fn_X6_ofReader 0 (nI r) 0 μ1 = some (nI p) := by
            have := pm_rdr (w := 0) hr2 (by decide) μ1
            rw [eB, show 417 + 3 * r + 0 = 417 + 3 * r from rfl, ha] at this
            exact this
          have m1 : fn_X6_ofReader 0 (nI r) 1 μ1 = some (nI g) := by
            have := pm_rdr (w := 1) hr2 (by decide) μ1
            rw [eB, show 417 + 3 * r + 1 = 418 + 3 * r by omega, hf] at this
            exact this
          have m2 : fn_X6_ofReader 0 (nI r) 2 μ1 = some (μ 1 (419 + 3 * r)) := by
            have := pm_rdr (w := 2) hr2 (by decide) μ1
            rw [eB, show 417 + 3 * r + 2 = 419 + 3 * r by omega] at this
            exact this
          rw [sp_why_at (by omega) hg ha hf, if_pos q, if_pos q, r1, r2, Option.bind_some, Option.bind_some, hpl, m0, Option.bind_some, Option.bind_some, pc_nx (by decide) h1 hr1 (by omega) hnx, pm_oc0 (by omega) hc, Option.bind_some, Option.bind_some, htk, m1, Option.bind_some, Option.bind_some, g1, eB, t2, pm_coming h1 t1 hg, Option.bind_some, Option.bind_some, m2, Option.bind_some, eB, g2, Option.bind_some, pc_page (by omega), Option.bind_some, show (32 * pg_to (μ 1) p c + pg_com (μ 1) (pg_to (μ 1) p c) g) / 32 = pg_to (μ 1) p c by omega]
          exact ⟨_, _, _, rfl, rfl, g3⟩
      · have hpos : (0 : Int32) ≤ sp_why (μ 1) r c := by
          unfold sp_why
          split
          · decide
          · show nI 0 ≤ nI _
            have := pg_why_lt (μ 1) (μ 1 (417 + 3 * r)).toNatClampNeg (μ 1 (418 + 3 * r)).toNatClampNeg c
            rw [nI_leI (by omega) (by omega)]
            omega
        rw [if_neg q, if_neg q, if_pos hpos]
        exact ⟨_, _, _, rfl, rfl, hSm⟩
    · rw [f1, f2]
      exact ⟨_, _, _, rfl, rfl, hSm⟩
  · rw [e1, e2]
    exact ⟨_, _, _, rfl, rfl, hSm⟩
