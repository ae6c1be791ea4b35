/-! undo, keep, restore -/
theorem Sm.put {σ1 μ1 σ2 μ2 : hb_Mem} {n : Nat} (h : Sm σ1 μ1) (h0 : σ1 147 0 = 0) (hc : ∀ c, (c < 1 ∨ 39 ≤ c) → σ2 c = σ1 c) (hm : ∀ c, c ≠ 1 → μ2 c = μ1 c) (hW : pl_WB n (μ2 1)) (hR : pl_RS σ2 1 n (μ2 1)) : Sm σ2 μ2 := by
  obtain ⟨-, b, c, d⟩ := h
  refine ⟨⟨n, hW, hR, Or.inl (by rw [hc 147 (by omega)]; exact h0)⟩, ?_, ?_, ?_⟩
  · exact b.fr (by rw [hc 0 (by omega)]) (fun c h1 h2 => hc c (by omega)) (hm 2 (by decide)) (by rw [hm 0 (by decide)])
  · exact c.fr (fun c h1 h2 => hc c (by omega)) (hm 3 (by decide)) (by rw [hm 0 (by decide)])
  · exact d.fr (by rw [hc 136 (by omega)]) (hc 138 (by omega)) (hm 4 (by decide)) (by rw [hm 0 (by decide)])
theorem pm_cp_undo {μ : hb_Mem} {s : Nat} (hs : s < 4) (h4 : μ 0 4 = nI s) : ll_X6_undo_22 0 (0, μ) = some (pl_blk μ 1 425 (sm_row μ s)) := by
  unfold ll_X6_undo_22
  refine pl_for (f := fun x => lb_X6_undo_22 0 x.1 x.2) (s := ((0 : Int32), μ)) 425 (fun i => (nI i, pl_blk μ 1 i (sm_row μ s))) (by rw [pl_blk_0]; rfl) ?_ rfl (by rw [pl_F]; omega)
  intro i hi
  show lb_X6_undo_22 0 (nI i) (pl_blk μ 1 i (sm_row μ s)) = _
  have ei : ((425 : Int32) * pl_blk μ 1 i (sm_row μ s) 0 4) + nI i = nI (425 * s + i) := by
    rw [pl_blk_ne (by decide), h4, show (425 : Int32) = nI 425 from rfl, pl_mul, nI_add]
  have est : ∀ v, hb_st ΛM (pl_blk μ 1 i (sm_row μ s)) (hm_rf 0 0) (nI i) v = some (hb_up (pl_blk μ 1 i (sm_row μ s)) 1 i v) := fun v => pm_stt (a := hm_rf 0 0) (n := 425) (by decide) hi (by decide) v _
  unfold lb_X6_undo_22
  rw [if_neg (by show ¬ nI 425 ≤ nI i; rw [nI_leI (by omega) (by omega)]; omega), ei, pm_past (by omega), Option.bind_some, est, Option.bind_some]
  simp only [hb_nm, nI_1]
  rw [pl_blk_ne (by decide), ← pl_blk_s]
  rfl
theorem pm_cp_keep (μ : hb_Mem) : ll_X6_keep_2 0 (0, μ) = some (pl_blk μ 2 425 (μ 1)) := by
  unfold ll_X6_keep_2
  refine pl_for (f := fun x => lb_X6_keep_2 0 x.1 x.2) (s := ((0 : Int32), μ)) 425 (fun i => (nI i, pl_blk μ 2 i (μ 1))) (by rw [pl_blk_0]; rfl) ?_ rfl (by rw [pl_F]; omega)
  intro i hi
  show lb_X6_keep_2 0 (nI i) (pl_blk μ 2 i (μ 1)) = _
  have eld : hb_ld ΛM (pl_blk μ 2 i (μ 1)) (hm_rf 0 0) (nI i) = some (pl_blk μ 2 i (μ 1) 1 i) := pm_ld (a := hm_rf 0 0) (n := 425) (by decide) hi (by decide) _
  have est : ∀ v, hb_st ΛM (pl_blk μ 2 i (μ 1)) (hm_rf 0 1) (nI i) v = some (hb_up (pl_blk μ 2 i (μ 1)) 2 i v) := fun v => pm_stt (a := hm_rf 0 1) (n := 425) (by decide) hi (by decide) v _
  unfold lb_X6_keep_2
  rw [if_neg (by show ¬ nI 425 ≤ nI i; rw [nI_leI (by omega) (by omega)]; omega), eld, Option.bind_some, est, Option.bind_some]
  simp only [hb_nm, nI_1]
  rw [pl_blk_ne (by decide), ← pl_blk_s]
theorem pm_cp_restore (μ : hb_Mem) : ll_X6_restore_16 0 (0, μ) = some (pl_blk μ 1 425 (μ 2)) := by
  unfold ll_X6_restore_16
  refine pl_for (f := fun x => lb_X6_restore_16 0 x.1 x.2) (s := ((0 : Int32), μ)) 425 (fun i => (nI i, pl_blk μ 1 i (μ 2))) (by rw [pl_blk_0]; rfl) ?_ rfl (by rw [pl_F]; omega)
  intro i hi
  show lb_X6_restore_16 0 (nI i) (pl_blk μ 1 i (μ 2)) = _
  have eld : hb_ld ΛM (pl_blk μ 1 i (μ 2)) (hm_rf 0 1) (nI i) = some (pl_blk μ 1 i (μ 2) 2 i) := pm_ld (a := hm_rf 0 1) (n := 425) (by decide) hi (by decide) _
  have est : ∀ v, hb_st ΛM (pl_blk μ 1 i (μ 2)) (hm_rf 0 0) (nI i) v = some (hb_up (pl_blk μ 1 i (μ 2)) 1 i v) := fun v => pm_stt (a := hm_rf 0 0) (n := 425) (by decide) hi (by decide) v _
  unfold lb_X6_restore_16
  rw [if_neg (by show ¬ nI 425 ≤ nI i; rw [nI_leI (by omega) (by omega)]; omega), eld, Option.bind_some, est, Option.bind_some]
  simp only [hb_nm, nI_1]
  rw [pl_blk_ne (by decide), ← pl_blk_s]
theorem sm_undo : hs_undo Sm := by
  intro σ μ hSm
  have hSm' := hSm
  obtain ⟨⟨n, a1, a2, a3⟩, b, ⟨sz, nx, c1, c2, c3, c4, c5, c6⟩, d⟩ := hSm'
  unfold fn_X5_undo fn_X6_undo
  rw [show hc_rf 0 4 = 58 from by decide, hc_r0, hc_r6, c3, c5]
  by_cases q : sz = 0
  · have z : nI sz = 0 := by rw [q]; rfl
    rw [if_pos z, if_pos z]
    exact ⟨_, _, _, rfl, rfl, hSm⟩
  · have z : ¬ nI sz = 0 := fun hc => q ((pl_eq0 (by omega)).mp hc)
    obtain ⟨n', b1, b2⟩ := c6 (sz - 1) (by omega)
    have hidx : (nx + 4 - sz + (sz - 1)) % 4 = (nx + 3) % 4 := by omega
    rw [hidx] at b2
    have hsub : nI sz - 1 = nI (sz - 1) := pl_sub (b := 1) (by omega)
    obtain ⟨s2, hs2⟩ : ∃ s, s = hb_up (hb_up σ 58 1 (nI ((nx + 3) % 4))) 58 2 (nI (sz - 1)) := ⟨_, rfl⟩
    have hb2 : pl_RS s2 (60 + 19 * ((nx + 3) % 4)) n' (sm_row μ (sz - 1)) := b2.congr (fun c h1 h2 => by rw [hs2, hb_up_ne (by omega), hb_up_ne (by omega)])
    obtain ⟨s3, k1, k2, k3⟩ := pl_copy (show pl_st 1 by decide) (pl_st_ring (nx := (nx + 3) % 4) (by omega)) (by omega) s2
    have hpop : fn_X0_pop 58 1 σ = some s3 := by
      have key : ∀ x, x = nI ((nx + 3) % 4) → jn_X0_pop_18 58 1 x σ = some s3 := by
        intro x hx
        unfold jn_X0_pop_18
        simp only [hb_nm]
        have e2 : hb_up σ 58 1 x 58 2 - 1 = nI (sz - 1) := by rw [pl_up_other (by decide), c3, hsub]
        rw [e2, hx, ← hs2]
        have e1 : s2 58 1 = nI ((nx + 3) % 4) := by rw [hs2, pl_up_other (by decide), pl_up_same]
        rw [e1, pc_ring _ (by omega), Option.bind_some, Option.bind_some, k1, Option.bind_some]
      unfold fn_X0_pop
      rw [c4]
      by_cases q0 : nx = 0
      · have z0 : nI nx ≤ 0 := by rw [q0]; decide
        rw [if_pos z0]
        exact key 3 (by rw [q0]; rfl)
      · have z0 : ¬ nI nx ≤ 0 := by show ¬ nI nx ≤ nI 0; rw [nI_leI (by omega) (by omega)]; omega
        rw [if_neg z0]
        refine key _ ?_
        rw [show nI nx - 1 = nI (nx - 1) from pl_sub (b := 1) (by omega), show (nx + 3) % 4 = nx - 1 by omega]
    rw [if_neg z, if_neg z, hpop, Option.bind_some]
    simp only [hb_nm]
    rw [hsub]
    obtain ⟨m1, hm1⟩ : ∃ m, m = hb_up μ 0 4 (nI (sz - 1)) := ⟨_, rfl⟩
    rw [← hm1]
    have e04 : m1 0 4 = nI (sz - 1) := by rw [hm1, pl_up_same]
    have hrow : sm_row m1 (sz - 1) = sm_row μ (sz - 1) := by
      unfold sm_row
      rw [hm1, hb_up_ne (by decide)]
    rw [pm_cp_undo (by omega) e04, Option.bind_some, hrow]
    have ecls : ∀ c, c < 147 → (c < 1 ∨ 20 ≤ c) → hb_up s3 147 0 0 c = s2 c := fun c h1 h2 => by rw [hb_up_ne (by omega)]; exact k2 c (by omega)
    have hB : ∀ j, j < 425 → pl_blk m1 1 425 (sm_row μ (sz - 1)) 1 j = sm_row μ (sz - 1) j := fun j hj => pl_blk_eq hj
    have hbk : ∀ c, c ≠ 1 → pl_blk m1 1 425 (sm_row μ (sz - 1)) c = m1 c := fun c hc => pl_blk_ne hc
    refine ⟨nI (sz - 1), hb_up s3 147 0 0, pl_blk m1 1 425 (sm_row μ (sz - 1)), ?_, ?_, ⟨n', b1.congr hB, ?_, Or.inl (pl_up_same _ _ _ _)⟩, ?_, ?_, ?_⟩
    · rw [ecls 58 (by decide) (by omega), hs2, pl_up_same]
    · rw [hbk 0 (by decide), e04]
    · refine pl_RS.congrB b1 ((pl_RS.same b1 hb2 k3).congr (fun c h1 h2 => ?_)) hB
      rw [hb_up_ne (by omega)]
    · refine b.fr ?_ (fun c h1 h2 => ?_) ?_ ?_
      · rw [ecls 0 (by decide) (by omega), hs2, hb_up_ne (by decide), hb_up_ne (by decide)]
      · rw [ecls c (by omega) (by omega), hs2, hb_up_ne (by omega), hb_up_ne (by omega)]
      · rw [hbk 2 (by decide), hm1, hb_up_ne (by decide)]
      · rw [hbk 0 (by decide), hm1, pl_up_other (by decide)]
    · refine ⟨sz - 1, (nx + 3) % 4, by omega, by omega, ?_, ?_, ?_, fun i hi => ?_⟩
      · rw [ecls 58 (by decide) (by omega), hs2, pl_up_same]
      · rw [ecls 58 (by decide) (by omega), hs2, pl_up_other (by decide), pl_up_same]
      · rw [hbk 0 (by decide), e04]
      · obtain ⟨n2, f1, f2⟩ := c6 i (by omega)
        have hr2 : sm_row (pl_blk m1 1 425 (sm_row μ (sz - 1))) i = sm_row μ i := by
          unfold sm_row
          rw [pl_blk_ne (by decide), hm1, hb_up_ne (by decide)]
        rw [hr2, show ((nx + 3) % 4 + 4 - (sz - 1) + i) % 4 = (nx + 4 - sz + i) % 4 by omega]
        refine ⟨n2, f1, f2.congr (fun c h1 h2 => ?_)⟩
        rw [ecls c (by omega) (by omega), hs2, hb_up_ne (by omega), hb_up_ne (by omega)]
    · refine d.fr ?_ ?_ ?_ ?_
      · rw [ecls 136 (by decide) (by omega), hs2, hb_up_ne (by decide), hb_up_ne (by decide)]
      · rw [ecls 138 (by decide) (by omega), hs2, hb_up_ne (by decide), hb_up_ne (by decide)]
      · rw [hbk 4 (by decide), hm1, hb_up_ne (by decide)]
      · rw [hbk 0 (by decide), hm1, pl_up_other (by decide)]
theorem sm_keep : hs_keep Sm := by
  intro σ μ hSm
  obtain ⟨⟨n, a1, a2, a3⟩, b, c, d⟩ := hSm
  obtain ⟨s1, k1, k2, k3⟩ := pl_copy (k := 39) (k' := 1) (by decide) (by decide) (by decide) σ
  unfold fn_X5_keep fn_X6_keep
  rw [show hc_rf 0 2 = 39 from by decide, hc_r0, k1, Option.bind_some, pm_cp_keep, Option.bind_some]
  simp only [hb_nm]
  have hbk : ∀ c, c ≠ 2 → c ≠ 0 → hb_up (pl_blk μ 2 425 (μ 1)) 0 2 1 c = μ c := fun c h1 h2 => by rw [hb_up_ne h2, pl_blk_ne h1]
  have hb0 : ∀ j, j ≠ 2 → hb_up (pl_blk μ 2 425 (μ 1)) 0 2 1 0 j = μ 0 j := fun j hj => by rw [pl_up_other hj, pl_blk_ne (by decide)]
  have e1 : hb_up (pl_blk μ 2 425 (μ 1)) 0 2 1 1 = μ 1 := hbk 1 (by decide) (by decide)
  have e2 : ∀ j, j < 425 → hb_up (pl_blk μ 2 425 (μ 1)) 0 2 1 2 j = μ 1 j := fun j hj => by rw [hb_up_ne (by decide), pl_blk_eq hj]
  have ecls : ∀ c, c ≠ 0 → (c < 39 ∨ 58 ≤ c) → hb_up s1 0 3 1 c = σ c := fun c h1 h2 => by rw [hb_up_ne h1]; exact k2 c (by omega)
  have e0 : ∀ j, j ≠ 3 → hb_up s1 0 3 1 0 j = σ 0 j := fun j hj => by rw [pl_up_other hj, k2 0 (by omega)]
  rw [pm_n0 (n := n) (by rw [e1]; exact a1), Option.bind_some]
  refine ⟨nI n, hb_up s1 0 3 1, hb_up (pl_blk μ 2 425 (μ 1)) 0 2 1, ?_, rfl, ⟨n, by rw [e1]; exact a1, ?_, ?_⟩, ⟨?_, Or.inr ⟨pl_up_same _ _ _ _, n, a1.congr e2, ?_⟩⟩, ?_, ?_⟩
  · rw [ecls 1 (by decide) (by omega), a2.1]
  · rw [e1]
    exact a2.congr (fun c h1 h2 => ecls c (by omega) (by omega))
  · rw [e1]
    unfold pc_known pc_SV pc_rows pc_bits at a3 ⊢
    have hw : pc_way (hb_up s1 0 3 1) (μ 1) (pb_pl n (μ 1)) = pc_way σ (μ 1) (pb_pl n (μ 1)) := by
      unfold pc_way
      rw [ecls 147 (by decide) (by omega), ecls 159 (by decide) (by omega)]
    rw [hw, ecls 147 (by decide) (by omega), ecls 149 (by decide) (by omega), ecls 151 (by decide) (by omega), ecls 153 (by decide) (by omega), ecls 155 (by decide) (by omega), ecls 157 (by decide) (by omega)]
    exact a3
  · rw [pl_up_same, pl_up_same]
  · refine pl_RS.congrB a1 ((pl_RS.same a1 a2 k3).congr (fun c h1 h2 => ?_)) e2
    rw [hb_up_ne (by omega)]
  · exact c.fr (fun c h1 h2 => ecls c (by omega) (by omega)) (hbk 3 (by decide) (by decide)) (hb0 4 (by decide))
  · exact d.fr (by rw [ecls 136 (by decide) (by omega)]) (ecls 138 (by decide) (by omega)) (hbk 4 (by decide) (by decide)) (hb0 6 (by decide))
theorem sm_restore : hs_restore Sm := by
  intro σ μ hSm
  have hSm' := hSm
  obtain ⟨-, ⟨b1, b2⟩, -, -⟩ := hSm'
  unfold fn_X5_restore fn_X6_restore
  rw [show hc_rf 0 2 = 39 from by decide, hc_r0, ← b1]
  rcases b2 with b2 | ⟨b2, n, b3, b4⟩
  · rw [if_pos b2, if_pos b2]
    exact ⟨_, _, _, rfl, rfl, hSm⟩
  · have z : ¬ σ 0 3 = 0 := by rw [b2]; decide
    obtain ⟨σ1, μ1, r1, r2, r3, r4, r5, r6, r7, r8⟩ := sm_record hSm
    obtain ⟨s2, k1, k2, k3⟩ := pl_copy (k := 1) (k' := 39) (by decide) (by decide) (by decide) σ1
    have hb4 : pl_RS σ1 39 n (μ 2) := b4.congr (fun c h1 h2 => r5 c (by omega))
    have e2 : μ1 2 = μ 2 := r7 2 (by decide) (by decide)
    have hB : ∀ j, j < 425 → pl_blk μ1 1 425 (μ1 2) 1 j = μ 2 j := fun j hj => by rw [pl_blk_eq hj, e2]
    have hW : pl_WB n (pl_blk μ1 1 425 (μ1 2) 1) := b3.congr hB
    have hR : pl_RS s2 1 n (pl_blk μ1 1 425 (μ1 2) 1) := pl_RS.congrB b3 (pl_RS.same b3 hb4 k3) hB
    rw [if_neg z, if_neg z, r1, Option.bind_some, k1, Option.bind_some, r2, Option.bind_some, pm_cp_restore, Option.bind_some, pm_n0 hW, Option.bind_some, hR.1]
    exact ⟨_, _, _, rfl, rfl, r3.put r4 (fun c hc => k2 c (by omega)) (fun c hc => pl_blk_ne hc) hW hR⟩
