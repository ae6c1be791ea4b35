/-! addChoice -/
theorem sm_append {n p t a b : Nat} {σ μ : hb_Mem} (hSm : Sm σ μ) (h0 : σ 147 0 = 0) (h : pl_WB n (μ 1)) (hr : pl_RS σ 1 n (μ 1)) (hp : p < n) (ht : t < n) (ha : a < 32) (hb : b < 32) (hm : pl_m (μ 1) p < 3) : ∃ σ' μ', fn_X2_appendChoice 1 (nI p) (nI t) (nI a) (nI b) σ = some (nI (pl_m (μ 1) p), σ') ∧ fn_X6_adds 0 (nI p) (nI t) (nI a) (nI b) μ = some (nI (pl_m (μ 1) p), μ') ∧ Sm σ' μ' := by
  obtain ⟨σ', c1, c2, c3⟩ := pc_append (t := t) (a := a) (b := b) (show pl_st 1 by decide) h hr hp hm
  obtain ⟨μ', m1, m2, m3⟩ := pm_append (t := t) (a := a) (b := b) h hp hm
  have hW := ap_WB h hp ht ha hb hm
  exact ⟨σ', μ', c1, m1, hSm.put h0 (fun c hc => c2 c (by omega) (by omega) (by omega) (by omega)) m2 (hW.congr (fun j _ => m3 j)) (pl_RS.congrB hW c3 (fun j _ => m3 j))⟩
theorem sm_addChoice : hs_addChoice Sm := by
  intro σ μ hSm a1 a2 a3 a4
  have hSm' := hSm
  obtain ⟨⟨n, h, hr, hk⟩, -⟩ := hSm'
  have hn := h.1
  have z1 : ¬ (1 : Int32) = 0 := by decide
  have z0 : ¬ (0 : Int32) = -1 := by decide
  have z3 : ¬ (-3 : Int32) = -1 := by decide
  have zz : (0 : Int32) = 0 := rfl
  unfold fn_X5_addChoice fn_X6_addChoice fn_X2_errorOfChoice fn_X6_whyNot
  rw [hc_r0]
  rcases sp_page h hr a1 with ⟨p, hp, rfl, e1, e2⟩ | ⟨e1, e2⟩
  · rw [e1, e2, Option.bind_some, Option.bind_some, if_neg z1, if_neg z1]
    rcases sp_page h hr a2 with ⟨t, ht, rfl, e3, e4⟩ | ⟨e3, e4⟩
    · obtain ⟨b1, b2⟩ := h.m hp
      have hsz : fn_X1_at (hc_rf 1 4) (nI p) σ = some (nI (pl_m (μ 1) p)) := by
        rw [pl_at (r := hc_rf 1 4) (a := 9) (n := 32) (by decide) (by omega), ← b2]
        exact congrArg some (hr.2.1 p hp).2.2.2.1
      rw [e3, e4, Option.bind_some, Option.bind_some, if_neg z1, if_neg z1, pm_of3 (by omega), Option.bind_some, b2]
      have hwn : ∀ {β : Type} (f : Int32 → Option β), ((if nI (pl_m (μ 1) p) = 3 then some (-3) else some 0) : Option Int32).bind f = f (if nI (pl_m (μ 1) p) = 3 then -3 else 0) := by
        intro β f
        split <;> rfl
      rw [hwn]
      have hnm1 : ¬ (if nI (pl_m (μ 1) p) = 3 then (-3 : Int32) else 0) = -1 := by
        split
        · exact z3
        · exact z0
      rw [if_neg hnm1]
      rcases sp_flags a3 with ⟨a, ha, rfl, f3, f4⟩ | ⟨f3, f4⟩
      · rw [f3, f4, Option.bind_some, Option.bind_some, if_neg z1, if_neg z1]
        rcases sp_flags a4 with ⟨b, hb, rfl, f5, f6⟩ | ⟨f5, f6⟩
        · rw [f5, f6, Option.bind_some, Option.bind_some, if_neg z1, if_neg z1, hsz, Option.bind_some]
          by_cases q : pl_m (μ 1) p = 3
          · have q1 : ¬ nI (pl_m (μ 1) p) < 3 := by show ¬ nI _ < nI 3; rw [nI_ltI (by omega) (by omega)]; omega
            have q2 : nI (pl_m (μ 1) p) = 3 := by rw [q]; rfl
            rw [if_neg q1, if_pos q2, Option.bind_some, if_neg (show ¬ (-3 : Int32) = 0 by decide), if_neg (show ¬ (0 : Int32) ≤ -3 by decide)]
            exact ⟨_, _, _, rfl, rfl, hSm⟩
          · have q1 : nI (pl_m (μ 1) p) < 3 := by show nI _ < nI 3; rw [nI_ltI (by omega) (by omega)]; omega
            have q2 : ¬ nI (pl_m (μ 1) p) = 3 := fun hc => q ((nI_eq (b := 3) (by omega) (by omega)).mp hc)
            obtain ⟨σ1, μ1, k1, k2, k3, k4, k5, k6, k7, k8⟩ := sm_record hSm
            have eB : μ1 1 = μ 1 := k7 1 (by decide) (by decide)
            have h1 : pl_WB n (μ1 1) := by rw [eB]; exact h
            have hr1 : pl_RS σ1 1 n (μ1 1) := by rw [eB]; exact hr.congr (fun c _ h2 => k5 c (by omega))
            obtain ⟨σ2, μ2, g1, g2, g3⟩ := sm_append k3 k4 h1 hr1 hp ht ha hb (by rw [eB]; omega)
            rw [if_pos q1, if_neg q2, Option.bind_some, if_pos zz, if_pos (show (0 : Int32) ≤ 0 by decide), k1, k2, Option.bind_some, Option.bind_some, g1, g2, Option.bind_some, Option.bind_some]
            exact ⟨_, _, _, rfl, rfl, g3⟩
        · rw [f5, f6]
          exact ⟨_, _, _, rfl, rfl, hSm⟩
      · rw [f3, f4]
        exact ⟨_, _, _, rfl, rfl, hSm⟩
    · rw [e3, e4]
      exact ⟨_, _, _, rfl, rfl, hSm⟩
  · rw [e1, e2]
    exact ⟨_, _, _, rfl, rfl, hSm⟩
