/-! the simulation; readers -/
/-- what both sides keep beside the state of now -/
def sm_snap (σ μ : hb_Mem) : Prop := σ 0 3 = μ 0 2 ∧ (σ 0 3 = 0 ∨ (σ 0 3 = 1 ∧ ∃ n, pl_WB n (μ 2) ∧ pl_RS σ 39 n (μ 2)))
def sm_row (μ : hb_Mem) (i : Nat) : Nat → Int32 := fun j => μ 3 (425 * i + j)
def sm_hist (σ μ : hb_Mem) : Prop := ∃ sz nx, sz ≤ 4 ∧ nx < 4 ∧ σ 58 2 = nI sz ∧ σ 58 1 = nI nx ∧ μ 0 4 = nI sz ∧ ∀ i, i < sz → ∃ n, pl_WB n (sm_row μ i) ∧ pl_RS σ (60 + 19 * ((nx + 4 - sz + i) % 4)) n (sm_row μ i)
def sm_text (σ μ : hb_Mem) : Prop := ∃ len, len ≤ 60 ∧ σ 136 1 = nI len ∧ μ 0 6 = nI len ∧ ∀ i, i < len → σ 138 i = μ 4 i
def Sm (σ μ : hb_Mem) : Prop := (∃ n, pl_WB n (μ 1) ∧ pl_RS σ 1 n (μ 1) ∧ pc_known σ n (μ 1)) ∧ sm_snap σ μ ∧ sm_hist σ μ ∧ sm_text σ μ
theorem sm_snap.fr {σ μ σ' μ' : hb_Mem} (h : sm_snap σ μ) (h0 : σ' 0 3 = σ 0 3) (hc : ∀ c, 39 ≤ c → c < 58 → σ' c = σ c) (hm : μ' 2 = μ 2) (h2 : μ' 0 2 = μ 0 2) : sm_snap σ' μ' := by
  obtain ⟨a1, a2⟩ := h
  refine ⟨by rw [h0, h2]; exact a1, ?_⟩
  rw [h0, hm]
  rcases a2 with a2 | ⟨a2, n, a3, a4⟩
  · exact Or.inl a2
  · exact Or.inr ⟨a2, n, a3, a4.congr (fun c h1 h2 => hc c h1 (by omega))⟩
theorem sm_hist.fr {σ μ σ' μ' : hb_Mem} (h : sm_hist σ μ) (hc : ∀ c, 58 ≤ c → c < 136 → σ' c = σ c) (hm : μ' 3 = μ 3) (h4 : μ' 0 4 = μ 0 4) : sm_hist σ' μ' := by
  obtain ⟨sz, nx, a1, a2, a3, a4, a5, a6⟩ := h
  refine ⟨sz, nx, a1, a2, by rw [hc 58 (by decide) (by decide)]; exact a3, by rw [hc 58 (by decide) (by decide)]; exact a4, by rw [h4]; exact a5, fun i hi => ?_⟩
  obtain ⟨n, b1, b2⟩ := a6 i hi
  have e : sm_row μ' i = sm_row μ i := by unfold sm_row; rw [hm]
  rw [e]
  exact ⟨n, b1, b2.congr (fun c h1 h2 => hc c (by omega) (by omega))⟩
theorem sm_text.fr {σ μ σ' μ' : hb_Mem} (h : sm_text σ μ) (h1 : σ' 136 1 = σ 136 1) (hc : σ' 138 = σ 138) (hm : μ' 4 = μ 4) (h6 : μ' 0 6 = μ 0 6) : sm_text σ' μ' := by
  obtain ⟨len, a1, a2, a3, a4⟩ := h
  exact ⟨len, a1, by rw [h1]; exact a2, by rw [h6]; exact a3, fun i hi => by rw [hc, hm]; exact a4 i hi⟩
/-- a question that leaves all but the survey -/
theorem Sm.ask {σ μ σ' μ' : hb_Mem} (h : Sm σ μ) (hc : ∀ c, c < 147 → σ' c = σ c) (hk : pm_kp μ μ') (hs : ∀ n, pl_WB n (μ 1) → pl_RS σ 1 n (μ 1) → pc_known σ' n (μ 1)) : Sm σ' μ' := by
  obtain ⟨⟨n, a1, a2, a3⟩, b, c, d⟩ := h
  have e1 : μ' 1 = μ 1 := hk.1 1 (by decide) (by decide)
  refine ⟨⟨n, by rw [e1]; exact a1, by rw [e1]; exact a2.congr (fun c _ h2 => hc c (by omega)), by rw [e1]; exact hs n a1 a2⟩, ?_, ?_, ?_⟩
  · exact b.fr (by rw [hc 0 (by decide)]) (fun c _ h2 => hc c (by omega)) (hk.1 2 (by decide) (by decide)) (hk.2 2 (by decide) (by decide))
  · exact c.fr (fun c _ h2 => hc c (by omega)) (hk.1 3 (by decide) (by decide)) (hk.2 4 (by decide) (by decide))
  · exact d.fr (by rw [hc 136 (by decide)]) (hc 138 (by decide)) (hk.1 4 (by decide) (by decide)) (hk.2 6 (by decide) (by decide))
theorem Sm.askm {σ μ μ' : hb_Mem} (h : Sm σ μ) (hk : pm_kp μ μ') : Sm σ μ' := by
  have h' := h
  obtain ⟨⟨n, a1, a2, a3⟩, -⟩ := h'
  refine h.ask (fun _ _ => rfl) hk (fun m b1 b2 => ?_)
  have : m = n := by
    have e := b1.2.1.symm.trans a1.2.1
    have := b1.1
    have := a1.1
    exact (nI_eq (by omega) (by omega)).mp e
  rw [this]
  exact a3
/-- a reader's place, on both sides -/
theorem sp_plc {n : Nat} {a f : Int32} (h : pl_WR n a f) : (a = -5 ∧ pl_plc a f = -1) ∨ ∃ p g, p < n ∧ g < 32 ∧ a = nI p ∧ f = nI g ∧ pl_plc a f = nI (32 * p + g) := by
  rcases h with h | ⟨⟨p, hp, ha⟩, g, hg, hf⟩
  · left
    refine ⟨h, ?_⟩
    unfold pl_plc
    rw [if_pos h]
  · by_cases h5 : a = -5
    · left
      refine ⟨h5, ?_⟩
      unfold pl_plc
      rw [if_pos h5]
    · right
      refine ⟨p, g, hp, hg, ha, hf, ?_⟩
      unfold pl_plc
      rw [if_neg h5, ha, hf, pl_place]
theorem pm_rdr {r w : Nat} (hr : r < 2) (hw : w < 3) (μ : hb_Mem) : fn_X6_ofReader 0 (nI r) (nI w) μ = some (μ 1 (417 + 3 * r + w)) := by
  unfold fn_X6_ofReader
  have e : ((417 : Int32) + ((3 : Int32) * nI r)) + nI w = nI (417 + 3 * r + w) := by
    rw [show (417 : Int32) = nI 417 from rfl, show (3 : Int32) = nI 3 from rfl, pl_mul, nI_add, nI_add]
  rw [e, pm_ld (a := hm_rf 0 0) (n := 425) (by decide) (by omega) (by decide)]
  rfl
theorem pc_rdr {n r : Nat} {B : Nat → Int32} {σ : hb_Mem} (hr : pl_RS σ 1 n B) (hr2 : r < 2) : fn_X1_at (hc_rf 1 8) (nI r) σ = some (pl_plc (B (417 + 3 * r)) (B (418 + 3 * r))) := by
  rw [pl_at (r := hc_rf 1 8) (a := 17) (n := 2) (by decide) hr2]
  exact congrArg some (hr.2.2.1 r hr2).1
theorem pc_rtk {n r : Nat} {B : Nat → Int32} {σ : hb_Mem} (hr : pl_RS σ 1 n B) (hr2 : r < 2) : fn_X1_at (hc_rf 1 9) (nI r) σ = some (B (419 + 3 * r)) := by
  rw [pl_at (r := hc_rf 1 9) (a := 19) (n := 2) (by decide) hr2]
  exact congrArg some (hr.2.2.1 r hr2).2
/-- the reason against a reader's choice -/
def sp_why (B : Nat → Int32) (r c : Nat) : Int32 := if B (417 + 3 * r) = -5 then 1 else nI (pg_why B (B (417 + 3 * r)).toNatClampNeg (B (418 + 3 * r)).toNatClampNeg c)
theorem sp_why_at {B : Nat → Int32} {r c p g : Nat} (hp : p < 32) (hg : g < 32) (h1 : B (417 + 3 * r) = nI p) (h2 : B (418 + 3 * r) = nI g) : sp_why B r c = nI (pg_why B p g c) := by
  unfold sp_why
  rw [h1, h2, if_neg (pl_ne_neg (by omega) (by decide)), nI_clamp (by omega), nI_clamp (by omega)]
theorem pc_whyR {n r c : Nat} {B : Nat → Int32} {σ : hb_Mem} (h : pl_WB n B) (hr : pl_RS σ 1 n B) (hr2 : r < 2) (hc : c < 3) : fn_X2_reasonAgainst 1 (nI r) (nI c) σ = some (sp_why B r c) := by
  have hn := h.1
  unfold fn_X2_reasonAgainst
  rw [pc_rdr hr hr2, Option.bind_some]
  rcases sp_plc (h.2.2.2.1 r hr2) with ⟨h5, e⟩ | ⟨p, g, hp, hg, ha, hf, e⟩
  · rw [e, if_pos rfl]
    unfold sp_why
    rw [if_pos h5]
  · rw [e, if_neg (pl_ne_neg (by omega) (by decide)), pc_why (by decide) h hr (by omega) hc, Option.bind_some, sp_why_at (by omega) hg ha hf, show (32 * p + g) / 32 = p by omega, show (32 * p + g) % 32 = g by omega]
theorem pm_reason {n r c : Nat} {μ : hb_Mem} (h : pl_WB n (μ 1)) (hr2 : r < 2) (hc : c < 3) : fn_X6_reason 0 (nI r) (nI c) μ = some (sp_why (μ 1) r c) := by
  have hn := h.1
  unfold fn_X6_reason jn_X6_reason_23
  rw [show (0 : Int32) = nI 0 from rfl, pm_rdr hr2 (by decide), Option.bind_some]
  rw [show 417 + 3 * r + 0 = 417 + 3 * r from rfl]
  rcases sp_plc (h.2.2.2.1 r hr2) with ⟨h5, e⟩ | ⟨p, g, hp, hg, ha, hf, e⟩
  · rw [if_pos h5, if_pos h5]
    unfold sp_why
    rw [if_pos h5]
  · obtain ⟨m1, m2⟩ := h.m hp
    have h5 : ¬ μ 1 (417 + 3 * r) = -5 := by rw [ha]; exact pl_ne_neg (by omega) (by decide)
    rw [if_neg h5, if_neg h5, sp_why_at (by omega) hg ha hf, ha, pm_of3 (by omega), Option.bind_some, m2]
    unfold pg_why
    by_cases hm : pl_m (μ 1) p ≤ c
    · rw [if_neg (by rw [nI_ltI (by omega) (by omega)]; omega), if_pos hm]
      rfl
    · have hc2 : c < pl_m (μ 1) p := by omega
      obtain ⟨n1, n2⟩ := h.nd hp hc2
      obtain ⟨b1, b2⟩ := h.br hp hc2
      rw [if_pos (by rw [nI_ltI (by omega) (by omega)]; omega), if_neg hm, show (1 : Int32) = nI 1 from rfl, pm_rdr hr2 (by decide), Option.bind_some, show 417 + 3 * r + 1 = 418 + 3 * r by omega, hf, show nI 1 = (1 : Int32) from rfl, pm_oc1 (by omega) hc, Option.bind_some, n2, pl_andn _ n1 _ hg, pm_oc2 (by omega) hc, Option.bind_some, b2, pl_and _ b1 _ hg]
      have k1 : pg_nd (μ 1) p c &&& (31 ^^^ g) < 32 := pl_and_lt n1
      have k2 : pg_br (μ 1) p c &&& g < 32 := pl_and_lt b1
      by_cases q1 : pg_nd (μ 1) p c &&& (31 ^^^ g) = 0
      · rw [if_pos (show nI (pg_nd (μ 1) p c &&& (31 ^^^ g)) = nI 0 by rw [q1]), if_pos q1]
        by_cases q2 : pg_br (μ 1) p c &&& g = 0
        · rw [if_pos (show nI (pg_br (μ 1) p c &&& g) = nI 0 by rw [q2]), if_pos q2]
        · rw [if_neg (fun hc => q2 ((nI_eq (by omega) (by omega)).mp hc)), if_neg q2]
          rfl
      · rw [if_neg (fun hc => q1 ((nI_eq (by omega) (by omega)).mp hc)), if_neg q1]
        rfl
theorem pm_now {n r p g : Nat} {μ : hb_Mem} (h : pl_WB n (μ 1)) (hr2 : r < 2) (hp : p < 32) (hg : g < 32) (ha : μ 1 (417 + 3 * r) = nI p) (hf : μ 1 (418 + 3 * r) = nI g) : fn_X6_choicesNow 0 (nI r) μ = some (pg_set3 (pg_op (μ 1) (32 * p + g) 0) (pg_op (μ 1) (32 * p + g) 1) (pg_op (μ 1) (32 * p + g) 2)) := by
  unfold fn_X6_choicesNow ll_X6_choicesNow_4
  rw [pl_for (f := fun s => lb_X6_choicesNow_4 0 (nI r) s.1 s.2 μ) (s := ((0 : Int32), (0 : Int32))) (t := pg_s3 (pg_op (μ 1) (32 * p + g)) 3) 3 (fun i => (pg_s3 (pg_op (μ 1) (32 * p + g)) i, nI i)) (by rw [pg_s3_0]; rfl), Option.bind_some, pg_s3_end]
  · intro i hi
    show lb_X6_choicesNow_4 0 (nI r) (pg_s3 (pg_op (μ 1) (32 * p + g)) i) (nI i) μ = _
    unfold lb_X6_choicesNow_4 jn_X6_choicesNow_26
    simp only [hb_nm]
    rw [if_neg (by show ¬ nI 3 ≤ nI i; rw [nI_leI (by omega) (by omega)]; omega), pm_reason h hr2 hi, Option.bind_some, sp_why_at hp hg ha hf, nI_1, Int32.or_zero, ← pg_s3_step _ hi]
    have h5 := pg_why_lt (μ 1) p g i
    have hop : pg_op (μ 1) (32 * p + g) i = decide (pg_why (μ 1) p g i = 0) := by
      unfold pg_op
      rw [show (32 * p + g) / 32 = p by omega, show (32 * p + g) % 32 = g by omega]
    rw [hop]
    by_cases hw : pg_why (μ 1) p g i = 0
    · rw [if_pos ((pl_eq0 (by omega)).mpr hw), if_pos (decide_eq_true hw)]
    · rw [if_neg (fun h => hw ((pl_eq0 (by omega)).mp h)), if_neg (by rw [decide_eq_false hw]; decide)]
  · show lb_X6_choicesNow_4 0 (nI r) _ (nI 3) μ = _
    unfold lb_X6_choicesNow_4
    rw [if_pos (by show nI 3 ≤ nI 3; exact Int32.le_refl _)]
  · rw [pl_F]; omega
theorem sm_why : hs_why Sm := by
  rintro σ μ ⟨⟨n, h, hr, hk⟩, -⟩ a1 a2
  unfold fn_X5_why fn_X6_why
  rw [show hc_rf 0 0 = 1 from by decide]
  rcases sp_reader a1 with ⟨r, hr2, rfl, e1, e2⟩ | ⟨e1, e2⟩
  · rw [e1, e2, Option.bind_some, Option.bind_some, if_neg (by decide), if_neg (by decide)]
    rcases sp_number a2 with ⟨c, hc, rfl, f1, f2⟩ | ⟨f1, f2⟩
    · rw [f1, f2, Option.bind_some, Option.bind_some, if_neg (by decide), if_neg (by decide), pc_whyR h hr hr2 hc, pm_reason h hr2 hc]
      exact ⟨_, rfl, rfl⟩
    · rw [f1, f2]
      exact ⟨_, rfl, rfl⟩
  · rw [e1, e2]
    exact ⟨_, rfl, rfl⟩
theorem sm_reader : hs_reader Sm := by
  rintro σ μ ⟨⟨n, h, hr, hk⟩, -⟩ a1 a2
  have hn := h.1
  have z1 : ¬ (1 : Int32) = 0 := by decide
  unfold fn_X5_reader fn_X6_reader jn_X6_reader_60
  rw [show hc_rf 0 0 = 1 from by decide]
  rcases sp_reader a1 with ⟨r, hr2, rfl, e1, e2⟩ | ⟨e1, e2⟩
  · rw [e1, e2, Option.bind_some, Option.bind_some, if_neg z1, if_neg z1]
    have key : (∃ w, w < 4 ∧ a2 = nI w ∧ fn_X6_in a2 0 3 = some 1) ∨ ((a2 < 0 ∨ (¬ a2 < 0 ∧ ¬ a2 ≤ 3)) ∧ fn_X6_in a2 0 3 = some 0) := by
      rcases pm_in (x := a2) (n := 4) (by omega) with ⟨w, hw, hx, hi⟩ | ⟨hno, hi⟩
      · exact Or.inl ⟨w, hw, hx, hi⟩
      · refine Or.inr ⟨?_, hi⟩
        by_cases h0 : a2 < 0
        · exact Or.inl h0
        · obtain ⟨t, ht, rfl⟩ := pl_nat h0
          refine Or.inr ⟨h0, fun hc => ?_⟩
          have hc : nI t ≤ nI 3 := hc
          rw [nI_leI (by omega) (by omega)] at hc
          exact hno t (by omega) rfl
    rcases key with ⟨w, hw, rfl, f2⟩ | ⟨f1, f2⟩
    · rw [f2, Option.bind_some, if_neg z1, if_neg (nI_pos (by omega)), if_pos (by show nI w ≤ nI 3; rw [nI_leI (by omega) (by omega)]; omega), pc_rdr hr hr2, Option.bind_some]
      rw [show fn_X6_ofReader 0 (nI r) 0 μ = some (μ 1 (417 + 3 * r)) from pm_rdr (w := 0) hr2 (by decide) μ, Option.bind_some]
      rcases sp_plc (h.2.2.2.1 r hr2) with ⟨h5, e⟩ | ⟨p, g, hp, hg, ha, hf, e⟩
      · rw [e, if_pos rfl, if_pos h5]
        exact ⟨_, rfl, rfl⟩
      · have z2 : ¬ nI (32 * p + g) = -1 := pl_ne_neg (by omega) (by decide)
        have z3 : ¬ nI p = -5 := pl_ne_neg (by omega) (by decide)
        rw [e, if_neg z2, ha, if_neg z3, pc_page (by omega), pc_flags (by omega), Option.bind_some, Option.bind_some, pc_open (by decide) h hr (by omega), Option.bind_some, pc_rtk hr hr2, Option.bind_some, pm_now h hr2 (by omega) hg ha hf, Option.bind_some]
        have hw4 : w = 0 ∨ w = 1 ∨ w = 2 ∨ w = 3 := by omega
        rcases hw4 with rfl | rfl | rfl | rfl
        · rw [if_pos (show nI 0 = 0 from rfl), if_neg (show ¬ nI 0 = 2 by decide), if_neg (show ¬ nI 0 = 3 by decide), pm_rdr hr2 (by decide), show (32 * p + g) / 32 = p by omega]
          exact ⟨_, rfl, by rw [Option.bind_some, show 417 + 3 * r + 0 = 417 + 3 * r from rfl, ha]⟩
        · rw [if_neg (show ¬ nI 1 = 0 by decide), if_pos (show nI 1 = 1 from rfl), if_neg (show ¬ nI 1 = 2 by decide), if_neg (show ¬ nI 1 = 3 by decide), pm_rdr hr2 (by decide), show (32 * p + g) % 32 = g by omega]
          exact ⟨_, rfl, by rw [Option.bind_some, show 417 + 3 * r + 1 = 418 + 3 * r by omega, hf]⟩
        · rw [if_neg (show ¬ nI 2 = 0 by decide), if_neg (show ¬ nI 2 = 1 by decide), if_pos (show nI 2 = 2 from rfl), if_pos (show nI 2 = 2 from rfl)]
          exact ⟨_, rfl, rfl⟩
        · rw [if_neg (show ¬ nI 3 = 0 by decide), if_neg (show ¬ nI 3 = 1 by decide), if_neg (show ¬ nI 3 = 2 by decide), if_neg (show ¬ nI 3 = 2 by decide), if_pos (show nI 3 = 3 from rfl)]
          rw [show fn_X6_ofReader 0 (nI r) 2 μ = some (μ 1 (417 + 3 * r + 2)) from pm_rdr (w := 2) hr2 (by decide) μ, Option.bind_some]
          exact ⟨_, rfl, by rw [show 417 + 3 * r + 2 = 419 + 3 * r by omega]⟩
    · rw [f2, Option.bind_some, if_pos rfl]
      rcases f1 with f1 | ⟨f0, f1⟩
      · rw [if_pos f1]
        exact ⟨_, rfl, rfl⟩
      · rw [if_neg f0, if_neg f1]
        exact ⟨_, rfl, rfl⟩
  · rw [e1, e2]
    exact ⟨_, rfl, rfl⟩
