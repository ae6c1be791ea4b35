/-! the history: record, undo, keep, restore -/
theorem pc_ring : ∀ nx, nx < 4 → ∀ σ : hb_Mem, fn_X0_stateAt 58 (nI nx) σ = some (some (60 + 19 * nx)) := by
  intro nx h σ
  have h4 : nx = 0 ∨ nx = 1 ∨ nx = 2 ∨ nx = 3 := by omega
  rcases h4 with rfl | rfl | rfl | rfl
  · rfl
  · rfl
  · rfl
  · rfl
theorem pl_st_ring {nx : Nat} (h : nx < 4) : pl_st (60 + 19 * nx) := (by decide : ∀ nx, nx < 4 → pl_st (60 + 19 * nx)) nx h
theorem pc_record {σ : hb_Mem} {sz nx : Nat} (h1 : sz ≤ 4) (h2 : nx < 4) (h3 : σ 58 2 = nI sz) (h4 : σ 58 1 = nI nx) : ∃ σ', fn_X5_record 0 σ = some σ' ∧ (∀ c, c ≠ 58 → c ≠ 147 → (c < 60 + 19 * nx ∨ 60 + 19 * nx + 19 ≤ c) → σ' c = σ c) ∧ pl_same σ' (60 + 19 * nx) σ 1 ∧ σ' 58 1 = nI ((nx + 1) % 4) ∧ σ' 58 2 = nI (min 4 (sz + 1)) ∧ σ' 147 0 = 0 := by
  unfold fn_X5_record fn_X0_push
  rw [show hc_rf 0 4 = 58 from by decide, hc_r0, hc_r6, h4, pc_ring nx h2, Option.bind_some, Option.bind_some]
  obtain ⟨σ1, c1, c2, c3⟩ := pl_copy (pl_st_ring h2) (show pl_st 1 by decide) (by omega) σ
  rw [c1, Option.bind_some]
  have e58 : σ1 58 = σ 58 := c2 58 (by omega)
  unfold jn_X0_push_18 jn_X0_push_39 jn_X0_push_61
  simp only [hb_nm]
  have key : ∀ (x y : Int32), x = nI ((nx + 1) % 4) → y = nI (min 4 (sz + 1)) → ∃ σ', (some (hb_up (hb_up (hb_up σ1 58 1 x) 58 2 y) 147 0 0) : Option hb_Mem) = some σ' ∧ (∀ c, c ≠ 58 → c ≠ 147 → (c < 60 + 19 * nx ∨ 60 + 19 * nx + 19 ≤ c) → σ' c = σ c) ∧ pl_same σ' (60 + 19 * nx) σ 1 ∧ σ' 58 1 = nI ((nx + 1) % 4) ∧ σ' 58 2 = nI (min 4 (sz + 1)) ∧ σ' 147 0 = 0 := by
    intro x y hx hy
    refine ⟨_, rfl, fun c k1 k2 k3 => ?_, ?_, ?_, ?_, pl_up_same _ _ _ _⟩
    · rw [hb_up_ne k2, hb_up_ne k1, hb_up_ne k1]
      exact c2 c k3
    · obtain ⟨a1, a2, a3, a4, a5, a6, a7, a8, a9, a10, a11⟩ := c3
      have hh : ∀ c, 60 ≤ c → c < 147 → hb_up (hb_up (hb_up σ1 58 1 x) 58 2 y) 147 0 0 c = σ1 c := fun c k1 k2 => by rw [hb_up_ne (by omega), hb_up_ne (by omega), hb_up_ne (by omega)]
      refine ⟨?_, ?_, ?_, ?_, ?_, ?_, ?_, ?_, ?_, ?_, ?_⟩
      · rw [hh _ (by omega) (by omega)]; exact a1
      · rw [hh _ (by omega) (by omega)]; exact a2
      · rw [hh _ (by omega) (by omega)]; exact a3
      · rw [hh _ (by omega) (by omega)]; exact a4
      · rw [hh _ (by omega) (by omega)]; exact a5
      · rw [hh _ (by omega) (by omega)]; exact a6
      · rw [hh _ (by omega) (by omega)]; exact a7
      · rw [hh _ (by omega) (by omega)]; exact a8
      · rw [hh _ (by omega) (by omega)]; exact a9
      · rw [hh _ (by omega) (by omega)]; exact a10
      · rw [hh _ (by omega) (by omega)]; exact a11
    · rw [pl_up_ne (by decide), pl_up_other (by decide), pl_up_same]; exact hx
    · rw [pl_up_ne (by decide), pl_up_same]; exact hy
  have e582 : ∀ v, hb_up σ1 58 1 v 58 2 = nI sz := fun v => by rw [pl_up_other (by decide), e58]; exact h3
  rw [e58, h4, e582, e582, nI_1, nI_1]
  by_cases q1 : 3 ≤ nx
  · have z1 : (4 : Int32) ≤ nI (nx + 1) := by show nI 4 ≤ _; rw [nI_leI (by omega) (by omega)]; omega
    rw [if_pos z1]
    have hx : (0 : Int32) = nI ((nx + 1) % 4) := by rw [show (nx + 1) % 4 = 0 by omega]; rfl
    by_cases q2 : 4 ≤ sz
    · have z2 : (4 : Int32) ≤ nI sz := by show nI 4 ≤ _; rw [nI_leI (by omega) (by omega)]; omega
      rw [if_pos z2, Option.bind_some]
      exact key _ _ hx (by rw [show min 4 (sz + 1) = 4 by omega]; rfl)
    · have z2 : ¬ (4 : Int32) ≤ nI sz := by show ¬ nI 4 ≤ _; rw [nI_leI (by omega) (by omega)]; omega
      rw [if_neg z2, Option.bind_some]
      exact key _ _ hx (by rw [show min 4 (sz + 1) = sz + 1 by omega])
  · have z1 : ¬ (4 : Int32) ≤ nI (nx + 1) := by show ¬ nI 4 ≤ _; rw [nI_leI (by omega) (by omega)]; omega
    rw [if_neg z1]
    have hx : nI (nx + 1) = nI ((nx + 1) % 4) := by rw [show (nx + 1) % 4 = nx + 1 by omega]
    by_cases q2 : 4 ≤ sz
    · have z2 : (4 : Int32) ≤ nI sz := by show nI 4 ≤ _; rw [nI_leI (by omega) (by omega)]; omega
      rw [if_pos z2, Option.bind_some]
      exact key _ _ hx (by rw [show min 4 (sz + 1) = 4 by omega]; rfl)
    · have z2 : ¬ (4 : Int32) ≤ nI sz := by show ¬ nI 4 ≤ _; rw [nI_leI (by omega) (by omega)]; omega
      rw [if_neg z2, Option.bind_some]
      exact key _ _ hx (by rw [show min 4 (sz + 1) = sz + 1 by omega])
theorem pm_past {i : Nat} (hi : i < 1700) (μ : hb_Mem) : hb_ld ΛM μ (hm_rf 0 3) (nI i) = some (μ 3 i) := pm_ld (a := hm_rf 0 3) (n := 1700) (by decide) hi (by decide) μ
theorem pm_past_st {i : Nat} (hi : i < 1700) (v : Int32) (μ : hb_Mem) : hb_st ΛM μ (hm_rf 0 3) (nI i) v = some (hb_up μ 3 i v) := pm_stt (a := hm_rf 0 3) (n := 1700) (by decide) hi (by decide) v μ
theorem pm_rec49 {μ : hb_Mem} {s : Nat} (hs : s < 4) (h4 : μ 0 4 = nI s) : ∃ μ', jn_X6_records_49 0 μ = some μ' ∧ (∀ c, c ≠ 0 → c ≠ 3 → μ' c = μ c) ∧ (∀ j, j ≠ 4 → μ' 0 j = μ 0 j) ∧ μ' 0 4 = nI (s + 1) ∧ (∀ j, j < 425 → μ' 3 (425 * s + j) = μ 1 j) ∧ ∀ i, i < 425 * s → μ' 3 i = μ 3 i := by
  unfold jn_X6_records_49 ll_X6_records_51
  obtain ⟨t, g1, g2, g3, g4⟩ := pl_inv (f := fun s => lb_X6_records_51 0 s.1 s.2) (s := ((0 : Int32), μ)) 425
    (fun i x => x.1 = nI i ∧ (∀ c, c ≠ 3 → x.2 c = μ c) ∧ (∀ j, j < i → x.2 3 (425 * s + j) = μ 1 j) ∧ ∀ i, i < 425 * s → x.2 3 i = μ 3 i)
    (fun t => (∀ c, c ≠ 3 → t c = μ c) ∧ (∀ j, j < 425 → t 3 (425 * s + j) = μ 1 j) ∧ ∀ i, i < 425 * s → t 3 i = μ 3 i)
    ⟨rfl, fun _ _ => rfl, fun j hj => by omega, fun _ _ => rfl⟩ (by
    intro i x hi ⟨e1, e2, e3, e4⟩
    obtain ⟨w1, τ⟩ := x
    dsimp only at e1 e2 e3 e4
    subst e1
    left
    show ∃ s', lb_X6_records_51 0 (nI i) τ = some (.inl s') ∧ _
    have ei : ((425 : Int32) * τ 0 4) + nI i = nI (425 * s + i) := by
      rw [e2 0 (by decide), h4, show (425 : Int32) = nI 425 from rfl, pl_mul, nI_add]
    have e1' : hb_ld ΛM τ (hm_rf 0 0) (nI i) = some (τ 1 i) := pm_ld (a := hm_rf 0 0) (n := 425) (by decide) hi (by decide) τ
    unfold lb_X6_records_51
    rw [if_neg (by show ¬ nI 425 ≤ nI i; rw [nI_leI (by omega) (by omega)]; omega), e1', Option.bind_some, ei, pm_past_st (by omega), Option.bind_some]
    simp only [hb_nm, nI_1]
    refine ⟨_, rfl, rfl, fun c hc => ?_, fun j hj => ?_, fun i' hi' => ?_⟩
    · show hb_up τ 3 _ _ c = _
      rw [hb_up_ne hc]
      exact e2 c hc
    · show hb_up τ 3 (425 * s + i) (τ 1 i) 3 (425 * s + j) = _
      by_cases hji : j = i
      · rw [hji, pl_up_same, e2 1 (by decide)]
      · rw [pl_up_other (by omega)]
        exact e3 j (by omega)
    · show hb_up τ 3 (425 * s + i) (τ 1 i) 3 i' = _
      rw [pl_up_other (by omega)]
      exact e4 i' hi') (by
    intro x ⟨e1, e2, e3, e4⟩
    obtain ⟨w1, τ⟩ := x
    dsimp only at e1 e2 e3 e4
    subst e1
    exact ⟨τ, rfl, e2, e3, e4⟩) (by rw [pl_F]; omega)
  rw [g1, Option.bind_some]
  simp only [hb_nm]
  refine ⟨_, rfl, fun c k1 k2 => ?_, fun j hj => ?_, ?_, fun j hj => ?_, fun i hi => ?_⟩
  · rw [hb_up_ne k1]; exact g2 c k2
  · rw [pl_up_other hj, g2 0 (by decide)]
  · rw [pl_up_same, g2 0 (by decide), h4, nI_1]
  · rw [pl_up_ne (by decide)]; exact g3 j hj
  · rw [pl_up_ne (by decide)]; exact g4 i hi
theorem pm_records {μ : hb_Mem} {sz : Nat} (hs : sz ≤ 4) (h4 : μ 0 4 = nI sz) : ∃ μ', fn_X6_records 0 μ = some μ' ∧ (∀ c, c ≠ 0 → c ≠ 3 → μ' c = μ c) ∧ (∀ j, j ≠ 4 → μ' 0 j = μ 0 j) ∧ μ' 0 4 = nI (min 4 (sz + 1)) ∧ (∀ j, j < 425 → μ' 3 (425 * (min 4 (sz + 1) - 1) + j) = μ 1 j) ∧ ∀ i, i < 425 * (min 4 (sz + 1) - 1) → μ' 3 i = μ 3 (i + 425 * (sz - (min 4 (sz + 1) - 1))) := by
  unfold fn_X6_records
  by_cases q : sz = 4
  · subst q
    rw [if_pos (show μ 0 4 = 4 from h4)]
    unfold ll_X6_records_10
    obtain ⟨t, g1, g2, g3⟩ := pl_inv (f := fun s => lb_X6_records_10 0 s.1 s.2) (s := ((0 : Int32), μ)) 1275
      (fun i x => x.1 = nI i ∧ (∀ c, c ≠ 3 → x.2 c = μ c) ∧ (∀ j, j < i → x.2 3 j = μ 3 (j + 425)) ∧ ∀ j, i ≤ j → x.2 3 j = μ 3 j)
      (fun t => (∀ c, c ≠ 3 → t c = μ c) ∧ ∀ j, j < 1275 → t 3 j = μ 3 (j + 425))
      ⟨rfl, fun _ _ => rfl, fun j hj => by omega, fun _ _ => rfl⟩ (by
      intro i x hi ⟨e1, e2, e3, e4⟩
      obtain ⟨w1, τ⟩ := x
      dsimp only at e1 e2 e3 e4
      subst e1
      left
      show ∃ s', lb_X6_records_10 0 (nI i) τ = some (.inl s') ∧ _
      unfold lb_X6_records_10
      rw [if_neg (by show ¬ nI 1275 ≤ nI i; rw [nI_leI (by omega) (by omega)]; omega), show nI i + 425 = nI (i + 425) from nI_add i 425, pm_past (by omega), Option.bind_some, pm_past_st (by omega), Option.bind_some]
      simp only [hb_nm, nI_1]
      refine ⟨_, rfl, rfl, fun c hc => ?_, fun j hj => ?_, fun j hj => ?_⟩
      · show hb_up τ 3 _ _ c = _
        rw [hb_up_ne hc]
        exact e2 c hc
      · show hb_up τ 3 i (τ 3 (i + 425)) 3 j = _
        by_cases hji : j = i
        · rw [hji, pl_up_same]
          exact e4 _ (by omega)
        · rw [pl_up_other hji]
          exact e3 j (by omega)
      · show hb_up τ 3 i (τ 3 (i + 425)) 3 j = _
        rw [pl_up_other (by omega)]
        exact e4 j (by omega)) (by
      intro x ⟨e1, e2, e3, e4⟩
      obtain ⟨w1, τ⟩ := x
      dsimp only at e1 e2 e3 e4
      subst e1
      exact ⟨τ, rfl, e2, e3⟩) (by rw [pl_F]; omega)
    rw [g1, Option.bind_some]
    simp only [hb_nm]
    have e4 : hb_up t 0 4 (t 0 4 - 1) 0 4 = nI 3 := by
      rw [pl_up_same, g2 0 (by decide), h4]
      rfl
    obtain ⟨μ', k1, k2, k3, k4, k5, k6⟩ := pm_rec49 (by decide) e4
    refine ⟨μ', k1, fun c a1 a2 => ?_, fun j hj => ?_, k4, fun j hj => ?_, fun i hi => ?_⟩
    · rw [k2 c a1 a2, hb_up_ne a1]; exact g2 c a2
    · rw [k3 j hj, pl_up_other hj, g2 0 (by decide)]
    · have := k5 j hj
      rw [hb_up_ne (by decide), g2 1 (by decide)] at this
      exact this
    · have := k6 i hi
      rw [hb_up_ne (by decide), g3 i hi] at this
      exact this
  · have z : ¬ μ 0 4 = 4 := by
      rw [h4]
      intro hc
      exact q ((nI_eq (b := 4) (by omega) (by omega)).mp hc)
    rw [if_neg z]
    obtain ⟨μ', k1, k2, k3, k4, k5, k6⟩ := pm_rec49 (s := sz) (by omega) h4
    rw [show min 4 (sz + 1) = sz + 1 by omega, show sz + 1 - 1 = sz by omega]
    refine ⟨μ', k1, k2, k3, k4, k5, fun i hi => ?_⟩
    rw [show i + 425 * (sz - sz) = i by omega]
    exact k6 i hi
/-- both record alike -/
theorem sm_record {σ μ : hb_Mem} (hSm : Sm σ μ) : ∃ σ' μ', fn_X5_record 0 σ = some σ' ∧ fn_X6_records 0 μ = some μ' ∧ Sm σ' μ' ∧ σ' 147 0 = 0 ∧ (∀ c, c < 58 → σ' c = σ c) ∧ (∀ c, 136 ≤ c → c < 147 → σ' c = σ c) ∧ (∀ c, c ≠ 0 → c ≠ 3 → μ' c = μ c) ∧ ∀ j, j ≠ 4 → μ' 0 j = μ 0 j := by
  obtain ⟨⟨n, a1, a2, a3⟩, b, ⟨sz, nx, c1, c2, c3, c4, c5, c6⟩, d⟩ := hSm
  obtain ⟨σ', r1, r2, r3, r4, r5, r6⟩ := pc_record c1 c2 c3 c4
  obtain ⟨μ', m1, m2, m3, m4, m5, m6⟩ := pm_records c1 c5
  have e1 : μ' 1 = μ 1 := m2 1 (by decide) (by decide)
  have hlo : ∀ c, c < 58 → σ' c = σ c := fun c hc => r2 c (by omega) (by omega) (by omega)
  have hhi : ∀ c, 136 ≤ c → c < 147 → σ' c = σ c := fun c h1 h2 => r2 c (by omega) (by omega) (by omega)
  refine ⟨σ', μ', r1, m1, ⟨⟨n, by rw [e1]; exact a1, by rw [e1]; exact a2.congr (fun c _ h2 => hlo c (by omega)), Or.inl r6⟩, ?_, ?_, ?_⟩, r6, hlo, hhi, m2, m3⟩
  · exact b.fr (by rw [hlo 0 (by decide)]) (fun c _ h2 => hlo c h2) (m2 2 (by decide) (by decide)) (m3 2 (by decide))
  · refine ⟨min 4 (sz + 1), (nx + 1) % 4, by omega, by omega, r5, r4, m4, fun i hi => ?_⟩
    by_cases hl : i = min 4 (sz + 1) - 1
    · have hrow : ∀ j, j < 425 → sm_row μ' i j = μ 1 j := fun j hj => by
        unfold sm_row
        rw [hl]
        exact m5 j hj
      refine ⟨n, a1.congr hrow, ?_⟩
      rw [show ((nx + 1) % 4 + 4 - min 4 (sz + 1) + i) % 4 = nx by omega]
      exact pl_RS.congrB a1 (pl_RS.same a1 a2 r3) hrow
    · obtain ⟨n', b1, b2⟩ := c6 (i + (sz - (min 4 (sz + 1) - 1))) (by omega)
      have hrow : ∀ j, j < 425 → sm_row μ' i j = sm_row μ (i + (sz - (min 4 (sz + 1) - 1))) j := fun j hj => by
        unfold sm_row
        rw [m6 (425 * i + j) (by omega), show 425 * i + j + 425 * (sz - (min 4 (sz + 1) - 1)) = 425 * (i + (sz - (min 4 (sz + 1) - 1))) + j by omega]
      have hpos : (nx + 4 - sz + (i + (sz - (min 4 (sz + 1) - 1)))) % 4 = ((nx + 1) % 4 + 4 - min 4 (sz + 1) + i) % 4 := by omega
      rw [hpos] at b2
      have hne : ((nx + 1) % 4 + 4 - min 4 (sz + 1) + i) % 4 ≠ nx := by omega
      refine ⟨n', b1.congr hrow, ?_⟩
      refine pl_RS.congrB b1 (b2.congr (fun c h1 h2 => ?_)) hrow
      exact r2 c (by omega) (by omega) (by omega)
  · exact d.fr (by rw [hhi 136 (by decide) (by decide)]) (hhi 138 (by decide) (by decide)) (m2 4 (by decide) (by decide)) (m3 6 (by decide))
