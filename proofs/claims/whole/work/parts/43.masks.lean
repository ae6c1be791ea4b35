/-! what the reference answers out of its places -/
def pm_kp (μ μ' : hb_Mem) : Prop := (∀ c, 1 ≤ c → c ≤ 4 → μ' c = μ c) ∧ ∀ j, j ≠ 11 → j ≠ 15 → μ' 0 j = μ 0 j
theorem pm_kp.rf (μ : hb_Mem) : pm_kp μ μ := ⟨fun _ _ _ => rfl, fun _ _ _ => rfl⟩
theorem pm_kp.tr {a b c : hb_Mem} (h1 : pm_kp a b) (h2 : pm_kp b c) : pm_kp a c := ⟨fun x a1 a2 => (h2.1 x a1 a2).trans (h1.1 x a1 a2), fun j h3 h4 => (h2.2 j h3 h4).trans (h1.2 j h3 h4)⟩
theorem pm_fp.kp {a b : hb_Mem} (h : pm_fp a b) : pm_kp a b := ⟨fun c h1 h2 => h.1 c (by omega) (by omega) (by omega) (by omega) (by omega), fun j h1 _ => h.2 j h1⟩
def pm_rd (M : pb_M) (q : Nat) : Int32 := if q ∈ M.1 then nI (M.2.1 q) else 9999
theorem pm_look {μ : hb_Mem} {M : pb_M} (hR : pm_R μ M) {p f : Nat} (hp : p < 32) (hf : f < 32) : hb_ld ΛM μ (hm_rf 0 7) ((32 : Int32) * nI p + nI f) = some (pm_rd M (32 * p + f)) := by
  rw [pl_place', pm_ld (a := hm_rf 0 7) (n := 1024) (by decide) (by omega) (by decide)]
  show some (μ 5 (32 * p + f)) = _
  rw [hR.2.2.1 _ (by omega)]
  rfl
theorem pm_rd_9 {M : pb_M} (hd : ∀ x, x ∈ M.1 → M.2.1 x < 1024) (q : Nat) : (9999 : Int32) ≤ pm_rd M q ↔ q ∉ M.1 := by
  unfold pm_rd
  by_cases hm : q ∈ M.1
  · have := hd q hm
    rw [if_pos hm]
    show nI 9999 ≤ nI (M.2.1 q) ↔ _
    rw [nI_leI (by omega) (by omega)]
    constructor
    · intro h; omega
    · intro h; exact absurd hm h
  · rw [if_neg hm]
    exact ⟨fun _ => hm, fun _ => Int32.le_refl _⟩
theorem pm_placesOf {n : Nat} {B : Nat → Int32} {μ : hb_Mem} (h : pl_WB n B) (hB : μ 1 = B) {p : Nat} (hp : p < 32) : ∃ μ', fn_X6_placesOf 0 (nI p) μ = some (nI (sp_places (pb_pl n B) p), μ') ∧ pm_fp μ μ' := by
  obtain ⟨μ', r1, r2, r3⟩ := pm_reaches h hB
  obtain ⟨M, hMe⟩ : ∃ M, M = pb_pl n B := ⟨_, rfl⟩
  have hM : pb_good (pg_nx B) n M := by rw [hMe]; exact pb_pl_good h
  rw [← hMe] at r2 ⊢
  unfold fn_X6_placesOf ll_X6_placesOf_8
  rw [r1, Option.bind_some, pl_sum (f := fun s => lb_X6_placesOf_8 0 (nI p) s.1 s.2 μ') 32 (fun f => if 32 * p + f ∈ M.1 then 1 else 0)]
  · exact ⟨μ', rfl, r3⟩
  · intro f a hf
    show lb_X6_placesOf_8 0 (nI p) a (nI f) μ' = _
    unfold lb_X6_placesOf_8
    rw [if_neg (by show ¬ nI 31 < nI f; rw [nI_ltI (by omega) (by omega)]; omega), pm_look r2 hp hf, Option.bind_some]
    by_cases hm : 32 * p + f ∈ M.1
    · rw [if_pos hm, if_neg (fun hc => (pm_rd_9 (fun x hx => hM.d hx) _).mp hc hm)]; rfl
    · rw [if_neg hm, if_pos ((pm_rd_9 (fun x hx => hM.d hx) _).mpr hm)]; rfl
  · intro a
    rfl
  · rw [pl_F]; omega
/-- the smallest of the first values -/
def pm_mn (M : pb_M) (p : Nat) : Nat → Int32
  | 0 => 9999
  | i + 1 => if pm_mn M p i ≤ pm_rd M (32 * p + i) then pm_mn M p i else pm_rd M (32 * p + i)
theorem pm_mn_ok {M : pb_M} (hd : ∀ x, x ∈ M.1 → M.2.1 x < 1024) (p : Nat) : ∀ i, (pm_mn M p i = 9999 ∧ ∀ f, f < i → 32 * p + f ∉ M.1) ∨ ∃ f, f < i ∧ 32 * p + f ∈ M.1 ∧ pm_mn M p i = nI (M.2.1 (32 * p + f)) ∧ ∀ f', f' < i → 32 * p + f' ∈ M.1 → M.2.1 (32 * p + f) ≤ M.2.1 (32 * p + f')
  | 0 => Or.inl ⟨rfl, fun f hf => by omega⟩
  | i + 1 => by
    rw [pm_mn]
    rcases pm_mn_ok hd p i with ⟨h1, h2⟩ | ⟨f, h1, h2, h3, h4⟩
    · rw [h1]
      by_cases hm : 32 * p + i ∈ M.1
      · right
        rw [if_neg (fun hc => (pm_rd_9 hd _).mp hc hm)]
        refine ⟨i, by omega, hm, by unfold pm_rd; rw [if_pos hm], fun f' hf' hm' => ?_⟩
        by_cases e : f' = i
        · rw [e]; omega
        · exact absurd hm' (h2 f' (by omega))
      · left
        rw [if_pos ((pm_rd_9 hd _).mpr hm)]
        refine ⟨rfl, fun f hf => ?_⟩
        by_cases e : f = i
        · rw [e]; exact hm
        · exact h2 f (by omega)
    · right
      rw [h3]
      have hdf := hd _ h2
      unfold pm_rd
      by_cases hm : 32 * p + i ∈ M.1
      · have hdi := hd _ hm
        rw [if_pos hm]
        by_cases hle : M.2.1 (32 * p + f) ≤ M.2.1 (32 * p + i)
        · rw [if_pos (by rw [nI_leI (by omega) (by omega)]; exact hle)]
          refine ⟨f, by omega, h2, rfl, fun f' hf' hm' => ?_⟩
          by_cases e : f' = i
          · rw [e]; exact hle
          · exact h4 f' (by omega) hm'
        · rw [if_neg (by rw [nI_leI (by omega) (by omega)]; exact hle)]
          refine ⟨i, by omega, hm, rfl, fun f' hf' hm' => ?_⟩
          by_cases e : f' = i
          · rw [e]; omega
          · have := h4 f' (by omega) hm'
            omega
      · rw [if_neg hm, if_pos (by show nI _ ≤ nI 9999; rw [nI_leI (by omega) (by omega)]; omega)]
        refine ⟨f, by omega, h2, rfl, fun f' hf' hm' => ?_⟩
        by_cases e : f' = i
        · rw [e] at hm'; exact absurd hm' hm
        · exact h4 f' (by omega) hm'
theorem pm_fewest {n : Nat} {B : Nat → Int32} {μ : hb_Mem} (h : pl_WB n B) (hB : μ 1 = B) {p : Nat} (hp : p < 32) : ∃ μ', fn_X6_fewest 0 (nI p) μ = some (sp_few (pb_pl n B) p, μ') ∧ pm_fp μ μ' := by
  obtain ⟨μ', r1, r2, r3⟩ := pm_reaches h hB
  obtain ⟨M, hMe⟩ : ∃ M, M = pb_pl n B := ⟨_, rfl⟩
  have hM : pb_good (pg_nx B) n M := by rw [hMe]; exact pb_pl_good h
  rw [← hMe] at r2 ⊢
  have hd : ∀ x, x ∈ M.1 → M.2.1 x < 1024 := fun x hx => hM.d hx
  unfold fn_X6_fewest ll_X6_fewest_10
  rw [r1, Option.bind_some, pl_for (f := fun s => lb_X6_fewest_10 0 (nI p) s.1 s.2 μ') 32 (fun i => (pm_mn M p i, nI i)) (s := ((9999 : Int32), (0 : Int32))) (t := pm_mn M p 32) rfl, Option.bind_some]
  · refine ⟨μ', ?_, r3⟩
    rcases pm_mn_ok hd p 32 with ⟨h1, h2⟩ | ⟨f, h1, h2, h3, h4⟩
    · rw [if_pos h1]
      have hnone : M.1.find? (fun q => decide (q / 32 = p)) = none := by
        rw [List.find?_eq_none]
        intro x hx hc
        have hxp := of_decide_eq_true hc
        have := h2 (x % 32) (by omega)
        rw [show 32 * p + x % 32 = x by omega] at this
        exact this hx
      unfold sp_few
      rw [hnone]
    · have hdf := hd _ h2
      rw [h3, if_neg (fun hc => by
        have : M.2.1 (32 * p + f) = 9999 := (nI_eq (by omega) (by omega)).mp hc
        omega)]
      cases hq : M.1.find? (fun q => decide (q / 32 = p)) with
      | none =>
        rw [List.find?_eq_none] at hq
        exact absurd (decide_eq_true (show (32 * p + f) / 32 = p by omega)) (hq _ h2)
      | some q =>
        unfold sp_few
        rw [hq]
        obtain ⟨hqp, i, hi, hqi, hlt⟩ := List.find?_eq_some_iff_getElem.mp hq
        have hqp := of_decide_eq_true hqp
        have hqm : q ∈ M.1 := List.mem_of_find?_eq_some hq
        obtain ⟨j, hj⟩ := List.getElem?_of_mem h2
        have hjl := (List.getElem?_eq_some_iff.mp hj).1
        have hij : i ≤ j := by
          apply Nat.le_of_not_lt
          intro hji
          have := hlt j hji
          rw [(List.getElem?_eq_some_iff.mp hj).2, decide_eq_true (show (32 * p + f) / 32 = p by omega)] at this
          cases this
        obtain ⟨⟨S, hS⟩, -⟩ := hM
        have hle1 := hS.2.2.2.2.1 i q j (32 * p + f) (by rw [List.getElem?_eq_getElem hi, hqi]) hj hij
        have hle2 := h4 (q % 32) (by omega) (by rw [show 32 * p + q % 32 = q by omega]; exact hqm)
        rw [show 32 * p + q % 32 = q by omega] at hle2
        rw [show M.2.1 (32 * p + f) = M.2.1 q by omega]
  · intro i hi
    show lb_X6_fewest_10 0 (nI p) (pm_mn M p i) (nI i) μ' = _
    unfold lb_X6_fewest_10 jn_X6_fewest_46
    simp only [hb_nm]
    rw [if_neg (by show ¬ nI 31 < nI i; rw [nI_ltI (by omega) (by omega)]; omega), pm_look r2 hp hi, Option.bind_some, nI_1, Option.bind_some]
    show _ = some (Sum.inl (if pm_mn M p i ≤ pm_rd M (32 * p + i) then pm_mn M p i else pm_rd M (32 * p + i), nI (i + 1)))
    split <;> rfl
  · rfl
  · rw [pl_F]; omega
theorem ct_zero {g : Nat → Nat} : ∀ N, ct N g = 0 ↔ ∀ i, i < N → g i = 0
  | 0 => ⟨fun _ i hi => by omega, fun _ => rfl⟩
  | N + 1 => by
    show ct N g + g N = 0 ↔ _
    have := ct_zero (g := g) N
    constructor
    · intro h i hi
      by_cases e : i = N
      · rw [e]; omega
      · exact this.mp (by omega) i (by omega)
    · intro h
      have h1 := this.mpr (fun i hi => h i (by omega))
      have h2 := h N (by omega)
      omega
theorem sp_dead_iff (M : pb_M) (p : Nat) : sp_dead M p = true ↔ ∀ f, f < 32 → 32 * p + f ∉ M.1 := by
  unfold sp_dead sp_places
  rw [decide_eq_true_iff, ct_zero]
  constructor
  · intro h f hf hm
    have := h f hf
    rw [if_pos hm] at this
    cases this
  · intro h f hf
    rw [if_neg (h f hf)]
theorem pm_mn_9 {M : pb_M} (hd : ∀ x, x ∈ M.1 → M.2.1 x < 1024) (p : Nat) : (9999 : Int32) ≤ pm_mn M p 32 ↔ sp_dead M p = true := by
  rw [sp_dead_iff]
  rcases pm_mn_ok hd p 32 with ⟨h1, h2⟩ | ⟨f, h1, h2, h3, h4⟩
  · rw [h1]
    exact ⟨fun _ => h2, fun _ => Int32.le_refl _⟩
  · have := hd _ h2
    rw [h3]
    constructor
    · intro h
      have h' : nI 9999 ≤ nI (M.2.1 (32 * p + f)) := h
      rw [nI_leI (by omega) (by omega)] at h'
      omega
    · intro h
      exact absurd h2 (h f h1)
theorem pm_keeps {n : Nat} {B : Nat → Int32} {μ : hb_Mem} (h : pl_WB n B) (hB : μ 1 = B) : ∃ μ', fn_X6_keepsPlaces 0 μ = some μ' ∧ pm_R μ' (pb_pl n B) ∧ (∀ x, x < 1024 → μ' 9 x = if x ∈ (pb_pl n B).1 then 1 else 0) ∧ (∀ c, c ≠ 0 → c ≠ 5 → c ≠ 6 → c ≠ 7 → c ≠ 8 → c ≠ 9 → μ' c = μ c) ∧ ∀ j, j ≠ 11 → μ' 0 j = μ 0 j := by
  obtain ⟨μ1, r1, r2, r3⟩ := pm_reaches h hB
  obtain ⟨M, hMe⟩ : ∃ M, M = pb_pl n B := ⟨_, rfl⟩
  have hM : pb_good (pg_nx B) n M := by rw [hMe]; exact pb_pl_good h
  rw [← hMe] at r2 ⊢
  have hd : ∀ x, x ∈ M.1 → M.2.1 x < 1024 := fun x hx => hM.d hx
  unfold fn_X6_keepsPlaces ll_X6_keepsPlaces_6
  rw [r1, Option.bind_some, pl_for (f := fun s => lb_X6_keepsPlaces_6 0 s.1 s.2) 1024 (fun i => (nI i, pl_blk μ1 9 i (fun x => if x ∈ M.1 then 1 else 0))) (t := pl_blk μ1 9 1024 (fun x => if x ∈ M.1 then 1 else 0)) (by rw [pl_blk_0]; rfl), Option.bind_some]
  · obtain ⟨a1, a2, a3, a4⟩ := r2
    refine ⟨_, rfl, ⟨?_, fun j x hj => ?_, fun x hx => ?_, fun x hx hd => ?_⟩, fun x hx => ?_, fun c h0 h5 h6 h7 h8 h9 => ?_, fun j hj => ?_⟩
    · rw [pl_blk_ne (by decide)]; exact a1
    · rw [pl_blk_ne (by decide)]; exact a2 j x hj
    · rw [pl_blk_ne (by decide)]; exact a3 x hx
    · rw [pl_blk_ne (by decide), pl_blk_ne (by decide)]; exact a4 x hx hd
    · rw [pl_blk_eq hx]
    · rw [pl_blk_ne h9]
      exact r3.1 c h0 h5 h6 h7 h8
    · rw [pl_blk_ne (by decide)]
      exact r3.2 j hj
  · intro i hi
    show lb_X6_keepsPlaces_6 0 (nI i) (pl_blk μ1 9 i _) = _
    unfold lb_X6_keepsPlaces_6 jn_X6_keepsPlaces_35
    simp only [hb_nm]
    rw [if_neg (by show ¬ nI 1024 ≤ nI i; rw [nI_leI (by omega) (by omega)]; omega), pm_ld (a := hm_rf 0 7) (n := 1024) (by decide) hi (by decide), Option.bind_some]
    have e5 : pl_blk μ1 9 i (fun x => if x ∈ M.1 then (1 : Int32) else 0) (hm_rf 0 7) i = pm_rd M i := by
      show pl_blk μ1 9 i (fun x => if x ∈ M.1 then (1 : Int32) else 0) 5 i = _
      rw [pl_blk_ne (by decide)]
      exact r2.2.2.1 i hi
    rw [e5, pm_stt (a := hm_rf 0 12) (n := 1024) (by decide) hi (by decide), pm_stt (a := hm_rf 0 12) (n := 1024) (by decide) hi (by decide), Option.bind_some, Option.bind_some, nI_1, ← pl_blk_s]
    have e9 : hm_rf 0 12 = 9 := by decide
    rw [e9]
    by_cases hm : i ∈ M.1
    · rw [if_neg (fun hc => (pm_rd_9 hd _).mp hc hm), if_pos hm]
    · rw [if_pos ((pm_rd_9 hd _).mpr hm), if_neg hm]
  · rfl
  · rw [pl_F]; omega
