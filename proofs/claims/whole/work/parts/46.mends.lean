/-! the reference: places from which an end can be reached -/
/-- an end, from here or ahead -/
def pe_can (B : Nat → Int32) (q : Nat) : Prop := ∃ k z : Nat, pb_pa (pg_nx B) k q z ∧ pl_m B (z / 32) = 0
/-- what is right of a row of ends: its ones are places that can -/
def pe_sound (B : Nat → Int32) (l : List Nat) (E : Nat → Int32) : Prop := ∀ q, q < 1024 → (E q = 0 ∨ E q = 1) ∧ (E q = 1 → q ∈ l ∧ pe_can B q)
def pe_base (B : Nat → Int32) (l : List Nat) (E : Nat → Int32) : Prop := ∀ q, q ∈ l → pl_m B (q / 32) = 0 → E q = 1
def pe_comp (B : Nat → Int32) (l : List Nat) (r : Nat) (E : Nat → Int32) : Prop := ∀ q k z : Nat, q ∈ l → k ≤ r → pb_pa (pg_nx B) k q z → pl_m B (z / 32) = 0 → E q = 1
theorem pm_leads {n : Nat} {B : Nat → Int32} {μ : hb_Mem} (h : pl_WB n B) (hB : μ 1 = B) {q : Nat} (hq : q < 32 * n) : fn_X6_leadsOn 0 (nI q) μ = some (if cd (∃ c z : Nat, c < 3 ∧ pg_nx B q c = some z ∧ μ 10 z = 1) = true then 1 else 0) := by
  have hn := h.1
  have hW : pl_WB n (μ 1) := by rw [hB]; exact h
  unfold fn_X6_leadsOn ll_X6_leadsOn_4
  rw [pl_any2 (f := fun s => lb_X6_leadsOn_4 0 (nI q) s.1 s.2 μ) 3 (fun c => cd (∃ z : Nat, pg_nx B q c = some z ∧ μ 10 z = 1)), Option.bind_some]
  · have hany : (List.range 3).any (fun c => cd (∃ z : Nat, pg_nx B q c = some z ∧ μ 10 z = 1)) = cd (∃ c z : Nat, c < 3 ∧ pg_nx B q c = some z ∧ μ 10 z = 1) := by
      apply Bool.eq_iff_iff.mpr
      rw [List.any_eq_true, cd_iff]
      constructor
      · rintro ⟨c, h1, h2⟩
        obtain ⟨z, h3, h4⟩ := cd_iff.mp h2
        exact ⟨c, z, List.mem_range.mp h1, h3, h4⟩
      · rintro ⟨c, z, h1, h3, h4⟩
        exact ⟨c, List.mem_range.mpr h1, cd_iff.mpr ⟨z, h3, h4⟩⟩
    rw [hany]
    split <;> rfl
  · intro c b hc
    show lb_X6_leadsOn_4 0 (nI q) (if b = true then 1 else 0) (nI c) μ = _
    unfold lb_X6_leadsOn_4 jn_X6_leadsOn_39 jn_X6_leadsOn_43 jn_X6_leadsOn_44
    simp only [hb_nm]
    rw [if_neg (by show ¬ nI 3 ≤ nI c; rw [nI_leI (by omega) (by omega)]; omega), pm_behind hW hq hc, Option.bind_some, hB]
    cases b with
    | true =>
      rw [if_pos rfl, if_neg (by decide), Bool.true_or, if_pos rfl]
    | false =>
      rw [Bool.false_or, if_pos (by decide : (if false = true then (1 : Int32) else 0) = 0)]
      cases hz : pg_nx B q c with
      | none =>
        dsimp only
        rw [if_pos rfl, if_neg]
        intro hc
        obtain ⟨z, hz, -⟩ := cd_iff.mp hc
        cases hz
      | some z =>
        dsimp only
        have hzl := pg_nx_lt h hq hz
        rw [if_neg (pl_ne_neg (by omega) (by decide)), pm_ld (a := hm_rf 0 13) (n := 1024) (by decide) (by omega) (by decide), Option.bind_some]
        have e10 : μ (hm_rf 0 13) z = μ 10 z := rfl
        rw [e10]
        by_cases h1 : μ 10 z = 1
        · rw [if_pos h1, if_pos (cd_iff.mpr ⟨z, rfl, h1⟩)]
        · rw [if_neg h1, if_neg]
          intro hc
          obtain ⟨z', hz', hz1⟩ := cd_iff.mp hc
          cases hz'
          exact h1 hz1
  · intro a
    rfl
  · rw [pl_F]; omega
/-- one round over the places, from the last to the first -/
theorem pm_endRound {n : Nat} {B : Nat → Int32} {M : pb_M} {μ : hb_Mem} (h : pl_WB n B) (hB : μ 1 = B) (hM : pb_good (pg_nx B) n M) (h8 : ∀ j x : Nat, M.1[j]? = some x → μ 8 j = nI x) (hs : pe_sound B M.1 (μ 10)) : ∃ fl μ', ll_X6_findsEnds_66 0 (0, pl_dn M.1.length 0, μ) = some (fl, μ') ∧ (∀ c, c ≠ 10 → μ' c = μ c) ∧ pe_sound B M.1 (μ' 10) ∧ (∀ q, μ 10 q = 1 → μ' 10 q = 1) ∧ (∀ q c z : Nat, q ∈ M.1 → c < 3 → pg_nx B q c = some z → μ 10 z = 1 → μ' 10 q = 1) ∧ (fl = 0 → μ' 10 = μ 10) ∧ ((∀ q c z : Nat, q ∈ M.1 → c < 3 → pg_nx B q c = some z → μ 10 z = 1 → μ 10 q = 1) → fl = 0) := by
  have hn := h.1
  have hlen := hM.2.1
  unfold ll_X6_findsEnds_66
  obtain ⟨t, g1, g2, g3, g4, g5, g6, g7⟩ := pl_inv (f := fun s => lb_X6_findsEnds_66 0 s.1 s.2.1 s.2.2) (s := ((0 : Int32), pl_dn M.1.length 0, μ)) M.1.length
    (fun t s => s.2.1 = pl_dn M.1.length t ∧ (∀ c, c ≠ 10 → s.2.2 c = μ c) ∧ pe_sound B M.1 (s.2.2 10) ∧ (∀ q, μ 10 q = 1 → s.2.2 10 q = 1) ∧ (∀ j q c z : Nat, M.1.length - t ≤ j → M.1[j]? = some q → c < 3 → pg_nx B q c = some z → μ 10 z = 1 → s.2.2 10 q = 1) ∧ (s.1 = 0 → s.2.2 10 = μ 10) ∧ ((∀ q c z : Nat, q ∈ M.1 → c < 3 → pg_nx B q c = some z → μ 10 z = 1 → μ 10 q = 1) → s.1 = 0))
    (fun t => (∀ c, c ≠ 10 → t.2 c = μ c) ∧ pe_sound B M.1 (t.2 10) ∧ (∀ q, μ 10 q = 1 → t.2 10 q = 1) ∧ (∀ q c z : Nat, q ∈ M.1 → c < 3 → pg_nx B q c = some z → μ 10 z = 1 → t.2 10 q = 1) ∧ (t.1 = 0 → t.2 10 = μ 10) ∧ ((∀ q c z : Nat, q ∈ M.1 → c < 3 → pg_nx B q c = some z → μ 10 z = 1 → μ 10 q = 1) → t.1 = 0))
    ⟨rfl, fun _ _ => rfl, hs, fun _ h => h, fun j q c z hj hq => by
      have := (List.getElem?_eq_some_iff.mp hq).1
      omega, fun _ => rfl, fun _ => rfl⟩ (by
    intro t s ht ⟨e1, e2, e3, e4, e5, e6, e7⟩
    obtain ⟨w1, w2, τ⟩ := s
    dsimp only at e1 e2 e3 e4 e5 e6 e7
    subst e1
    left
    show ∃ s', lb_X6_findsEnds_66 0 w1 (pl_dn M.1.length t) τ = some (.inl s') ∧ _
    obtain ⟨q, hq⟩ : ∃ q, M.1[M.1.length - 1 - t]? = some q := ⟨_, List.getElem?_eq_getElem (by omega)⟩
    have hqm := List.mem_of_getElem? hq
    have hql := hM.lt hqm
    have hdn : pl_dn M.1.length t = nI (M.1.length - 1 - t) := by unfold pl_dn; rw [if_pos ht]
    have e8 : τ (hm_rf 0 10) (M.1.length - 1 - t) = nI q := by
      show τ 8 _ = _
      rw [e2 8 (by decide)]
      exact h8 _ q hq
    have e10 : τ (hm_rf 0 13) q = τ 10 q := rfl
    have hB' : τ 1 = B := (e2 1 (by decide)).trans hB
    unfold lb_X6_findsEnds_66 jn_X6_findsEnds_111
    simp only [hb_nm]
    rw [if_neg (pl_dn_ge ht (by omega)), pl_dn_s ht, hdn, pm_ld (a := hm_rf 0 10) (n := 1024) (by decide) (by omega) (by decide), Option.bind_some, e8, pm_ld (a := hm_rf 0 13) (n := 1024) (by decide) (by omega) (by decide), Option.bind_some, e10, Option.bind_some, Option.bind_some, pm_leads h hB' hql, Option.bind_some]
    have hlast : ∀ (E : Nat → Int32), (∀ j q c z : Nat, M.1.length - t ≤ j → M.1[j]? = some q → c < 3 → pg_nx B q c = some z → μ 10 z = 1 → E q = 1) → (∀ c z : Nat, c < 3 → pg_nx B q c = some z → μ 10 z = 1 → E q = 1) → ∀ j q' c z : Nat, M.1.length - (t + 1) ≤ j → M.1[j]? = some q' → c < 3 → pg_nx B q' c = some z → μ 10 z = 1 → E q' = 1 := by
      intro E h1 h2 j q' c z hj hq' hc hz h3
      by_cases e : j = M.1.length - 1 - t
      · rw [e, hq] at hq'
        cases hq'
        exact h2 c z hc hz h3
      · exact h1 j q' c z (by omega) hq' hc hz h3
    by_cases h0 : τ 10 q = 0
    · rw [if_pos h0]
      by_cases hl : cd (∃ c z : Nat, c < 3 ∧ pg_nx B q c = some z ∧ τ 10 z = 1) = true
      · rw [if_pos hl, if_neg (by decide), pm_stt (a := hm_rf 0 13) (n := 1024) (by decide) (by omega) (by decide), Option.bind_some]
        obtain ⟨c, z, hc, hz, hz1⟩ := cd_iff.mp hl
        have hA : ∀ x, hb_up τ 10 q 1 10 x = if x = q then 1 else τ 10 x := by
          intro x
          by_cases hx : x = q
          · rw [if_pos hx, hx, pl_up_same]
          · rw [if_neg hx, pl_up_other hx]
        refine ⟨_, rfl, rfl, fun c hc => ?_, fun q' hq' => ?_, fun q' hq' => ?_, ?_, fun hf => ?_, fun hcl => ?_⟩
        · show hb_up τ 10 q 1 c = _
          rw [hb_up_ne hc]
          exact e2 c hc
        · show (hb_up τ 10 q 1 10 q' = 0 ∨ hb_up τ 10 q 1 10 q' = 1) ∧ (hb_up τ 10 q 1 10 q' = 1 → _)
          rw [hA]
          by_cases hx : q' = q
          · rw [if_pos hx]
            refine ⟨Or.inr rfl, fun _ => ⟨by rw [hx]; exact hqm, ?_⟩⟩
            have hzl := pg_nx_lt h hql hz
            obtain ⟨-, k, y, hp, hy⟩ := (e3 z (by omega)).2 hz1
            rw [hx]
            exact ⟨k + 1, y, ⟨c, z, hc, hz, hp⟩, hy⟩
          · rw [if_neg hx]
            exact e3 q' hq'
        · show hb_up τ 10 q 1 10 q' = 1
          rw [hA]
          split
          · rfl
          · exact e4 q' hq'
        · refine hlast (hb_up τ 10 q 1 10) (fun j q' c z hj hq' hc hz h1 => ?_) (fun c z _ _ _ => ?_)
          · rw [hA]
            split
            · rfl
            · exact e5 j q' c z hj hq' hc hz h1
          · rw [hA, if_pos rfl]
        · exact absurd (show (1 : Int32) = 0 from hf) (by decide)
        · exfalso
          have hE := e6 (e7 hcl)
          rw [hE] at hz1 h0
          have := hcl q c z hqm hc hz hz1
          rw [this] at h0
          exact absurd h0 (by decide)
      · rw [if_neg hl, if_pos rfl]
        refine ⟨_, rfl, rfl, e2, e3, e4, hlast _ e5 (fun c z hc hz h1 => absurd (cd_iff.mpr ⟨c, z, hc, hz, e4 z h1⟩) hl), e6, e7⟩
    · rw [if_neg h0]
      have h1 : τ 10 q = 1 := by
        rcases (e3 q (by omega)).1 with h | h
        · exact absurd h h0
        · exact h
      refine ⟨_, rfl, rfl, e2, e3, e4, hlast _ e5 (fun c z hc hz _ => h1), e6, e7⟩) (by
    intro s ⟨e1, e2, e3, e4, e5, e6, e7⟩
    obtain ⟨w1, w2, τ⟩ := s
    dsimp only at e1 e2 e3 e4 e5 e6 e7
    subst e1
    show ∃ t, lb_X6_findsEnds_66 0 w1 (pl_dn M.1.length M.1.length) τ = some (.inr t) ∧ _
    unfold lb_X6_findsEnds_66
    rw [if_pos (pl_dn_end _)]
    refine ⟨_, rfl, e2, e3, e4, fun q c z hq hc hz h1 => ?_, e6, e7⟩
    obtain ⟨j, hj⟩ := List.getElem?_of_mem hq
    exact e5 j q c z (by omega) hj hc hz h1) (by rw [pl_F]; omega)
  exact ⟨t.1, t.2, g1, g2, g3, g4, g5, g6, g7⟩
theorem pm_ends {n : Nat} {B : Nat → Int32} {μ : hb_Mem} (h : pl_WB n B) (hB : μ 1 = B) : ∃ μ', fn_X6_findsEnds 0 μ = some μ' ∧ pm_kp μ μ' ∧ (∀ x, x < 1024 → μ' 9 x = if x ∈ (pb_pl n B).1 then 1 else 0) ∧ ∀ q, q < 1024 → (μ' 10 q = 0 ∨ μ' 10 q = 1) ∧ (μ' 10 q = 1 ↔ q ∈ (pb_pl n B).1 ∧ pe_can B q) := by
  have hn := h.1
  have hN : ∀ x c z, x < 32 * n → pg_nx B x c = some z → z < 32 * n := fun x c z hx hz => pg_nx_lt h hx hz
  obtain ⟨μ1, r1, r2, r3, r4, r5⟩ := pm_keeps h hB
  obtain ⟨M, hMe⟩ : ∃ M, M = pb_pl n B := ⟨_, rfl⟩
  have hM : pb_good (pg_nx B) n M := by rw [hMe]; exact pb_pl_good h
  rw [← hMe] at r2 r3 ⊢
  have hlen := hM.2.1
  have hB1 : μ1 1 = B := (r4 1 (by decide) (by decide) (by decide) (by decide) (by decide) (by decide)).trans hB
  unfold fn_X6_findsEnds ll_X6_findsEnds_6
  rw [r1, Option.bind_some]
  have hfirst : hb_lp (fun s => lb_X6_findsEnds_6 0 s.1 s.2) hb_F (0, μ1) = some (pl_blk μ1 10 1024 (fun x => if x ∈ M.1 ∧ pl_m B (x / 32) = 0 then 1 else 0)) := by
    refine pl_for (f := fun s => lb_X6_findsEnds_6 0 s.1 s.2) (s := ((0 : Int32), μ1)) 1024 (fun i => (nI i, pl_blk μ1 10 i (fun x => if x ∈ M.1 ∧ pl_m B (x / 32) = 0 then 1 else 0))) (by rw [pl_blk_0]; rfl) ?_ rfl (by rw [pl_F]; omega)
    intro i hi
    show lb_X6_findsEnds_6 0 (nI i) (pl_blk μ1 10 i _) = _
    unfold lb_X6_findsEnds_6 jn_X6_findsEnds_43 jn_X6_findsEnds_44
    simp only [hb_nm]
    have e9 : pl_blk μ1 10 i (fun x => if x ∈ M.1 ∧ pl_m B (x / 32) = 0 then (1 : Int32) else 0) (hm_rf 0 12) i = if i ∈ M.1 then 1 else 0 := by
      show pl_blk μ1 10 i (fun x => if x ∈ M.1 ∧ pl_m B (x / 32) = 0 then (1 : Int32) else 0) 9 i = _
      rw [pl_blk_ne (by decide)]
      exact r3 i hi
    have e13 : hm_rf 0 13 = 10 := by decide
    rw [if_neg (by show ¬ nI 1024 ≤ nI i; rw [nI_leI (by omega) (by omega)]; omega), pm_ld (a := hm_rf 0 12) (n := 1024) (by decide) hi (by decide), Option.bind_some, e9, pm_stt (a := hm_rf 0 13) (n := 1024) (by decide) hi (by decide), pm_stt (a := hm_rf 0 13) (n := 1024) (by decide) hi (by decide), Option.bind_some, Option.bind_some, nI_1, ← pl_blk_s, e13]
    by_cases hm : i ∈ M.1
    · have hil := hM.lt hm
      have eB : pl_blk μ1 10 i (fun x => if x ∈ M.1 ∧ pl_m B (x / 32) = 0 then (1 : Int32) else 0) 1 = B := by
        rw [pl_blk_ne (by decide)]
        exact hB1
      rw [if_pos hm, if_pos rfl, pl_div i hi, pm_isEnd (n := n) (by rw [eB]; exact h) (by omega), Option.bind_some, eB]
      by_cases he : pl_m B (i / 32) = 0
      · rw [if_pos he, if_neg (by decide), if_pos ⟨hm, he⟩]
      · rw [if_neg he, if_pos rfl, if_neg (fun hc => he hc.2)]
    · rw [if_neg hm, if_neg (by decide), if_neg (fun hc => hm hc.1)]
  rw [hfirst, Option.bind_some]
  obtain ⟨μ2, hμ2⟩ : ∃ μ, μ = pl_blk μ1 10 1024 (fun x => if x ∈ M.1 ∧ pl_m B (x / 32) = 0 then 1 else 0) := ⟨_, rfl⟩
  rw [← hμ2]
  have k2 : ∀ c, c ≠ 10 → μ2 c = μ1 c := fun c hc => by rw [hμ2, pl_blk_ne hc]
  have k10 : ∀ q, q < 1024 → μ2 10 q = if q ∈ M.1 ∧ pl_m B (q / 32) = 0 then 1 else 0 := fun q hq => by rw [hμ2, pl_blk_eq hq]
  have hs2 : pe_sound B M.1 (μ2 10) := by
    intro q hq
    rw [k10 q hq]
    by_cases hc : q ∈ M.1 ∧ pl_m B (q / 32) = 0
    · rw [if_pos hc]
      exact ⟨Or.inr rfl, fun _ => ⟨hc.1, 0, q, rfl, hc.2⟩⟩
    · rw [if_neg hc]
      exact ⟨Or.inl rfl, fun h => absurd h (by decide)⟩
  have hb2 : ∀ q, q ∈ M.1 → pl_m B (q / 32) = 0 → μ2 10 q = 1 := fun q hq he => by
    have := hM.lt hq
    rw [k10 q (by omega), if_pos ⟨hq, he⟩]
  have hc2 : pe_comp B M.1 0 (μ2 10) := by
    intro q k z hq hk hp he
    have hk0 : k = 0 := by omega
    subst hk0
    have e : q = z := hp
    rw [← e] at he
    exact hb2 q hq he
  -- closed rows hold all
  have hclosed : ∀ E : Nat → Int32, (∀ q, q ∈ M.1 → pl_m B (q / 32) = 0 → E q = 1) → (∀ q c z : Nat, q ∈ M.1 → c < 3 → pg_nx B q c = some z → E z = 1 → E q = 1) → ∀ k q z : Nat, q ∈ M.1 → pb_pa (pg_nx B) k q z → pl_m B (z / 32) = 0 → E q = 1 := by
    intro E h1 h2 k
    induction k with
    | zero =>
      intro q z hq hp he
      have e : q = z := hp
      rw [← e] at he
      exact h1 q hq he
    | succ k ih =>
      intro q z hq hp he
      obtain ⟨c, w, hc, hw, hp⟩ := hp
      exact h2 q c w hq hc hw (ih w z (hM.2.2 q c w hq hc hw) hp he)
  have hshort : ∀ E : Nat → Int32, pe_comp B M.1 1024 E → ∀ q, q ∈ M.1 → pe_can B q → E q = 1 := by
    intro E hE q hq ⟨k, z, hp, he⟩
    cases k with
    | zero => exact hE q 0 z hq (by omega) hp he
    | succ k =>
      obtain ⟨k', hk', hp'⟩ := pa_short hN (by omega) (hM.lt hq) hp
      exact hE q (k' + 1) z hq (by omega) hp' he
  unfold ll_X6_findsEnds_53
  obtain ⟨t, g1, g2, g3, g4⟩ := pl_inv (f := fun s => lb_X6_findsEnds_53 0 s.1 s.2) (s := ((1 : Int32), μ2)) 1026
    (fun r s => (∀ c, c ≠ 10 → s.2 c = μ2 c) ∧ pe_sound B M.1 (s.2 10) ∧ pe_comp B M.1 r (s.2 10) ∧ (∀ q, q ∈ M.1 → pl_m B (q / 32) = 0 → s.2 10 q = 1) ∧ (s.1 = 0 → ∀ q, q ∈ M.1 → pe_can B q → s.2 10 q = 1) ∧ (1026 ≤ r → s.1 = 0))
    (fun t => (∀ c, c ≠ 10 → t c = μ2 c) ∧ pe_sound B M.1 (t 10) ∧ ∀ q, q ∈ M.1 → pe_can B q → t 10 q = 1)
    ⟨fun _ _ => rfl, hs2, hc2, hb2, fun h0 => absurd (show (1 : Int32) = 0 from h0) (by decide), fun h0 => absurd h0 (by decide)⟩ (by
    intro r s hr ⟨e1, e2, e3, e4, e5, e6⟩
    obtain ⟨w1, τ⟩ := s
    dsimp only at e1 e2 e3 e4 e5 e6
    show (∃ s', lb_X6_findsEnds_53 0 w1 τ = some (.inl s') ∧ _) ∨ ∃ t, lb_X6_findsEnds_53 0 w1 τ = some (.inr t) ∧ _
    unfold lb_X6_findsEnds_53
    by_cases hw : w1 = 0
    · right
      rw [if_pos hw]
      exact ⟨τ, rfl, e1, e2, e5 hw⟩
    · left
      have hBτ : τ 1 = B := by rw [e1 1 (by decide), k2 1 (by decide)]; exact hB1
      have e11 : τ 0 11 = nI M.1.length := by rw [e1 0 (by decide), k2 0 (by decide)]; exact r2.1
      have e8 : ∀ j x : Nat, M.1[j]? = some x → τ 8 j = nI x := fun j x hj => by rw [e1 8 (by decide), k2 8 (by decide)]; exact r2.2.1 j x hj
      obtain ⟨fl, τ', m1, m2, m3, m4, m5, m6, m7⟩ := pm_endRound h hBτ hM e8 e2
      rw [if_neg hw, e11, ← pl_dn_0 M.1.length (by omega)]
      simp only [hb_nm]
      rw [m1, Option.bind_some]
      refine ⟨_, rfl, fun c hc => (m2 c hc).trans (e1 c hc), m3, ?_, fun q hq he => m4 q (e4 q hq he), fun hf => ?_, fun hr2 => ?_⟩
      · intro q k z hq hk hp he
        cases k with
        | zero => exact m4 q (e3 q 0 z hq (by omega) hp he)
        | succ k =>
          obtain ⟨c, w, hc, hw, hp⟩ := hp
          exact m5 q c w hq hc hw (e3 w k z (hM.2.2 q c w hq hc hw) (by omega) hp he)
      · have hE := m6 hf
        intro q hq ⟨k, z, hp, he⟩
        show τ' 10 q = 1
        refine hclosed (τ' 10) (fun q hq he => m4 q (e4 q hq he)) (fun q c z hq hc hz h1 => ?_) k q z hq hp he
        exact m5 q c z hq hc hz (by rw [← hE]; exact h1)
      · refine m7 (fun q c z hq hc hz h1 => ?_)
        have hzl := hN q c z (hM.lt hq) hz
        obtain ⟨-, k, y, hp, he⟩ := (e2 z (by omega)).2 h1
        exact hshort (τ 10) (fun q k z hq hk hp he => e3 q k z hq (by omega) hp he) q hq ⟨k + 1, y, ⟨c, z, hc, hz, hp⟩, he⟩) (by
    intro s ⟨e1, e2, e3, e4, e5, e6⟩
    obtain ⟨w1, τ⟩ := s
    dsimp only at e1 e2 e3 e4 e5 e6
    show ∃ t, lb_X6_findsEnds_53 0 w1 τ = some (.inr t) ∧ _
    unfold lb_X6_findsEnds_53
    rw [if_pos (e6 (Nat.le_refl _))]
    exact ⟨τ, rfl, e1, e2, e5 (e6 (Nat.le_refl _))⟩) (by rw [pl_F]; omega)
  rw [g1, Option.bind_some]
  refine ⟨t, rfl, ⟨fun c h1 h2 => ?_, fun j h1 h2 => ?_⟩, fun x hx => ?_, fun q hq => ⟨(g3 q hq).1, fun h1 => (g3 q hq).2 h1, fun h1 => g4 q h1.1 h1.2⟩⟩
  · rw [g2 c (by omega), k2 c (by omega)]
    exact r4 c (by omega) (by omega) (by omega) (by omega) (by omega) (by omega)
  · rw [g2 0 (by decide), k2 0 (by decide)]
    exact r5 j h1
  · rw [g2 9 (by decide), k2 9 (by decide)]
    exact r3 x hx
theorem sp_stuck_iff (B : Nat → Int32) (M : pb_M) (q : Nat) : sp_stuck B M q = true ↔ q ∈ M.1 ∧ ¬ pe_can B q := by
  unfold sp_stuck
  rw [cd_iff]
  constructor
  · rintro ⟨h1, h2, h3⟩
    refine ⟨h1, ?_⟩
    rintro ⟨k, z, hp, he⟩
    cases k with
    | zero =>
      have e : q = z := hp
      rw [← e] at he
      exact h2 he
    | succ k => exact h3 k z hp he
  · rintro ⟨h1, h2⟩
    exact ⟨h1, fun he => h2 ⟨0, q, rfl, he⟩, fun k z hp he => h2 ⟨k + 1, z, hp, he⟩⟩
/-- a sum from a place on -/
theorem pl_sumFrom {f : Int32 × Int32 → Option ((Int32 × Int32) ⊕ Int32)} (lo N : Nat) (g : Nat → Nat) (hstep : ∀ i a, i < N → f (a, nI (lo + i)) = some (.inl (a + nI (g (lo + i)), nI (lo + i) + 1))) (hend : ∀ a, f (a, nI (lo + N)) = some (.inr a)) (hN : N < hb_F) : hb_lp f hb_F (0, nI lo) = some (nI (ct N (fun i => g (lo + i)))) :=
  pl_for N (fun i => (nI (ct i (fun i => g (lo + i))), nI (lo + i))) rfl (fun i hi => by
    rw [hstep i _ hi, nI_1, nI_add]
    rfl) (hend _) hN
theorem pm_stuckIn {n : Nat} {B : Nat → Int32} {μ : hb_Mem} (h : pl_WB n B) (hB : μ 1 = B) {lo N : Nat} (hl : lo + N < 1024) : ∃ μ', fn_X6_stuckIn 0 (nI lo) (nI (lo + N)) μ = some (nI (ct (N + 1) (fun i => if sp_stuck B (pb_pl n B) (lo + i) = true then 1 else 0)), μ') ∧ pm_kp μ μ' := by
  obtain ⟨μ', r1, r2, r3, r4⟩ := pm_ends h hB
  obtain ⟨M, hMe⟩ : ∃ M, M = pb_pl n B := ⟨_, rfl⟩
  rw [← hMe] at r3 r4 ⊢
  unfold fn_X6_stuckIn ll_X6_stuckIn_9
  rw [r1, Option.bind_some, pl_sumFrom (f := fun s => lb_X6_stuckIn_9 0 (nI lo) (nI (lo + N)) s.1 s.2 μ') lo (N + 1) (fun q => if sp_stuck B M q = true then 1 else 0)]
  · exact ⟨μ', rfl, r2⟩
  · intro i a hi
    show lb_X6_stuckIn_9 0 (nI lo) (nI (lo + N)) a (nI (lo + i)) μ' = _
    unfold lb_X6_stuckIn_9 jn_X6_stuckIn_41 jn_X6_stuckIn_42
    simp only [hb_nm]
    have e9 : μ' (hm_rf 0 12) (lo + i) = if lo + i ∈ M.1 then 1 else 0 := r3 _ (by omega)
    have e10 : μ' (hm_rf 0 13) (lo + i) = μ' 10 (lo + i) := rfl
    obtain ⟨f1, f2⟩ := r4 (lo + i) (by omega)
    rw [if_neg (by rw [nI_ltI (by omega) (by omega)]; omega), pm_ld (a := hm_rf 0 12) (n := 1024) (by decide) (by omega) (by decide), Option.bind_some, e9, pm_ld (a := hm_rf 0 13) (n := 1024) (by decide) (by omega) (by decide), Option.bind_some, e10]
    by_cases hm : lo + i ∈ M.1
    · rw [if_pos hm, if_pos rfl]
      by_cases h0 : μ' 10 (lo + i) = 0
      · rw [if_pos h0, if_pos]
        · rfl
        · refine (sp_stuck_iff B M _).mpr ⟨hm, fun hc => ?_⟩
          have := f2.mpr ⟨hm, hc⟩
          rw [this] at h0
          exact absurd h0 (by decide)
      · rw [if_neg h0, if_neg]
        · rfl
        · intro hs
          rcases f1 with f1 | f1
          · exact h0 f1
          · exact ((sp_stuck_iff B M _).mp hs).2 (f2.mp f1).2
    · rw [if_neg hm, if_neg (by decide), if_neg]
      · rfl
      · intro hs
        exact hm ((sp_stuck_iff B M _).mp hs).1
  · intro a
    show lb_X6_stuckIn_9 0 (nI lo) (nI (lo + N)) a (nI (lo + (N + 1))) μ' = _
    unfold lb_X6_stuckIn_9
    rw [if_pos (by rw [nI_ltI (by omega) (by omega)]; omega)]
  · rw [pl_F]; omega
theorem ct_add (g : Nat → Nat) (a : Nat) : ∀ b, ct (a + b) g = ct a g + ct b (fun i => g (a + i))
  | 0 => rfl
  | b + 1 => by
    show ct (a + b) g + g (a + b) = ct a g + (ct b (fun i => g (a + i)) + g (a + b))
    rw [ct_add g a b]
    omega
theorem ct_rows (g : Nat → Nat) : ∀ n, ct (32 * n) g = ct n (fun p => ct 32 (fun f => g (32 * p + f)))
  | 0 => rfl
  | n + 1 => by
    show ct (32 * n + 32) g = ct n _ + ct 32 _
    rw [ct_add, ct_rows g n]
/-- all stuck places, counted in one row or page by page -/
theorem sp_allStuck_eq {n : Nat} {B : Nat → Int32} {M : pb_M} (hn : n ≤ 32) (hM : pb_good (pg_nx B) n M) : ct 1024 (fun i => if sp_stuck B M (0 + i) = true then 1 else 0) = sp_allStuck n B M := by
  have h1 : (1024 : Nat) = 32 * n + (1024 - 32 * n) := by omega
  rw [h1, ct_add, ct_rows]
  have h2 : ct (1024 - 32 * n) (fun i => if sp_stuck B M (0 + (32 * n + i)) = true then 1 else 0) = 0 := by
    rw [ct_zero]
    intro i _
    rw [if_neg]
    intro hs
    have := hM.lt ((sp_stuck_iff B M _).mp hs).1
    omega
  rw [h2, Nat.add_zero]
  unfold sp_allStuck sp_stucks
  refine ct_congr n (fun p _ => ct_congr 32 (fun f _ => ?_))
  rw [Nat.zero_add]
