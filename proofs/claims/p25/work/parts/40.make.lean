/-! the class's survey: ends, and all of it -/
theorem bt_shz : ∀ p, p < 32 → (0 : Int32) <<< (nI p &&& 31) = 0 := by decide +kernel
theorem bt_orb (x : Int32) (b : Bool) {i p : Nat} (hi : i < 32) (hp : p < 32) : bt (x ||| ((if b = true then (1 : Int32) else 0) <<< (nI i &&& 31))) p = (bt x p || (b && decide (p = i))) := by
  rw [bt_or]
  cases b
  · rw [if_neg (by decide), bt_shz i hi, bt_zero]
    rfl
  · rw [if_pos rfl, bt_one i hi p hp]
    rfl
/-- the bits of the pages before i -/
def pc_bb (x : Int32) (i : Nat) (P : Nat → Bool) : Prop := ∀ p, p < 32 → bt x p = (decide (p < i) && P p)
theorem pc_bb_s {x : Int32} {i : Nat} {P : Nat → Bool} (hi : i < 32) (h : pc_bb x i P) : pc_bb (x ||| ((if P i = true then (1 : Int32) else 0) <<< (nI i &&& 31))) (i + 1) P := by
  intro p hp
  rw [bt_orb x (P i) hi hp, h p hp]
  by_cases hpi : p = i
  · rw [hpi, decide_eq_false (Nat.lt_irrefl i), decide_eq_true (Nat.lt_succ_self i), decide_eq_true rfl]
    simp
  · by_cases hpl : p < i
    · rw [decide_eq_true hpl, decide_eq_true (show p < i + 1 by omega), decide_eq_false hpi]
      simp
    · rw [decide_eq_false hpl, decide_eq_false (show ¬ p < i + 1 by omega), decide_eq_false hpi]
      simp
theorem pc_oneIf (b : Bool) : fn_X5_oneIf (if b = true then 1 else 0) = some (if b = true then 1 else 0) := by
  cases b <;> rfl
def pe_end (B : Nat → Int32) (p : Nat) : Bool := decide (pl_m B p = 0)
def pe_hap (B : Nat → Int32) (p : Nat) : Bool := decide (pl_m B p = 0 ∧ ¬ B (1 + 13 * p) ≤ 0)
theorem pc_ends {n : Nat} {B : Nat → Int32} {σ : hb_Mem} (h : pl_WB n B) (hr : pl_RS σ 1 n B) (hn1 : σ 147 1 = nI n) : ∃ σ', fn_X3_findEnds 147 1 σ = some σ' ∧ (∀ c, c ≠ 147 → σ' c = σ c) ∧ (∀ j, j ≠ 8 → j ≠ 9 → σ' 147 j = σ 147 j) ∧ pc_bits σ' n B := by
  have hn := h.1
  unfold fn_X3_findEnds
  simp only [hb_nm]
  unfold ll_X3_findEnds_12
  obtain ⟨t, g1, g2, g3, g4, g5⟩ := pl_inv (f := fun s => lb_X3_findEnds_12 147 1 s.1 s.2) (s := (0, hb_up (hb_up σ 147 8 0) 147 9 0)) n
    (fun i s => s.1 = nI i ∧ (∀ c, c ≠ 147 → s.2 c = σ c) ∧ (∀ j, j ≠ 8 → j ≠ 9 → s.2 147 j = σ 147 j) ∧ pc_bb (s.2 147 8) i (pe_end B) ∧ pc_bb (s.2 147 9) i (pe_hap B))
    (fun t => (∀ c, c ≠ 147 → t c = σ c) ∧ (∀ j, j ≠ 8 → j ≠ 9 → t 147 j = σ 147 j) ∧ pc_bb (t 147 8) n (pe_end B) ∧ pc_bb (t 147 9) n (pe_hap B))
    ⟨rfl, fun c h1 => by show hb_up (hb_up σ 147 8 0) 147 9 0 c = _; rw [hb_up_ne h1, hb_up_ne h1], fun j h1 h2 => by show hb_up (hb_up σ 147 8 0) 147 9 0 147 j = _; rw [pl_up_other h2, pl_up_other h1], fun p hp => by
      show bt (hb_up (hb_up σ 147 8 0) 147 9 0 147 8) p = _
      rw [pl_up_other (by decide), pl_up_same, bt_zero]; rfl, fun p hp => by
      show bt (hb_up (hb_up σ 147 8 0) 147 9 0 147 9) p = _
      rw [pl_up_same, bt_zero]; rfl⟩ (by
    intro i s hi ⟨e1, e2, e3, e4, e5⟩
    obtain ⟨w1, τ⟩ := s
    dsimp only at e1 e2 e3 e4 e5
    subst e1
    left
    show ∃ s', lb_X3_findEnds_12 147 1 (nI i) τ = some (.inl s') ∧ _
    have hr' : pl_RS τ 1 n B := hr.congr (fun c h1 h2 => e2 c (by omega))
    have key : ∀ kd : Int32, ∃ v8 v9, (if kd = 0 then jn_X3_findEnds_40 147 1 (nI i) kd (τ 147 8) 0 τ else jn_X3_findEnds_40 147 1 (nI i) kd (τ 147 8) 1 τ) = some (.inl (nI i + 1, hb_up (hb_up τ 147 8 v8) 147 9 v9)) ∧ v8 = ((τ 147 8) ||| ((if kd = 0 then (0 : Int32) else 1) <<< (nI i &&& 31))) ∧ v9 = ((τ 147 9) ||| ((if kd = 1 then (1 : Int32) else 0) <<< (nI i &&& 31))) := by
      intro kd
      refine ⟨_, _, ?_, rfl, rfl⟩
      unfold jn_X3_findEnds_40 jn_X3_findEnds_64
      simp only [hb_nm]
      have o0 : fn_X5_oneIf 0 = some 0 := rfl
      have o1 : fn_X5_oneIf 1 = some 1 := rfl
      by_cases h0 : kd = 0
      · rw [if_pos h0, if_pos h0, o0, Option.bind_some, if_neg (by rw [h0]; decide), if_neg (by rw [h0]; decide), Option.bind_some, pl_up_other (by decide)]
      · rw [if_neg h0, if_neg h0, o1, Option.bind_some, pl_up_other (by decide)]
        by_cases h1 : kd = 1
        · rw [if_pos h1, if_pos h1, Option.bind_some]
        · rw [if_neg h1, if_neg h1, o0, Option.bind_some]
    obtain ⟨v8, v9, key, hv8, hv9⟩ := key (if pl_m B i = 0 then (if B (1 + 13 * i) ≤ 0 then 2 else 1) else 0)
    unfold lb_X3_findEnds_12
    rw [e3 1 (by decide) (by decide), hn1, if_neg (by rw [nI_leI (by omega) (by omega)]; omega), pc_kind (by decide) h hr' hi, Option.bind_some, key]
    refine ⟨_, rfl, by rw [nI_1], fun c hc => ?_, fun j h1 h2 => ?_, ?_, ?_⟩
    · show hb_up (hb_up τ 147 8 v8) 147 9 v9 c = _
      rw [hb_up_ne hc, hb_up_ne hc]
      exact e2 c hc
    · show hb_up (hb_up τ 147 8 v8) 147 9 v9 147 j = _
      rw [pl_up_other h2, pl_up_other h1]
      exact e3 j h1 h2
    · show pc_bb (hb_up (hb_up τ 147 8 v8) 147 9 v9 147 8) _ _
      rw [pl_up_other (by decide), pl_up_same, hv8]
      have := pc_bb_s (by omega) e4
      unfold pe_end at this ⊢
      by_cases hm : pl_m B i = 0
      · rw [if_pos hm]
        rw [if_pos (decide_eq_true hm)] at this
        by_cases hh : B (1 + 13 * i) ≤ 0
        · rw [if_pos hh]; exact this
        · rw [if_neg hh]; exact this
      · rw [if_neg hm]
        rw [if_neg (by rw [decide_eq_false hm]; decide)] at this
        exact this
    · show pc_bb (hb_up (hb_up τ 147 8 v8) 147 9 v9 147 9) _ _
      rw [pl_up_same, hv9]
      have := pc_bb_s (by omega) e5
      unfold pe_hap at this ⊢
      by_cases hm : pl_m B i = 0
      · rw [if_pos hm]
        by_cases hh : B (1 + 13 * i) ≤ 0
        · rw [if_pos hh]
          rw [if_neg (by rw [decide_eq_false (fun hc => hc.2 hh)]; decide)] at this
          exact this
        · rw [if_neg hh]
          rw [if_pos (decide_eq_true ⟨hm, hh⟩)] at this
          exact this
      · rw [if_neg hm]
        rw [if_neg (by rw [decide_eq_false (fun hc => hm hc.1)]; decide)] at this
        exact this) (by
    intro s ⟨e1, e2, e3, e4, e5⟩
    obtain ⟨w1, τ⟩ := s
    dsimp only at e1 e2 e3 e4 e5
    subst e1
    show ∃ t, lb_X3_findEnds_12 147 1 (nI n) τ = some (.inr t) ∧ _
    unfold lb_X3_findEnds_12
    rw [e3 1 (by decide) (by decide), hn1, if_pos (by rw [nI_leI (by omega) (by omega)]; omega)]
    exact ⟨τ, rfl, e2, e3, e4, e5⟩) (by rw [pl_F]; omega)
  rw [g1, Option.bind_some]
  refine ⟨t, rfl, g2, g3, fun p hp => ?_, fun p hp => ?_⟩
  · rw [g4 p hp]
    unfold pe_end
    simp
  · rw [g5 p hp]
    unfold pe_hap
    simp
theorem pc_places_all {n : Nat} {B : Nat → Int32} {σ : hb_Mem} (h : pl_WB n B) (hr : pl_RS σ 1 n B) : ∃ σ', fn_X3_findPlaces 147 1 σ = some σ' ∧ pc_R σ' (pb_pl n B) ∧ pc_fp σ σ' := by
  by_cases h0 : n = 0
  · unfold pb_pl
    rw [if_pos h0]
    unfold fn_X3_findPlaces
    simp only [hb_nm]
    rw [pl_fill (r := hc_rf 147 4) (a := 151) (n := 1024) (by decide), Option.bind_some, if_pos]
    · refine ⟨_, rfl, ⟨?_, fun j x hj => by simp at hj, fun x hx => ?_, fun x hx => by simp at hx, fun x hx => by simp at hx⟩, fun c a1 a2 a3 a4 a5 a6 => ?_, fun j hj => ?_⟩
      · rw [pl_blk_ne (by decide), pl_up_same]; rfl
      · rw [pl_blk_eq hx]; simp
      · rw [pl_blk_ne a3, hb_up_ne a1]
      · rw [pl_blk_ne (by decide), pl_up_other hj]
    · rw [pl_blk_ne (by decide), pl_up_ne (by decide), hr.1, h0]; rfl
  · unfold pb_pl
    rw [if_neg h0]
    exact pc_places h (by omega) hr
theorem pc_make {n : Nat} {B : Nat → Int32} {σ : hb_Mem} (h : pl_WB n B) (hr : pl_RS σ 1 n B) : ∃ σ', fn_X3_make 147 1 σ = some σ' ∧ (∀ c, c < 147 → σ' c = σ c) ∧ σ' 147 0 = 1 ∧ pc_SV σ' n B (pb_pl n B) := by
  have hn := h.1
  obtain ⟨M, hMe⟩ : ∃ M, M = pb_pl n B := ⟨_, rfl⟩
  have hM : pb_good (pg_nx B) n M := by rw [hMe]; exact pb_pl_good h
  unfold fn_X3_make
  simp only [hb_nm]
  obtain ⟨s1, hs1⟩ : ∃ s, s = hb_up σ 147 1 (σ 1 0) := ⟨_, rfl⟩
  rw [← hs1]
  have hr1 : pl_RS s1 1 n B := hr.congr (fun c h1 h2 => by rw [hs1, hb_up_ne (by omega)])
  obtain ⟨s2, a1, a2, a3⟩ := pc_places_all h hr1
  rw [← hMe] at a2
  obtain ⟨b1, b2, b3, b4, b5⟩ := a2
  rw [a1, Option.bind_some]
  have hr2 : pl_RS s2 1 n B := hr1.congr (fun c h1 h2 => a3.1 c (by omega) (by omega) (by omega) (by omega) (by omega) (by omega))
  obtain ⟨s3, c1, c2, c3, c4⟩ := pc_ahead (l := M.1) h hr2 ⟨b1, b2, hM.2.1, fun x hx => hM.lt hx, fun x c z => hM.2.2 x c z⟩ b5
  rw [c1, Option.bind_some]
  have hr3 := pc_fa.RS c2 hr2
  have e147 : s3 147 = s2 147 := c2 147 (by decide)
  have hk1 : s3 147 1 = nI n := by
    rw [e147, a3.2 1 (by decide), hs1, pl_up_same]
    exact hr.1
  obtain ⟨s4, d1, d2, d3, d4⟩ := pc_ends h hr3 hk1
  rw [d1, Option.bind_some]
  have hR4 : pc_rows s4 M := by
    refine ⟨by rw [d3 2 (by decide) (by decide), e147]; exact b1, fun j x hj => ?_, fun x hx => ?_, fun x hx hd => ?_⟩
    · rw [d2 149 (by decide), c2 149 (by decide)]; exact b2 j x hj
    · rw [d2 151 (by decide), c2 151 (by decide)]; exact b3 x hx
    · rw [d2 153 (by decide), c2 153 (by decide), d2 155 (by decide), c2 155 (by decide)]; exact b4 x hx hd
  obtain ⟨s5, f1, f2, f3, f4⟩ := pc_findWay h hM hR4 d4.2
  rw [f1, Option.bind_some]
  have hup : ∀ c, c ≠ 147 → hb_up s5 147 0 1 c = s5 c := fun c hc => hb_up_ne hc
  have hup2 : ∀ j, j ≠ 0 → hb_up s5 147 0 1 147 j = s5 147 j := fun j hj => pl_up_other hj
  refine ⟨_, rfl, fun c hc => ?_, pl_up_same _ _ _ _, ?_, ?_, ?_, ?_, ?_, ?_⟩
  · rw [hup c (by omega), f2 c (by omega) (by omega), d2 c (by omega), c2 c (by omega), a3.1 c (by omega) (by omega) (by omega) (by omega) (by omega) (by omega), hs1, hb_up_ne (by omega)]
  · rw [hup2 1 (by decide), f3 1 (by decide), d3 1 (by decide) (by decide)]
    exact hk1
  · rw [← hMe]
    obtain ⟨r1, r2, r3, r4⟩ := hR4
    refine ⟨by rw [hup2 2 (by decide), f3 2 (by decide)]; exact r1, fun j x hj => ?_, fun x hx => ?_, fun x hx hd => ?_⟩
    · rw [hup 149 (by decide), f2 149 (by decide) (by decide)]; exact r2 j x hj
    · rw [hup 151 (by decide), f2 151 (by decide) (by decide)]; exact r3 x hx
    · rw [hup 153 (by decide), f2 153 (by decide) (by decide), hup 155 (by decide), f2 155 (by decide) (by decide)]; exact r4 x hx hd
  · rw [← hMe, hup 157 (by decide), f2 157 (by decide) (by decide), d2 157 (by decide)]
    exact c3
  · rw [← hMe, hup 157 (by decide), f2 157 (by decide) (by decide), d2 157 (by decide)]
    exact c4
  · exact ⟨fun p hp => by rw [hup2 8 (by decide), f3 8 (by decide)]; exact d4.1 p hp, fun p hp => by rw [hup2 9 (by decide), f3 9 (by decide)]; exact d4.2 p hp⟩
  · rw [← hMe]
    unfold pc_way at f4 ⊢
    cases hg : pw_goal B M with
    | none =>
      rw [hg] at f4
      show hb_up s5 147 0 1 147 10 = -1
      rw [hup2 10 (by decide)]
      exact f4
    | some g =>
      rw [hg] at f4
      show hb_up s5 147 0 1 147 10 = _ ∧ ∀ t, t ≤ M.2.1 g → hb_up s5 147 0 1 159 _ = _
      rw [hup2 10 (by decide), hup 159 (by decide)]
      exact f4
/-- the survey's flag and, where it is up, the survey -/
def pc_known (σ : hb_Mem) (n : Nat) (B : Nat → Int32) : Prop := σ 147 0 = 0 ∨ (σ 147 0 = 1 ∧ pc_SV σ n B (pb_pl n B))
theorem pc_surveyed {n : Nat} {B : Nat → Int32} {σ : hb_Mem} (h : pl_WB n B) (hr : pl_RS σ 1 n B) (hk : pc_known σ n B) : ∃ σ', fn_X5_surveyed 0 σ = some σ' ∧ (∀ c, c < 147 → σ' c = σ c) ∧ σ' 147 0 = 1 ∧ pc_SV σ' n B (pb_pl n B) := by
  unfold fn_X5_surveyed jn_X5_surveyed_21
  rw [show hc_rf 0 6 = 147 from by decide, show hc_rf 0 0 = 1 from by decide]
  rcases hk with hk | ⟨hk, hS⟩
  · obtain ⟨σ', k1, k2⟩ := pc_make h hr
    rw [if_pos hk, k1, Option.bind_some]
    exact ⟨σ', rfl, k2⟩
  · rw [if_neg (by rw [hk]; decide)]
    exact ⟨σ, rfl, fun _ _ => rfl, hk, hS⟩

