/-! the reference: does a page come again -/
theorem pb_add_iff (M : pb_M) (q d f b x : Nat) : x ∈ (pb_add M q d f b).1 ↔ x ∈ M.1 ∨ x = q := by
  unfold pb_add
  split
  · rename_i h
    constructor
    · exact fun hx => Or.inl hx
    · rintro (hx | hx)
      · exact hx
      · exact hx ▸ h
  · simp
theorem pb_fin_iff {nx : Nat → Nat → Option Nat} {N : Nat} {S F : pb_M} (hN2 : N ≤ 1024) (hF : pb_ok nx N S.1 1024 F) (hc : ∀ x c z, x ∈ F.1 → c < 3 → nx x c = some z → z ∈ F.1) (x : Nat) : x ∈ F.1 ↔ ∃ s k, s ∈ S.1 ∧ pb_pa nx k s x := by
  constructor
  · intro hx
    obtain ⟨s, h1, h2⟩ := hF.2.2.2.2.2.2.2.2 x hx
    exact ⟨s, _, h1, h2⟩
  · rintro ⟨s, k, h1, h2⟩
    obtain ⟨l, hl⟩ := hF.2.2.1
    exact pb_closed hc k s x (by rw [hl]; exact List.mem_append_left _ h1) h2
/-- the starts so far -/
def ps_I (nx : Nat → Nat → Option Nat) (N : Nat) (M : pb_M) (p i c : Nat) (S : pb_M) : Prop := pb_ok nx N S.1 0 S ∧ (∀ x, x ∈ S.1 → S.2.1 x = 0) ∧ ∀ x, x ∈ S.1 ↔ ∃ f k, (f < i ∨ f = i ∧ k < c) ∧ k < 3 ∧ 32 * p + f ∈ M.1 ∧ nx (32 * p + f) k = some x
theorem ps_next {nx : Nat → Nat → Option Nat} {N : Nat} {M : pb_M} {p i : Nat} {S : pb_M} (h : ps_I nx N M p i 3 S) : ps_I nx N M p (i + 1) 0 S := by
  refine ⟨h.1, h.2.1, fun x => ?_⟩
  rw [h.2.2 x]
  constructor
  · rintro ⟨f, k, h1, h2⟩
    exact ⟨f, k, by omega, h2⟩
  · rintro ⟨f, k, h1, h2⟩
    exact ⟨f, k, by omega, h2⟩
theorem ps_skip {nx : Nat → Nat → Option Nat} {N : Nat} {M : pb_M} {p i c : Nat} {S : pb_M} (h : ps_I nx N M p i c S) (hno : 32 * p + i ∈ M.1 → nx (32 * p + i) c = none) : ps_I nx N M p i (c + 1) S := by
  refine ⟨h.1, h.2.1, fun x => ?_⟩
  rw [h.2.2 x]
  constructor
  · rintro ⟨f, k, h1, h2⟩
    exact ⟨f, k, by omega, h2⟩
  · rintro ⟨f, k, h1, h2, h3, h4⟩
    by_cases e : f = i ∧ k = c
    · rw [e.1] at h3 h4
      rw [e.2, hno h3] at h4
      cases h4
    · exact ⟨f, k, by omega, h2, h3, h4⟩
theorem ps_add {nx : Nat → Nat → Option Nat} {N : Nat} {M : pb_M} {p i c z : Nat} {S : pb_M} (h : ps_I nx N M p i c S) (hc : c < 3) (hm : 32 * p + i ∈ M.1) (hz : nx (32 * p + i) c = some z) (hzN : z < N) : ps_I nx N M p i (c + 1) (pb_add S z 0 0 0) := by
  obtain ⟨a1, a2⟩ := pb_add_ok (f := 0) (b := 0) h.1 h.2.1 hzN
  refine ⟨a1, a2, fun x => ?_⟩
  rw [pb_add_iff, h.2.2 x]
  constructor
  · rintro (⟨f, k, h1, h2⟩ | rfl)
    · exact ⟨f, k, by omega, h2⟩
    · exact ⟨i, c, by omega, hc, hm, hz⟩
  · rintro ⟨f, k, h1, h2, h3, h4⟩
    by_cases e : f = i ∧ k = c
    · right
      rw [e.1, e.2, hz] at h4
      exact (Option.some.inj h4).symm
    · left
      exact ⟨f, k, by omega, h2, h3, h4⟩
theorem pm_starts_in {n : Nat} {B : Nat → Int32} {M S : pb_M} {μ : hb_Mem} (h : pl_WB n B) (hB : μ 1 = B) (hM : pb_good (pg_nx B) n M) (h9 : ∀ x, x < 1024 → μ 9 x = if x ∈ M.1 then 1 else 0) {p i : Nat} (hp : p < 32) (hi : i < 32) (hR : pm_R μ S) (hS : ps_I (pg_nx B) (32 * n) M p i 0 S) : ∃ μ' S', ll_X6_comesAgain_14 0 (nI p) (nI i) (0, μ) = some μ' ∧ pm_R μ' S' ∧ ps_I (pg_nx B) (32 * n) M p i 3 S' ∧ pm_fp μ μ' := by
  have hn := h.1
  unfold ll_X6_comesAgain_14
  obtain ⟨t, g1, S', g2, g3, g4⟩ := pl_inv (f := fun s => lb_X6_comesAgain_14 0 (nI p) (nI i) s.1 s.2) (s := ((0 : Int32), μ)) 3 (fun c s => s.1 = nI c ∧ ∃ S', pm_R s.2 S' ∧ ps_I (pg_nx B) (32 * n) M p i c S' ∧ pm_fp μ s.2) (fun t => ∃ S', pm_R t S' ∧ ps_I (pg_nx B) (32 * n) M p i 3 S' ∧ pm_fp μ t) ⟨rfl, S, hR, hS, pm_fp.rf μ⟩ (by
    intro c s hc ⟨e1, S', e2, e3, e4⟩
    obtain ⟨s1, τ⟩ := s
    dsimp only at e1 e2 e3 e4
    subst e1
    left
    have hB' : τ 1 = B := e4.s.trans hB
    have hW : pl_WB n (τ 1) := by rw [hB']; exact h
    show ∃ s', lb_X6_comesAgain_14 0 (nI p) (nI i) (nI c) τ = some (.inl s') ∧ _
    unfold lb_X6_comesAgain_14 jn_X6_comesAgain_50 jn_X6_comesAgain_70
    simp only [hb_nm, nI_1]
    have e9 : τ (hm_rf 0 12) (32 * p + i) = if 32 * p + i ∈ M.1 then 1 else 0 := by
      show τ 9 (32 * p + i) = _
      rw [e4.1 9 (by decide) (by decide) (by decide) (by decide) (by decide)]
      exact h9 _ (by omega)
    rw [if_neg (by show ¬ nI 3 ≤ nI c; rw [nI_leI (by omega) (by omega)]; omega), pl_place', pm_ld (a := hm_rf 0 12) (n := 1024) (by decide) (by omega) (by decide), Option.bind_some, e9]
    by_cases hm : 32 * p + i ∈ M.1
    · have hql := hM.lt hm
      rw [if_pos hm, if_pos rfl, pm_behind hW hql hc, Option.bind_some, hB']
      cases hz : pg_nx B (32 * p + i) c with
      | none =>
        dsimp only
        rw [if_pos rfl]
        exact ⟨_, rfl, rfl, S', e2, ps_skip e3 (fun _ => hz), e4⟩
      | some z =>
        dsimp only
        have hzl := pg_nx_lt h hql hz
        obtain ⟨τ', f1, f2, f3⟩ := pm_add (q := z) (d := 0) (f := 0) (b := 0) (p3 := -5) (p4 := -5) e2 (fun x hx => by rw [e3.2.1 x hx]; decide) (by omega) (fun hm => e3.1.new (by omega) hzl hm) (fun h0 => by omega)
        rw [if_neg (pl_ne_neg (by omega) (by decide)), show (0 : Int32) = nI 0 from rfl, f1, Option.bind_some]
        exact ⟨_, rfl, rfl, _, f2, ps_add e3 hc hm hz hzl, e4.tr f3⟩
    · rw [if_neg hm, if_neg (by decide), if_pos trivial]
      exact ⟨_, rfl, rfl, S', e2, ps_skip e3 (fun hc => absurd hc hm), e4⟩) (by
    intro s ⟨e1, S', e2, e3, e4⟩
    obtain ⟨s1, τ⟩ := s
    dsimp only at e1 e2 e3 e4
    subst e1
    show ∃ t, lb_X6_comesAgain_14 0 (nI p) (nI i) (nI 3) τ = some (.inr t) ∧ _
    unfold lb_X6_comesAgain_14
    rw [if_pos (by show nI 3 ≤ nI 3; exact Int32.le_refl _)]
    exact ⟨τ, rfl, S', e2, e3, e4⟩) (by rw [pl_F]; omega)
  exact ⟨t, S', g1, g2, g3, g4⟩
theorem pm_again {n : Nat} {B : Nat → Int32} {M : pb_M} {μ : hb_Mem} (h : pl_WB n B) (hB : μ 1 = B) (hM : pb_good (pg_nx B) n M) (h9 : ∀ x, x < 1024 → μ 9 x = if x ∈ M.1 then 1 else 0) {p : Nat} (hp : p < 32) : ∃ μ', fn_X6_comesAgain 0 (nI p) μ = some (if sp_again (pg_nx B) M p = true then 1 else 0, μ') ∧ pm_fp μ μ' := by
  have hn := h.1
  have hN : ∀ x c z, x < 32 * n → pg_nx B x c = some z → z < 32 * n := fun x c z hx hz => pg_nx_lt h hx hz
  obtain ⟨μ1, f1, f2, f3⟩ := pm_forgets μ
  unfold fn_X6_comesAgain
  rw [f1, Option.bind_some]
  unfold ll_X6_comesAgain_6
  obtain ⟨t, g1, S, g2, g3, g4⟩ := pl_inv (f := fun s => lb_X6_comesAgain_6 0 (nI p) s.1 s.2) (s := ((0 : Int32), μ1)) 32 (fun i s => s.1 = nI i ∧ ∃ S, pm_R s.2 S ∧ ps_I (pg_nx B) (32 * n) M p i 0 S ∧ pm_fp μ s.2) (fun t => ∃ S, pm_R t S ∧ ps_I (pg_nx B) (32 * n) M p 32 0 S ∧ pm_fp μ t) ⟨rfl, _, f2, ⟨pb_nil_ok _ _ _, fun x hx => by simp at hx, fun x => ⟨fun hx => by simp at hx, fun ⟨f, k, hf, _⟩ => by omega⟩⟩, f3⟩ (by
    intro i s hi ⟨e1, S, e2, e3, e4⟩
    obtain ⟨s1, τ⟩ := s
    dsimp only at e1 e2 e3 e4
    subst e1
    left
    show ∃ s', lb_X6_comesAgain_6 0 (nI p) (nI i) τ = some (.inl s') ∧ _
    unfold lb_X6_comesAgain_6
    obtain ⟨τ', S', k1, k2, k3, k4⟩ := pm_starts_in h (e4.s.trans hB) hM (fun x hx => by rw [e4.1 9 (by decide) (by decide) (by decide) (by decide) (by decide)]; exact h9 x hx) hp hi e2 e3
    rw [if_neg (by show ¬ nI 31 < nI i; rw [nI_ltI (by omega) (by omega)]; omega), k1, Option.bind_some]
    simp only [hb_nm, nI_1]
    exact ⟨_, rfl, rfl, S', k2, ps_next k3, e4.tr k4⟩) (by
    intro s ⟨e1, S, e2, e3, e4⟩
    obtain ⟨s1, τ⟩ := s
    dsimp only at e1 e2 e3 e4
    subst e1
    exact ⟨τ, rfl, S, e2, e3, e4⟩) (by rw [pl_F]; omega)
  rw [g1, Option.bind_some]
  obtain ⟨μ3, k1, k2, k3⟩ := pm_spreads h (g4.s.trans hB) g3.1 g2
  have hfin := pb_fin_ok hN (by omega) g3.1
  obtain ⟨F, hF⟩ : ∃ F, F = pb_fin (pg_nx B) S := ⟨_, rfl⟩
  rw [← hF] at hfin k2
  obtain ⟨o1, o2, o3⟩ := hfin
  have hiff := pb_fin_iff (S := S) (by omega) o1 o3
  have hdF := o1.lt (by omega)
  rw [k1, Option.bind_some]
  unfold ll_X6_comesAgain_90
  rw [pl_any2 (f := fun s => lb_X6_comesAgain_90 0 (nI p) s.1 s.2 μ3) 32 (fun f => decide (32 * p + f ∈ F.1)), Option.bind_some]
  · have hany : (List.range 32).any (fun f => decide (32 * p + f ∈ F.1)) = sp_again (pg_nx B) M p := by
      apply Bool.eq_iff_iff.mpr
      unfold sp_again
      rw [List.any_eq_true, List.any_eq_true]
      constructor
      · rintro ⟨f, h1, h2⟩
        obtain ⟨s, k, a1, a2⟩ := (hiff _).mp (of_decide_eq_true h2)
        obtain ⟨f0, c, b1, b2, b3, b4⟩ := (g3.2.2 s).mp a1
        refine ⟨f0, List.mem_range.mpr (by omega), cd_iff.mpr ⟨b3, k, 32 * p + f, ⟨c, s, b2, b4, a2⟩, ?_⟩⟩
        have := List.mem_range.mp h1
        omega
      · rintro ⟨f, h1, h2⟩
        obtain ⟨b3, k, z, ⟨c, s, b2, b4, a2⟩, hz⟩ := cd_iff.mp h2
        have h1 := List.mem_range.mp h1
        refine ⟨z % 32, List.mem_range.mpr (by omega), decide_eq_true ?_⟩
        rw [show 32 * p + z % 32 = z by omega]
        exact (hiff z).mpr ⟨s, k, (g3.2.2 s).mpr ⟨f, c, by omega, b2, b3, b4⟩, a2⟩
    rw [hany]
    refine ⟨μ3, ?_, g4.tr k3⟩
    split <;> rfl
  · intro f b hf
    show lb_X6_comesAgain_90 0 (nI p) (if b = true then 1 else 0) (nI f) μ3 = _
    unfold lb_X6_comesAgain_90 jn_X6_comesAgain_117 jn_X6_comesAgain_122
    simp only [hb_nm]
    rw [if_neg (by show ¬ nI 31 < nI f; rw [nI_ltI (by omega) (by omega)]; omega)]
    cases b with
    | true =>
      rw [if_pos rfl, if_neg (by decide), Bool.true_or, if_pos rfl]
    | false =>
      rw [Bool.false_or, if_pos (by decide : (if false = true then (1 : Int32) else 0) = 0), pm_look k2 hp hf, Option.bind_some]
      by_cases hm : 32 * p + f ∈ F.1
      · rw [if_neg (fun hc => (pm_rd_9 hdF _).mp hc hm), if_pos (decide_eq_true hm)]
      · rw [if_pos ((pm_rd_9 hdF _).mpr hm), if_neg (by rw [decide_eq_false hm]; decide)]
  · intro a
    rfl
  · rw [pl_F]; omega
