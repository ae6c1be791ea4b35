/-! exchange, the class's side -/
theorem pc_rswap {r a n i j : Nat} (h : pl_row r a n) (hi : i < n) (hj : j < n) (σ : hb_Mem) : ∃ σ', fn_X1_swap r (nI i) (nI j) σ = some σ' ∧ (∀ c, c ≠ a → σ' c = σ c) ∧ ∀ x, σ' a x = σ a (pgm i j x) := by
  unfold fn_X1_swap
  rw [pl_at h hi, Option.bind_some, pl_at h hj, Option.bind_some, pl_put h hi, Option.bind_some, pl_put h hj, Option.bind_some]
  refine ⟨_, rfl, fun c hc => by rw [hb_up_ne hc, hb_up_ne hc], fun x => ?_⟩
  unfold pgm
  by_cases h2 : x = j
  · rw [h2, pl_up_same]
    by_cases h1 : j = i
    · rw [if_pos h1, h1]
    · rw [if_neg h1, if_pos rfl]
  · rw [pl_up_other h2]
    by_cases h1 : x = i
    · rw [if_pos h1, h1, pl_up_same]
    · rw [if_neg h1, if_neg h2, pl_up_other h1]
def sl (p q i x : Nat) : Nat := if 3 * p ≤ x ∧ x < 3 * p + i then x - 3 * p + 3 * q else if 3 * q ≤ x ∧ x < 3 * q + i then x - 3 * q + 3 * p else x
theorem sl_step {p q i : Nat} (hne : p ≠ q) (hi : i < 3) (x : Nat) : sl p q i (pgm (3 * p + i) (3 * q + i) x) = sl p q (i + 1) x := by
  unfold sl pgm
  by_cases h1 : x = 3 * p + i
  · rw [if_pos h1]
    have k1 : ¬ (3 * p ≤ 3 * q + i ∧ 3 * q + i < 3 * p + i) := by omega
    have k2 : ¬ (3 * q ≤ 3 * q + i ∧ 3 * q + i < 3 * q + i) := by omega
    have k3 : 3 * p ≤ x ∧ x < 3 * p + (i + 1) := by omega
    rw [if_neg k1, if_neg k2, if_pos k3]
    omega
  · rw [if_neg h1]
    by_cases h2 : x = 3 * q + i
    · rw [if_pos h2]
      have k1 : ¬ (3 * p ≤ 3 * p + i ∧ 3 * p + i < 3 * p + i) := by omega
      have k2 : ¬ (3 * q ≤ 3 * p + i ∧ 3 * p + i < 3 * q + i) := by omega
      have k3 : ¬ (3 * p ≤ x ∧ x < 3 * p + (i + 1)) := by omega
      have k4 : 3 * q ≤ x ∧ x < 3 * q + (i + 1) := by omega
      rw [if_neg k1, if_neg k2, if_neg k3, if_pos k4]
      omega
    · rw [if_neg h2]
      by_cases k1 : 3 * p ≤ x ∧ x < 3 * p + i
      · have k3 : 3 * p ≤ x ∧ x < 3 * p + (i + 1) := by omega
        rw [if_pos k1, if_pos k3]
      · have k3 : ¬ (3 * p ≤ x ∧ x < 3 * p + (i + 1)) := by omega
        rw [if_neg k1, if_neg k3]
        by_cases k2 : 3 * q ≤ x ∧ x < 3 * q + i
        · have k4 : 3 * q ≤ x ∧ x < 3 * q + (i + 1) := by omega
          rw [if_pos k2, if_pos k4]
        · have k4 : ¬ (3 * q ≤ x ∧ x < 3 * q + (i + 1)) := by omega
          rw [if_neg k2, if_neg k4]
theorem sl_slot {p q r c : Nat} (hc : c < 3) : sl p q 3 (3 * r + c) = 3 * pgm p q r + c := by
  unfold sl pgm
  by_cases h1 : r = p
  · have k : 3 * p ≤ 3 * r + c ∧ 3 * r + c < 3 * p + 3 := by omega
    rw [if_pos k, if_pos h1]
    omega
  · have k : ¬ (3 * p ≤ 3 * r + c ∧ 3 * r + c < 3 * p + 3) := by omega
    rw [if_neg k, if_neg h1]
    by_cases h2 : r = q
    · have k2 : 3 * q ≤ 3 * r + c ∧ 3 * r + c < 3 * q + 3 := by omega
      rw [if_pos k2, if_pos h2]
      omega
    · have k2 : ¬ (3 * q ≤ 3 * r + c ∧ 3 * r + c < 3 * q + 3) := by omega
      rw [if_neg k2, if_neg h2]
theorem pc_sw38 {p q : Nat} (hp : p < 32) (hq : q < 32) (hne : p ≠ q) (σ : hb_Mem) : ∃ t, ll_X2_swapPages_38 1 (nI p) (nI q) (0, σ) = some t ∧ (∀ k, k ≠ 11 → k ≠ 13 → k ≠ 15 → t k = σ k) ∧ ∀ k, (k = 11 ∨ k = 13 ∨ k = 15) → ∀ x, t k x = σ k (sl p q 3 x) := by
  unfold ll_X2_swapPages_38
  refine pl_inv (f := fun s => lb_X2_swapPages_38 1 (nI p) (nI q) s.1 s.2) (s := ((0 : Int32), σ)) 3 (fun i s => s.1 = nI i ∧ (∀ k, k ≠ 11 → k ≠ 13 → k ≠ 15 → s.2 k = σ k) ∧ ∀ k, (k = 11 ∨ k = 13 ∨ k = 15) → ∀ x, s.2 k x = σ k (sl p q i x)) _ ⟨rfl, fun _ _ _ _ => rfl, fun k _ x => ?_⟩ ?_ ?_ (by rw [pl_F]; omega)
  · unfold sl
    rw [if_neg (by omega), if_neg (by omega)]
  · intro i s hi ⟨e1, e2, e3⟩
    obtain ⟨w, τ⟩ := s
    dsimp only at e1 e2 e3
    subst e1
    left
    show ∃ s', lb_X2_swapPages_38 1 (nI p) (nI q) (nI i) τ = some (.inl s') ∧ _
    obtain ⟨τ1, f1, g1, h1⟩ := pc_rswap (r := hc_rf 1 5) (a := 11) (n := 96) (by decide) (show 3 * p + i < 96 by omega) (show 3 * q + i < 96 by omega) τ
    obtain ⟨τ2, f2, g2, h2⟩ := pc_rswap (r := hc_rf 1 6) (a := 13) (n := 96) (by decide) (show 3 * p + i < 96 by omega) (show 3 * q + i < 96 by omega) τ1
    obtain ⟨τ3, f3, g3, h3⟩ := pc_rswap (r := hc_rf 1 7) (a := 15) (n := 96) (by decide) (show 3 * p + i < 96 by omega) (show 3 * q + i < 96 by omega) τ2
    unfold lb_X2_swapPages_38
    rw [if_neg (by show ¬ nI 3 ≤ nI i; rw [nI_leI (by omega) (by omega)]; omega), pc_slot, Option.bind_some, pc_slot, Option.bind_some, f1, Option.bind_some, f2, Option.bind_some, f3, Option.bind_some]
    simp only [hb_nm, nI_1]
    refine ⟨_, rfl, rfl, fun k k1 k2 k3 => ?_, fun k hk x => ?_⟩
    · show τ3 k = _
      rw [g3 k k3, g2 k k2, g1 k k1]
      exact e2 k k1 k2 k3
    · show τ3 k x = _
      rw [← sl_step hne hi]
      rcases hk with rfl | rfl | rfl
      · rw [g3 11 (by decide), g2 11 (by decide), h1]
        exact e3 11 (by omega) _
      · rw [g3 13 (by decide), h2, g1 13 (by decide)]
        exact e3 13 (by omega) _
      · rw [h3, g2 15 (by decide), g1 15 (by decide)]
        exact e3 15 (by omega) _
  · intro s ⟨e1, e2, e3⟩
    obtain ⟨w, τ⟩ := s
    dsimp only at e1 e2 e3
    subst e1
    exact ⟨τ, rfl, e2, e3⟩
theorem pc_sw98 {p q : Nat} (σ : hb_Mem) : ∃ t, ll_X2_swapPages_98 1 (nI p) (nI q) (0, σ) = some t ∧ (∀ k, k ≠ 11 → t k = σ k) ∧ ∀ x, x < 96 → t 11 x = ot p q (σ 11 x) := by
  unfold ll_X2_swapPages_98
  refine pl_inv (f := fun s => lb_X2_swapPages_98 1 (nI p) (nI q) s.1 s.2) (s := ((0 : Int32), σ)) 96 (fun i s => s.1 = nI i ∧ (∀ k, k ≠ 11 → s.2 k = σ k) ∧ ∀ x, s.2 11 x = if x < i then ot p q (σ 11 x) else σ 11 x) _ ⟨rfl, fun _ _ => rfl, fun x => by rw [if_neg (by omega)]⟩ ?_ ?_ (by rw [pl_F]; omega)
  · intro i s hi ⟨e1, e2, e3⟩
    obtain ⟨w, τ⟩ := s
    dsimp only at e1 e2 e3
    subst e1
    left
    show ∃ s', lb_X2_swapPages_98 1 (nI p) (nI q) (nI i) τ = some (.inl s') ∧ _
    have ei : τ 11 i = σ 11 i := by rw [e3, if_neg (by omega)]
    unfold lb_X2_swapPages_98
    rw [if_neg (by show ¬ nI 96 ≤ nI i; rw [nI_leI (by omega) (by omega)]; omega), pl_at (r := hc_rf 1 5) (a := 11) (n := 96) (by decide) hi, Option.bind_some, pc_other, Option.bind_some, pl_put (r := hc_rf 1 5) (a := 11) (n := 96) (by decide) hi, Option.bind_some, ei]
    simp only [hb_nm, nI_1]
    refine ⟨_, rfl, rfl, fun k hk => ?_, fun x => ?_⟩
    · show hb_up τ 11 _ _ k = _
      rw [hb_up_ne hk]
      exact e2 k hk
    · show hb_up τ 11 i (ot p q (σ 11 i)) 11 x = _
      by_cases e : x = i
      · rw [e, pl_up_same, if_pos (by omega)]
      · rw [pl_up_other e, e3]
        by_cases k : x < i
        · rw [if_pos k, if_pos (by omega)]
        · rw [if_neg k, if_neg (by omega)]
  · intro s ⟨e1, e2, e3⟩
    obtain ⟨w, τ⟩ := s
    dsimp only at e1 e2 e3
    subst e1
    exact ⟨τ, rfl, e2, fun x hx => by rw [e3, if_pos hx]⟩
theorem pc_moved {n p q : Nat} {a f : Int32} (hn : n ≤ 32) (hp : p < n) (hq : q < n) (h : pl_WR n a f) : fn_X2_moved (pl_plc a f) (nI p) (nI q) = some (pl_plc (ot p q a) f) := by
  unfold fn_X2_moved
  rcases sp_plc h with ⟨h5, e⟩ | ⟨r, g, hr, hg, ha, hf, e⟩
  · rw [e, if_pos rfl]
    have : ot p q a = -5 := by
      rw [h5]
      unfold ot
      rw [if_neg (fun hc => pl_ne_neg (c := -5) (by omega) (by decide) hc.symm), if_neg (fun hc => pl_ne_neg (c := -5) (by omega) (by decide) hc.symm)]
    rw [this]
    unfold pl_plc
    rw [if_pos rfl]
  · rw [e, if_neg (pl_ne_neg (by omega) (by decide)), pc_page (by omega), Option.bind_some, pc_other, Option.bind_some, pc_flags (by omega), Option.bind_some, ha, hf, show (32 * r + g) / 32 = r by omega, show (32 * r + g) % 32 = g by omega, ot_nI (by omega) (by omega) (by omega)]
    unfold fn_X5_placeOf pl_plc
    rw [if_neg (pl_ne_neg (by have := pgm_lt hp hq hr; omega) (by decide)), pl_place]
    rfl
theorem pc_sw133 {n p q : Nat} {B : Nat → Int32} (hn : n ≤ 32) (hp : p < n) (hq : q < n) (hB : ∀ r, r < 2 → pl_WR n (B (417 + 3 * r)) (B (418 + 3 * r))) {σ : hb_Mem} (hσ : ∀ r, r < 2 → σ 17 r = pl_plc (B (417 + 3 * r)) (B (418 + 3 * r))) : ∃ t, ll_X2_swapPages_133 1 (nI p) (nI q) (0, σ) = some t ∧ (∀ k, k ≠ 17 → t k = σ k) ∧ ∀ r, r < 2 → t 17 r = pl_plc (ot p q (B (417 + 3 * r))) (B (418 + 3 * r)) := by
  unfold ll_X2_swapPages_133
  refine pl_inv (f := fun s => lb_X2_swapPages_133 1 (nI p) (nI q) s.1 s.2) (s := ((0 : Int32), σ)) 2 (fun i s => s.1 = nI i ∧ (∀ k, k ≠ 17 → s.2 k = σ k) ∧ ∀ x, s.2 17 x = if x < i then pl_plc (ot p q (B (417 + 3 * x))) (B (418 + 3 * x)) else σ 17 x) _ ⟨rfl, fun _ _ => rfl, fun x => by rw [if_neg (by omega)]⟩ ?_ ?_ (by rw [pl_F]; omega)
  · intro i s hi ⟨e1, e2, e3⟩
    obtain ⟨w, τ⟩ := s
    dsimp only at e1 e2 e3
    subst e1
    left
    show ∃ s', lb_X2_swapPages_133 1 (nI p) (nI q) (nI i) τ = some (.inl s') ∧ _
    have ei : τ 17 i = pl_plc (B (417 + 3 * i)) (B (418 + 3 * i)) := by rw [e3, if_neg (by omega)]; exact hσ i hi
    unfold lb_X2_swapPages_133
    rw [if_neg (by show ¬ nI 2 ≤ nI i; rw [nI_leI (by omega) (by omega)]; omega), pl_at (r := hc_rf 1 8) (a := 17) (n := 2) (by decide) hi, Option.bind_some, ei, pc_moved hn hp hq (hB i hi), Option.bind_some, pl_put (r := hc_rf 1 8) (a := 17) (n := 2) (by decide) hi, Option.bind_some]
    simp only [hb_nm, nI_1]
    refine ⟨_, rfl, rfl, fun k hk => ?_, fun x => ?_⟩
    · show hb_up τ 17 _ _ k = _
      rw [hb_up_ne hk]
      exact e2 k hk
    · show hb_up τ 17 i (pl_plc (ot p q (B (417 + 3 * i))) (B (418 + 3 * i))) 17 x = _
      by_cases e : x = i
      · rw [e, pl_up_same, if_pos (by omega)]
      · rw [pl_up_other e, e3]
        by_cases k : x < i
        · rw [if_pos k, if_pos (by omega)]
        · rw [if_neg k, if_neg (by omega)]
  · intro s ⟨e1, e2, e3⟩
    obtain ⟨w, τ⟩ := s
    dsimp only at e1 e2 e3
    subst e1
    exact ⟨τ, rfl, e2, fun x hx => by rw [e3, if_pos hx]⟩
theorem pc_exch {n p q : Nat} {B X : Nat → Int32} {σ : hb_Mem} (h : pl_WB n B) (hr : pl_RS σ 1 n B) (hp : p < n) (hq : q < n) (hne : p ≠ q) (hX : sX B X n p q) : ∃ σ', fn_X2_swapPages 1 (nI p) (nI q) σ = some σ' ∧ (∀ c, (c < 1 ∨ 20 ≤ c) → σ' c = σ c) ∧ pl_RS σ' 1 n X := by
  have hn := h.1
  obtain ⟨x1, f1, g1, h1⟩ := pc_rswap (r := hc_rf 1 1) (a := 3) (n := 32) (by decide) (show p < 32 by omega) (show q < 32 by omega) σ
  obtain ⟨x2, f2, g2, h2⟩ := pc_rswap (r := hc_rf 1 2) (a := 5) (n := 32) (by decide) (show p < 32 by omega) (show q < 32 by omega) x1
  obtain ⟨x3, f3, g3, h3⟩ := pc_rswap (r := hc_rf 1 3) (a := 7) (n := 32) (by decide) (show p < 32 by omega) (show q < 32 by omega) x2
  obtain ⟨x4, f4, g4, h4⟩ := pc_rswap (r := hc_rf 1 4) (a := 9) (n := 32) (by decide) (show p < 32 by omega) (show q < 32 by omega) x3
  obtain ⟨x5, f5, g5, h5⟩ := pc_sw38 (show p < 32 by omega) (show q < 32 by omega) hne x4
  obtain ⟨x6, f6, g6, h6⟩ := pc_sw98 (p := p) (q := q) x5
  obtain ⟨c1, c2, c3, c4⟩ := hr
  have e17 : ∀ k, k ≠ 3 → k ≠ 5 → k ≠ 7 → k ≠ 9 → k ≠ 11 → k ≠ 13 → k ≠ 15 → x6 k = σ k := fun k k1 k2 k3 k4 k5 k6 k7 => by
    rw [g6 k k5, g5 k k5 k6 k7, g4 k k4, g3 k k3, g2 k k2, g1 k k1]
  obtain ⟨x7, f7, g7, h7⟩ := pc_sw133 (B := B) hn hp hq h.2.2.2.1 (σ := x6) (fun r hr => by rw [e17 17 (by decide) (by decide) (by decide) (by decide) (by decide) (by decide) (by decide)]; exact (c3 r hr).1)
  have e10 : x7 1 10 = pl_plc (B 423) (B 424) := by
    rw [g7 1 (by decide), e17 1 (by decide) (by decide) (by decide) (by decide) (by decide) (by decide) (by decide)]
    exact c4
  unfold fn_X2_swapPages
  rw [f1, Option.bind_some, f2, Option.bind_some, f3, Option.bind_some, f4, Option.bind_some, f5, Option.bind_some, f6, Option.bind_some, f7, Option.bind_some, e10, pc_moved hn hp hq h.2.2.2.2, Option.bind_some]
  simp only [hb_nm]
  refine ⟨_, rfl, fun c hc => by rw [hb_up_ne (by omega), g7 c (by omega)]; exact e17 c (by omega) (by omega) (by omega) (by omega) (by omega) (by omega) (by omega), ?_⟩
  obtain ⟨y0, y1, y2, y3, y4⟩ := hX
  have o : ∀ k, k ≠ 1 → k ≠ 17 → hb_up x7 1 10 (pl_plc (ot p q (B 423)) (B 424)) k = x6 k := fun k k1 k2 => by rw [hb_up_ne k1, g7 k k2]
  refine ⟨?_, fun r hr => ?_, fun r hr => ?_, ?_⟩
  · rw [pl_up_other (by decide), g7 1 (by decide), e17 1 (by decide) (by decide) (by decide) (by decide) (by decide) (by decide) (by decide)]
    exact c1
  · obtain ⟨d1, d2, d3, d4, d5⟩ := c2 (pgm p q r) (pgm_lt hp hq hr)
    obtain ⟨z0, z1, z2, z3, z4, z5⟩ := y1 r hr
    have hm3 := (h.m (pgm_lt hp hq hr)).1
    refine ⟨?_, ?_, ?_, ?_, fun c hc => ?_⟩
    · show hb_up x7 1 10 _ 3 r = _
      rw [o 3 (by decide) (by decide), g6 3 (by decide), g5 3 (by decide) (by decide) (by decide), g4 3 (by decide), g3 3 (by decide), g2 3 (by decide), h1, z1]
      exact d1
    · show hb_up x7 1 10 _ 5 r = _
      rw [o 5 (by decide) (by decide), g6 5 (by decide), g5 5 (by decide) (by decide) (by decide), g4 5 (by decide), g3 5 (by decide), h2, g1 5 (by decide), z2]
      exact d2
    · show hb_up x7 1 10 _ 7 r = _
      rw [o 7 (by decide) (by decide), g6 7 (by decide), g5 7 (by decide) (by decide) (by decide), g4 7 (by decide), h3, g2 7 (by decide), g1 7 (by decide), z3]
      exact d3
    · show hb_up x7 1 10 _ 9 r = _
      rw [o 9 (by decide) (by decide), g6 9 (by decide), g5 9 (by decide) (by decide) (by decide), h4, g3 9 (by decide), g2 9 (by decide), g1 9 (by decide), z4]
      exact d4
    · rw [z0] at hc
      obtain ⟨w1, w2, w3⟩ := d5 c hc
      obtain ⟨v1, v2, v3⟩ := z5 c hc
      refine ⟨?_, ?_, ?_⟩
      · show hb_up x7 1 10 _ 11 (3 * r + c) = _
        rw [o 11 (by decide) (by decide), h6 _ (by omega), h5 11 (by omega), sl_slot (by omega), g4 11 (by decide), g3 11 (by decide), g2 11 (by decide), g1 11 (by decide), v1]
        exact congrArg (ot p q) w1
      · show hb_up x7 1 10 _ 13 (3 * r + c) = _
        rw [o 13 (by decide) (by decide), g6 13 (by decide), h5 13 (by omega), sl_slot (by omega), g4 13 (by decide), g3 13 (by decide), g2 13 (by decide), g1 13 (by decide), v2]
        exact w2
      · show hb_up x7 1 10 _ 15 (3 * r + c) = _
        rw [o 15 (by decide) (by decide), g6 15 (by decide), h5 15 (by omega), sl_slot (by omega), g4 15 (by decide), g3 15 (by decide), g2 15 (by decide), g1 15 (by decide), v3]
        exact w3
  · obtain ⟨z1, z2, z3⟩ := y2 r hr
    refine ⟨?_, ?_⟩
    · show hb_up x7 1 10 _ 17 r = _
      rw [hb_up_ne (by decide), h7 r hr, z1, z2]
    · show hb_up x7 1 10 _ 19 r = _
      rw [o 19 (by decide) (by decide), e17 19 (by decide) (by decide) (by decide) (by decide) (by decide) (by decide) (by decide), z3]
      exact (c3 r hr).2
  · rw [pl_up_same, y3, y4]

