/-! takeChoice, the class's side, and both -/
theorem pc_remove {n : Nat} {B : Nat → Int32} {σ : hb_Mem} {p c : Nat} (h : pl_WB n B) (hr : pl_RS σ 1 n B) (hp : p < n) (hc : c < pl_m B p) : ∃ σ', fn_X2_removeChoice 1 (nI p) (nI c) σ = some (B (5 + 13 * p + 3 * c), σ') ∧ (∀ k, k ≠ 9 → k ≠ 11 → k ≠ 13 → k ≠ 15 → σ' k = σ k) ∧ pl_RS σ' 1 n (rm B p c) := by
  have hn := h.1
  obtain ⟨m1, m2⟩ := h.m hp
  obtain ⟨e4, em⟩ := rm_m (c := c) m1
  obtain ⟨r1, r2, r3, r4, r5⟩ := hr.2.1 p hp
  have hsz : fn_X1_at (hc_rf 1 4) (nI p) σ = some (nI (pl_m B p)) := by
    rw [pl_at (r := hc_rf 1 4) (a := 9) (n := 32) (by decide) (by omega), ← m2]
    exact congrArg some r4
  unfold fn_X2_removeChoice
  rw [pc_slot, Option.bind_some, pl_at (r := hc_rf 1 5) (a := 11) (n := 96) (by decide) (by omega), Option.bind_some, hsz, Option.bind_some, show σ 11 (3 * p + c) = B (5 + 13 * p + 3 * c) from (r5 c hc).1]
  simp only [hb_nm]
  rw [show nI (pl_m B p) - 1 = nI (pl_m B p - 1) from pl_sub (b := 1) (by omega)]
  unfold ll_X2_removeChoice_28
  obtain ⟨t, g1, g2, g3⟩ := pl_inv (f := fun s => lb_X2_removeChoice_28 1 (nI p) (nI c) (B (5 + 13 * p + 3 * c)) (nI (pl_m B p - 1)) s.1 s.2) (s := (nI c, σ)) (pl_m B p - 1 - c)
    (fun i s => s.1 = nI (c + i) ∧ (∀ k, k ≠ 11 → k ≠ 13 → k ≠ 15 → s.2 k = σ k) ∧ ∀ k, (k = 11 ∨ k = 13 ∨ k = 15) → ∀ q, s.2 k q = if 3 * p + c ≤ q ∧ q < 3 * p + c + i then σ k (q + 1) else σ k q)
    (fun t => (∀ k, k ≠ 11 → k ≠ 13 → k ≠ 15 → t k = σ k) ∧ ∀ k, (k = 11 ∨ k = 13 ∨ k = 15) → ∀ q, t k q = if 3 * p + c ≤ q ∧ q < 3 * p + (pl_m B p - 1) then σ k (q + 1) else σ k q)
    ⟨rfl, fun _ _ _ _ => rfl, fun k _ q => by rw [if_neg (by omega)]⟩ (by
    intro i s hi ⟨e1, e2, e3⟩
    obtain ⟨w, τ⟩ := s
    dsimp only at e1 e2 e3
    subst e1
    left
    show ∃ s', lb_X2_removeChoice_28 1 (nI p) (nI c) _ (nI (pl_m B p - 1)) (nI (c + i)) τ = some (.inl s') ∧ _
    unfold lb_X2_removeChoice_28
    rw [if_neg (by rw [nI_leI (by omega) (by omega)]; omega), if_neg (by show ¬ nI 3 ≤ nI (c + i); rw [nI_leI (by omega) (by omega)]; omega), pc_slot, Option.bind_some, nI_1]
    rw [pl_at (r := hc_rf 1 5) (a := 11) (n := 96) (by decide) (by omega), Option.bind_some, pl_put (r := hc_rf 1 5) (a := 11) (n := 96) (by decide) (by omega), Option.bind_some]
    rw [pl_at (r := hc_rf 1 6) (a := 13) (n := 96) (by decide) (by omega), Option.bind_some, pl_put (r := hc_rf 1 6) (a := 13) (n := 96) (by decide) (by omega), Option.bind_some]
    rw [pl_at (r := hc_rf 1 7) (a := 15) (n := 96) (by decide) (by omega), Option.bind_some, pl_put (r := hc_rf 1 7) (a := 15) (n := 96) (by decide) (by omega), Option.bind_some]
    simp only [hb_nm, nI_1]
    rw [pl_up_ne (k := 11) (c := 13) (by decide), pl_up_ne (k := 13) (c := 15) (by decide), pl_up_ne (k := 11) (c := 15) (by decide)]
    refine ⟨_, rfl, rfl, fun k k1 k2 k3 => ?_, fun k hk q => ?_⟩
    · show hb_up (hb_up (hb_up τ 11 _ _) 13 _ _) 15 _ _ k = _
      rw [hb_up_ne k3, hb_up_ne k2, hb_up_ne k1]
      exact e2 k k1 k2 k3
    · have hall : ∀ k, (k = 11 ∨ k = 13 ∨ k = 15) → hb_up (hb_up (hb_up τ 11 (3 * p + (c + i)) (τ 11 (3 * p + (c + i) + 1))) 13 (3 * p + (c + i)) (τ 13 (3 * p + (c + i) + 1))) 15 (3 * p + (c + i)) (τ 15 (3 * p + (c + i) + 1)) k q = if q = 3 * p + (c + i) then τ k (q + 1) else τ k q := by
        intro k hk
        by_cases eq : q = 3 * p + (c + i)
        · subst eq
          rw [if_pos rfl]
          rcases hk with rfl | rfl | rfl
          · rw [pl_up_ne (by decide), pl_up_ne (by decide), pl_up_same]
          · rw [pl_up_ne (by decide), pl_up_same]
          · rw [pl_up_same]
        · rw [if_neg eq]
          rcases hk with rfl | rfl | rfl
          · rw [pl_up_ne (by decide), pl_up_ne (by decide), pl_up_other eq]
          · rw [pl_up_ne (by decide), pl_up_other eq, pl_up_ne (by decide)]
          · rw [pl_up_other eq, pl_up_ne (by decide), pl_up_ne (by decide)]
      show hb_up (hb_up (hb_up τ 11 (3 * p + (c + i)) (τ 11 (3 * p + (c + i) + 1))) 13 (3 * p + (c + i)) (τ 13 (3 * p + (c + i) + 1))) 15 (3 * p + (c + i)) (τ 15 (3 * p + (c + i) + 1)) k q = _
      rw [hall k hk, e3 k hk, e3 k hk]
      by_cases eq : q = 3 * p + (c + i)
      · rw [if_pos eq, if_neg (by omega), if_pos (by omega)]
      · rw [if_neg eq]
        by_cases q2 : 3 * p + c ≤ q ∧ q < 3 * p + c + i
        · rw [if_pos q2, if_pos (by omega)]
        · rw [if_neg q2, if_neg (by omega)]) (by
    intro s ⟨e1, e2, e3⟩
    obtain ⟨w, τ⟩ := s
    dsimp only at e1 e2 e3
    subst e1
    show ∃ t, lb_X2_removeChoice_28 1 (nI p) (nI c) _ (nI (pl_m B p - 1)) (nI (c + (pl_m B p - 1 - c))) τ = some (.inr t) ∧ _
    unfold lb_X2_removeChoice_28
    rw [if_pos (by rw [nI_leI (by omega) (by omega)]; omega)]
    refine ⟨τ, rfl, e2, fun k hk q => ?_⟩
    rw [e3 k hk, show 3 * p + c + (pl_m B p - 1 - c) = 3 * p + (pl_m B p - 1) by omega]) (by rw [pl_F]; omega)
  rw [g1, Option.bind_some]
  unfold jn_X2_removeChoice_115
  rw [pl_put (r := hc_rf 1 4) (a := 9) (n := 32) (by decide) (by omega), Option.bind_some]
  refine ⟨_, rfl, fun k k1 k2 k3 k4 => by rw [hb_up_ne k1]; exact g2 k k2 k3 k4, ?_⟩
  obtain ⟨σ', hσ'⟩ : ∃ s, s = hb_up t 9 p (nI (pl_m B p - 1)) := ⟨_, rfl⟩
  rw [← hσ']
  have hoff : ∀ k, k ≠ 9 → k ≠ 11 → k ≠ 13 → k ≠ 15 → σ' k = σ k := fun k k1 k2 k3 k4 => by rw [hσ', hb_up_ne k1]; exact g2 k k2 k3 k4
  have h9 : ∀ q, σ' 9 q = if q = p then nI (pl_m B p - 1) else σ 9 q := fun q => by
    by_cases e : q = p
    · rw [if_pos e, e, hσ', pl_up_same]
    · rw [if_neg e, hσ', pl_up_other e, g2 9 (by decide) (by decide) (by decide)]
  have hT : ∀ k, (k = 11 ∨ k = 13 ∨ k = 15) → ∀ q, σ' k q = if 3 * p + c ≤ q ∧ q < 3 * p + (pl_m B p - 1) then σ k (q + 1) else σ k q := fun k hk q => by
    rw [hσ', pl_up_ne (by omega)]
    exact g3 k hk q
  obtain ⟨c1, c2, c3, c4⟩ := hr
  refine ⟨by rw [hoff 1 (by decide) (by decide) (by decide) (by decide)]; exact c1, fun q hq => ?_, fun r hr => by rw [rm_off (by omega) m1, rm_off (by omega) m1, rm_off (by omega) m1, hoff _ (by decide) (by decide) (by decide) (by decide), hoff _ (by decide) (by decide) (by decide) (by decide)]; exact c3 r hr, by rw [rm_off (by omega) m1, rm_off (by omega) m1, hoff 1 (by decide) (by decide) (by decide) (by decide)]; exact c4⟩
  obtain ⟨d1, d2, d3, d4, d5⟩ := c2 q hq
  have hq3 := (h.m hq).1
  refine ⟨?_, ?_, ?_, ?_, fun c' hc' => ?_⟩
  · rw [hoff _ (by decide) (by decide) (by decide) (by decide), rm_off (by omega) m1]; exact d1
  · rw [hoff _ (by decide) (by decide) (by decide) (by decide), rm_off (by omega) m1]; exact d2
  · rw [hoff _ (by decide) (by decide) (by decide) (by decide), rm_off (by omega) m1]; exact d3
  · show σ' 9 q = _
    rw [h9]
    by_cases e : q = p
    · rw [if_pos e, e, e4]
    · rw [if_neg e, rm_off (by omega) m1]
      exact d4
  · show σ' 11 (3 * q + c') = _ ∧ σ' 13 (3 * q + c') = _ ∧ σ' 15 (3 * q + c') = _
    rw [hT 11 (by omega), hT 13 (by omega), hT 15 (by omega)]
    by_cases e : q = p
    · subst e
      rw [em] at hc'
      have k0 := rm_ch (c := c) m1 hc' 0 (by decide)
      have k1 := rm_ch (c := c) m1 hc' 1 (by decide)
      have k2 := rm_ch (c := c) m1 hc' 2 (by decide)
      rw [show 5 + 13 * q + 3 * c' = 5 + 13 * q + 3 * c' + 0 by omega, show 6 + 13 * q + 3 * c' = 5 + 13 * q + 3 * c' + 1 by omega, show 7 + 13 * q + 3 * c' = 5 + 13 * q + 3 * c' + 2 by omega, k0, k1, k2]
      by_cases hcc : c ≤ c'
      · rw [if_pos hcc, if_pos (by omega), if_pos (by omega), if_pos (by omega)]
        obtain ⟨x1, x2, x3⟩ := d5 (c' + 1) (by omega)
        refine ⟨x1, ?_, ?_⟩
        · rw [show 5 + 13 * q + 3 * (c' + 1) + 1 = 6 + 13 * q + 3 * (c' + 1) by omega]; exact x2
        · rw [show 5 + 13 * q + 3 * (c' + 1) + 2 = 7 + 13 * q + 3 * (c' + 1) by omega]; exact x3
      · rw [if_neg hcc, if_neg (by omega), if_neg (by omega), if_neg (by omega)]
        obtain ⟨x1, x2, x3⟩ := d5 c' (by omega)
        refine ⟨x1, ?_, ?_⟩
        · rw [show 5 + 13 * q + 3 * c' + 1 = 6 + 13 * q + 3 * c' by omega]; exact x2
        · rw [show 5 + 13 * q + 3 * c' + 2 = 7 + 13 * q + 3 * c' by omega]; exact x3
    · have hmq : pl_m (rm B p c) q = pl_m B q := wb_m (rm_off (by omega) m1)
      rw [hmq] at hc'
      rw [if_neg (by omega), if_neg (by omega), if_neg (by omega), rm_off (by omega) m1, rm_off (by omega) m1, rm_off (by omega) m1]
      exact d5 c' hc'
