/-! exchange, the reference's side: readers and the bookmark renamed too -/
def sX (B X : Nat → Int32) (n p q : Nat) : Prop := X 0 = nI n ∧ (∀ r, r < n → pl_m X r = pl_m B (pgm p q r) ∧ X (1 + 13 * r) = B (1 + 13 * pgm p q r) ∧ X (2 + 13 * r) = B (2 + 13 * pgm p q r) ∧ X (3 + 13 * r) = B (3 + 13 * pgm p q r) ∧ X (4 + 13 * r) = B (4 + 13 * pgm p q r) ∧ ∀ c, c < pl_m B (pgm p q r) → X (5 + 13 * r + 3 * c) = ot p q (B (5 + 13 * pgm p q r + 3 * c)) ∧ X (6 + 13 * r + 3 * c) = B (6 + 13 * pgm p q r + 3 * c) ∧ X (7 + 13 * r + 3 * c) = B (7 + 13 * pgm p q r + 3 * c)) ∧ (∀ r, r < 2 → X (417 + 3 * r) = ot p q (B (417 + 3 * r)) ∧ X (418 + 3 * r) = B (418 + 3 * r) ∧ X (419 + 3 * r) = B (419 + 3 * r)) ∧ X 423 = ot p q (B 423) ∧ X 424 = B 424
theorem sX_WB {n p q : Nat} {B X : Nat → Int32} (h : pl_WB n B) (hp : p < n) (hq : q < n) (hX : sX B X n p q) : pl_WB n X := by
  obtain ⟨x0, x1, x2, x3, x4⟩ := hX
  refine sx_WB h hp hq x0 x1 (fun r hr => ?_) ?_
  · obtain ⟨y1, y2, -⟩ := x2 r hr
    rw [y1, y2]
    exact ot_wr h.1 hp hq (h.2.2.2.1 r hr)
  · rw [x3, x4]
    exact ot_wr h.1 hp hq h.2.2.2.2
theorem pm_exch2 {n p q : Nat} {μ : hb_Mem} (h : pl_WB n (μ 1)) (hp : p < n) (hq : q < n) (hne : p ≠ q) (v : Int32) : ∃ τ, ((ll_X6_exchange_63 0 (nI p) (nI q) v (0, μ)).bind fun t14 =>
    (ll_X6_exchange_125 0 (nI p) (nI q) v (0, t14)).bind fun t23 =>
    (hb_ld ΛM t23 (hm_rf 0 0) 417).bind fun v24 =>
    (fn_X6_other v24 (nI p) (nI q)).bind fun x25 =>
    (hb_st ΛM t23 (hm_rf 0 0) 417 x25).bind fun σ26 =>
    (hb_ld ΛM σ26 (hm_rf 0 0) 420).bind fun v27 =>
    (fn_X6_other v27 (nI p) (nI q)).bind fun x28 =>
    (hb_st ΛM σ26 (hm_rf 0 0) 420 x28).bind fun σ29 =>
    (hb_ld ΛM σ29 (hm_rf 0 0) 423).bind fun v30 =>
    (fn_X6_other v30 (nI p) (nI q)).bind fun x31 =>
    (hb_st ΛM σ29 (hm_rf 0 0) 423 x31).bind fun σ32 =>
    some (v, σ32)) = some (v, τ) ∧ (∀ k, k ≠ 1 → τ k = μ k) ∧ sX (μ 1) (τ 1) n p q := by
  have hn := h.1
  obtain ⟨t1, t2, a1, a2, a3, a4⟩ := pm_exch h hp hq hne v
  have ld : ∀ i (τ : hb_Mem), i < 425 → hb_ld ΛM τ (hm_rf 0 0) (nI i) = some (τ 1 i) := fun i τ hi => pm_ld (a := hm_rf 0 0) (n := 425) (by decide) hi (by decide) τ
  have st : ∀ i x (τ : hb_Mem), i < 425 → hb_st ΛM τ (hm_rf 0 0) (nI i) x = some (hb_up τ 1 i x) := fun i x τ hi => pm_stt (a := hm_rf 0 0) (n := 425) (by decide) hi (by decide) x τ
  rw [a1, Option.bind_some, a2, Option.bind_some]
  rw [show (417 : Int32) = nI 417 from rfl, show (420 : Int32) = nI 420 from rfl, show (423 : Int32) = nI 423 from rfl]
  rw [ld 417 _ (by decide), Option.bind_some, pm_other, Option.bind_some, st 417 _ _ (by decide), Option.bind_some]
  rw [ld 420 _ (by decide), Option.bind_some, pm_other, Option.bind_some, st 420 _ _ (by decide), Option.bind_some]
  rw [ld 423 _ (by decide), Option.bind_some, pm_other, Option.bind_some, st 423 _ _ (by decide), Option.bind_some]
  rw [pl_up_other (show (420 : Nat) ≠ 417 by decide), pl_up_other (show (423 : Nat) ≠ 420 by decide), pl_up_other (show (423 : Nat) ≠ 417 by decide)]
  refine ⟨_, rfl, fun k hk => by rw [hb_up_ne hk, hb_up_ne hk, hb_up_ne hk]; exact a3 k hk, ?_⟩
  obtain ⟨τ, hτ⟩ : ∃ τ, τ = hb_up (hb_up (hb_up t2 1 417 (ot p q (t2 1 417))) 1 420 (ot p q (t2 1 420))) 1 423 (ot p q (t2 1 423)) := ⟨_, rfl⟩
  rw [← hτ]
  obtain ⟨s0, s1, s2⟩ := a4
  have g : ∀ j, j ≠ 417 → j ≠ 420 → j ≠ 423 → τ 1 j = t2 1 j := fun j j1 j2 j3 => by rw [hτ, pl_up_other j3, pl_up_other j2, pl_up_other j1]
  have g417 : τ 1 417 = ot p q (μ 1 417) := by rw [hτ, pl_up_other (by decide), pl_up_other (by decide), pl_up_same, s2 _ (by decide)]
  have g420 : τ 1 420 = ot p q (μ 1 420) := by rw [hτ, pl_up_other (by decide), pl_up_same, s2 _ (by decide)]
  have g423 : τ 1 423 = ot p q (μ 1 423) := by rw [hτ, pl_up_same, s2 _ (by decide)]
  refine ⟨by rw [g 0 (by decide) (by decide) (by decide)]; exact s0, fun r hr => ?_, fun r hr => ?_, g423, by rw [g 424 (by decide) (by decide) (by decide)]; exact s2 _ (by decide)⟩
  · obtain ⟨y0, y1, y2, y3, y4, y5⟩ := s1 r hr
    have hm3 := (h.m (pgm_lt hp hq hr)).1
    refine ⟨by rw [wb_m (g _ (by omega) (by omega) (by omega))]; exact y0, by rw [g _ (by omega) (by omega) (by omega)]; exact y1, by rw [g _ (by omega) (by omega) (by omega)]; exact y2, by rw [g _ (by omega) (by omega) (by omega)]; exact y3, by rw [g _ (by omega) (by omega) (by omega)]; exact y4, fun c hc => ?_⟩
    obtain ⟨z1, z2, z3⟩ := y5 c hc
    exact ⟨by rw [g _ (by omega) (by omega) (by omega)]; exact z1, by rw [g _ (by omega) (by omega) (by omega)]; exact z2, by rw [g _ (by omega) (by omega) (by omega)]; exact z3⟩
  · have h2 : r = 0 ∨ r = 1 := by omega
    rcases h2 with rfl | rfl
    · exact ⟨g417, by rw [g _ (by decide) (by decide) (by decide)]; exact s2 _ (by decide), by rw [g _ (by decide) (by decide) (by decide)]; exact s2 _ (by decide)⟩
    · exact ⟨g420, by rw [g _ (by decide) (by decide) (by decide)]; exact s2 _ (by decide), by rw [g _ (by decide) (by decide) (by decide)]; exact s2 _ (by decide)⟩
