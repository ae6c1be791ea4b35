theorem ot_wr {n p q : Nat} {a f : Int32} (hn : n ≤ 32) (hp : p < n) (hq : q < n) (h : pl_WR n a f) : pl_WR n (ot p q a) f := by
  rcases h with h | ⟨⟨r, hr, ha⟩, hf⟩
  · left
    rw [h]
    unfold ot
    rw [if_neg (fun hc => pl_ne_neg (c := -5) (by omega) (by decide) hc.symm), if_neg (fun hc => pl_ne_neg (c := -5) (by omega) (by decide) hc.symm)]
  · right
    rw [ha, ot_nI (by omega) (by omega) (by omega)]
    exact ⟨⟨_, pgm_lt hp hq hr, rfl⟩, hf⟩
/-- pages exchanged: still a book, whatever the readers' rows are made to say rightly -/
theorem sx_WB {n p q : Nat} {B X : Nat → Int32} (h : pl_WB n B) (hp : p < n) (hq : q < n) (h0 : X 0 = nI n) (hs : ∀ r, r < n → pl_m X r = pl_m B (pgm p q r) ∧ X (1 + 13 * r) = B (1 + 13 * pgm p q r) ∧ X (2 + 13 * r) = B (2 + 13 * pgm p q r) ∧ X (3 + 13 * r) = B (3 + 13 * pgm p q r) ∧ X (4 + 13 * r) = B (4 + 13 * pgm p q r) ∧ ∀ c, c < pl_m B (pgm p q r) → X (5 + 13 * r + 3 * c) = ot p q (B (5 + 13 * pgm p q r + 3 * c)) ∧ X (6 + 13 * r + 3 * c) = B (6 + 13 * pgm p q r + 3 * c) ∧ X (7 + 13 * r + 3 * c) = B (7 + 13 * pgm p q r + 3 * c)) (hr : ∀ r, r < 2 → pl_WR n (X (417 + 3 * r)) (X (418 + 3 * r))) (hb : pl_WR n (X 423) (X 424)) : pl_WB n X := by
  have hn := h.1
  refine ⟨hn, h0, fun r hr => ?_, hr, hb⟩
  obtain ⟨k0, k1, k2, k3, k4, k5⟩ := hs r hr
  obtain ⟨b1, b2, b3, b4, b5, b6⟩ := h.2.2.1 (pgm p q r) (pgm_lt hp hq hr)
  unfold pl_WP
  rw [k0, k1, k2, k3, k4]
  refine ⟨b1, b2, b3, b4, b5, fun c hc => ?_⟩
  obtain ⟨x1, x2, x3⟩ := k5 c hc
  obtain ⟨⟨t, t1, t2⟩, y2, y3⟩ := b6 c hc
  unfold pl_WC
  rw [x1, x2, x3, t2, ot_nI (by omega) (by omega) (by omega)]
  exact ⟨⟨_, pgm_lt hp hq t1, rfl⟩, y2, y3⟩

