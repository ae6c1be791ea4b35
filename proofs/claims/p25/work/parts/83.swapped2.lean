/-- a book with two pages exchanged, readers and mark aside -/
def sx (B X : Nat → Int32) (n p q : Nat) : Prop := X 0 = nI n ∧ (∀ r, r < n → pl_m X r = pl_m B (pgm p q r) ∧ X (1 + 13 * r) = B (1 + 13 * pgm p q r) ∧ X (2 + 13 * r) = B (2 + 13 * pgm p q r) ∧ X (3 + 13 * r) = B (3 + 13 * pgm p q r) ∧ X (4 + 13 * r) = B (4 + 13 * pgm p q r) ∧ ∀ c, c < pl_m B (pgm p q r) → X (5 + 13 * r + 3 * c) = ot p q (B (5 + 13 * pgm p q r + 3 * c)) ∧ X (6 + 13 * r + 3 * c) = B (6 + 13 * pgm p q r + 3 * c) ∧ X (7 + 13 * r + 3 * c) = B (7 + 13 * pgm p q r + 3 * c)) ∧ ∀ j, 417 ≤ j → X j = B j
theorem sx_of {n p q : Nat} {B C X : Nat → Int32} (h : pl_WB n B) (hp : p < n) (hq : q < n) (hne : p ≠ q) (hC : ∀ j, C j = sw1 B p q 13 j) (hX : rt C p q n 0 X) : sx B X n p q := by
  have hn := h.1
  have hrow : ∀ r w, w < 13 → C (1 + 13 * r + w) = B (1 + 13 * pgm p q r + w) := fun r w hw => by rw [hC, sw1_row hne hw]
  have hmC : ∀ r, pl_m C r = pl_m B (pgm p q r) := fun r => by
    unfold pl_m
    have := hrow r 3 (by decide)
    rw [show 1 + 13 * r + 3 = 4 + 13 * r by omega, show 1 + 13 * pgm p q r + 3 = 4 + 13 * pgm p q r by omega] at this
    rw [this]
  have hm3 : ∀ r, r < n → pl_m C r ≤ 3 := fun r hr => by
    rw [hmC]
    exact (h.m (pgm_lt hp hq hr)).1
  have hkeep : ∀ j, (∀ r c, r < n → c < 3 → j ≠ 5 + 13 * r + 3 * c) → X j = C j := fun j hj => hX.2 j (fun r c h1 h2 => hj r c (by omega) (by have := hm3 r (by omega); omega))
  refine ⟨?_, fun r hr => ?_, fun j hj => ?_⟩
  · rw [hkeep 0 (fun r c _ _ => by omega), hC, sw1_off (by omega) (by omega) (Or.inl rfl)]
    exact h.2.1
  · have f : ∀ w, w < 13 → w ≠ 4 → w ≠ 7 → w ≠ 10 → X (1 + 13 * r + w) = B (1 + 13 * pgm p q r + w) := fun w hw w4 w7 w10 => by
      rw [hkeep (1 + 13 * r + w) (fun r' c' _ hc3 => by
        have h3 : c' = 0 ∨ c' = 1 ∨ c' = 2 := by omega
        rcases h3 with rfl | rfl | rfl <;> omega)]
      exact hrow r w hw
    have f3 := f 3 (by decide) (by decide) (by decide) (by decide)
    rw [show 1 + 13 * r + 3 = 4 + 13 * r by omega, show 1 + 13 * pgm p q r + 3 = 4 + 13 * pgm p q r by omega] at f3
    refine ⟨by unfold pl_m; rw [f3], f 0 (by decide) (by decide) (by decide) (by decide), ?_, ?_, f3, fun c hc => ?_⟩
    · have := f 1 (by decide) (by decide) (by decide) (by decide)
      rw [show 1 + 13 * r + 1 = 2 + 13 * r by omega, show 1 + 13 * pgm p q r + 1 = 2 + 13 * pgm p q r by omega] at this
      exact this
    · have := f 2 (by decide) (by decide) (by decide) (by decide)
      rw [show 1 + 13 * r + 2 = 3 + 13 * r by omega, show 1 + 13 * pgm p q r + 2 = 3 + 13 * pgm p q r by omega] at this
      exact this
    · have hc3 : c < 3 := by
        have := hm3 r hr
        rw [hmC] at this
        omega
      have g0 := hX.1 r c (Or.inl hr) (by rw [hmC]; exact hc)
      have g1 := hrow r (4 + 3 * c) (by omega)
      have g2 := f (5 + 3 * c) (by omega) (by omega) (by omega) (by omega)
      have g3 := f (6 + 3 * c) (by omega) (by omega) (by omega) (by omega)
      rw [show 1 + 13 * r + (4 + 3 * c) = 5 + 13 * r + 3 * c by omega, show 1 + 13 * pgm p q r + (4 + 3 * c) = 5 + 13 * pgm p q r + 3 * c by omega] at g1
      rw [show 1 + 13 * r + (5 + 3 * c) = 6 + 13 * r + 3 * c by omega, show 1 + 13 * pgm p q r + (5 + 3 * c) = 6 + 13 * pgm p q r + 3 * c by omega] at g2
      rw [show 1 + 13 * r + (6 + 3 * c) = 7 + 13 * r + 3 * c by omega, show 1 + 13 * pgm p q r + (6 + 3 * c) = 7 + 13 * pgm p q r + 3 * c by omega] at g3
      exact ⟨by rw [g0, g1], g2, g3⟩
  · rw [hkeep j (fun r c _ _ => by omega), hC, sw1_off (by omega) (by omega) (Or.inr hj)]

