/-! exchange, the reference's side: readers and the bookmark renamed too -/
def sX (B X : Nat → Int32) (n p q : Nat) : Prop := X 0 = nI n ∧ (∀ r, r < n → pl_m X r = pl_m B (pgm p q r) ∧ X (1 + 13 * r) = B (1 + 13 * pgm p q r) ∧ X (2 + 13 * r) = B (2 + 13 * pgm p q r) ∧ X (3 + 13 * r) = B (3 + 13 * pgm p q r) ∧ X (4 + 13 * r) = B (4 + 13 * pgm p q r) ∧ ∀ c, c < pl_m B (pgm p q r) → X (5 + 13 * r + 3 * c) = ot p q (B (5 + 13 * pgm p q r + 3 * c)) ∧ X (6 + 13 * r + 3 * c) = B (6 + 13 * pgm p q r + 3 * c) ∧ X (7 + 13 * r + 3 * c) = B (7 + 13 * pgm p q r + 3 * c)) ∧ (∀ r, r < 2 → X (417 + 3 * r) = ot p q (B (417 + 3 * r)) ∧ X (418 + 3 * r) = B (418 + 3 * r) ∧ X (419 + 3 * r) = B (419 + 3 * r)) ∧ X 423 = ot p q (B 423) ∧ X 424 = B 424
theorem sX_WB {n p q : Nat} {B X : Nat → Int32} (h : pl_WB n B) (hp : p < n) (hq : q < n) (hX : sX B X n p q) : pl_WB n X := by
  obtain ⟨x0, x1, x2, x3, x4⟩ := hX
  refine sx_WB h hp hq x0 x1 (fun r hr => ?_) ?_
  · obtain ⟨y1, y2, -⟩ := x2 r hr
    rw [y1, y2]
    exact ot_wr h.1 hp hq (h.2.2.2.1 r hr)
  · rw [x3, x4]
    exact ot_wr h.1 hp hq h.2.2.2.2
