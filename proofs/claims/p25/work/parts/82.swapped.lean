/-! exchange, the reference's side: all of it -/
theorem sw1_row {B : Nat → Int32} {p q r w : Nat} (hne : p ≠ q) (hw : w < 13) : sw1 B p q 13 (1 + 13 * r + w) = B (1 + 13 * pgm p q r + w) := by
  unfold sw1 pgm
  by_cases h1 : r = p
  · have k : 1 + 13 * p ≤ 1 + 13 * r + w ∧ 1 + 13 * r + w < 1 + 13 * p + 13 := by omega
    rw [if_pos k, if_pos h1]
    congr 1
    omega
  · have k : ¬ (1 + 13 * p ≤ 1 + 13 * r + w ∧ 1 + 13 * r + w < 1 + 13 * p + 13) := by omega
    rw [if_neg k, if_neg h1]
    by_cases h2 : r = q
    · have k2 : 1 + 13 * q ≤ 1 + 13 * r + w ∧ 1 + 13 * r + w < 1 + 13 * q + 13 := by omega
      rw [if_pos k2, if_pos h2]
      congr 1
      omega
    · have k2 : ¬ (1 + 13 * q ≤ 1 + 13 * r + w ∧ 1 + 13 * r + w < 1 + 13 * q + 13) := by omega
      rw [if_neg k2, if_neg h2]
theorem sw1_off {B : Nat → Int32} {p q j : Nat} (hp : p < 32) (hq : q < 32) (h : j = 0 ∨ 417 ≤ j) : sw1 B p q 13 j = B j := by
  unfold sw1
  have k : ¬ (1 + 13 * p ≤ j ∧ j < 1 + 13 * p + 13) := by omega
  have k2 : ¬ (1 + 13 * q ≤ j ∧ j < 1 + 13 * q + 13) := by omega
  rw [if_neg k, if_neg k2]

