/-! exchange, the reference's side: two pages' rows swapped -/
def sw1 (B : Nat → Int32) (p q i : Nat) : Nat → Int32 := fun j => if 1 + 13 * p ≤ j ∧ j < 1 + 13 * p + i then B (j - 13 * p + 13 * q) else if 1 + 13 * q ≤ j ∧ j < 1 + 13 * q + i then B (j - 13 * q + 13 * p) else B j
/-- the other of two pages -/
def ot (p q : Nat) (x : Int32) : Int32 := if x = nI p then nI q else if x = nI q then nI p else x
theorem pc_other (p q : Nat) (x : Int32) : fn_X2_renumbered x (nI p) (nI q) = some (ot p q x) := by
  unfold fn_X2_renumbered ot
  split
  · rfl
  · split <;> rfl
def pgm (p q r : Nat) : Nat := if r = p then q else if r = q then p else r
theorem ot_nI {p q r : Nat} (hp : p < 32) (hq : q < 32) (hr : r < 32) : ot p q (nI r) = nI (pgm p q r) := by
  unfold ot pgm
  by_cases h1 : r = p
  · rw [if_pos (by rw [h1]), if_pos h1]
  · rw [if_neg (fun hc => h1 ((nI_eq (by omega) (by omega)).mp hc)), if_neg h1]
    by_cases h2 : r = q
    · rw [if_pos (by rw [h2]), if_pos h2]
    · rw [if_neg (fun hc => h2 ((nI_eq (by omega) (by omega)).mp hc)), if_neg h2]
theorem pgm_lt {n p q r : Nat} (hp : p < n) (hq : q < n) (hr : r < n) : pgm p q r < n := by
  unfold pgm
  split
  · exact hq
  · split
    · exact hp
    · exact hr
theorem pgm_pgm (p q r : Nat) : pgm p q (pgm p q r) = r := by
  unfold pgm
  by_cases h1 : r = p
  · rw [if_pos h1]
    by_cases h2 : q = p
    · rw [if_pos h2, h1, h2]
    · rw [if_neg h2, if_pos rfl, h1]
  · rw [if_neg h1]
    by_cases h2 : r = q
    · rw [if_pos h2, if_pos rfl, h2]
    · rw [if_neg h2, if_neg h1, if_neg h2]

