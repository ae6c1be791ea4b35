/-! exchange, the reference's side: the choices' targets renamed -/
def rt (C : Nat → Int32) (p q i k : Nat) (X : Nat → Int32) : Prop := (∀ r c, (r < i ∨ r = i ∧ c < k) → c < pl_m C r → X (5 + 13 * r + 3 * c) = ot p q (C (5 + 13 * r + 3 * c))) ∧ ∀ j, (∀ r c, (r < i ∨ r = i ∧ c < k) → c < pl_m C r → j ≠ 5 + 13 * r + 3 * c) → X j = C j
