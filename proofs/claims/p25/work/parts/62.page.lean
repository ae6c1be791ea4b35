theorem hc_r0 : hc_rf 0 0 = 1 := by decide
theorem hc_r6 : hc_rf 0 6 = 147 := by decide
theorem pl_bool (b : Bool) : ((if b = true then (1 : Int32) else 0) = 0) ↔ b = false := by cases b <;> decide
