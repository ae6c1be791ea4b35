/-! takeChoice -/
def rm (B : Nat → Int32) (p c : Nat) : Nat → Int32 := fun j => if 5 + 13 * p + 3 * c ≤ j ∧ j < 5 + 13 * p + 3 * (pl_m B p - 1) then B (j + 3) else if j = 4 + 13 * p then nI (pl_m B p - 1) else B j
theorem rm_off {B : Nat → Int32} {p c j : Nat} (h : j < 4 + 13 * p ∨ 14 + 13 * p ≤ j ∨ (5 + 13 * p ≤ j ∧ j < 5 + 13 * p + 3 * c)) (hm : pl_m B p ≤ 3) : rm B p c j = B j := by
  unfold rm
  rw [if_neg (by omega), if_neg (by omega)]
theorem rm_on {B : Nat → Int32} {p c j : Nat} (h1 : 5 + 13 * p + 3 * c ≤ j) (h2 : j < 5 + 13 * p + 3 * (pl_m B p - 1)) : rm B p c j = B (j + 3) := by
  unfold rm
  rw [if_pos ⟨h1, h2⟩]
theorem rm_m {B : Nat → Int32} {p c : Nat} (hm : pl_m B p ≤ 3) : rm B p c (4 + 13 * p) = nI (pl_m B p - 1) ∧ pl_m (rm B p c) p = pl_m B p - 1 := by
  have h1 : rm B p c (4 + 13 * p) = nI (pl_m B p - 1) := by
    unfold rm
    rw [if_neg (by omega), if_pos rfl]
  refine ⟨h1, ?_⟩
  show (rm B p c (4 + 13 * p)).toNatClampNeg = _
  rw [h1]
  exact nI_clamp (by omega)
theorem rm_ch {B : Nat → Int32} {p c c' : Nat} (hm : pl_m B p ≤ 3) (hc' : c' < pl_m B p - 1) (w : Nat) (hw : w < 3) : rm B p c (5 + 13 * p + 3 * c' + w) = B (5 + 13 * p + 3 * (if c ≤ c' then c' + 1 else c') + w) := by
  by_cases h : c ≤ c'
  · rw [if_pos h, rm_on (by omega) (by omega)]
    congr 1
    omega
  · rw [if_neg h, rm_off (by omega) hm]
theorem rm_WB {n : Nat} {B : Nat → Int32} {p c : Nat} (h : pl_WB n B) (hp : p < n) : pl_WB n (rm B p c) := by
  have hn := h.1
  have hm := (h.m hp).1
  obtain ⟨e4, em⟩ := rm_m (c := c) hm
  refine ⟨hn, by rw [rm_off (by omega) hm]; exact h.2.1, fun q hq => ?_, fun r hr => by rw [rm_off (by omega) hm, rm_off (by omega) hm]; exact h.2.2.2.1 r hr, by rw [rm_off (by omega) hm, rm_off (by omega) hm]; exact h.2.2.2.2⟩
  have hP := h.2.2.1 q hq
  by_cases e : q = p
  · subst e
    obtain ⟨b1, b2, b3, b4, b5, b6⟩ := hP
    unfold pl_WP
    rw [em, e4, rm_off (by omega) hm, rm_off (by omega) hm, rm_off (by omega) hm]
    refine ⟨b1, b2, b3, by omega, rfl, fun c' hc' => ?_⟩
    have k0 := rm_ch (c := c) hm hc' 0 (by decide)
    have k1 := rm_ch (c := c) hm hc' 1 (by decide)
    have k2 := rm_ch (c := c) hm hc' 2 (by decide)
    have hb := b6 (if c ≤ c' then c' + 1 else c') (by split <;> omega)
    generalize (if c ≤ c' then c' + 1 else c') = d at k0 k1 k2 hb
    unfold pl_WC at hb ⊢
    rw [show 5 + 13 * q + 3 * c' = 5 + 13 * q + 3 * c' + 0 by omega, show 6 + 13 * q + 3 * c' = 5 + 13 * q + 3 * c' + 1 by omega, show 7 + 13 * q + 3 * c' = 5 + 13 * q + 3 * c' + 2 by omega, k0, k1, k2, show 5 + 13 * q + 3 * d + 0 = 5 + 13 * q + 3 * d by omega, show 5 + 13 * q + 3 * d + 1 = 6 + 13 * q + 3 * d by omega, show 5 + 13 * q + 3 * d + 2 = 7 + 13 * q + 3 * d by omega]
    exact hb
  · exact wp_same hP (Nat.le_refl n) (fun j j1 j2 => rm_off (by omega) hm)
