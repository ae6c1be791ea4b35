/-! sums of moods: each a whole number of 2^-27, none a minus zero -/
theorem ff_log {m : Nat} (hm : 0 < m) (e : Int) : Jvm.FP.Core.quantum Jvm.FP.Core.b32 m 1 e = max (-149) ((m.log2 : Int) + e - 23) := by
  have a1 : 2 ^ m.log2 ≤ m := Nat.log2_self_le (by omega)
  have hl : Jvm.FP.Core.leading m 1 = (m.log2 : Int) := by
    unfold Jvm.FP.Core.leading
    rw [show Nat.log2 1 = 0 from by decide]
    dsimp only
    rw [show ((m.log2 : Int) - ((0 : Nat) : Int)) = (m.log2 : Int) by omega]
    rw [if_pos]
    rw [Int.toNat_natCast, show (-(m.log2 : Int)).toNat = 0 by omega]
    omega
  unfold Jvm.FP.Core.quantum
  rw [hl]
  rfl
theorem ff_cancel {N m a b : Nat} (h : N * 2 ^ a * 2 ^ b = m * 2 ^ b) : N * 2 ^ a = m := Nat.eq_of_mul_eq_mul_right (Nat.two_pow_pos b) h
theorem ff_same {N m : Nat} {e : Int} (he : -149 ≤ e) (h : N * 2 ^ (e + 149).toNat = m * 2 ^ 122) : N * 1 * 2 ^ (e - (-27)).toNat = m * 1 * 2 ^ (-27 - e).toNat := by
  rw [Nat.mul_one, Nat.mul_one]
  by_cases h1 : -27 ≤ e
  · rw [show (-27 - e).toNat = 0 by omega, Nat.pow_zero, Nat.mul_one]
    refine ff_cancel (b := 122) ?_
    rw [Nat.mul_assoc, ← Nat.pow_add, show (e - (-27)).toNat + 122 = (e + 149).toNat by omega]
    exact h
  · rw [show (e - (-27)).toNat = 0 by omega, Nat.pow_zero, Nat.mul_one]
    refine (ff_cancel (b := (e + 149).toNat) ?_).symm
    rw [Nat.mul_assoc, ← Nat.pow_add, show (-27 - e).toNat + (e + 149).toNat = 122 by omega]
    exact h.symm
theorem ff_round {sg : Bool} {N m : Nat} {e : Int} (he : -149 ≤ e) (h : N * 2 ^ (e + 149).toNat = m * 2 ^ 122) (hm : m < 2 ^ 50) : ∃ c q m', Jvm.FP.Core.roundRatio Jvm.FP.Core.b32 sg N 1 e = .fin sg c q ∧ -149 ≤ q ∧ c * 2 ^ (q + 149).toNat = m' * 2 ^ 122 ∧ m' ≤ m + 2 ^ 27 ∧ (m' = 0 → m = 0) := by
  rw [Jvm.FP.Core.roundRatio_congr (A' := m) (B' := 1) (e' := -27) (by decide) (by decide) (ff_same he h)]
  unfold Jvm.FP.Core.roundRatio
  by_cases h0 : m = 0
  · rw [if_pos h0]
    exact ⟨0, -149, 0, rfl, by omega, by rw [Nat.zero_mul, Nat.zero_mul], by omega, fun _ => h0⟩
  rw [if_neg h0, ff_log (by omega)]
  have a1 : 2 ^ m.log2 ≤ m := Nat.log2_self_le h0
  have a2 : m < 2 ^ (m.log2 + 1) := Nat.lt_log2_self
  generalize m.log2 = L at a1 a2 ⊢
  have hL : L < 50 := by
    apply Nat.lt_of_not_le
    intro hc
    have : 2 ^ 50 ≤ 2 ^ L := Nat.pow_le_pow_right (by decide) hc
    omega
  rw [show max (-149) ((L : Int) + -27 - 23) = (L : Int) - 50 by omega]
  unfold Jvm.FP.Core.roundAt Jvm.FP.Core.unitsNum Jvm.FP.Core.unitsDen
  by_cases hs : L ≤ 23
  · rw [show (-27 - ((L : Int) - 50)).toNat = 23 - L by omega, show ((L : Int) - 50 - -27).toNat = 0 by omega, Nat.pow_zero, Nat.mul_one]
    have hne := Jvm.FP.Core.nearest_exact (B := 1) (m * 2 ^ (23 - L)) (by decide)
    rw [Nat.mul_one] at hne
    rw [hne]
    have hlt : m * 2 ^ (23 - L) < 2 ^ 24 := by
      calc m * 2 ^ (23 - L) < 2 ^ (L + 1) * 2 ^ (23 - L) := Nat.mul_lt_mul_of_pos_right a2 (Nat.two_pow_pos _)
        _ = 2 ^ 24 := by rw [← Nat.pow_add, show L + 1 + (23 - L) = 24 by omega]
    unfold Jvm.FP.Core.settle Jvm.FP.Core.bound
    have hq : Jvm.FP.Core.b32.qmax = 104 := by decide
    rw [if_pos (show m * 2 ^ (23 - L) < 2 ^ Jvm.FP.Core.b32.p from hlt), if_pos (by rw [hq]; omega)]
    refine ⟨_, _, m, rfl, by omega, ?_, by omega, fun h => h⟩
    rw [Nat.mul_assoc, ← Nat.pow_add, show 23 - L + ((L : Int) - 50 + 149).toNat = 122 by omega]
  · rw [show (-27 - ((L : Int) - 50)).toNat = 0 by omega, show ((L : Int) - 50 - -27).toNat = L - 23 by omega, Nat.pow_zero, Nat.mul_one, Nat.one_mul]
    have hBpos := Nat.two_pow_pos (L - 23)
    obtain ⟨n1, n2, n3⟩ := Jvm.FP.Core.nearest_spec m (2 ^ (L - 23)) hBpos
    have hB : 2 ^ (L - 23) ≤ 2 ^ 27 := Nat.pow_le_pow_right (by decide) (by omega)
    have hge : 1 ≤ Jvm.FP.Core.nearest m (2 ^ (L - 23)) := Jvm.FP.Core.nearest_ge hBpos (by
      rw [Nat.one_mul]
      exact Nat.le_trans (Nat.pow_le_pow_right (by decide) (by omega)) a1)
    generalize Jvm.FP.Core.nearest m (2 ^ (L - 23)) = c at n1 n2 n3 hge ⊢
    have n4 : c * 2 ^ (L - 23) ≤ m + 2 ^ 27 := by
      rw [Nat.mul_assoc] at n2
      omega
    unfold Jvm.FP.Core.settle Jvm.FP.Core.bound
    have hq : Jvm.FP.Core.b32.qmax = 104 := by decide
    by_cases hc : c < 2 ^ Jvm.FP.Core.b32.p
    · rw [if_pos hc, if_pos (by rw [hq]; omega)]
      refine ⟨_, _, c * 2 ^ (L - 23), rfl, by omega, ?_, n4, fun hz => ?_⟩
      · rw [Nat.mul_assoc, ← Nat.pow_add, show L - 23 + 122 = ((L : Int) - 50 + 149).toNat by omega]
      · have := Nat.mul_pos (show 0 < c by omega) hBpos
        omega
    · rw [if_neg hc, if_pos (by rw [hq]; omega)]
      have hc' : 2 ^ 24 ≤ c := Nat.le_of_not_lt hc
      refine ⟨_, _, 2 ^ 24 * 2 ^ (L - 23), rfl, by omega, ?_, Nat.le_trans (Nat.mul_le_mul_right _ hc') n4, fun hz => ?_⟩
      · show 2 ^ 23 * _ = _
        rw [Nat.mul_assoc, ← Nat.pow_add, ← Nat.pow_add, ← Nat.pow_add, show 24 + (L - 23 + 122) = 23 + ((L : Int) - 50 + 1 + 149).toNat by omega]
      · have := Nat.mul_pos (show 0 < 2 ^ 24 by decide) hBpos
        omega
/-- a float that is v times 2^-27, and no minus zero -/
def fv (a : UInt32) (v : Int) : Prop := ∃ s c q, Jvm.FP.Core.val32 a = .fin s c q ∧ c * 2 ^ (q + 149).toNat = v.natAbs * 2 ^ 122 ∧ (v < 0 → s = true) ∧ (0 ≤ v → s = false)
theorem fv_zero : fv Jvm.FP.fconst0 0 := ⟨false, 0, Jvm.FP.Core.b32.qmin, Jvm.FP.Core.val32_fconst0, by rw [Nat.zero_mul]; rfl, fun h => absurd h (by decide), fun _ => rfl⟩
theorem fv_add {a b : UInt32} {v w : Int} (ha : fv a v) (hb : fv b w) (hm : (v + w).natAbs < 2 ^ 50) : ∃ u : Int, fv (Jvm.FP.fadd a b) u ∧ u.natAbs ≤ (v + w).natAbs + 2 ^ 27 := by
  obtain ⟨s, c, q, a1, a2, a3, a4⟩ := ha
  obtain ⟨t, d, r, b1, b2, b3, b4⟩ := hb
  have fa := Jvm.FP.Core.val32_fits a
  have fb := Jvm.FP.Core.val32_fits b
  rw [a1] at fa
  rw [b1] at fb
  have hva : Jvm.FP.Core.zval Jvm.FP.Core.b32 (.fin s c q) = v * 2 ^ 122 := by
    show Jvm.FP.Core.signed s (c * 2 ^ (q - (-149)).toNat) = _
    rw [show (q - (-149)).toNat = (q + 149).toNat by omega, a2]
    unfold Jvm.FP.Core.signed
    by_cases hv : v < 0
    · rw [a3 hv, if_pos rfl]
      omega
    · rw [a4 (by omega), if_neg (by decide)]
      omega
  have hvb : Jvm.FP.Core.zval Jvm.FP.Core.b32 (.fin t d r) = w * 2 ^ 122 := by
    show Jvm.FP.Core.signed t (d * 2 ^ (r - (-149)).toNat) = _
    rw [show (r - (-149)).toNat = (r + 149).toNat by omega, b2]
    unfold Jvm.FP.Core.signed
    by_cases hv : w < 0
    · rw [b3 hv, if_pos rfl]
      omega
    · rw [b4 (by omega), if_neg (by decide)]
      omega
  obtain ⟨sg, n, e, p1, p2, p3⟩ := Jvm.FP.Core.sum_units fa fb
  have hdef : Jvm.FP.Core.exactSum (.fin s c q) (.fin t d r) = .fin (Jvm.FP.Core.sumSign s t (Jvm.FP.Core.sumUnits s c q t d r (min q r))) (Jvm.FP.Core.sumUnits s c q t d r (min q r)).natAbs (min q r) := rfl
  rw [hdef] at p1
  injection p1 with q1 q2 q3
  rw [hva, hvb] at p3
  have p2 : -149 ≤ e := p2
  have hN : n * 2 ^ (e + 149).toNat = (v + w).natAbs * 2 ^ 122 := by
    have h1 : Jvm.FP.Core.signed sg (n * 2 ^ (e - (-149)).toNat) = v * 2 ^ 122 + w * 2 ^ 122 := p3
    have h2 := congrArg Int.natAbs h1
    rw [Jvm.FP.Core.natAbs_signed, show (e - (-149)).toNat = (e + 149).toNat by omega] at h2
    rw [h2]
    omega
  have hsign : (v + w < 0 → sg = true) ∧ (0 ≤ v + w → sg = false) := by
    have h1 : Jvm.FP.Core.signed sg (n * 2 ^ (e - (-149)).toNat) = v * 2 ^ 122 + w * 2 ^ 122 := p3
    constructor
    · intro hneg
      cases hsg : sg with
      | true => rfl
      | false =>
        rw [hsg] at h1
        unfold Jvm.FP.Core.signed at h1
        rw [if_neg (by decide)] at h1
        omega
    · intro hpos
      cases hsg : sg with
      | false => rfl
      | true =>
        exfalso
        rw [hsg] at h1
        unfold Jvm.FP.Core.signed at h1
        rw [if_pos rfl] at h1
        have hz : v + w = 0 := by omega
        rw [hz] at hN
        have hn0 : n = 0 := by
          have hpp := Nat.two_pow_pos (e + 149).toNat
          rcases Nat.mul_eq_zero.mp (hN.trans (by rfl)) with h | h
          · exact h
          · omega
        have hU : Jvm.FP.Core.sumUnits s c q t d r (min q r) = 0 := by omega
        rw [hU, hsg] at q1
        have q1 : (s && t) = true := q1
        rw [Bool.and_eq_true] at q1
        have hv0 : v < 0 := by
          apply Int.lt_of_not_ge
          intro hc
          have := a4 hc
          rw [q1.1] at this
          cases this
        have hw0 : w < 0 := by
          apply Int.lt_of_not_ge
          intro hc
          have := b4 hc
          rw [q1.2] at this
          cases this
        omega
  obtain ⟨c', q', m', r1, r2, r3, r4, r5⟩ := ff_round (sg := sg) p2 hN hm
  have hval : Jvm.FP.Core.val32 (Jvm.FP.fadd a b) = .fin sg c' q' := by
    show Jvm.FP.Core.val32 (Jvm.FP.Core.fadd a b) = _
    rw [Jvm.FP.Core.val32_fadd, a1, b1, hdef, q1, q2, q3]
    exact r1
  cases hsg : sg with
  | true =>
    have hneg : v + w < 0 := by
      apply Int.lt_of_not_ge
      intro hc
      have := hsign.2 hc
      rw [hsg] at this
      cases this
    refine ⟨-(m' : Int), ⟨true, c', q', by rw [hval, hsg], by rw [r3, Int.natAbs_neg, Int.natAbs_natCast], fun _ => rfl, fun hc => ?_⟩, by omega⟩
    have : m' = 0 := by omega
    have := r5 this
    omega
  | false =>
    exact ⟨(m' : Int), ⟨false, c', q', by rw [hval, hsg], by rw [r3, Int.natAbs_natCast], fun hc => by omega, fun _ => rfl⟩, by omega⟩

