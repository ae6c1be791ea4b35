/-! what bitsOf tells: the class alone -/
theorem fv_bitsC {a : UInt32} {v : Int} (h : fv a v) (hv : v.natAbs < 2 ^ 50) : fn_X5_bitsOf a = some a.toInt32 := by
  have hc := fv_cmp0 h hv
  unfold fn_X5_bitsOf jn_X5_bitsOf_21
  rw [hc]
  rcases fv_form h hv with ⟨h1, h2⟩ | ⟨E, T, h1, h2, h3, h4, h5⟩
  · rw [h1, h2]
    decide +kernel
  · by_cases hneg : v < 0
    · rw [Int.compare_eq_lt.mpr hneg, if_neg (by decide), if_neg (by decide), if_neg (by decide)]
      rw [decide_eq_true hneg] at h5
      have hng : FP.fneg a = ft E T := by
        rw [h5]
        show UInt32.ofNat ((1 * 256 + E) * 2 ^ 23 + T) ^^^ 0x80000000 = UInt32.ofNat (E * 2 ^ 23 + T)
        apply UInt32.toNat_inj.mp
        rw [UInt32.toNat_xor, UInt32.toNat_ofNat_of_lt' (by show _ < 2 ^ 32; omega), UInt32.toNat_ofNat_of_lt' (by show _ < 2 ^ 32; omega)]
        have hx := (Jvm.FP.xor_top (a := (1 * 256 + E) * 2 ^ 23 + T) (k := 31) (by omega)).2 (by omega)
        show ((1 * 256 + E) * 2 ^ 23 + T) ^^^ 2 ^ 31 = _
        rw [hx]
        omega
      rw [hng, ft_loop h1 h2 h3, Int32.or_assoc, show E * 2 ^ 23 = 2 ^ 23 * E by omega, ff_or h3, show (-2147483648 : Int32) = nI (2 ^ 31 * 1) by decide, ff_or (by omega), h5]
      congr 1
      show nI (2 ^ 31 * 1 + (2 ^ 23 * E + T)) = nI ((1 * 256 + E) * 2 ^ 23 + T)
      congr 1
      omega
    · rw [Int.compare_eq_gt.mpr (show 0 < v by omega), if_neg (by decide), if_pos (by decide), if_pos (by decide)]
      rw [decide_eq_false hneg] at h5
      have hft : a = ft E T := by
        rw [h5]
        show UInt32.ofNat ((0 * 256 + E) * 2 ^ 23 + T) = UInt32.ofNat (E * 2 ^ 23 + T)
        rw [show 0 * 256 + E = E by omega]
      rw [hft, ft_loop h1 h2 h3, show (0 : Int32) ||| nI (E * 2 ^ 23) = nI (E * 2 ^ 23) from Int32.zero_or, show E * 2 ^ 23 = 2 ^ 23 * E by omega, ff_or h3]
      congr 1
      show nI (2 ^ 23 * E + T) = nI (E * 2 ^ 23 + T)
      rw [Nat.mul_comm]
theorem ws_bitsC {n : Nat} {B : Nat → Int32} {M : pb_M} (h : pl_WB n B) (hM : pb_good (pg_nx B) n M) {g : Nat} (hg : g ∈ M.1) : fn_X5_bitsOf (ws B M g (M.2.1 g + 1)) = some (ws B M g (M.2.1 g + 1)).toInt32 ∧ ¬ (ws B M g (M.2.1 g + 1)).toInt32 = -5 := by
  obtain ⟨v, h1, h2⟩ := ws_fv h hM hg (M.2.1 g + 1) (Nat.le_refl _)
  have hd := hM.d hg
  refine ⟨fv_bitsC h1 (by omega), fun hc => ?_⟩
  have e : ws B M g (M.2.1 g + 1) = 4294967291 := by
    have e1 : (ws B M g (M.2.1 g + 1)).toInt32.toUInt32 = (-5 : Int32).toUInt32 := by rw [hc]
    have e2 : (ws B M g (M.2.1 g + 1)).toInt32.toUInt32 = ws B M g (M.2.1 g + 1) := rfl
    rw [e2] at e1
    exact e1
  have hn := fv_nan h1
  rw [e] at hn
  exact hn (by decide +kernel)
theorem pf_bitsC {x : Int32} (h1 : -99 ≤ x.toInt) (h2 : x.toInt ≤ 99) : fn_X5_bitsOf (pf_mood x) = some (pf_mood x).toInt32 := by
  obtain ⟨v, k1, k2⟩ := pf_fv h1 h2
  exact fv_bitsC k1 (by omega)
theorem pf_pos0 : ∀ t, t < 199 → (0 < (pf_mood (nI t - 99)).toInt32 ↔ ¬ (nI t - 99) ≤ 0) := by decide +kernel
theorem pf_pos {x : Int32} (h1 : -99 ≤ x.toInt) (h2 : x.toInt ≤ 99) : 0 < (pf_mood x).toInt32 ↔ ¬ x ≤ 0 := by
  obtain ⟨t, ht, rfl⟩ := pf_range h1 h2
  exact pf_pos0 t ht
theorem pf_inc0 : ∀ t, t < 198 → Jvm.FP.Core.fkey (pf_mood (nI t - 99)) < Jvm.FP.Core.fkey (pf_mood (nI (t + 1) - 99)) := by decide +kernel
theorem pf_inc : ∀ (d t : Nat), t + d + 1 < 199 → Jvm.FP.Core.fkey (pf_mood (nI t - 99)) < Jvm.FP.Core.fkey (pf_mood (nI (t + d + 1) - 99))
  | 0, t, h => pf_inc0 t (by omega)
  | d + 1, t, h => by
    have h1 := pf_inc d t (by omega)
    have h2 := pf_inc0 (t + d + 1) (by omega)
    rw [show t + (d + 1) + 1 = t + d + 1 + 1 by omega]
    exact Int.lt_trans h1 h2
theorem pf_inj {x y : Int32} (h1 : -99 ≤ x.toInt) (h2 : x.toInt ≤ 99) (k1 : -99 ≤ y.toInt) (k2 : y.toInt ≤ 99) (h : (pf_mood x).toInt32 = (pf_mood y).toInt32) : x = y := by
  have e : pf_mood x = pf_mood y := by
    have e1 : (pf_mood x).toInt32.toUInt32 = (pf_mood y).toInt32.toUInt32 := by rw [h]
    exact e1
  obtain ⟨t, ht, rfl⟩ := pf_range h1 h2
  obtain ⟨u, hu, rfl⟩ := pf_range k1 k2
  rcases Nat.lt_trichotomy t u with q | q | q
  · have := pf_inc (u - t - 1) t (by omega)
    rw [show t + (u - t - 1) + 1 = u by omega, e] at this
    exact absurd this (Int.lt_irrefl _)
  · rw [q]
  · have := pf_inc (t - u - 1) u (by omega)
    rw [show u + (t - u - 1) + 1 = t by omega, e] at this
    exact absurd this (Int.lt_irrefl _)
