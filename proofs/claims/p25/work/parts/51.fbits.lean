/-! the bits of a float, got by doubling -/
def ft (E T : Nat) : UInt32 := UInt32.ofNat (E * 2 ^ 23 + T)
theorem ft_nat {E T : Nat} (hE : E < 256) (hT : T < 2 ^ 23) : (ft E T).toNat = E * 2 ^ 23 + T := by
  unfold ft
  rw [UInt32.toNat_ofNat_of_lt']
  show E * 2 ^ 23 + T < 2 ^ 32
  omega
theorem ff_dec {s : Bool} {E T : Nat} (h1 : 1 ≤ E) (hE : E < 255) (hT : T < 2 ^ 23) : Jvm.FP.Core.decode Jvm.FP.Core.b32 ((s.toNat * 256 + E) * 2 ^ 23 + T) = .fin s (2 ^ 23 + T) ((E : Int) - 150) := by
  have h := Jvm.FP.Core.decode_assemble Jvm.FP.Core.b32 s E T (by show E < 256; omega) hT
  rw [show Jvm.FP.Core.assemble Jvm.FP.Core.b32 s E T = (s.toNat * 256 + E) * 2 ^ 23 + T from rfl] at h
  rw [h, if_neg (by show ¬ E = 255; omega), if_neg (by omega)]
  show Jvm.FP.Core.Datum.fin s (2 ^ 23 + T) (-149 + ((E : Int) - 1)) = _
  rw [show (-149 : Int) + ((E : Int) - 1) = (E : Int) - 150 by omega]
theorem ft_val {E T : Nat} (h1 : 1 ≤ E) (hE : E < 255) (hT : T < 2 ^ 23) : Jvm.FP.Core.val32 (ft E T) = .fin false (2 ^ 23 + T) ((E : Int) - 150) := by
  unfold Jvm.FP.Core.val32
  rw [ft_nat (by omega) hT]
  have := ff_dec (s := false) h1 hE hT
  rw [show (false.toNat * 256 + E) = E by show 0 * 256 + E = E; omega] at this
  exact this
theorem ft_two {E T : Nat} (h1 : 1 ≤ E) (hE : E < 254) (hT : T < 2 ^ 23) : Jvm.FP.fmul (ft E T) Jvm.FP.fconst2 = ft (E + 1) T := by
  have hv := ft_val (E := E + 1) (by omega) (by omega) hT
  have h2 : Jvm.FP.Core.val32 Jvm.FP.fconst2 = .fin false (2 ^ 23) (-22) := by decide +kernel
  refine Jvm.FP.Core.val32_inj ?_ ?_
  all_goals
    have hm : Jvm.FP.Core.val32 (Jvm.FP.fmul (ft E T) Jvm.FP.fconst2) = .fin false (2 ^ 23 + T) (((E + 1 : Nat) : Int) - 150) := by
      show Jvm.FP.Core.val32 (Jvm.FP.Core.fmul (ft E T) Jvm.FP.fconst2) = _
      rw [Jvm.FP.Core.val32_fmul, ft_val h1 (by omega) hT, h2]
      refine Jvm.FP.Core.roundRatio_exact Jvm.FP.Core.good_b32 (by decide) ?_ ?_
      · have hfit := Jvm.FP.Core.val32_fits (ft (E + 1) T)
        rw [hv] at hfit
        exact hfit
      · rw [show ((E : Int) - 150 + -22 - (((E + 1 : Nat) : Int) - 150)).toNat = 0 by omega, show ((((E + 1 : Nat) : Int) - 150) - ((E : Int) - 150 + -22)).toNat = 23 by omega, Nat.pow_zero, Nat.mul_one, Nat.mul_one]
  · rw [hm]
    exact Jvm.FP.Core.Datum.noConfusion
  · rw [hm, hv]
theorem ff_nn {z : UInt32} (h : Jvm.FP.Core.val32 z ≠ .nan) : hb_nn z = some z := by
  have h1 := (Jvm.FP.Core.ne_nan32 z).mp h
  unfold hb_nn
  rw [if_pos]
  rw [UInt32.le_iff_toNat_le, UInt32.toNat_and]
  show z.toNat &&& (2 ^ 31 - 1) ≤ 2139095040
  rw [Nat.and_two_pow_sub_one_eq_mod]
  exact h1
theorem ft_cmp {E T : Nat} (h1 : 1 ≤ E) (hE : E < 255) (hT : T < 2 ^ 23) : (0 ≤ (Op.cmpValue (FP.fcmp (ft E T) 1258291200) .g)) ↔ 150 ≤ E := by
  have hn : Jvm.FP.Core.val32 (ft E T) ≠ .nan := by rw [ft_val h1 hE hT]; exact Jvm.FP.Core.Datum.noConfusion
  have hk : FP.fcmp (ft E T) 1258291200 = some (compare (Jvm.FP.Core.fkey (ft E T)) (Jvm.FP.Core.fkey 1258291200)) := Jvm.FP.Core.fcmp_key hn (by decide +kernel)
  have hf : Jvm.FP.Core.fkey (ft E T) = ((E * 2 ^ 23 + T : Nat) : Int) := by
    unfold Jvm.FP.Core.fkey
    rw [ft_nat (by omega) hT, if_neg (by omega)]
  rw [hk, hf, show Jvm.FP.Core.fkey 1258291200 = ((150 * 2 ^ 23 : Nat) : Int) by decide +kernel]
  by_cases h : 150 ≤ E
  · have h2 : compare ((E * 2 ^ 23 + T : Nat) : Int) ((150 * 2 ^ 23 : Nat) : Int) ≠ .lt := by
      rw [Ne, Int.compare_eq_lt]
      omega
    cases hc : compare ((E * 2 ^ 23 + T : Nat) : Int) ((150 * 2 ^ 23 : Nat) : Int) with
    | lt => exact absurd hc h2
    | eq => exact ⟨fun _ => h, fun _ => by decide⟩
    | gt => exact ⟨fun _ => h, fun _ => by decide⟩
  · have h2 : compare ((E * 2 ^ 23 + T : Nat) : Int) ((150 * 2 ^ 23 : Nat) : Int) = .lt := by
      rw [Int.compare_eq_lt]
      omega
    rw [h2]
    exact ⟨fun hc => absurd hc (by decide), fun hc => absurd hc h⟩
theorem ft_int {T : Nat} (hT : T < 2 ^ 23) : FP.f2i (ft 150 T) = nI (2 ^ 23 + T) := by
  have hv := ft_val (E := 150) (by decide) (by decide) hT
  have h1 : (FP.f2i (ft 150 T)).toInt = _ := Jvm.FP.Core.f2i_val (a := ft 150 T) (by rw [hv]; exact Jvm.FP.Core.Datum.noConfusion)
  apply Int32.toInt_inj.mp
  rw [h1, hv, nI_toInt (by omega)]
  show max (-2 ^ 31) (min (2 ^ 31 - 1) (((2 ^ 23 + T) * 2 ^ (((150 : Nat) : Int) - 150 - (-149)).toNat / 2 ^ 149 : Nat) : Int)) = _
  rw [show (((150 : Nat) : Int) - 150 - (-149)).toNat = 149 by decide, Nat.mul_div_cancel _ (Nat.two_pow_pos 149)]
  omega
theorem ff_shl : ∀ E, E < 256 → nI E <<< (23 &&& 31) = nI (E * 2 ^ 23) := by decide +kernel
theorem ff_or {i b a : Nat} (h : a < 2 ^ i) : nI (2 ^ i * b) ||| nI a = nI (2 ^ i * b + a) := by
  rw [← Int32.toBitVec_inj, Int32.toBitVec_or]
  show BitVec.ofNat 32 (2 ^ i * b) ||| BitVec.ofNat 32 a = BitVec.ofNat 32 (2 ^ i * b + a)
  rw [← BitVec.ofNat_or, Nat.two_pow_add_eq_or_of_lt h]
/-- the loop that doubles -/
theorem ft_loop {E T : Nat} (h1 : 1 ≤ E) (hE : E ≤ 150) (hT : T < 2 ^ 23) (p0 : UInt32) (sg : Int32) : jn_X5_bitsOf_34 p0 sg (ft E T) = some ((sg ||| nI (E * 2 ^ 23)) ||| nI T) := by
  unfold jn_X5_bitsOf_34 ll_X5_bitsOf_42
  rw [pl_for (f := fun s => lb_X5_bitsOf_42 p0 sg s.1 s.2.1 s.2.2) (s := (ft E T, (150 : Int32), (0 : Int32))) (t := (ft 150 T, nI E)) (150 - E) (fun i => (ft (E + i) T, nI (150 - i), nI i)) rfl]
  · rw [Option.bind_some]
    unfold jn_X5_bitsOf_71
    rw [ft_int hT, ff_shl E (by omega), show (8388608 : Int32) = nI (2 ^ 23) by decide, pl_sub (by omega), Nat.add_sub_cancel_left]
  · intro i hi
    show lb_X5_bitsOf_42 p0 sg (ft (E + i) T) (nI (150 - i)) (nI i) = _
    unfold lb_X5_bitsOf_42
    have hn : Jvm.FP.Core.val32 (FP.fmul (ft (E + i) T) FP.fconst2) ≠ .nan := by
      rw [ft_two (by omega) (by omega) hT, ft_val (by omega) (by omega) hT]
      exact Jvm.FP.Core.Datum.noConfusion
    rw [if_neg (by show ¬ nI 150 ≤ nI i; rw [nI_leI (by omega) (by omega)]; omega), if_neg (by rw [ft_cmp (by omega) (by omega) hT]; omega), ff_nn hn, Option.bind_some, ft_two (by omega) (by omega) hT]
    simp only [hb_nm, nI_1]
    rw [show 150 - i = (150 - (i + 1)) + 1 by omega, pl_dec]
    rfl
  · show lb_X5_bitsOf_42 p0 sg (ft (E + (150 - E)) T) (nI (150 - (150 - E))) (nI (150 - E)) = _
    unfold lb_X5_bitsOf_42
    rw [if_neg (by show ¬ nI 150 ≤ nI (150 - E); rw [nI_leI (by omega) (by omega)]; omega), if_pos (by rw [ft_cmp (by omega) (by omega) hT]; omega), show E + (150 - E) = 150 by omega, show 150 - (150 - E) = E by omega]
  · rw [pl_F]; omega
theorem fv_form {a : UInt32} {v : Int} (h : fv a v) (hv : v.natAbs < 2 ^ 50) : (v = 0 ∧ a = 0) ∨ ∃ E T, 1 ≤ E ∧ E ≤ 150 ∧ T < 2 ^ 23 ∧ v ≠ 0 ∧ a = UInt32.ofNat (((decide (v < 0)).toNat * 256 + E) * 2 ^ 23 + T) := by
  obtain ⟨s, c, q, h1, h2, h3, h4⟩ := h
  have hf := Jvm.FP.Core.val32_fits a
  have ha : a = Jvm.FP.Core.of32 (.fin s c q) := by rw [← h1, Jvm.FP.Core.of32_val32 (by rw [h1]; exact Jvm.FP.Core.Datum.noConfusion)]
  rw [h1] at hf
  obtain ⟨f1, f2, f3, f4⟩ := hf
  have f1 : c < 2 ^ 24 := f1
  have f2 : -149 ≤ q := f2
  have f4 : q = -149 ∨ 2 ^ 23 ≤ c := f4
  by_cases hz : v = 0
  · left
    refine ⟨hz, ?_⟩
    have hs := h4 (by omega)
    rw [hz] at h2
    have hc : c = 0 := by
      have hpp := Nat.two_pow_pos (q + 149).toNat
      rcases Nat.mul_eq_zero.mp (h2.trans (by rfl)) with h | h
      · exact h
      · omega
    have hq : q = -149 := by omega
    rw [ha, hs, hc, hq]
    decide +kernel
  · right
    have hge : 2 ^ 122 ≤ c * 2 ^ (q + 149).toNat := by
      rw [h2]
      exact Nat.le_mul_of_pos_left _ (by omega)
    have hc : 2 ^ 23 ≤ c := by
      rcases f4 with f4 | f4
      · rw [f4, show ((-149 : Int) + 149).toNat = 0 by decide, Nat.pow_zero, Nat.mul_one] at hge
        have : (2 : Nat) ^ 24 ≤ 2 ^ 122 := by decide
        omega
      · exact f4
    have hq : q ≤ 0 := by
      apply Int.le_of_not_gt
      intro hq
      have e1 : 2 ^ 23 * 2 ^ 150 ≤ c * 2 ^ (q + 149).toNat := Nat.mul_le_mul hc (Nat.pow_le_pow_right (by decide) (by omega))
      rw [h2] at e1
      have e2 : v.natAbs * 2 ^ 122 < 2 ^ 50 * 2 ^ 122 := Nat.mul_lt_mul_of_pos_right hv (Nat.two_pow_pos _)
      have e3 : (2 : Nat) ^ 50 * 2 ^ 122 < 2 ^ 23 * 2 ^ 150 := by decide
      omega
    refine ⟨(q + 150).toNat, c - 2 ^ 23, by omega, by omega, by omega, hz, ?_⟩
    have hs : s = decide (v < 0) := by
      by_cases hn : v < 0
      · rw [h3 hn, decide_eq_true hn]
      · rw [h4 (by omega), decide_eq_false hn]
    rw [ha, ← hs]
    show UInt32.ofNat (if c < 2 ^ 23 then _ else (s.toNat * 256 + ((q - (-149)).toNat + 1)) * 2 ^ 23 + (c - 2 ^ 23)) = _
    rw [if_neg (by omega), show (q - (-149)).toNat + 1 = (q + 150).toNat by omega]
theorem fv_nan {a : UInt32} {v : Int} (h : fv a v) : Jvm.FP.Core.val32 a ≠ .nan := by
  obtain ⟨s, c, q, h1, -⟩ := h
  rw [h1]
  exact Jvm.FP.Core.Datum.noConfusion
theorem fv_cmp0 {a : UInt32} {v : Int} (h : fv a v) (hv : v.natAbs < 2 ^ 50) : FP.fcmp a FP.fconst0 = some (compare v 0) := by
  have hk : FP.fcmp a FP.fconst0 = some (compare (Jvm.FP.Core.fkey a) (Jvm.FP.Core.fkey FP.fconst0)) := Jvm.FP.Core.fcmp_key (fv_nan h) (by decide +kernel)
  rw [hk, show Jvm.FP.Core.fkey FP.fconst0 = 0 by decide +kernel]
  congr 1
  rcases fv_form h hv with ⟨h1, h2⟩ | ⟨E, T, h1, h2, h3, h4, h5⟩
  · rw [h1, h2]
    decide +kernel
  · have hn : a.toNat = ((decide (v < 0)).toNat * 256 + E) * 2 ^ 23 + T := by
      rw [h5, UInt32.toNat_ofNat_of_lt']
      show _ < 2 ^ 32
      cases decide (v < 0)
      · show (0 * 256 + E) * 2 ^ 23 + T < 2 ^ 32; omega
      · show (1 * 256 + E) * 2 ^ 23 + T < 2 ^ 32; omega
    unfold Jvm.FP.Core.fkey
    rw [hn]
    by_cases hneg : v < 0
    · rw [decide_eq_true hneg]
      show compare (if 2 ^ 31 ≤ (1 * 256 + E) * 2 ^ 23 + T then ((2 ^ 31 : Nat) : Int) - (((1 * 256 + E) * 2 ^ 23 + T : Nat) : Int) else _) 0 = _
      rw [if_pos (by omega), Int.compare_eq_lt.mpr hneg, Int.compare_eq_lt]
      omega
    · rw [decide_eq_false hneg]
      show compare (if 2 ^ 31 ≤ (0 * 256 + E) * 2 ^ 23 + T then _ else (((0 * 256 + E) * 2 ^ 23 + T : Nat) : Int)) 0 = _
      rw [if_neg (by omega), Int.compare_eq_gt.mpr (show 0 < v by omega), Int.compare_eq_gt]
      omega
