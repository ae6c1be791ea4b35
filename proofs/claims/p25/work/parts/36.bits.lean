/-! sets of pages as bits; moods -/
def bt (x : Int32) (p : Nat) : Bool := x.toBitVec.getLsbD p
theorem bt_or (x y : Int32) (p : Nat) : bt (x ||| y) p = (bt x p || bt y p) := by
  unfold bt
  rw [Int32.toBitVec_or, BitVec.getLsbD_or]
theorem bt_one : ∀ p, p < 32 → ∀ j, j < 32 → bt ((1 : Int32) <<< (nI p &&& 31)) j = decide (j = p) := by decide +kernel
theorem bt_zero (p : Nat) : bt 0 p = false := by
  unfold bt
  simp
theorem bt_and0 (x y : Int32) : x &&& y = 0 ↔ ∀ p, p < 32 → bt x p = true → bt y p = true → False := by
  rw [← Int32.toBitVec_inj]
  constructor
  · intro h p hp h1 h2
    have h3 : (x &&& y).toBitVec.getLsbD p = (0 : Int32).toBitVec.getLsbD p := by rw [h]
    rw [Int32.toBitVec_and, BitVec.getLsbD_and] at h3
    unfold bt at h1 h2
    rw [h1, h2] at h3
    simp at h3
  · intro h
    apply BitVec.eq_of_getLsbD_eq
    intro p hp
    rw [Int32.toBitVec_and, BitVec.getLsbD_and]
    cases h1 : x.toBitVec.getLsbD p
    · simp
    · cases h2 : y.toBitVec.getLsbD p
      · simp
      · exact (h p hp h1 h2).elim
theorem bt_isIn (x : Int32) {p : Nat} (hp : p < 32) : fn_X3_isIn (nI p) x = some (if bt x p = true then 1 else 0) := by
  have h1 : ((nI p).toUInt32 &&& Int32.toUInt32 31) = UInt32.ofNat p := (by decide +kernel : ∀ p, p < 32 → ((nI p).toUInt32 &&& Int32.toUInt32 31) = UInt32.ofNat p) p hp
  unfold fn_X3_isIn
  rw [h1]
  have h2 : (((x.toUInt32 >>> UInt32.ofNat p).toInt32) &&& 1 = 1) ↔ bt x p = true := by
    rw [← Int32.toBitVec_inj, Int32.toBitVec_and]
    unfold bt
    have h3 : ((x.toUInt32 >>> UInt32.ofNat p).toInt32).toBitVec = x.toBitVec >>> p := by
      have h4 : (UInt32.ofNat p).toBitVec.toNat % 32 = p := (by decide +kernel : ∀ p, p < 32 → (UInt32.ofNat p).toBitVec.toNat % 32 = p) p hp
      apply BitVec.eq_of_getLsbD_eq
      intro i hi
      simp [h4]
      rw [Nat.mod_eq_of_lt hp]
    rw [h3]
    constructor
    · intro h
      have h5 : (x.toBitVec >>> p &&& (1 : Int32).toBitVec).getLsbD 0 = (1 : Int32).toBitVec.getLsbD 0 := by rw [h]
      rw [BitVec.getLsbD_and, BitVec.getLsbD_ushiftRight] at h5
      simpa using h5
    · intro h
      apply BitVec.eq_of_getLsbD_eq
      intro i hi
      rw [BitVec.getLsbD_and, BitVec.getLsbD_ushiftRight]
      by_cases hi0 : i = 0
      · subst hi0
        simp [h]
      · have h6 : (1 : Int32).toBitVec.getLsbD i = false := (by decide +kernel : ∀ i, i < 32 → i ≠ 0 → (1 : Int32).toBitVec.getLsbD i = false) i hi hi0
        rw [h6, Bool.and_false]
  by_cases hb : bt x p = true
  · rw [if_pos (h2.mpr hb), if_pos hb]
  · rw [if_neg (fun h => hb (h2.mp h)), if_neg hb]
/-- a mood of so many tenths -/
def pf_mood (x : Int32) : UInt32 := FP.fdiv (FP.i2f x) 1092616192
theorem pf_moods : ∀ t, t < 199 → hb_nn (pf_mood (nI t - 99)) = some (pf_mood (nI t - 99)) ∧ ((Op.cmpValue (FP.fcmp (pf_mood (nI t - 99)) FP.fconst0) .l) ≤ 0 ↔ (nI t - 99) ≤ 0) := by decide +kernel
theorem pf_range {x : Int32} (h1 : -99 ≤ x.toInt) (h2 : x.toInt ≤ 99) : ∃ t, t < 199 ∧ x = nI t - 99 := by
  refine ⟨(x.toInt + 99).toNat, by omega, ?_⟩
  apply Int32.toInt_inj.mp
  have h3 : (nI (x.toInt + 99).toNat).toInt = ((x.toInt + 99).toNat : Int) := nI_toInt (by omega)
  rw [Int32.toInt_sub, h3, show (99 : Int32).toInt = 99 from rfl, Int.bmod_def]
  omega
theorem pf_nn {x : Int32} (h1 : -99 ≤ x.toInt) (h2 : x.toInt ≤ 99) : hb_nn (pf_mood x) = some (pf_mood x) ∧ ((Op.cmpValue (FP.fcmp (pf_mood x) FP.fconst0) .l) ≤ 0 ↔ x ≤ 0) := by
  obtain ⟨t, ht, rfl⟩ := pf_range h1 h2
  exact pf_moods t ht
theorem pc_mood {k n p : Nat} {B : Nat → Int32} {σ : hb_Mem} (hk : pl_st k) (h : pl_WB n B) (hr : pl_RS σ k n B) (hp : p < n) : fn_X2_moodOf k (nI p) σ = some (pf_mood (B (1 + 13 * p))) := by
  have hn := h.1
  obtain ⟨r1, r2, r3, r4, r5, r6, r7, r8, r9⟩ := pl_rows hk
  obtain ⟨a1, a2, a3, a4, a5⟩ := hr.2.1 _ hp
  have hw := (h.2.2.1 p hp).1
  unfold fn_X2_moodOf
  rw [pl_at r1 (by omega), Option.bind_some, a1]
  have := (pf_nn hw.1 hw.2).1
  unfold pf_mood at this
  rw [this]
  rfl
theorem pc_kind {k n p : Nat} {B : Nat → Int32} {σ : hb_Mem} (hk : pl_st k) (h : pl_WB n B) (hr : pl_RS σ k n B) (hp : p < n) : fn_X2_kindOf k (nI p) σ = some (if pl_m B p = 0 then (if B (1 + 13 * p) ≤ 0 then 2 else 1) else 0) := by
  have hn := h.1
  have hm := h.m hp
  obtain ⟨r1, r2, r3, r4, r5, r6, r7, r8, r9⟩ := pl_rows hk
  obtain ⟨a1, a2, a3, a4, a5⟩ := hr.2.1 _ hp
  have hw := (h.2.2.1 p hp).1
  unfold fn_X2_kindOf
  rw [pl_at r4 (by omega), Option.bind_some, a4, hm.2]
  by_cases hz : pl_m B p = 0
  · rw [if_pos (by show nI (pl_m B p) ≤ nI 0; rw [nI_leI (by omega) (by omega)]; omega), if_pos hz, pc_mood hk h hr hp, Option.bind_some]
    by_cases hy : B (1 + 13 * p) ≤ 0
    · rw [if_pos ((pf_nn hw.1 hw.2).2.mpr hy), if_pos hy]
    · rw [if_neg (fun h => hy ((pf_nn hw.1 hw.2).2.mp h)), if_neg hy]
  · rw [if_neg (by show ¬ nI (pl_m B p) ≤ nI 0; rw [nI_leI (by omega) (by omega)]; omega), if_neg hz]
theorem pl_dec (m : Nat) : nI (m + 1) + (-1) = nI m := by
  rw [nI_succ, Int32.add_assoc, show (1 : Int32) + (-1) = 0 from by decide, Int32.add_zero]

