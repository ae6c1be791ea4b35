/-! what is recognised: the class alone -/
theorem hc_r0' : hc_rf 0 0 = 1 := by decide
theorem cs_page {σ : hb_Mem} {n : Nat} {B : Nat → Int32} (h : pl_WB n B) (hr : pl_RS σ 1 n B) (x : Int32) : (∃ p, p < n ∧ x = nI p ∧ fn_X2_hasPage 1 x σ = some 1) ∨ ((∀ p, p < n → x ≠ nI p) ∧ fn_X2_hasPage 1 x σ = some 0) := by
  have hn := h.1
  unfold fn_X2_hasPage
  rw [hr.1]
  by_cases h0 : x < 0
  · right
    refine ⟨fun p hp hx => ?_, by rw [if_pos h0]⟩
    rw [hx] at h0
    exact nI_pos (by omega) h0
  · obtain ⟨t, ht, rfl⟩ := pl_nat h0
    rw [if_neg h0]
    by_cases h1 : n ≤ t
    · right
      refine ⟨fun p hp hx => ?_, by rw [if_pos (by rw [nI_leI (by omega) (by omega)]; exact h1)]⟩
      have := (nI_eq (by omega) (by omega)).mp hx
      omega
    · left
      exact ⟨t, by omega, rfl, by rw [if_neg (by rw [nI_leI (by omega) (by omega)]; exact h1)]⟩
theorem cs_hasPage {σ : hb_Mem} {n p : Nat} {B : Nat → Int32} (h : pl_WB n B) (hr : pl_RS σ 1 n B) (hp : p < 2 ^ 31) : fn_X2_hasPage 1 (nI p) σ = some (if p < n then 1 else 0) := by
  have hn := h.1
  rcases cs_page h hr (nI p) with ⟨q, hq, e, e1⟩ | ⟨hno, e1⟩
  · have := (nI_eq hp (by omega)).mp e
    rw [e1, if_pos (by omega)]
  · rw [e1, if_neg (fun hc => hno p hc rfl)]
theorem cs_choice {σ : hb_Mem} {n : Nat} {B : Nat → Int32} (h : pl_WB n B) (hr : pl_RS σ 1 n B) (x y : Int32) : (∃ p c, p < n ∧ c < pl_m B p ∧ x = nI p ∧ y = nI c ∧ fn_X2_hasChoice 1 x y σ = some 1) ∨ ((∀ p c, p < n → c < pl_m B p → ¬ (x = nI p ∧ y = nI c)) ∧ fn_X2_hasChoice 1 x y σ = some 0) := by
  have hn := h.1
  unfold fn_X2_hasChoice
  rcases cs_page h hr x with ⟨p, hp, hx, e1⟩ | ⟨hno, e1⟩
  · obtain ⟨m1, m2⟩ := h.m hp
    have hsz : fn_X1_at (hc_rf 1 4) (nI p) σ = some (nI (pl_m B p)) := by
      rw [pl_at (r := hc_rf 1 4) (a := 9) (n := 32) (by decide) (by omega), ← m2]
      exact congrArg some (hr.2.1 p hp).2.2.2.1
    rw [e1, Option.bind_some, if_neg (by decide), hx, hsz, Option.bind_some]
    by_cases h0 : y < 0
    · right
      refine ⟨fun p' c' _ hc' hh => ?_, by rw [if_pos h0]⟩
      have hm3 : pl_m B p' ≤ 3 := (h.m (by assumption)).1
      rw [hh.2] at h0
      exact nI_pos (by omega) h0
    · obtain ⟨t, ht, rfl⟩ := pl_nat h0
      rw [if_neg h0]
      by_cases h1 : pl_m B p ≤ t
      · right
        refine ⟨fun p' c' hp' hc' hh => ?_, by rw [if_pos (by rw [nI_leI (by omega) (by omega)]; exact h1)]⟩
        have hm3 : pl_m B p' ≤ 3 := (h.m hp').1
        have e3 := (nI_eq (by omega) (by omega)).mp hh.1
        have e4 := (nI_eq (by omega) (by omega)).mp hh.2
        subst e3
        omega
      · left
        exact ⟨p, t, hp, by omega, rfl, rfl, by rw [if_neg (by rw [nI_leI (by omega) (by omega)]; exact h1)]⟩
  · right
    rw [e1]
    exact ⟨fun p c hp _ hh => hno p hp hh.1, rfl⟩
theorem cs_isReader (x : Int32) : (∃ r, r < 2 ∧ x = nI r ∧ fn_X5_isReader x = some 1) ∨ ((∀ r, r < 2 → x ≠ nI r) ∧ fn_X5_isReader x = some 0) := by
  unfold fn_X5_isReader
  by_cases h0 : x < 0
  · right
    refine ⟨fun p hp hx => ?_, by rw [if_pos h0]⟩
    rw [hx] at h0
    exact nI_pos (by omega) h0
  · obtain ⟨t, ht, rfl⟩ := pl_nat h0
    rw [if_neg h0]
    by_cases h1 : 2 ≤ t
    · right
      refine ⟨fun p hp hx => ?_, by rw [if_pos (by show nI 2 ≤ nI t; rw [nI_leI (by omega) (by omega)]; exact h1)]⟩
      have := (nI_eq (by omega) (by omega)).mp hx
      omega
    · left
      exact ⟨t, by omega, rfl, by rw [if_neg (by show ¬ nI 2 ≤ nI t; rw [nI_leI (by omega) (by omega)]; exact h1)]⟩
theorem cs_reader1 {r : Nat} (hr : r < 2) : fn_X5_isReader (nI r) = some 1 := by
  rcases cs_isReader (nI r) with ⟨q, hq, e, e1⟩ | ⟨hno, e1⟩
  · exact e1
  · exact absurd rfl (hno r hr)
theorem cs_number1 {c : Nat} (hc : c < 3) : fn_X5_isChoiceNumber (nI c) = some 1 := by
  unfold fn_X5_isChoiceNumber
  rw [if_neg (nI_pos (by omega)), if_neg (by show ¬ nI 3 ≤ nI c; rw [nI_leI (by omega) (by omega)]; omega)]
theorem cs_mood (x : Int32) : ((-99 ≤ x.toInt ∧ x.toInt ≤ 99) ∧ fn_X5_isMood x = some 1) ∨ (¬ (-99 ≤ x.toInt ∧ x.toInt ≤ 99) ∧ fn_X5_isMood x = some 0) := by
  unfold fn_X5_isMood
  by_cases h1 : x < -99
  · right
    rw [if_pos h1]
    rw [Int32.lt_iff_toInt_lt] at h1
    have h1 : x.toInt < -99 := h1
    exact ⟨by omega, rfl⟩
  · by_cases h2 : 99 < x
    · right
      rw [if_neg h1, if_pos h2]
      rw [Int32.lt_iff_toInt_lt] at h2
      have h2 : 99 < x.toInt := h2
      exact ⟨by omega, rfl⟩
    · left
      rw [if_neg h1, if_neg h2]
      rw [Int32.lt_iff_toInt_lt] at h1 h2
      have h1 : ¬ x.toInt < -99 := h1
      have h2 : ¬ 99 < x.toInt := h2
      exact ⟨⟨by omega, by omega⟩, rfl⟩
theorem cs_flags (x : Int32) : (∃ f, f < 32 ∧ x = nI f ∧ fn_X5_isFlagSet x = some 1) ∨ ((∀ f, f < 32 → x ≠ nI f) ∧ fn_X5_isFlagSet x = some 0) := by
  unfold fn_X5_isFlagSet
  by_cases h0 : x < 0
  · right
    refine ⟨fun p hp hx => ?_, by rw [if_pos h0]⟩
    rw [hx] at h0
    exact nI_pos (by omega) h0
  · obtain ⟨t, ht, rfl⟩ := pl_nat h0
    rw [if_neg h0]
    by_cases h1 : 32 ≤ t
    · right
      refine ⟨fun p hp hx => ?_, by rw [if_pos (by show nI 32 ≤ nI t; rw [nI_leI (by omega) (by omega)]; exact h1)]⟩
      have := (nI_eq (by omega) (by omega)).mp hx
      omega
    · left
      exact ⟨t, by omega, rfl, by rw [if_neg (by show ¬ nI 32 ≤ nI t; rw [nI_leI (by omega) (by omega)]; exact h1)]⟩
