/-! pages, choices and readers, told alike on both sides -/
theorem pl_sumA {f : Int32 × Int32 → Option ((Int32 × Int32) ⊕ Int32)} (N : Nat) (g : Nat → Nat) (a0 : Int32) (hstep : ∀ i a, i < N → f (a, nI i) = some (.inl (a + nI (g i), nI i + 1))) (hend : ∀ a, f (a, nI N) = some (.inr a)) (hN : N < hb_F) : hb_lp f hb_F (a0, 0) = some (a0 + nI (ct N g)) :=
  pl_for N (fun i => (a0 + nI (ct i g), nI i)) (by show (a0 + nI 0, nI 0) = (a0, 0); rw [show nI 0 = 0 from rfl, Int32.add_zero]) (fun i hi => by
    rw [hstep i _ hi, nI_1, Int32.add_assoc, nI_add]
    rfl) (hend _) hN
theorem pl_nat {x : Int32} (h : ¬ x < 0) : ∃ t, t < 2 ^ 31 ∧ x = nI t := by
  have h1 : 0 ≤ x.toInt := by
    rw [Int32.lt_iff_toInt_lt] at h
    exact Int.not_lt.mp h
  have h2 := x.toInt_lt
  refine ⟨x.toInt.toNat, by omega, ?_⟩
  apply Int32.toInt_inj.mp
  rw [nI_toInt (by omega)]
  omega
theorem pl_predlt {n t : Nat} (hn : n < 2 ^ 31) (ht : t < 2 ^ 31) : nI n - 1 < nI t ↔ n ≤ t := by
  cases n with
  | zero =>
    constructor
    · intro _; omega
    · intro _
      show (0 : Int32) - 1 < nI t
      rw [Int32.lt_iff_toInt_lt, nI_toInt ht]
      show (-1 : Int) < t
      omega
  | succ m =>
    rw [nI_pred, nI_ltI (by omega) (by omega)]
    omega
theorem pq_in {x : Int32} {n : Nat} (hn : n < 2 ^ 31) : (∃ p, p < n ∧ x = nI p ∧ fq_in x 0 (nI n - 1) = some 1) ∨ ((∀ p, p < n → x ≠ nI p) ∧ fq_in x 0 (nI n - 1) = some 0) := by
  unfold fq_in
  by_cases h0 : x < 0
  · right
    refine ⟨fun p hp hx => ?_, by rw [if_pos h0]⟩
    rw [hx] at h0
    exact nI_pos (by omega) h0
  · obtain ⟨t, ht, rfl⟩ := pl_nat h0
    by_cases h : n ≤ t
    · right
      refine ⟨fun p hp hx => ?_, by rw [if_neg h0, if_pos ((pl_predlt hn ht).mpr h)]⟩
      have := (nI_eq (by omega) (by omega)).mp hx
      omega
    · left
      exact ⟨t, by omega, rfl, by rw [if_neg h0, if_neg (fun hc => h ((pl_predlt hn ht).mp hc))]⟩
theorem sp_number (x : Int32) : (∃ c, c < 3 ∧ x = nI c ∧ fn_X5_isChoiceNumber x = some 1 ∧ fq_in x 0 2 = some 1) ∨ (fn_X5_isChoiceNumber x = some 0 ∧ fq_in x 0 2 = some 0) := by
  unfold fn_X5_isChoiceNumber
  rcases pq_in (x := x) (n := 3) (by omega) with ⟨p, hp, hx, hi⟩ | ⟨hno, hi⟩
  · left
    refine ⟨p, hp, hx, ?_, hi⟩
    rw [hx, if_neg (nI_pos (by omega)), if_neg (by show ¬ nI 3 ≤ nI p; rw [nI_leI (by omega) (by omega)]; omega)]
  · right
    refine ⟨?_, hi⟩
    by_cases h0 : x < 0
    · rw [if_pos h0]
    · obtain ⟨t, ht, rfl⟩ := pl_nat h0
      rw [if_neg h0, if_pos]
      show nI 3 ≤ nI t
      rw [nI_leI (by omega) (by omega)]
      apply Nat.le_of_not_lt
      intro hc
      exact hno t hc rfl
/-- the choices to a page -/
def sp_to (n : Nat) (B : Nat → Int32) (x : Int32) : Nat := ct n (fun p => ct (pl_m B p) (fun c => if B (5 + 13 * p + 3 * c) = x then 1 else 0))
theorem pc_to {n : Nat} {B : Nat → Int32} {σ : hb_Mem} (h : pl_WB n B) (hr : pl_RS σ 1 n B) (x : Int32) : fn_X2_choicesTo 1 x σ = some (nI (sp_to n B x)) := by
  have hn := h.1
  unfold fn_X2_choicesTo ll_X2_choicesTo_4
  rw [pl_sum (f := fun s => lb_X2_choicesTo_4 1 x s.1 s.2 σ) n (fun p => ct (pl_m B p) (fun c => if B (5 + 13 * p + 3 * c) = x then 1 else 0))]
  · rfl
  · intro p a hp
    show lb_X2_choicesTo_4 1 x a (nI p) σ = _
    obtain ⟨m1, m2⟩ := h.m hp
    obtain ⟨a1, a2, a3, a4, a5⟩ := hr.2.1 p hp
    have hsz : fn_X1_at (hc_rf 1 4) (nI p) σ = some (nI (pl_m B p)) := by
      rw [pl_at (r := hc_rf 1 4) (a := 9) (n := 32) (by decide) (by omega), ← m2]
      exact congrArg some a4
    unfold lb_X2_choicesTo_4 jn_X2_choicesTo_68
    simp only [hb_nm]
    rw [hr.1, if_neg (by rw [nI_leI (by omega) (by omega)]; omega)]
    unfold ll_X2_choicesTo_15
    rw [pl_sumA (f := fun s => lb_X2_choicesTo_15 1 x (nI p) s.1 s.2 σ) (pl_m B p) (fun c => if B (5 + 13 * p + 3 * c) = x then 1 else 0) a, Option.bind_some]
    · intro c w hc
      show lb_X2_choicesTo_15 1 x (nI p) w (nI c) σ = _
      have ht : fn_X1_at (hc_rf 1 5) (nI (3 * p + c)) σ = some (B (5 + 13 * p + 3 * c)) := by
        rw [pl_at (r := hc_rf 1 5) (a := 11) (n := 96) (by decide) (by omega)]
        exact congrArg some (a5 c hc).1
      have o0 : fn_X5_oneIf 0 = some 0 := rfl
      have o1 : fn_X5_oneIf 1 = some 1 := rfl
      unfold lb_X2_choicesTo_15 jn_X2_choicesTo_57
      simp only [hb_nm]
      rw [hsz, Option.bind_some, if_neg (by rw [nI_leI (by omega) (by omega)]; omega), if_neg (by show ¬ nI 3 ≤ nI c; rw [nI_leI (by omega) (by omega)]; omega), pc_slot, Option.bind_some, ht, Option.bind_some, o0, o1, Option.bind_some, Option.bind_some]
      by_cases hx : B (5 + 13 * p + 3 * c) = x
      · rw [if_pos hx, if_pos hx]; rfl
      · rw [if_neg hx, if_neg hx]; rfl
    · intro w
      show lb_X2_choicesTo_15 1 x (nI p) w (nI (pl_m B p)) σ = _
      unfold lb_X2_choicesTo_15
      rw [hsz, Option.bind_some, if_pos (by rw [nI_leI (by omega) (by omega)]; omega)]
    · rw [pl_F]; omega
  · intro a
    show lb_X2_choicesTo_4 1 x a (nI n) σ = _
    unfold lb_X2_choicesTo_4
    rw [hr.1, if_pos (by rw [nI_leI (by omega) (by omega)]; omega)]
  · rw [pl_F]; omega
theorem pc_allch {n : Nat} {B : Nat → Int32} {σ : hb_Mem} (h : pl_WB n B) (hr : pl_RS σ 1 n B) : fn_X2_allChoices 1 σ = some (nI (ct n (pl_m B))) := by
  have hn := h.1
  unfold fn_X2_allChoices ll_X2_allChoices_4
  rw [pl_sum (f := fun s => lb_X2_allChoices_4 1 s.1 s.2 σ) n (pl_m B)]
  · rfl
  · intro p a hp
    show lb_X2_allChoices_4 1 a (nI p) σ = _
    obtain ⟨m1, m2⟩ := h.m hp
    have hsz : fn_X1_at (hc_rf 1 4) (nI p) σ = some (nI (pl_m B p)) := by
      rw [pl_at (r := hc_rf 1 4) (a := 9) (n := 32) (by decide) (by omega), ← m2]
      exact congrArg some (hr.2.1 p hp).2.2.2.1
    unfold lb_X2_allChoices_4
    rw [hr.1, if_neg (by rw [nI_leI (by omega) (by omega)]; omega), hsz]
    rfl
  · intro a
    show lb_X2_allChoices_4 1 a (nI n) σ = _
    unfold lb_X2_allChoices_4
    rw [hr.1, if_pos (by rw [nI_leI (by omega) (by omega)]; omega)]
  · rw [pl_F]; omega
