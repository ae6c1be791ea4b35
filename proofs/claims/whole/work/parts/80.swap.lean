/-! exchange, the reference's side: two pages' rows swapped -/
def sw1 (B : Nat → Int32) (p q i : Nat) : Nat → Int32 := fun j => if 1 + 13 * p ≤ j ∧ j < 1 + 13 * p + i then B (j - 13 * p + 13 * q) else if 1 + 13 * q ≤ j ∧ j < 1 + 13 * q + i then B (j - 13 * q + 13 * p) else B j
theorem pm_swap {n p q : Nat} {μ : hb_Mem} (hp : p < 32) (hq : q < 32) (hne : p ≠ q) (v : Int32) : ∃ t, ll_X6_exchange_63 0 (nI p) (nI q) v (0, μ) = some t ∧ (∀ k, k ≠ 1 → t k = μ k) ∧ ∀ j, t 1 j = sw1 (μ 1) p q 13 j := by
  unfold ll_X6_exchange_63
  refine pl_inv (f := fun s => lb_X6_exchange_63 0 (nI p) (nI q) v s.1 s.2) (s := ((0 : Int32), μ)) 13 (fun i s => s.1 = nI i ∧ (∀ k, k ≠ 1 → s.2 k = μ k) ∧ ∀ j, s.2 1 j = sw1 (μ 1) p q i j) _ ⟨rfl, fun _ _ => rfl, fun j => by unfold sw1; rw [if_neg (by omega), if_neg (by omega)]⟩ ?_ ?_ (by rw [pl_F]; omega)
  · intro i s hi ⟨e1, e2, e3⟩
    obtain ⟨w, τ⟩ := s
    dsimp only at e1 e2 e3
    subst e1
    left
    show ∃ s', lb_X6_exchange_63 0 (nI p) (nI q) v (nI i) τ = some (.inl s') ∧ _
    have est : ∀ (r : Nat) (x : Int32) (τ : hb_Mem), r < 32 → hb_st ΛM τ (hm_rf 0 0) (((1 : Int32) + ((13 : Int32) * nI r)) + nI i) x = some (hb_up τ 1 (1 + 13 * r + i) x) := fun r x τ hr => by
      rw [pm_i1]
      exact pm_stt (a := hm_rf 0 0) (n := 425) (by decide) (by omega) (by decide) x τ
    have b1 : τ 1 (1 + 13 * p + i) = μ 1 (1 + 13 * p + i) := by
      rw [e3]
      unfold sw1
      rw [if_neg (by omega), if_neg (by omega)]
    have b2 : τ 1 (1 + 13 * q + i) = μ 1 (1 + 13 * q + i) := by
      rw [e3]
      unfold sw1
      rw [if_neg (by omega), if_neg (by omega)]
    unfold lb_X6_exchange_63
    rw [if_neg (by show ¬ nI 13 ≤ nI i; rw [nI_leI (by omega) (by omega)]; omega), pm_of i hp hi, Option.bind_some, pm_of i hq hi, Option.bind_some, est p _ _ hp, Option.bind_some, est q _ _ hq, Option.bind_some, b1, b2]
    simp only [hb_nm, nI_1]
    refine ⟨_, rfl, rfl, fun k hk => ?_, fun j => ?_⟩
    · show hb_up (hb_up τ 1 _ _) 1 _ _ k = _
      rw [hb_up_ne hk, hb_up_ne hk]
      exact e2 k hk
    · show hb_up (hb_up τ 1 (1 + 13 * p + i) (μ 1 (1 + 13 * q + i))) 1 (1 + 13 * q + i) (μ 1 (1 + 13 * p + i)) 1 j = sw1 (μ 1) p q (i + 1) j
      unfold sw1
      by_cases k1 : j = 1 + 13 * q + i
      · rw [k1, pl_up_same, if_neg (by omega), if_pos (by omega)]
        congr 1
        omega
      · rw [pl_up_other k1]
        by_cases k2 : j = 1 + 13 * p + i
        · rw [k2, pl_up_same, if_pos (by omega)]
          congr 1
          omega
        · rw [pl_up_other k2, e3]
          unfold sw1
          by_cases k3 : 1 + 13 * p ≤ j ∧ j < 1 + 13 * p + i
          · have k3' : 1 + 13 * p ≤ j ∧ j < 1 + 13 * p + (i + 1) := by omega
            rw [if_pos k3, if_pos k3']
          · have k3' : ¬ (1 + 13 * p ≤ j ∧ j < 1 + 13 * p + (i + 1)) := by omega
            rw [if_neg k3, if_neg k3']
            by_cases k4 : 1 + 13 * q ≤ j ∧ j < 1 + 13 * q + i
            · have k4' : 1 + 13 * q ≤ j ∧ j < 1 + 13 * q + (i + 1) := by omega
              rw [if_pos k4, if_pos k4']
            · have k4' : ¬ (1 + 13 * q ≤ j ∧ j < 1 + 13 * q + (i + 1)) := by omega
              rw [if_neg k4, if_neg k4']
  · intro s ⟨e1, e2, e3⟩
    obtain ⟨w, τ⟩ := s
    dsimp only at e1 e2 e3
    subst e1
    exact ⟨τ, rfl, e2, e3⟩
/-- the other of two pages -/
def ot (p q : Nat) (x : Int32) : Int32 := if x = nI p then nI q else if x = nI q then nI p else x
theorem pm_other (p q : Nat) (x : Int32) : fn_X6_other x (nI p) (nI q) = some (ot p q x) := by
  unfold fn_X6_other ot
  split
  · rfl
  · split <;> rfl
theorem pc_other (p q : Nat) (x : Int32) : fn_X2_renumbered x (nI p) (nI q) = some (ot p q x) := by
  unfold fn_X2_renumbered ot
  split
  · rfl
  · split <;> rfl
def pgm (p q r : Nat) : Nat := if r = p then q else if r = q then p else r
theorem ot_nI {p q r : Nat} (hp : p < 32) (hq : q < 32) (hr : r < 32) : ot p q (nI r) = nI (pgm p q r) := by
  unfold ot pgm
  by_cases h1 : r = p
  · rw [if_pos (by rw [h1]), if_pos h1]
  · rw [if_neg (fun hc => h1 ((nI_eq (by omega) (by omega)).mp hc)), if_neg h1]
    by_cases h2 : r = q
    · rw [if_pos (by rw [h2]), if_pos h2]
    · rw [if_neg (fun hc => h2 ((nI_eq (by omega) (by omega)).mp hc)), if_neg h2]
theorem pgm_lt {n p q r : Nat} (hp : p < n) (hq : q < n) (hr : r < n) : pgm p q r < n := by
  unfold pgm
  split
  · exact hq
  · split
    · exact hp
    · exact hr
theorem pgm_pgm (p q r : Nat) : pgm p q (pgm p q r) = r := by
  unfold pgm
  by_cases h1 : r = p
  · rw [if_pos h1]
    by_cases h2 : q = p
    · rw [if_pos h2, h1, h2]
    · rw [if_neg h2, if_pos rfl, h1]
  · rw [if_neg h1]
    by_cases h2 : r = q
    · rw [if_pos h2, if_pos rfl, h2]
    · rw [if_neg h2, if_neg h1, if_neg h2]
