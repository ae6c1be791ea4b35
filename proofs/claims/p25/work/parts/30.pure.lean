def fq_in (p0 : Int32) (p1 : Int32) (p2 : Int32) : Option Int32 := if p0 < p1 then some 0 else (if p2 < p0 then some 0 else some 1)
/-! PURE MATHEMATICS from here on: the functions of the class and of the reference over their memories -/
theorem pl_for {S T : Type} {f : S → Option (S ⊕ T)} (N : Nat) (st : Nat → S) {s : S} {t : T} (h0 : st 0 = s) (hstep : ∀ i, i < N → f (st i) = some (.inl (st (i + 1)))) (hend : f (st N) = some (.inr t)) (hN : N < hb_F) : hb_lp f hb_F s = some t := by
  subst h0
  have key : ∀ (m i : Nat), i ≤ N → N - i < m → hb_lp f m (st i) = some t := by
    intro m
    induction m with
    | zero => intro i _ h; omega
    | succ m ih =>
      intro i hi hm
      rw [hb_lp]
      by_cases hiN : i = N
      · subst hiN
        rw [hend]
        rfl
      · rw [hstep i (by omega)]
        exact ih (i + 1) (by omega) (by omega)
  exact key hb_F 0 (Nat.zero_le _) (by omega)
theorem pl_inv {S T : Type} {f : S → Option (S ⊕ T)} (N : Nat) (I : Nat → S → Prop) (E : T → Prop) {s : S} (h0 : I 0 s) (hstep : ∀ i s, i < N → I i s → (∃ s', f s = some (.inl s') ∧ I (i + 1) s') ∨ ∃ t, f s = some (.inr t) ∧ E t) (hend : ∀ s, I N s → ∃ t, f s = some (.inr t) ∧ E t) (hN : N < hb_F) : ∃ t, hb_lp f hb_F s = some t ∧ E t := by
  have key : ∀ (m i : Nat) (s : S), i ≤ N → N - i < m → I i s → ∃ t, hb_lp f m s = some t ∧ E t := by
    intro m
    induction m with
    | zero => intro i s _ h; omega
    | succ m ih =>
      intro i s hi hm hI
      rw [hb_lp]
      by_cases hiN : i = N
      · subst hiN
        obtain ⟨t, h1, h2⟩ := hend s hI
        rw [h1]
        exact ⟨t, rfl, h2⟩
      · rcases hstep i s (by omega) hI with ⟨s', h1, h2⟩ | ⟨t, h1, h2⟩
        · rw [h1]
          exact ih (i + 1) s' (by omega) (by omega) h2
        · rw [h1]
          exact ⟨t, rfl, h2⟩
  exact key hb_F 0 s (Nat.zero_le _) (by omega) h0
theorem pl_F : hb_F = 1000000 := rfl
-- numbers
theorem pl_mul (a b : Nat) : nI a * nI b = nI (a * b) := by
  unfold nI
  rw [Int32.ofNat_mul]
theorem pl_sub {a b : Nat} (h : b ≤ a) : nI a - nI b = nI (a - b) := by
  have h1 := nI_add (a - b) b
  rw [Nat.sub_add_cancel h] at h1
  rw [← h1, Int32.add_sub_cancel]
theorem pl_nI_cases {x : Int32} {n : Nat} (hn : n < 2 ^ 31) (h0 : ¬ x < 0) (h1 : ¬ nI n ≤ x) : ∃ p, p < n ∧ x = nI p := by
  obtain ⟨j, hj, rfl⟩ := nI_of h0
  refine ⟨j, ?_, rfl⟩
  rw [nI_leI hn hj] at h1
  omega
theorem pl_eq0 {a : Nat} (ha : a < 2 ^ 31) : (nI a = 0) ↔ a = 0 := by
  rw [show (0 : Int32) = nI 0 from rfl, nI_eq ha (by decide)]
theorem pl_ne_neg {a : Nat} (ha : a < 2 ^ 31) {c : Int32} (hc : c < 0) : ¬ nI a = c := by
  intro h
  rw [← h] at hc
  exact nI_pos ha hc
-- rows of the class
abbrev pl_row (r a n : Nat) : Prop := hc_rf r 0 = a ∧ hc_ln a = n ∧ n ≤ 2000
theorem pl_at {r a n i : Nat} (h : pl_row r a n) (hi : i < n) (σ : hb_Mem) : fn_X1_at r (nI i) σ = some (σ a i) := by
  obtain ⟨h1, h2, h3⟩ := h
  unfold fn_X1_at
  rw [if_neg (nI_pos (by omega)), h1, h2, if_neg (by show ¬ nI n ≤ nI i; rw [nI_leI (by omega) (by omega)]; omega)]
  unfold hb_ld
  rw [if_neg (by
    show ¬ (nI i < 0 ∨ hc_ln a ≤ (nI i).toNatClampNeg)
    rw [h2]
    exact nI_in hi (by omega)), nI_clamp (by omega)]
  rfl
theorem pl_at_ge {r a n i : Nat} (h : pl_row r a n) (hi : n ≤ i) (hi2 : i < 2 ^ 31) (σ : hb_Mem) : fn_X1_at r (nI i) σ = some 0 := by
  obtain ⟨h1, h2, h3⟩ := h
  unfold fn_X1_at
  rw [if_neg (nI_pos hi2), h1, h2, if_pos (by show nI n ≤ nI i; rw [nI_leI (by omega) hi2]; exact hi)]
theorem pl_at_neg {r : Nat} {x : Int32} (hx : x < 0) (σ : hb_Mem) : fn_X1_at r x σ = some 0 := by
  unfold fn_X1_at
  rw [if_pos hx]
theorem pl_put {r a n i : Nat} (h : pl_row r a n) (hi : i < n) (v : Int32) (σ : hb_Mem) : fn_X1_put r (nI i) v σ = some (hb_up σ a i v) := by
  obtain ⟨h1, h2, h3⟩ := h
  unfold fn_X1_put
  rw [if_neg (nI_pos (by omega)), h1, h2, if_neg (by show ¬ nI n ≤ nI i; rw [nI_leI (by omega) (by omega)]; omega)]
  unfold hb_st
  rw [if_neg (by
    show ¬ (nI i < 0 ∨ hc_ln a ≤ (nI i).toNatClampNeg)
    rw [h2]
    exact nI_in hi (by omega)), nI_clamp (by omega)]
  rfl
theorem pl_put_ge {r a n i : Nat} (h : pl_row r a n) (hi : n ≤ i) (hi2 : i < 2 ^ 31) (v : Int32) (σ : hb_Mem) : fn_X1_put r (nI i) v σ = some σ := by
  obtain ⟨h1, h2, h3⟩ := h
  unfold fn_X1_put
  rw [if_neg (nI_pos hi2), h1, h2, if_pos (by show nI n ≤ nI i; rw [nI_leI (by omega) hi2]; exact hi)]
/-- a cell's first n numbers set to f -/
def pl_blk (σ : hb_Mem) (a n : Nat) (f : Nat → Int32) : hb_Mem := fun c => if c = a then (fun j => if j < n then f j else σ a j) else σ c
theorem pl_blk_0 (σ : hb_Mem) (a : Nat) (f : Nat → Int32) : pl_blk σ a 0 f = σ := by
  funext c
  unfold pl_blk
  by_cases h : c = a
  · subst h
    simp
  · simp [h]
theorem pl_blk_s (σ : hb_Mem) (a n : Nat) (f : Nat → Int32) : hb_up (pl_blk σ a n f) a n (f n) = pl_blk σ a (n + 1) f := by
  funext c j
  unfold hb_up pl_blk upd
  by_cases h : c = a
  · subst h
    simp
    by_cases hj : j = n
    · subst hj
      simp
    · by_cases h2 : j < n
      · simp [hj, h2, Nat.lt_succ_of_lt h2]
      · have h3 : ¬ j < n + 1 := by omega
        simp [hj, h2, h3]
  · simp [h]
theorem pl_blk_eq {σ : hb_Mem} {a n : Nat} {f : Nat → Int32} {j : Nat} (h : j < n) : pl_blk σ a n f a j = f j := by simp [pl_blk, h]
theorem pl_blk_ne {σ : hb_Mem} {a n : Nat} {f : Nat → Int32} {c : Nat} (h : c ≠ a) : pl_blk σ a n f c = σ c := by simp [pl_blk, h]
theorem pl_fill {r a n : Nat} (h : pl_row r a n) (v : Int32) (σ : hb_Mem) : fn_X1_fill r v σ = some (pl_blk σ a n (fun _ => v)) := by
  obtain ⟨h1, h2, h3⟩ := id h
  unfold fn_X1_fill ll_X1_fill_2
  rw [pl_for (st := fun i => (nI i, pl_blk σ a i (fun _ => v))) (s := (0, σ)) (t := pl_blk σ a n (fun _ => v)) n]
  · rfl
  · rw [pl_blk_0]; rfl
  · intro i hi
    unfold lb_X1_fill_2
    dsimp only
    rw [h1, h2, if_neg (by show ¬ nI n ≤ nI i; rw [nI_leI (by omega) (by omega)]; omega)]
    unfold hb_st
    rw [if_neg (by
      show ¬ (nI i < 0 ∨ hc_ln a ≤ (nI i).toNatClampNeg)
      rw [h2]
      exact nI_in hi (by omega)), nI_clamp (by omega), pl_blk_s σ a i (fun _ => v)]
    simp only [Option.bind_some, hb_nm, nI_1]
  · unfold lb_X1_fill_2
    dsimp only
    rw [h1, h2, if_pos (by show nI n ≤ nI n; exact Int32.le_refl _)]
  · rw [pl_F]; omega
theorem pl_rcopy {r a n r' a' : Nat} (h : pl_row r a n) (h' : pl_row r' a' n) (hne : a' ≠ a) (σ : hb_Mem) : fn_X1_copyFrom r r' σ = some (pl_blk σ a n (σ a')) := by
  obtain ⟨h1, h2, h3⟩ := id h
  unfold fn_X1_copyFrom ll_X1_copyFrom_2
  rw [pl_for (st := fun i => (nI i, pl_blk σ a i (σ a'))) (s := (0, σ)) (t := pl_blk σ a n (σ a')) n]
  · rfl
  · rw [pl_blk_0]; rfl
  · intro i hi
    unfold lb_X1_copyFrom_2
    dsimp only
    rw [h1, h2, if_neg (by show ¬ nI n ≤ nI i; rw [nI_leI (by omega) (by omega)]; omega), pl_at h' hi, pl_blk_ne hne]
    unfold hb_st
    rw [Option.bind_some, if_neg (by
      show ¬ (nI i < 0 ∨ hc_ln a ≤ (nI i).toNatClampNeg)
      rw [h2]
      exact nI_in hi (by omega)), nI_clamp (by omega), pl_blk_s σ a i (σ a')]
    simp only [Option.bind_some, hb_nm, nI_1]
  · unfold lb_X1_copyFrom_2
    dsimp only
    rw [h1, h2, if_pos (by show nI n ≤ nI n; exact Int32.le_refl _)]
  · rw [pl_F]; omega

