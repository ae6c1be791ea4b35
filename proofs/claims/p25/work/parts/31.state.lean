/-! a state: the class's cells k .. k+18, and the reference's row B of 425 numbers -/
theorem pl_up_same (σ : hb_Mem) (k j : Nat) (v : Int32) : hb_up σ k j v k j = v := by simp [hb_up, upd]
theorem pl_up_other {σ : hb_Mem} {k j : Nat} {v : Int32} {i : Nat} (h : i ≠ j) : hb_up σ k j v k i = σ k i := by simp [hb_up, upd, h]
theorem pl_up_ne {σ : hb_Mem} {k j : Nat} {v : Int32} {c i : Nat} (h : c ≠ k) : hb_up σ k j v c i = σ c i := by simp [hb_up, h]
theorem pl_bk_ne {σ : hb_Mem} {a n : Nat} {f : Nat → Int32} {c i : Nat} (h : c ≠ a) : pl_blk σ a n f c i = σ c i := by simp [pl_blk, h]
theorem pl_bk_ge {σ : hb_Mem} {a n : Nat} {f : Nat → Int32} {i : Nat} (h : n ≤ i) : pl_blk σ a n f a i = σ a i := by
  have h2 : ¬ i < n := by omega
  simp [pl_blk, h2]
abbrev pl_st (k : Nat) : Prop := k ∈ [1, 20, 39, 60, 79, 98, 117]
theorem pl_rows {k : Nat} (h : pl_st k) : pl_row (hc_rf k 1) (k + 2) 32 ∧ pl_row (hc_rf k 2) (k + 4) 32 ∧ pl_row (hc_rf k 3) (k + 6) 32 ∧ pl_row (hc_rf k 4) (k + 8) 32 ∧ pl_row (hc_rf k 5) (k + 10) 96 ∧ pl_row (hc_rf k 6) (k + 12) 96 ∧ pl_row (hc_rf k 7) (k + 14) 96 ∧ pl_row (hc_rf k 8) (k + 16) 2 ∧ pl_row (hc_rf k 9) (k + 18) 2 :=
  (by decide : ∀ k ∈ [1, 20, 39, 60, 79, 98, 117], pl_row (hc_rf k 1) (k + 2) 32 ∧ pl_row (hc_rf k 2) (k + 4) 32 ∧ pl_row (hc_rf k 3) (k + 6) 32 ∧ pl_row (hc_rf k 4) (k + 8) 32 ∧ pl_row (hc_rf k 5) (k + 10) 96 ∧ pl_row (hc_rf k 6) (k + 12) 96 ∧ pl_row (hc_rf k 7) (k + 14) 96 ∧ pl_row (hc_rf k 8) (k + 16) 2 ∧ pl_row (hc_rf k 9) (k + 18) 2) k h
theorem pl_apart {k k' : Nat} (h : pl_st k) (h' : pl_st k') (hne : k ≠ k') : k + 19 ≤ k' ∨ k' + 19 ≤ k :=
  (by decide : ∀ k ∈ [1, 20, 39, 60, 79, 98, 117], ∀ k' ∈ [1, 20, 39, 60, 79, 98, 117], k ≠ k' → k + 19 ≤ k' ∨ k' + 19 ≤ k) k h k' h' hne
/-- all that a state is, as it is told: two groups of cells of the same content -/
def pl_same (σ : hb_Mem) (k : Nat) (τ : hb_Mem) (k' : Nat) : Prop := σ k 0 = τ k' 0 ∧ σ k 10 = τ k' 10 ∧ (∀ i, i < 32 → σ (k + 2) i = τ (k' + 2) i) ∧ (∀ i, i < 32 → σ (k + 4) i = τ (k' + 4) i) ∧ (∀ i, i < 32 → σ (k + 6) i = τ (k' + 6) i) ∧ (∀ i, i < 32 → σ (k + 8) i = τ (k' + 8) i) ∧ (∀ i, i < 96 → σ (k + 10) i = τ (k' + 10) i) ∧ (∀ i, i < 96 → σ (k + 12) i = τ (k' + 12) i) ∧ (∀ i, i < 96 → σ (k + 14) i = τ (k' + 14) i) ∧ (∀ i, i < 2 → σ (k + 16) i = τ (k' + 16) i) ∧ (∀ i, i < 2 → σ (k + 18) i = τ (k' + 18) i)
theorem pl_rcopy' {r a n r' a' : Nat} (h : pl_row r a n) (h' : pl_row r' a' n) (hne : a' ≠ a) (σ : hb_Mem) : ∃ σ', fn_X1_copyFrom r r' σ = some σ' ∧ (∀ c, c ≠ a → σ' c = σ c) ∧ ∀ i, i < n → σ' a i = σ a' i :=
  ⟨_, pl_rcopy h h' hne σ, fun c hc => pl_blk_ne hc, fun i hi => pl_blk_eq hi⟩
set_option maxHeartbeats 8000000 in
theorem pl_copy {k k' : Nat} (hk : pl_st k) (hk' : pl_st k') (hne : k ≠ k') (σ : hb_Mem) : ∃ σ', fn_X2_copyFrom k k' σ = some σ' ∧ (∀ c, (c < k ∨ k + 19 ≤ c) → σ' c = σ c) ∧ pl_same σ' k σ k' := by
  have hd := pl_apart hk hk' hne
  obtain ⟨r1, r2, r3, r4, r5, r6, r7, r8, r9⟩ := pl_rows hk
  obtain ⟨t1, t2, t3, t4, t5, t6, t7, t8, t9⟩ := pl_rows hk'
  unfold fn_X2_copyFrom
  simp only [hb_nm]
  obtain ⟨x0, hx0⟩ : ∃ x, x = hb_up σ k 0 (σ k' 0) := ⟨_, rfl⟩
  have e0 : ∀ c, c ≠ k → x0 c = σ c := fun c hc => by rw [hx0]; exact hb_up_ne hc
  have z0 : x0 k 0 = σ k' 0 := by rw [hx0]; exact pl_up_same _ _ _ _
  rw [← hx0]
  obtain ⟨x1, f1, e1, c1⟩ := pl_rcopy' r1 t1 (by omega) x0
  rw [f1, Option.bind_some]
  obtain ⟨x2, f2, e2, c2⟩ := pl_rcopy' r2 t2 (by omega) x1
  rw [f2, Option.bind_some]
  obtain ⟨x3, f3, e3, c3⟩ := pl_rcopy' r3 t3 (by omega) x2
  rw [f3, Option.bind_some]
  obtain ⟨x4, f4, e4, c4⟩ := pl_rcopy' r4 t4 (by omega) x3
  rw [f4, Option.bind_some]
  obtain ⟨x5, f5, e5, c5⟩ := pl_rcopy' r5 t5 (by omega) x4
  rw [f5, Option.bind_some]
  obtain ⟨x6, f6, e6, c6⟩ := pl_rcopy' r6 t6 (by omega) x5
  rw [f6, Option.bind_some]
  obtain ⟨x7, f7, e7, c7⟩ := pl_rcopy' r7 t7 (by omega) x6
  rw [f7, Option.bind_some]
  obtain ⟨x8, f8, e8, c8⟩ := pl_rcopy' r8 t8 (by omega) x7
  rw [f8, Option.bind_some]
  obtain ⟨x9, f9, e9, c9⟩ := pl_rcopy' r9 t9 (by omega) x8
  rw [f9, Option.bind_some]
  clear r1 r2 r3 r4 r5 r6 r7 r8 r9 t1 t2 t3 t4 t5 t6 t7 t8 t9 hk hk' hx0
  refine ⟨_, rfl, fun c hc => ?_, ?_⟩
  · rw [hb_up_ne (by omega), e9 _ (by omega), e8 _ (by omega), e7 _ (by omega), e6 _ (by omega), e5 _ (by omega), e4 _ (by omega), e3 _ (by omega), e2 _ (by omega), e1 _ (by omega), e0 _ (by omega)]
  · refine ⟨?_, ?_, fun i hi => ?_, fun i hi => ?_, fun i hi => ?_, fun i hi => ?_, fun i hi => ?_, fun i hi => ?_, fun i hi => ?_, fun i hi => ?_, fun i hi => ?_⟩
    · rw [pl_up_other (by omega), e9 _ (by omega), e8 _ (by omega), e7 _ (by omega), e6 _ (by omega), e5 _ (by omega), e4 _ (by omega), e3 _ (by omega), e2 _ (by omega), e1 _ (by omega), z0]
    · rw [pl_up_same, e9 _ (by omega), e8 _ (by omega), e7 _ (by omega), e6 _ (by omega), e5 _ (by omega), e4 _ (by omega), e3 _ (by omega), e2 _ (by omega), e1 _ (by omega), e0 _ (by omega)]
    · rw [pl_up_ne (by omega), e9 _ (by omega), e8 _ (by omega), e7 _ (by omega), e6 _ (by omega), e5 _ (by omega), e4 _ (by omega), e3 _ (by omega), e2 _ (by omega), c1 i hi, e0 _ (by omega)]
    · rw [pl_up_ne (by omega), e9 _ (by omega), e8 _ (by omega), e7 _ (by omega), e6 _ (by omega), e5 _ (by omega), e4 _ (by omega), e3 _ (by omega), c2 i hi, e1 _ (by omega), e0 _ (by omega)]
    · rw [pl_up_ne (by omega), e9 _ (by omega), e8 _ (by omega), e7 _ (by omega), e6 _ (by omega), e5 _ (by omega), e4 _ (by omega), c3 i hi, e2 _ (by omega), e1 _ (by omega), e0 _ (by omega)]
    · rw [pl_up_ne (by omega), e9 _ (by omega), e8 _ (by omega), e7 _ (by omega), e6 _ (by omega), e5 _ (by omega), c4 i hi, e3 _ (by omega), e2 _ (by omega), e1 _ (by omega), e0 _ (by omega)]
    · rw [pl_up_ne (by omega), e9 _ (by omega), e8 _ (by omega), e7 _ (by omega), e6 _ (by omega), c5 i hi, e4 _ (by omega), e3 _ (by omega), e2 _ (by omega), e1 _ (by omega), e0 _ (by omega)]
    · rw [pl_up_ne (by omega), e9 _ (by omega), e8 _ (by omega), e7 _ (by omega), c6 i hi, e5 _ (by omega), e4 _ (by omega), e3 _ (by omega), e2 _ (by omega), e1 _ (by omega), e0 _ (by omega)]
    · rw [pl_up_ne (by omega), e9 _ (by omega), e8 _ (by omega), c7 i hi, e6 _ (by omega), e5 _ (by omega), e4 _ (by omega), e3 _ (by omega), e2 _ (by omega), e1 _ (by omega), e0 _ (by omega)]
    · rw [pl_up_ne (by omega), e9 _ (by omega), c8 i hi, e7 _ (by omega), e6 _ (by omega), e5 _ (by omega), e4 _ (by omega), e3 _ (by omega), e2 _ (by omega), e1 _ (by omega), e0 _ (by omega)]
    · rw [pl_up_ne (by omega), c9 i hi, e8 _ (by omega), e7 _ (by omega), e6 _ (by omega), e5 _ (by omega), e4 _ (by omega), e3 _ (by omega), e2 _ (by omega), e1 _ (by omega), e0 _ (by omega)]
/-- a place in one number: -1 for none -/
def pl_plc (a f : Int32) : Int32 := if a = -5 then -1 else a * 32 + f
def pl_WR (n : Nat) (a f : Int32) : Prop := a = -5 ∨ (∃ p, p < n ∧ a = nI p) ∧ ∃ g, g < 32 ∧ f = nI g
def pl_WC (n : Nat) (B : Nat → Int32) (p c : Nat) : Prop := (∃ t, t < n ∧ B (5 + 13 * p + 3 * c) = nI t) ∧ (∃ a, a < 32 ∧ B (6 + 13 * p + 3 * c) = nI a) ∧ ∃ b, b < 32 ∧ B (7 + 13 * p + 3 * c) = nI b
/-- how many choices a page has -/
def pl_m (B : Nat → Int32) (p : Nat) : Nat := (B (4 + 13 * p)).toNatClampNeg
def pl_WP (n : Nat) (B : Nat → Int32) (p : Nat) : Prop := (-99 ≤ (B (1 + 13 * p)).toInt ∧ (B (1 + 13 * p)).toInt ≤ 99) ∧ (∃ s, s < 32 ∧ B (2 + 13 * p) = nI s) ∧ (∃ t, t < 32 ∧ B (3 + 13 * p) = nI t) ∧ pl_m B p ≤ 3 ∧ B (4 + 13 * p) = nI (pl_m B p) ∧ ∀ c, c < pl_m B p → pl_WC n B p c
/-- the reference's row is in order, with n pages -/
def pl_WB (n : Nat) (B : Nat → Int32) : Prop := n ≤ 32 ∧ B 0 = nI n ∧ (∀ p, p < n → pl_WP n B p) ∧ (∀ r, r < 2 → pl_WR n (B (417 + 3 * r)) (B (418 + 3 * r))) ∧ pl_WR n (B 423) (B 424)
/-- the class's cells hold what the reference's row holds -/
def pl_RS (σ : hb_Mem) (k n : Nat) (B : Nat → Int32) : Prop := σ k 0 = nI n ∧ (∀ p, p < n → σ (k + 2) p = B (1 + 13 * p) ∧ σ (k + 4) p = B (2 + 13 * p) ∧ σ (k + 6) p = B (3 + 13 * p) ∧ σ (k + 8) p = B (4 + 13 * p) ∧ ∀ c, c < pl_m B p → σ (k + 10) (3 * p + c) = B (5 + 13 * p + 3 * c) ∧ σ (k + 12) (3 * p + c) = B (6 + 13 * p + 3 * c) ∧ σ (k + 14) (3 * p + c) = B (7 + 13 * p + 3 * c)) ∧ (∀ r, r < 2 → σ (k + 16) r = pl_plc (B (417 + 3 * r)) (B (418 + 3 * r)) ∧ σ (k + 18) r = B (419 + 3 * r)) ∧ σ k 10 = pl_plc (B 423) (B 424)
theorem pl_RS.same {σ τ : hb_Mem} {k k' n : Nat} {B : Nat → Int32} (hW : pl_WB n B) (h : pl_RS τ k' n B) (hs : pl_same σ k τ k') : pl_RS σ k n B := by
  obtain ⟨h0, h1, h2, h3⟩ := h
  obtain ⟨s0, s10, s2, s4, s6, s8, s10', s12, s14, s16, s18⟩ := hs
  have hn := hW.1
  refine ⟨s0.trans h0, fun p hp => ?_, fun r hr => ?_, s10.trans h3⟩
  · obtain ⟨a1, a2, a3, a4, a5⟩ := h1 p hp
    have hm := (hW.2.2.1 p hp).2.2.2.1
    refine ⟨(s2 p (by omega)).trans a1, (s4 p (by omega)).trans a2, (s6 p (by omega)).trans a3, (s8 p (by omega)).trans a4, fun c hc => ?_⟩
    obtain ⟨b1, b2, b3⟩ := a5 c hc
    exact ⟨(s10' _ (by omega)).trans b1, (s12 _ (by omega)).trans b2, (s14 _ (by omega)).trans b3⟩
  · obtain ⟨a1, a2⟩ := h2 r hr
    exact ⟨(s16 r hr).trans a1, (s18 r hr).trans a2⟩
theorem pl_RS.congr {σ τ : hb_Mem} {k n : Nat} {B : Nat → Int32} (h : pl_RS τ k n B) (hc : ∀ c, k ≤ c → c < k + 19 → σ c = τ c) : pl_RS σ k n B := by
  obtain ⟨h0, h1, h2, h3⟩ := h
  refine ⟨by rw [hc k (by omega) (by omega)]; exact h0, fun p hp => ?_, fun r hr => ?_, by rw [hc k (by omega) (by omega)]; exact h3⟩
  · rw [hc (k + 2) (by omega) (by omega), hc (k + 4) (by omega) (by omega), hc (k + 6) (by omega) (by omega), hc (k + 8) (by omega) (by omega), hc (k + 10) (by omega) (by omega), hc (k + 12) (by omega) (by omega), hc (k + 14) (by omega) (by omega)]
    exact h1 p hp
  · rw [hc (k + 16) (by omega) (by omega), hc (k + 18) (by omega) (by omega)]
    exact h2 r hr
theorem pl_WB.congr {n : Nat} {A B : Nat → Int32} (h : pl_WB n A) (hc : ∀ j, j < 425 → B j = A j) : pl_WB n B := by
  obtain ⟨h0, h1, h2, h3, h4⟩ := h
  have hm : ∀ p, p < n → pl_m B p = pl_m A p := fun p hp => by unfold pl_m; rw [hc _ (by omega)]
  refine ⟨h0, by rw [hc 0 (by omega)]; exact h1, fun p hp => ?_, fun r hr => by rw [hc _ (by omega), hc _ (by omega)]; exact h3 r hr, by rw [hc 423 (by omega), hc 424 (by omega)]; exact h4⟩
  obtain ⟨a1, a2, a3, a4, a5, a6⟩ := h2 p hp
  refine ⟨by rw [hc _ (by omega)]; exact a1, by rw [hc _ (by omega)]; exact a2, by rw [hc _ (by omega)]; exact a3, by rw [hm p hp]; exact a4, by rw [hm p hp, hc _ (by omega)]; exact a5, fun c hcc => ?_⟩
  rw [hm p hp] at hcc
  obtain ⟨b1, b2, b3⟩ := a6 c hcc
  exact ⟨by rw [hc _ (by omega)]; exact b1, by rw [hc _ (by omega)]; exact b2, by rw [hc _ (by omega)]; exact b3⟩
theorem pl_RS.congrB {σ : hb_Mem} {k n : Nat} {A B : Nat → Int32} (hW : pl_WB n A) (h : pl_RS σ k n A) (hc : ∀ j, j < 425 → B j = A j) : pl_RS σ k n B := by
  obtain ⟨h0, h1, h2, h3⟩ := h
  have hn := hW.1
  have hm : ∀ p, p < n → pl_m B p = pl_m A p := fun p hp => by unfold pl_m; rw [hc _ (by omega)]
  refine ⟨h0, fun p hp => ?_, fun r hr => ?_, by rw [hc 423 (by omega), hc 424 (by omega)]; exact h3⟩
  · have hm3 := (hW.2.2.1 p hp).2.2.2.1
    obtain ⟨a1, a2, a3, a4, a5⟩ := h1 p hp
    refine ⟨by rw [hc _ (by omega)]; exact a1, by rw [hc _ (by omega)]; exact a2, by rw [hc _ (by omega)]; exact a3, by rw [hc _ (by omega)]; exact a4, fun c hcc => ?_⟩
    rw [hm p hp] at hcc
    rw [hc _ (by omega), hc _ (by omega), hc _ (by omega)]
    exact a5 c hcc
  · rw [hc _ (by omega), hc _ (by omega), hc _ (by omega)]
    exact h2 r hr
-- bits
theorem pl_page : ∀ q, q < 1024 → nI q >>> (5 &&& 31) = nI (q / 32) := by decide +kernel
theorem pl_flag : ∀ q, q < 1024 → nI q &&& 31 = nI (q % 32) := by decide +kernel
theorem pl_div : ∀ q, q < 1024 → nI q / 32 = nI (q / 32) := by decide +kernel
theorem pl_mod : ∀ q, q < 1024 → nI q - nI q / 32 * 32 = nI (q % 32) := by decide +kernel
theorem pl_andn : ∀ a, a < 32 → ∀ b, b < 32 → nI a &&& (nI b ^^^ (-1)) = nI (a &&& (31 ^^^ b)) := by decide +kernel
theorem pl_and : ∀ a, a < 32 → ∀ b, b < 32 → nI a &&& nI b = nI (a &&& b) := by decide +kernel
theorem pl_or : ∀ a, a < 32 → ∀ b, b < 32 → nI a ||| nI b = nI (a ||| b) := by decide +kernel
theorem pl_and_lt {a b : Nat} (h : a < 32) : a &&& b < 32 := Nat.lt_of_le_of_lt Nat.and_le_left h
theorem pl_or_lt : ∀ a, a < 32 → ∀ b, b < 32 → a ||| b < 32 := by decide +kernel
theorem pl_place (p f : Nat) : nI p * 32 + nI f = nI (32 * p + f) := by
  rw [show (32 : Int32) = nI 32 from rfl, pl_mul, nI_add, Nat.mul_comm]
theorem pl_place' (p f : Nat) : (32 : Int32) * nI p + nI f = nI (32 * p + f) := by
  rw [show (32 : Int32) = nI 32 from rfl, pl_mul, nI_add]

