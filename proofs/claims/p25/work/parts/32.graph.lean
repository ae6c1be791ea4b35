/-! the graph of places that a row B stands for, and the reads of both sides -/
def pg_to (B : Nat → Int32) (p c : Nat) : Nat := (B (5 + 13 * p + 3 * c)).toNatClampNeg
def pg_nd (B : Nat → Int32) (p c : Nat) : Nat := (B (6 + 13 * p + 3 * c)).toNatClampNeg
def pg_br (B : Nat → Int32) (p c : Nat) : Nat := (B (7 + 13 * p + 3 * c)).toNatClampNeg
def pg_set (B : Nat → Int32) (p : Nat) : Nat := (B (2 + 13 * p)).toNatClampNeg
def pg_tak (B : Nat → Int32) (p : Nat) : Nat := (B (3 + 13 * p)).toNatClampNeg
/-- why a choice cannot be taken at a page with flags -/
def pg_why (B : Nat → Int32) (p f c : Nat) : Nat := if pl_m B p ≤ c then 2 else if pg_nd B p c &&& (31 ^^^ f) = 0 then (if pg_br B p c &&& f = 0 then 0 else 4) else 3
/-- the flags behind coming to a page -/
def pg_com (B : Nat → Int32) (p f : Nat) : Nat := (f &&& (31 ^^^ pg_tak B p)) ||| pg_set B p
/-- the place behind a choice -/
def pg_nx (B : Nat → Int32) (q c : Nat) : Option Nat := if pg_why B (q / 32) (q % 32) c = 0 then some (32 * pg_to B (q / 32) c + pg_com B (pg_to B (q / 32) c) (q % 32)) else none
theorem pl_WB.to {n : Nat} {B : Nat → Int32} (h : pl_WB n B) {p c : Nat} (hp : p < n) (hc : c < pl_m B p) : pg_to B p c < n ∧ B (5 + 13 * p + 3 * c) = nI (pg_to B p c) := by
  obtain ⟨⟨t, ht, e⟩, -⟩ := (h.2.2.1 p hp).2.2.2.2.2 c hc
  have := h.1
  unfold pg_to
  rw [e, nI_clamp (by omega)]
  exact ⟨ht, rfl⟩
theorem pl_WB.nd {n : Nat} {B : Nat → Int32} (h : pl_WB n B) {p c : Nat} (hp : p < n) (hc : c < pl_m B p) : pg_nd B p c < 32 ∧ B (6 + 13 * p + 3 * c) = nI (pg_nd B p c) := by
  obtain ⟨-, ⟨t, ht, e⟩, -⟩ := (h.2.2.1 p hp).2.2.2.2.2 c hc
  unfold pg_nd
  rw [e, nI_clamp (by omega)]
  exact ⟨ht, rfl⟩
theorem pl_WB.br {n : Nat} {B : Nat → Int32} (h : pl_WB n B) {p c : Nat} (hp : p < n) (hc : c < pl_m B p) : pg_br B p c < 32 ∧ B (7 + 13 * p + 3 * c) = nI (pg_br B p c) := by
  obtain ⟨-, -, ⟨t, ht, e⟩⟩ := (h.2.2.1 p hp).2.2.2.2.2 c hc
  unfold pg_br
  rw [e, nI_clamp (by omega)]
  exact ⟨ht, rfl⟩
theorem pl_WB.set {n : Nat} {B : Nat → Int32} (h : pl_WB n B) {p : Nat} (hp : p < n) : pg_set B p < 32 ∧ B (2 + 13 * p) = nI (pg_set B p) := by
  obtain ⟨-, ⟨t, ht, e⟩, -⟩ := h.2.2.1 p hp
  unfold pg_set
  rw [e, nI_clamp (by omega)]
  exact ⟨ht, rfl⟩
theorem pl_WB.tak {n : Nat} {B : Nat → Int32} (h : pl_WB n B) {p : Nat} (hp : p < n) : pg_tak B p < 32 ∧ B (3 + 13 * p) = nI (pg_tak B p) := by
  obtain ⟨-, -, ⟨t, ht, e⟩, -⟩ := h.2.2.1 p hp
  unfold pg_tak
  rw [e, nI_clamp (by omega)]
  exact ⟨ht, rfl⟩
theorem pl_WB.m {n : Nat} {B : Nat → Int32} (h : pl_WB n B) {p : Nat} (hp : p < n) : pl_m B p ≤ 3 ∧ B (4 + 13 * p) = nI (pl_m B p) := ⟨(h.2.2.1 p hp).2.2.2.1, (h.2.2.1 p hp).2.2.2.2.1⟩
theorem pg_com_lt {n : Nat} {B : Nat → Int32} (h : pl_WB n B) {p f : Nat} (hp : p < n) (hf : f < 32) : pg_com B p f < 32 := pl_or_lt _ (pl_and_lt hf) _ (h.set hp).1
theorem pg_com_eq {n : Nat} {B : Nat → Int32} (h : pl_WB n B) {p f : Nat} (hp : p < n) (hf : f < 32) : (nI f &&& (B (3 + 13 * p) ^^^ (-1))) ||| B (2 + 13 * p) = nI (pg_com B p f) := by
  rw [(h.set hp).2, (h.tak hp).2, pl_andn f hf _ (h.tak hp).1, pl_or _ (pl_and_lt hf) _ (h.set hp).1]
  rfl
theorem pg_nx_lt {n : Nat} {B : Nat → Int32} (h : pl_WB n B) {q c q' : Nat} (hq : q < 32 * n) (hx : pg_nx B q c = some q') : q' < 32 * n := by
  unfold pg_nx at hx
  split at hx
  · rename_i hw
    cases hx
    have hp : q / 32 < n := by omega
    have hc : c < pl_m B (q / 32) := by
      unfold pg_why at hw
      split at hw
      · omega
      · omega
    have h1 := (h.to hp hc).1
    have h2 := pg_com_lt h h1 (show q % 32 < 32 by omega)
    omega
  · cases hx
theorem pg_why_c {B : Nat → Int32} {p f c : Nat} (h : pg_why B p f c = 0) : c < pl_m B p := by
  unfold pg_why at h
  split at h
  · omega
  · omega
-- the class's reads
theorem pc_slot (p c : Nat) : fn_X5_slotOf (nI p) (nI c) = some (nI (3 * p + c)) := by
  unfold fn_X5_slotOf
  rw [show (3 : Int32) = nI 3 from rfl, pl_mul, nI_add, Nat.mul_comm]
theorem pc_page {q : Nat} (hq : q < 1024) : fn_X5_pageAt (nI q) = some (nI (q / 32)) := by
  unfold fn_X5_pageAt
  rw [pl_page q hq]
theorem pc_flags {q : Nat} (hq : q < 1024) : fn_X5_flagsAt (nI q) = some (nI (q % 32)) := by
  unfold fn_X5_flagsAt
  rw [pl_flag q hq]
theorem pc_place (p f : Nat) : fn_X5_placeOf (nI p) (nI f) = some (nI (32 * p + f)) := by
  unfold fn_X5_placeOf
  rw [pl_place]
theorem pc_why {k n q c : Nat} {B : Nat → Int32} {σ : hb_Mem} (hk : pl_st k) (h : pl_WB n B) (hr : pl_RS σ k n B) (hq : q < 32 * n) (hc : c < 3) : fn_X2_reasonAt k (nI q) (nI c) σ = some (nI (pg_why B (q / 32) (q % 32) c)) := by
  have hn := h.1
  have hp : q / 32 < n := by omega
  have hf : q % 32 < 32 := by omega
  have hm := h.m hp
  obtain ⟨r1, r2, r3, r4, r5, r6, r7, r8, r9⟩ := pl_rows hk
  obtain ⟨a1, a2, a3, a4, a5⟩ := hr.2.1 _ hp
  unfold fn_X2_reasonAt
  rw [pc_page (by omega), Option.bind_some, pc_flags (by omega), Option.bind_some, if_neg (nI_pos (by omega)), pl_at r4 (by omega), Option.bind_some, a4, hm.2]
  unfold pg_why
  by_cases hcm : pl_m B (q / 32) ≤ c
  · rw [if_neg (by rw [nI_ltI (by omega) (by omega)]; omega), if_pos hcm]
    rfl
  · obtain ⟨b1, b2, b3⟩ := a5 c (by omega)
    have h1 := h.nd hp (show c < pl_m B (q / 32) by omega)
    have h2 := h.br hp (show c < pl_m B (q / 32) by omega)
    rw [if_pos (by rw [nI_ltI (by omega) (by omega)]; omega), if_neg hcm, pc_slot, Option.bind_some, pl_at r6 (by omega), Option.bind_some, b2, h1.2, pl_andn _ h1.1 _ hf]
    simp only [pl_eq0 (show pg_nd B (q / 32) c &&& (31 ^^^ (q % 32)) < 2 ^ 31 from Nat.lt_of_lt_of_le (pl_and_lt h1.1) (by decide))]
    by_cases hz : pg_nd B (q / 32) c &&& (31 ^^^ (q % 32)) = 0
    · rw [if_pos hz, if_pos hz, pl_at r7 (by omega), Option.bind_some, b3, h2.2, pl_and _ h2.1 _ hf]
      simp only [pl_eq0 (show pg_br B (q / 32) c &&& (q % 32) < 2 ^ 31 from Nat.lt_of_lt_of_le (pl_and_lt h2.1) (by decide))]
      by_cases hy : pg_br B (q / 32) c &&& (q % 32) = 0
      · rw [if_pos hy, if_pos hy]; rfl
      · rw [if_neg hy, if_neg hy]; rfl
    · rw [if_neg hz, if_neg hz]; rfl
theorem pc_com {k n p f : Nat} {B : Nat → Int32} {σ : hb_Mem} (hk : pl_st k) (h : pl_WB n B) (hr : pl_RS σ k n B) (hp : p < n) (hf : f < 32) : fn_X2_placeComingTo k (nI p) (nI f) σ = some (nI (32 * p + pg_com B p f)) := by
  have hn := h.1
  obtain ⟨r1, r2, r3, r4, r5, r6, r7, r8, r9⟩ := pl_rows hk
  obtain ⟨a1, a2, a3, a4, a5⟩ := hr.2.1 _ hp
  unfold fn_X2_placeComingTo
  rw [pl_at r3 (by omega), Option.bind_some, pl_at r2 (by omega), Option.bind_some, a3, a2, pg_com_eq h hp hf, pc_place]
  rfl
theorem pc_nx {k n q c q' : Nat} {B : Nat → Int32} {σ : hb_Mem} (hk : pl_st k) (h : pl_WB n B) (hr : pl_RS σ k n B) (hq : q < 32 * n) (hx : pg_nx B q c = some q') : fn_X2_placeBehind k (nI q) (nI c) σ = some (nI q') := by
  have hn := h.1
  have hp : q / 32 < n := by omega
  have hf : q % 32 < 32 := by omega
  have hm := h.m hp
  unfold pg_nx at hx
  split at hx
  · rename_i hw
    cases hx
    have hc := pg_why_c hw
    obtain ⟨r1, r2, r3, r4, r5, r6, r7, r8, r9⟩ := pl_rows hk
    obtain ⟨a1, a2, a3, a4, a5⟩ := hr.2.1 _ hp
    have ht := h.to hp hc
    unfold fn_X2_placeBehind
    rw [pc_page (by omega), Option.bind_some, pc_slot, Option.bind_some, pl_at r5 (by omega), Option.bind_some, (a5 c hc).1, ht.2, pc_flags (by omega), Option.bind_some, pc_com hk h hr ht.1 hf]
    rfl
  · cases hx
/-- three truth values as a set -/
def pg_set3 (b0 b1 b2 : Bool) : Int32 := (if b0 then 1 else 0) ||| (if b1 then 2 else 0) ||| (if b2 then 4 else 0)
theorem pg_in3 (b0 b1 b2 : Bool) : fn_X3_isIn (nI 0) (pg_set3 b0 b1 b2) = some (if b0 then 1 else 0) ∧ fn_X3_isIn (nI 1) (pg_set3 b0 b1 b2) = some (if b1 then 1 else 0) ∧ fn_X3_isIn (nI 2) (pg_set3 b0 b1 b2) = some (if b2 then 1 else 0) := by
  cases b0 <;> cases b1 <;> cases b2 <;> decide
def pg_op (B : Nat → Int32) (q c : Nat) : Bool := decide (pg_why B (q / 32) (q % 32) c = 0)
theorem pg_why_lt (B : Nat → Int32) (p f c : Nat) : pg_why B p f c < 5 := by
  unfold pg_why
  split
  · omega
  · split
    · split <;> omega
    · omega
def pg_s3 (b : Nat → Bool) (i : Nat) : Int32 := pg_set3 (b 0 && decide (0 < i)) (b 1 && decide (1 < i)) (b 2 && decide (2 < i))
theorem pg_s3_step (b : Nat → Bool) {i : Nat} (hi : i < 3) : (if b i = true then pg_s3 b i ||| ((1 : Int32) <<< (nI i &&& 31)) else pg_s3 b i) = pg_s3 b (i + 1) := by
  unfold pg_s3
  rcases (show i = 0 ∨ i = 1 ∨ i = 2 by omega) with rfl | rfl | rfl
  · generalize b 0 = b0, b 1 = b1, b 2 = b2
    cases b0 <;> cases b1 <;> cases b2 <;> decide
  · generalize b 0 = b0, b 1 = b1, b 2 = b2
    cases b0 <;> cases b1 <;> cases b2 <;> decide
  · generalize b 0 = b0, b 1 = b1, b 2 = b2
    cases b0 <;> cases b1 <;> cases b2 <;> decide
theorem pg_s3_end (b : Nat → Bool) : pg_s3 b 3 = pg_set3 (b 0) (b 1) (b 2) := by
  unfold pg_s3
  generalize b 0 = b0, b 1 = b1, b 2 = b2
  cases b0 <;> cases b1 <;> cases b2 <;> decide
theorem pg_s3_0 (b : Nat → Bool) : pg_s3 b 0 = 0 := by
  unfold pg_s3
  generalize b 0 = b0, b 1 = b1, b 2 = b2
  cases b0 <;> cases b1 <;> cases b2 <;> decide
theorem pc_open {k n q : Nat} {B : Nat → Int32} {σ : hb_Mem} (hk : pl_st k) (h : pl_WB n B) (hr : pl_RS σ k n B) (hq : q < 32 * n) : fn_X2_openChoices k (nI q) σ = some (pg_set3 (pg_op B q 0) (pg_op B q 1) (pg_op B q 2)) := by
  unfold fn_X2_openChoices ll_X2_openChoices_4
  have hw := fun c hc => pc_why (c := c) hk h hr hq hc
  rw [pl_for (N := 3) (st := fun i => (pg_s3 (pg_op B q) i, nI i)) (s := (0, 0)) (t := pg_s3 (pg_op B q) 3)]
  · rw [pg_s3_end]; rfl
  · rw [pg_s3_0]; rfl
  · intro i hi
    unfold lb_X2_openChoices_4
    dsimp only
    rw [if_neg (by show ¬ nI 3 ≤ nI i; rw [nI_leI (by omega) (by omega)]; omega), hw i hi, Option.bind_some]
    simp only [pl_eq0 (Nat.lt_of_lt_of_le (pg_why_lt B (q / 32) (q % 32) i) (by decide))]
    unfold jn_X2_openChoices_24
    simp only [hb_nm, nI_1]
    rw [← pg_s3_step (pg_op B q) hi]
    by_cases hz : pg_why B (q / 32) (q % 32) i = 0
    · rw [if_pos hz, if_pos (show pg_op B q i = true from decide_eq_true hz)]
    · rw [if_neg hz, if_neg (show ¬ pg_op B q i = true from fun h => hz (of_decide_eq_true h))]
  · unfold lb_X2_openChoices_4
    dsimp only
    rw [if_pos (show (3 : Int32) ≤ nI 3 from by decide)]
  · rw [pl_F]; omega
theorem pc_isIn3 (b : Nat → Bool) {i : Nat} (hi : i < 3) : fn_X3_isIn (nI i) (pg_set3 (b 0) (b 1) (b 2)) = some (if b i then 1 else 0) := by
  obtain ⟨h0, h1, h2⟩ := pg_in3 (b 0) (b 1) (b 2)
  rcases (show i = 0 ∨ i = 1 ∨ i = 2 by omega) with rfl | rfl | rfl
  · exact h0
  · exact h1
  · exact h2

