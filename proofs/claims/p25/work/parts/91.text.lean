/-! a text of choices: what both parsers compute, in numbers. T: the sign at each place, 0 behind the text -/
/-- a cell with its place and its truth set -/
def tx_m (k p q : Nat) (σ : hb_Mem) (b : Int32) (i : Nat) : hb_Mem := hb_up (hb_up σ k p (nI i)) k q b
theorem tx_m_p {k p q : Nat} (h : p ≠ q) {σ : hb_Mem} {b : Int32} {i : Nat} : tx_m k p q σ b i k p = nI i := by
  unfold tx_m
  rw [pl_up_other h, pl_up_same]
theorem tx_m_q {k p q : Nat} {σ : hb_Mem} {b : Int32} {i : Nat} : tx_m k p q σ b i k q = b := by
  unfold tx_m
  rw [pl_up_same]
theorem tx_m_f {k p q j : Nat} (h1 : j ≠ p) (h2 : j ≠ q) {σ : hb_Mem} {b : Int32} {i : Nat} : tx_m k p q σ b i k j = σ k j := by
  unfold tx_m
  rw [pl_up_other h2, pl_up_other h1]
theorem tx_m_c {k p q c : Nat} (h : c ≠ k) {σ : hb_Mem} {b : Int32} {i : Nat} : tx_m k p q σ b i c = σ c := by
  unfold tx_m
  rw [hb_up_ne h, hb_up_ne h]
theorem tx_ext {σ τ : hb_Mem} {k : Nat} (h1 : ∀ c, c ≠ k → σ c = τ c) (h2 : ∀ j, σ k j = τ k j) : σ = τ := by
  funext c
  by_cases h : c = k
  · subst h
    funext j
    exact h2 j
  · exact h1 c h
theorem tx_m_upp {k p q : Nat} (h : p ≠ q) {σ : hb_Mem} {b : Int32} {i j : Nat} : hb_up (tx_m k p q σ b i) k p (nI j) = tx_m k p q σ b j := by
  refine tx_ext (k := k) (fun c hc => by rw [hb_up_ne hc, tx_m_c hc, tx_m_c hc]) (fun x => ?_)
  by_cases e : x = p
  · rw [e, pl_up_same, tx_m_p h]
  · rw [pl_up_other e]
    by_cases e2 : x = q
    · rw [e2, tx_m_q, tx_m_q]
    · rw [tx_m_f e e2, tx_m_f e e2]
theorem tx_m_upq {k p q : Nat} (h : p ≠ q) {σ : hb_Mem} {b c : Int32} {i : Nat} : hb_up (tx_m k p q σ b i) k q c = tx_m k p q σ c i := by
  refine tx_ext (k := k) (fun c hc => by rw [hb_up_ne hc, tx_m_c hc, tx_m_c hc]) (fun x => ?_)
  by_cases e : x = q
  · rw [e, pl_up_same, tx_m_q]
  · rw [pl_up_other e]
    by_cases e2 : x = p
    · rw [e2, tx_m_p h, tx_m_p h]
    · rw [tx_m_f e2 e, tx_m_f e2 e]
theorem tx_m_upf {k p q j : Nat} (h : p ≠ q) (h1 : j ≠ p) (h2 : j ≠ q) {σ : hb_Mem} {b v : Int32} {i : Nat} : hb_up (tx_m k p q σ b i) k j v = tx_m k p q (hb_up σ k j v) b i := by
  refine tx_ext (k := k) (fun c hc => by rw [hb_up_ne hc, tx_m_c hc, tx_m_c hc, hb_up_ne hc]) (fun x => ?_)
  by_cases e0 : x = j
  · rw [e0, pl_up_same, tx_m_f h1 h2, pl_up_same]
  · rw [pl_up_other e0]
    by_cases e : x = q
    · rw [e, tx_m_q, tx_m_q]
    · by_cases e2 : x = p
      · rw [e2, tx_m_p h, tx_m_p h]
      · rw [tx_m_f e2 e, tx_m_f e2 e, pl_up_other e0]
theorem tx_m_upc {k p q c j : Nat} (h : c ≠ k) {σ : hb_Mem} {b v : Int32} {i : Nat} : hb_up (tx_m k p q σ b i) c j v = tx_m k p q (hb_up σ c j v) b i := by
  funext d x
  by_cases e : d = k
  · rw [e, pl_up_ne (fun hc => h hc.symm)]
    unfold tx_m
    by_cases e1 : x = q
    · rw [e1, pl_up_same, pl_up_same]
    · rw [pl_up_other e1, pl_up_other e1]
      by_cases e2 : x = p
      · rw [e2, pl_up_same, pl_up_same]
      · rw [pl_up_other e2, pl_up_other e2, pl_up_ne (fun hc => h hc.symm)]
  · rw [tx_m_c e]
    by_cases e2 : d = c
    · rw [e2]
      by_cases e3 : x = j
      · rw [e3, pl_up_same, pl_up_same]
      · rw [pl_up_other e3, pl_up_other e3, tx_m_c h]
    · rw [pl_up_ne e2, pl_up_ne e2, tx_m_c e]
theorem tx_m_self {k p q : Nat} {σ : hb_Mem} {b : Int32} {i : Nat} (h1 : σ k p = nI i) (h2 : σ k q = b) : tx_m k p q σ b i = σ := by
  refine tx_ext (k := k) (fun c hc => tx_m_c hc) (fun x => ?_)
  by_cases e : x = q
  · rw [e, tx_m_q, h2]
  · by_cases e2 : x = p
    · unfold tx_m
      rw [pl_up_other e, e2, pl_up_same, h1]
    · exact tx_m_f e2 e
-- signs
theorem tx_neg {x : Int32} (h : x < 0) : x.toNatClampNeg = 0 := by
  have h1 : x.toNatClampNeg = x.toInt.toNat := rfl
  rw [Int32.lt_iff_toInt_lt] at h
  have h0 : (0 : Int32).toInt = 0 := by decide
  rw [h0] at h
  omega
theorem tx_pos {x : Int32} {t : Nat} (h : x.toNatClampNeg = t) (h0 : 0 < t) : x = nI t ∧ t < 2 ^ 31 := by
  by_cases hx : x < 0
  · rw [tx_neg hx] at h
    omega
  · obtain ⟨u, hu, rfl⟩ := pl_nat hx
    rw [nI_clamp hu] at h
    subst h
    exact ⟨rfl, hu⟩
theorem tx_eq {x : Int32} {t c : Nat} (h : x.toNatClampNeg = t) (h0 : 0 < c) (hc : c < 2 ^ 31) : x = nI c ↔ t = c := by
  constructor
  · intro e
    rw [e, nI_clamp hc] at h
    exact h.symm
  · intro e
    subst e
    exact (tx_pos h h0).1
theorem tx_in {x : Int32} {t a b : Nat} (h : x.toNatClampNeg = t) (h0 : 0 < a) (ha : a < 2 ^ 31) (hb : b < 2 ^ 31) : fq_in x (nI a) (nI b) = some (if a ≤ t ∧ t ≤ b then 1 else 0) := by
  unfold fq_in
  by_cases hx : x < 0
  · rw [tx_neg hx] at h
    have k : ¬ (a ≤ t ∧ t ≤ b) := by omega
    have k2 : x < nI a := by
      have := nI_pos' ha
      exact Int32.lt_of_lt_of_le hx this
    rw [if_pos k2, if_neg k]
  · obtain ⟨u, hu, rfl⟩ := pl_nat hx
    rw [nI_clamp hu] at h
    subst h
    by_cases k1 : u < a
    · have k : ¬ (a ≤ u ∧ u ≤ b) := by omega
      rw [if_pos ((nI_ltI hu ha).mpr k1), if_neg k]
    · rw [if_neg (fun hc => k1 ((nI_ltI hu ha).mp hc))]
      by_cases k2 : b < u
      · have k : ¬ (a ≤ u ∧ u ≤ b) := by omega
        rw [if_pos ((nI_ltI hb hu).mpr k2), if_neg k]
      · have k : a ≤ u ∧ u ≤ b := by omega
        rw [if_neg (fun hc => k2 ((nI_ltI hb hu).mp hc)), if_pos k]
theorem tx_dig {x : Int32} {t : Nat} (h : x.toNatClampNeg = t) : fn_X4_isDigit x = some (if 48 ≤ t ∧ t ≤ 57 then 1 else 0) := tx_in (a := 48) (b := 57) h (by decide) (by decide) (by decide)
-- the grammar
def tx_num (T : Nat → Nat) (i : Nat) : Option (Nat × Nat) := if 48 ≤ T i ∧ T i ≤ 57 then (if T i = 48 then some (0, i + 1) else if 48 ≤ T (i + 1) ∧ T (i + 1) ≤ 57 then (if 10 * (T i - 48) + (T (i + 1) - 48) < 32 then some (10 * (T i - 48) + (T (i + 1) - 48), i + 2) else some (T i - 48, i + 1)) else some (T i - 48, i + 1)) else none
def tx_run (T : Nat → Nat) : Nat → Nat → Nat → Nat × Nat
  | 0, w, i => (w, i)
  | m + 1, w, i => if T i = 101 - m then tx_run T m (w ||| 2 ^ (4 - m)) (i + 1) else tx_run T m w i
def tx_flg (T : Nat → Nat) (l i : Nat) : Option Nat × Nat := if T i = l then (if (tx_run T 5 0 (i + 1)).1 = 0 then (none, (tx_run T 5 0 (i + 1)).2) else (some (tx_run T 5 0 (i + 1)).1, (tx_run T 5 0 (i + 1)).2)) else (some 0, i)
def tx_ch (T : Nat → Nat) (i : Nat) : Nat × Option (Nat × Nat × Nat × Nat) := (tx_num T i).elim (i, none) (fun f => if T f.2 = 62 then (tx_num T (f.2 + 1)).elim (f.2 + 1, none) (fun t => (tx_flg T 43 t.2).1.elim ((tx_flg T 43 t.2).2, none) (fun a => (tx_flg T 45 (tx_flg T 43 t.2).2).1.elim ((tx_flg T 45 (tx_flg T 43 t.2).2).2, none) (fun b => ((tx_flg T 45 (tx_flg T 43 t.2).2).2, some (f.1, t.1, a, b))))) else (f.2, none))
/-- signs end with the text -/
abbrev tx_E (T : Nat → Nat) (len : Nat) : Prop := ∀ i, len ≤ i → T i = 0
theorem tx_lt {T : Nat → Nat} {len i : Nat} (h : tx_E T len) (h0 : T i ≠ 0) : i < len := by
  apply Nat.lt_of_not_le
  intro hc
  exact h0 (h i hc)
theorem tx_num_b {T : Nat → Nat} {len i v j : Nat} (h : tx_E T len) (he : tx_num T i = some (v, j)) : i < j ∧ j ≤ len ∧ v < 32 := by
  unfold tx_num at he
  by_cases d : 48 ≤ T i ∧ T i ≤ 57
  · have h1 := tx_lt (i := i) h (by omega)
    rw [if_pos d] at he
    by_cases z : T i = 48
    · rw [if_pos z] at he
      cases he
      omega
    · rw [if_neg z] at he
      by_cases d2 : 48 ≤ T (i + 1) ∧ T (i + 1) ≤ 57
      · have h2 := tx_lt (i := i + 1) h (by omega)
        rw [if_pos d2] at he
        by_cases k : 10 * (T i - 48) + (T (i + 1) - 48) < 32
        · rw [if_pos k] at he
          cases he
          omega
        · rw [if_neg k] at he
          cases he
          omega
      · rw [if_neg d2] at he
        cases he
        omega
  · rw [if_neg d] at he
    cases he
theorem tx_or_lt : ∀ m, m < 5 → ∀ w, w < 32 → w ||| 2 ^ (4 - m) < 32 ∧ w ||| 2 ^ (4 - m) ≠ 0 := by decide +kernel
theorem tx_run_b {T : Nat → Nat} {len : Nat} (h : tx_E T len) : ∀ m, m ≤ 5 → ∀ w i, w < 32 → i ≤ len → (tx_run T m w i).1 < 32 ∧ i ≤ (tx_run T m w i).2 ∧ (tx_run T m w i).2 ≤ len ∧ (w ≠ 0 → (tx_run T m w i).1 ≠ 0) := by
  intro m
  induction m with
  | zero => intro _ w i hw hi; exact ⟨hw, Nat.le_refl i, hi, fun h => h⟩
  | succ m ih =>
    intro hm w i hw hi
    unfold tx_run
    by_cases e : T i = 101 - m
    · rw [if_pos e]
      have h1 := tx_lt (i := i) h (by omega)
      obtain ⟨o1, o2⟩ := tx_or_lt m (by omega) w hw
      obtain ⟨a1, a2, a3, a4⟩ := ih (by omega) _ (i + 1) o1 (by omega)
      exact ⟨a1, by omega, a3, fun _ => a4 o2⟩
    · rw [if_neg e]
      exact ih (by omega) w i hw hi
/-- no letter that may stand there: the run ends -/
theorem tx_run_no {T : Nat → Nat} {i : Nat} : ∀ m, m ≤ 5 → ∀ w, (T i ≤ 101 - m ∨ 101 < T i) → tx_run T m w i = (w, i) := by
  intro m
  induction m with
  | zero => intro _ w _; rfl
  | succ m ih =>
    intro hm w h
    unfold tx_run
    rw [if_neg (by omega)]
    exact ih (by omega) w (by omega)
/-- a letter that may stand there: it is taken -/
theorem tx_run_yes {T : Nat → Nat} {i g : Nat} (hg : g < 5) (h : T i = 97 + g) : ∀ m, m ≤ 5 → 5 - m ≤ g → ∀ w, tx_run T m w i = tx_run T (4 - g) (w ||| 2 ^ g) (i + 1) := by
  intro m
  induction m with
  | zero => intro _ _ w; omega
  | succ m ih =>
    intro hm hg2 w
    rw [tx_run]
    by_cases e : T i = 101 - m
    · rw [if_pos e, show m = 4 - g by omega, show 4 - (4 - g) = g by omega]
    · rw [if_neg e]
      exact ih (by omega) (by omega) w
theorem tx_flg_b {T : Nat → Nat} {len l i : Nat} (h : tx_E T len) (hl : 0 < l) (hi : i ≤ len) : i ≤ (tx_flg T l i).2 ∧ (tx_flg T l i).2 ≤ len ∧ ∀ a, (tx_flg T l i).1 = some a → a < 32 := by
  unfold tx_flg
  by_cases e : T i = l
  · have h1 := tx_lt (i := i) h (by omega)
    obtain ⟨a1, a2, a3, a4⟩ := tx_run_b h 5 (by omega) 0 (i + 1) (by omega) (by omega)
    rw [if_pos e]
    by_cases z : (tx_run T 5 0 (i + 1)).1 = 0
    · rw [if_pos z]
      exact ⟨by show i ≤ (tx_run T 5 0 (i + 1)).2; omega, a3, fun a ha => by cases ha⟩
    · rw [if_neg z]
      refine ⟨by show i ≤ (tx_run T 5 0 (i + 1)).2; omega, a3, fun a ha => ?_⟩
      cases ha
      exact a1
  · rw [if_neg e]
    refine ⟨Nat.le_refl i, hi, fun a ha => ?_⟩
    cases ha
    omega
/-- what a choice read is bounded by -/
abbrev tx_ok (c : Nat × Nat × Nat × Nat) : Prop := c.1 < 32 ∧ c.2.1 < 32 ∧ c.2.2.1 < 32 ∧ c.2.2.2 < 32
theorem tx_ch_b {T : Nat → Nat} {len i : Nat} (h : tx_E T len) (hi : i ≤ len) : (tx_ch T i).1 ≤ len ∧ ∀ c, (tx_ch T i).2 = some c → i + 3 ≤ (tx_ch T i).1 ∧ tx_ok c := by
  unfold tx_ch
  cases e1 : tx_num T i with
  | none => exact ⟨hi, fun c hc => by cases hc⟩
  | some f =>
    obtain ⟨f1, f2⟩ := f
    obtain ⟨b1, b2, b3⟩ := tx_num_b h e1
    dsimp only [Option.elim]
    by_cases ea : T f2 = 62
    · have h1 := tx_lt (i := f2) h (by omega)
      rw [if_pos ea]
      cases e2 : tx_num T (f2 + 1) with
      | none => exact ⟨by show f2 + 1 ≤ len; omega, fun c hc => by cases hc⟩
      | some t =>
        obtain ⟨t1, t2⟩ := t
        obtain ⟨d1, d2, d3⟩ := tx_num_b h e2
        obtain ⟨g1, g2, g3⟩ := tx_flg_b (l := 43) h (by decide) d2
        obtain ⟨k1, k2, k3⟩ := tx_flg_b (l := 45) h (by decide) g2
        dsimp only [Option.elim]
        cases e3 : (tx_flg T 43 t2).1 with
        | none => exact ⟨g2, fun c hc => by cases hc⟩
        | some a =>
          dsimp only [Option.elim]
          cases e4 : (tx_flg T 45 (tx_flg T 43 t2).2).1 with
          | none => exact ⟨k2, fun c hc => by cases hc⟩
          | some b =>
            refine ⟨k2, fun c hc => ?_⟩
            cases hc
            exact ⟨by show i + 3 ≤ (tx_flg T 45 (tx_flg T 43 t2).2).2; omega, b3, d3, g3 a e3, k3 b e4⟩
    · rw [if_neg ea]
      exact ⟨b2, fun c hc => by cases hc⟩

