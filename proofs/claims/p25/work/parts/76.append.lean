/-! a choice bound to a page, on both sides -/
def ap (B : Nat → Int32) (p t a b : Nat) : Nat → Int32 := fun j => if j = 5 + 13 * p + 3 * pl_m B p then nI t else if j = 6 + 13 * p + 3 * pl_m B p then nI a else if j = 7 + 13 * p + 3 * pl_m B p then nI b else if j = 4 + 13 * p then nI (pl_m B p + 1) else B j
theorem ap_off {B : Nat → Int32} {p t a b j : Nat} (hm : pl_m B p < 3) (h : j < 4 + 13 * p ∨ 14 + 13 * p ≤ j ∨ (5 + 13 * p ≤ j ∧ j < 5 + 13 * p + 3 * pl_m B p)) : ap B p t a b j = B j := by
  unfold ap
  rw [if_neg (by omega), if_neg (by omega), if_neg (by omega), if_neg (by omega)]
theorem ap_m {B : Nat → Int32} {p t a b : Nat} (hm : pl_m B p < 3) : ap B p t a b (4 + 13 * p) = nI (pl_m B p + 1) ∧ pl_m (ap B p t a b) p = pl_m B p + 1 := by
  have h1 : ap B p t a b (4 + 13 * p) = nI (pl_m B p + 1) := by
    unfold ap
    rw [if_neg (by omega), if_neg (by omega), if_neg (by omega), if_pos rfl]
  refine ⟨h1, ?_⟩
  show (ap B p t a b (4 + 13 * p)).toNatClampNeg = _
  rw [h1]
  exact nI_clamp (by omega)
theorem ap_WB {n : Nat} {B : Nat → Int32} {p t a b : Nat} (h : pl_WB n B) (hp : p < n) (ht : t < n) (ha : a < 32) (hb : b < 32) (hm : pl_m B p < 3) : pl_WB n (ap B p t a b) := by
  have hn := h.1
  obtain ⟨e4, em⟩ := ap_m (t := t) (a := a) (b := b) hm
  refine ⟨hn, by rw [ap_off hm (by omega)]; exact h.2.1, fun q hq => ?_, fun r hr => by rw [ap_off hm (by omega), ap_off hm (by omega)]; exact h.2.2.2.1 r hr, by rw [ap_off hm (by omega), ap_off hm (by omega)]; exact h.2.2.2.2⟩
  have hP := h.2.2.1 q hq
  by_cases e : q = p
  · subst e
    obtain ⟨b1, b2, b3, b4, b5, b6⟩ := hP
    unfold pl_WP
    rw [em, e4, ap_off hm (by omega), ap_off hm (by omega), ap_off hm (by omega)]
    refine ⟨b1, b2, b3, by omega, rfl, fun c hc => ?_⟩
    by_cases ec : c = pl_m B q
    · subst ec
      refine ⟨⟨t, ht, ?_⟩, ⟨a, ha, ?_⟩, b, hb, ?_⟩
      · unfold ap
        rw [if_pos rfl]
      · unfold ap
        rw [if_neg (by omega), if_pos rfl]
      · unfold ap
        rw [if_neg (by omega), if_neg (by omega), if_pos rfl]
    · have := b6 c (by omega)
      unfold pl_WC at this ⊢
      rw [ap_off hm (by omega), ap_off hm (by omega), ap_off hm (by omega)]
      exact this
  · exact wp_same hP (Nat.le_refl n) (fun j j1 j2 => ap_off hm (by omega))
theorem pc_append {k n : Nat} {B : Nat → Int32} {σ : hb_Mem} {p t a b : Nat} (hk : pl_st k) (h : pl_WB n B) (hr : pl_RS σ k n B) (hp : p < n) (hm : pl_m B p < 3) : ∃ σ', fn_X2_appendChoice k (nI p) (nI t) (nI a) (nI b) σ = some (nI (pl_m B p), σ') ∧ (∀ c, c ≠ k + 8 → c ≠ k + 10 → c ≠ k + 12 → c ≠ k + 14 → σ' c = σ c) ∧ pl_RS σ' k n (ap B p t a b) := by
  have hn := h.1
  obtain ⟨w1, w2, w3, w4, w5, w6, w7, w8, w9⟩ := pl_rows hk
  obtain ⟨e4, em⟩ := ap_m (t := t) (a := a) (b := b) hm
  obtain ⟨r1, r2, r3, r4, r5⟩ := hr.2.1 p hp
  have hb4 := (h.m hp).2
  unfold fn_X2_appendChoice
  rw [pl_at w4 (by omega), Option.bind_some, r4, hb4, pc_slot, Option.bind_some, pl_put w5 (by omega), Option.bind_some, pl_put w6 (by omega), Option.bind_some, pl_put w7 (by omega), Option.bind_some, pl_put w4 (by omega), Option.bind_some, nI_1]
  refine ⟨_, rfl, fun c c1 c2 c3 c4 => by rw [hb_up_ne c1, hb_up_ne c4, hb_up_ne c3, hb_up_ne c2], ?_⟩
  obtain ⟨σ', hσ'⟩ : ∃ s, s = hb_up (hb_up (hb_up (hb_up σ (k + 10) (3 * p + pl_m B p) (nI t)) (k + 12) (3 * p + pl_m B p) (nI a)) (k + 14) (3 * p + pl_m B p) (nI b)) (k + 8) p (nI (pl_m B p + 1)) := ⟨_, rfl⟩
  rw [← hσ']
  have hoff : ∀ c, c ≠ k + 8 → c ≠ k + 10 → c ≠ k + 12 → c ≠ k + 14 → σ' c = σ c := fun c c1 c2 c3 c4 => by rw [hσ', hb_up_ne c1, hb_up_ne c4, hb_up_ne c3, hb_up_ne c2]
  have g8 : ∀ q, σ' (k + 8) q = if q = p then nI (pl_m B p + 1) else σ (k + 8) q := fun q => by
    by_cases e : q = p
    · rw [if_pos e, e, hσ', pl_up_same]
    · rw [if_neg e, hσ', pl_up_other e, pl_up_ne (by omega), pl_up_ne (by omega), pl_up_ne (by omega)]
  have g10 : ∀ q, σ' (k + 10) q = if q = 3 * p + pl_m B p then nI t else σ (k + 10) q := fun q => by
    by_cases e : q = 3 * p + pl_m B p
    · rw [if_pos e, e, hσ', pl_up_ne (by omega), pl_up_ne (by omega), pl_up_ne (by omega), pl_up_same]
    · rw [if_neg e, hσ', pl_up_ne (by omega), pl_up_ne (by omega), pl_up_ne (by omega), pl_up_other e]
  have g12 : ∀ q, σ' (k + 12) q = if q = 3 * p + pl_m B p then nI a else σ (k + 12) q := fun q => by
    by_cases e : q = 3 * p + pl_m B p
    · rw [if_pos e, e, hσ', pl_up_ne (by omega), pl_up_ne (by omega), pl_up_same]
    · rw [if_neg e, hσ', pl_up_ne (by omega), pl_up_ne (by omega), pl_up_other e, pl_up_ne (by omega)]
  have g14 : ∀ q, σ' (k + 14) q = if q = 3 * p + pl_m B p then nI b else σ (k + 14) q := fun q => by
    by_cases e : q = 3 * p + pl_m B p
    · rw [if_pos e, e, hσ', pl_up_ne (by omega), pl_up_same]
    · rw [if_neg e, hσ', pl_up_ne (by omega), pl_up_other e, pl_up_ne (by omega), pl_up_ne (by omega)]
  obtain ⟨c1, c2, c3, c4⟩ := hr
  refine ⟨by rw [hoff k (by omega) (by omega) (by omega) (by omega)]; exact c1, fun q hq => ?_, fun r hr => by rw [ap_off hm (by omega), ap_off hm (by omega), ap_off hm (by omega), hoff _ (by omega) (by omega) (by omega) (by omega), hoff _ (by omega) (by omega) (by omega) (by omega)]; exact c3 r hr, by rw [ap_off hm (by omega), ap_off hm (by omega), hoff k (by omega) (by omega) (by omega) (by omega)]; exact c4⟩
  obtain ⟨d1, d2, d3, d4, d5⟩ := c2 q hq
  have hq3 := (h.m hq).1
  rw [hoff (k + 2) (by omega) (by omega) (by omega) (by omega), hoff (k + 4) (by omega) (by omega) (by omega) (by omega), hoff (k + 6) (by omega) (by omega) (by omega) (by omega), ap_off hm (show 1 + 13 * q < 4 + 13 * p ∨ 14 + 13 * p ≤ 1 + 13 * q ∨ (5 + 13 * p ≤ 1 + 13 * q ∧ 1 + 13 * q < 5 + 13 * p + 3 * pl_m B p) by omega), ap_off hm (show 2 + 13 * q < 4 + 13 * p ∨ 14 + 13 * p ≤ 2 + 13 * q ∨ (5 + 13 * p ≤ 2 + 13 * q ∧ 2 + 13 * q < 5 + 13 * p + 3 * pl_m B p) by omega), ap_off hm (show 3 + 13 * q < 4 + 13 * p ∨ 14 + 13 * p ≤ 3 + 13 * q ∨ (5 + 13 * p ≤ 3 + 13 * q ∧ 3 + 13 * q < 5 + 13 * p + 3 * pl_m B p) by omega)]
  refine ⟨d1, d2, d3, ?_, fun c hc => ?_⟩
  · rw [g8]
    by_cases e : q = p
    · rw [if_pos e, e, e4]
    · rw [if_neg e, ap_off hm (by omega)]
      exact d4
  · by_cases e : q = p
    · subst e
      rw [em] at hc
      by_cases ec : c = pl_m B q
      · subst ec
        rw [g10, g12, g14, if_pos rfl, if_pos rfl, if_pos rfl]
        refine ⟨?_, ?_, ?_⟩
        · unfold ap
          rw [if_pos rfl]
        · unfold ap
          rw [if_neg (by omega), if_pos rfl]
        · unfold ap
          rw [if_neg (by omega), if_neg (by omega), if_pos rfl]
      · rw [g10, g12, g14, if_neg (by omega), if_neg (by omega), if_neg (by omega), ap_off hm (by omega), ap_off hm (by omega), ap_off hm (by omega)]
        exact d5 c (by omega)
    · have hmq : pl_m (ap B p t a b) q = pl_m B q := wb_m (ap_off hm (by omega))
      rw [hmq] at hc
      rw [g10, g12, g14, if_neg (by omega), if_neg (by omega), if_neg (by omega), ap_off hm (by omega), ap_off hm (by omega), ap_off hm (by omega)]
      exact d5 c hc
