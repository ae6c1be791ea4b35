/-! acts on readers, the bookmark, the text -/
theorem wb_m {A B : Nat → Int32} {p : Nat} (h : B (4 + 13 * p) = A (4 + 13 * p)) : pl_m B p = pl_m A p := by
  unfold pl_m
  rw [h]
/-- pages kept: what a place says may change -/
theorem wb_pages {n : Nat} {A B : Nat → Int32} (h : pl_WB n A) (hj : ∀ j, j < 417 → B j = A j) (hr : ∀ r, r < 2 → pl_WR n (B (417 + 3 * r)) (B (418 + 3 * r))) (hb : pl_WR n (B 423) (B 424)) : pl_WB n B := by
  obtain ⟨h1, h2, h3, -, -⟩ := h
  refine ⟨h1, by rw [hj 0 (by decide)]; exact h2, fun p hp => ?_, hr, hb⟩
  obtain ⟨a1, a2, a3, a4, a5, a6⟩ := h3 p hp
  have hm : pl_m B p = pl_m A p := wb_m (hj _ (by omega))
  unfold pl_WP
  rw [hm, hj _ (by omega), hj _ (by omega), hj _ (by omega), hj _ (by omega)]
  refine ⟨a1, a2, a3, a4, a5, fun c hc => ?_⟩
  have := a6 c hc
  unfold pl_WC at this ⊢
  rw [hj _ (by omega), hj _ (by omega), hj _ (by omega)]
  exact this
theorem rs_pages {n : Nat} {A B : Nat → Int32} {σ τ : hb_Mem} (h : pl_WB n A) (hR : pl_RS σ 1 n A) (hj : ∀ j, j < 417 → B j = A j) (h0 : τ 1 0 = σ 1 0) (hc : ∀ c, 3 ≤ c → c < 17 → τ c = σ c) (hr : ∀ r, r < 2 → τ 17 r = pl_plc (B (417 + 3 * r)) (B (418 + 3 * r)) ∧ τ 19 r = B (419 + 3 * r)) (hb : τ 1 10 = pl_plc (B 423) (B 424)) : pl_RS τ 1 n B := by
  have hn := h.1
  obtain ⟨a1, a2, -, -⟩ := hR
  refine ⟨by rw [h0]; exact a1, fun p hp => ?_, hr, hb⟩
  obtain ⟨b1, b2, b3, b4, b5⟩ := a2 p hp
  have hm : pl_m B p = pl_m A p := wb_m (hj _ (by omega))
  have hm3 := (h.m hp).1
  rw [hm, hj _ (by omega), hj _ (by omega), hj _ (by omega), hj _ (by omega), hc _ (by omega) (by omega), hc _ (by omega) (by omega), hc _ (by omega) (by omega), hc _ (by omega) (by omega)]
  refine ⟨b1, b2, b3, b4, fun c hc' => ?_⟩
  rw [hj _ (by omega), hj _ (by omega), hj _ (by omega), hc _ (by omega) (by omega), hc _ (by omega) (by omega), hc _ (by omega) (by omega)]
  exact b5 c hc'
theorem pg_com_congr {A B : Nat → Int32} {p f : Nat} (hj : ∀ j, j < 417 → B j = A j) (hp : p < 32) : pg_com B p f = pg_com A p f := by
  unfold pg_com pg_tak pg_set
  rw [hj _ (by omega), hj _ (by omega)]
