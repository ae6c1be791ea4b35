/-! the choices of a text bound one after the other, on both sides -/
theorem tx_lt3 {a : Nat} (ha : a < 2 ^ 31) : nI a < 3 ↔ a < 3 := nI_ltI (b := 3) ha (by decide)
def tx_bk (B : Nat → Int32) (L : Nat → Nat × Nat × Nat × Nat) : Nat → Nat → Int32
  | 0 => B
  | i + 1 => ap (tx_bk B L i) (L i).1 (L i).2.1 (L i).2.2.1 (L i).2.2.2
abbrev tx_fit (n : Nat) (B : Nat → Int32) (L : Nat → Nat × Nat × Nat × Nat) (i : Nat) : Prop := ((L i).1 < n ∧ (L i).2.1 < n) ∧ pl_m (tx_bk B L i) (L i).1 < 3
theorem tx_bk_WB {n : Nat} {B : Nat → Int32} {L : Nat → Nat × Nat × Nat × Nat} (h : pl_WB n B) : ∀ i, (∀ j, j < i → tx_ok (L j) ∧ tx_fit n B L j) → pl_WB n (tx_bk B L i) := by
  intro i
  induction i with
  | zero => intro _; exact h
  | succ i ih =>
    intro hL
    obtain ⟨⟨o1, o2, o3, o4⟩, ⟨f1, f2⟩, f3⟩ := hL i (Nat.lt_succ_self i)
    exact ap_WB (ih (fun j hj => hL j (by omega))) f1 f2 o3 o4 f3
theorem tx_bk_m {n : Nat} {B : Nat → Int32} {L : Nat → Nat × Nat × Nat × Nat} {p : Nat} : ∀ i, (∀ j, j < i → tx_fit n B L j) → pl_m (tx_bk B L i) p = pl_m B p + ct i (fun j => if (L j).1 = p then 1 else 0) := by
  intro i
  induction i with
  | zero => intro _; rfl
  | succ i ih =>
    intro hL
    obtain ⟨⟨f1, f2⟩, f3⟩ := hL i (Nat.lt_succ_self i)
    have hi := ih (fun j hj => hL j (by omega))
    show pl_m (ap (tx_bk B L i) (L i).1 (L i).2.1 (L i).2.2.1 (L i).2.2.2) p = pl_m B p + (ct i (fun j => if (L j).1 = p then 1 else 0) + if (L i).1 = p then 1 else 0)
    by_cases e : (L i).1 = p
    · rw [if_pos e, ← e, (ap_m f3).2, e, hi]
      omega
    · rw [if_neg e, wb_m (ap_off f3 (by omega)), hi]
      omega
/-- how far it goes -/
theorem tx_far (n : Nat) (B : Nat → Int32) (L : Nat → Nat × Nat × Nat × Nat) : ∀ N, ∃ M, M ≤ N ∧ (∀ j, j < M → tx_fit n B L j) ∧ (M = N ∨ ¬ tx_fit n B L M) := by
  intro N
  induction N with
  | zero => exact ⟨0, Nat.le_refl 0, fun j hj => by omega, Or.inl rfl⟩
  | succ N ih =>
    obtain ⟨M, m1, m2, m3⟩ := ih
    rcases m3 with e | e
    · by_cases f : tx_fit n B L N
      · refine ⟨N + 1, Nat.le_refl _, fun j hj => ?_, Or.inl rfl⟩
        by_cases ej : j = N
        · rw [ej]
          exact f
        · exact m2 j (by omega)
      · refine ⟨N, Nat.le_succ N, fun j hj => m2 j (by omega), Or.inr f⟩
    · exact ⟨M, by omega, m2, Or.inr e⟩
/-- the error at a choice -/
def tx_er (n : Nat) (L : Nat → Nat × Nat × Nat × Nat) (i : Nat) : Int32 := if (L i).1 < n ∧ (L i).2.1 < n then -3 else -1
theorem pc_has {k n p : Nat} {B : Nat → Int32} {σ : hb_Mem} (hn : n ≤ 32) (hr : pl_RS σ k n B) (hp : p < 32) : fn_X2_hasPage k (nI p) σ = some (if p < n then 1 else 0) := by
  unfold fn_X2_hasPage
  rw [hr.1, if_neg (nI_pos (by omega))]
  by_cases e : p < n
  · rw [if_neg (by rw [nI_leI (by omega) (by omega)]; omega), if_pos e]
  · rw [if_pos (by rw [nI_leI (by omega) (by omega)]; omega), if_neg e]
theorem pc_fset {a : Nat} (ha : a < 32) : fn_X5_isFlagSet (nI a) = some 1 := by
  unfold fn_X5_isFlagSet
  rw [if_neg (nI_pos (by omega)), if_neg (by show ¬ nI 32 ≤ nI a; rw [nI_leI (by omega) (by omega)]; omega)]
theorem pc_err {k n f t a b : Nat} {B : Nat → Int32} {σ : hb_Mem} (hk : pl_st k) (h : pl_WB n B) (hr : pl_RS σ k n B) (hf : f < 32) (ht : t < 32) (ha : a < 32) (hb : b < 32) : fn_X2_errorOfChoice k (nI f) (nI t) (nI a) (nI b) σ = some (if f < n ∧ t < n then (if pl_m B f < 3 then 0 else -3) else -1) := by
  have z1 : ¬ (1 : Int32) = 0 := by decide
  have hn := h.1
  unfold fn_X2_errorOfChoice
  rw [pc_has hn hr hf, Option.bind_some, pc_has hn hr ht, Option.bind_some, pc_fset ha, Option.bind_some, pc_fset hb, Option.bind_some, if_neg z1, if_neg z1]
  by_cases e1 : f < n
  · rw [if_pos e1, if_neg z1]
    by_cases e2 : t < n
    · obtain ⟨m1, m2⟩ := h.m e1
      obtain ⟨w1, w2, w3, w4, w5, w6, w7, w8, w9⟩ := pl_rows hk
      have hsz : fn_X1_at (hc_rf k 4) (nI f) σ = some (nI (pl_m B f)) := by
        rw [pl_at w4 (by omega), ← m2]
        exact congrArg some (hr.2.1 f e1).2.2.2.1
      rw [if_pos e2, if_neg z1, hsz, Option.bind_some, if_pos (show f < n ∧ t < n from ⟨e1, e2⟩)]
      by_cases e3 : pl_m B f < 3
      · rw [if_pos ((tx_lt3 (by omega)).mpr e3), if_pos e3]
      · rw [if_neg (fun hc => e3 ((tx_lt3 (by omega)).mp hc)), if_neg e3]
    · rw [if_neg e2, if_pos rfl, if_neg (fun hc => e2 hc.2)]
  · rw [if_neg e1, if_pos rfl, if_neg (fun hc => e1 hc.1)]
/-- the class's loop over its draft -/
theorem pc_adds {n N M : Nat} {B : Nat → Int32} {L : Nat → Nat × Nat × Nat × Nat} {σ : hb_Mem} (h : pl_WB n B) (hr : pl_RS σ 20 n B) (hN : N < 16) (hM : M ≤ N) (ho : ∀ k, k < N → tx_ok (L k)) (hl : ∀ k, k < N → σ 140 k = nI (L k).1 ∧ σ 142 k = nI (L k).2.1 ∧ σ 144 k = nI (L k).2.2.1 ∧ σ 146 k = nI (L k).2.2.2) (h4 : σ 136 4 = nI N) (hf : ∀ j, j < M → tx_fit n B L j) (he : M = N ∨ ¬ tx_fit n B L M) : ∃ t, ll_X5_addChoices_34 0 (0, σ) = some t ∧ ((M = N ∧ ∃ τ, t = .inr τ ∧ (∀ c, (c < 20 ∨ 39 ≤ c) → τ c = σ c) ∧ pl_RS τ 20 n (tx_bk B L N)) ∨ (M < N ∧ ∃ τ, t = .inl (tx_er n L M, τ) ∧ ∀ c, (c < 20 ∨ 39 ≤ c) → τ c = σ c)) := by
  have z1 : ¬ (1 : Int32) = 0 := by decide
  have hn := h.1
  unfold ll_X5_addChoices_34
  have hread : ∀ (τ : hb_Mem), (∀ c, (c < 20 ∨ 39 ≤ c) → τ c = σ c) → ∀ k, k < N → fn_X1_at (hc_rf (hc_rf 0 5) 5) (nI k) τ = some (nI (L k).1) ∧ fn_X1_at (hc_rf (hc_rf 0 5) 6) (nI k) τ = some (nI (L k).2.1) ∧ fn_X1_at (hc_rf (hc_rf 0 5) 7) (nI k) τ = some (nI (L k).2.2.1) ∧ fn_X1_at (hc_rf (hc_rf 0 5) 8) (nI k) τ = some (nI (L k).2.2.2) := by
    intro τ hτ k hk
    obtain ⟨l1, l2, l3, l4⟩ := hl k hk
    refine ⟨?_, ?_, ?_, ?_⟩
    · rw [pl_at (r := hc_rf (hc_rf 0 5) 5) (a := 140) (n := 16) (by decide) (by omega), hτ 140 (by omega), l1]
    · rw [pl_at (r := hc_rf (hc_rf 0 5) 6) (a := 142) (n := 16) (by decide) (by omega), hτ 142 (by omega), l2]
    · rw [pl_at (r := hc_rf (hc_rf 0 5) 7) (a := 144) (n := 16) (by decide) (by omega), hτ 144 (by omega), l3]
    · rw [pl_at (r := hc_rf (hc_rf 0 5) 8) (a := 146) (n := 16) (by decide) (by omega), hτ 146 (by omega), l4]
  refine pl_inv (f := fun s => lb_X5_addChoices_34 0 s.1 s.2) (s := ((0 : Int32), σ)) M (fun i s => s.1 = nI i ∧ (∀ c, (c < 20 ∨ 39 ≤ c) → s.2 c = σ c) ∧ pl_RS s.2 20 n (tx_bk B L i)) _ ⟨rfl, fun _ _ => rfl, hr⟩ ?_ ?_ (by rw [pl_F]; omega)
  · intro i s hi ⟨e1, e2, e3⟩
    obtain ⟨w, τ⟩ := s
    dsimp only at e1 e2 e3
    subst e1
    left
    show ∃ s', lb_X5_addChoices_34 0 (nI i) τ = some (.inl s') ∧ _
    obtain ⟨r1, r2, r3, r4⟩ := hread τ e2 i (by omega)
    obtain ⟨o1, o2, o3, o4⟩ := ho i (by omega)
    obtain ⟨f1, f2⟩ := hf i hi
    have hW : pl_WB n (tx_bk B L i) := tx_bk_WB h i (fun j hj => ⟨ho j (by omega), hf j (by omega)⟩)
    obtain ⟨τ', g1, g2, g3⟩ := pc_append (t := (L i).2.1) (a := (L i).2.2.1) (b := (L i).2.2.2) (show pl_st 20 by decide) hW e3 f1.1 f2
    have e136 : τ 136 4 = nI N := by rw [e2 136 (by omega)]; exact h4
    unfold lb_X5_addChoices_34
    rw [show τ (hc_rf 0 5) 4 = nI N from e136, if_neg (by rw [nI_leI (by omega) (by omega)]; omega), if_neg (by show ¬ nI 16 ≤ nI i; rw [nI_leI (by omega) (by omega)]; omega), r1, Option.bind_some, r2, Option.bind_some, r3, Option.bind_some, r4, Option.bind_some, show hc_rf 0 1 = 20 from by decide, pc_err (show pl_st 20 by decide) hW e3 o1 o2 o3 o4, Option.bind_some, if_pos f1, if_pos f2, if_pos rfl, g1, Option.bind_some]
    simp only [hb_nm, nI_1]
    exact ⟨_, rfl, rfl, fun c hc => (g2 c (by omega) (by omega) (by omega) (by omega)).trans (e2 c hc), g3⟩
  · intro s ⟨e1, e2, e3⟩
    obtain ⟨w, τ⟩ := s
    dsimp only at e1 e2 e3
    subst e1
    show ∃ t, lb_X5_addChoices_34 0 (nI M) τ = some (.inr t) ∧ _
    have e136 : τ 136 4 = nI N := by rw [e2 136 (by omega)]; exact h4
    unfold lb_X5_addChoices_34
    rw [show τ (hc_rf 0 5) 4 = nI N from e136]
    by_cases hMN : M = N
    · rw [if_pos (by rw [nI_leI (by omega) (by omega)]; omega)]
      refine ⟨_, rfl, Or.inl ⟨hMN, τ, rfl, e2, ?_⟩⟩
      rw [← hMN]
      exact e3
    · obtain ⟨r1, r2, r3, r4⟩ := hread τ e2 M (by omega)
      obtain ⟨o1, o2, o3, o4⟩ := ho M (by omega)
      have hW : pl_WB n (tx_bk B L M) := tx_bk_WB h M (fun j hj => ⟨ho j (by omega), hf j hj⟩)
      have hno : ¬ tx_fit n B L M := he.resolve_left hMN
      rw [if_neg (by rw [nI_leI (by omega) (by omega)]; omega), if_neg (by show ¬ nI 16 ≤ nI M; rw [nI_leI (by omega) (by omega)]; omega), r1, Option.bind_some, r2, Option.bind_some, r3, Option.bind_some, r4, Option.bind_some, show hc_rf 0 1 = 20 from by decide, pc_err (show pl_st 20 by decide) hW e3 o1 o2 o3 o4, Option.bind_some]
      refine ⟨.inl (tx_er n L M, τ), ?_, Or.inr ⟨by omega, τ, rfl, e2⟩⟩
      unfold tx_er
      by_cases q : (L M).1 < n ∧ (L M).2.1 < n
      · have q2 : ¬ pl_m (tx_bk B L M) (L M).1 < 3 := fun hc => hno ⟨q, hc⟩
        rw [if_pos q, if_pos q, if_neg q2, if_neg (show ¬ (-3 : Int32) = 0 by decide)]
      · rw [if_neg q, if_neg q, if_neg (show ¬ (-1 : Int32) = 0 by decide)]

