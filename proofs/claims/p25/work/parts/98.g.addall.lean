/-! the choices of a text: all, or none -/
theorem tx_fits {σ : hb_Mem} {len : Nat} (h : ps_text σ len) : ∃ T, tx_C σ T len := by
  refine ⟨fun i => if i < len then (σ 138 i).toNatClampNeg else 0, h.1, h.2, fun i hi => ?_, fun i hi => ?_⟩
  · show _ = if i < len then (σ 138 i).toNatClampNeg else 0
    rw [if_pos hi]
  · show (if i < len then (σ 138 i).toNatClampNeg else 0) = 0
    rw [if_neg (by omega)]
theorem tx_go_1 {T : Nat → Nat} : ∀ m (s : tx_S), (s.1 = true → 0 < s.2.2.1) → (tx_go T m s).1 = true → 0 < (tx_go T m s).2.2.1 := by
  intro m
  induction m with
  | zero => intro s hs h; exact hs h
  | succ m ih =>
    intro s hs h
    by_cases c : s.1 = true ∧ T s.2.1 = 59
    · rw [tx_go_yes c] at h ⊢
      exact ih _ (fun hp => by rw [tx_put_n hp]; omega) h
    · rw [tx_go_no c] at h ⊢
      exact hs h
theorem tx_all_1 {T : Nat → Nat} (h : (tx_all T).1 = true) : 0 < (tx_all T).2.2.1 := tx_go_1 15 _ (fun hp => by rw [tx_put_n hp]; omega) h
theorem ct_bk {n N : Nat} {B : Nat → Int32} {L : Nat → Nat × Nat × Nat × Nat} (hf : ∀ j, j < N → tx_fit n B L j) : ct n (pl_m (tx_bk B L N)) = ct n (pl_m B) + N := by
  rw [ct_congr (g' := fun p => pl_m B p + ct N (fun j => if (L j).1 = p then 1 else 0)) n (fun p _ => tx_bk_m N hf), ct_add, ct_swap (fun p j => if (L j).1 = p then 1 else 0) N n, ct_congr (g' := fun _ => 1) N (fun j hj => ct_one n (hf j hj).1.1), ct_ones]
theorem ap_hi {B : Nat → Int32} {p t a b j : Nat} (hm : pl_m B p < 3) (hp : p < 32) (hj : 417 ≤ j) : ap B p t a b j = B j := ap_off hm (by omega)
theorem tx_bk_hi {n : Nat} {B : Nat → Int32} {L : Nat → Nat × Nat × Nat × Nat} {j : Nat} (hn : n ≤ 32) (hj : 417 ≤ j) : ∀ N, (∀ j, j < N → tx_fit n B L j) → tx_bk B L N j = B j := by
  intro N
  induction N with
  | zero => intro _; rfl
  | succ N ih =>
    intro hf
    obtain ⟨⟨f1, f2⟩, f3⟩ := hf N (Nat.lt_succ_self N)
    show ap (tx_bk B L N) (L N).1 (L N).2.1 (L N).2.2.1 (L N).2.2.2 j = B j
    rw [ap_hi f3 (by omega) hj]
    exact ih (fun j hj => hf j (by omega))
theorem cs_addChoices {t n sz nx len : Nat} {B : Nat → Int32} {σ : hb_Mem} (h : Rl t n B sz nx len σ) : ∃ v σ', fn_X5_addChoices 0 σ = some (v, σ') ∧ ((Rl t n B sz nx len σ' ∧ (v = -1 ∨ v = -3 ∨ ∃ a, a ≤ len ∧ v = -100 - nI a)) ∨ ∃ N B', 0 < N ∧ N ≤ 15 ∧ v = nI N ∧ Ac t n B sz nx len n B' σ' ∧ ct n (pl_m B') = ct n (pl_m B) + N) := by
  have hW := h.1.1
  have hn := hW.1
  have hr := h.2.1
  have z1 : ¬ (1 : Int32) = 0 := by decide
  obtain ⟨T, hC⟩ := tx_fits h.2.2.2.2.2
  obtain ⟨σ1, p1, p2, p3, p4⟩ := pc_parse hC
  have hiv := tx_all_iv hC.2.2.2
  have h60 := hC.1
  unfold fn_X5_addChoices
  rw [show hc_rf 0 5 = 136 from by decide, show hc_rf 0 1 = 20 from by decide, show hc_rf 0 0 = 1 from by decide, p1, Option.bind_some]
  have hread : ∀ τ : hb_Mem, (∀ c, (c < 20 ∨ 39 ≤ c) → τ c = σ1 c) → Rl t n B sz nx len τ := fun τ hτ => h.text (fun c c1 c2 => (hτ c c1).trans (p2.1 c (by omega) (by omega) (by omega) (by omega) (by omega))) ⟨h60, by rw [hτ 136 (by omega), p2.2.1 1 (by decide) (by decide) (by decide)]; exact h.2.2.2.2.2.2⟩
  by_cases hgood : (tx_all T).1 = true ∧ (tx_all T).2.1 = len
  · have hN : (tx_all T).2.2.1 ≤ 15 := by
      have := hiv.2.1 hgood.1
      have := hiv.1
      omega
    have hN0 := tx_all_1 hgood.1
    have hR1 : pl_RS σ1 1 n B := hr.congr (fun c c1 c2 => p2.1 c (by omega) (by omega) (by omega) (by omega) (by omega))
    obtain ⟨σ2, d1, d2, d3⟩ := pl_copy (show pl_st 20 by decide) (show pl_st 1 by decide) (by decide) σ1
    have hR2 : pl_RS σ2 20 n B := pl_RS.same hW hR1 d3
    obtain ⟨M, m1, m2, m3⟩ := tx_far n B (tx_all T).2.2.2 (tx_all T).2.2.1
    have hout : ∀ c, 39 ≤ c → σ2 c = σ1 c := fun c hc => d2 c (by omega)
    obtain ⟨u, g1, g2⟩ := pc_adds (N := (tx_all T).2.2.1) (M := M) (L := (tx_all T).2.2.2) hW hR2 (by omega) m1 hiv.2.2 (fun k hk => by
      rw [hout 140 (by decide), hout 142 (by decide), hout 144 (by decide), hout 146 (by decide)]
      exact p2.2.2.2 k hk) (by rw [hout 136 (by decide)]; exact p2.2.2.1) m2 m3
    rw [if_pos hgood]
    try dsimp only
    rw [if_neg z1, d1, Option.bind_some, g1, Option.bind_some]
    rcases g2 with ⟨hMN, τ, rfl, f1, f2⟩ | ⟨hMN, τ, rfl, f1⟩
    · have hfit : ∀ j, j < (tx_all T).2.2.1 → tx_fit n B (tx_all T).2.2.2 j := fun j hj => m2 j (by omega)
      have hτ : ∀ c, (c < 20 ∨ 39 ≤ c) → τ c = σ1 c := fun c hc => (f1 c hc).trans (d2 c (by omega))
      obtain ⟨σ3, k1, k2, k3, k4, k5, k6⟩ := cs_record (hread τ hτ)
      obtain ⟨σ4, v1, v2, v3⟩ := pl_copy (show pl_st 1 by decide) (show pl_st 20 by decide) (by decide) σ3
      have hWN : pl_WB n (tx_bk B (tx_all T).2.2.2 (tx_all T).2.2.1) := tx_bk_WB hW _ (fun j hj => ⟨hiv.2.2 j hj, hfit j hj⟩)
      have hR3 : pl_RS σ3 20 n (tx_bk B (tx_all T).2.2.2 (tx_all T).2.2.1) := f2.congr (fun c c1 c2 => k5 c (by omega))
      have hR4 : pl_RS σ4 1 n (tx_bk B (tx_all T).2.2.2 (tx_all T).2.2.1) := pl_RS.same hWN hR3 v3
      show ∃ v σ', jn_X5_addChoices_144 0 τ = some (v, σ') ∧ _
      unfold jn_X5_addChoices_144
      rw [show hc_rf 0 5 = 136 from by decide, show hc_rf 0 1 = 20 from by decide, show hc_rf 0 0 = 1 from by decide, k1, Option.bind_some, v1, Option.bind_some]
      have ec : σ4 136 4 = nI (tx_all T).2.2.1 := by rw [v2 136 (by omega), k6 136 (by decide) (by decide), hτ 136 (by omega)]; exact p2.2.2.1
      rw [ec]
      exact ⟨_, _, rfl, Or.inr ⟨(tx_all T).2.2.1, tx_bk B (tx_all T).2.2.2 (tx_all T).2.2.1, hN0, hN, rfl, Ac.of k2 k3 k4 (fun c hc => v2 c (by omega)) (h.1.taken hWN (fun r hr => tx_bk_hi hn (by omega) _ hfit)) hR4, ct_bk hfit⟩⟩
    · refine ⟨_, _, rfl, Or.inl ⟨hread τ (fun c hc => (f1 c hc).trans (d2 c (by omega))), ?_⟩⟩
      unfold tx_er
      split
      · exact Or.inr (Or.inl rfl)
      · exact Or.inl rfl
  · rw [if_neg hgood]
    try dsimp only
    rw [if_pos rfl, p3]
    exact ⟨_, _, rfl, Or.inl ⟨hread σ1 (fun _ _ => rfl), Or.inr (Or.inr ⟨(tx_all T).2.1, hiv.1, rfl⟩)⟩⟩
