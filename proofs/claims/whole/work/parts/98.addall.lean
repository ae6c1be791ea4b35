/-! the choices of a text bound, the reference's side -/
theorem pm_has {n p : Nat} {μ : hb_Mem} (h : pl_WB n (μ 1)) (hp : p < 32) : fn_X6_isPage 0 (nI p) μ = some (if p < n then 1 else 0) := by
  have hn := h.1
  have o0 : hb_bz 0 = some 0 := rfl
  have o1 : hb_bz 1 = some 1 := rfl
  unfold fn_X6_isPage
  rw [pm_n0 h, Option.bind_some]
  rcases pm_in (x := nI p) (n := n) (by omega) with ⟨q, hq, hx, hi⟩ | ⟨hno, hi⟩
  · have e : p = q := (nI_eq (by omega) (by omega)).mp hx
    rw [hi, Option.bind_some, o1, if_pos (by omega)]
    rfl
  · have e : ¬ p < n := fun hc => hno p hc rfl
    rw [hi, Option.bind_some, o0, if_neg e]
    rfl
theorem tx_i4 (k w : Nat) : (4 : Int32) * nI k + nI w = nI (4 * k + w) := by
  rw [show (4 : Int32) = nI 4 from rfl, pl_mul, nI_add]
theorem tx_i40 (k : Nat) : (4 : Int32) * nI k = nI (4 * k) := pl_mul 4 k
theorem pm_why {n N M : Nat} {L : Nat → Nat × Nat × Nat × Nat} {μ : hb_Mem} (h : pl_WB n (μ 1)) (hN : N < 16) (hM : M ≤ N) (ho : ∀ k, k < N → tx_ok (L k)) (hl : tx_mL N L μ) (hf : ∀ j, j < M → tx_fit n (μ 1) L j) (he : M = N ∨ ¬ tx_fit n (μ 1) L M) : fn_X6_whyNotAll 0 μ = some (if M = N then 0 else tx_er n L M) := by
  have z1 : ¬ (1 : Int32) = 0 := by decide
  have hn := h.1
  obtain ⟨l1, l2⟩ := hl
  have cnt : ∀ i, i < N → (L i).1 < n → ll_X6_whyNotAll_56 0 (nI i) (nI (L i).1) μ (μ 1 (4 + 13 * (L i).1), 0) = some (nI (pl_m (μ 1) (L i).1 + ct i (fun j => if (L j).1 = (L i).1 then 1 else 0))) := by
    intro i hi hLi
    obtain ⟨m1, m2⟩ := h.m hLi
    rw [m2]
    unfold ll_X6_whyNotAll_56
    rw [pl_sumA (f := fun s => lb_X6_whyNotAll_56 0 (nI i) (nI (L i).1) s.1 s.2 μ) i (fun j => if (L j).1 = (L i).1 then 1 else 0) (nI (pl_m (μ 1) (L i).1)), nI_add]
    · intro j w hj
      show lb_X6_whyNotAll_56 0 (nI i) (nI (L i).1) w (nI j) μ = _
      obtain ⟨p1, -, -, -⟩ := l2 j (by omega)
      obtain ⟨o1, -, -, -⟩ := ho j (by omega)
      unfold lb_X6_whyNotAll_56 jn_X6_whyNotAll_81
      simp only [hb_nm]
      rw [if_neg (by rw [nI_leI (by omega) (by omega)]; omega), tx_i40, pm_ld12 (by omega), Option.bind_some, p1]
      by_cases e : (L j).1 = (L i).1
      · rw [if_pos (by rw [e]), if_pos e]
        rfl
      · rw [if_neg (fun hc => e ((nI_eq (by omega) (by omega)).mp hc)), if_neg e]
        rfl
    · intro w
      show lb_X6_whyNotAll_56 0 (nI i) (nI (L i).1) w (nI i) μ = _
      unfold lb_X6_whyNotAll_56
      rw [if_pos (Int32.le_refl _)]
    · rw [pl_F]; omega
  have key : ∃ t, ll_X6_whyNotAll_2 0 μ 0 = some t ∧ t = (if M = N then .inr (.inr ()) else if (L M).1 < n ∧ (L M).2.1 < n then .inr (.inl ()) else .inl ()) := by
    unfold ll_X6_whyNotAll_2
    refine pl_inv (f := fun s => lb_X6_whyNotAll_2 0 s μ) (s := (0 : Int32)) M (fun i s => s = nI i) _ rfl ?_ ?_ (by rw [pl_F]; omega)
    · intro i s hi e
      subst e
      left
      show ∃ s', lb_X6_whyNotAll_2 0 (nI i) μ = some (.inl s') ∧ _
      obtain ⟨p1, p2, -, -⟩ := l2 i (by omega)
      obtain ⟨o1, o2, -, -⟩ := ho i (by omega)
      obtain ⟨⟨f1, f2⟩, f3⟩ := hf i hi
      rw [tx_bk_m i (fun j hj => hf j (by omega))] at f3
      unfold lb_X6_whyNotAll_2
      rw [show μ 0 19 = nI N from l1, if_neg (by rw [nI_leI (by omega) (by omega)]; omega), show (1 : Int32) = nI 1 from rfl, tx_i4, tx_i40, show nI 1 = (1 : Int32) from rfl, pm_ld12 (by omega), Option.bind_some, p1, pm_has h o1, Option.bind_some, if_pos f1, if_neg z1, pm_ld12 (by omega), Option.bind_some, p2, pm_has h o2, Option.bind_some, if_pos f2, if_neg z1, pm_of3 (by omega), Option.bind_some, cnt i (by omega) f1, Option.bind_some, if_pos ((tx_lt3 (by omega)).mpr f3)]
      simp only [hb_nm, nI_1]
      exact ⟨_, rfl, rfl⟩
    · intro s e
      subst e
      show ∃ t, lb_X6_whyNotAll_2 0 (nI M) μ = some (.inr t) ∧ _
      unfold lb_X6_whyNotAll_2
      rw [show μ 0 19 = nI N from l1]
      by_cases hMN : M = N
      · rw [if_pos (by rw [nI_leI (by omega) (by omega)]; omega), if_pos hMN]
        exact ⟨_, rfl, rfl⟩
      · obtain ⟨p1, p2, -, -⟩ := l2 M (by omega)
        obtain ⟨o1, o2, -, -⟩ := ho M (by omega)
        have hno : ¬ tx_fit n (μ 1) L M := he.resolve_left hMN
        rw [if_neg (by rw [nI_leI (by omega) (by omega)]; omega), if_neg hMN, show (1 : Int32) = nI 1 from rfl, tx_i4, tx_i40, show nI 1 = (1 : Int32) from rfl, pm_ld12 (by omega), Option.bind_some, p1, pm_has h o1, Option.bind_some]
        by_cases e1 : (L M).1 < n
        · rw [if_pos e1, if_neg z1, pm_ld12 (by omega), Option.bind_some, p2, pm_has h o2, Option.bind_some]
          by_cases e2 : (L M).2.1 < n
          · have q2 : ¬ pl_m (tx_bk (μ 1) L M) (L M).1 < 3 := fun hc => hno ⟨⟨e1, e2⟩, hc⟩
            rw [tx_bk_m M (fun j hj => hf j hj)] at q2
            have hb := ct_le (g := fun j => if (L j).1 = (L M).1 then 1 else 0) (b := 1) M (fun j _ => by split <;> omega)
            have hm3 := (h.m e1).1
            rw [if_pos e2, if_neg z1, pm_of3 (by omega), Option.bind_some, cnt M (by omega) e1, Option.bind_some, if_neg (fun hc => q2 ((tx_lt3 (by omega)).mp hc)), if_pos (show (L M).1 < n ∧ (L M).2.1 < n from ⟨e1, e2⟩)]
            exact ⟨_, rfl, rfl⟩
          · rw [if_neg e2, if_pos rfl, if_neg (show ¬ ((L M).1 < n ∧ (L M).2.1 < n) from fun hc => e2 hc.2)]
            exact ⟨_, rfl, rfl⟩
        · rw [if_neg e1, if_pos rfl, if_neg (show ¬ ((L M).1 < n ∧ (L M).2.1 < n) from fun hc => e1 hc.1)]
          exact ⟨_, rfl, rfl⟩
  obtain ⟨t, k1, k2⟩ := key
  unfold fn_X6_whyNotAll
  rw [k1, Option.bind_some, k2]
  unfold tx_er
  by_cases hMN : M = N
  · rw [if_pos hMN, if_pos hMN]
    rfl
  · rw [if_neg hMN, if_neg hMN]
    by_cases q : (L M).1 < n ∧ (L M).2.1 < n
    · rw [if_pos q, if_pos q]
      rfl
    · rw [if_neg q, if_neg q]
      rfl
theorem pm_addall {n N : Nat} {L : Nat → Nat × Nat × Nat × Nat} {μ : hb_Mem} (h : pl_WB n (μ 1)) (hN : N < 16) (ho : ∀ k, k < N → tx_ok (L k)) (hl : tx_mL N L μ) (hf : ∀ j, j < N → tx_fit n (μ 1) L j) : ∃ τ, ll_X6_addChoices_32 0 (0, μ) = some τ ∧ (∀ c, c ≠ 1 → τ c = μ c) ∧ τ 1 = tx_bk (μ 1) L N := by
  obtain ⟨l1, l2⟩ := hl
  unfold ll_X6_addChoices_32
  refine pl_inv (f := fun s => lb_X6_addChoices_32 0 s.1 s.2) (s := ((0 : Int32), μ)) N (fun i s => s.1 = nI i ∧ (∀ c, c ≠ 1 → s.2 c = μ c) ∧ s.2 1 = tx_bk (μ 1) L i) _ ⟨rfl, fun _ _ => rfl, rfl⟩ ?_ ?_ (by rw [pl_F]; omega)
  · intro i s hi ⟨e1, e2, e3⟩
    obtain ⟨w, τ⟩ := s
    dsimp only at e1 e2 e3
    subst e1
    left
    show ∃ s', lb_X6_addChoices_32 0 (nI i) τ = some (.inl s') ∧ _
    obtain ⟨p1, p2, p3, p4⟩ := l2 i hi
    obtain ⟨⟨f1, f2⟩, f3⟩ := hf i hi
    have hW : pl_WB n (τ 1) := by
      rw [e3]
      exact tx_bk_WB h i (fun j hj => ⟨ho j (by omega), hf j (by omega)⟩)
    obtain ⟨τ', g1, g2, g3⟩ := pm_append (t := (L i).2.1) (a := (L i).2.2.1) (b := (L i).2.2.2) hW f1 (by rw [e3]; exact f3)
    have e12 := e2 12 (by decide)
    have i1 : (4 : Int32) * nI i + 1 = nI (4 * i + 1) := tx_i4 i 1
    have i2 : (4 : Int32) * nI i + 2 = nI (4 * i + 2) := tx_i4 i 2
    have i3 : (4 : Int32) * nI i + 3 = nI (4 * i + 3) := tx_i4 i 3
    unfold lb_X6_addChoices_32
    rw [show τ 0 19 = nI N by rw [e2 0 (by decide)]; exact l1, if_neg (by rw [nI_leI (by omega) (by omega)]; omega), i1, i2, i3, tx_i40, pm_ld12 (by omega), Option.bind_some, pm_ld12 (by omega), Option.bind_some, pm_ld12 (by omega), Option.bind_some, pm_ld12 (by omega), Option.bind_some, e12, p1, p2, p3, p4, g1, Option.bind_some]
    simp only [hb_nm, nI_1]
    refine ⟨_, rfl, rfl, fun c hc => (g2 c hc).trans (e2 c hc), ?_⟩
    show τ' 1 = tx_bk (μ 1) L (i + 1)
    funext j
    rw [g3, e3]
    rfl
  · intro s ⟨e1, e2, e3⟩
    obtain ⟨w, τ⟩ := s
    dsimp only at e1 e2 e3
    subst e1
    show ∃ t, lb_X6_addChoices_32 0 (nI N) τ = some (.inr t) ∧ _
    unfold lb_X6_addChoices_32
    rw [show τ 0 19 = nI N by rw [e2 0 (by decide)]; exact l1, if_pos (Int32.le_refl _)]
    exact ⟨τ, rfl, e2, e3⟩
