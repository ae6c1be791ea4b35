/-! exchange, the reference's side: the choices' targets renamed -/
def rt (C : Nat → Int32) (p q i k : Nat) (X : Nat → Int32) : Prop := (∀ r c, (r < i ∨ r = i ∧ c < k) → c < pl_m C r → X (5 + 13 * r + 3 * c) = ot p q (C (5 + 13 * r + 3 * c))) ∧ ∀ j, (∀ r c, (r < i ∨ r = i ∧ c < k) → c < pl_m C r → j ≠ 5 + 13 * r + 3 * c) → X j = C j
theorem pm_retarget {n p q : Nat} {μ : hb_Mem} (hn : n ≤ 32) (h0 : μ 1 0 = nI n) (hm : ∀ r, r < n → pl_m (μ 1) r ≤ 3 ∧ μ 1 (4 + 13 * r) = nI (pl_m (μ 1) r)) (v : Int32) : ∃ t, ll_X6_exchange_125 0 (nI p) (nI q) v (0, μ) = some t ∧ (∀ k, k ≠ 1 → t k = μ k) ∧ rt (μ 1) p q n 0 (t 1) := by
  have inner : ∀ i, i < n → ∀ τ : hb_Mem, (∀ k, k ≠ 1 → τ k = μ k) → rt (μ 1) p q i 0 (τ 1) → ∃ t, ll_X6_exchange_139 0 (nI p) (nI q) v (nI i) (0, τ) = some t ∧ (∀ k, k ≠ 1 → t k = μ k) ∧ rt (μ 1) p q (i + 1) 0 (t 1) := by
    intro i hi τ hτ hI
    obtain ⟨m1, m2⟩ := hm i hi
    have hfour : ∀ k X, k ≤ pl_m (μ 1) i → rt (μ 1) p q i k X → X (4 + 13 * i) = nI (pl_m (μ 1) i) := by
      intro k X hk hX
      rw [hX.2 _ (fun r c h1 h2 => by
        have hr3 : pl_m (μ 1) r ≤ 3 := by
          rcases h1 with h1 | h1
          · exact (hm r (by omega)).1
          · rw [h1.1]; exact m1
        omega)]
      exact m2
    unfold ll_X6_exchange_139
    refine pl_inv (f := fun s => lb_X6_exchange_139 0 (nI p) (nI q) v (nI i) s.1 s.2) (s := ((0 : Int32), τ)) (pl_m (μ 1) i) (fun k s => s.1 = nI k ∧ (∀ c, c ≠ 1 → s.2 c = μ c) ∧ rt (μ 1) p q i k (s.2 1)) _ ⟨rfl, hτ, hI⟩ ?_ ?_ (by rw [pl_F]; omega)
    · intro k s hk ⟨e1, e2, e3⟩
      obtain ⟨w, υ⟩ := s
      dsimp only at e1 e2 e3
      subst e1
      left
      show ∃ s', lb_X6_exchange_139 0 (nI p) (nI q) v (nI i) (nI k) υ = some (.inl s') ∧ _
      have est : ∀ x, hb_st ΛM υ (hm_rf 0 0) (((((1 : Int32) + ((13 : Int32) * nI i)) + 4) + ((3 : Int32) * nI k)) + 0) x = some (hb_up υ 1 (5 + 13 * i + 3 * k) x) := fun x => by
        rw [show (0 : Int32) = nI 0 from rfl, pm_i2, show 1 + 13 * i + 4 + 3 * k + 0 = 5 + 13 * i + 3 * k by omega]
        exact pm_stt (a := hm_rf 0 0) (n := 425) (by decide) (by omega) (by decide) x υ
      have eC : υ 1 (5 + 13 * i + 3 * k) = μ 1 (5 + 13 * i + 3 * k) := e3.2 _ (fun r c h1 h2 => by
        have hr3 : pl_m (μ 1) r ≤ 3 := by
          rcases h1 with h1 | h1
          · exact (hm r (by omega)).1
          · rw [h1.1]; exact m1
        omega)
      unfold lb_X6_exchange_139
      rw [pm_of3 (by omega), Option.bind_some, hfour k _ (by omega) e3, if_neg (by rw [nI_leI (by omega) (by omega)]; omega), pm_oc0 (by omega) (by omega), Option.bind_some, pm_other, Option.bind_some, est, Option.bind_some, eC]
      simp only [hb_nm, nI_1]
      refine ⟨_, rfl, rfl, fun c hc => ?_, fun r c h1 h2 => ?_, fun j hj => ?_⟩
      · show hb_up υ 1 _ _ c = _
        rw [hb_up_ne hc]
        exact e2 c hc
      · show hb_up υ 1 (5 + 13 * i + 3 * k) (ot p q (μ 1 (5 + 13 * i + 3 * k))) 1 (5 + 13 * r + 3 * c) = _
        by_cases e : r = i ∧ c = k
        · rw [e.1, e.2, pl_up_same]
        · have hr3 : pl_m (μ 1) r ≤ 3 := by
            rcases h1 with h1 | h1
            · exact (hm r (by omega)).1
            · rw [h1.1]; exact m1
          rw [pl_up_other (by omega)]
          exact e3.1 r c (by omega) h2
      · show hb_up υ 1 (5 + 13 * i + 3 * k) (ot p q (μ 1 (5 + 13 * i + 3 * k))) 1 j = _
        rw [pl_up_other (hj i k (by omega) hk)]
        exact e3.2 j (fun r c h1 h2 => hj r c (by omega) h2)
    · intro s ⟨e1, e2, e3⟩
      obtain ⟨w, υ⟩ := s
      dsimp only at e1 e2 e3
      subst e1
      show ∃ t, lb_X6_exchange_139 0 (nI p) (nI q) v (nI i) (nI (pl_m (μ 1) i)) υ = some (.inr t) ∧ _
      unfold lb_X6_exchange_139
      rw [pm_of3 (by omega), Option.bind_some, hfour _ _ (Nat.le_refl _) e3, if_pos (by rw [nI_leI (by omega) (by omega)]; omega)]
      refine ⟨υ, rfl, e2, fun r c h1 h2 => e3.1 r c ?_ h2, fun j hj => e3.2 j (fun r c h1 h2 => hj r c (by omega) h2)⟩
      by_cases e : r = i
      · right
        exact ⟨e, by rw [← e]; exact h2⟩
      · left
        omega
  unfold ll_X6_exchange_125
  refine pl_inv (f := fun s => lb_X6_exchange_125 0 (nI p) (nI q) v s.1 s.2) (s := ((0 : Int32), μ)) n (fun i s => s.1 = nI i ∧ (∀ c, c ≠ 1 → s.2 c = μ c) ∧ rt (μ 1) p q i 0 (s.2 1)) _ ⟨rfl, fun _ _ => rfl, fun r c h1 => by omega, fun j _ => rfl⟩ ?_ ?_ (by rw [pl_F]; omega)
  · intro i s hi ⟨e1, e2, e3⟩
    obtain ⟨w, τ⟩ := s
    dsimp only at e1 e2 e3
    subst e1
    left
    show ∃ s', lb_X6_exchange_125 0 (nI p) (nI q) v (nI i) τ = some (.inl s') ∧ _
    have ld0 : hb_ld ΛM τ (hm_rf 0 0) 0 = some (nI n) := by
      have h1 : hb_ld ΛM τ (hm_rf 0 0) 0 = some (τ 1 0) := pm_ld (a := hm_rf 0 0) (n := 425) (i := 0) (by decide) (by decide) (by decide) τ
      rw [h1, e3.2 0 (fun r c _ _ => by omega), h0]
    obtain ⟨t, t1, t2, t3⟩ := inner i hi τ e2 e3
    unfold lb_X6_exchange_125
    rw [ld0, Option.bind_some, if_neg (by rw [nI_leI (by omega) (by omega)]; omega), t1, Option.bind_some]
    simp only [hb_nm, nI_1]
    exact ⟨_, rfl, rfl, t2, t3⟩
  · intro s ⟨e1, e2, e3⟩
    obtain ⟨w, τ⟩ := s
    dsimp only at e1 e2 e3
    subst e1
    show ∃ t, lb_X6_exchange_125 0 (nI p) (nI q) v (nI n) τ = some (.inr t) ∧ _
    have ld0 : hb_ld ΛM τ (hm_rf 0 0) 0 = some (nI n) := by
      have h1 : hb_ld ΛM τ (hm_rf 0 0) 0 = some (τ 1 0) := pm_ld (a := hm_rf 0 0) (n := 425) (i := 0) (by decide) (by decide) (by decide) τ
      rw [h1, e3.2 0 (fun r c _ _ => by omega), h0]
    unfold lb_X6_exchange_125
    rw [ld0, Option.bind_some, if_pos (by rw [nI_leI (by omega) (by omega)]; omega)]
    exact ⟨τ, rfl, e2, e3⟩
