/-! a text of choices, all of it, the reference's side -/
def tx_mA (μ0 μ : hb_Mem) : Prop := (∀ c, c ≠ 0 → c ≠ 12 → μ c = μ0 c) ∧ ∀ j, j ≠ 16 → j ≠ 17 → j ≠ 19 → μ 0 j = μ0 0 j
theorem tx_mA.m {μ0 μ : hb_Mem} (h : tx_mA μ0 μ) (b : Int32) (i : Nat) : tx_mA μ0 (tx_m 0 16 17 μ b i) := ⟨fun c c1 c2 => by rw [tx_m_c c1]; exact h.1 c c1 c2, fun j j1 j2 j3 => by rw [tx_m_f j1 j2]; exact h.2 j j1 j2 j3⟩
theorem tx_mA.aw {μ0 μ μ' : hb_Mem} (h : tx_mA μ0 μ) (ha : tx_aw μ μ') : tx_mA μ0 μ' := ⟨fun c c1 c2 => (ha.1 c c1 c2).trans (h.1 c c1 c2), fun j j1 j2 j3 => (ha.2 j j3).trans (h.2 j j1 j2 j3)⟩
theorem tx_mA.M {μ0 μ : hb_Mem} {T : Nat → Nat} {len : Nat} (h : tx_M μ0 T len) (hA : tx_mA μ0 μ) : tx_M μ T len := h.fr (hA.2 6 (by decide) (by decide) (by decide)) (hA.1 4 (by decide) (by decide))
def tx_mL (n : Nat) (L : Nat → Nat × Nat × Nat × Nat) (μ : hb_Mem) : Prop := μ 0 19 = nI n ∧ ∀ k, k < n → μ 12 (4 * k) = nI (L k).1 ∧ μ 12 (4 * k + 1) = nI (L k).2.1 ∧ μ 12 (4 * k + 2) = nI (L k).2.2.1 ∧ μ 12 (4 * k + 3) = nI (L k).2.2.2
theorem tx_mL.m {μ : hb_Mem} {n : Nat} {L : Nat → Nat × Nat × Nat × Nat} (h : tx_mL n L μ) (b : Int32) (i : Nat) : tx_mL n L (tx_m 0 16 17 μ b i) := ⟨by rw [tx_m_f (by decide) (by decide)]; exact h.1, fun k hk => by rw [tx_m_c (by decide)]; exact h.2 k hk⟩
theorem tx_ml_aw (μ : hb_Mem) (n : Nat) (c : Nat × Nat × Nat × Nat) : tx_aw μ (tx_ml μ n c) := ((((tx_aw.l _ _ _).tr (tx_aw.l _ _ _)).tr (tx_aw.l _ _ _)).tr (tx_aw.l _ _ _)).tr (tx_aw.n _ _)
theorem tx_mL.s {μ : hb_Mem} {n : Nat} {L : Nat → Nat × Nat × Nat × Nat} (h : tx_mL n L μ) (c : Nat × Nat × Nat × Nat) : tx_mL (n + 1) (fun k => if k = n then c else L k) (tx_ml μ n c) := by
  obtain ⟨h1, h2⟩ := h
  unfold tx_ml
  refine ⟨pl_up_same _ _ _ _, fun k hk => ?_⟩
  dsimp only
  by_cases e : k = n
  · rw [if_pos e, e]
    refine ⟨?_, ?_, ?_, ?_⟩
    · rw [pl_up_ne (by decide), pl_up_other (by omega), pl_up_other (by omega), pl_up_other (by omega), pl_up_same]
    · rw [pl_up_ne (by decide), pl_up_other (by omega), pl_up_other (by omega), pl_up_same]
    · rw [pl_up_ne (by decide), pl_up_other (by omega), pl_up_same]
    · rw [pl_up_ne (by decide), pl_up_same]
  · rw [if_neg e]
    obtain ⟨k1, k2, k3, k4⟩ := h2 k (by omega)
    refine ⟨?_, ?_, ?_, ?_⟩
    · rw [pl_up_ne (by decide), pl_up_other (by omega), pl_up_other (by omega), pl_up_other (by omega), pl_up_other (by omega), k1]
    · rw [pl_up_ne (by decide), pl_up_other (by omega), pl_up_other (by omega), pl_up_other (by omega), pl_up_other (by omega), k2]
    · rw [pl_up_ne (by decide), pl_up_other (by omega), pl_up_other (by omega), pl_up_other (by omega), pl_up_other (by omega), k3]
    · rw [pl_up_ne (by decide), pl_up_other (by omega), pl_up_other (by omega), pl_up_other (by omega), pl_up_other (by omega), k4]
def tx_mR (μ0 : hb_Mem) (s : tx_S) (μ : hb_Mem) : Prop := tx_mA μ0 μ ∧ μ 0 16 = nI s.2.1 ∧ μ 0 17 = (if s.1 = true then 1 else 0) ∧ (s.1 = true → tx_mL s.2.2.1 s.2.2.2 μ)
theorem pm_put {μ0 μ : hb_Mem} {T : Nat → Nat} {len i n : Nat} {L : Nat → Nat × Nat × Nat × Nat} (h : tx_M μ0 T len) (hA : tx_mA μ0 μ) (hB : tx_mL n L μ) (hi : i ≤ len) (hn : n < 29) : ∃ μ', fn_X6_takesChoice 0 (tx_m 0 16 17 μ 1 i) = some μ' ∧ tx_mR μ0 (tx_put (tx_ch T i) n L) μ' := by
  obtain ⟨μ', k1, k2⟩ := pm_ch (tx_mA.M h hA) hi hn hB.1
  rw [k1]
  refine ⟨_, rfl, ?_⟩
  unfold tx_put
  cases e : (tx_ch T i).2 with
  | none => exact ⟨(hA.aw k2).m 0 _, tx_m_p (by decide), tx_m_q, fun hc => by cases hc⟩
  | some c => exact ⟨(hA.aw (tx_ml_aw μ n c)).m 1 _, tx_m_p (by decide), tx_m_q, fun _ => (hB.s c).m 1 _⟩
/-- what stands when the reference has read the text -/
def tx_mE (μ0 : hb_Mem) (len : Nat) (s : tx_S) (t : hb_Mem) : Prop := tx_mA μ0 t ∧ t 0 16 = nI s.2.1 ∧ t 0 17 = (if s.1 = true ∧ s.2.1 = len then 1 else 0) ∧ (s.1 = true ∧ s.2.1 = len → tx_mL s.2.2.1 s.2.2.2 t)
theorem pm_right {μ : hb_Mem} {T : Nat → Nat} {len : Nat} (h : tx_M μ T len) : ∃ μ', fn_X6_isRight 0 μ = some (if (tx_all T).1 = true ∧ (tx_all T).2.1 = len then 1 else 0, μ') ∧ tx_mE μ len (tx_all T) μ' := by
  have z1 : ¬ (1 : Int32) = 0 := by decide
  have h60 := h.1
  have hE := h.2.2.2
  unfold fn_X6_isRight
  simp only [hb_nm]
  have e0 : hb_up (hb_up (hb_up μ 0 16 0) 0 19 0) 0 17 1 = tx_m 0 16 17 (hb_up μ 0 19 (nI 0)) 1 0 := by
    have e1 : hb_up (hb_up μ 0 16 0) 0 19 0 = hb_up (hb_up μ 0 19 (nI 0)) 0 16 (nI 0) := by
      refine tx_ext (k := 0) (fun c hc => by rw [hb_up_ne hc, hb_up_ne hc, hb_up_ne hc, hb_up_ne hc]) (fun x => ?_)
      by_cases x1 : x = 19
      · rw [x1, pl_up_same, pl_up_other (by decide), pl_up_same]
        rfl
      · rw [pl_up_other x1]
        by_cases x2 : x = 16
        · rw [x2, pl_up_same, pl_up_same]
          rfl
        · rw [pl_up_other x2, pl_up_other x2, pl_up_other x1]
    rw [e1]
    rfl
  have hA0 : tx_mA μ (hb_up μ 0 19 (nI 0)) := ⟨fun c c1 _ => hb_up_ne c1, fun j _ _ j3 => pl_up_other j3⟩
  have hB0 : tx_mL 0 (fun _ => (0, 0, 0, 0)) (hb_up μ 0 19 (nI 0)) := ⟨pl_up_same _ _ _ _, fun k hk => by omega⟩
  obtain ⟨μ1, f1, g1⟩ := pm_put h hA0 hB0 (i := 0) (Nat.zero_le _) (by omega)
  rw [e0, f1, Option.bind_some]
  unfold ll_X6_isRight_19
  obtain ⟨t, k1, k2⟩ := pl_inv (f := fun s => lb_X6_isRight_19 0 s) (s := μ1) 17
    (fun k τ => (k ≤ 15 ∧ ∃ s : tx_S, tx_go T (15 - k) s = tx_all T ∧ tx_iv len s ∧ (s.1 = true → s.2.2.1 = k + 1) ∧ tx_mR μ s τ) ∨ ((tx_all T).2.1 < len ∧ tx_mA μ τ ∧ τ 0 16 = nI (tx_all T).2.1 ∧ τ 0 17 = 0))
    (fun t => tx_mE μ len (tx_all T) t)
    (Or.inl ⟨Nat.zero_le _, _, rfl, tx_put_iv hE (Nat.zero_le _) (by omega) (fun k hk => by omega), fun hs => tx_put_n hs, g1⟩) (by
    intro k τ hk hI
    show (∃ s', lb_X6_isRight_19 0 τ = some (.inl s') ∧ _) ∨ ∃ t, lb_X6_isRight_19 0 τ = some (.inr t) ∧ _
    unfold lb_X6_isRight_19 jn_X6_isRight_52
    rcases hI with ⟨hk15, s, a1, a2, a3, b1, b2, b3, b4⟩ | ⟨a1, a2, a3, a4⟩
    · by_cases hs : s.1 = true
      · rw [if_pos hs] at b3
        have hself : tx_m 0 16 17 τ 1 s.2.1 = τ := tx_m_self b2 b3
        have h6 : τ 0 6 = nI len := (tx_mA.M h b1).2.1
        have hle := a2.1
        rw [b3, if_neg z1, h6, b2]
        by_cases q : len ≤ s.2.1
        · right
          have hT : T s.2.1 = 0 := hE _ q
          have eq : s = tx_all T := by rw [← a1, tx_go_no (fun hc => by have := hc.2; omega)]
          have hc : s.1 = true ∧ s.2.1 = len := ⟨hs, by omega⟩
          rw [if_pos ((nI_leI (by omega) (by omega)).mpr q), ← eq]
          exact ⟨_, rfl, b1, b2, by rw [if_pos hc]; exact b3, fun _ => b4 hs⟩
        · rw [if_neg (fun hc => q ((nI_leI (by omega) (by omega)).mp hc))]
          obtain ⟨x, hx, tx⟩ := pm_here (tx_mA.M h b1) a2.1 1
          rw [hself] at hx
          left
          rw [hx, Option.bind_some]
          by_cases e : T s.2.1 = 59
          · have e2 : x = 59 := (tx_eq (c := 59) tx (by decide) (by decide)).mpr e
            have hk14 : k < 15 := by
              have := a2.2.1 hs
              have := a3 hs
              omega
            have ht := pm_takes_1 (μ := τ) (i := s.2.1)
            rw [hself] at ht
            obtain ⟨μ2, f2, g2⟩ := pm_put h b1 (b4 hs) (i := s.2.1 + 1) (by omega) (by rw [a3 hs]; omega)
            rw [if_pos e2, ht, Option.bind_some, tx_m_q, if_neg z1, f2, Option.bind_some]
            refine ⟨_, rfl, Or.inl ⟨by omega, _, ?_, tx_put_iv hE (by omega) (a2.2.1 hs) a2.2.2, fun hp => by rw [tx_put_n hp, a3 hs], g2⟩⟩
            rw [← a1, show 15 - k = (15 - (k + 1)) + 1 by omega, tx_go_yes ⟨hs, e⟩]
          · have e2 : ¬ x = 59 := fun hc => e ((tx_eq (c := 59) tx (by decide) (by decide)).mp hc)
            have ht := pm_takes_0 (μ := τ) (i := s.2.1)
            rw [hself] at ht
            have eq : s = tx_all T := by rw [← a1, tx_go_no (fun hc => e hc.2)]
            rw [if_neg e2, ht, Option.bind_some, tx_m_q, if_pos rfl]
            refine ⟨_, rfl, Or.inr ?_⟩
            rw [← eq]
            exact ⟨by omega, b1.m 0 _, tx_m_p (by decide), tx_m_q⟩
      · right
        rw [if_neg hs] at b3
        have eq : s = tx_all T := by rw [← a1, tx_go_no (fun hc => hs hc.1)]
        rw [b3, if_pos rfl, ← eq]
        exact ⟨_, rfl, b1, b2, by rw [if_neg (fun hc => hs hc.1)]; exact b3, fun hc => absurd hc.1 hs⟩
    · right
      rw [a4, if_pos rfl]
      refine ⟨_, rfl, a2, a3, ?_, fun hc => by have := hc.2; omega⟩
      rw [if_neg (fun hc => by have := hc.2; omega)]
      exact a4) (by
    intro τ hI
    show ∃ t, lb_X6_isRight_19 0 τ = some (.inr t) ∧ _
    unfold lb_X6_isRight_19
    rcases hI with ⟨hk15, -⟩ | ⟨a1, a2, a3, a4⟩
    · omega
    · rw [a4, if_pos rfl]
      refine ⟨_, rfl, a2, a3, ?_, fun hc => by have := hc.2; omega⟩
      rw [if_neg (fun hc => by have := hc.2; omega)]
      exact a4) (by rw [pl_F]; omega)
  rw [k1, Option.bind_some]
  have o0 : hb_bz 0 = some 0 := rfl
  have o1 : hb_bz 1 = some 1 := rfl
  unfold jn_X6_isRight_69
  simp only [hb_nm]
  rw [k2.2.2.1]
  refine ⟨t, ?_, k2⟩
  by_cases c : (tx_all T).1 = true ∧ (tx_all T).2.1 = len
  · rw [if_pos c, o1]
    rfl
  · rw [if_neg c, o0]
    rfl
