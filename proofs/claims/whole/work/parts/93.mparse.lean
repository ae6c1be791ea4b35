/-! a text of choices, the reference's side -/
def tx_M (μ : hb_Mem) (T : Nat → Nat) (len : Nat) : Prop := len ≤ 60 ∧ μ 0 6 = nI len ∧ (∀ i, i < len → (μ 4 i).toNatClampNeg = T i) ∧ tx_E T len
theorem tx_M.fr {μ μ' : hb_Mem} {T : Nat → Nat} {len : Nat} (h : tx_M μ T len) (h1 : μ' 0 6 = μ 0 6) (h2 : μ' 4 = μ 4) : tx_M μ' T len := ⟨h.1, by rw [h1]; exact h.2.1, fun i hi => by rw [h2]; exact h.2.2.1 i hi, h.2.2.2⟩
theorem pm_here {μ : hb_Mem} {T : Nat → Nat} {len i : Nat} (h : tx_M μ T len) (hi : i ≤ len) (b : Int32) : ∃ x, fn_X6_here 0 (tx_m 0 16 17 μ b i) = some x ∧ x.toNatClampNeg = T i := by
  obtain ⟨h1, h2, h3, h4⟩ := h
  unfold fn_X6_here
  rw [tx_m_f (by decide) (by decide), h2, tx_m_p (by decide)]
  by_cases e : len ≤ i
  · rw [if_pos (by rw [nI_leI (by omega) (by omega)]; exact e), h4 i e]
    exact ⟨-5, rfl, by decide⟩
  · rw [if_neg (by rw [nI_leI (by omega) (by omega)]; exact e), pm_ld (a := hm_rf 0 5) (n := 60) (by decide) (by omega) (by decide), Option.bind_some, show hm_rf 0 5 = 4 from by decide, tx_m_c (by decide)]
    exact ⟨_, rfl, h3 i (by omega)⟩
theorem pm_tk0 {μ : hb_Mem} {i : Nat} {p b : Int32} : jn_X6_takes_17 0 p 0 (tx_m 0 16 17 μ b i) = some (tx_m 0 16 17 μ 0 i) := by
  have o0 : hb_bz 0 = some 0 := rfl
  unfold jn_X6_takes_17 jn_X6_takes_37
  simp only [hb_nm]
  rw [o0, Option.bind_some, tx_m_upq (by decide), tx_m_q, if_pos rfl, tx_m_p (by decide), Int32.add_zero, tx_m_upp (by decide)]
theorem pm_tk1 {μ : hb_Mem} {i : Nat} {p b : Int32} : jn_X6_takes_17 0 p 1 (tx_m 0 16 17 μ b i) = some (tx_m 0 16 17 μ 1 (i + 1)) := by
  have o1 : hb_bz 1 = some 1 := rfl
  unfold jn_X6_takes_17 jn_X6_takes_37
  simp only [hb_nm]
  rw [o1, Option.bind_some, tx_m_upq (by decide), tx_m_q, if_neg (show ¬ (1 : Int32) = 0 by decide), tx_m_p (by decide), nI_1, tx_m_upp (by decide)]
theorem pm_takes_no {μ : hb_Mem} {i : Nat} {p : Int32} : fn_X6_takes 0 p (tx_m 0 16 17 μ 0 i) = some (tx_m 0 16 17 μ 0 i) := by
  unfold fn_X6_takes jn_X6_takes_16
  rw [tx_m_q, if_pos rfl, pm_tk0]
theorem pm_takes_0 {μ : hb_Mem} {i : Nat} : fn_X6_takes 0 0 (tx_m 0 16 17 μ 1 i) = some (tx_m 0 16 17 μ 0 i) := by
  unfold fn_X6_takes jn_X6_takes_16
  rw [tx_m_q, if_neg (show ¬ (1 : Int32) = 0 by decide), if_pos rfl, pm_tk0]
theorem pm_takes_1 {μ : hb_Mem} {i : Nat} : fn_X6_takes 0 1 (tx_m 0 16 17 μ 1 i) = some (tx_m 0 16 17 μ 1 (i + 1)) := by
  unfold fn_X6_takes
  rw [tx_m_q, if_neg (show ¬ (1 : Int32) = 0 by decide), if_neg (show ¬ (1 : Int32) = 0 by decide), pm_tk1]
theorem pm_num {μ : hb_Mem} {T : Nat → Nat} {len i : Nat} (h : tx_M μ T len) (hi : i ≤ len) : ∃ w, fn_X6_number 0 (tx_m 0 16 17 μ 1 i) = some ((tx_num T i).elim (w, tx_m 0 16 17 μ 0 i) (fun r => (nI r.1, tx_m 0 16 17 μ 1 r.2))) := by
  have z1 : ¬ (1 : Int32) = 0 := by decide
  obtain ⟨x, hx, tx⟩ := pm_here h hi 1
  have hin : fn_X6_in x 48 57 = some (if 48 ≤ T i ∧ T i ≤ 57 then 1 else 0) := tx_in (a := 48) (b := 57) tx (by decide) (by decide) (by decide)
  unfold fn_X6_number tx_num
  simp only [hb_nm]
  rw [hx, Option.bind_some, Option.bind_some, hin, Option.bind_some]
  by_cases d : 48 ≤ T i ∧ T i ≤ 57
  · have hl := tx_lt (i := i) h.2.2.2 (by omega)
    have h60 := h.1
    obtain ⟨xe, -⟩ := tx_pos tx (by omega)
    obtain ⟨y, hy, ty⟩ := pm_here (i := i + 1) h (by omega) 1
    have hin2 : fn_X6_in y 48 57 = some (if 48 ≤ T (i + 1) ∧ T (i + 1) ≤ 57 then 1 else 0) := tx_in (a := 48) (b := 57) ty (by decide) (by decide) (by decide)
    refine ⟨0, ?_⟩
    rw [if_pos d, if_pos d, pm_takes_1, Option.bind_some, tx_m_q, if_neg z1, xe]
    rw [show nI (T i) - 48 = nI (T i - 48) from pl_sub (b := 48) (by omega)]
    by_cases z : T i = 48
    · have zz : nI (T i - 48) ≤ 0 := by rw [z]; decide
      rw [if_pos zz, if_pos z, z]
      rfl
    · have zz : ¬ nI (T i - 48) ≤ 0 := by
        show ¬ nI (T i - 48) ≤ nI 0
        rw [nI_leI (by omega) (by omega)]
        omega
      rw [if_neg zz, if_neg z, hy, Option.bind_some, hin2, Option.bind_some]
      by_cases d2 : 48 ≤ T (i + 1) ∧ T (i + 1) ≤ 57
      · obtain ⟨ye, -⟩ := tx_pos ty (by omega)
        rw [if_pos d2, if_pos d2, if_neg z1, Option.bind_some, Option.bind_some, ye, tx_two' (by omega) (by omega), tx_m_p (by decide), nI_1, tx_m_upp (by decide)]
        by_cases k : 10 * (T i - 48) + (T (i + 1) - 48) < 32
        · have kk : ¬ 31 < nI (10 * (T i - 48) + (T (i + 1) - 48)) := fun hc => by
            have := (nI_ltI (a := 31) (by omega) (by omega)).mp hc
            omega
          rw [if_neg kk, if_pos k]
          rfl
        · have kk : 31 < nI (10 * (T i - 48) + (T (i + 1) - 48)) := (nI_ltI (a := 31) (by omega) (by omega)).mpr (by omega)
          rw [if_pos kk, if_neg k]
          rfl
      · rw [if_neg d2, if_neg d2, if_pos rfl]
        rfl
  · refine ⟨x - 48, ?_⟩
    rw [if_neg d, if_neg d, pm_takes_0, Option.bind_some, tx_m_q, if_pos rfl]
    rfl
theorem pm_num0 {μ : hb_Mem} {T : Nat → Nat} {len i : Nat} (h : tx_M μ T len) (hi : i ≤ len) : ∃ w, fn_X6_number 0 (tx_m 0 16 17 μ 0 i) = some (w, tx_m 0 16 17 μ 0 i) := by
  obtain ⟨x, hx, tx⟩ := pm_here h hi 0
  have hin : fn_X6_in x 48 57 = some (if 48 ≤ T i ∧ T i ≤ 57 then 1 else 0) := tx_in (a := 48) (b := 57) tx (by decide) (by decide) (by decide)
  unfold fn_X6_number
  simp only [hb_nm]
  rw [hx, Option.bind_some, Option.bind_some, hin, Option.bind_some, pm_takes_no, Option.bind_some, tx_m_q, if_pos rfl]
  exact ⟨_, rfl⟩
theorem pm_run {μ : hb_Mem} {T : Nat → Nat} {len i w g : Nat} (h : tx_M μ T len) (hi : i ≤ len) (hw : w < 32) (hg : g < 5) (l : Int32) : ll_X6_flags_56 0 l (nI w, nI (97 + g), tx_m 0 16 17 μ 1 i) = some (nI (tx_run T (4 - g) w i).1, tx_m 0 16 17 μ 1 (tx_run T (4 - g) w i).2) := by
  have z1 : ¬ (1 : Int32) = 0 := by decide
  unfold ll_X6_flags_56
  obtain ⟨t, h1, h2⟩ := pl_inv (f := fun s => lb_X6_flags_56 0 l s.1 s.2.1 s.2.2) (s := (nI w, nI (97 + g), tx_m 0 16 17 μ 1 i)) 5
    (fun k s => ∃ v e j, v < 32 ∧ k ≤ e ∧ e < 5 ∧ j ≤ len ∧ s = (nI v, nI (97 + e), tx_m 0 16 17 μ 1 j) ∧ tx_run T (4 - e) v j = tx_run T (4 - g) w i)
    (fun t => t = (nI (tx_run T (4 - g) w i).1, tx_m 0 16 17 μ 1 (tx_run T (4 - g) w i).2))
    ⟨w, g, i, hw, Nat.zero_le _, hg, hi, rfl, rfl⟩ (by
    intro k s hk ⟨v, e, j, hv, hke, he, hj, hs, hR⟩
    subst hs
    show (∃ s', lb_X6_flags_56 0 l (nI v) (nI (97 + e)) (tx_m 0 16 17 μ 1 j) = some (.inl s') ∧ _) ∨ ∃ t, lb_X6_flags_56 0 l (nI v) (nI (97 + e)) (tx_m 0 16 17 μ 1 j) = some (.inr t) ∧ _
    obtain ⟨x, hx, tx⟩ := pm_here h hj 1
    have hin : fn_X6_in x (nI (97 + e) + 1) 101 = some (if 97 + e + 1 ≤ T j ∧ T j ≤ 101 then 1 else 0) := by
      rw [nI_1]
      exact tx_in (a := 97 + e + 1) (b := 101) tx (by omega) (by omega) (by decide)
    unfold lb_X6_flags_56
    simp only [hb_nm]
    rw [tx_m_q, if_neg z1, hx, Option.bind_some, hin, Option.bind_some]
    by_cases d : 97 + e + 1 ≤ T j ∧ T j ≤ 101
    · obtain ⟨xe, -⟩ := tx_pos tx (by omega)
      have hl := tx_lt (i := j) h.2.2.2 (by omega)
      have hb := tx_bit (T j - 97) (by omega) v hv
      have hm : x - 97 = nI (T j - 97) := by
        rw [xe]
        exact pl_sub (b := 97) (by omega)
      left
      rw [if_pos d, if_neg z1, Option.bind_some, tx_m_p (by decide), nI_1, tx_m_upp (by decide), hm, hb]
      refine ⟨_, rfl, v ||| 2 ^ (T j - 97), T j - 97, j + 1, ?_, by omega, by omega, by omega, ?_, ?_⟩
      · have := (tx_or_lt (4 - (T j - 97)) (by omega) v hv).1
        rw [show 4 - (4 - (T j - 97)) = T j - 97 by omega] at this
        exact this
      · rw [xe, show 97 + (T j - 97) = T j by omega]
      · rw [← hR]
        exact (tx_run_yes (g := T j - 97) (by omega) (by omega) (4 - e) (by omega) (by omega) v).symm
    · right
      rw [if_neg d, if_pos rfl]
      refine ⟨_, rfl, ?_⟩
      rw [← hR, tx_run_no (4 - e) (by omega) v (by omega)]) (by
    intro s ⟨v, e, j, hv, hke, he, hj, hs, hR⟩
    omega) (by rw [pl_F]; omega)
  rw [h1, h2]
theorem pm_flg {μ : hb_Mem} {T : Nat → Nat} {len i l : Nat} (h : tx_M μ T len) (hi : i ≤ len) (hl : 0 < l) (hl2 : l < 2 ^ 31) : fn_X6_flags 0 (nI l) (tx_m 0 16 17 μ 1 i) = some ((tx_flg T l i).1.elim (0, tx_m 0 16 17 μ 0 (tx_flg T l i).2) (fun a => (nI a, tx_m 0 16 17 μ 1 (tx_flg T l i).2))) := by
  have z1 : ¬ (1 : Int32) = 0 := by decide
  obtain ⟨x, hx, tx⟩ := pm_here h hi 1
  unfold fn_X6_flags tx_flg
  simp only [hb_nm]
  rw [hx, Option.bind_some, tx_m_p (by decide), nI_1, tx_m_upp (by decide)]
  by_cases e : T i = l
  · have e2 : x = nI l := (tx_eq tx hl hl2).mpr e
    have hlt := tx_lt (i := i) h.2.2.2 (by omega)
    obtain ⟨y, hy, ty⟩ := pm_here (i := i + 1) h (by omega) 1
    have hin : fn_X6_in y 97 101 = some (if 97 ≤ T (i + 1) ∧ T (i + 1) ≤ 101 then 1 else 0) := tx_in (a := 97) (b := 101) ty (by decide) (by decide) (by decide)
    rw [if_pos e, if_pos e2, hy, Option.bind_some, Option.bind_some, hin, Option.bind_some]
    by_cases d : 97 ≤ T (i + 1) ∧ T (i + 1) ≤ 101
    · have hlt2 := tx_lt (i := i + 1) h.2.2.2 (by omega)
      obtain ⟨ye, -⟩ := tx_pos ty (by omega)
      have hg : T (i + 1) = 97 + (T (i + 1) - 97) := by omega
      have hb := tx_bit (T (i + 1) - 97) (by omega) 0 (by omega)
      have hm : y - 97 = nI (T (i + 1) - 97) := by
        rw [ye]
        exact pl_sub (b := 97) (by omega)
      have hb2 : (1 : Int32) <<< (nI (T (i + 1) - 97) &&& 31) = nI (0 ||| 2 ^ (T (i + 1) - 97)) := by
        rw [← hb, show nI 0 = (0 : Int32) from rfl, Int32.zero_or]
      have hw : 0 ||| 2 ^ (T (i + 1) - 97) < 32 ∧ 0 ||| 2 ^ (T (i + 1) - 97) ≠ 0 := by
        have := tx_or_lt (4 - (T (i + 1) - 97)) (by omega) 0 (by omega)
        rw [show 4 - (4 - (T (i + 1) - 97)) = T (i + 1) - 97 by omega] at this
        exact this
      have hR := tx_run_yes (i := i + 1) (g := T (i + 1) - 97) (by omega) hg 5 (by omega) (by omega) 0
      obtain ⟨b1, b2, b3, b4⟩ := tx_run_b h.2.2.2 (4 - (T (i + 1) - 97)) (by omega) _ (i + 1 + 1) hw.1 (by omega)
      rw [if_pos d, pm_takes_1, Option.bind_some, tx_m_q, if_neg z1, hm, hb2, show y = nI (97 + (T (i + 1) - 97)) by rw [← hg]; exact ye, pm_run h (by omega) hw.1 (by omega), Option.bind_some, hR, if_neg (b4 hw.2)]
      rfl
    · have hR := tx_run_no (T := T) (i := i + 1) 5 (by omega) 0 (by omega)
      have hend : ll_X6_flags_56 0 (nI l) (0, y, tx_m 0 16 17 μ 0 (i + 1)) = some (0, tx_m 0 16 17 μ 0 (i + 1)) := by
        unfold ll_X6_flags_56
        rw [show hb_F = 999999 + 1 from rfl, hb_lp]
        have : lb_X6_flags_56 0 (nI l) 0 y (tx_m 0 16 17 μ 0 (i + 1)) = some (.inr (0, tx_m 0 16 17 μ 0 (i + 1))) := by
          unfold lb_X6_flags_56
          rw [tx_m_q, if_pos rfl]
        show (lb_X6_flags_56 0 (nI l) 0 y (tx_m 0 16 17 μ 0 (i + 1))).bind _ = _
        rw [this]
        rfl
      rw [if_neg d, pm_takes_0, Option.bind_some, tx_m_q, if_pos rfl, hend, Option.bind_some, hR, if_pos rfl]
      rfl
  · have e2 : ¬ x = nI l := fun hc => e ((tx_eq tx hl hl2).mp hc)
    rw [if_neg e, if_neg e2]
    rfl
