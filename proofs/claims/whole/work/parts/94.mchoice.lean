/-! a choice of the text, the reference's side -/
theorem pm_st12 {k : Nat} (hk : k < 120) (v : Int32) (τ : hb_Mem) : hb_st ΛM τ (hm_rf 0 18) (nI k) v = some (hb_up τ 12 k v) := pm_stt (a := hm_rf 0 18) (n := 120) (by decide) hk (by decide) v τ
theorem pm_ld12 {k : Nat} (hk : k < 120) (τ : hb_Mem) : hb_ld ΛM τ (hm_rf 0 18) (nI k) = some (τ 12 k) := pm_ld (a := hm_rf 0 18) (n := 120) (by decide) hk (by decide) τ
/-- all kept but the list, its length, and the cell's own place and truth -/
def tx_aw (μ μ' : hb_Mem) : Prop := (∀ c, c ≠ 0 → c ≠ 12 → μ' c = μ c) ∧ ∀ j, j ≠ 19 → μ' 0 j = μ 0 j
theorem tx_aw.rf (μ : hb_Mem) : tx_aw μ μ := ⟨fun _ _ _ => rfl, fun _ _ => rfl⟩
theorem tx_aw.tr {μ μ' μ'' : hb_Mem} (h : tx_aw μ μ') (h' : tx_aw μ' μ'') : tx_aw μ μ'' := ⟨fun c h1 h2 => (h'.1 c h1 h2).trans (h.1 c h1 h2), fun j hj => (h'.2 j hj).trans (h.2 j hj)⟩
theorem tx_aw.l (μ : hb_Mem) (k : Nat) (v : Int32) : tx_aw μ (hb_up μ 12 k v) := ⟨fun c _ h2 => hb_up_ne h2, fun j _ => pl_up_ne (by decide)⟩
theorem tx_aw.n (μ : hb_Mem) (v : Int32) : tx_aw μ (hb_up μ 0 19 v) := ⟨fun c h1 _ => hb_up_ne h1, fun j hj => pl_up_other hj⟩
theorem tx_M.aw {μ μ' : hb_Mem} {T : Nat → Nat} {len : Nat} (h : tx_M μ T len) (ha : tx_aw μ μ') : tx_M μ' T len := h.fr (ha.2 6 (by decide)) (ha.1 4 (by decide) (by decide))
theorem pm_96 {μ : hb_Mem} {k n i : Nat} {v b : Int32} (hk : k < 120) (hn : μ 0 19 = nI n) : jn_X6_takesChoice_96 0 (nI k) v (tx_m 0 16 17 μ b i) = some (tx_m 0 16 17 (hb_up (hb_up μ 12 k v) 0 19 (nI (n + 1))) b i) := by
  unfold jn_X6_takesChoice_96
  simp only [hb_nm]
  rw [pm_st12 hk, Option.bind_some, tx_m_upc (by decide), tx_m_f (by decide) (by decide), pl_up_ne (by decide), hn, nI_1, tx_m_upf (by decide) (by decide) (by decide)]
theorem pm_71n {μ : hb_Mem} {a k n i : Nat} {v : Int32} (ha : a + 3 < 120) (hk : k < 120) (hn : μ 0 19 = nI n) : ∃ μ', jn_X6_takesChoice_71 0 (nI a) (nI k) v (tx_m 0 16 17 μ 0 i) = some (tx_m 0 16 17 μ' 0 i) ∧ tx_aw μ μ' := by
  unfold jn_X6_takesChoice_71
  rw [pm_st12 hk, Option.bind_some, tx_m_upc (by decide), tx_m_q, if_pos rfl, show nI a + 3 = nI (a + 3) from nI_add a 3, pm_96 (n := n) ha (by rw [pl_up_ne (by decide)]; exact hn)]
  exact ⟨_, rfl, ((tx_aw.l _ _ _).tr (tx_aw.l _ _ _)).tr (tx_aw.n _ _)⟩
theorem pm_32n {μ : hb_Mem} {T : Nat → Nat} {len a n i : Nat} {s b : Int32} (h : tx_M μ T len) (hi : i ≤ len) (ha : a + 3 < 120) (hn : μ 0 19 = nI n) (ht : fn_X6_takes 0 s (tx_m 0 16 17 μ b i) = some (tx_m 0 16 17 μ 0 i)) : ∃ μ', jn_X6_takesChoice_32 0 (nI a) s (tx_m 0 16 17 μ b i) = some (tx_m 0 16 17 μ' 0 i) ∧ tx_aw μ μ' := by
  obtain ⟨w, hw⟩ := pm_num0 h hi
  unfold jn_X6_takesChoice_32
  rw [ht, Option.bind_some, hw, Option.bind_some, nI_1, pm_st12 (by omega), Option.bind_some, tx_m_upc (by decide), tx_m_q, if_pos rfl, show nI a + 2 = nI (a + 2) from nI_add a 2]
  obtain ⟨μ', k1, k2⟩ := pm_71n (μ := hb_up μ 12 (a + 1) w) (a := a) (k := a + 2) (n := n) (i := i) (v := 0) ha (by omega) (by rw [pl_up_ne (by decide)]; exact hn)
  exact ⟨μ', k1, (tx_aw.l _ _ _).tr k2⟩
/-- a choice laid down -/
def tx_ml (μ : hb_Mem) (n : Nat) (c : Nat × Nat × Nat × Nat) : hb_Mem := hb_up (hb_up (hb_up (hb_up (hb_up μ 12 (4 * n) (nI c.1)) 12 (4 * n + 1) (nI c.2.1)) 12 (4 * n + 2) (nI c.2.2.1)) 12 (4 * n + 3) (nI c.2.2.2)) 0 19 (nI (n + 1))
theorem pm_ch {μ : hb_Mem} {T : Nat → Nat} {len i n : Nat} (h : tx_M μ T len) (hi : i ≤ len) (hn : n < 29) (h4 : μ 0 19 = nI n) : ∃ μ', fn_X6_takesChoice 0 (tx_m 0 16 17 μ 1 i) = some ((tx_ch T i).2.elim (tx_m 0 16 17 μ' 0 (tx_ch T i).1) (fun c => tx_m 0 16 17 (tx_ml μ n c) 1 (tx_ch T i).1)) ∧ tx_aw μ μ' := by
  have z1 : ¬ (1 : Int32) = 0 := by decide
  obtain ⟨w, hw⟩ := pm_num h hi
  have h4n : (4 : Int32) * nI n = nI (4 * n) := pl_mul 4 n
  unfold fn_X6_takesChoice tx_ch
  simp only [hb_nm]
  rw [tx_m_f (by decide) (by decide), h4, h4n, hw, Option.bind_some]
  cases e1 : tx_num T i with
  | none =>
    dsimp only [Option.elim]
    rw [pm_st12 (by omega), Option.bind_some, tx_m_upc (by decide)]
    have hM := h.aw (tx_aw.l μ (4 * n) w)
    obtain ⟨x, hx, tx⟩ := pm_here hM hi 0
    have hn' : hb_up μ 12 (4 * n) w 0 19 = nI n := by rw [pl_up_ne (by decide)]; exact h4
    rw [hx, Option.bind_some]
    by_cases e : x = 62
    · obtain ⟨μ', k1, k2⟩ := pm_32n (s := 1) (b := 0) hM hi (a := 4 * n) (by omega) hn' pm_takes_no
      rw [if_pos e, k1]
      exact ⟨μ', rfl, (tx_aw.l _ _ _).tr k2⟩
    · obtain ⟨μ', k1, k2⟩ := pm_32n (s := 0) (b := 0) hM hi (a := 4 * n) (by omega) hn' pm_takes_no
      rw [if_neg e, k1]
      exact ⟨μ', rfl, (tx_aw.l _ _ _).tr k2⟩
  | some f =>
    obtain ⟨f1, f2⟩ := f
    obtain ⟨b1, b2, b3⟩ := tx_num_b h.2.2.2 e1
    dsimp only [Option.elim]
    rw [pm_st12 (by omega), Option.bind_some, tx_m_upc (by decide)]
    have hM := h.aw (tx_aw.l μ (4 * n) (nI f1))
    obtain ⟨x, hx, tx⟩ := pm_here hM b2 1
    have hn' : hb_up μ 12 (4 * n) (nI f1) 0 19 = nI n := by rw [pl_up_ne (by decide)]; exact h4
    rw [hx, Option.bind_some]
    by_cases ea : T f2 = 62
    · have e2 : x = 62 := (tx_eq (c := 62) tx (by decide) (by decide)).mpr ea
      have hlt := tx_lt (i := f2) h.2.2.2 (by omega)
      obtain ⟨w2, hw2⟩ := pm_num (i := f2 + 1) hM (by omega)
      rw [if_pos e2, if_pos ea]
      unfold jn_X6_takesChoice_32
      rw [pm_takes_1, Option.bind_some, hw2, Option.bind_some]
      cases e3 : tx_num T (f2 + 1) with
      | none =>
        dsimp only [Option.elim]
        rw [nI_1, pm_st12 (by omega), Option.bind_some, tx_m_upc (by decide), tx_m_q, if_pos rfl, show nI (4 * n) + 2 = nI (4 * n + 2) from nI_add _ 2]
        obtain ⟨μ', k1, k2⟩ := pm_71n (μ := hb_up (hb_up μ 12 (4 * n) (nI f1)) 12 (4 * n + 1) w2) (a := 4 * n) (k := 4 * n + 2) (n := n) (i := f2 + 1) (v := 0) (by omega) (by omega) (by rw [pl_up_ne (by decide)]; exact hn')
        rw [k1]
        exact ⟨μ', rfl, ((tx_aw.l _ _ _).tr (tx_aw.l _ _ _)).tr k2⟩
      | some t =>
        obtain ⟨t1, t2⟩ := t
        obtain ⟨d1, d2, d3⟩ := tx_num_b h.2.2.2 e3
        obtain ⟨g1, g2, g3⟩ := tx_flg_b (l := 43) h.2.2.2 (by decide) d2
        dsimp only [Option.elim]
        have hM2 := hM.aw (tx_aw.l _ (4 * n + 1) (nI t1))
        rw [nI_1, pm_st12 (by omega), Option.bind_some, tx_m_upc (by decide), tx_m_q, if_neg z1, show nI (4 * n) + 2 = nI (4 * n + 2) from nI_add _ 2, show (43 : Int32) = nI 43 from rfl, pm_flg hM2 d2 (by decide) (by decide), Option.bind_some]
        cases e4 : (tx_flg T 43 t2).1 with
        | none =>
          dsimp only [Option.elim]
          obtain ⟨μ', k1, k2⟩ := pm_71n (μ := hb_up (hb_up μ 12 (4 * n) (nI f1)) 12 (4 * n + 1) (nI t1)) (a := 4 * n) (k := 4 * n + 2) (n := n) (i := (tx_flg T 43 t2).2) (v := 0) (by omega) (by omega) (by rw [pl_up_ne (by decide)]; exact hn')
          rw [k1]
          exact ⟨μ', rfl, ((tx_aw.l _ _ _).tr (tx_aw.l _ _ _)).tr k2⟩
        | some a =>
          dsimp only [Option.elim]
          have hM3 := hM2.aw (tx_aw.l _ (4 * n + 2) (nI a))
          unfold jn_X6_takesChoice_71
          rw [pm_st12 (by omega), Option.bind_some, tx_m_upc (by decide), tx_m_q, if_neg z1, show (45 : Int32) = nI 45 from rfl, pm_flg hM3 g2 (by decide) (by decide), Option.bind_some, show nI (4 * n) + 3 = nI (4 * n + 3) from nI_add _ 3]
          have hn3 : hb_up (hb_up (hb_up μ 12 (4 * n) (nI f1)) 12 (4 * n + 1) (nI t1)) 12 (4 * n + 2) (nI a) 0 19 = nI n := by rw [pl_up_ne (by decide), pl_up_ne (by decide)]; exact hn'
          cases e5 : (tx_flg T 45 (tx_flg T 43 t2).2).1 with
          | none =>
            dsimp only [Option.elim]
            rw [pm_96 (n := n) (by omega) hn3]
            exact ⟨_, rfl, ((((tx_aw.l _ _ _).tr (tx_aw.l _ _ _)).tr (tx_aw.l _ _ _)).tr (tx_aw.l _ _ _)).tr (tx_aw.n _ _)⟩
          | some b =>
            dsimp only [Option.elim]
            rw [pm_96 (n := n) (by omega) hn3]
            exact ⟨μ, rfl, tx_aw.rf μ⟩
    · have e2 : ¬ x = 62 := fun hc => ea ((tx_eq (c := 62) tx (by decide) (by decide)).mp hc)
      obtain ⟨μ', k1, k2⟩ := pm_32n (s := 0) (b := 1) hM b2 (a := 4 * n) (by omega) hn' pm_takes_0
      rw [if_neg e2, if_neg ea, k1]
      exact ⟨μ', rfl, (tx_aw.l _ _ _).tr k2⟩
