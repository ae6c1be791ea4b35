/-! a text of choices, the class's side -/
def tx_C (σ : hb_Mem) (T : Nat → Nat) (len : Nat) : Prop := len ≤ 60 ∧ σ 136 1 = nI len ∧ (∀ i, i < len → (σ 138 i).toNatClampNeg = T i) ∧ tx_E T len
theorem tx_C.fr {σ σ' : hb_Mem} {T : Nat → Nat} {len : Nat} (h : tx_C σ T len) (h1 : σ' 136 1 = σ 136 1) (h2 : σ' 138 = σ 138) : tx_C σ' T len := ⟨h.1, by rw [h1]; exact h.2.1, fun i hi => by rw [h2]; exact h.2.2.1 i hi, h.2.2.2⟩
theorem pc_sign {σ : hb_Mem} {T : Nat → Nat} {len i : Nat} (h : tx_C σ T len) (hi : i ≤ len) (b : Int32) : ∃ x, fn_X4_sign 136 (tx_m 136 2 3 σ b i) = some x ∧ x.toNatClampNeg = T i := by
  obtain ⟨h1, h2, h3, h4⟩ := h
  unfold fn_X4_sign
  rw [tx_m_f (by decide) (by decide), h2, tx_m_p (by decide)]
  by_cases e : len ≤ i
  · rw [if_pos (by rw [nI_leI (by omega) (by omega)]; exact e), h4 i e]
    exact ⟨-1, rfl, by decide⟩
  · rw [if_neg (by rw [nI_leI (by omega) (by omega)]; exact e), pl_at (r := hc_rf 136 0) (a := 138) (n := 60) (by decide) (by omega), Option.bind_some, tx_m_c (by decide)]
    exact ⟨_, rfl, h3 i (by omega)⟩
theorem tx_two {a b : Nat} (ha : 48 ≤ a) (hb : 48 ≤ b) : nI (a - 48) * 10 + nI b - 48 = nI (10 * (a - 48) + (b - 48)) := by
  rw [show (10 : Int32) = nI 10 from rfl, show (48 : Int32) = nI 48 from rfl, pl_mul, nI_add, pl_sub (by omega)]
  congr 1
  omega
theorem tx_two' {a b : Nat} (ha : 48 ≤ a) (hb : 48 ≤ b) : (10 : Int32) * nI (a - 48) + nI b - 48 = nI (10 * (a - 48) + (b - 48)) := by
  rw [show (10 : Int32) = nI 10 from rfl, show (48 : Int32) = nI 48 from rfl, pl_mul, nI_add, pl_sub (by omega)]
  congr 1
  omega
theorem pc_num {σ : hb_Mem} {T : Nat → Nat} {len i : Nat} (h : tx_C σ T len) (hi : i ≤ len) : fn_X4_parseNumber 136 (tx_m 136 2 3 σ 1 i) = some ((tx_num T i).elim (0, tx_m 136 2 3 σ 0 i) (fun r => (nI r.1, tx_m 136 2 3 σ 1 r.2))) := by
  have z1 : ¬ (1 : Int32) = 0 := by decide
  obtain ⟨x, hx, tx⟩ := pc_sign h hi 1
  unfold fn_X4_parseNumber jn_X4_parseNumber_17 tx_num
  simp only [hb_nm]
  rw [tx_m_q, if_neg z1, hx, Option.bind_some, tx_dig tx, Option.bind_some]
  by_cases d : 48 ≤ T i ∧ T i ≤ 57
  · have hl := tx_lt (i := i) h.2.2.2 (by omega)
    have h60 := h.1
    obtain ⟨xe, -⟩ := tx_pos tx (by omega)
    obtain ⟨y, hy, ty⟩ := pc_sign (i := i + 1) h (by omega) 1
    rw [if_pos d, if_pos d, if_neg z1, Option.bind_some, xe, tx_m_p (by decide), nI_1, tx_m_upp (by decide)]
    rw [show nI (T i) - 48 = nI (T i - 48) from pl_sub (b := 48) (by omega)]
    by_cases z : T i = 48
    · have zz : nI (T i - 48) = 0 := by rw [z]; rfl
      rw [if_pos zz, if_pos z, zz]
      rfl
    · have zz : ¬ nI (T i - 48) = 0 := fun hc => z (by have := (pl_eq0 (by omega)).mp hc; omega)
      rw [if_neg zz, if_neg z, hy, Option.bind_some, tx_dig ty, Option.bind_some]
      by_cases d2 : 48 ≤ T (i + 1) ∧ T (i + 1) ≤ 57
      · obtain ⟨ye, -⟩ := tx_pos ty (by omega)
        rw [if_pos d2, if_pos d2, if_neg z1, Option.bind_some, ye, tx_two (by omega) (by omega), tx_m_p (by decide), nI_1, tx_m_upp (by decide)]
        by_cases k : 10 * (T i - 48) + (T (i + 1) - 48) < 32
        · have kk : nI (10 * (T i - 48) + (T (i + 1) - 48)) < 32 := (nI_ltI (b := 32) (by omega) (by omega)).mpr k
          rw [if_pos kk, if_pos k]
          rfl
        · have kk : ¬ nI (10 * (T i - 48) + (T (i + 1) - 48)) < 32 := fun hc => k ((nI_ltI (b := 32) (by omega) (by omega)).mp hc)
          rw [if_neg kk, if_neg k]
          rfl
      · rw [if_neg d2, if_neg d2, if_pos rfl]
        rfl
  · rw [if_neg d, if_neg d, if_pos rfl, tx_m_upq (by decide)]
    rfl
theorem pc_num0 {σ : hb_Mem} {i : Nat} : fn_X4_parseNumber 136 (tx_m 136 2 3 σ 0 i) = some (0, tx_m 136 2 3 σ 0 i) := by
  unfold fn_X4_parseNumber jn_X4_parseNumber_17
  simp only [hb_nm]
  rw [tx_m_q, if_pos rfl, tx_m_upq (by decide)]
theorem pc_arr {σ : hb_Mem} {T : Nat → Nat} {len i : Nat} (h : tx_C σ T len) (hi : i ≤ len) : fn_X4_parseArrow 136 (tx_m 136 2 3 σ 1 i) = some (if T i = 62 then tx_m 136 2 3 σ 1 (i + 1) else tx_m 136 2 3 σ 0 i) := by
  have z1 : ¬ (1 : Int32) = 0 := by decide
  obtain ⟨x, hx, tx⟩ := pc_sign h hi 1
  unfold fn_X4_parseArrow jn_X4_parseArrow_16
  simp only [hb_nm]
  rw [tx_m_q, if_neg z1, hx, Option.bind_some, tx_m_p (by decide), nI_1, tx_m_upp (by decide), tx_m_upq (by decide)]
  by_cases e : T i = 62
  · have e2 : x = 62 := (tx_eq (c := 62) tx (by decide) (by decide)).mpr e
    rw [if_pos e, if_pos e2]
  · have e2 : ¬ x = 62 := fun hc => e ((tx_eq (c := 62) tx (by decide) (by decide)).mp hc)
    rw [if_neg e, if_neg e2]
theorem pc_arr0 {σ : hb_Mem} {i : Nat} : fn_X4_parseArrow 136 (tx_m 136 2 3 σ 0 i) = some (tx_m 136 2 3 σ 0 i) := by
  unfold fn_X4_parseArrow jn_X4_parseArrow_16
  simp only [hb_nm]
  rw [tx_m_q, if_pos rfl, tx_m_upq (by decide)]
theorem tx_bit : ∀ f, f < 5 → ∀ w, w < 32 → nI w ||| ((1 : Int32) <<< (nI f &&& 31)) = nI (w ||| 2 ^ f) := by decide +kernel
theorem pc_run {σ : hb_Mem} {T : Nat → Nat} {len i : Nat} (h : tx_C σ T len) (hi : i ≤ len) (l : Int32) : ll_X4_parseFlags_31 136 l (0, 0, tx_m 136 2 3 σ 1 i) = some (nI (tx_run T 5 0 i).1, tx_m 136 2 3 σ 1 (tx_run T 5 0 i).2) := by
  unfold ll_X4_parseFlags_31
  obtain ⟨t, h1, h2⟩ := pl_inv (f := fun s => lb_X4_parseFlags_31 136 l s.1 s.2.1 s.2.2) (s := ((0 : Int32), (0 : Int32), tx_m 136 2 3 σ 1 i)) 5
    (fun k s => ∃ w j, w < 32 ∧ j ≤ len ∧ s = (nI w, nI k, tx_m 136 2 3 σ 1 j) ∧ tx_run T (5 - k) w j = tx_run T 5 0 i)
    (fun t => t = (nI (tx_run T 5 0 i).1, tx_m 136 2 3 σ 1 (tx_run T 5 0 i).2))
    ⟨0, i, by omega, hi, rfl, rfl⟩ (by
    intro k s hk ⟨w, j, hw, hj, hs, hR⟩
    subst hs
    left
    show ∃ s', lb_X4_parseFlags_31 136 l (nI w) (nI k) (tx_m 136 2 3 σ 1 j) = some (.inl s') ∧ _
    obtain ⟨x, hx, tx⟩ := pc_sign h hj 1
    rw [show 5 - k = (4 - k) + 1 by omega, tx_run, show 101 - (4 - k) = 97 + k by omega, show 4 - (4 - k) = k by omega] at hR
    unfold lb_X4_parseFlags_31 jn_X4_parseFlags_63
    simp only [hb_nm]
    rw [if_neg (by show ¬ nI 5 ≤ nI k; rw [nI_leI (by omega) (by omega)]; omega), hx, Option.bind_some, show (97 : Int32) = nI 97 from rfl, nI_add, tx_m_p (by decide), nI_1, nI_1, tx_m_upp (by decide), tx_bit k hk w hw]
    by_cases e : T j = 97 + k
    · have e2 : x = nI (97 + k) := (tx_eq tx (by omega) (by omega)).mpr e
      have hl := tx_lt (i := j) h.2.2.2 (by omega)
      rw [if_pos e] at hR
      rw [if_pos e2]
      refine ⟨_, rfl, w ||| 2 ^ k, j + 1, ?_, by omega, rfl, ?_⟩
      · have := (tx_or_lt (4 - k) (by omega) w hw).1
        rw [show 4 - (4 - k) = k by omega] at this
        exact this
      · rw [show 5 - (k + 1) = 4 - k by omega]
        exact hR
    · have e2 : ¬ x = nI (97 + k) := fun hc => e ((tx_eq tx (by omega) (by omega)).mp hc)
      rw [if_neg e] at hR
      rw [if_neg e2]
      refine ⟨_, rfl, w, j, hw, hj, rfl, ?_⟩
      rw [show 5 - (k + 1) = 4 - k by omega]
      exact hR) (by
    intro s ⟨w, j, hw, hj, hs, hR⟩
    subst hs
    show ∃ t, lb_X4_parseFlags_31 136 l (nI w) (nI 5) (tx_m 136 2 3 σ 1 j) = some (.inr t) ∧ _
    unfold lb_X4_parseFlags_31
    rw [if_pos (by show nI 5 ≤ nI 5; exact Int32.le_refl _)]
    refine ⟨_, rfl, ?_⟩
    have hR : (w, j) = tx_run T 5 0 i := hR
    rw [← hR]) (by rw [pl_F]; omega)
  rw [h1, h2]
theorem pc_flg {σ : hb_Mem} {T : Nat → Nat} {len i l : Nat} (h : tx_C σ T len) (hi : i ≤ len) (hl : 0 < l) (hl2 : l < 2 ^ 31) : fn_X4_parseFlags 136 (nI l) (tx_m 136 2 3 σ 1 i) = some ((tx_flg T l i).1.elim (0, tx_m 136 2 3 σ 0 (tx_flg T l i).2) (fun a => (nI a, tx_m 136 2 3 σ 1 (tx_flg T l i).2))) := by
  have z1 : ¬ (1 : Int32) = 0 := by decide
  obtain ⟨x, hx, tx⟩ := pc_sign h hi 1
  have o0 : hb_bz 0 = some 0 := rfl
  have o1 : hb_bz 1 = some 1 := rfl
  unfold fn_X4_parseFlags jn_X4_parseFlags_79 tx_flg
  simp only [hb_nm]
  rw [tx_m_q, if_neg z1, hx, Option.bind_some, tx_m_p (by decide), nI_1, tx_m_upp (by decide)]
  by_cases e : T i = l
  · have e2 : x = nI l := (tx_eq tx hl hl2).mpr e
    have hlt := tx_lt (i := i) h.2.2.2 (by omega)
    obtain ⟨b1, -, -, -⟩ := tx_run_b h.2.2.2 5 (by omega) 0 (i + 1) (by omega) (by omega)
    rw [if_pos e, if_pos e2, pc_run h (by omega), Option.bind_some]
    by_cases z : (tx_run T 5 0 (i + 1)).1 = 0
    · have zz : nI (tx_run T 5 0 (i + 1)).1 = 0 := by rw [z]; rfl
      rw [if_pos zz, if_pos z, o0, Option.bind_some, tx_m_upq (by decide), zz]
      rfl
    · have zz : ¬ nI (tx_run T 5 0 (i + 1)).1 = 0 := fun hc => z ((pl_eq0 (by omega)).mp hc)
      rw [if_neg zz, if_neg z, o1, Option.bind_some, tx_m_upq (by decide)]
      rfl
  · have e2 : ¬ x = nI l := fun hc => e ((tx_eq tx hl hl2).mp hc)
    rw [if_neg e, if_neg e2]
    rfl
theorem pc_flg0 {σ : hb_Mem} {i : Nat} {l : Int32} : fn_X4_parseFlags 136 l (tx_m 136 2 3 σ 0 i) = some (0, tx_m 136 2 3 σ 0 i) := by
  unfold fn_X4_parseFlags
  rw [tx_m_q, if_pos rfl]
/-- a choice laid down -/
def tx_cl (σ : hb_Mem) (n : Nat) (c : Nat × Nat × Nat × Nat) : hb_Mem := hb_up (hb_up (hb_up (hb_up (hb_up σ 140 n (nI c.1)) 142 n (nI c.2.1)) 144 n (nI c.2.2.1)) 146 n (nI c.2.2.2)) 136 4 (nI (n + 1))
theorem pc_ch {σ : hb_Mem} {T : Nat → Nat} {len i n : Nat} (h : tx_C σ T len) (hi : i ≤ len) (hn : n < 16) (h4 : σ 136 4 = nI n) : fn_X4_parseChoice 136 (tx_m 136 2 3 σ 1 i) = some ((tx_ch T i).2.elim (tx_m 136 2 3 σ 0 (tx_ch T i).1) (fun c => tx_m 136 2 3 (tx_cl σ n c) 1 (tx_ch T i).1)) := by
  have z1 : ¬ (1 : Int32) = 0 := by decide
  have q0 : ∀ j, tx_m 136 2 3 σ 0 j 136 3 = 0 := fun j => tx_m_q
  have q1 : ∀ j, ¬ tx_m 136 2 3 σ 1 j 136 3 = 0 := fun j => by rw [tx_m_q]; exact z1
  unfold fn_X4_parseChoice tx_ch
  rw [pc_num h hi, Option.bind_some]
  cases e1 : tx_num T i with
  | none =>
    dsimp only [Option.elim]
    rw [pc_arr0, Option.bind_some, pc_num0, Option.bind_some, pc_flg0, Option.bind_some, pc_flg0, Option.bind_some]
    exact if_pos (q0 i)
  | some f =>
    obtain ⟨f1, f2⟩ := f
    obtain ⟨b1, b2, b3⟩ := tx_num_b h.2.2.2 e1
    dsimp only [Option.elim]
    rw [pc_arr h b2, Option.bind_some]
    by_cases ea : T f2 = 62
    · have hlt := tx_lt (i := f2) h.2.2.2 (by omega)
      rw [if_pos ea, if_pos ea, pc_num h (by omega), Option.bind_some]
      cases e2 : tx_num T (f2 + 1) with
      | none =>
        dsimp only [Option.elim]
        rw [pc_flg0, Option.bind_some, pc_flg0, Option.bind_some]
        exact if_pos (q0 (f2 + 1))
      | some t =>
        obtain ⟨t1, t2⟩ := t
        obtain ⟨d1, d2, d3⟩ := tx_num_b h.2.2.2 e2
        obtain ⟨g1, g2, g3⟩ := tx_flg_b (l := 43) h.2.2.2 (by decide) d2
        dsimp only [Option.elim]
        rw [show (43 : Int32) = nI 43 from rfl, show (45 : Int32) = nI 45 from rfl, pc_flg h d2 (by decide) (by decide), Option.bind_some]
        cases e3 : (tx_flg T 43 t2).1 with
        | none =>
          dsimp only [Option.elim]
          rw [pc_flg0, Option.bind_some]
          exact if_pos (q0 (tx_flg T 43 t2).2)
        | some a =>
          dsimp only [Option.elim]
          rw [pc_flg h g2 (by decide) (by decide), Option.bind_some]
          cases e4 : (tx_flg T 45 (tx_flg T 43 t2).2).1 with
          | none =>
            exact if_pos (q0 (tx_flg T 45 (tx_flg T 43 t2).2).2)
          | some b =>
            refine (if_neg (q1 (tx_flg T 45 (tx_flg T 43 t2).2).2)).trans ?_
            dsimp only [Option.elim]
            simp only [hb_nm]
            rw [tx_m_f (by decide) (by decide), h4, pl_put (r := hc_rf 136 5) (a := 140) (n := 16) (by decide) hn, Option.bind_some, tx_m_upc (by decide)]
            rw [tx_m_f (by decide) (by decide), hb_up_ne (by decide), h4, pl_put (r := hc_rf 136 6) (a := 142) (n := 16) (by decide) hn, Option.bind_some, tx_m_upc (by decide)]
            rw [tx_m_f (by decide) (by decide), hb_up_ne (by decide), hb_up_ne (by decide), h4, pl_put (r := hc_rf 136 7) (a := 144) (n := 16) (by decide) hn, Option.bind_some, tx_m_upc (by decide)]
            rw [tx_m_f (by decide) (by decide), hb_up_ne (by decide), hb_up_ne (by decide), hb_up_ne (by decide), h4, pl_put (r := hc_rf 136 8) (a := 146) (n := 16) (by decide) hn, Option.bind_some, tx_m_upc (by decide)]
            rw [tx_m_f (by decide) (by decide), hb_up_ne (by decide), hb_up_ne (by decide), hb_up_ne (by decide), hb_up_ne (by decide), h4, nI_1, tx_m_upf (by decide) (by decide) (by decide)]
            rfl
    · rw [if_neg ea, if_neg ea, pc_num0, Option.bind_some, pc_flg0, Option.bind_some, pc_flg0, Option.bind_some]
      exact if_pos (q0 f2)

