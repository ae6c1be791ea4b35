/-! the law's turns -/
theorem cs_restore0 {σ : hb_Mem} (h0 : σ 0 3 = 0) : fn_X5_restore 0 σ = some (-5, σ) := by
  unfold fn_X5_restore
  rw [if_pos h0]
def Nx (t : Nat) (σ : hb_Mem) : Prop := ∃ n B sz nx len, Rl t n B sz nx len σ
theorem Nx.up {t t' : Nat} {σ : hb_Mem} (h : Nx t σ) (ht : t ≤ t') : Nx t' σ := by
  obtain ⟨n, B, sz, nx, len, h⟩ := h
  exact ⟨n, B, sz, nx, len, h.up ht⟩
theorem lw_317 {t n sz nx len : Nat} {B : Nat → Int32} {σ : hb_Mem} (h : Rl t n B sz nx len σ) (xs : Nat → Int32) (ln b i : Nat) : ∃ σ', jn_L_law_317 xs ln b 1 (nI i) σ = some (.inl (1, nI (i + 1), σ')) ∧ Nx t σ' := by
  have z1 : ¬ (1 : Int32) = 0 := by decide
  have hx := h.nx
  unfold jn_L_law_317 jn_L_law_356 jn_L_law_364 jn_L_law_365
  simp only [hb_nm, nI_1]
  rw [if_neg z1]
  by_cases c : (nI i - nI i / 9 * 9) = 8
  · rw [if_pos c, cs_count10 h, Option.bind_some]
    try dsimp only
    by_cases hs : sz = 0
    · subst hs
      rw [cs_undo0 h, Option.bind_some]
      try dsimp only
      rw [if_pos (show nI 0 = 0 from rfl), if_pos rfl]
      exact ⟨σ, rfl, n, B, 0, nx, len, h⟩
    · obtain ⟨n', B', σ', a1, a2⟩ := cs_undo h (by omega)
      rw [a1, Option.bind_some]
      try dsimp only
      rw [if_neg (nI_ne0 (by omega) (by omega)), if_pos (show nI (sz - 1) = nI sz - 1 from (pl_sub (b := 1) (by omega)).symm)]
      exact ⟨σ', rfl, n', B', _, _, len, a2⟩
  · rw [if_neg c]
    exact ⟨σ, rfl, n, B, sz, nx, len, h⟩
theorem lw_292 {t n sz nx len : Nat} {B : Nat → Int32} {σ : hb_Mem} (h : Rl t n B sz nx len σ) (xs : Nat → Int32) (ln b i : Nat) {v : Int32} (hv : v = -5 ∨ v = nI n) : ∃ σ', jn_L_law_292 xs ln b (nI i) v σ = some (.inl (1, nI (i + 1), σ')) ∧ Nx t σ' := by
  have hn := h.1.1.1
  unfold jn_L_law_292 jn_L_law_311 jn_L_law_316
  rcases hv with hv | hv
  · rw [if_pos hv]
    exact lw_317 h xs ln b i
  · rw [if_neg (show ¬ v = -5 by rw [hv]; exact pl_ne_neg (by omega) (by decide)), cs_count0 h.1.1 h.2.1, Option.bind_some]
    try dsimp only
    rw [if_pos hv]
    exact lw_317 h xs ln b i
theorem lw_259 {t n sz nx len : Nat} {B : Nat → Int32} {σ : hb_Mem} (h : Rl t n B sz nx len σ) (xs : Nat → Int32) (ln b i : Nat) (y : Int32) : ∃ σ', jn_L_law_259 xs ln b 1 (nI i) y σ = some (.inl (1, nI (i + 1), σ')) ∧ Nx (t + 1) σ' := by
  have z1 : ¬ (1 : Int32) = 0 := by decide
  unfold jn_L_law_259
  rw [if_neg z1]
  by_cases c : (nI i - nI i / 12 * 12) = 7
  · obtain ⟨k, -, e⟩ := cs_low y (m := 2) (by omega) (by omega)
    have e : fn_L_low y 2 = some (nI k) := e
    rw [if_pos c, e, Option.bind_some]
    by_cases hz : nI k = 0
    · rw [if_pos hz]
      rcases cs_restore h with a1 | ⟨n', B', σ', a1, a2⟩
      · rw [a1, Option.bind_some]
        exact lw_292 (h.up (Nat.le_succ t)) xs ln b i (Or.inl rfl)
      · rw [a1, Option.bind_some]
        exact lw_292 a2.1 xs ln b i (Or.inr rfl)
    · obtain ⟨σ', a1, a2⟩ := cs_keep h
      rw [if_neg hz, a1, Option.bind_some]
      exact lw_292 (a2.up (Nat.le_succ t)) xs ln b i (Or.inr rfl)
  · rw [if_neg c]
    exact lw_317 (h.up (Nat.le_succ t)) xs ln b i
theorem lg_same (v : Int64) : lg_cmp v v = 0 := by simp [lg_cmp]
theorem lw_158 {t n sz nx : Nat} {B : Nat → Int32} {σ : hb_Mem} (hO : ps_ok t n B) (hx : sz ≤ 4 ∧ nx < 4) (ho : Oc t n B sz nx σ) (xs : Nat → Int32) (ln b i : Nat) (y : Int32) : ∃ σ', jn_L_law_158 xs ln b (nI i) y (dg n B) (nI sz) 1 σ = some (.inl (1, nI (i + 1), σ')) ∧ Nx (t + 2) σ' := by
  have z1 : ¬ (1 : Int32) = 0 := by decide
  unfold jn_L_law_158
  rcases ho with ⟨len', h1⟩ | ⟨n', B', len', h2⟩
  · have key : ∃ σ', jn_L_law_203 xs ln b (nI i) y (dg n B) (nI sz) (nI sz) σ = some (.inl (1, nI (i + 1), σ')) ∧ Nx (t + 2) σ' := by
      unfold jn_L_law_203 jn_L_law_208
      rw [if_neg z1, if_neg (show ¬ nI sz = nI sz + 1 from fun hc => by
        rw [nI_1] at hc
        have := (nI_eq (by omega) (by omega)).mp hc
        omega)]
      exact lw_259 h1 xs ln b i y
    rw [cs_count10 h1, Option.bind_some]
    try dsimp only
    rw [if_neg z1, if_pos rfl]
    by_cases c4 : sz = 4
    · rw [if_pos (show nI sz = 4 by rw [c4]; rfl)]
      exact key
    · rw [if_neg (show ¬ nI sz = 4 from fun hc => c4 ((nI_eq (b := 4) (by omega) (by omega)).mp hc)), cs_digest h1.1.1 h1.2.1, Option.bind_some]
      try dsimp only
      rw [if_pos (lg_same _)]
      exact key
  · rw [cs_count10 h2.1, Option.bind_some]
    try dsimp only
    rw [if_neg z1]
    by_cases c4 : sz = 4
    · have e4 : nI (min 4 (sz + 1)) = nI sz := by rw [show min 4 (sz + 1) = sz by omega]
      rw [e4, if_pos rfl, if_pos (show nI sz = 4 by rw [c4]; rfl)]
      unfold jn_L_law_203 jn_L_law_208
      rw [if_neg z1, if_neg (show ¬ nI sz = nI sz + 1 from fun hc => by
        rw [nI_1] at hc
        have := (nI_eq (by omega) (by omega)).mp hc
        omega)]
      exact lw_259 h2.1 xs ln b i y
    · have e5 : nI (min 4 (sz + 1)) = nI sz + 1 := by rw [nI_1, show min 4 (sz + 1) = sz + 1 by omega]
      have hne : ¬ nI (min 4 (sz + 1)) = nI sz := fun hc => by
        have := (nI_eq (by omega) (by omega)).mp hc
        omega
      rw [if_neg hne]
      unfold jn_L_law_194
      rw [if_pos e5]
      unfold jn_L_law_203 jn_L_law_208 jn_L_law_258
      rw [if_neg z1, if_pos e5]
      obtain ⟨k, -, e⟩ := cs_low (y >>> (8 &&& 31)) (m := 3) (by omega) (by omega)
      have e : fn_L_low (y >>> (8 &&& 31)) 3 = some (nI k) := e
      rw [e, Option.bind_some]
      by_cases hz : nI k = 0
      · have hR : pl_RS σ (60 + 19 * (((nx + 1) % 4 + 3) % 4)) n B := by
          rw [show ((nx + 1) % 4 + 3) % 4 = nx by omega]
          exact h2.2
        obtain ⟨σ', a1, a2⟩ := cs_undo1 h2.1 (by omega) (hO.up (Nat.le_succ t)) hR
        rw [if_pos hz, a1, Option.bind_some]
        try dsimp only
        rw [if_pos (show nI (min 4 (sz + 1) - 1) = nI sz by rw [show min 4 (sz + 1) - 1 = sz by omega]), cs_digest a2.1.1 a2.2.1, Option.bind_some]
        try dsimp only
        rw [if_pos (lg_same _)]
        exact lw_259 a2 xs ln b i y
      · rw [if_neg hz]
        exact lw_259 h2.1 xs ln b i y
theorem Oc.would {t n sz nx : Nat} {B : Nat → Int32} {σ : hb_Mem} (ho : Oc t n B sz nx σ) (hnx : nx < 4) (y : Int32) : ∃ σ', fn_L_would 0 y σ = some (1, σ') ∧ Oc t n B sz nx σ' := by
  rcases ho with ⟨len', h1⟩ | ⟨n', B', len', h2⟩
  · obtain ⟨σ', a1, a2⟩ := cs_would h1.1.1 h1.2.1 h1.2.2.1 y
    exact ⟨σ', a1, Or.inl ⟨len', h1.ask a2.1 a2.2⟩⟩
  · obtain ⟨σ', a1, a2⟩ := cs_would h2.1.1.1 h2.1.2.1 h2.1.2.2.1 y
    exact ⟨σ', a1, Or.inr ⟨n', B', len', h2.ask hnx a2.1 a2.2⟩⟩
theorem Oc.holds {t n sz nx : Nat} {B : Nat → Int32} {σ : hb_Mem} (ho : Oc t n B sz nx σ) (ht : t < 900) : fn_L_holds 0 σ = some (1, σ) := by
  rcases ho with ⟨len', h1⟩ | ⟨n', B', len', h2⟩
  · exact cs_holds h1.1 h1.2.1 (by omega)
  · exact cs_holds h2.1.1 h2.1.2.1 (by omega)
theorem lw_136 {t n sz nx : Nat} {B : Nat → Int32} {σ : hb_Mem} (hO : ps_ok t n B) (hx : sz ≤ 4 ∧ nx < 4) (ho : Oc t n B sz nx σ) (xs : Nat → Int32) (ln b i : Nat) (y : Int32) : ∃ σ', jn_L_law_136 xs ln b (nI i) y (dg n B) (nI sz) σ = some (.inl (1, nI (i + 1), σ')) ∧ Nx (t + 2) σ' := by
  have z1 : ¬ (1 : Int32) = 0 := by decide
  unfold jn_L_law_136 jn_L_law_153
  by_cases c : (nI i - nI i / 8 * 8) = 5
  · obtain ⟨σ1, a1, a2⟩ := ho.would hx.2 y
    rw [if_pos c, a1, Option.bind_some]
    try dsimp only
    rw [if_neg z1]
    exact lw_158 hO hx a2 xs ln b i y
  · rw [if_neg c]
    exact lw_158 hO hx ho xs ln b i y
theorem hl_lot_some (xs : Nat → Int32) {ln k : Nat} (hl : ln ≤ 260) (hk : k < 2 ^ 31) : ∃ v, hl_lot xs ln (nI k) = some v := by
  unfold hl_lot
  rw [if_neg (fun hc => hc.elim (nI_pos hk) (fun q => by omega))]
  exact ⟨_, rfl⟩
theorem lw_85 {t n sz nx len : Nat} {B : Nat → Int32} {σ : hb_Mem} (h : Rl t n B sz nx len σ) (ht : t < 900) (xs : Nat → Int32) {ln : Nat} (hl : ln ≤ 260) (b : Nat) {i : Nat} (hi : i < 52) (x : Int32) : ∃ σ', jn_L_law_85 xs ln b (nI i) x σ = some (.inl (1, nI (i + 1), σ')) ∧ Nx (t + 2) σ' := by
  have z1 : ¬ (1 : Int32) = 0 := by decide
  have hx := h.nx
  obtain ⟨y, ey⟩ := hl_lot_some xs (k := 2 * i + 1) hl (by omega)
  obtain ⟨σ1, a1, a2⟩ := cs_acts h ht x y
  unfold jn_L_law_85
  rw [show (2 : Int32) * nI i + 1 = nI (2 * i + 1) by rw [show (2 : Int32) * nI i = nI (2 * i) from pl_mul 2 i, nI_1], ey, Option.bind_some, cs_digest h.1.1 h.2.1, Option.bind_some]
  try dsimp only
  rw [cs_count10 h, Option.bind_some]
  try dsimp only
  rw [a1, Option.bind_some]
  try dsimp only
  rw [if_neg z1]
  by_cases c : 0 < (nI i - nI i / 3 * 3)
  · rw [if_pos c]
    exact lw_136 h.1 hx a2 xs ln b i y
  · rw [if_neg c, a2.holds ht, Option.bind_some]
    try dsimp only
    rw [if_neg z1]
    exact lw_136 h.1 hx a2 xs ln b i y
theorem lw_49 {t i : Nat} {σ : hb_Mem} (h : Nx t σ) (ht : t < 900) (xs : Nat → Int32) {ln : Nat} (hl : ln ≤ 260) (b : Nat) (hi : i < 52) : ∃ σ', lb_L_law_49 xs ln b 1 (nI i) σ = some (.inl (1, nI (i + 1), σ')) ∧ Nx (t + 2) σ' := by
  obtain ⟨n, B, sz, nx, len, h⟩ := h
  unfold lb_L_law_49
  rw [if_neg (show ¬ (52 : Int32) ≤ nI i by show ¬ nI 52 ≤ _; rw [nI_leI (by omega) (by omega)]; omega), if_neg (show ¬ (1 : Int32) = 0 by decide)]
  by_cases c5 : (5 : Int32) ≤ nI i
  · rw [if_pos c5]
    by_cases c11 : (11 : Int32) ≤ nI i
    · obtain ⟨x, ex⟩ := hl_lot_some xs (k := 2 * i) hl (by omega)
      rw [if_pos c11, show (2 : Int32) * nI i = nI (2 * i) from pl_mul 2 i, ex, Option.bind_some]
      exact lw_85 h ht xs hl b hi x
    · rw [if_neg c11]
      exact lw_85 h ht xs hl b hi 3
  · rw [if_neg c5]
    exact lw_85 h ht xs hl b hi 0
/-- the law, of the first memory: it answers 1 -/
theorem lw_all (xs : Nat → Int32) {ln : Nat} (hl : ln ≤ 260) (b : Nat) : ∃ σ', fn_L_law xs ln b hc_s0 = some (1, σ') := by
  have z1 : ¬ (1 : Int32) = 0 := by decide
  have h0 := cs_start
  obtain ⟨σ1, a1, a2⟩ := cs_would h0.1.1 h0.2.1 h0.2.2.1 0
  have h1 := h0.ask a2.1 a2.2
  have hsn : σ1 0 3 = 0 := by
    rw [a2.1 0 (by decide)]
    decide +kernel
  unfold fn_L_law
  rw [cs_holds h0.1 h0.2.1 (by omega), Option.bind_some]
  try dsimp only
  rw [if_neg z1, a1, Option.bind_some]
  try dsimp only
  rw [if_neg z1, cs_undo0 h1, Option.bind_some]
  try dsimp only
  rw [if_pos rfl, cs_restore0 hsn, Option.bind_some]
  try dsimp only
  rw [if_pos rfl]
  have hlp : ∃ u, ll_L_law_49 xs ln b (1, 0, σ1) = some u ∧ u.1 = 1 ∧ Nx 104 u.2 := by
    unfold ll_L_law_49
    refine pl_inv (f := fun s => lb_L_law_49 xs ln b s.1 s.2.1 s.2.2) (s := ((1 : Int32), (0 : Int32), σ1)) 52 (fun i s => s.1 = 1 ∧ s.2.1 = nI i ∧ Nx (2 * i) s.2.2) (fun u => u.1 = 1 ∧ Nx 104 u.2) ⟨rfl, rfl, _, _, _, _, _, h1⟩ ?_ ?_ (by rw [pl_F]; omega)
    · intro i s hi ⟨e1, e2, e3⟩
      obtain ⟨s1, s2, τ⟩ := s
      dsimp only at e1 e2 e3
      subst e1
      subst e2
      left
      obtain ⟨τ', b1, b2⟩ := lw_49 e3 (by omega) xs hl b hi
      exact ⟨_, b1, rfl, rfl, b2⟩
    · intro s ⟨e1, e2, e3⟩
      obtain ⟨s1, s2, τ⟩ := s
      dsimp only at e1 e2 e3
      subst e1
      subst e2
      show ∃ u, lb_L_law_49 xs ln b 1 (nI 52) τ = some (.inr u) ∧ _
      unfold lb_L_law_49
      rw [if_pos (show (52 : Int32) ≤ nI 52 from Int32.le_refl _)]
      exact ⟨_, rfl, rfl, e3⟩
  obtain ⟨u, u1, u2, n, B, sz, nx, len, u3⟩ := hlp
  unfold jn_L_law_46 jn_L_law_371
  rw [u1, Option.bind_some, if_neg (show ¬ u.1 = 0 by rw [u2]; decide), cs_holds u3.1 u3.2.1 (by omega), Option.bind_some]
  try dsimp only
  rw [if_neg z1]
  exact ⟨u.2, rfl⟩
