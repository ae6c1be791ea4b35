/-! the law's acts, one by one: readers, the bookmark, a text; all of them -/
theorem rd_go {B : Nat → Int32} {r p g : Nat} {tk : Int32} (hp : p < 2 ^ 31) : rd (go B r p g tk) r 0 = nI p ∧ rd (go B r p g tk) r 1 = nI g ∧ rd (go B r p g tk) r 3 = tk := by
  have z : ¬ nI p = -5 := pl_ne_neg hp (by decide)
  unfold rd
  rw [go_0, go_1, go_2]
  refine ⟨?_, ?_, ?_⟩
  · rw [if_neg z, if_pos rfl]
  · rw [if_neg z, if_neg (show ¬ 1 = 0 by decide), if_pos rfl]
  · rw [if_neg z, if_neg (show ¬ 3 = 0 by decide), if_neg (show ¬ 3 = 1 by decide), if_neg (show ¬ 3 = 2 by decide)]
theorem cs_rd0 {n r : Nat} {B : Nat → Int32} {σ : hb_Mem} (h : pl_WB n B) (hr : pl_RS σ 1 n B) (hr2 : r < 2) : fn_X5_reader 0 (nI r) 0 σ = some (rd B r 0) := cs_reader (w := 0) h hr hr2 (by decide)
theorem cs_rd1 {n r : Nat} {B : Nat → Int32} {σ : hb_Mem} (h : pl_WB n B) (hr : pl_RS σ 1 n B) (hr2 : r < 2) : fn_X5_reader 0 (nI r) 1 σ = some (rd B r 1) := cs_reader (w := 1) h hr hr2 (by decide)
theorem cs_rd3 {n r : Nat} {B : Nat → Int32} {σ : hb_Mem} (h : pl_WB n B) (hr : pl_RS σ 1 n B) (hr2 : r < 2) : fn_X5_reader 0 (nI r) 3 σ = some (rd B r 3) := cs_reader (w := 3) h hr hr2 (by decide)
/-- begin -/
theorem cs_a10U {t n sz nx len : Nat} {B : Nat → Int32} {σ : hb_Mem} (h : Rl t n B sz nx len σ) (x y s0 : Int32) : ∃ σ', jn_L_acts_819 0 x y 10 (nI n) (nI 2) 1 s0 σ = some (1, σ') ∧ Oc t n B sz nx σ' := by
  unfold jn_L_acts_819 jn_L_acts_862
  rw [if_pos rfl, cs_beginU, Option.bind_some]
  try dsimp only
  rw [if_neg (show ¬ (1 : Int32) = 0 by decide), if_pos rfl, if_pos (show (-1 : Int32) < 0 by decide)]
  exact ⟨σ, rfl, Oc.same h⟩
theorem cs_a10 {t n sz nx len r : Nat} {B : Nat → Int32} {σ : hb_Mem} (h : Rl t n B sz nx len σ) (hr2 : r < 2) (x y s0 : Int32) : ∃ σ', jn_L_acts_819 0 x y 10 (nI n) (nI r) 0 s0 σ = some (1, σ') ∧ Oc t n B sz nx σ' := by
  have hW := h.1.1
  have hn := hW.1
  unfold jn_L_acts_819
  by_cases h0 : n = 0
  · subst h0
    rw [if_pos rfl, cs_begin0 h hr2, Option.bind_some]
    try dsimp only
    rw [if_pos rfl, if_pos (show nI 0 = 0 from rfl)]
    unfold jn_L_acts_862
    rw [if_pos rfl, if_pos (show (-4 : Int32) < 0 by decide)]
    exact ⟨σ, rfl, Oc.same h⟩
  · obtain ⟨σ', a1, a2⟩ := cs_begin h hr2 (by omega)
    have h' := a2.1.1.1
    have hr' := a2.1.2.1
    obtain ⟨g0, g1, g3⟩ := rd_go (B := B) (r := r) (p := 0) (g := pg_set B 0) (tk := nI 0) (by omega)
    obtain ⟨s1, s2⟩ := hW.set (p := 0) (by omega)
    have s2 : B 2 = nI (pg_set B 0) := s2
    have e1 : fn_X5_page 0 0 1 σ' = some (B 2, σ') := by
      have := cs_page1 (p := 0) h' hr' (by omega)
      rw [go_off (by omega)] at this
      exact this
    rw [if_pos rfl, a1, Option.bind_some]
    try dsimp only
    rw [if_pos rfl, if_neg (nI_ne0 (by omega) (by omega)), e1, Option.bind_some]
    try dsimp only
    unfold jn_L_acts_862
    rw [if_pos rfl, s2, if_neg (nI_pos (by omega)), cs_rd0 h' hr' hr2, Option.bind_some, g0, if_pos (show nI 0 = 0 from rfl), cs_rd1 h' hr' hr2, Option.bind_some, g1, if_pos rfl, cs_rd3 h' hr' hr2, Option.bind_some, g3, if_pos (show nI 0 = 0 from rfl)]
    exact ⟨σ', rfl, Oc.act a2⟩
/-- choose -/
theorem cs_a11U {t n sz nx len : Nat} {B : Nat → Int32} {σ : hb_Mem} (h : Rl t n B sz nx len σ) (x y s0 : Int32) : ∃ σ', ((fn_L_low (y >>> (2 &&& 31)) 4).bind fun x21 =>
    (fn_X5_why 0 (nI 2) x21 σ).bind fun x22 =>
    if (1 : Int32) = 0 then ((fn_X5_reader 0 (nI 2) 3 σ).bind fun x23 => jn_L_acts_949 0 x y (nI 2) 1 s0 x21 x22 x23 σ) else (jn_L_acts_949 0 x y (nI 2) 1 s0 x21 x22 0 σ)) = some (1, σ') ∧ Oc t n B sz nx σ' := by
  obtain ⟨k, hk, e⟩ := cs_low (y >>> (2 &&& 31)) (m := 4) (by omega) (by omega)
  have e : fn_L_low (y >>> (2 &&& 31)) 4 = some (nI k) := e
  rw [e, Option.bind_some, cs_whyU (by omega), Option.bind_some, if_neg (show ¬ (1 : Int32) = 0 by decide)]
  unfold jn_L_acts_949 jn_L_acts_970 jn_L_acts_1016
  rw [if_neg (show ¬ (-1 : Int32) = 0 by decide), cs_chooseU, Option.bind_some]
  try dsimp only
  rw [if_neg (show ¬ (1 : Int32) = 0 by decide), if_pos rfl, if_pos (show (-1 : Int32) < 0 by decide)]
  exact ⟨σ, rfl, Oc.same h⟩
theorem cs_a11 {t n sz nx len r : Nat} {B : Nat → Int32} {σ : hb_Mem} (h : Rl t n B sz nx len σ) (ht : t < 900) (hr2 : r < 2) (x y : Int32) : ∃ σ', ((fn_L_low (y >>> (2 &&& 31)) 4).bind fun x21 =>
    (fn_X5_why 0 (nI r) x21 σ).bind fun x22 =>
    if (0 : Int32) = 0 then ((fn_X5_reader 0 (nI r) 3 σ).bind fun x23 => jn_L_acts_949 0 x y (nI r) 0 (rd B r 0) x21 x22 x23 σ) else (jn_L_acts_949 0 x y (nI r) 0 (rd B r 0) x21 x22 0 σ)) = some (1, σ') ∧ Oc t n B sz nx σ' := by
  have hW := h.1.1
  have hn := hW.1
  have hr := h.2.1
  obtain ⟨k, hk, e⟩ := cs_low (y >>> (2 &&& 31)) (m := 4) (by omega) (by omega)
  have e : fn_L_low (y >>> (2 &&& 31)) 4 = some (nI k) := e
  rw [e, Option.bind_some]
  by_cases k3 : k = 3
  · subst k3
    rw [cs_why3 hr2, Option.bind_some, if_pos rfl, cs_rd3 hW hr hr2, Option.bind_some]
    unfold jn_L_acts_949 jn_L_acts_970 jn_L_acts_1016
    rw [if_neg (show ¬ (-2 : Int32) = 0 by decide), cs_choose3 hr2, Option.bind_some]
    try dsimp only
    rw [if_pos rfl, if_pos (show nI 3 = 3 from rfl), if_pos rfl, if_pos (show (-2 : Int32) < 0 by decide)]
    exact ⟨σ, rfl, Oc.same h⟩
  · have hk3 : k < 3 := by omega
    have hne : ¬ nI k = 3 := fun hc => k3 ((nI_eq (b := 3) (by omega) (by omega)).mp hc)
    rw [cs_why hW hr hr2 hk3, Option.bind_some, if_pos rfl, cs_rd3 hW hr hr2, Option.bind_some]
    unfold jn_L_acts_949 jn_L_acts_970
    by_cases hw : sp_why B r k = 0
    · obtain ⟨p, u, g, w, σ', c1, c2, c3, c4, c5, c6, c7, c8, c9, c10⟩ := cs_choose h hr2 hk3 hw (by omega)
      have h5 : ¬ nI p = -5 := pl_ne_neg (by omega) (by decide)
      have e0 : rd B r 0 = nI p := by
        unfold rd
        rw [c1, if_neg h5, if_pos rfl]
      have e3 : rd B r 3 = nI w := by
        unfold rd
        rw [c1, if_neg h5, if_neg (show ¬ 3 = 0 by decide), if_neg (show ¬ 3 = 1 by decide), if_neg (show ¬ 3 = 2 by decide), c6]
      have h' := c10.1.1.1
      have hr' := c10.1.2.1
      obtain ⟨g0, g1, g3⟩ := rd_go (B := B) (r := r) (p := u) (g := g) (tk := nI (w + 1)) (by omega)
      rw [if_pos hw, e0, cs_choice0 hW hr c2 c3, Option.bind_some]
      try dsimp only
      rw [c8, Option.bind_some]
      try dsimp only
      rw [if_pos rfl, if_neg hne, if_pos hw, c5]
      unfold jn_L_acts_1016
      rw [if_pos rfl, if_neg (nI_pos (by omega)), cs_rd0 h' hr' hr2, Option.bind_some, g0, if_pos rfl, cs_rd3 h' hr' hr2, Option.bind_some, g3, e3, if_pos (nI_1 w).symm]
      exact ⟨σ', rfl, Oc.act c10⟩
    · rw [if_neg hw, cs_chooseN hW hr hr2 hk3 hw, Option.bind_some]
      try dsimp only
      rw [if_pos rfl, if_neg hne, if_neg hw]
      unfold jn_L_acts_1016
      rw [if_pos rfl, if_pos (show (-4 : Int32) < 0 by decide)]
      exact ⟨σ, rfl, Oc.same h⟩
/-- where a reader is -/
theorem rd_0 {n r : Nat} {B : Nat → Int32} (h : pl_WB n B) (hr2 : r < 2) : (B (417 + 3 * r) = -5 ∧ rd B r 0 = -5) ∨ ∃ p g, p < n ∧ g < 32 ∧ B (417 + 3 * r) = nI p ∧ B (418 + 3 * r) = nI g ∧ rd B r 0 = nI p := by
  have hn := h.1
  rcases sp_plc (h.2.2.2.1 r hr2) with ⟨h5, e⟩ | ⟨p, g, hp, hg, ha, hf, e⟩
  · left
    refine ⟨h5, ?_⟩
    unfold rd
    rw [if_pos h5]
  · right
    refine ⟨p, g, hp, hg, ha, hf, ?_⟩
    unfold rd
    rw [ha, if_neg (pl_ne_neg (by omega) (by decide)), if_pos rfl]
theorem cs_a15U {t n sz nx len : Nat} {B : Nat → Int32} {σ : hb_Mem} (h : Rl t n B sz nx len σ) (x y s0 : Int32) : ∃ σ', jn_L_acts_819 0 x y 15 (nI n) (nI 2) 1 s0 σ = some (1, σ') ∧ Oc t n B sz nx σ' := by
  unfold jn_L_acts_819
  rw [if_neg (show ¬ (15 : Int32) = 10 by decide), if_pos (show (15 : Int32) ≤ 15 by decide), if_pos rfl, cs_markU, Option.bind_some]
  try dsimp only
  rw [if_neg (show ¬ (1 : Int32) = 0 by decide), if_pos rfl]
  exact ⟨σ, rfl, Oc.same h⟩
theorem cs_a15 {t n sz nx len r : Nat} {B : Nat → Int32} {σ : hb_Mem} (h : Rl t n B sz nx len σ) (hr2 : r < 2) (x y : Int32) : ∃ σ', jn_L_acts_819 0 x y 15 (nI n) (nI r) 0 (rd B r 0) σ = some (1, σ') ∧ Oc t n B sz nx σ' := by
  have hW := h.1.1
  have hn := hW.1
  have hr := h.2.1
  unfold jn_L_acts_819
  rw [if_neg (show ¬ (15 : Int32) = 10 by decide), if_pos (show (15 : Int32) ≤ 15 by decide), if_pos rfl]
  rcases rd_0 hW hr2 with ⟨h5, e⟩ | ⟨p, g, hp, hg, ha, hf, e⟩
  · rw [cs_markN hW hr hr2 h5, Option.bind_some]
    try dsimp only
    rw [if_pos rfl, if_pos e, if_pos rfl]
    exact ⟨σ, rfl, Oc.same h⟩
  · have h5 : ¬ nI p = -5 := pl_ne_neg (by omega) (by decide)
    unfold jn_L_acts_1125
    rcases cs_mark h hr2 hp hg ha hf with ⟨m1, m2, a1⟩ | ⟨σ', a1, a2⟩
    · rw [a1, Option.bind_some]
      try dsimp only
      rw [if_pos rfl, e, if_neg h5, if_neg (fun hc => h5 hc.symm), if_pos rfl, cs_count9 hW hr, Option.bind_some]
      try dsimp only
      rw [if_neg (show ¬ B 423 = -5 by rw [m1]; exact h5), if_pos rfl, cs_goSame hW hr hr2 (by omega) hg m1 m2 ha hf, Option.bind_some]
      try dsimp only
      rw [if_pos rfl]
      exact ⟨σ, rfl, Oc.same h⟩
    · have h' := a2.1.1.1
      have hr' := a2.1.2.1
      have m1 : mk B p g 423 = nI p := if_pos rfl
      have m2 : mk B p g 424 = nI g := by
        unfold mk
        rw [if_neg (by decide), if_pos rfl]
      have m3 : mk B p g (417 + 3 * r) = nI p := by rw [mk_off (by omega)]; exact ha
      have m4 : mk B p g (418 + 3 * r) = nI g := by rw [mk_off (by omega)]; exact hf
      rw [a1, Option.bind_some]
      try dsimp only
      rw [if_pos rfl, e, if_neg h5, if_pos rfl, cs_count9 h' hr', Option.bind_some]
      try dsimp only
      rw [if_neg (show ¬ mk B p g 423 = -5 by rw [m1]; exact h5), if_pos rfl, cs_goSame h' hr' hr2 (by omega) hg m1 m2 m3 m4, Option.bind_some]
      try dsimp only
      rw [if_pos rfl]
      exact ⟨σ', rfl, Oc.act a2⟩
theorem cs_a16U {t n sz nx len : Nat} {B : Nat → Int32} {σ : hb_Mem} (h : Rl t n B sz nx len σ) (x y s0 : Int32) : ∃ σ', jn_L_acts_819 0 x y 16 (nI n) (nI 2) 1 s0 σ = some (1, σ') ∧ Oc t n B sz nx σ' := by
  unfold jn_L_acts_819
  rw [if_neg (show ¬ (16 : Int32) = 10 by decide), if_pos (show (15 : Int32) ≤ 16 by decide), if_neg (show ¬ (16 : Int32) = 15 by decide), if_pos rfl, cs_count9 h.1.1 h.2.1, Option.bind_some]
  try dsimp only
  rw [cs_goU, Option.bind_some]
  try dsimp only
  rw [if_neg (show ¬ (1 : Int32) = 0 by decide), if_pos rfl]
  exact ⟨σ, rfl, Oc.same h⟩
theorem cs_a16 {t n sz nx len r : Nat} {B : Nat → Int32} {σ : hb_Mem} (h : Rl t n B sz nx len σ) (hr2 : r < 2) (x y : Int32) : ∃ σ', jn_L_acts_819 0 x y 16 (nI n) (nI r) 0 (rd B r 0) σ = some (1, σ') ∧ Oc t n B sz nx σ' := by
  have hW := h.1.1
  have hn := hW.1
  have hr := h.2.1
  unfold jn_L_acts_819
  rw [if_neg (show ¬ (16 : Int32) = 10 by decide), if_pos (show (15 : Int32) ≤ 16 by decide), if_neg (show ¬ (16 : Int32) = 15 by decide), if_pos rfl, cs_count9 hW hr, Option.bind_some]
  try dsimp only
  rcases sp_plc hW.2.2.2.2 with ⟨h5, e⟩ | ⟨p, g, hp, hg, ha, hf, e⟩
  · rw [cs_goN hW hr hr2 h5, Option.bind_some]
    try dsimp only
    rw [if_pos rfl, if_pos h5, if_pos rfl, if_pos rfl]
    exact ⟨σ, rfl, Oc.same h⟩
  · have h5 : ¬ nI p = -5 := pl_ne_neg (by omega) (by decide)
    rcases cs_go h hr2 hp hg ha hf with ⟨m1, a1⟩ | ⟨σ', a1, a2⟩
    · have e0 : ¬ rd B r 0 = -5 := by
        rcases rd_0 hW hr2 with ⟨k5, -⟩ | ⟨p', g', hp', -, -, -, e'⟩
        · exact absurd k5 m1
        · rw [e']
          exact pl_ne_neg (by omega) (by decide)
      rw [a1, Option.bind_some]
      try dsimp only
      rw [if_pos rfl, ha, if_neg h5, if_neg (show ¬ (1 : Int32) = 0 by decide), if_pos rfl, if_neg e0]
      exact ⟨σ, rfl, Oc.same h⟩
    · have h' := a2.1.1.1
      have hr' := a2.1.2.1
      obtain ⟨g0, g1, g3⟩ := rd_go (B := B) (r := r) (p := p) (g := g) (tk := nI 0) (by omega)
      rw [a1, Option.bind_some]
      try dsimp only
      rw [if_pos rfl, ha, if_neg h5, if_neg (show ¬ (1 : Int32) = 0 by decide), if_neg h5, cs_rd0 h' hr' hr2, Option.bind_some, g0, if_pos rfl, cs_rd3 h' hr' hr2, Option.bind_some, g3, if_pos (show nI 0 = 0 from rfl)]
      exact ⟨σ', rfl, Oc.act a2⟩
/-- a text -/
theorem cs_neg : ∀ l, l ≤ 60 → ∀ a, a ≤ l → (-100 - nI a ≤ 0) ∧ ¬ (-100 < -100 - nI a) ∧ ¬ (-100 - nI a < -100 - nI l) := by decide +kernel
theorem cs_a17 {t n sz nx len : Nat} {B : Nat → Int32} {σ : hb_Mem} (h : Rl t n B sz nx len σ) (x y j3 j8 j9 s0 : Int32) (h10 : ¬ j3 = 10) (h15 : 15 ≤ j3) (h16 : ¬ j3 = 15) (h17 : ¬ j3 = 16) : ∃ σ', jn_L_acts_819 0 x y j3 (nI n) j8 j9 s0 σ = some (1, σ') ∧ Oc t n B sz nx σ' := by
  have hW := h.1.1
  have hn := hW.1
  have hr := h.2.1
  obtain ⟨l1, σ1, a1, r1⟩ := cs_types h y
  obtain ⟨v, σ2, b1, b2⟩ := cs_addChoices r1
  unfold jn_L_acts_819
  rw [if_neg h10, if_pos h15, if_neg h16, if_neg h17, cs_count1 hW hr, Option.bind_some]
  try dsimp only
  rw [a1, Option.bind_some]
  try dsimp only
  rw [cs_count11 r1, Option.bind_some]
  try dsimp only
  rw [b1, Option.bind_some]
  try dsimp only
  rw [if_neg (show ¬ (1 : Int32) = 0 by decide)]
  rcases b2 with ⟨c1, c2⟩ | ⟨N, B', d1, d2, d3, d4, d5⟩
  · have h13 : jn_L_acts_1365 0 x y (nI (ct n (pl_m B))) σ2 = some (1, σ2) := by
      unfold jn_L_acts_1365
      rw [cs_count1 c1.1.1 c1.2.1, Option.bind_some]
      try dsimp only
      rw [if_pos rfl]
    have hl60 := r1.2.2.2.2.2.1
    rw [cs_count11 c1, Option.bind_some]
    try dsimp only
    rw [if_pos rfl]
    refine ⟨σ2, ?_, Or.inl ⟨l1, c1.up (Nat.le_succ t)⟩⟩
    rcases c2 with c2 | c2 | ⟨a, ha, c2⟩
    · rw [c2, if_pos (show (-1 : Int32) ≤ 0 by decide), if_pos rfl]
      exact h13
    · rw [c2, if_pos (show (-3 : Int32) ≤ 0 by decide), if_neg (show ¬ (-3 : Int32) = -1 by decide), if_pos rfl]
      exact h13
    · obtain ⟨k1, k2, k3⟩ := cs_neg l1 hl60 a ha
      rw [c2, if_pos k1]
      by_cases e1 : -100 - nI a = -1
      · rw [if_pos e1]
        exact h13
      rw [if_neg e1]
      by_cases e2 : -100 - nI a = -3
      · rw [if_pos e2]
        exact h13
      rw [if_neg e2, if_neg k2, if_neg k3]
      exact h13
  · have h' := d4.1.1.1
    have hr' := d4.1.2.1
    rw [cs_count11 d4.1, Option.bind_some]
    try dsimp only
    rw [if_pos rfl, d3, if_neg (nI_nle d1 (by omega)), if_neg (show ¬ (15 : Int32) < nI N by show ¬ nI 15 < nI N; rw [nI_ltI (by omega) (by omega)]; omega), cs_count1 h' hr', Option.bind_some]
    try dsimp only
    rw [d5, if_pos (nI_add _ _).symm]
    exact ⟨σ2, rfl, Oc.act d4⟩
/-- a reader's part -/
theorem cs_a800 {t n sz nx len how r : Nat} {B : Nat → Int32} {σ : hb_Mem} (h : Rl t n B sz nx len σ) (ht : t < 900) (hh : how < 20) (h9 : 9 < how) (x y : Int32) (hr3 : r < 3) : ∃ σ', (if nI r = 2 then jn_L_acts_800 0 x y (nI how) (nI n) (nI r) 1 σ else jn_L_acts_800 0 x y (nI how) (nI n) (nI r) 0 σ) = some (1, σ') ∧ Oc t n B sz nx σ' := by
  have hW := h.1.1
  have hn := hW.1
  have hr := h.2.1
  unfold jn_L_acts_800
  by_cases e : r = 2
  · subst e
    rw [if_pos (show nI 2 = 2 from rfl), if_neg (show ¬ (1 : Int32) = 0 by decide)]
    by_cases c10 : how = 10
    · subst c10
      exact cs_a10U h x y _
    by_cases c15 : how = 15
    · subst c15
      exact cs_a15U h x y _
    by_cases c16 : how = 16
    · subst c16
      exact cs_a16U h x y _
    have n10 : ¬ nI how = 10 := fun hc => c10 ((nI_eq (b := 10) (by omega) (by omega)).mp hc)
    have n15 : ¬ nI how = 15 := fun hc => c15 ((nI_eq (b := 15) (by omega) (by omega)).mp hc)
    have n16 : ¬ nI how = 16 := fun hc => c16 ((nI_eq (b := 16) (by omega) (by omega)).mp hc)
    by_cases c17 : 15 ≤ how
    · exact cs_a17 h x y _ _ _ _ n10 (by show nI 15 ≤ _; rw [nI_leI (by omega) (by omega)]; exact c17) n15 n16
    · unfold jn_L_acts_819
      rw [if_neg n10, if_neg (show ¬ (15 : Int32) ≤ nI how by show ¬ nI 15 ≤ _; rw [nI_leI (by omega) (by omega)]; exact c17)]
      exact cs_a11U h x y _
  · have hr2 : r < 2 := by omega
    rw [if_neg (show ¬ nI r = 2 from fun hc => e ((nI_eq (b := 2) (by omega) (by omega)).mp hc)), if_pos rfl, cs_rd0 hW hr hr2, Option.bind_some]
    by_cases c10 : how = 10
    · subst c10
      exact cs_a10 h hr2 x y _
    by_cases c15 : how = 15
    · subst c15
      exact cs_a15 h hr2 x y
    by_cases c16 : how = 16
    · subst c16
      exact cs_a16 h hr2 x y
    have n10 : ¬ nI how = 10 := fun hc => c10 ((nI_eq (b := 10) (by omega) (by omega)).mp hc)
    have n15 : ¬ nI how = 15 := fun hc => c15 ((nI_eq (b := 15) (by omega) (by omega)).mp hc)
    have n16 : ¬ nI how = 16 := fun hc => c16 ((nI_eq (b := 16) (by omega) (by omega)).mp hc)
    by_cases c17 : 15 ≤ how
    · exact cs_a17 h x y _ _ _ _ n10 (by show nI 15 ≤ _; rw [nI_leI (by omega) (by omega)]; exact c17) n15 n16
    · unfold jn_L_acts_819
      rw [if_neg n10, if_neg (show ¬ (15 : Int32) ≤ nI how by show ¬ nI 15 ≤ _; rw [nI_leI (by omega) (by omega)]; exact c17)]
      exact cs_a11 h ht hr2 x y
theorem cs_a293 {t n sz nx len q q' : Nat} {B : Nat → Int32} {σ : hb_Mem} (h : Rl t n B sz nx len σ) (hq : q ≤ n) (hq' : q' ≤ n) (x y a : Int32) : ∃ σ', (if q = n then jn_L_acts_293 0 x y (nI n) (nI q) 1 0 (nI q') a σ else jn_L_acts_293 0 x y (nI n) (nI q) 0 (nI (pl_m B q)) (nI q') a σ) = some (1, σ') ∧ Oc t n B sz nx σ' := by
  obtain ⟨k, hk, e⟩ := cs_low (y >>> (8 &&& 31)) (m := 3) (by omega) (by omega)
  have e : fn_L_low (y >>> (8 &&& 31)) 3 = some (nI k) := e
  obtain ⟨u, hu, e'⟩ := cs_low (y >>> (10 &&& 31)) (m := 33) (by omega) (by omega)
  have e' : fn_L_low (y >>> (10 &&& 31)) 33 = some (nI u) := e'
  unfold jn_L_acts_293
  rw [e, Option.bind_some, Option.bind_some, e', Option.bind_some, Option.bind_some]
  by_cases c : q = n
  · subst c
    rw [if_pos rfl]
    by_cases hz : nI k = 0
    · rw [if_pos hz]
      exact cs_a319n h hq' x y a _
    · rw [if_neg hz]
      exact cs_a319n h hq' x y a _
  · rw [if_neg c]
    by_cases hz : nI k = 0
    · rw [if_pos hz]
      exact cs_a319 h (by omega) hq' x y a (by omega)
    · rw [if_neg hz]
      exact cs_a319 (u := 0) h (by omega) hq' x y a (by omega)
/-- all acts, for a page q (or none, q = n) -/
theorem cs_a54 {t n sz nx len how q : Nat} {B : Nat → Int32} {σ : hb_Mem} (h : Rl t n B sz nx len σ) (ht : t < 900) (hh : how < 20) (hq : q ≤ n) (x y : Int32) : ∃ σ', (if q = n then jn_L_acts_54 0 x y (nI how) (nI n) (nI q) 1 0 σ else jn_L_acts_54 0 x y (nI how) (nI n) (nI q) 0 (nI (pl_m B q)) σ) = some (1, σ') ∧ Oc t n B sz nx σ' := by
  have hW := h.1.1
  have hn := hW.1
  have hr := h.2.1
  unfold jn_L_acts_54
  by_cases h3 : how < 3
  · have n3 : ¬ (3 : Int32) ≤ nI how := by show ¬ nI 3 ≤ _; rw [nI_leI (by omega) (by omega)]; omega
    obtain ⟨k1, -, e1⟩ := cs_low y (m := 203) (by omega) (by omega)
    have e1 : fn_L_low y 203 = some (nI k1) := e1
    obtain ⟨k2, -, e2⟩ := cs_low (y >>> (8 &&& 31)) (m := 34) (by omega) (by omega)
    have e2 : fn_L_low (y >>> (8 &&& 31)) 34 = some (nI k2) := e2
    obtain ⟨k3, -, e3⟩ := cs_low (y >>> (11 &&& 31)) (m := 3) (by omega) (by omega)
    have e3 : fn_L_low (y >>> (11 &&& 31)) 3 = some (nI k3) := e3
    obtain ⟨k4, hk4, e4⟩ := cs_low (y >>> (13 &&& 31)) (m := 33) (by omega) (by omega)
    have e4 : fn_L_low (y >>> (13 &&& 31)) 33 = some (nI k4) := e4
    rw [if_neg n3, if_neg n3, e1, Option.bind_some]
    simp only [hb_nm]
    rw [e2, Option.bind_some, e3, Option.bind_some, e4, Option.bind_some]
    have key : ∀ w : Prop, ∀ [Decidable w], ∃ σ', (if nI k3 = 0 then jn_L_acts_110 0 x y (nI n) (nI k1 - 101) (nI k2 - 1) (nI k4) σ else jn_L_acts_110 0 x y (nI n) (nI k1 - 101) (nI k2 - 1) 0 σ) = some (1, σ') ∧ Oc t n B sz nx σ' := by
      intro w _
      by_cases hz : nI k3 = 0
      · rw [if_pos hz]
        exact cs_a110 h x y _ _ (by omega)
      · rw [if_neg hz]
        exact cs_a110 (u := 0) h x y _ _ (by omega)
    split
    · exact key True
    · exact key True
  have y3 : (3 : Int32) ≤ nI how := by show nI 3 ≤ _; rw [nI_leI (by omega) (by omega)]; omega
  rw [if_pos y3, if_pos y3]
  by_cases h7 : how < 7
  · have n7 : ¬ (7 : Int32) ≤ nI how := by show ¬ nI 7 ≤ _; rw [nI_leI (by omega) (by omega)]; omega
    obtain ⟨q', hq', e1⟩ := cs_low (y >>> (4 &&& 31)) (m := n + 1) (by omega) (by omega)
    obtain ⟨k2, -, e2⟩ := cs_low (y >>> (7 &&& 31)) (m := 3) (by omega) (by omega)
    have e2 : fn_L_low (y >>> (7 &&& 31)) 3 = some (nI k2) := e2
    obtain ⟨k3, -, e3⟩ := cs_low (y >>> (9 &&& 31)) (m := 34) (by omega) (by omega)
    have e3 : fn_L_low (y >>> (9 &&& 31)) 34 = some (nI k3) := e3
    rw [if_neg n7, if_neg n7, nI_1, e1, Option.bind_some, Option.bind_some, e2, Option.bind_some, Option.bind_some, e3, Option.bind_some, Option.bind_some]
    by_cases hz : nI k2 = 0
    · rw [if_pos hz, if_pos hz]
      exact cs_a293 h hq (by omega) x y _
    · rw [if_neg hz, if_neg hz]
      exact cs_a293 h hq (by omega) x y _
  have y7 : (7 : Int32) ≤ nI how := by show nI 7 ≤ _; rw [nI_leI (by omega) (by omega)]; omega
  rw [if_pos y7, if_pos y7]
  by_cases c7 : how = 7
  · obtain ⟨k, hk, e1⟩ := cs_low (y >>> (5 &&& 31)) (m := 4) (by omega) (by omega)
    have e1 : fn_L_low (y >>> (5 &&& 31)) 4 = some (nI k) := e1
    rw [if_pos (show nI how = 7 by rw [c7]; rfl), if_pos (show nI how = 7 by rw [c7]; rfl), e1, Option.bind_some, Option.bind_some]
    simp only [hb_nm]
    by_cases c : q = n
    · rw [if_pos c, c]
      by_cases hv : nI k - 1 < 0
      · rw [if_pos hv]
        exact cs_a479n h x y _
      · rw [if_neg hv, if_pos (Int32.not_lt.mp hv)]
        exact cs_a479n h x y _
    · have hqn : q < n := by omega
      have hm := (hW.m hqn).1
      rw [if_neg c]
      by_cases hv : nI k - 1 < 0
      · rw [if_pos hv]
        exact cs_a479 h hqn x y _ (fun c' hc' he => by rw [he] at hv; exact nI_pos (by omega) hv)
      · rw [if_neg hv]
        obtain ⟨c', hc', ec⟩ := pl_nat hv
        rw [ec]
        by_cases hle : pl_m B q ≤ c'
        · rw [if_pos (by rw [nI_leI (by omega) (by omega)]; exact hle)]
          exact cs_a479 h hqn x y _ (fun c'' hc'' he => by have := (nI_eq (by omega) (by omega)).mp he; omega)
        · rw [if_neg (by rw [nI_leI (by omega) (by omega)]; exact hle)]
          exact cs_a480 h hqn (by omega) x y
  have n7 : ¬ nI how = 7 := fun hc => c7 ((nI_eq (b := 7) (by omega) (by omega)).mp hc)
  rw [if_neg n7, if_neg n7]
  by_cases c8 : how = 8
  · rw [if_pos (show nI how = 8 by rw [c8]; rfl), if_pos (show nI how = 8 by rw [c8]; rfl)]
    by_cases c : q = n
    · rw [if_pos c]
      obtain ⟨q', hq', e1⟩ := cs_low (y >>> (5 &&& 31)) (m := n + 1) (by omega) (by omega)
      rw [nI_1, e1, Option.bind_some, if_neg (show ¬ (1 : Int32) = 0 by decide)]
      exact cs_a580 h hq (by omega) (by omega) x y
    · rw [if_neg c]
      exact cs_a8 h (by omega) x y _
  have n8 : ¬ nI how = 8 := fun hc => c8 ((nI_eq (b := 8) (by omega) (by omega)).mp hc)
  rw [if_neg n8, if_neg n8]
  by_cases c9 : how = 9
  · obtain ⟨k, hk, e1⟩ := cs_low (y >>> (5 &&& 31)) (m := 202) (by omega) (by omega)
    have e1 : fn_L_low (y >>> (5 &&& 31)) 202 = some (nI k) := e1
    rw [if_pos (show nI how = 9 by rw [c9]; rfl), if_pos (show nI how = 9 by rw [c9]; rfl), e1, Option.bind_some, Option.bind_some]
    simp only [hb_nm]
    by_cases c : q = n
    · rw [if_pos c, if_neg (show ¬ (1 : Int32) = 0 by decide), c]
      exact cs_a670n h x y _
    · have hqn : q < n := by omega
      rw [if_neg c, if_pos trivial, cs_page3 hW hr hqn, Option.bind_some]
      exact cs_a670 h hqn x y _
  have n9 : ¬ nI how = 9 := fun hc => c9 ((nI_eq (b := 9) (by omega) (by omega)).mp hc)
  obtain ⟨r, hr3, e1⟩ := cs_low y (m := 3) (by omega) (by omega)
  have e1 : fn_L_low y 3 = some (nI r) := e1
  rw [if_neg n9, if_neg n9, e1, Option.bind_some, ite_self]
  exact cs_a800 h ht hh (by omega) x y hr3
theorem cs_acts {t n sz nx len : Nat} {B : Nat → Int32} {σ : hb_Mem} (h : Rl t n B sz nx len σ) (ht : t < 900) (x y : Int32) : ∃ σ', fn_L_acts 0 x y σ = some (1, σ') ∧ Oc t n B sz nx σ' := by
  have hW := h.1.1
  have hn := hW.1
  obtain ⟨how, hh, e1⟩ := cs_low x (m := 20) (by omega) (by omega)
  have e1 : fn_L_low x 20 = some (nI how) := e1
  obtain ⟨q, hq, e2⟩ := cs_low y (m := n + 1) (by omega) (by omega)
  have key := cs_a54 h ht hh (show q ≤ n by omega) x y
  unfold fn_L_acts
  rw [e1, Option.bind_some, cs_count0 hW h.2.1, Option.bind_some]
  try dsimp only
  rw [nI_1, e2, Option.bind_some]
  unfold jn_L_acts_36
  by_cases c : q = n
  · rw [if_pos c] at key
    rw [if_pos (show nI q = nI n by rw [c]), if_neg (show ¬ (1 : Int32) = 0 by decide)]
    exact key
  · rw [if_neg c] at key
    rw [if_neg (fun hc => c ((nI_eq (by omega) (by omega)).mp hc)), if_pos rfl, cs_page0 hW h.2.1 (show q < n by omega), Option.bind_some]
    exact key
