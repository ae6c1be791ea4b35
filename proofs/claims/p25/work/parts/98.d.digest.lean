/-! the law's digest, and what it holds always -/
def dgk (B : Nat → Int32) (p : Nat) (h : Int64) : Nat → Int64
  | 0 => h
  | k + 1 => ((31 : Int64) * (((31 : Int64) * (((31 : Int64) * dgk B p h k) + (B (5 + 13 * p + 3 * k)).toInt64)) + (B (6 + 13 * p + 3 * k)).toInt64)) + (B (7 + 13 * p + 3 * k)).toInt64
def dgp (n : Nat) (B : Nat → Int32) : Nat → Int64
  | 0 => 257
  | p + 1 => dgk B p (((31 : Int64) * (((31 : Int64) * (((31 : Int64) * (((31 : Int64) * dgp n B p) + (B (2 + 13 * p)).toInt64)) + (B (3 + 13 * p)).toInt64)) + (md B p).toInt64)) + (nI (sp_to n B (nI p))).toInt64) (pl_m B p)
def dgr (B : Nat → Int32) (h : Int64) : Nat → Int64
  | 0 => h
  | r + 1 => ((31 : Int64) * (((31 : Int64) * (((31 : Int64) * dgr B h r) + (rd B r 0).toInt64)) + (rd B r 1).toInt64)) + (rd B r 3).toInt64
def dg (n : Nat) (B : Nat → Int32) : Int64 := ((31 : Int64) * (((31 : Int64) * (((31 : Int64) * dgr B (dgp n B n) 2) + (nI n).toInt64)) + (nI (ct n (pl_m B))).toInt64)) + (if B 423 = -5 then (0 : Int32) else 1).toInt64
theorem cs_dgk {n p : Nat} {B : Nat → Int32} {σ : hb_Mem} (h : pl_WB n B) (hr : pl_RS σ 1 n B) (hp : p < n) (v : Int64) : ll_L_digest_69 0 (nI p) (v, 0, σ) = some (dgk B p v (pl_m B p), σ) := by
  have hn := h.1
  have hm := (h.m hp).1
  unfold ll_L_digest_69
  refine pl_for (f := fun s => lb_L_digest_69 0 (nI p) s.1 s.2.1 s.2.2) (s := (v, (0 : Int32), σ)) (pl_m B p) (fun i => (dgk B p v i, nI i, σ)) rfl ?_ ?_ (by rw [pl_F]; omega)
  · intro i hi
    show lb_L_digest_69 0 (nI p) (dgk B p v i) (nI i) σ = _
    unfold lb_L_digest_69
    rw [cs_page0 h hr hp, Option.bind_some]
    try dsimp only
    rw [if_neg (by rw [nI_leI (by omega) (by omega)]; omega), cs_choice0 h hr hp hi, Option.bind_some]
    try dsimp only
    rw [cs_choice1 h hr hp hi, Option.bind_some]
    try dsimp only
    rw [cs_choice2 h hr hp hi, Option.bind_some]
    simp only [hb_nm, nI_1]
    rfl
  · show lb_L_digest_69 0 (nI p) (dgk B p v (pl_m B p)) (nI (pl_m B p)) σ = _
    unfold lb_L_digest_69
    rw [cs_page0 h hr hp, Option.bind_some]
    try dsimp only
    rw [if_pos (Int32.le_refl _)]
theorem cs_dgp {n : Nat} {B : Nat → Int32} {σ : hb_Mem} (h : pl_WB n B) (hr : pl_RS σ 1 n B) : ll_L_digest_6 0 (257, 0, σ) = some (dgp n B n, σ) := by
  have hn := h.1
  unfold ll_L_digest_6
  refine pl_for (f := fun s => lb_L_digest_6 0 s.1 s.2.1 s.2.2) (s := ((257 : Int64), (0 : Int32), σ)) n (fun i => (dgp n B i, nI i, σ)) rfl ?_ ?_ (by rw [pl_F]; omega)
  · intro i hi
    show lb_L_digest_6 0 (dgp n B i) (nI i) σ = _
    unfold lb_L_digest_6
    rw [cs_count0 h hr, Option.bind_some]
    try dsimp only
    rw [if_neg (by rw [nI_leI (by omega) (by omega)]; omega), cs_page1 h hr hi, Option.bind_some]
    try dsimp only
    rw [cs_page2 h hr hi, Option.bind_some]
    try dsimp only
    rw [cs_page3 h hr hi, Option.bind_some]
    try dsimp only
    rw [cs_page10 h hr hi, Option.bind_some]
    simp only [hb_nm]
    rw [cs_dgk h hr hi, Option.bind_some]
    simp only [nI_1]
    rfl
  · show lb_L_digest_6 0 (dgp n B n) (nI n) σ = _
    unfold lb_L_digest_6
    rw [cs_count0 h hr, Option.bind_some]
    try dsimp only
    rw [if_pos (Int32.le_refl _)]
theorem cs_dgr {n : Nat} {B : Nat → Int32} {σ : hb_Mem} (h : pl_WB n B) (hr : pl_RS σ 1 n B) (v : Int64) : ll_L_digest_138 0 σ (v, 0) = some (dgr B v 2) := by
  unfold ll_L_digest_138
  refine pl_for (f := fun s => lb_L_digest_138 0 s.1 s.2 σ) (s := (v, (0 : Int32))) 2 (fun i => (dgr B v i, nI i)) rfl ?_ ?_ (by rw [pl_F]; omega)
  · intro i hi
    show lb_L_digest_138 0 (dgr B v i) (nI i) σ = _
    unfold lb_L_digest_138
    rw [if_neg (by show ¬ nI 2 ≤ nI i; rw [nI_leI (by omega) (by omega)]; omega)]
    rw [show fn_X5_reader 0 (nI i) 0 σ = some (rd B i 0) from cs_reader (w := 0) h hr hi (by decide), Option.bind_some]
    rw [show fn_X5_reader 0 (nI i) 1 σ = some (rd B i 1) from cs_reader (w := 1) h hr hi (by decide), Option.bind_some]
    rw [show fn_X5_reader 0 (nI i) 3 σ = some (rd B i 3) from cs_reader (w := 3) h hr hi (by decide), Option.bind_some]
    simp only [hb_nm, nI_1]
    rfl
  · show lb_L_digest_138 0 (dgr B v 2) (nI 2) σ = _
    unfold lb_L_digest_138
    rw [if_pos (show (2 : Int32) ≤ nI 2 from Int32.le_refl _)]
theorem cs_digest {n : Nat} {B : Nat → Int32} {σ : hb_Mem} (h : pl_WB n B) (hr : pl_RS σ 1 n B) : fn_L_digest 0 σ = some (dg n B, σ) := by
  unfold fn_L_digest
  rw [cs_dgp h hr, Option.bind_some]
  try dsimp only
  rw [cs_dgr h hr, Option.bind_some, cs_count0 h hr, Option.bind_some]
  try dsimp only
  rw [cs_count1 h hr, Option.bind_some]
  try dsimp only
  rw [cs_count9 h hr, Option.bind_some]
  rfl
-- holds
theorem cs_holds_k {n p : Nat} {B : Nat → Int32} {σ : hb_Mem} (h : pl_WB n B) (hr : pl_RS σ 1 n B) (hp : p < n) (x y : Int32) : ll_L_holds_153 0 (nI n) x y (nI p) (nI (pl_m B p)) (1, 0, σ) = some (1, σ) := by
  have hn := h.1
  have hm := (h.m hp).1
  have z1 : ¬ (1 : Int32) = 0 := by decide
  unfold ll_L_holds_153
  refine pl_for (f := fun s => lb_L_holds_153 0 (nI n) x y (nI p) (nI (pl_m B p)) s.1 s.2.1 s.2.2) (s := ((1 : Int32), (0 : Int32), σ)) (pl_m B p) (fun i => (1, nI i, σ)) rfl ?_ ?_ (by rw [pl_F]; omega)
  · intro i hi
    show lb_L_holds_153 0 (nI n) x y (nI p) (nI (pl_m B p)) 1 (nI i) σ = _
    obtain ⟨t1, t2⟩ := h.to hp hi
    obtain ⟨a1, a2⟩ := h.nd hp hi
    obtain ⟨b1, b2⟩ := h.br hp hi
    have l32 : ∀ a, a < 32 → ¬ (32 : Int32) ≤ nI a := fun a ha => by
      show ¬ nI 32 ≤ nI a
      rw [nI_leI (by omega) (by omega)]
      omega
    unfold lb_L_holds_153 jn_L_holds_244
    rw [if_neg (by rw [nI_leI (by omega) (by omega)]; omega), cs_choice0 h hr hp hi, Option.bind_some]
    try dsimp only
    rw [t2, if_neg z1, if_neg (nI_pos (by omega)), if_neg (by rw [nI_leI (by omega) (by omega)]; omega), cs_choice1 h hr hp hi, Option.bind_some]
    try dsimp only
    rw [a2, if_neg (nI_pos (by omega)), cs_choice1 h hr hp hi, Option.bind_some]
    try dsimp only
    rw [a2, if_neg (l32 _ a1), cs_choice2 h hr hp hi, Option.bind_some]
    try dsimp only
    rw [b2, if_neg (nI_pos (by omega)), cs_choice2 h hr hp hi, Option.bind_some]
    try dsimp only
    rw [b2, if_neg (l32 _ b1)]
    simp only [hb_nm, nI_1]
  · show lb_L_holds_153 0 (nI n) x y (nI p) (nI (pl_m B p)) 1 (nI (pl_m B p)) σ = _
    unfold lb_L_holds_153
    rw [if_pos (Int32.le_refl _)]
theorem md_pos {n p : Nat} {B : Nat → Int32} (h : pl_WB n B) (hp : p < n) : md B p ≤ 0 ↔ B (1 + 13 * p) ≤ 0 := by
  have hw := (h.2.2.1 p hp).1
  have h1 := pf_pos hw.1 hw.2
  constructor
  · intro hc
    rcases Classical.em (B (1 + 13 * p) ≤ 0) with q | q
    · exact q
    · exact absurd (h1.mpr q) (Int32.not_lt.mpr hc)
  · intro hc
    rw [← Int32.not_lt]
    intro q
    exact h1.mp q hc
theorem cs_holds_p {n p : Nat} {B : Nat → Int32} {σ : hb_Mem} (h : pl_WB n B) (hr : pl_RS σ 1 n B) (hp : p < n) (x y : Int32) : lb_L_holds_16 0 (nI n) x y 1 (nI p) σ = some (.inl (x + nI (pl_m B p), y + nI (sp_to n B (nI p)), 1, nI (p + 1), σ)) := by
  have hn := h.1
  have hm := (h.m hp).1
  have z1 : ¬ (1 : Int32) = 0 := by decide
  have hend : ∀ x y, jn_L_holds_148 0 (nI n) x y (nI p) (nI (pl_m B p)) 1 σ = some (.inl (x, y, 1, nI (p + 1), σ)) := by
    intro x y
    unfold jn_L_holds_148
    rw [cs_holds_k h hr hp, Option.bind_some]
    simp only [hb_nm, nI_1]
  have hU : fn_X5_choice 0 (nI p) (nI (pl_m B p)) 0 σ = some (-1, σ) := cs_choiceU h hr _ _ (fun p' c hp' hc hh => by
    have hm' := (h.m hp').1
    have e1 := (nI_eq (by omega) (by omega)).mp hh.1
    have e2 := (nI_eq (by omega) (by omega)).mp hh.2
    subst e1
    omega) 0
  unfold lb_L_holds_16
  rw [if_neg (by rw [nI_leI (by omega) (by omega)]; omega), if_neg z1, cs_page0 h hr hp, Option.bind_some]
  simp only [hb_nm]
  rw [cs_page10 h hr hp, Option.bind_some]
  try dsimp only
  rw [if_neg (nI_pos (by omega)), if_neg (show ¬ (3 : Int32) < nI (pl_m B p) by show ¬ nI 3 < _; rw [nI_ltI (by omega) (by omega)]; omega)]
  unfold jn_L_holds_73 jn_L_holds_88 jn_L_holds_120 jn_L_holds_139 jn_L_holds_140
  by_cases q : pl_m B p = 0
  · have q0 : nI (pl_m B p) = 0 := by rw [q]; rfl
    rw [if_pos q0, cs_page4 h hr hp, Option.bind_some]
    have hk : ¬ kd B p ≤ 0 := by
      unfold kd
      rw [if_pos q]
      split <;> decide
    try dsimp only
    rw [if_neg hk, if_pos rfl, hU, Option.bind_some]
    try dsimp only
    rw [if_pos rfl, cs_page4 h hr hp, Option.bind_some]
    try dsimp only
    by_cases e : B (1 + 13 * p) ≤ 0
    · have hk1 : ¬ kd B p = 1 := by
        unfold kd
        rw [if_pos q, if_pos e]
        decide
      rw [if_neg hk1, if_pos q0, cs_page3 h hr hp, Option.bind_some]
      try dsimp only
      rw [if_pos ((md_pos h hp).mpr e), if_pos rfl]
      exact hend _ _
    · have hk1 : kd B p = 1 := by
        unfold kd
        rw [if_pos q, if_neg e]
      rw [if_pos hk1, if_pos q0, cs_page3 h hr hp, Option.bind_some]
      try dsimp only
      rw [if_neg (fun hc => e ((md_pos h hp).mp hc)), if_pos rfl]
      exact hend _ _
  · have q0 : ¬ nI (pl_m B p) = 0 := nI_ne0 (by omega) (by omega)
    have hk : kd B p = 0 := by
      unfold kd
      rw [if_neg q]
    rw [if_neg q0, cs_page4 h hr hp, Option.bind_some]
    try dsimp only
    rw [hk, if_pos (show (0 : Int32) ≤ 0 by decide), if_pos rfl, hU, Option.bind_some]
    try dsimp only
    rw [if_pos rfl, cs_page4 h hr hp, Option.bind_some]
    try dsimp only
    rw [hk, if_neg (show ¬ (0 : Int32) = 1 by decide), if_neg q0, if_pos rfl]
    exact hend _ _
theorem pg_set3_sh (b0 b1 b2 : Bool) : ∀ m, m ≤ 3 → (b0 = true → 0 < m) → (b1 = true → 1 < m) → (b2 = true → 2 < m) → pg_set3 b0 b1 b2 >>> (nI m &&& 31) = 0 := by
  intro m hm
  have : m = 0 ∨ m = 1 ∨ m = 2 ∨ m = 3 := by omega
  rcases this with rfl | rfl | rfl | rfl <;> cases b0 <;> cases b1 <;> cases b2 <;> intro h0 h1 h2 <;> first | decide | (exact absurd (h0 rfl) (by decide)) | (exact absurd (h1 rfl) (by decide)) | (exact absurd (h2 rfl) (by decide))
theorem cs_holds_r {t n r : Nat} {B : Nat → Int32} {σ : hb_Mem} (hO : ps_ok t n B) (hr : pl_RS σ 1 n B) (ht : t < 1000) (hr2 : r < 2) (x y : Int32) : lb_L_holds_261 0 (nI n) x y 1 (nI r) σ = some (.inl (1, nI (r + 1), σ)) := by
  have h := hO.1
  have hn := h.1
  have z1 : ¬ (1 : Int32) = 0 := by decide
  have e0 : fn_X5_reader 0 (nI r) 0 σ = some (rd B r 0) := cs_reader (w := 0) h hr hr2 (by decide)
  have e1 : fn_X5_reader 0 (nI r) 1 σ = some (rd B r 1) := cs_reader (w := 1) h hr hr2 (by decide)
  have e2 : fn_X5_reader 0 (nI r) 2 σ = some (rd B r 2) := cs_reader (w := 2) h hr hr2 (by decide)
  have e3 : fn_X5_reader 0 (nI r) 3 σ = some (rd B r 3) := cs_reader (w := 3) h hr hr2 (by decide)
  have ew : fn_X5_why 0 (nI r) 0 σ = some (sp_why B r 0) := cs_why (c := 0) h hr hr2 (by decide)
  unfold lb_L_holds_261 jn_L_holds_374 jn_L_holds_378 jn_L_holds_379
  rw [if_neg (by show ¬ nI 2 ≤ nI r; rw [nI_leI (by omega) (by omega)]; omega), e0, Option.bind_some, e1, Option.bind_some, if_neg z1]
  rcases sp_plc (h.2.2.2.1 r hr2) with ⟨h5, e⟩ | ⟨p, g, hp, hg, ha, hf, e⟩
  · have k : ∀ w, rd B r w = -5 := fun w => by
      unfold rd
      rw [if_pos h5]
    have kw : sp_why B r 0 = 1 := by
      unfold sp_why
      rw [if_pos h5]
    rw [k 0, if_pos rfl, e2, Option.bind_some, k 2, if_pos rfl, ew, Option.bind_some, if_pos kw]
    simp only [hb_nm, nI_1]
  · have h5 : ¬ B (417 + 3 * r) = -5 := by rw [ha]; exact pl_ne_neg (by omega) (by decide)
    obtain ⟨w, w1, w2⟩ := hO.2 r hr2
    have k0 : rd B r 0 = nI p := by
      unfold rd
      rw [if_neg h5, if_pos rfl, ha]
    have k1 : rd B r 1 = nI g := by
      unfold rd
      rw [if_neg h5, if_neg (show ¬ 1 = 0 by decide), if_pos rfl, hf]
    have k2 : rd B r 2 = pg_set3 (pg_op B (32 * p + g) 0) (pg_op B (32 * p + g) 1) (pg_op B (32 * p + g) 2) := by
      unfold rd
      rw [if_neg h5, if_neg (show ¬ 2 = 0 by decide), if_neg (show ¬ 2 = 1 by decide), if_pos rfl, ha, hf, nI_clamp (by omega), nI_clamp (by omega)]
    have k3 : rd B r 3 = nI w := by
      unfold rd
      rw [if_neg h5, if_neg (show ¬ 3 = 0 by decide), if_neg (show ¬ 3 = 1 by decide), if_neg (show ¬ 3 = 2 by decide), w2]
    have hop : ∀ c, pg_op B (32 * p + g) c = true → c < pl_m B p := fun c hc => by
      have := of_decide_eq_true hc
      rw [show (32 * p + g) / 32 = p by omega, show (32 * p + g) % 32 = g by omega] at this
      exact pg_why_c this
    have hsh := pg_set3_sh _ _ _ (pl_m B p) (h.m hp).1 (hop 0) (hop 1) (hop 2)
    rw [k0, if_neg (pl_ne_neg (by omega) (by decide)), if_neg (nI_pos (by omega)), if_neg (by rw [nI_leI (by omega) (by omega)]; omega), k1, if_neg (nI_pos (by omega)), if_neg (show ¬ (32 : Int32) ≤ nI g by show ¬ nI 32 ≤ _; rw [nI_leI (by omega) (by omega)]; omega), e3, Option.bind_some, k3, if_neg (nI_pos (by omega)), e2, Option.bind_some, k2, cs_page0 h hr hp, Option.bind_some]
    try dsimp only
    rw [hsh, if_pos rfl]
    simp only [hb_nm, nI_1]
theorem cs_holds {t n : Nat} {B : Nat → Int32} {σ : hb_Mem} (hO : ps_ok t n B) (hr : pl_RS σ 1 n B) (ht : t < 1000) : fn_L_holds 0 σ = some (1, σ) := by
  have h := hO.1
  have hn := h.1
  have l1 : ll_L_holds_16 0 (nI n) (0, 0, 1, 0, σ) = some (nI (ct n (pl_m B)), nI (ct n (fun p => sp_to n B (nI p))), 1, σ) := by
    unfold ll_L_holds_16
    refine pl_for (f := fun s => lb_L_holds_16 0 (nI n) s.1 s.2.1 s.2.2.1 s.2.2.2.1 s.2.2.2.2) (s := ((0 : Int32), (0 : Int32), (1 : Int32), (0 : Int32), σ)) n (fun i => (nI (ct i (pl_m B)), nI (ct i (fun p => sp_to n B (nI p))), 1, nI i, σ)) rfl ?_ ?_ (by rw [pl_F]; omega)
    · intro i hi
      show lb_L_holds_16 0 (nI n) (nI (ct i (pl_m B))) (nI (ct i (fun p => sp_to n B (nI p)))) 1 (nI i) σ = _
      rw [cs_holds_p h hr hi, nI_add, nI_add]
      rfl
    · show lb_L_holds_16 0 (nI n) (nI (ct n (pl_m B))) (nI (ct n (fun p => sp_to n B (nI p)))) 1 (nI n) σ = _
      unfold lb_L_holds_16
      rw [if_pos (Int32.le_refl _)]
  have l2 : ∀ x y, ll_L_holds_261 0 (nI n) x y (1, 0, σ) = some (1, σ) := by
    intro x y
    unfold ll_L_holds_261
    refine pl_for (f := fun s => lb_L_holds_261 0 (nI n) x y s.1 s.2.1 s.2.2) (s := ((1 : Int32), (0 : Int32), σ)) 2 (fun i => (1, nI i, σ)) rfl ?_ ?_ (by rw [pl_F]; omega)
    · intro i hi
      exact cs_holds_r hO hr ht hi x y
    · show lb_L_holds_261 0 (nI n) x y 1 (nI 2) σ = _
      unfold lb_L_holds_261
      rw [if_pos (show (2 : Int32) ≤ nI 2 from Int32.le_refl _)]
  unfold fn_L_holds
  rw [cs_count0 h hr, Option.bind_some]
  try dsimp only
  rw [l1, Option.bind_some]
  try dsimp only
  unfold jn_L_holds_258
  rw [l2, Option.bind_some]
  try dsimp only
  rw [if_neg (show ¬ (1 : Int32) = 0 by decide), cs_count1 h hr, Option.bind_some]
  try dsimp only
  rw [if_pos rfl, sp_to_sum h, if_pos rfl]
