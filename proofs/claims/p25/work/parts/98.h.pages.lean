/-! the law's acts, one by one: pages and choices -/
def Oc (t n : Nat) (B : Nat → Int32) (sz nx : Nat) (σ' : hb_Mem) : Prop := (∃ len', Rl (t + 1) n B sz nx len' σ') ∨ ∃ n' B' len', Ac t n B sz nx len' n' B' σ'
theorem Oc.same {t n sz nx len : Nat} {B : Nat → Int32} {σ : hb_Mem} (h : Rl t n B sz nx len σ) : Oc t n B sz nx σ := Or.inl ⟨len, h.up (Nat.le_succ t)⟩
theorem Oc.act {t n sz nx len n' : Nat} {B B' : Nat → Int32} {σ : hb_Mem} (h : Ac t n B sz nx len n' B' σ) : Oc t n B sz nx σ := Or.inr ⟨n', B', len, h⟩
theorem sp_to_new {n s u : Nat} {B : Nat → Int32} {v : Int32} (h : pl_WB n B) (hn : n < 32) : sp_to (n + 1) (pgB B n v s u) (nI n) = 0 := by
  refine ct_none (n + 1) (fun q hq => ?_)
  by_cases e : q = n
  · rw [e, pgB_m]
    rfl
  · have hm : pl_m (pgB B n v s u) q = pl_m B q := wb_m (pgB_off (by omega) (by omega))
    have hm3 := (h.m (p := q) (by omega)).1
    rw [hm]
    refine ct_none _ (fun c hc => ?_)
    obtain ⟨t1, t2⟩ := h.to (p := q) (by omega) hc
    rw [pgB_off (by omega) (by omega), t2, if_neg (fun hc => by have := (nI_eq (by omega) (by omega)).mp hc; omega)]
theorem hi_lt {a : Int32} {c : Int32} (h : a < c) : a.toInt < c.toInt := Int32.lt_iff_toInt_lt.mp h
theorem cs_a110 {t n sz nx len u : Nat} {B : Nat → Int32} {σ : hb_Mem} (h : Rl t n B sz nx len σ) (x y a b : Int32) (hu : u < 2 ^ 31) : ∃ σ', jn_L_acts_110 0 x y (nI n) a b (nI u) σ = some (1, σ') ∧ Oc t n B sz nx σ' := by
  have hW := h.1.1
  have hn := hW.1
  have hbad : ¬ ((-99 ≤ a.toInt ∧ a.toInt ≤ 99) ∧ (∃ f, f < 32 ∧ b = nI f) ∧ ∃ f, f < 32 ∧ nI u = nI f) → ∃ σ', jn_L_acts_145 0 x y (nI n) a b (nI u) σ = some (1, σ') ∧ Oc t n B sz nx σ' := by
    intro hb
    unfold jn_L_acts_145 jn_L_acts_150 jn_L_acts_190
    rw [cs_addPageB hb, Option.bind_some]
    try dsimp only
    rw [if_neg (show ¬ (1 : Int32) = 0 by decide), if_pos rfl, if_pos (show (-2 : Int32) < 0 by decide)]
    exact ⟨σ, rfl, Oc.same h⟩
  unfold jn_L_acts_110
  by_cases h1 : a < -99
  · rw [if_pos h1]
    exact hbad (fun hc => by
      have := hi_lt h1
      have e : (-99 : Int32).toInt = -99 := by decide
      omega)
  rw [if_neg h1]
  by_cases h2 : 99 < a
  · rw [if_pos h2]
    exact hbad (fun hc => by
      have := hi_lt h2
      have e : (99 : Int32).toInt = 99 := by decide
      omega)
  rw [if_neg h2]
  have hv : -99 ≤ a.toInt ∧ a.toInt ≤ 99 := by
    rw [Int32.lt_iff_toInt_lt] at h1 h2
    have e1 : (-99 : Int32).toInt = -99 := by decide
    have e2 : (99 : Int32).toInt = 99 := by decide
    omega
  by_cases h3 : b < 0
  · rw [if_pos h3]
    exact hbad (fun hc => by
      obtain ⟨f, hf, e⟩ := hc.2.1
      rw [e] at h3
      exact nI_pos (by omega) h3)
  rw [if_neg h3]
  obtain ⟨s, hs, rfl⟩ := pl_nat h3
  by_cases h4 : 31 < nI s
  · rw [if_pos h4]
    exact hbad (fun hc => by
      obtain ⟨f, hf, e⟩ := hc.2.1
      have h4 : nI 31 < nI s := h4
      rw [e, nI_ltI (by omega) (by omega)] at h4
      omega)
  rw [if_neg h4]
  have hs32 : s < 32 := by
    have h4 : ¬ nI 31 < nI s := h4
    rw [nI_ltI (by omega) (by omega)] at h4
    omega
  by_cases h5 : nI u ≤ 31
  · rw [if_pos h5]
    have hu32 : u < 32 := by
      have h5 : nI u ≤ nI 31 := h5
      rw [nI_leI (by omega) (by omega)] at h5
      omega
    unfold jn_L_acts_150
    by_cases q : n = 32
    · rw [cs_addPageF h.2.1 hv hs32 hu32 q, Option.bind_some]
      try dsimp only
      rw [if_pos rfl, if_pos (show nI n = 32 by rw [q]; rfl)]
      unfold jn_L_acts_190
      rw [if_pos rfl, if_pos (show (-3 : Int32) < 0 by decide)]
      exact ⟨σ, rfl, Oc.same h⟩
    · have hn32 : n < 32 := by omega
      obtain ⟨σ', a1, a2⟩ := cs_addPage h hv hs32 hu32 hn32
      have h' := a2.1.1.1
      have hr' := a2.1.2.1
      obtain ⟨b0, b1, b2, b3, b4⟩ := pgB_at (B := B) (n := n) (s := s) (t := u) (a := a)
      rw [a1, Option.bind_some]
      try dsimp only
      rw [if_pos rfl, if_neg (show ¬ nI n = 32 from fun hc => q ((nI_eq (b := 32) (by omega) (by omega)).mp hc))]
      unfold jn_L_acts_190
      rw [if_pos rfl, if_neg (nI_pos (by omega)), cs_page0 h' hr' (Nat.lt_succ_self n), Option.bind_some]
      try dsimp only
      rw [pgB_m, if_pos (show nI 0 = 0 from rfl), cs_page1 h' hr' (Nat.lt_succ_self n), Option.bind_some]
      try dsimp only
      rw [b2, if_pos rfl, cs_page2 h' hr' (Nat.lt_succ_self n), Option.bind_some]
      try dsimp only
      rw [b3, if_pos rfl, cs_page10 h' hr' (Nat.lt_succ_self n), Option.bind_some]
      try dsimp only
      rw [sp_to_new hW hn32, if_pos (show nI 0 = 0 from rfl)]
      exact ⟨σ', rfl, Oc.act a2⟩
  · rw [if_neg h5]
    exact hbad (fun hc => by
      obtain ⟨f, hf, e⟩ := hc.2.2
      have := (nI_eq hu (by omega)).mp e
      apply h5
      show nI u ≤ nI 31
      rw [nI_leI (by omega) (by omega)]
      omega)
theorem ap_new {B : Nat → Int32} {p t a b : Nat} : ap B p t a b (5 + 13 * p + 3 * pl_m B p) = nI t ∧ ap B p t a b (6 + 13 * p + 3 * pl_m B p) = nI a ∧ ap B p t a b (7 + 13 * p + 3 * pl_m B p) = nI b := by
  unfold ap
  refine ⟨if_pos rfl, ?_, ?_⟩
  · rw [if_neg (by omega), if_pos rfl]
  · rw [if_neg (by omega), if_neg (by omega), if_pos rfl]
theorem cs_a319n {t n sz nx len q' : Nat} {B : Nat → Int32} {σ : hb_Mem} (h : Rl t n B sz nx len σ) (hq' : q' ≤ n) (x y a b : Int32) : ∃ σ', jn_L_acts_319 0 x y (nI n) (nI n) 1 0 (nI q') a b σ = some (1, σ') ∧ Oc t n B sz nx σ' := by
  have hn := h.1.1.1
  unfold jn_L_acts_319 jn_L_acts_349 jn_L_acts_390
  rw [cs_errU h.1.1 h.2.1 (by omega) (by omega) (by omega), Option.bind_some]
  try dsimp only
  rw [if_neg (show ¬ (1 : Int32) = 0 by decide), if_pos rfl, if_pos (show (-1 : Int32) < 0 by decide)]
  exact ⟨σ, rfl, Oc.same h⟩
theorem cs_a319 {t n sz nx len q q' u : Nat} {B : Nat → Int32} {σ : hb_Mem} (h : Rl t n B sz nx len σ) (hq : q < n) (hq' : q' ≤ n) (x y a : Int32) (hu : u < 2 ^ 31) : ∃ σ', jn_L_acts_319 0 x y (nI n) (nI q) 0 (nI (pl_m B q)) (nI q') a (nI u) σ = some (1, σ') ∧ Oc t n B sz nx σ' := by
  have hW := h.1.1
  have hn := hW.1
  have hr := h.2.1
  have hm := (hW.m hq).1
  unfold jn_L_acts_319
  by_cases e : q' = n
  · rw [cs_errU hW hr (by omega) (by omega) (by omega), Option.bind_some]
    try dsimp only
    rw [if_pos rfl, if_pos (show nI q' = nI n by rw [e])]
    unfold jn_L_acts_349 jn_L_acts_390
    rw [if_pos rfl, if_pos (show (-1 : Int32) < 0 by decide)]
    exact ⟨σ, rfl, Oc.same h⟩
  have hq2 : q' < n := by omega
  have hne : ¬ nI q' = nI n := fun hc => e ((nI_eq (by omega) (by omega)).mp hc)
  have hbad : ¬ ((∃ f, f < 32 ∧ a = nI f) ∧ ∃ f, f < 32 ∧ nI u = nI f) → fn_X5_addChoice 0 (nI q) (nI q') a (nI u) σ = some (-2, σ) := fun hb => cs_errB hW hr hq hq2 hb
  have hend : ∃ σ', jn_L_acts_372 0 x y (nI q) (nI q') a (nI u) (-2) (-2) σ = some (1, σ') ∧ Oc t n B sz nx σ' := by
    unfold jn_L_acts_372 jn_L_acts_390
    rw [if_pos rfl, if_pos (show (-2 : Int32) < 0 by decide)]
    exact ⟨σ, rfl, Oc.same h⟩
  by_cases h3 : a < 0
  · rw [hbad (fun hc => by
      obtain ⟨f, hf, e⟩ := hc.1
      rw [e] at h3
      exact nI_pos (by omega) h3), Option.bind_some]
    try dsimp only
    rw [if_pos rfl, if_neg hne, if_pos h3]
    exact hend
  obtain ⟨s, hs, rfl⟩ := pl_nat h3
  by_cases h4 : 31 < nI s
  · rw [hbad (fun hc => by
      obtain ⟨f, hf, e⟩ := hc.1
      have h4 : nI 31 < nI s := h4
      rw [e, nI_ltI (by omega) (by omega)] at h4
      omega), Option.bind_some]
    try dsimp only
    rw [if_pos rfl, if_neg hne, if_neg h3, if_pos h4]
    exact hend
  have hs32 : s < 32 := by
    have h4 : ¬ nI 31 < nI s := h4
    rw [nI_ltI (by omega) (by omega)] at h4
    omega
  by_cases h5 : nI u ≤ 31
  · have hu32 : u < 32 := by
      have h5 : nI u ≤ nI 31 := h5
      rw [nI_leI (by omega) (by omega)] at h5
      omega
    by_cases q3 : pl_m B q = 3
    · rw [cs_errF hW hr hq hq2 hs32 hu32 q3, Option.bind_some]
      try dsimp only
      rw [if_pos rfl, if_neg hne, if_neg h3, if_neg h4, if_pos h5, if_pos (show nI (pl_m B q) = 3 by rw [q3]; rfl)]
      unfold jn_L_acts_390
      rw [if_pos rfl, if_pos (show (-3 : Int32) < 0 by decide)]
      exact ⟨σ, rfl, Oc.same h⟩
    · have hm3 : pl_m B q < 3 := by omega
      obtain ⟨σ', a1, a2⟩ := cs_addChoice h hq hq2 hs32 hu32 hm3
      have h' := a2.1.1.1
      have hr' := a2.1.2.1
      obtain ⟨b1, b2, b3⟩ := ap_new (B := B) (p := q) (t := q') (a := s) (b := u)
      have hmm : pl_m B q < pl_m (ap B q q' s u) q := by rw [(ap_m hm3).2]; omega
      rw [a1, Option.bind_some]
      try dsimp only
      rw [if_pos rfl, if_neg hne, if_neg h3, if_neg h4, if_pos h5, if_neg (show ¬ nI (pl_m B q) = 3 from fun hc => q3 ((nI_eq (b := 3) (by omega) (by omega)).mp hc))]
      unfold jn_L_acts_390
      rw [if_pos rfl, if_neg (nI_pos (by omega)), cs_choice0 h' hr' hq hmm, Option.bind_some]
      try dsimp only
      rw [b1, if_pos rfl, cs_choice1 h' hr' hq hmm, Option.bind_some]
      try dsimp only
      rw [b2, if_pos rfl, cs_choice2 h' hr' hq hmm, Option.bind_some]
      try dsimp only
      rw [b3, if_pos rfl]
      exact ⟨σ', rfl, Oc.act a2⟩
  · rw [hbad (fun hc => by
      obtain ⟨f, hf, e⟩ := hc.2
      have := (nI_eq hu (by omega)).mp e
      apply h5
      show nI u ≤ nI 31
      rw [nI_leI (by omega) (by omega)]
      omega), Option.bind_some]
    try dsimp only
    rw [if_pos rfl, if_neg hne, if_neg h3, if_neg h4, if_neg h5]
    exact hend
-- takeChoice
theorem cs_a479n {t n sz nx len : Nat} {B : Nat → Int32} {σ : hb_Mem} (h : Rl t n B sz nx len σ) (x y v : Int32) : ∃ σ', jn_L_acts_479 0 x y (nI n) 1 0 v σ = some (1, σ') ∧ Oc t n B sz nx σ' := by
  have hn := h.1.1.1
  unfold jn_L_acts_479 jn_L_acts_480 jn_L_acts_500
  rw [if_pos rfl, cs_takeU h.1.1 h.2.1 _ _ (fun p c hp hc hh => by have := (nI_eq (by omega) (by omega)).mp hh.1; omega), Option.bind_some]
  try dsimp only
  rw [if_pos rfl, if_neg (show ¬ (1 : Int32) = 0 by decide)]
  exact ⟨σ, rfl, Oc.same h⟩
theorem cs_a479 {t n sz nx len q : Nat} {B : Nat → Int32} {σ : hb_Mem} (h : Rl t n B sz nx len σ) (hq : q < n) (x y v : Int32) (hv : ∀ c, c < pl_m B q → ¬ v = nI c) : ∃ σ', jn_L_acts_479 0 x y (nI q) 0 (nI (pl_m B q)) v σ = some (1, σ') ∧ Oc t n B sz nx σ' := by
  have hn := h.1.1.1
  unfold jn_L_acts_479 jn_L_acts_480 jn_L_acts_500 jn_L_acts_541
  rw [if_pos rfl, cs_takeU h.1.1 h.2.1 _ _ (fun p c hp hc hh => by
    have := (nI_eq (by omega) (by omega)).mp hh.1
    subst this
    exact hv c hc hh.2), Option.bind_some]
  try dsimp only
  rw [if_pos rfl, if_pos rfl, cs_page0 h.1.1 h.2.1 hq, Option.bind_some]
  try dsimp only
  rw [if_pos rfl, if_pos rfl]
  exact ⟨σ, rfl, Oc.same h⟩
theorem cs_a480 {t n sz nx len q c : Nat} {B : Nat → Int32} {σ : hb_Mem} (h : Rl t n B sz nx len σ) (hq : q < n) (hc : c < pl_m B q) (x y : Int32) : ∃ σ', jn_L_acts_480 0 x y (nI q) 0 (nI (pl_m B q)) (nI c) 1 σ = some (1, σ') ∧ Oc t n B sz nx σ' := by
  have hW := h.1.1
  have hn := hW.1
  have hm := (hW.m hq).1
  obtain ⟨σ', a1, a2⟩ := cs_take h hq hc
  unfold jn_L_acts_480 jn_L_acts_500 jn_L_acts_541
  rw [if_neg (show ¬ (1 : Int32) = 0 by decide), cs_choice0 hW h.2.1 hq hc, Option.bind_some]
  try dsimp only
  rw [a1, Option.bind_some]
  try dsimp only
  rw [if_pos rfl, if_pos rfl, cs_page0 a2.1.1.1 a2.1.2.1 hq, Option.bind_some]
  try dsimp only
  rw [if_neg (show ¬ (1 : Int32) = 0 by decide), (rm_m hm).2, if_pos (show nI (pl_m B q - 1) = nI (pl_m B q) - 1 from (pl_sub (b := 1) (by omega)).symm)]
  exact ⟨σ', rfl, Oc.act a2⟩
-- exchange
theorem cs_a580 {t n sz nx len q q' : Nat} {B : Nat → Int32} {σ : hb_Mem} (h : Rl t n B sz nx len σ) (hq : q ≤ n) (hq' : q' ≤ n) (hno : ¬ (q < n ∧ q' < n)) (x y : Int32) : ∃ σ', jn_L_acts_580 0 x y (nI q) (nI q') σ = some (1, σ') ∧ Oc t n B sz nx σ' := by
  have hn := h.1.1.1
  unfold jn_L_acts_580 jn_L_acts_613
  rw [cs_exchU h.1.1 h.2.1 (by omega) (by omega) hno, Option.bind_some]
  try dsimp only
  rw [if_pos rfl]
  exact ⟨σ, rfl, Oc.same h⟩
theorem cs_a8 {t n sz nx len q : Nat} {B : Nat → Int32} {σ : hb_Mem} (h : Rl t n B sz nx len σ) (hq : q < n) (x y v : Int32) : ∃ σ', ((fn_L_low v (nI n + 1)).bind fun x39 =>
    if (0 : Int32) = 0 then (if x39 = nI n then (jn_L_acts_580 0 x y (nI q) x39 σ) else (if nI q = x39 then (jn_L_acts_613 0 x y (nI q) x39 (-5) σ) else ((fn_X5_page 0 (nI q) 10 σ).bind fun x41 =>
      (fn_X5_page 0 x39 10 x41.2).bind fun x42 => jn_L_acts_613 0 x y (nI q) x39 (x41.1 + x42.1) x42.2))) else (jn_L_acts_580 0 x y (nI q) x39 σ)) = some (1, σ') ∧ Oc t n B sz nx σ' := by
  have hW := h.1.1
  have hn := hW.1
  have hr := h.2.1
  obtain ⟨q', hq', e⟩ := cs_low v (m := n + 1) (by omega) (by omega)
  rw [nI_1, e, Option.bind_some, if_pos rfl]
  by_cases e1 : q' = n
  · rw [if_pos (show nI q' = nI n by rw [e1])]
    exact cs_a580 h (by omega) (by omega) (by omega) x y
  · rw [if_neg (fun hc => e1 ((nI_eq (by omega) (by omega)).mp hc))]
    by_cases e2 : q = q'
    · subst e2
      rw [if_pos rfl]
      unfold jn_L_acts_613
      rw [cs_exchS hW hr hq, Option.bind_some]
      try dsimp only
      rw [if_pos rfl]
      exact ⟨σ, rfl, Oc.same h⟩
    · have hq2 : q' < n := by omega
      obtain ⟨σ', a1, a2⟩ := cs_exch h hq hq2 e2
      rw [if_neg (fun hc => e2 ((nI_eq (by omega) (by omega)).mp hc)), cs_page10 hW hr hq, Option.bind_some]
      try dsimp only
      rw [cs_page10 hW hr hq2, Option.bind_some]
      try dsimp only
      unfold jn_L_acts_613
      rw [a1, Option.bind_some]
      try dsimp only
      rw [if_pos (Int32.add_comm _ _)]
      exact ⟨σ', rfl, Oc.act a2⟩
-- setMood
theorem cs_a670n {t n sz nx len : Nat} {B : Nat → Int32} {σ : hb_Mem} (h : Rl t n B sz nx len σ) (x y v : Int32) : ∃ σ', jn_L_acts_670 0 x y (nI n) 1 0 v 0 σ = some (1, σ') ∧ Oc t n B sz nx σ' := by
  have hn := h.1.1.1
  unfold jn_L_acts_670
  rw [cs_setMoodU h.1.1 h.2.1 (Nat.le_refl n) (by omega), Option.bind_some]
  try dsimp only
  rw [if_neg (show ¬ (1 : Int32) = 0 by decide), if_pos rfl]
  exact ⟨σ, rfl, Oc.same h⟩
theorem cs_a670 {t n sz nx len q : Nat} {B : Nat → Int32} {σ : hb_Mem} (h : Rl t n B sz nx len σ) (hq : q < n) (x y v : Int32) : ∃ σ', jn_L_acts_670 0 x y (nI q) 0 (nI (pl_m B q)) v (md B q) σ = some (1, σ') ∧ Oc t n B sz nx σ' := by
  have hW := h.1.1
  have hn := hW.1
  have hr := h.2.1
  have hm := (hW.m hq).1
  unfold jn_L_acts_670
  by_cases h1 : v < -99
  · rw [cs_setMoodB hW hr hq (fun hc => by
      have := hi_lt h1
      have e : (-99 : Int32).toInt = -99 := by decide
      omega), Option.bind_some]
    try dsimp only
    rw [if_pos rfl, if_pos h1]
    unfold jn_L_acts_715
    rw [if_pos rfl]
    exact ⟨σ, rfl, Oc.same h⟩
  by_cases h2 : v ≤ 99
  · have hv : -99 ≤ v.toInt ∧ v.toInt ≤ 99 := by
      rw [Int32.lt_iff_toInt_lt] at h1
      rw [Int32.le_iff_toInt_le] at h2
      have e1 : (-99 : Int32).toInt = -99 := by decide
      have e2 : (99 : Int32).toInt = 99 := by decide
      omega
    rcases cs_setMood h hq hv with ⟨a1, a2⟩ | ⟨a1, σ', a2, a3⟩
    · rw [a2, Option.bind_some]
      try dsimp only
      rw [if_pos rfl, if_neg h1, if_pos h2, if_pos rfl, cs_page3 hW hr hq, Option.bind_some]
      try dsimp only
      rw [if_pos rfl]
      exact ⟨σ, rfl, Oc.same h⟩
    · rw [a2, Option.bind_some]
      try dsimp only
      have hw := (hW.2.2.1 q hq).1
      have hne : ¬ md (st1 B (1 + 13 * q) v) q = md B q := by
        intro hc
        unfold md at hc
        rw [st1_eq] at hc
        exact a1 (pf_inj hv.1 hv.2 hw.1 hw.2 hc).symm
      rw [if_pos rfl, if_neg h1, if_pos h2, if_neg (pl_ne_neg (by omega) (by decide)), if_pos rfl, cs_page3 a3.1.1.1 a3.1.2.1 hq, Option.bind_some]
      try dsimp only
      rw [if_neg hne]
      exact ⟨σ', rfl, Oc.act a3⟩
  · rw [cs_setMoodB hW hr hq (fun hc => by
      rw [Int32.le_iff_toInt_le] at h2
      have e : (99 : Int32).toInt = 99 := by decide
      omega), Option.bind_some]
    try dsimp only
    rw [if_pos rfl, if_neg h1, if_neg h2]
    unfold jn_L_acts_715
    rw [if_pos rfl]
    exact ⟨σ, rfl, Oc.same h⟩
