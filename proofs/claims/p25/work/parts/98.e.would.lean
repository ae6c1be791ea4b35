/-! what can be come to: the law's second check -/
def Kn (n : Nat) (B : Nat → Int32) (σ σ' : hb_Mem) : Prop := (∀ c, c < 147 → σ' c = σ c) ∧ pc_known σ' n B
theorem Kn.tr {n : Nat} {B : Nat → Int32} {a b c : hb_Mem} (h1 : Kn n B a b) (h2 : Kn n B b c) : Kn n B a c := ⟨fun k hk => (h2.1 k hk).trans (h1.1 k hk), h2.2⟩
theorem Kn.RS {n : Nat} {B : Nat → Int32} {σ σ' : hb_Mem} (h : Kn n B σ σ') (hr : pl_RS σ 1 n B) : pl_RS σ' 1 n B := hr.congr (fun c _ h2 => h.1 c (by omega))
theorem Sv.Kn {n : Nat} {B : Nat → Int32} {σ σ' : hb_Mem} (h : Sv n B σ σ') : Kn n B σ σ' := ⟨h.1, h.known⟩
theorem pb_len31 {n : Nat} {B : Nat → Int32} (h : pl_WB n B) : (pb_pl n B).1.length ≤ 1024 := by
  have := pb_pl_len h
  have := h.1
  omega
theorem sp_places_31 {n p : Nat} {B : Nat → Int32} (h : pl_WB n B) (hp : p < n) : sp_places (pb_pl n B) p ≤ 1024 := Nat.le_trans (sp_places_le h hp) (pb_len31 h)
theorem cs_w244 {n q : Nat} {B : Nat → Int32} {σ : hb_Mem} (h : pl_WB n B) (hr : pl_RS σ 1 n B) (hk : pc_known σ n B) (hq : q ≤ n) (x : Int32) : ∃ σ', jn_L_would_244 0 x (nI n) (nI (pb_pl n B).1.length) (nI q) 1 σ = some (1, σ') ∧ Kn n B σ σ' := by
  have hn := h.1
  have z1 : ¬ (1 : Int32) = 0 := by decide
  have hlen := pb_len31 h
  unfold jn_L_would_244
  by_cases e : q = n
  · rw [if_pos (show nI q = nI n by rw [e]), if_neg z1, cs_pageU h hr (by omega) (by omega), Option.bind_some]
    try dsimp only
    rw [if_pos rfl]
    exact ⟨σ, rfl, fun _ _ => rfl, hk⟩
  · have hqn : q < n := by omega
    have hP := sp_places_31 h hqn
    obtain ⟨σ1, a1, s1⟩ := cs_page8 h hr hk hqn
    have hr1 := s1.RS hr
    obtain ⟨σ2, a2, s2⟩ := cs_page5 h hr1 s1.known hqn
    have hr2 := s2.RS hr1
    obtain ⟨σ3, a3, s3⟩ := cs_page9 h hr2 s2.known hqn
    have hr3 := s3.RS hr2
    have k3 : Kn n B σ σ3 := (s1.Kn.tr s2.Kn).tr s3.Kn
    have hlt : ¬ nI (pb_pl n B).1.length < nI (sp_places (pb_pl n B) q) := by
      have := sp_places_le h hqn
      rw [nI_ltI (by omega) (by omega)]
      omega
    rw [if_neg (fun hc => e ((nI_eq (by omega) (by omega)).mp hc)), a1, Option.bind_some]
    try dsimp only
    rw [if_neg z1]
    unfold jn_L_would_298 jn_L_would_314 jn_L_would_327 jn_L_would_345 jn_L_would_373
    by_cases hz : sp_places (pb_pl n B) q = 0
    · have hz0 : nI (sp_places (pb_pl n B) q) = 0 := by rw [hz]; rfl
      have hdead : sp_dead (pb_pl n B) q = true := decide_eq_true hz
      have hfew : sp_few (pb_pl n B) q = -5 := (sp_few5 h).mpr hz
      obtain ⟨σ4, a4, s4⟩ := cs_page6 h hr3 s3.known hqn
      have hr4 := s4.RS hr3
      obtain ⟨σ5, a5, s5⟩ := cs_page7 h hr4 s4.known hqn
      have hst : sp_stucks B (pb_pl n B) q = 0 := by
        have := sp_stucks_le (B := B) (M := pb_pl n B) q
        omega
      rw [if_pos hdead] at a2
      rw [sp_again0 hz, if_neg (show ¬ false = true by decide)] at a4
      rw [if_pos hst] at a5
      rw [if_pos hz0, a2, Option.bind_some]
      try dsimp only
      rw [if_pos rfl, if_pos rfl, if_pos hz0, a3, Option.bind_some]
      try dsimp only
      rw [if_pos hfew, if_pos rfl, if_neg (show ¬ (0 : Int32) < nI (sp_places (pb_pl n B) q) by rw [hz0]; decide), a4, Option.bind_some]
      try dsimp only
      rw [a5, Option.bind_some]
      try dsimp only
      rw [if_pos (show (0 : Int32) + 0 = 0 by decide), if_neg hlt]
      exact ⟨σ5, rfl, (k3.tr s4.Kn).tr s5.Kn⟩
    · have hz0 : ¬ nI (sp_places (pb_pl n B) q) = 0 := nI_ne0 (by omega) (by omega)
      have hdead : ¬ sp_dead (pb_pl n B) q = true := fun hc => hz (of_decide_eq_true hc)
      have hfew : ¬ sp_few (pb_pl n B) q = -5 := fun hc => hz ((sp_few5 h).mp hc)
      have hpos : (0 : Int32) < nI (sp_places (pb_pl n B) q) := by
        show nI 0 < _
        rw [nI_ltI (by omega) (by omega)]
        omega
      rw [if_neg hdead] at a2
      rw [if_neg hz0, a2, Option.bind_some]
      try dsimp only
      rw [if_neg (show ¬ (0 : Int32) = 1 by decide), if_pos rfl, if_neg hz0, a3, Option.bind_some]
      try dsimp only
      rw [if_neg hfew, if_pos rfl, if_pos hpos, if_neg hlt]
      exact ⟨σ3, rfl, k3⟩
theorem pg_nx_some {B : Nat → Int32} {s c u : Nat} (h : pg_nx B s c = some u) : pg_why B (s / 32) (s % 32) c = 0 ∧ u = 32 * pg_to B (s / 32) c + pg_com B (pg_to B (s / 32) c) (s % 32) := by
  unfold pg_nx at h
  split at h
  · rename_i h1
    exact ⟨h1, (Option.some.inj h).symm⟩
  · cases h
theorem cs_w147 {n q : Nat} {B : Nat → Int32} {σ : hb_Mem} (h : pl_WB n B) (hr : pl_RS σ 1 n B) (hk : pc_known σ n B) (hq : q ≤ n) (x : Int32) : ∃ σ', jn_L_would_147 0 x (nI n) (wl n B) (nI (pb_pl n B).1.length) (nI q) 1 σ = some (1, σ') ∧ Kn n B σ σ' := by
  have hn := h.1
  have z1 : ¬ (1 : Int32) = 0 := by decide
  have hM := pb_pl_good h
  unfold jn_L_would_147
  rw [if_neg z1]
  cases hg : pw_goal B (pb_pl n B) with
  | none =>
    have e : wl n B = -5 := by
      unfold wl
      rw [hg]
    rw [if_pos e]
    exact cs_w244 h hr hk hq x
  | some g =>
    have e : wl n B = nI ((pb_pl n B).2.1 g) := by
      unfold wl
      rw [hg]
    have hgm : g ∈ (pb_pl n B).1 := List.mem_of_find?_eq_some hg
    have hd := hM.d hgm
    have hlt := hM.lt hgm
    have hhap : pl_m B (g / 32) = 0 ∧ ¬ B (1 + 13 * (g / 32)) ≤ 0 := of_decide_eq_true (show pw_hap B g = true from List.find?_some (show (pb_pl n B).1.find? (pw_hap B) = some g from hg))
    obtain ⟨h0, hfirst⟩ := pw_first h hgm
    have hc0 : pg_com B 0 0 < 32 := pg_com_lt h h0 (by decide)
    have hkd : kd B (g / 32) = 1 := by
      unfold kd
      rw [if_pos hhap.1, if_neg hhap.2]
    rw [e, if_neg (pl_ne_neg (by omega) (by decide))]
    obtain ⟨σ1, a1, s1⟩ := cs_way0 h hr hk hg (Nat.le_refl _)
    have hr1 := s1.RS hr
    rw [Nat.sub_self, show pw_up (pb_pl n B) 0 g = g from rfl] at a1
    obtain ⟨σ2, a2, s2⟩ := cs_way0 (t := 0) h hr1 s1.known hg (Nat.zero_le _)
    have hr2 := s2.RS hr1
    rw [Nat.sub_zero, hfirst, show pg_com B 0 0 / 32 = 0 by omega] at a2
    have a2 : fn_X5_way 0 0 0 σ1 = some (0, σ2) := a2
    obtain ⟨σ3, a3, s3⟩ := cs_way2 h hr2 s2.known hg (Nat.le_refl _)
    have hr3 := s3.RS hr2
    rw [if_pos (Nat.le_refl _)] at a3
    obtain ⟨σ4, a4, s4⟩ := cs_way1U h hr3 s3.known hg
    have hr4 := s4.RS hr3
    have k4 : Kn n B σ σ4 := ((s1.Kn.tr s2.Kn).tr s3.Kn).tr s4.Kn
    rw [a1, Option.bind_some]
    try dsimp only
    rw [a2, Option.bind_some]
    try dsimp only
    rw [if_pos rfl, cs_page4 h hr2 (by omega), Option.bind_some]
    try dsimp only
    rw [if_pos hkd, a3, Option.bind_some]
    try dsimp only
    rw [if_pos rfl, nI_1, a4, Option.bind_some]
    try dsimp only
    rw [if_pos rfl]
    by_cases hz : (pb_pl n B).2.1 g = 0
    · rw [if_pos (show nI ((pb_pl n B).2.1 g) = 0 by rw [hz]; rfl)]
      unfold jn_L_would_237 jn_L_would_242
      obtain ⟨σ5, b1, b2⟩ := cs_w244 h hr4 s4.known hq x
      exact ⟨σ5, b1, k4.tr b2⟩
    · obtain ⟨c3, hnx⟩ := pw_step h hgm (by omega)
      obtain ⟨hw, hu⟩ := pg_nx_some hnx
      rw [show pg_com B 0 0 / 32 = 0 by omega] at hw hu
      have hcm := pg_why_c hw
      obtain ⟨t1, t2⟩ := h.to h0 hcm
      have hcl := pg_com_lt h t1 (show pg_com B 0 0 % 32 < 32 by omega)
      obtain ⟨σ5, a5, s5⟩ := cs_way2 (t := 0) h hr4 s4.known hg (Nat.zero_le _)
      have hr5 := s5.RS hr4
      rw [if_neg (by omega), Nat.zero_add] at a5
      have a5 : fn_X5_way 0 0 2 σ4 = some (nI ((pb_pl n B).2.2.2 (pw_up (pb_pl n B) ((pb_pl n B).2.1 g - 1) g)), σ5) := a5
      obtain ⟨σ6, a6, s6⟩ := cs_way0 (t := 1) h hr5 s5.known hg (by omega)
      have hr6 := s6.RS hr5
      rw [hu] at a6
      rw [show (32 * pg_to B 0 ((pb_pl n B).2.2.2 (pw_up (pb_pl n B) ((pb_pl n B).2.1 g - 1) g)) + pg_com B (pg_to B 0 ((pb_pl n B).2.2.2 (pw_up (pb_pl n B) ((pb_pl n B).2.1 g - 1) g))) (pg_com B 0 0 % 32)) / 32 = pg_to B 0 ((pb_pl n B).2.2.2 (pw_up (pb_pl n B) ((pb_pl n B).2.1 g - 1) g)) by omega] at a6
      have a6 : fn_X5_way 0 1 0 σ5 = some (nI (pg_to B 0 ((pb_pl n B).2.2.2 (pw_up (pb_pl n B) ((pb_pl n B).2.1 g - 1) g))), σ6) := a6
      have hch : fn_X5_choice 0 0 (nI ((pb_pl n B).2.2.2 (pw_up (pb_pl n B) ((pb_pl n B).2.1 g - 1) g))) 0 σ5 = some (nI (pg_to B 0 ((pb_pl n B).2.2.2 (pw_up (pb_pl n B) ((pb_pl n B).2.1 g - 1) g))), σ5) := by
        have := cs_choice0 (p := 0) h hr5 h0 hcm
        rw [t2] at this
        exact this
      rw [if_neg (nI_ne0 (by omega) (by omega)), a5, Option.bind_some]
      try dsimp only
      rw [hch, Option.bind_some]
      try dsimp only
      rw [a6, Option.bind_some]
      try dsimp only
      rw [if_pos rfl]
      unfold jn_L_would_237 jn_L_would_242
      obtain ⟨σ7, b1, b2⟩ := cs_w244 h hr6 s6.known hq x
      exact ⟨σ7, b1, ((k4.tr s5.Kn).tr s6.Kn).tr b2⟩
theorem cs_w113 {n q : Nat} {B : Nat → Int32} {σ : hb_Mem} (h : pl_WB n B) (hr : pl_RS σ 1 n B) (hk : pc_known σ n B) (hq : q ≤ n) (x s : Int32) : ∃ σ', jn_L_would_113 0 x (nI n) (wl n B) (nI (pb_pl n B).1.length) (nI q) s s σ = some (1, σ') ∧ Kn n B σ σ' := by
  have hn := h.1
  have hlen := pb_len31 h
  obtain ⟨σ1, a1, s1⟩ := cs_count2 h hr hk
  have hr1 := s1.RS hr
  obtain ⟨σ2, a2, s2⟩ := cs_count6 h hr1 s1.known
  have hr2 := s2.RS hr1
  obtain ⟨σ3, a3, s3⟩ := cs_count4 h hr2 s2.known
  have hr3 := s3.RS hr2
  have h1 := sp_dead_live (n := n) (M := pb_pl n B) (pe_end B)
  have h2 := sp_allStuck_le h
  unfold jn_L_would_113
  rw [if_pos rfl, a1, Option.bind_some]
  try dsimp only
  rw [a2, Option.bind_some]
  try dsimp only
  rw [nI_add, if_neg (by rw [nI_ltI (by omega) (by omega)]; omega), a3, Option.bind_some]
  try dsimp only
  rw [if_neg (by rw [nI_ltI (by omega) (by omega)]; omega)]
  obtain ⟨σ4, b1, b2⟩ := cs_w147 h hr3 s3.known hq x
  exact ⟨σ4, b1, ((s1.Kn.tr s2.Kn).tr s3.Kn).tr b2⟩
theorem cs_w82 {n q : Nat} {B : Nat → Int32} {σ : hb_Mem} (h : pl_WB n B) (hr : pl_RS σ 1 n B) (hk : pc_known σ n B) (hq : q ≤ n) (x s : Int32) : ∃ σ', jn_L_would_82 0 x (nI n) (wl n B) (nI (pb_pl n B).1.length) (nI q) s s σ = some (1, σ') ∧ Kn n B σ σ' := by
  have hn := h.1
  have hlen := pb_len31 h
  have hl := pb_pl_len h
  have h0 := pb_pl_none h
  unfold jn_L_would_82 jn_L_would_103
  rw [if_pos rfl, show (32 : Int32) * nI n = nI (32 * n) from pl_mul 32 n, if_neg (by rw [nI_ltI (by omega) (by omega)]; omega)]
  by_cases e : n = 0
  · rw [if_pos (show nI n = 0 by rw [e]; rfl), if_pos (show nI (pb_pl n B).1.length = 0 by rw [h0.mp e]; rfl)]
    exact cs_w113 h hr hk hq x 1
  · have : ¬ (pb_pl n B).1.length = 0 := fun hc => e (h0.mpr hc)
    rw [if_neg (nI_ne0 (by omega) (by omega)), if_neg (nI_ne0 (by omega) (by omega))]
    exact cs_w113 h hr hk hq x 0
theorem cs_would {n : Nat} {B : Nat → Int32} {σ : hb_Mem} (h : pl_WB n B) (hr : pl_RS σ 1 n B) (hk : pc_known σ n B) (x : Int32) : ∃ σ', fn_L_would 0 x σ = some (1, σ') ∧ Kn n B σ σ' := by
  have hn := h.1
  have hM := pb_pl_good h
  obtain ⟨σ1, a1, s1⟩ := cs_count8 h hr hk
  have hr1 := s1.RS hr
  obtain ⟨σ2, a2, s2⟩ := cs_count5 h hr1 s1.known
  have hr2 := s2.RS hr1
  obtain ⟨q, hq, eq⟩ := cs_low x (m := n + 1) (by omega) (by omega)
  obtain ⟨v, σ3, a3, v3, s3⟩ := cs_wayMood h hr2 s2.known
  have hr3 := s3.RS hr2
  obtain ⟨σ4, a4, s4⟩ := cs_count7 h hr3 s3.known
  have hr4 := s4.RS hr3
  have k4 : Kn n B σ σ4 := ((s1.Kn.tr s2.Kn).tr s3.Kn).tr s4.Kn
  have hgoal := sp_live_goal h
  have hlive : sp_live n (pb_pl n B) (pe_hap B) ≤ n := by
    have := sp_dead_live (n := n) (M := pb_pl n B) (pe_hap B)
    omega
  unfold fn_L_would
  rw [cs_count0 h hr, Option.bind_some]
  try dsimp only
  rw [a1, Option.bind_some]
  try dsimp only
  rw [a2, Option.bind_some]
  try dsimp only
  rw [nI_1, eq, Option.bind_some]
  unfold jn_L_would_40 jn_L_would_54 jn_L_would_68
  cases hg : pw_goal B (pb_pl n B) with
  | none =>
    have e : wl n B = -5 := by
      unfold wl
      rw [hg]
    rw [if_pos e, a3, Option.bind_some]
    try dsimp only
    rw [if_pos (v3.mpr hg), if_pos rfl, if_pos e, a4, Option.bind_some]
    try dsimp only
    rw [if_pos (show nI (sp_live n (pb_pl n B) (pe_hap B)) = 0 by rw [hgoal.mpr hg]; rfl)]
    obtain ⟨σ5, b1, b2⟩ := cs_w82 h hr4 s4.known (show q ≤ n by omega) x 1
    exact ⟨σ5, b1, k4.tr b2⟩
  | some g =>
    have hgm : g ∈ (pb_pl n B).1 := List.mem_of_find?_eq_some hg
    have hd := hM.d hgm
    have e : ¬ wl n B = -5 := by
      unfold wl
      rw [hg]
      exact pl_ne_neg (by omega) (by decide)
    have hv : ¬ v = -5 := fun hc => by
      have := v3.mp hc
      rw [hg] at this
      cases this
    have hl0 : ¬ sp_live n (pb_pl n B) (pe_hap B) = 0 := fun hc => by
      have := hgoal.mp hc
      rw [hg] at this
      cases this
    rw [if_neg e, a3, Option.bind_some]
    try dsimp only
    rw [if_neg hv, if_pos rfl, if_neg e, a4, Option.bind_some]
    try dsimp only
    rw [if_neg (nI_ne0 (by omega) (by omega))]
    obtain ⟨σ5, b1, b2⟩ := cs_w82 h hr4 s4.known (show q ≤ n by omega) x 0
    exact ⟨σ5, b1, k4.tr b2⟩
