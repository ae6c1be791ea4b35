/-! the reference's places -/
def pm_R (μ : hb_Mem) (M : pb_M) : Prop := μ 0 11 = nI M.1.length ∧ (∀ j x : Nat, M.1[j]? = some x → μ 8 j = nI x) ∧ (∀ x, x < 1024 → μ 5 x = if x ∈ M.1 then nI (M.2.1 x) else 9999) ∧ ∀ x, x ∈ M.1 → 0 < M.2.1 x → μ 6 x = nI (M.2.2.1 x) ∧ μ 7 x = nI (M.2.2.2 x)
def pm_fp (μ μ' : hb_Mem) : Prop := (∀ c, c ≠ 0 → c ≠ 5 → c ≠ 6 → c ≠ 7 → c ≠ 8 → μ' c = μ c) ∧ ∀ j, j ≠ 11 → μ' 0 j = μ 0 j
theorem pm_fp.rf (μ : hb_Mem) : pm_fp μ μ := ⟨fun _ _ _ _ _ _ => rfl, fun _ _ => rfl⟩
theorem pm_fp.tr {a b c : hb_Mem} (h1 : pm_fp a b) (h2 : pm_fp b c) : pm_fp a c := ⟨fun x a1 a2 a3 a4 a5 => (h2.1 x a1 a2 a3 a4 a5).trans (h1.1 x a1 a2 a3 a4 a5), fun j hj => (h2.2 j hj).trans (h1.2 j hj)⟩
theorem pm_fp.s {a b : hb_Mem} (h : pm_fp a b) : b 1 = a 1 := h.1 1 (by decide) (by decide) (by decide) (by decide) (by decide)
theorem pm_add {μ : hb_Mem} {M : pb_M} {q d f b : Nat} {p3 p4 : Int32} (hR : pm_R μ M) (hdl : ∀ x, x ∈ M.1 → M.2.1 x < 1024) (hq : q < 1024) (hl : q ∉ M.1 → M.1.length < 1024) (hd : 0 < d → p3 = nI f ∧ p4 = nI b) : ∃ μ', fn_X6_comesTo 0 (nI q) (nI d) p3 p4 μ = some μ' ∧ pm_R μ' (pb_add M q d f b) ∧ pm_fp μ μ' := by
  unfold fn_X6_comesTo pb_add
  obtain ⟨h1, h2, h3, h4⟩ := hR
  rw [pm_ld (a := hm_rf 0 7) (n := 1024) (by decide) hq (by decide), Option.bind_some, show μ (hm_rf 0 7) q = μ 5 q from rfl, h3 q hq]
  by_cases hm : q ∈ M.1
  · rw [if_pos hm, if_pos hm, if_neg (by
      intro h
      have h9 : nI (M.2.1 q) = nI 9999 := h
      rw [nI_eq (by have := hdl q hm; omega) (by omega)] at h9
      have := hdl q hm
      omega)]
    exact ⟨μ, rfl, ⟨h1, h2, h3, h4⟩, pm_fp.rf μ⟩
  · have hlen := hl hm
    rw [if_neg hm, if_neg hm, if_pos rfl]
    rw [pm_stt (a := hm_rf 0 7) (n := 1024) (by decide) hq (by decide), Option.bind_some, pm_stt (a := hm_rf 0 8) (n := 1024) (by decide) hq (by decide), Option.bind_some, pm_stt (a := hm_rf 0 9) (n := 1024) (by decide) hq (by decide), Option.bind_some]
    have e11 : hb_up (hb_up (hb_up μ (hm_rf 0 7) q (nI d)) (hm_rf 0 8) q p3) (hm_rf 0 9) q p4 0 11 = nI M.1.length := by
      rw [pl_up_ne (by decide), pl_up_ne (by decide), pl_up_ne (by decide)]
      exact h1
    rw [e11, pm_stt (a := hm_rf 0 10) (n := 1024) (by decide) hlen (by decide), Option.bind_some]
    simp only [hb_nm]
    refine ⟨_, rfl, ⟨?_, ?_, ?_, ?_⟩, ⟨?_, ?_⟩⟩
    · simp [hb_up, upd, hm_rf, h1, nI_1]
    · intro j x hj
      dsimp only at hj
      by_cases hjl : j < M.1.length
      · rw [List.getElem?_append_left hjl] at hj
        have := h2 j x hj
        have hne : j ≠ M.1.length := by omega
        simp [hb_up, upd, hm_rf, hne, this]
      · rw [List.getElem?_append_right (by omega)] at hj
        have h0 : j - M.1.length = 0 := by
          have := (List.getElem?_eq_some_iff.mp hj).1
          simp at this
          omega
        rw [h0] at hj
        have hx : q = x := by simpa using hj
        have hje : j = M.1.length := by omega
        simp [hb_up, upd, hm_rf, hje, hx]
    · intro x hx
      dsimp only
      by_cases hxq : x = q
      · subst hxq
        simp [hb_up, upd, hm_rf]
      · have h6 := h3 x hx
        simp [hb_up, upd, hm_rf, hxq, h6]
    · intro x hx hdx
      dsimp only at hx hdx ⊢
      by_cases hxq : x = q
      · subst hxq
        simp only [if_true] at hdx ⊢
        obtain ⟨e1, e2⟩ := hd hdx
        simp [hb_up, upd, hm_rf, e1, e2]
      · simp only [if_neg hxq] at hdx ⊢
        have hx' : x ∈ M.1 := by
          rcases List.mem_append.mp hx with h | h
          · exact h
          · rw [List.mem_singleton] at h; exact absurd h hxq
        obtain ⟨e1, e2⟩ := h4 x hx' hdx
        simp [hb_up, upd, hm_rf, hxq, e1, e2]
    · intro c a1 a2 a3 a4 a5
      simp [hb_up, hm_rf, a1, a2, a3, a4, a5]
    · intro j hj
      simp [hb_up, upd, hm_rf, hj]
theorem pm_choices {n i q : Nat} {B : Nat → Int32} {S : List Nat} {μ : hb_Mem} {M : pb_M} (h : pl_WB n B) (hB : μ 1 = B) (hM : pb_ok (pg_nx B) (32 * n) S i M) (hi : M.1[i]? = some q) (hR : pm_R μ M) (i1 : Int32) : ∃ μ', ll_X6_spreads_19 0 i1 (nI q) (0, μ) = some μ' ∧ pm_R μ' (pb_row (pg_nx B) M q) ∧ pm_fp μ μ' := by
  have hn := h.1
  have hN : ∀ x c z, x < 32 * n → pg_nx B x c = some z → z < 32 * n := fun x c z hx hz => pg_nx_lt h hx hz
  have hcs := pb_cs_ok hN hM hi
  have hq : q < 32 * n := hM.2.1 q (List.mem_of_getElem? hi)
  unfold ll_X6_spreads_19
  refine pl_inv 3 (fun c s => s.1 = nI c ∧ pm_R s.2 (pb_cs (pg_nx B) M q c) ∧ pm_fp μ s.2) (fun t => pm_R t (pb_row (pg_nx B) M q) ∧ pm_fp μ t) ⟨rfl, hR, pm_fp.rf μ⟩ ?_ ?_ (by rw [pl_F]; omega)
  · intro c s hc ⟨e1, e2, e3⟩
    obtain ⟨s1, τ⟩ := s
    dsimp only at e1 e2 e3
    subst e1
    left
    obtain ⟨k1, k2⟩ := hcs c (by omega)
    have hB' : τ 1 = B := e3.s.trans hB
    have hW : pl_WB n (τ 1) := by rw [hB']; exact h
    unfold lb_X6_spreads_19
    rw [if_neg (by show ¬ nI 3 ≤ nI c; rw [nI_leI (by omega) (by omega)]; omega), pm_behind hW hq hc, Option.bind_some, hB']
    unfold jn_X6_spreads_55
    simp only [hb_nm, nI_1]
    cases hz : pg_nx B q c with
    | none =>
      dsimp only
      rw [if_pos rfl]
      refine ⟨_, rfl, rfl, ?_, e3⟩
      rw [pb_cs]
      unfold pb_c
      rw [hz]
      exact e2
    | some z =>
      dsimp only
      have hqm : q ∈ (pb_cs (pg_nx B) M q c).1 := List.mem_of_getElem? k2
      have hzl := hN q c z hq hz
      have hd := k1.lt (by omega)
      rw [if_neg (pl_ne_neg (by omega) (by decide)), pm_ld (a := hm_rf 0 7) (n := 1024) (by decide) (by omega) (by decide), Option.bind_some, show τ (hm_rf 0 7) q = τ 5 q from rfl, e2.2.2.1 q (by omega), if_pos hqm, nI_1]
      obtain ⟨τ', f1, f2, f3⟩ := pm_add (q := z) (d := (pb_cs (pg_nx B) M q c).2.1 q + 1) (f := q) (b := c) (p3 := nI q) (p4 := nI c) e2 hd (by omega) (fun hm => k1.new (by omega) hzl hm) (fun _ => ⟨rfl, rfl⟩)
      rw [f1, Option.bind_some]
      refine ⟨_, rfl, rfl, ?_, e3.tr f3⟩
      rw [pb_cs]
      unfold pb_c
      rw [hz]
      exact f2
  · intro s ⟨e1, e2, e3⟩
    obtain ⟨s1, τ⟩ := s
    dsimp only at e1 e2 e3
    subst e1
    unfold lb_X6_spreads_19
    rw [if_pos (by show nI 3 ≤ nI 3; exact Int32.le_refl _)]
    exact ⟨τ, rfl, e2, e3⟩
/-- spreading from any starts -/
theorem pm_spreads {n : Nat} {B : Nat → Int32} {S : List Nat} {μ : hb_Mem} {M : pb_M} (h : pl_WB n B) (hB : μ 1 = B) (hM : pb_ok (pg_nx B) (32 * n) S 0 M) (hR : pm_R μ M) : ∃ μ', fn_X6_spreads 0 μ = some μ' ∧ pm_R μ' (pb_fin (pg_nx B) M) ∧ pm_fp μ μ' := by
  have hn2 := h.1
  have hN : ∀ x c z, x < 32 * n → pg_nx B x c = some z → z < 32 * n := fun x c z hx hz => pg_nx_lt h hx hz
  have hit := pb_it_ok hN hM
  unfold fn_X6_spreads ll_X6_spreads_2
  obtain ⟨t, g1, g2, g3⟩ := pl_inv (f := fun s => lb_X6_spreads_2 0 s.1 s.2) (s := (0, μ)) 1024 (fun i s => s.1 = nI i ∧ pm_R s.2 (pb_it (pg_nx B) M i) ∧ pm_fp μ s.2) (fun t => pm_R t (pb_fin (pg_nx B) M) ∧ pm_fp μ t) ⟨rfl, hR, pm_fp.rf μ⟩ (by
    intro i s hi ⟨e1, e2, e3⟩
    obtain ⟨s1, τ⟩ := s
    dsimp only at e1 e2 e3
    subst e1
    have hi1 := hit i
    have hlen := pb_len (32 * n) _ hi1.1 hi1.2.1
    show (∃ s', lb_X6_spreads_2 0 (nI i) τ = some (.inl s') ∧ _) ∨ ∃ t, lb_X6_spreads_2 0 (nI i) τ = some (.inr t) ∧ _
    unfold lb_X6_spreads_2
    rw [e2.1]
    by_cases hil : (pb_it (pg_nx B) M i).1.length ≤ i
    · right
      rw [if_pos (by rw [nI_leI (by omega) (by omega)]; exact hil)]
      refine ⟨τ, rfl, ?_, e3⟩
      rw [pb_fin_of (by omega) hil] at e2
      exact e2
    · left
      obtain ⟨q, hq⟩ : ∃ q, (pb_it (pg_nx B) M i).1[i]? = some q := ⟨_, List.getElem?_eq_getElem (by omega)⟩
      rw [if_neg (by rw [nI_leI (by omega) (by omega)]; exact hil), pm_ld (a := hm_rf 0 10) (n := 1024) (by decide) hi (by decide), Option.bind_some, show τ (hm_rf 0 10) i = τ 8 i from rfl, e2.2.1 i q hq]
      obtain ⟨τ', k1, k2, k3⟩ := pm_choices h (e3.s.trans hB) hi1 hq e2 (nI i)
      rw [k1, Option.bind_some]
      simp only [hb_nm, nI_1]
      refine ⟨_, rfl, rfl, ?_, e3.tr k3⟩
      rw [pb_it, hq]
      exact k2) (by
    intro s ⟨e1, e2, e3⟩
    obtain ⟨s1, τ⟩ := s
    dsimp only at e1 e2 e3
    subst e1
    have hi1 := hit 1024
    have hlen := pb_len (32 * n) _ hi1.1 hi1.2.1
    show ∃ t, lb_X6_spreads_2 0 (nI 1024) τ = some (.inr t) ∧ _
    unfold lb_X6_spreads_2
    rw [e2.1, if_pos (by rw [nI_leI (by omega) (by omega)]; omega)]
    exact ⟨τ, rfl, e2, e3⟩) (by rw [pl_F]; omega)
  rw [g1, Option.bind_some]
  exact ⟨t, rfl, g2, g3⟩
theorem pm_forgets (μ : hb_Mem) : ∃ μ', fn_X6_forgets 0 μ = some μ' ∧ pm_R μ' ([], fun _ => 0, fun _ => 0, fun _ => 0) ∧ pm_fp μ μ' := by
  unfold fn_X6_forgets ll_X6_forgets_2
  rw [pl_for (st := fun i => (nI i, pl_blk μ 5 i (fun _ => 9999))) (s := (0, μ)) (t := pl_blk μ 5 1024 (fun _ => 9999)) 1024]
  · rw [Option.bind_some]
    simp only [hb_nm]
    refine ⟨_, rfl, ⟨?_, fun j x hj => by simp at hj, fun x hx => ?_, fun x hx => by simp at hx⟩, ⟨fun c a1 a2 a3 a4 a5 => ?_, fun j hj => ?_⟩⟩
    · rw [pl_up_same]; rfl
    · rw [pl_up_ne (by decide), pl_blk_eq hx]; simp
    · rw [hb_up_ne a1, pl_blk_ne a2]
    · rw [pl_up_other hj, pl_blk_ne (by decide)]
  · rw [pl_blk_0]; rfl
  · intro i hi
    unfold lb_X6_forgets_2
    dsimp only
    rw [if_neg (by show ¬ nI 1024 ≤ nI i; rw [nI_leI (by omega) (by omega)]; omega), pm_stt (a := hm_rf 0 7) (n := 1024) (by decide) hi (by decide), Option.bind_some]
    simp only [hb_nm, nI_1]
    rw [show hm_rf 0 7 = 5 from rfl, pl_blk_s μ 5 i (fun _ => 9999)]
  · unfold lb_X6_forgets_2
    dsimp only
    rw [if_pos (by show nI 1024 ≤ nI 1024; exact Int32.le_refl _)]
  · rw [pl_F]; omega
/-- the places of a book, in both: none without a page -/
def pb_pl (n : Nat) (B : Nat → Int32) : pb_M := if n = 0 then ([], fun _ => 0, fun _ => 0, fun _ => 0) else pb_all B
theorem pm_reaches {n : Nat} {B : Nat → Int32} {μ : hb_Mem} (h : pl_WB n B) (hB : μ 1 = B) : ∃ μ', fn_X6_reaches 0 μ = some μ' ∧ pm_R μ' (pb_pl n B) ∧ pm_fp μ μ' := by
  have hn2 := h.1
  unfold fn_X6_reaches
  obtain ⟨x1, f1, f2, f3⟩ := pm_forgets μ
  have hB1 : x1 1 = B := f3.s.trans hB
  rw [f1, Option.bind_some, show (0 : Int32) = nI 0 from rfl, pm_ld (a := hm_rf 0 0) (n := 425) (by decide) (by decide) (by decide), Option.bind_some, show x1 (hm_rf 0 0) 0 = x1 1 0 from rfl, hB1, h.2.1]
  unfold pb_pl
  by_cases hn : n = 0
  · rw [if_pos hn, if_pos (by rw [nI_leI (by omega) (by omega)]; omega)]
    exact ⟨x1, rfl, f2, f3⟩
  · rw [if_neg hn, if_neg (by rw [nI_leI (by omega) (by omega)]; omega)]
    have hn0 : 0 < n := by omega
    have hc0 : pg_com B 0 0 < 32 := pg_com_lt h hn0 (by decide)
    have hfp : fn_X6_firstPlace 0 x1 = some (nI (pg_com B 0 0)) := by
      unfold fn_X6_firstPlace
      have := pm_coming (n := n) (μ := x1) (p := 0) (f := 0) (by rw [hB1]; exact h) hn0 (by decide)
      rw [show (0 : Int32) = nI 0 from rfl, this, hB1]
      rfl
    rw [hfp, Option.bind_some]
    obtain ⟨x4, g1, g2, g3⟩ := pm_add (q := pg_com B 0 0) (d := 0) (f := 0) (b := 0) (p3 := -5) (p4 := -5) f2 (fun x hx => by cases hx) (by omega) (fun _ => by show (0 : Nat) < 1024; decide) (fun hd => by omega)
    rw [g1, Option.bind_some]
    obtain ⟨x5, k1, k2, k3⟩ := pm_spreads h ((g3.s).trans hB1) (pb_start_ok h hn0) g2
    rw [k1, Option.bind_some]
    exact ⟨x5, rfl, k2, (f3.tr g3).tr k3⟩
