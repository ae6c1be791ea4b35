/-! both sides find their places breadth first -/
def pb_cs (nx : Nat → Nat → Option Nat) (M : pb_M) (q : Nat) : Nat → pb_M
  | 0 => M
  | c + 1 => pb_c nx (pb_cs nx M q c) q c
theorem pb_cs_ok {nx : Nat → Nat → Option Nat} {N : Nat} {S : List Nat} {i q : Nat} {M : pb_M} (hN : ∀ x c z, x < N → nx x c = some z → z < N) (h : pb_ok nx N S i M) (hi : M.1[i]? = some q) : ∀ c, c ≤ 3 → pb_ok nx N S i (pb_cs nx M q c) ∧ (pb_cs nx M q c).1[i]? = some q
  | 0, _ => ⟨h, hi⟩
  | c + 1, hc => by
    obtain ⟨h1, h2⟩ := pb_cs_ok hN h hi c (by omega)
    obtain ⟨h3, h4, -⟩ := pb_c_ok (c := c) hN h1 h2 (by omega)
    exact ⟨h3, h4⟩
theorem pb_row_cs (nx : Nat → Nat → Option Nat) (M : pb_M) (q : Nat) : pb_row nx M q = pb_cs nx M q 3 := rfl
theorem pb_ok.lt {nx : Nat → Nat → Option Nat} {N i : Nat} {S : List Nat} {M : pb_M} (h : pb_ok nx N S i M) (hN : N ≤ 1024) : ∀ x, x ∈ M.1 → M.2.1 x < 1024 := by
  intro x hx
  obtain ⟨j, hj⟩ := List.getElem?_of_mem hx
  have h1 := h.2.2.2.1 j x hj
  have h2 := (List.getElem?_eq_some_iff.mp hj).1
  have h3 := pb_len N _ h.1 h.2.1
  omega
theorem pb_ok.new {nx : Nat → Nat → Option Nat} {N i q : Nat} {S : List Nat} {M : pb_M} (h : pb_ok nx N S i M) (hN : N ≤ 1024) (hq : q < N) (hm : q ∉ M.1) : M.1.length < 1024 := by
  have h3 := pb_len N (q :: M.1) (List.nodup_cons.mpr ⟨hm, h.1⟩) (fun x hx => by
    rcases List.mem_cons.mp hx with rfl | hx
    · exact hq
    · exact h.2.1 x hx)
  rw [List.length_cons] at h3
  omega
-- the class
def pc_R (σ : hb_Mem) (M : pb_M) : Prop := σ 147 2 = nI M.1.length ∧ (∀ j x : Nat, M.1[j]? = some x → σ 149 j = nI x) ∧ (∀ x, x < 1024 → σ 151 x = if x ∈ M.1 then nI (M.2.1 x) else -1) ∧ (∀ x, x ∈ M.1 → 0 < M.2.1 x → σ 153 x = nI (M.2.2.1 x) ∧ σ 155 x = nI (M.2.2.2 x)) ∧ ∀ x, x ∈ M.1 → σ 157 x = 0
def pc_fp (σ σ' : hb_Mem) : Prop := (∀ c, c ≠ 147 → c ≠ 149 → c ≠ 151 → c ≠ 153 → c ≠ 155 → c ≠ 157 → σ' c = σ c) ∧ ∀ j, j ≠ 2 → σ' 147 j = σ 147 j
theorem pc_fp.rf (σ : hb_Mem) : pc_fp σ σ := ⟨fun _ _ _ _ _ _ _ => rfl, fun _ _ => rfl⟩
theorem pc_fp.tr {a b c : hb_Mem} (h1 : pc_fp a b) (h2 : pc_fp b c) : pc_fp a c := ⟨fun x a1 a2 a3 a4 a5 a6 => (h2.1 x a1 a2 a3 a4 a5 a6).trans (h1.1 x a1 a2 a3 a4 a5 a6), fun j hj => (h2.2 j hj).trans (h1.2 j hj)⟩
theorem pc_reached {σ : hb_Mem} {M : pb_M} (hR : pc_R σ M) (hd : ∀ x, x ∈ M.1 → M.2.1 x < 1024) {q : Nat} (hq : q < 1024) : fn_X3_isReached 147 (nI q) σ = some (if q ∈ M.1 then 1 else 0) := by
  unfold fn_X3_isReached
  rw [pl_at (r := hc_rf 147 4) (a := 151) (n := 1024) (by decide) hq, Option.bind_some, hR.2.2.1 q hq]
  by_cases hm : q ∈ M.1
  · rw [if_pos hm, if_pos hm, if_neg (pl_ne_neg (by have := hd q hm; omega) (by decide))]
  · rw [if_neg hm, if_neg hm, if_pos rfl]
theorem pc_add {σ : hb_Mem} {M : pb_M} {q d f b : Nat} {p3 p4 : Int32} (hR : pc_R σ M) (hdl : ∀ x, x ∈ M.1 → M.2.1 x < 1024) (hq : q < 1024) (hl : q ∉ M.1 → M.1.length < 1024) (hd : 0 < d → p3 = nI f ∧ p4 = nI b) : ∃ σ', fn_X3_addPlace 147 (nI q) (nI d) p3 p4 σ = some σ' ∧ pc_R σ' (pb_add M q d f b) ∧ pc_fp σ σ' := by
  unfold fn_X3_addPlace pb_add
  rw [pc_reached hR hdl hq, Option.bind_some]
  by_cases hm : q ∈ M.1
  · rw [if_pos hm, if_pos hm, if_neg (by decide)]
    exact ⟨σ, rfl, hR, pc_fp.rf σ⟩
  · have hlen := hl hm
    obtain ⟨h1, h2, h3, h4, h5⟩ := hR
    rw [if_neg hm, if_neg hm, if_pos rfl, h1, if_pos (by show nI M.1.length < nI 1024; rw [nI_ltI (by omega) (by omega)]; exact hlen)]
    rw [pl_put (r := hc_rf 147 3) (a := 149) (n := 1024) (by decide) hlen, Option.bind_some]
    simp only [hb_nm]
    rw [pl_put (r := hc_rf 147 4) (a := 151) (n := 1024) (by decide) hq, Option.bind_some, pl_put (r := hc_rf 147 5) (a := 153) (n := 1024) (by decide) hq, Option.bind_some, pl_put (r := hc_rf 147 6) (a := 155) (n := 1024) (by decide) hq, Option.bind_some, pl_put (r := hc_rf 147 7) (a := 157) (n := 1024) (by decide) hq, Option.bind_some]
    refine ⟨_, rfl, ⟨?_, ?_, ?_, ?_, ?_⟩, ⟨?_, ?_⟩⟩
    · simp [hb_up, upd, h1, nI_1]
    · intro j x hj
      dsimp only at hj
      by_cases hjl : j < M.1.length
      · rw [List.getElem?_append_left hjl] at hj
        have := h2 j x hj
        have hne : j ≠ M.1.length := by omega
        simp [hb_up, upd, hne, this]
      · rw [List.getElem?_append_right (by omega)] at hj
        have h0 : j - M.1.length = 0 := by
          have := (List.getElem?_eq_some_iff.mp hj).1
          simp at this
          omega
        rw [h0] at hj
        have hx : q = x := by simpa using hj
        have hje : j = M.1.length := by omega
        simp [hb_up, upd, hje, hx]
    · intro x hx
      dsimp only
      by_cases hxq : x = q
      · subst hxq
        simp [hb_up, upd]
      · have h6 := h3 x hx
        simp [hb_up, upd, hxq, h6]
    · intro x hx hdx
      dsimp only at hx hdx ⊢
      by_cases hxq : x = q
      · subst hxq
        simp only [if_true] at hdx ⊢
        obtain ⟨e1, e2⟩ := hd hdx
        simp [hb_up, upd, e1, e2]
      · simp only [if_neg hxq] at hdx ⊢
        have hx' : x ∈ M.1 := by
          rcases List.mem_append.mp hx with h | h
          · exact h
          · rw [List.mem_singleton] at h; exact absurd h hxq
        obtain ⟨e1, e2⟩ := h4 x hx' hdx
        simp [hb_up, upd, hxq, e1, e2]
    · intro x hx
      dsimp only at hx
      by_cases hxq : x = q
      · subst hxq
        simp [hb_up, upd]
      · have hx' : x ∈ M.1 := by
          rcases List.mem_append.mp hx with h | h
          · exact h
          · rw [List.mem_singleton] at h; exact absurd h hxq
        have e1 := h5 x hx'
        simp [hb_up, upd, hxq, e1]
    · intro c a1 a2 a3 a4 a5 a6
      simp [hb_up, a1, a2, a3, a4, a5, a6]
    · intro j hj
      simp [hb_up, upd, hj]
/-- the choices of one place -/
theorem pc_choices {n i q : Nat} {B : Nat → Int32} {S : List Nat} {σ : hb_Mem} {M : pb_M} (h : pl_WB n B) (hr : pl_RS σ 1 n B) (hM : pb_ok (pg_nx B) (32 * n) S i M) (hi : M.1[i]? = some q) (hR : pc_R σ M) (i2 : Int32) : ∃ σ', ll_X3_findPlaces_68 147 1 i2 (nI q) (pg_set3 (pg_op B q 0) (pg_op B q 1) (pg_op B q 2)) (0, σ) = some σ' ∧ pc_R σ' (pb_row (pg_nx B) M q) ∧ pc_fp σ σ' := by
  have hn := h.1
  have hN : ∀ x c z, x < 32 * n → pg_nx B x c = some z → z < 32 * n := fun x c z hx hz => pg_nx_lt h hx hz
  have hcs := pb_cs_ok hN hM hi
  have hq : q < 32 * n := hM.2.1 q (List.mem_of_getElem? hi)
  unfold ll_X3_findPlaces_68
  refine pl_inv 3 (fun c s => s.1 = nI c ∧ pc_R s.2 (pb_cs (pg_nx B) M q c) ∧ pc_fp σ s.2) (fun t => pc_R t (pb_row (pg_nx B) M q) ∧ pc_fp σ t) ⟨rfl, hR, pc_fp.rf σ⟩ ?_ ?_ (by rw [pl_F]; omega)
  · intro c s hc ⟨e1, e2, e3⟩
    obtain ⟨s1, τ⟩ := s
    dsimp only at e1 e2 e3
    subst e1
    left
    obtain ⟨k1, k2⟩ := hcs c (by omega)
    have hr' : pl_RS τ 1 n B := hr.congr (fun c h1 h2 => e3.1 c (by omega) (by omega) (by omega) (by omega) (by omega) (by omega))
    unfold lb_X3_findPlaces_68
    rw [if_neg (by show ¬ nI 3 ≤ nI c; rw [nI_leI (by omega) (by omega)]; omega), pc_isIn3 (pg_op B q) hc, Option.bind_some]
    unfold jn_X3_findPlaces_112
    simp only [hb_nm, nI_1]
    by_cases ho : pg_op B q c = true
    · rw [if_pos ho, if_neg (by decide)]
      have hnx : ∃ z, pg_nx B q c = some z := by
        unfold pg_nx
        rw [if_pos (of_decide_eq_true ho)]
        exact ⟨_, rfl⟩
      obtain ⟨z, hz⟩ := hnx
      have hqm : q ∈ (pb_cs (pg_nx B) M q c).1 := List.mem_of_getElem? k2
      have hzl := hN q c z hq hz
      have hd := k1.lt (by omega)
      rw [pc_nx (by decide) h hr' hq hz, Option.bind_some, pl_at (r := hc_rf 147 4) (a := 151) (n := 1024) (by decide) (by omega), Option.bind_some, e2.2.2.1 q (by omega), if_pos hqm, nI_1]
      obtain ⟨τ', f1, f2, f3⟩ := pc_add (q := z) (d := (pb_cs (pg_nx B) M q c).2.1 q + 1) (f := q) (b := c) (p3 := nI q) (p4 := nI c) e2 hd (by omega) (fun hm => k1.new (by omega) hzl hm) (fun _ => ⟨rfl, rfl⟩)
      rw [f1, Option.bind_some]
      refine ⟨_, rfl, rfl, ?_, e3.tr f3⟩
      rw [pb_cs]
      unfold pb_c
      rw [hz]
      exact f2
    · rw [if_neg ho, if_pos rfl]
      refine ⟨_, rfl, rfl, ?_, e3⟩
      rw [pb_cs]
      have hnx : pg_nx B q c = none := by
        unfold pg_nx
        rw [if_neg (fun hw => ho (decide_eq_true hw))]
      unfold pb_c
      rw [hnx]
      exact e2
  · intro s ⟨e1, e2, e3⟩
    obtain ⟨s1, τ⟩ := s
    dsimp only at e1 e2 e3
    subst e1
    unfold lb_X3_findPlaces_68
    rw [if_pos (by show nI 3 ≤ nI 3; exact Int32.le_refl _)]
    exact ⟨τ, rfl, e2, e3⟩
/-- the graph's first place, and the start -/
def pb_start (B : Nat → Int32) : pb_M := pb_add ([], fun _ => 0, fun _ => 0, fun _ => 0) (pg_com B 0 0) 0 0 0
def pb_all (B : Nat → Int32) : pb_M := pb_fin (pg_nx B) (pb_start B)
theorem pb_start_ok {n : Nat} {B : Nat → Int32} (h : pl_WB n B) (hn : 0 < n) : pb_ok (pg_nx B) (32 * n) (pb_start B).1 0 (pb_start B) := (pb_add_ok (pb_nil_ok _ _ _) (fun x hx => by cases hx) (by have := pg_com_lt h hn (show 0 < 32 by omega); omega)).1
theorem pc_places {n : Nat} {B : Nat → Int32} {σ : hb_Mem} (h : pl_WB n B) (hn : 0 < n) (hr : pl_RS σ 1 n B) : ∃ σ', fn_X3_findPlaces 147 1 σ = some σ' ∧ pc_R σ' (pb_all B) ∧ pc_fp σ σ' := by
  have hn2 := h.1
  have hN : ∀ x c z, x < 32 * n → pg_nx B x c = some z → z < 32 * n := fun x c z hx hz => pg_nx_lt h hx hz
  have hok := pb_start_ok h hn
  have hit := pb_it_ok hN hok
  unfold fn_X3_findPlaces
  simp only [hb_nm]
  rw [pl_fill (r := hc_rf 147 4) (a := 151) (n := 1024) (by decide), Option.bind_some]
  obtain ⟨x2, hx2⟩ : ∃ x, x = pl_blk (hb_up σ 147 2 0) 151 1024 (fun _ => -1) := ⟨_, rfl⟩
  rw [← hx2]
  have hf0 : pc_fp σ x2 := by
    rw [hx2]
    refine ⟨fun c a1 a2 a3 a4 a5 a6 => ?_, fun j hj => ?_⟩
    · rw [pl_blk_ne a3, hb_up_ne a1]
    · rw [pl_blk_ne (by decide), pl_up_other hj]
  have hR0 : pc_R x2 ([], fun _ => 0, fun _ => 0, fun _ => 0) := by
    rw [hx2]
    refine ⟨?_, fun j x hj => by simp at hj, fun x hx => ?_, fun x hx => by simp at hx, fun x hx => by simp at hx⟩
    · rw [pl_blk_ne (by decide), pl_up_same]; rfl
    · rw [pl_blk_eq hx]; simp
  have hr0 : pl_RS x2 1 n B := hr.congr (fun c h1 h2 => hf0.1 c (by omega) (by omega) (by omega) (by omega) (by omega) (by omega))
  rw [hr0.1, if_neg (by rw [pl_eq0 (by omega)]; omega)]
  have hc0 : pg_com B 0 0 < 32 := pg_com_lt h hn (by decide)
  have hfp : fn_X2_firstPlace 1 x2 = some (nI (pg_com B 0 0)) := by
    unfold fn_X2_firstPlace
    have := pc_com (k := 1) (p := 0) (f := 0) (by decide) h hr0 hn (by decide)
    rw [Nat.mul_zero, Nat.zero_add] at this
    rw [show (0 : Int32) = nI 0 from rfl, this]
    rfl
  rw [hfp, Option.bind_some]
  obtain ⟨x4, f1, f2, f3⟩ := pc_add (q := pg_com B 0 0) (d := 0) (f := 0) (b := 0) (p3 := -1) (p4 := -1) hR0 (fun x hx => by cases hx) (by omega) (fun _ => by show (0 : Nat) < 1024; decide) (fun hd => by omega)
  rw [show (0 : Int32) = nI 0 from rfl, f1, Option.bind_some]
  have hfr := hf0.tr f3
  unfold ll_X3_findPlaces_34
  obtain ⟨t, g1, g2, g3⟩ := pl_inv (f := fun s => lb_X3_findPlaces_34 147 1 s.1 s.2) (s := (nI 0, x4)) 1024 (fun i s => s.1 = nI i ∧ pc_R s.2 (pb_it (pg_nx B) (pb_start B) i) ∧ pc_fp σ s.2) (fun t => pc_R t (pb_all B) ∧ pc_fp σ t) ⟨rfl, f2, hfr⟩ (by
    intro i s hi ⟨e1, e2, e3⟩
    obtain ⟨s1, τ⟩ := s
    dsimp only at e1 e2 e3
    subst e1
    have hi1 := hit i
    have hr' : pl_RS τ 1 n B := hr.congr (fun c h1 h2 => e3.1 c (by omega) (by omega) (by omega) (by omega) (by omega) (by omega))
    have hlen := pb_len (32 * n) _ hi1.1 hi1.2.1
    show (∃ s', lb_X3_findPlaces_34 147 1 (nI i) τ = some (.inl s') ∧ _) ∨ ∃ t, lb_X3_findPlaces_34 147 1 (nI i) τ = some (.inr t) ∧ _
    unfold lb_X3_findPlaces_34
    rw [e2.1]
    by_cases hil : (pb_it (pg_nx B) (pb_start B) i).1.length ≤ i
    · right
      rw [if_pos (by rw [nI_leI (by omega) (by omega)]; exact hil)]
      refine ⟨τ, rfl, ?_, e3⟩
      rw [pb_fin_of (by omega) hil] at e2
      exact e2
    · left
      obtain ⟨q, hq⟩ : ∃ q, (pb_it (pg_nx B) (pb_start B) i).1[i]? = some q := ⟨_, List.getElem?_eq_getElem (by omega)⟩
      have hqN := hi1.2.1 q (List.mem_of_getElem? hq)
      rw [if_neg (by rw [nI_leI (by omega) (by omega)]; exact hil), if_neg (by show ¬ nI 1024 ≤ nI i; rw [nI_leI (by omega) (by omega)]; omega), pl_at (r := hc_rf 147 3) (a := 149) (n := 1024) (by decide) hi, Option.bind_some, e2.2.1 i q hq, pc_open (by decide) h hr' hqN, Option.bind_some]
      obtain ⟨τ', k1, k2, k3⟩ := pc_choices h hr' hi1 hq e2 (nI i)
      rw [k1, Option.bind_some]
      simp only [hb_nm, nI_1]
      refine ⟨_, rfl, rfl, ?_, e3.tr k3⟩
      rw [pb_it, hq]
      exact k2) (by
    intro s ⟨e1, e2, e3⟩
    obtain ⟨s1, τ⟩ := s
    dsimp only at e1 e2 e3
    subst e1
    have hi1 := hit 1024
    have hlen := pb_len (32 * n) _ hi1.1 hi1.2.1
    show ∃ t, lb_X3_findPlaces_34 147 1 (nI 1024) τ = some (.inr t) ∧ _
    unfold lb_X3_findPlaces_34
    rw [e2.1, if_pos (by rw [nI_leI (by omega) (by omega)]; omega)]
    exact ⟨τ, rfl, e2, e3⟩) (by rw [pl_F]; omega)
  rw [g1, Option.bind_some]
  exact ⟨t, rfl, g2, g3⟩
/-- the places of a book, in both: none without a page -/
def pb_pl (n : Nat) (B : Nat → Int32) : pb_M := if n = 0 then ([], fun _ => 0, fun _ => 0, fun _ => 0) else pb_all B
