/-! the class's survey, made: ends, the way, all of it -/
/-- the facts about the places of a book that all else rests on -/
def pb_good (nx : Nat → Nat → Option Nat) (n : Nat) (M : pb_M) : Prop := (∃ S, pb_ok nx (32 * n) S 1024 M) ∧ M.1.length ≤ 1024 ∧ ∀ x c z, x ∈ M.1 → c < 3 → nx x c = some z → z ∈ M.1
theorem pb_pl_good {n : Nat} {B : Nat → Int32} (h : pl_WB n B) : pb_good (pg_nx B) n (pb_pl n B) := by
  have hn := h.1
  unfold pb_pl
  by_cases h0 : n = 0
  · rw [if_pos h0]
    have hok := pb_nil_ok (nx := pg_nx B) (N := 32 * n) (fun _ => 0) (fun _ => 0) (fun _ => 0)
    have hit := pb_it_ok (fun x c z hx hz => pg_nx_lt h hx hz) hok 1024
    refine ⟨⟨[], ?_⟩, Nat.zero_le _, fun x c z hx => by cases hx⟩
    have he : pb_it (pg_nx B) ([], fun _ => 0, fun _ => 0, fun _ => 0) 1024 = ([], fun _ => 0, fun _ => 0, fun _ => 0) := by
      have := pb_it_stop (nx := pg_nx B) (M := ([], fun _ => 0, fun _ => 0, fun _ => 0)) (i := 0) (Nat.le_refl 0) 1024
      rw [Nat.zero_add] at this
      exact this
    rw [he] at hit
    exact hit
  · rw [if_neg h0]
    have := pb_fin_ok (fun x c z hx hz => pg_nx_lt h hx hz) (by omega) (pb_start_ok h (by omega))
    exact ⟨⟨_, this.1⟩, this.2.1, this.2.2⟩
theorem pb_good.lt {nx : Nat → Nat → Option Nat} {n : Nat} {M : pb_M} (h : pb_good nx n M) {x : Nat} (hx : x ∈ M.1) : x < 32 * n := by
  obtain ⟨⟨S, hS⟩, -⟩ := h
  exact hS.2.1 x hx
theorem pb_good.d {nx : Nat → Nat → Option Nat} {n : Nat} {M : pb_M} (h : pb_good nx n M) {x : Nat} (hx : x ∈ M.1) : M.2.1 x < 1024 := by
  obtain ⟨⟨S, hS⟩, h2, -⟩ := h
  obtain ⟨j, hj⟩ := List.getElem?_of_mem hx
  have h1 := hS.2.2.2.1 j x hj
  have h3 := (List.getElem?_eq_some_iff.mp hj).1
  omega
/-- back along the way, so many choices -/
def pw_up (M : pb_M) : Nat → Nat → Nat
  | 0, x => x
  | k + 1, x => M.2.2.1 (pw_up M k x)
theorem pw_up_ok {nx : Nat → Nat → Option Nat} {n : Nat} {M : pb_M} (h : pb_good nx n M) {g : Nat} (hg : g ∈ M.1) : ∀ k, k ≤ M.2.1 g → pw_up M k g ∈ M.1 ∧ M.2.1 (pw_up M k g) + k = M.2.1 g
  | 0, _ => ⟨hg, rfl⟩
  | k + 1, hk => by
    obtain ⟨h1, h2⟩ := pw_up_ok h hg k (by omega)
    obtain ⟨⟨S, hS⟩, -⟩ := h
    obtain ⟨p1, p2, -⟩ := hS.2.2.2.2.2.2.2.1 (pw_up M k g) h1 (by omega)
    exact ⟨p1, by show M.2.1 (M.2.2.1 (pw_up M k g)) + (k + 1) = _; omega⟩
def pw_hap (B : Nat → Int32) (q : Nat) : Bool := decide (pl_m B (q / 32) = 0 ∧ ¬ B (1 + 13 * (q / 32)) ≤ 0)
/-- the first happy end come to -/
def pw_goal (B : Nat → Int32) (M : pb_M) : Option Nat := M.1.find? (pw_hap B)
/-- what the class's way row says -/
def pc_way (σ : hb_Mem) (B : Nat → Int32) (M : pb_M) : Prop := match pw_goal B M with
  | none => σ 147 10 = -1
  | some g => σ 147 10 = nI (M.2.1 g) ∧ ∀ t, t ≤ M.2.1 g → σ 159 (M.2.1 g - t) = nI (pw_up M t g)
/-- the rows that the search for places left -/
def pc_rows (σ : hb_Mem) (M : pb_M) : Prop := σ 147 2 = nI M.1.length ∧ (∀ j x : Nat, M.1[j]? = some x → σ 149 j = nI x) ∧ (∀ x, x < 1024 → σ 151 x = if x ∈ M.1 then nI (M.2.1 x) else -1) ∧ ∀ x, x ∈ M.1 → 0 < M.2.1 x → σ 153 x = nI (M.2.2.1 x) ∧ σ 155 x = nI (M.2.2.2 x)
def pc_bits (σ : hb_Mem) (n : Nat) (B : Nat → Int32) : Prop := (∀ p, p < 32 → (bt (σ 147 8) p = true ↔ p < n ∧ pl_m B p = 0)) ∧ ∀ p, p < 32 → (bt (σ 147 9) p = true ↔ p < n ∧ pl_m B p = 0 ∧ ¬ B (1 + 13 * p) ≤ 0)
/-- the survey holds what it should -/
def pc_SV (σ : hb_Mem) (n : Nat) (B : Nat → Int32) (M : pb_M) : Prop := σ 147 1 = nI n ∧ pc_rows σ M ∧ pa_sound (pg_nx B) M.1 (σ 157) ∧ pa_full (pg_nx B) M.1 (σ 157) ∧ pc_bits σ n B ∧ pc_way σ B M
theorem pc_layWay {nx : Nat → Nat → Option Nat} {n : Nat} {σ : hb_Mem} {M : pb_M} {g : Nat} (hn : n ≤ 32) (hM : pb_good nx n M) (hR : pc_rows σ M) (hg : g ∈ M.1) : ∃ σ', fn_X3_layWay 147 (nI g) σ = some σ' ∧ (∀ c, c ≠ 147 → c ≠ 159 → σ' c = σ c) ∧ (∀ j, j ≠ 10 → σ' 147 j = σ 147 j) ∧ σ' 147 10 = nI (M.2.1 g) ∧ ∀ t, t ≤ M.2.1 g → σ' 159 (M.2.1 g - t) = nI (pw_up M t g) := by
  have hgl := hM.lt hg
  have hd := hM.d hg
  unfold fn_X3_layWay
  rw [pl_at (r := hc_rf 147 4) (a := 151) (n := 1024) (by decide) (by omega), Option.bind_some, hR.2.2.1 g (by omega), if_pos hg]
  simp only [hb_nm]
  rw [pl_up_same]
  unfold ll_X3_layWay_19
  have hd0 : nI (M.2.1 g) = pl_dn (M.2.1 g + 1) 0 := by
    unfold pl_dn
    rw [if_pos (by omega)]
    rfl
  rw [hd0]
  obtain ⟨t, g1, g2, g3, g4⟩ := pl_inv (f := fun s => lb_X3_layWay_19 147 (nI g) s.1 s.2.1 s.2.2) (s := (nI g, pl_dn (M.2.1 g + 1) 0, hb_up σ 147 10 (pl_dn (M.2.1 g + 1) 0))) (M.2.1 g + 1)
    (fun t s => s.2.1 = pl_dn (M.2.1 g + 1) t ∧ (t ≤ M.2.1 g → s.1 = nI (pw_up M t g)) ∧ (∀ c, c ≠ 159 → s.2.2 c = hb_up σ 147 10 (pl_dn (M.2.1 g + 1) 0) c) ∧ ∀ t', t' < t → s.2.2 159 (M.2.1 g - t') = nI (pw_up M t' g))
    (fun t => (∀ c, c ≠ 159 → t c = hb_up σ 147 10 (pl_dn (M.2.1 g + 1) 0) c) ∧ (∀ t', t' < M.2.1 g + 1 → t 159 (M.2.1 g - t') = nI (pw_up M t' g)) ∧ True)
    ⟨rfl, fun _ => rfl, fun _ _ => rfl, fun t' h => by omega⟩ (by
    intro t s ht ⟨e1, e2, e3, e4⟩
    obtain ⟨w2, w3, τ⟩ := s
    dsimp only at e1 e2 e3 e4
    subst e1
    left
    show ∃ s', lb_X3_layWay_19 147 (nI g) w2 (pl_dn (M.2.1 g + 1) t) τ = some (.inl s') ∧ _
    have hw := e2 (by omega)
    subst hw
    obtain ⟨u1, u2⟩ := pw_up_ok hM hg t (by omega)
    have hul := hM.lt u1
    have hdn : pl_dn (M.2.1 g + 1) t = nI (M.2.1 g - t) := by unfold pl_dn; rw [if_pos ht, show M.2.1 g + 1 - 1 - t = M.2.1 g - t by omega]
    unfold lb_X3_layWay_19
    rw [if_neg (pl_dn_ge ht (by omega)), hdn, pl_put (r := hc_rf 147 11) (a := 159) (n := 1024) (by decide) (by omega), Option.bind_some, pl_at (r := hc_rf 147 5) (a := 153) (n := 1024) (by decide) (by omega), Option.bind_some]
    simp only [hb_nm]
    refine ⟨_, rfl, ?_, fun ht2 => ?_, fun c hc => ?_, fun t' ht' => ?_⟩
    · show nI (M.2.1 g - t) + (-1) = _
      rw [← hdn]
      exact pl_dn_s ht
    · show hb_up τ 159 (M.2.1 g - t) (nI (pw_up M t g)) 153 (pw_up M t g) = nI (pw_up M (t + 1) g)
      rw [pl_up_ne (by decide), e3 153 (by decide), hb_up_ne (by decide)]
      exact (hR.2.2.2 _ u1 (by omega)).1
    · show hb_up τ 159 _ _ c = _
      rw [hb_up_ne hc]
      exact e3 c hc
    · show hb_up τ 159 (M.2.1 g - t) (nI (pw_up M t g)) 159 (M.2.1 g - t') = _
      by_cases htt : t' = t
      · rw [htt, pl_up_same]
      · rw [pl_up_other (by omega)]
        exact e4 t' (by omega)) (by
    intro s ⟨e1, e2, e3, e4⟩
    obtain ⟨w2, w3, τ⟩ := s
    dsimp only at e1 e2 e3 e4
    subst e1
    show ∃ t, lb_X3_layWay_19 147 (nI g) w2 (pl_dn (M.2.1 g + 1) (M.2.1 g + 1)) τ = some (.inr t) ∧ _
    unfold lb_X3_layWay_19
    rw [if_pos (pl_dn_end _)]
    exact ⟨τ, rfl, e3, e4, trivial⟩) (by rw [pl_F]; omega)
  rw [g1, Option.bind_some]
  refine ⟨t, rfl, fun c h1 h2 => ?_, fun j hj => ?_, ?_, fun t' ht' => g3 t' (by omega)⟩
  · rw [g2 c h2, hb_up_ne h1]
  · rw [g2 147 (by decide), pl_up_other hj]
  · rw [g2 147 (by decide), pl_up_same]
theorem pc_findWay {n : Nat} {B : Nat → Int32} {σ : hb_Mem} {M : pb_M} (h : pl_WB n B) (hM : pb_good (pg_nx B) n M) (hR : pc_rows σ M) (hb : ∀ p, p < 32 → (bt (σ 147 9) p = true ↔ p < n ∧ pl_m B p = 0 ∧ ¬ B (1 + 13 * p) ≤ 0)) : ∃ σ', fn_X3_findWay 147 σ = some σ' ∧ (∀ c, c ≠ 147 → c ≠ 159 → σ' c = σ c) ∧ (∀ j, j ≠ 10 → σ' 147 j = σ 147 j) ∧ pc_way σ' B M := by
  have hn := h.1
  have hlen := hM.2.1
  unfold fn_X3_findWay
  simp only [hb_nm]
  unfold ll_X3_findWay_7
  obtain ⟨t, g1, g2, g3, g4⟩ := pl_inv (f := fun s => lb_X3_findWay_7 147 s.1 s.2) (s := (0, hb_up σ 147 10 (-1))) (M.1.length + 1)
    (fun i s => (∀ c, c ≠ 147 → c ≠ 159 → s.2 c = σ c) ∧ (∀ j, j ≠ 10 → s.2 147 j = σ 147 j) ∧ ((s.1 = nI i ∧ i ≤ M.1.length ∧ s.2 147 10 = -1 ∧ ∀ j x : Nat, j < i → M.1[j]? = some x → pw_hap B x = false) ∨ (¬ s.2 147 10 = -1 ∧ pc_way s.2 B M)))
    (fun t => (∀ c, c ≠ 147 → c ≠ 159 → t c = σ c) ∧ (∀ j, j ≠ 10 → t 147 j = σ 147 j) ∧ pc_way t B M)
    ⟨fun c h1 _ => by show hb_up σ 147 10 (-1) c = _; exact hb_up_ne h1, fun j hj => by show hb_up σ 147 10 (-1) 147 j = _; exact pl_up_other hj, Or.inl ⟨rfl, Nat.zero_le _, by show hb_up σ 147 10 (-1) 147 10 = _; exact pl_up_same _ _ _ _, fun j x hj => by omega⟩⟩ (by
    intro i s hi ⟨e1, e2, e3⟩
    obtain ⟨w1, τ⟩ := s
    dsimp only at e1 e2 e3
    show (∃ s', lb_X3_findWay_7 147 w1 τ = some (.inl s') ∧ _) ∨ ∃ t, lb_X3_findWay_7 147 w1 τ = some (.inr t) ∧ _
    unfold lb_X3_findWay_7
    rw [e2 2 (by decide), hR.1]
    rcases e3 with ⟨e3, e4, e5, e6⟩ | ⟨e3, e4⟩
    · subst e3
      by_cases hil : M.1.length ≤ i
      · right
        rw [if_pos (by rw [nI_leI (by omega) (by omega)]; exact hil)]
        refine ⟨τ, rfl, e1, e2, ?_⟩
        have hnone : pw_goal B M = none := by
          unfold pw_goal
          rw [List.find?_eq_none]
          intro x hx
          obtain ⟨j, hj⟩ := List.getElem?_of_mem hx
          have hjl := (List.getElem?_eq_some_iff.mp hj).1
          rw [e6 j x (by omega) hj]
          decide
        unfold pc_way
        rw [hnone]
        exact e5
      · left
        obtain ⟨q, hq⟩ : ∃ q, M.1[i]? = some q := ⟨_, List.getElem?_eq_getElem (by omega)⟩
        have hqm := List.mem_of_getElem? hq
        have hql := hM.lt hqm
        have e149 : τ 149 = σ 149 := e1 149 (by decide) (by decide)
        rw [if_neg (by rw [nI_leI (by omega) (by omega)]; exact hil), if_pos e5, pl_at (r := hc_rf 147 3) (a := 149) (n := 1024) (by decide) (by omega), Option.bind_some, e149, hR.2.1 i q hq, pc_page (by omega), Option.bind_some, e2 9 (by decide), bt_isIn _ (by omega), Option.bind_some]
        unfold jn_X3_findWay_56
        simp only [hb_nm, nI_1]
        by_cases hh : bt (σ 147 9) (q / 32) = true
        · rw [if_pos hh, if_neg (by decide), Option.bind_some]
          have hR' : pc_rows τ M := by
            obtain ⟨r1, r2, r3, r4⟩ := hR
            exact ⟨by rw [e2 2 (by decide)]; exact r1, fun j x hj => by rw [e149]; exact r2 j x hj, fun x hx => by rw [e1 151 (by decide) (by decide)]; exact r3 x hx, fun x hx hd => by rw [e1 153 (by decide) (by decide), e1 155 (by decide) (by decide)]; exact r4 x hx hd⟩
          obtain ⟨τ', k1, k2, k3, k4, k5⟩ := pc_layWay hn hM hR' hqm
          have hd := hM.d hqm
          rw [k1, Option.bind_some]
          refine ⟨_, rfl, fun c h1 h2 => (k2 c h1 h2).trans (e1 c h1 h2), fun j hj => (k3 j hj).trans (e2 j hj), Or.inr ⟨?_, ?_⟩⟩
          · show ¬ τ' 147 10 = -1
            rw [k4]
            exact pl_ne_neg (by omega) (by decide)
          · have hgoal : pw_goal B M = some q := by
              unfold pw_goal
              rw [List.find?_eq_some_iff_getElem]
              refine ⟨decide_eq_true ((hb _ (by omega)).mp hh).2, i, by omega, ?_, fun j hj => ?_⟩
              · have := List.getElem?_eq_some_iff.mp hq
                exact this.2
              · have := e6 j _ hj (List.getElem?_eq_getElem (by omega))
                rw [this]
                rfl
            show pc_way τ' B M
            unfold pc_way
            rw [hgoal]
            exact ⟨k4, k5⟩
        · rw [if_neg hh, if_pos rfl]
          refine ⟨_, rfl, e1, e2, Or.inl ⟨rfl, by omega, e5, fun j x hj hx => ?_⟩⟩
          by_cases hji : j < i
          · exact e6 j x hji hx
          · have hje : j = i := by omega
            rw [hje, hq] at hx
            cases hx
            exact decide_eq_false (fun hc => hh ((hb _ (by omega)).mpr ⟨by omega, hc⟩))
    · right
      by_cases hil : nI M.1.length ≤ w1
      · rw [if_pos hil]
        exact ⟨τ, rfl, e1, e2, e4⟩
      · rw [if_neg hil, if_neg e3]
        exact ⟨τ, rfl, e1, e2, e4⟩) (by
    intro s ⟨e1, e2, e3⟩
    obtain ⟨w1, τ⟩ := s
    dsimp only at e1 e2 e3
    show ∃ t, lb_X3_findWay_7 147 w1 τ = some (.inr t) ∧ _
    unfold lb_X3_findWay_7
    rw [e2 2 (by decide), hR.1]
    rcases e3 with ⟨e3, e4, -⟩ | ⟨e3, e4⟩
    · omega
    · by_cases hil : nI M.1.length ≤ w1
      · rw [if_pos hil]
        exact ⟨τ, rfl, e1, e2, e4⟩
      · rw [if_neg hil, if_neg e3]
        exact ⟨τ, rfl, e1, e2, e4⟩) (by rw [pl_F]; omega)
  rw [g1, Option.bind_some]
  exact ⟨t, rfl, g2, g3, g4⟩

