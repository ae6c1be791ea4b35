/-! what the class answers out of its survey -/
/-- the sum of the first values -/
def ct : Nat → (Nat → Nat) → Nat
  | 0, _ => 0
  | i + 1, g => ct i g + g i
theorem ct_congr {g g' : Nat → Nat} : ∀ N, (∀ i, i < N → g i = g' i) → ct N g = ct N g'
  | 0, _ => rfl
  | N + 1, h => by
    show ct N g + g N = ct N g' + g' N
    rw [ct_congr N (fun i hi => h i (by omega)), h N (by omega)]
theorem ct_le {g : Nat → Nat} {b : Nat} : ∀ N, (∀ i, i < N → g i ≤ b) → ct N g ≤ N * b
  | 0, _ => by simp [ct]
  | N + 1, h => by
    show ct N g + g N ≤ (N + 1) * b
    have := ct_le N (fun i hi => h i (by omega))
    have := h N (by omega)
    rw [Nat.succ_mul]
    omega
theorem pl_sum {f : Int32 × Int32 → Option ((Int32 × Int32) ⊕ Int32)} (N : Nat) (g : Nat → Nat) (hstep : ∀ i a, i < N → f (a, nI i) = some (.inl (a + nI (g i), nI i + 1))) (hend : ∀ a, f (a, nI N) = some (.inr a)) (hN : N < hb_F) : hb_lp f hb_F (0, 0) = some (nI (ct N g)) :=
  pl_for N (fun i => (nI (ct i g), nI i)) rfl (fun i hi => by
    rw [hstep i _ hi, nI_1, nI_add]
    rfl) (hend _) hN
theorem any_succ (P : Nat → Bool) (N : Nat) : (List.range (N + 1)).any P = ((List.range N).any P || P N) := by
  rw [List.range_succ, List.any_append]
  simp
theorem pl_any {f : Int32 → Option (Int32 ⊕ (Unit ⊕ Unit))} (N : Nat) (P : Nat → Bool) (hstep : ∀ i, i < N → f (nI i) = if P i = true then some (.inr (.inl ())) else some (.inl (nI i + 1))) (hend : f (nI N) = some (.inr (.inr ()))) (hN : N < hb_F) : hb_lp f hb_F 0 = some (if (List.range N).any P = true then .inl () else .inr ()) := by
  obtain ⟨t, g1, g2⟩ := pl_inv (f := f) (s := (0 : Int32)) N (fun i s => s = nI i ∧ (List.range i).any P = false) (fun t => t = if (List.range N).any P = true then .inl () else .inr ()) ⟨rfl, rfl⟩ (by
    intro i s hi ⟨e1, e2⟩
    subst e1
    rw [hstep i hi]
    by_cases hP : P i = true
    · right
      rw [if_pos hP]
      refine ⟨_, rfl, ?_⟩
      rw [if_pos]
      exact List.any_eq_true.mpr ⟨i, List.mem_range.mpr hi, hP⟩
    · left
      rw [if_neg hP]
      refine ⟨_, rfl, by rw [nI_1], ?_⟩
      rw [any_succ, e2, Bool.not_eq_true _ |>.mp hP]
      rfl) (by
    intro s ⟨e1, e2⟩
    subst e1
    refine ⟨_, hend, ?_⟩
    rw [e2]
    rfl) hN
  rw [g1, g2]
theorem pl_any2 {f : Int32 × Int32 → Option ((Int32 × Int32) ⊕ Int32)} (N : Nat) (P : Nat → Bool) (hstep : ∀ i b, i < N → f (if b = true then 1 else 0, nI i) = some (.inl (if (b || P i) = true then 1 else 0, nI i + 1))) (hend : ∀ a, f (a, nI N) = some (.inr a)) (hN : N < hb_F) : hb_lp f hb_F (0, 0) = some (if (List.range N).any P = true then 1 else 0) :=
  pl_for N (fun i => (if (List.range i).any P = true then 1 else 0, nI i)) rfl (fun i hi => by
    rw [hstep i _ hi, nI_1, any_succ]) (hend _) hN
noncomputable def cd (P : Prop) : Bool := @decide P (Classical.propDecidable P)
theorem cd_iff {P : Prop} : cd P = true ↔ P := by
  unfold cd
  exact @decide_eq_true_iff P (Classical.propDecidable P)
/-- some page, ahead of a place -/
def sp_ahead (nx : Nat → Nat → Option Nat) (q p : Nat) : Prop := ∃ k z : Nat, pb_pa nx (k + 1) q z ∧ z / 32 = p
def sp_places (M : pb_M) (p : Nat) : Nat := ct 32 (fun f => if 32 * p + f ∈ M.1 then 1 else 0)
noncomputable def sp_again (nx : Nat → Nat → Option Nat) (M : pb_M) (p : Nat) : Bool := (List.range 32).any (fun f => cd (32 * p + f ∈ M.1 ∧ sp_ahead nx (32 * p + f) p))
noncomputable def sp_stuck (B : Nat → Int32) (M : pb_M) (q : Nat) : Bool := cd (q ∈ M.1 ∧ pl_m B (q / 32) ≠ 0 ∧ ∀ k z : Nat, pb_pa (pg_nx B) (k + 1) q z → pl_m B (z / 32) ≠ 0)
noncomputable def sp_stucks (B : Nat → Int32) (M : pb_M) (p : Nat) : Nat := ct 32 (fun f => if sp_stuck B M (32 * p + f) = true then 1 else 0)
def sp_few (M : pb_M) (p : Nat) : Int32 := match M.1.find? (fun q => decide (q / 32 = p)) with | none => -5 | some q => nI (M.2.1 q)
theorem pc_rd {σ : hb_Mem} {M : pb_M} (hR : pc_rows σ M) (hd : ∀ x, x ∈ M.1 → M.2.1 x < 1024) {q : Nat} (hq : q < 1024) : fn_X3_isReached 147 (nI q) σ = some (if q ∈ M.1 then 1 else 0) := by
  unfold fn_X3_isReached
  rw [pl_at (r := hc_rf 147 4) (a := 151) (n := 1024) (by decide) hq, Option.bind_some, hR.2.2.1 q hq]
  by_cases hm : q ∈ M.1
  · rw [if_pos hm, if_pos hm, if_neg (pl_ne_neg (by have := hd q hm; omega) (by decide))]
  · rw [if_neg hm, if_neg hm, if_pos rfl]
theorem pc_bit {σ : hb_Mem} {n : Nat} {B : Nat → Int32} {M : pb_M} (hS : pc_SV σ n B M) (hn : n ≤ 32) (hM : pb_good (pg_nx B) n M) {q p : Nat} (hq : q ∈ M.1) (hp : p < 32) : bt (σ 157 q) p = true ↔ sp_ahead (pg_nx B) q p := by
  obtain ⟨s1, s2, s3, s4, s5, s6⟩ := hS
  constructor
  · intro h
    exact s3 q p hq hp h
  · rintro ⟨k, z, h1, h2⟩
    rw [← h2]
    exact s4 q k z hq h1
theorem pc_placesWith {σ : hb_Mem} {n : Nat} {B : Nat → Int32} {M : pb_M} (hS : pc_SV σ n B M) (hn : n ≤ 32) (hM : pb_good (pg_nx B) n M) {p : Nat} (hp : p < 32) : fn_X3_placesWith 147 (nI p) σ = some (nI (sp_places M p)) := by
  unfold fn_X3_placesWith ll_X3_placesWith_4
  rw [pl_sum (f := fun s => lb_X3_placesWith_4 147 (nI p) s.1 s.2 σ) 32 (fun f => if 32 * p + f ∈ M.1 then 1 else 0)]
  · rfl
  · intro f a hf
    show lb_X3_placesWith_4 147 (nI p) a (nI f) σ = _
    unfold lb_X3_placesWith_4
    rw [if_neg (by show ¬ nI 32 ≤ nI f; rw [nI_leI (by omega) (by omega)]; omega), pc_place, Option.bind_some, pc_rd hS.2.1 (fun x hx => hM.d hx) (by omega), Option.bind_some]
    by_cases hm : 32 * p + f ∈ M.1
    · rw [if_pos hm, if_pos hm]; rfl
    · rw [if_neg hm, if_neg hm]; rfl
  · intro a
    rfl
  · rw [pl_F]; omega
theorem pc_isDead {σ : hb_Mem} {n : Nat} {B : Nat → Int32} {M : pb_M} (hS : pc_SV σ n B M) (hn : n ≤ 32) (hM : pb_good (pg_nx B) n M) {p : Nat} (hp : p < 32) : fn_X3_isDead 147 (nI p) σ = some (if sp_places M p = 0 then 1 else 0) := by
  unfold fn_X3_isDead
  have hle : sp_places M p ≤ 32 * 1 := ct_le 32 (fun i hi => by split <;> omega)
  rw [pc_placesWith hS hn hM hp, Option.bind_some]
  by_cases h0 : sp_places M p = 0
  · rw [if_pos h0, if_pos ((pl_eq0 (by omega)).mpr h0)]
  · rw [if_neg h0, if_neg (fun h => h0 ((pl_eq0 (by omega)).mp h))]
theorem pc_again {σ : hb_Mem} {n : Nat} {B : Nat → Int32} {M : pb_M} (hS : pc_SV σ n B M) (hn : n ≤ 32) (hM : pb_good (pg_nx B) n M) {p : Nat} (hp : p < 32) : fn_X3_comesAgain 147 (nI p) σ = some (if sp_again (pg_nx B) M p = true then 1 else 0) := by
  unfold fn_X3_comesAgain ll_X3_comesAgain_2
  rw [pl_any (f := fun s => lb_X3_comesAgain_2 147 (nI p) s σ) 32 (fun f => cd (32 * p + f ∈ M.1 ∧ sp_ahead (pg_nx B) (32 * p + f) p))]
  · rw [Option.bind_some]
    unfold sp_again
    split
    · rfl
    · rfl
  · intro f hf
    show lb_X3_comesAgain_2 147 (nI p) (nI f) σ = _
    unfold lb_X3_comesAgain_2 jn_X3_comesAgain_39
    simp only [hb_nm]
    rw [if_neg (by show ¬ nI 32 ≤ nI f; rw [nI_leI (by omega) (by omega)]; omega), pc_place, Option.bind_some, pc_rd hS.2.1 (fun x hx => hM.d hx) (by omega), Option.bind_some]
    by_cases hm : 32 * p + f ∈ M.1
    · rw [if_pos hm, if_neg (by decide), pl_at (r := hc_rf 147 7) (a := 157) (n := 1024) (by decide) (by omega), Option.bind_some, bt_isIn _ hp, Option.bind_some]
      by_cases hb : bt (σ 157 (32 * p + f)) p = true
      · rw [if_pos hb, if_neg (by decide), if_pos]
        exact cd_iff.mpr ⟨hm, (pc_bit hS hn hM hm hp).mp hb⟩
      · rw [if_neg hb, if_pos rfl, if_neg]
        intro h
        exact hb ((pc_bit hS hn hM hm hp).mpr (cd_iff.mp h).2)
    · rw [if_neg hm, if_pos rfl, if_neg]
      intro h
      exact hm (cd_iff.mp h).1
  · rfl
  · rw [pl_F]; omega
theorem pc_stuck {σ : hb_Mem} {n : Nat} {B : Nat → Int32} {M : pb_M} (hS : pc_SV σ n B M) (hn : n ≤ 32) (hM : pb_good (pg_nx B) n M) {q : Nat} (hq : q < 1024) : fn_X3_isStuck 147 (nI q) σ = some (if sp_stuck B M q = true then 1 else 0) := by
  obtain ⟨hb1, hb2⟩ := hS.2.2.2.2.1
  unfold fn_X3_isStuck
  rw [pc_rd hS.2.1 (fun x hx => hM.d hx) hq, Option.bind_some]
  by_cases hm : q ∈ M.1
  · have hqn := hM.lt hm
    rw [if_pos hm, if_neg (by decide), pc_page hq, Option.bind_some, bt_isIn _ (by omega), Option.bind_some]
    by_cases hb : bt (σ 147 8) (q / 32) = true
    · rw [if_pos hb, if_neg (by decide), if_neg]
      intro h
      exact (cd_iff.mp h).2.1 ((hb1 _ (by omega)).mp hb).2
    · rw [if_neg hb, if_pos rfl, pl_at (r := hc_rf 147 7) (a := 157) (n := 1024) (by decide) hq, Option.bind_some]
      have hiff : (σ 157 q &&& σ 147 8 = 0) ↔ sp_stuck B M q = true := by
        rw [bt_and0]
        constructor
        · intro h
          refine cd_iff.mpr ⟨hm, fun h0 => hb ((hb1 _ (by omega)).mpr ⟨by omega, h0⟩), fun k z hp h0 => ?_⟩
          have hz := hM.lt (pb_closed (fun x c z hx hc hz => hM.2.2 x c z hx hc hz) (k + 1) q z hm hp)
          exact h (z / 32) (by omega) ((pc_bit hS hn hM hm (by omega)).mpr ⟨k, z, hp, rfl⟩) ((hb1 _ (by omega)).mpr ⟨by omega, h0⟩)
        · intro h p hp h1 h2
          obtain ⟨k, z, k1, k2⟩ := (pc_bit hS hn hM hm hp).mp h1
          have := (cd_iff.mp h).2.2 k z k1
          rw [k2] at this
          exact this ((hb1 p hp).mp h2).2
      by_cases hs : sp_stuck B M q = true
      · rw [if_pos (hiff.mpr hs), if_pos hs]
      · rw [if_neg (fun h => hs (hiff.mp h)), if_neg hs]
  · rw [if_neg hm, if_pos rfl, if_neg]
    intro h
    exact hm (cd_iff.mp h).1
theorem pc_stucksWith {σ : hb_Mem} {n : Nat} {B : Nat → Int32} {M : pb_M} (hS : pc_SV σ n B M) (hn : n ≤ 32) (hM : pb_good (pg_nx B) n M) {p : Nat} (hp : p < 32) : fn_X3_stuckPlacesWith 147 (nI p) σ = some (nI (sp_stucks B M p)) := by
  unfold fn_X3_stuckPlacesWith ll_X3_stuckPlacesWith_4
  rw [pl_sum (f := fun s => lb_X3_stuckPlacesWith_4 147 (nI p) s.1 s.2 σ) 32 (fun f => if sp_stuck B M (32 * p + f) = true then 1 else 0)]
  · rfl
  · intro f a hf
    show lb_X3_stuckPlacesWith_4 147 (nI p) a (nI f) σ = _
    unfold lb_X3_stuckPlacesWith_4
    rw [if_neg (by show ¬ nI 32 ≤ nI f; rw [nI_leI (by omega) (by omega)]; omega), pc_place, Option.bind_some, pc_stuck hS hn hM (by omega), Option.bind_some, pc_oneIf, Option.bind_some]
    by_cases hm : sp_stuck B M (32 * p + f) = true
    · rw [if_pos hm, if_pos hm]; rfl
    · rw [if_neg hm, if_neg hm]; rfl
  · intro a
    rfl
  · rw [pl_F]; omega
theorem pc_few {σ : hb_Mem} {n : Nat} {B : Nat → Int32} {M : pb_M} (hS : pc_SV σ n B M) (hn : n ≤ 32) (hM : pb_good (pg_nx B) n M) {p : Nat} (hp : p < 32) : fn_X3_fewestChoicesTo 147 (nI p) σ = some (sp_few M p) := by
  have hR := hS.2.1
  have hlen := hM.2.1
  unfold fn_X3_fewestChoicesTo ll_X3_fewestChoicesTo_2
  obtain ⟨t, g1, g2⟩ := pl_inv (f := fun s => lb_X3_fewestChoicesTo_2 147 (nI p) s σ) (s := (0 : Int32)) M.1.length
    (fun i s => s = nI i ∧ ∀ j x : Nat, j < i → M.1[j]? = some x → x / 32 ≠ p)
    (fun t => (∃ i q, t = .inl (nI i) ∧ M.1[i]? = some q ∧ M.1.find? (fun q => decide (q / 32 = p)) = some q) ∨ (t = .inr () ∧ M.1.find? (fun q => decide (q / 32 = p)) = none))
    ⟨rfl, fun j x hj => by omega⟩ (by
    intro i s hi ⟨e1, e2⟩
    subst e1
    obtain ⟨q, hq⟩ : ∃ q, M.1[i]? = some q := ⟨_, List.getElem?_eq_getElem (by omega)⟩
    have hql := hM.lt (List.mem_of_getElem? hq)
    show (∃ s', lb_X3_fewestChoicesTo_2 147 (nI p) (nI i) σ = some (.inl s') ∧ _) ∨ ∃ t, lb_X3_fewestChoicesTo_2 147 (nI p) (nI i) σ = some (.inr t) ∧ _
    unfold lb_X3_fewestChoicesTo_2
    rw [hR.1, if_neg (by rw [nI_leI (by omega) (by omega)]; omega), pl_at (r := hc_rf 147 3) (a := 149) (n := 1024) (by decide) (by omega), Option.bind_some, hR.2.1 i q hq, pc_page (by omega), Option.bind_some]
    by_cases hqp : q / 32 = p
    · right
      rw [if_pos (by rw [hqp])]
      refine ⟨_, rfl, Or.inl ⟨i, q, rfl, hq, ?_⟩⟩
      rw [List.find?_eq_some_iff_getElem]
      refine ⟨decide_eq_true hqp, i, by omega, (List.getElem?_eq_some_iff.mp hq).2, fun j hj => ?_⟩
      rw [decide_eq_false (e2 j _ hj (List.getElem?_eq_getElem (by omega)))]
      rfl
    · left
      rw [if_neg (fun h => hqp ((nI_eq (by omega) (by omega)).mp h))]
      simp only [hb_nm, nI_1]
      refine ⟨_, rfl, rfl, fun j x hj hx => ?_⟩
      by_cases hji : j < i
      · exact e2 j x hji hx
      · have hje : j = i := by omega
        rw [hje, hq] at hx
        cases hx
        exact hqp) (by
    intro s ⟨e1, e2⟩
    subst e1
    show ∃ t, lb_X3_fewestChoicesTo_2 147 (nI p) (nI M.1.length) σ = some (.inr t) ∧ _
    unfold lb_X3_fewestChoicesTo_2
    rw [hR.1, if_pos (by rw [nI_leI (by omega) (by omega)]; omega)]
    refine ⟨_, rfl, Or.inr ⟨rfl, ?_⟩⟩
    rw [List.find?_eq_none]
    intro x hx
    obtain ⟨j, hj⟩ := List.getElem?_of_mem hx
    have hjl := (List.getElem?_eq_some_iff.mp hj).1
    rw [decide_eq_false (e2 j x hjl hj)]
    decide) (by rw [pl_F]; omega)
  rw [g1, Option.bind_some]
  unfold sp_few
  rcases g2 with ⟨i, q, h1, h2, h3⟩ | ⟨h1, h2⟩
  · rw [h1, h3]
    have hil := (List.getElem?_eq_some_iff.mp h2).1
    have hqm := List.mem_of_getElem? h2
    have hql := hM.lt hqm
    show ((fn_X1_at (hc_rf 147 3) (nI i) σ).bind fun x5 => (fn_X1_at (hc_rf 147 4) x5 σ).bind fun x6 => some x6) = some (nI (M.2.1 q))
    rw [pl_at (r := hc_rf 147 3) (a := 149) (n := 1024) (by decide) (by omega), Option.bind_some, hR.2.1 i q h2, pl_at (r := hc_rf 147 4) (a := 151) (n := 1024) (by decide) (by omega), Option.bind_some, hR.2.2.1 q (by omega), if_pos hqm]
  · rw [h1, h2]
    rfl

