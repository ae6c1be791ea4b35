/-! the class's counts over pages -/
def sp_dead (M : pb_M) (p : Nat) : Bool := decide (sp_places M p = 0)
def sp_deads (n : Nat) (M : pb_M) : Nat := ct n (fun p => if sp_dead M p = true then 1 else 0)
noncomputable def sp_agains (n : Nat) (B : Nat → Int32) (M : pb_M) : Nat := ct n (fun p => if sp_again (pg_nx B) M p = true then 1 else 0)
noncomputable def sp_allStuck (n : Nat) (B : Nat → Int32) (M : pb_M) : Nat := ct n (fun p => sp_stucks B M p)
def sp_live (n : Nat) (M : pb_M) (P : Nat → Bool) : Nat := ct n (fun p => if (P p && !sp_dead M p) = true then 1 else 0)
def sp_ever (B : Nat → Int32) (M : pb_M) (p c : Nat) : Bool := (List.range 32).any (fun f => decide (32 * p + f ∈ M.1 ∧ pg_why B p f c = 0))
theorem pc_dead {σ : hb_Mem} {n : Nat} {B : Nat → Int32} {M : pb_M} (hS : pc_SV σ n B M) (hn : n ≤ 32) (hM : pb_good (pg_nx B) n M) {p : Nat} (hp : p < 32) : fn_X3_isDead 147 (nI p) σ = some (if sp_dead M p = true then 1 else 0) := by
  rw [pc_isDead hS hn hM hp]
  unfold sp_dead
  by_cases h0 : sp_places M p = 0
  · rw [if_pos h0, if_pos (decide_eq_true h0)]
  · rw [if_neg h0, if_neg (by rw [decide_eq_false h0]; decide)]
theorem pc_deads {σ : hb_Mem} {n : Nat} {B : Nat → Int32} {M : pb_M} (hS : pc_SV σ n B M) (hn : n ≤ 32) (hM : pb_good (pg_nx B) n M) : fn_X3_deadPages 147 σ = some (nI (sp_deads n M)) := by
  unfold fn_X3_deadPages ll_X3_deadPages_4
  rw [pl_sum (f := fun s => lb_X3_deadPages_4 147 s.1 s.2 σ) n (fun p => if sp_dead M p = true then 1 else 0)]
  · rfl
  · intro p a hp
    show lb_X3_deadPages_4 147 a (nI p) σ = _
    unfold lb_X3_deadPages_4
    rw [hS.1, if_neg (by rw [nI_leI (by omega) (by omega)]; omega), pc_dead hS hn hM (by omega), Option.bind_some, pc_oneIf, Option.bind_some]
    by_cases hm : sp_dead M p = true
    · rw [if_pos hm, if_pos hm]; rfl
    · rw [if_neg hm, if_neg hm]; rfl
  · intro a
    show lb_X3_deadPages_4 147 a (nI n) σ = _
    unfold lb_X3_deadPages_4
    rw [hS.1, if_pos (by rw [nI_leI (by omega) (by omega)]; omega)]
  · rw [pl_F]; omega
theorem pc_agains {σ : hb_Mem} {n : Nat} {B : Nat → Int32} {M : pb_M} (hS : pc_SV σ n B M) (hn : n ≤ 32) (hM : pb_good (pg_nx B) n M) : fn_X3_pagesThatComeAgain 147 σ = some (nI (sp_agains n B M)) := by
  unfold fn_X3_pagesThatComeAgain ll_X3_pagesThatComeAgain_4
  rw [pl_sum (f := fun s => lb_X3_pagesThatComeAgain_4 147 s.1 s.2 σ) n (fun p => if sp_again (pg_nx B) M p = true then 1 else 0)]
  · rfl
  · intro p a hp
    show lb_X3_pagesThatComeAgain_4 147 a (nI p) σ = _
    unfold lb_X3_pagesThatComeAgain_4
    rw [hS.1, if_neg (by rw [nI_leI (by omega) (by omega)]; omega), pc_again hS hn hM (by omega), Option.bind_some, pc_oneIf, Option.bind_some]
    by_cases hm : sp_again (pg_nx B) M p = true
    · rw [if_pos hm, if_pos hm]; rfl
    · rw [if_neg hm, if_neg hm]; rfl
  · intro a
    show lb_X3_pagesThatComeAgain_4 147 a (nI n) σ = _
    unfold lb_X3_pagesThatComeAgain_4
    rw [hS.1, if_pos (by rw [nI_leI (by omega) (by omega)]; omega)]
  · rw [pl_F]; omega
theorem pc_allStuck {σ : hb_Mem} {n : Nat} {B : Nat → Int32} {M : pb_M} (hS : pc_SV σ n B M) (hn : n ≤ 32) (hM : pb_good (pg_nx B) n M) : fn_X3_stuckPlaces 147 σ = some (nI (sp_allStuck n B M)) := by
  unfold fn_X3_stuckPlaces ll_X3_stuckPlaces_4
  rw [pl_sum (f := fun s => lb_X3_stuckPlaces_4 147 s.1 s.2 σ) n (fun p => sp_stucks B M p)]
  · rfl
  · intro p a hp
    show lb_X3_stuckPlaces_4 147 a (nI p) σ = _
    unfold lb_X3_stuckPlaces_4
    rw [hS.1, if_neg (by rw [nI_leI (by omega) (by omega)]; omega), pc_stucksWith hS hn hM (by omega), Option.bind_some]
    rfl
  · intro a
    show lb_X3_stuckPlaces_4 147 a (nI n) σ = _
    unfold lb_X3_stuckPlaces_4
    rw [hS.1, if_pos (by rw [nI_leI (by omega) (by omega)]; omega)]
  · rw [pl_F]; omega
theorem pc_live {σ : hb_Mem} {n : Nat} {B : Nat → Int32} {M : pb_M} (hS : pc_SV σ n B M) (hn : n ≤ 32) (hM : pb_good (pg_nx B) n M) (x : Int32) (P : Nat → Bool) (hP : ∀ p, p < n → (bt x p = true ↔ P p = true)) : fn_X3_livePagesOf 147 x σ = some (nI (sp_live n M P)) := by
  have o0 : fn_X5_oneIf 0 = some 0 := rfl
  have o1 : fn_X5_oneIf 1 = some 1 := rfl
  unfold fn_X3_livePagesOf ll_X3_livePagesOf_4
  rw [pl_sum (f := fun s => lb_X3_livePagesOf_4 147 x s.1 s.2 σ) n (fun p => if (P p && !sp_dead M p) = true then 1 else 0)]
  · rfl
  · intro p a hp
    show lb_X3_livePagesOf_4 147 x a (nI p) σ = _
    unfold lb_X3_livePagesOf_4 jn_X3_livePagesOf_33 jn_X3_livePagesOf_34
    simp only [hb_nm]
    rw [hS.1, if_neg (by rw [nI_leI (by omega) (by omega)]; omega), bt_isIn _ (by omega), Option.bind_some]
    by_cases hb : bt x p = true
    · rw [if_pos hb, if_neg (by decide), pc_dead hS hn hM (by omega), Option.bind_some, (hP p hp).mp hb]
      by_cases hm : sp_dead M p = true
      · rw [if_pos hm, if_neg (by decide), o0, Option.bind_some, hm]
        rfl
      · rw [if_neg hm, if_pos rfl, o1, Option.bind_some, Bool.not_eq_true _ |>.mp hm]
        rfl
    · rw [if_neg hb, if_pos rfl, o0, Option.bind_some, Bool.not_eq_true _ |>.mp (fun h => hb ((hP p hp).mpr h))]
      rfl
  · intro a
    show lb_X3_livePagesOf_4 147 x a (nI n) σ = _
    unfold lb_X3_livePagesOf_4
    rw [hS.1, if_pos (by rw [nI_leI (by omega) (by omega)]; omega)]
  · rw [pl_F]; omega
theorem pc_ever {σ : hb_Mem} {n : Nat} {B : Nat → Int32} {M : pb_M} (h : pl_WB n B) (hr : pl_RS σ 1 n B) (hS : pc_SV σ n B M) (hM : pb_good (pg_nx B) n M) {p c : Nat} (hp : p < n) (hc : c < 3) : fn_X3_isEverOpen 147 1 (nI p) (nI c) σ = some (if sp_ever B M p c = true then 1 else 0) := by
  have hn := h.1
  unfold fn_X3_isEverOpen ll_X3_isEverOpen_3
  rw [pl_any (f := fun s => lb_X3_isEverOpen_3 147 1 (nI p) (nI c) s σ) 32 (fun f => decide (32 * p + f ∈ M.1 ∧ pg_why B p f c = 0))]
  · rw [Option.bind_some]
    unfold sp_ever
    split
    · rfl
    · rfl
  · intro f hf
    show lb_X3_isEverOpen_3 147 1 (nI p) (nI c) (nI f) σ = _
    unfold lb_X3_isEverOpen_3 jn_X3_isEverOpen_39
    simp only [hb_nm]
    rw [if_neg (by show ¬ nI 32 ≤ nI f; rw [nI_leI (by omega) (by omega)]; omega), pc_place, Option.bind_some, pc_rd hS.2.1 (fun x hx => hM.d hx) (by omega), Option.bind_some]
    by_cases hm : 32 * p + f ∈ M.1
    · rw [if_pos hm, if_neg (by decide), pc_why (by decide) h hr (by omega) hc, Option.bind_some, show (32 * p + f) / 32 = p by omega, show (32 * p + f) % 32 = f by omega]
      have h5 := pg_why_lt B p f c
      by_cases hw : pg_why B p f c = 0
      · rw [if_pos ((pl_eq0 (by omega)).mpr hw), if_pos (decide_eq_true ⟨hm, hw⟩)]
      · rw [if_neg (fun h => hw ((pl_eq0 (by omega)).mp h)), if_neg]
        intro h
        exact hw (of_decide_eq_true h).2
    · rw [if_neg hm, if_pos rfl, if_neg]
      intro h
      exact hm (of_decide_eq_true h).1
  · rfl
  · rw [pl_F]; omega
theorem pc_onWay {σ : hb_Mem} {n : Nat} {B : Nat → Int32} {M : pb_M} (hS : pc_SV σ n B M) (hn : n ≤ 32) (hM : pb_good (pg_nx B) n M) {g : Nat} (hg : pw_goal B M = some g) {t : Nat} (ht : t ≤ M.2.1 g) : fn_X3_choiceOnWay 147 (nI t) σ = some (if M.2.1 g ≤ t then -5 else nI (M.2.2.2 (pw_up M (M.2.1 g - (t + 1)) g))) := by
  have hw := hS.2.2.2.2.2
  unfold pc_way at hw
  rw [hg] at hw
  obtain ⟨w1, w2⟩ := hw
  have hgm : g ∈ M.1 := List.mem_of_find?_eq_some hg
  have hd := hM.d hgm
  unfold fn_X3_choiceOnWay
  rw [w1]
  by_cases hle : M.2.1 g ≤ t
  · rw [if_pos hle, if_pos (by rw [nI_leI (by omega) (by omega)]; exact hle)]
  · rw [if_neg hle, if_neg (by rw [nI_leI (by omega) (by omega)]; exact hle), nI_1, pl_at (r := hc_rf 147 11) (a := 159) (n := 1024) (by decide) (by omega), Option.bind_some]
    have h2 := w2 (M.2.1 g - (t + 1)) (by omega)
    rw [show M.2.1 g - (M.2.1 g - (t + 1)) = t + 1 by omega] at h2
    obtain ⟨u1, u2⟩ := pw_up_ok hM hgm (M.2.1 g - (t + 1)) (by omega)
    have hul := hM.lt u1
    rw [h2, pl_at (r := hc_rf 147 6) (a := 155) (n := 1024) (by decide) (by omega), Option.bind_some, (hS.2.1.2.2.2 _ u1 (by omega)).2]

