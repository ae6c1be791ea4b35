/-! the class alone: counts and the way -/
theorem cs_count0 {n : Nat} {B : Nat → Int32} {σ : hb_Mem} (h : pl_WB n B) (hr : pl_RS σ 1 n B) : fn_X5_count 0 0 σ = some (nI n, σ) := by
  unfold fn_X5_count
  rw [hc_r0, if_pos rfl, hr.1]
theorem cs_count1 {n : Nat} {B : Nat → Int32} {σ : hb_Mem} (h : pl_WB n B) (hr : pl_RS σ 1 n B) : fn_X5_count 0 1 σ = some (nI (ct n (pl_m B)), σ) := by
  unfold fn_X5_count
  rw [hc_r0, if_neg (show ¬ (1 : Int32) = 0 by decide), if_pos rfl, pc_allch h hr, Option.bind_some]
theorem cs_count9 {n : Nat} {B : Nat → Int32} {σ : hb_Mem} (h : pl_WB n B) (hr : pl_RS σ 1 n B) : fn_X5_count 0 9 σ = some (if B 423 = -5 then 0 else 1, σ) := by
  have hn := h.1
  unfold fn_X5_count jn_X5_count_181
  rw [hc_r0, if_neg (show ¬ (9 : Int32) = 0 by decide), if_neg (show ¬ (9 : Int32) = 1 by decide), if_neg (show ¬ (9 : Int32) = 2 by decide), if_neg (show ¬ (9 : Int32) = 3 by decide), if_neg (show ¬ (9 : Int32) = 4 by decide), if_neg (show ¬ (9 : Int32) = 5 by decide), if_neg (show ¬ (9 : Int32) = 6 by decide), if_neg (show ¬ (9 : Int32) = 7 by decide), if_neg (show ¬ (9 : Int32) = 8 by decide), if_pos rfl, hr.2.2.2]
  rcases sp_plc h.2.2.2.2 with ⟨h5, e⟩ | ⟨p, g, hp, hg, ha, hf, e⟩
  · rw [e, if_pos rfl, if_pos h5]
    rfl
  · have z2 : ¬ nI (32 * p + g) = -1 := pl_ne_neg (by omega) (by decide)
    have z3 : ¬ nI p = -5 := pl_ne_neg (by omega) (by decide)
    rw [e, if_neg z2, ha, if_neg z3]
    rfl
theorem cs_count10 {t n sz nx len : Nat} {B : Nat → Int32} {σ : hb_Mem} (h : Rl t n B sz nx len σ) : fn_X5_count 0 10 σ = some (nI sz, σ) := by
  unfold fn_X5_count
  rw [if_neg (show ¬ (10 : Int32) = 0 by decide), if_neg (show ¬ (10 : Int32) = 1 by decide), if_neg (show ¬ (10 : Int32) = 2 by decide), if_neg (show ¬ (10 : Int32) = 3 by decide), if_neg (show ¬ (10 : Int32) = 4 by decide), if_neg (show ¬ (10 : Int32) = 5 by decide), if_neg (show ¬ (10 : Int32) = 6 by decide), if_neg (show ¬ (10 : Int32) = 7 by decide), if_neg (show ¬ (10 : Int32) = 8 by decide), if_neg (show ¬ (10 : Int32) = 9 by decide), if_pos rfl, show hc_rf 0 4 = 58 from by decide, h.2.2.2.2.1.2.2.1]
theorem cs_count11 {t n sz nx len : Nat} {B : Nat → Int32} {σ : hb_Mem} (h : Rl t n B sz nx len σ) : fn_X5_count 0 11 σ = some (nI len, σ) := by
  unfold fn_X5_count
  rw [if_neg (show ¬ (11 : Int32) = 0 by decide), if_neg (show ¬ (11 : Int32) = 1 by decide), if_neg (show ¬ (11 : Int32) = 2 by decide), if_neg (show ¬ (11 : Int32) = 3 by decide), if_neg (show ¬ (11 : Int32) = 4 by decide), if_neg (show ¬ (11 : Int32) = 5 by decide), if_neg (show ¬ (11 : Int32) = 6 by decide), if_neg (show ¬ (11 : Int32) = 7 by decide), if_neg (show ¬ (11 : Int32) = 8 by decide), if_neg (show ¬ (11 : Int32) = 9 by decide), if_neg (show ¬ (11 : Int32) = 10 by decide), if_pos rfl, show hc_rf 0 5 = 136 from by decide, h.2.2.2.2.2.2]
theorem cs_count2 {n : Nat} {B : Nat → Int32} {σ : hb_Mem} (h : pl_WB n B) (hr : pl_RS σ 1 n B) (hk : pc_known σ n B) : ∃ σ', fn_X5_count 0 2 σ = some (nI (sp_deads n (pb_pl n B)), σ') ∧ Sv n B σ σ' := by
  obtain ⟨σ', s1, s2⟩ := cs_sv h hr hk
  refine ⟨σ', ?_, s2⟩
  unfold fn_X5_count
  rw [if_neg (show ¬ (2 : Int32) = 0 by decide), if_neg (show ¬ (2 : Int32) = 1 by decide), if_pos rfl, hc_r6, s1, Option.bind_some, pc_deads s2.2.2 h.1 (pb_pl_good h), Option.bind_some]
theorem cs_count4 {n : Nat} {B : Nat → Int32} {σ : hb_Mem} (h : pl_WB n B) (hr : pl_RS σ 1 n B) (hk : pc_known σ n B) : ∃ σ', fn_X5_count 0 4 σ = some (nI (sp_allStuck n B (pb_pl n B)), σ') ∧ Sv n B σ σ' := by
  obtain ⟨σ', s1, s2⟩ := cs_sv h hr hk
  refine ⟨σ', ?_, s2⟩
  unfold fn_X5_count
  rw [if_neg (show ¬ (4 : Int32) = 0 by decide), if_neg (show ¬ (4 : Int32) = 1 by decide), if_neg (show ¬ (4 : Int32) = 2 by decide), if_neg (show ¬ (4 : Int32) = 3 by decide), if_pos rfl, hc_r6, s1, Option.bind_some, pc_allStuck s2.2.2 h.1 (pb_pl_good h), Option.bind_some]
theorem cs_count5 {n : Nat} {B : Nat → Int32} {σ : hb_Mem} (h : pl_WB n B) (hr : pl_RS σ 1 n B) (hk : pc_known σ n B) : ∃ σ', fn_X5_count 0 5 σ = some (nI (pb_pl n B).1.length, σ') ∧ Sv n B σ σ' := by
  obtain ⟨σ', s1, s2⟩ := cs_sv h hr hk
  refine ⟨σ', ?_, s2⟩
  unfold fn_X5_count
  rw [if_neg (show ¬ (5 : Int32) = 0 by decide), if_neg (show ¬ (5 : Int32) = 1 by decide), if_neg (show ¬ (5 : Int32) = 2 by decide), if_neg (show ¬ (5 : Int32) = 3 by decide), if_neg (show ¬ (5 : Int32) = 4 by decide), if_pos rfl, hc_r6, s1, Option.bind_some, s2.2.2.2.1.1]
theorem cs_count6 {n : Nat} {B : Nat → Int32} {σ : hb_Mem} (h : pl_WB n B) (hr : pl_RS σ 1 n B) (hk : pc_known σ n B) : ∃ σ', fn_X5_count 0 6 σ = some (nI (sp_live n (pb_pl n B) (pe_end B)), σ') ∧ Sv n B σ σ' := by
  have hn := h.1
  obtain ⟨σ', s1, s2⟩ := cs_sv h hr hk
  refine ⟨σ', ?_, s2⟩
  unfold fn_X5_count
  rw [if_neg (show ¬ (6 : Int32) = 0 by decide), if_neg (show ¬ (6 : Int32) = 1 by decide), if_neg (show ¬ (6 : Int32) = 2 by decide), if_neg (show ¬ (6 : Int32) = 3 by decide), if_neg (show ¬ (6 : Int32) = 4 by decide), if_neg (show ¬ (6 : Int32) = 5 by decide), if_pos rfl, hc_r6, s1, Option.bind_some, s2.same, Option.bind_some, pc_live s2.2.2 h.1 (pb_pl_good h) _ (pe_end B) (fun p hp => by
    rw [s2.2.2.2.2.2.2.1.1 p (by omega)]
    unfold pe_end
    rw [decide_eq_true_iff]
    exact ⟨fun h => h.2, fun h => ⟨hp, h⟩⟩), Option.bind_some]
theorem cs_count7 {n : Nat} {B : Nat → Int32} {σ : hb_Mem} (h : pl_WB n B) (hr : pl_RS σ 1 n B) (hk : pc_known σ n B) : ∃ σ', fn_X5_count 0 7 σ = some (nI (sp_live n (pb_pl n B) (pe_hap B)), σ') ∧ Sv n B σ σ' := by
  have hn := h.1
  obtain ⟨σ', s1, s2⟩ := cs_sv h hr hk
  refine ⟨σ', ?_, s2⟩
  unfold fn_X5_count
  rw [if_neg (show ¬ (7 : Int32) = 0 by decide), if_neg (show ¬ (7 : Int32) = 1 by decide), if_neg (show ¬ (7 : Int32) = 2 by decide), if_neg (show ¬ (7 : Int32) = 3 by decide), if_neg (show ¬ (7 : Int32) = 4 by decide), if_neg (show ¬ (7 : Int32) = 5 by decide), if_neg (show ¬ (7 : Int32) = 6 by decide), if_pos rfl, hc_r6, s1, Option.bind_some, s2.same, Option.bind_some, pc_live s2.2.2 h.1 (pb_pl_good h) _ (pe_hap B) (fun p hp => by
    rw [s2.2.2.2.2.2.2.1.2 p (by omega)]
    unfold pe_hap
    rw [decide_eq_true_iff]
    exact ⟨fun h => h.2, fun h => ⟨hp, h⟩⟩), Option.bind_some]
/-- the length of the way, in the survey -/
theorem Sv.way {n : Nat} {B : Nat → Int32} {σ σ' : hb_Mem} (h : Sv n B σ σ') : (pw_goal B (pb_pl n B) = none ∧ σ' 147 10 = -1) ∨ ∃ g, pw_goal B (pb_pl n B) = some g ∧ σ' 147 10 = nI ((pb_pl n B).2.1 g) ∧ ∀ t, t ≤ (pb_pl n B).2.1 g → σ' 159 ((pb_pl n B).2.1 g - t) = nI (pw_up (pb_pl n B) t g) := by
  have hway := h.2.2.2.2.2.2.2
  unfold pc_way at hway
  cases hg : pw_goal B (pb_pl n B) with
  | none =>
    rw [hg] at hway
    exact Or.inl ⟨rfl, hway⟩
  | some g =>
    rw [hg] at hway
    exact Or.inr ⟨g, rfl, hway.1, hway.2⟩
def wl (n : Nat) (B : Nat → Int32) : Int32 := match pw_goal B (pb_pl n B) with
  | none => -5
  | some g => nI ((pb_pl n B).2.1 g)
theorem cs_count8 {n : Nat} {B : Nat → Int32} {σ : hb_Mem} (h : pl_WB n B) (hr : pl_RS σ 1 n B) (hk : pc_known σ n B) : ∃ σ', fn_X5_count 0 8 σ = some (wl n B, σ') ∧ Sv n B σ σ' := by
  have hM := pb_pl_good h
  obtain ⟨σ', s1, s2⟩ := cs_sv h hr hk
  refine ⟨σ', ?_, s2⟩
  unfold fn_X5_count
  rw [if_neg (show ¬ (8 : Int32) = 0 by decide), if_neg (show ¬ (8 : Int32) = 1 by decide), if_neg (show ¬ (8 : Int32) = 2 by decide), if_neg (show ¬ (8 : Int32) = 3 by decide), if_neg (show ¬ (8 : Int32) = 4 by decide), if_neg (show ¬ (8 : Int32) = 5 by decide), if_neg (show ¬ (8 : Int32) = 6 by decide), if_neg (show ¬ (8 : Int32) = 7 by decide), if_pos rfl, hc_r6, s1, Option.bind_some, s2.same, Option.bind_some]
  unfold wl
  rcases s2.way with ⟨hg, w⟩ | ⟨g, hg, w1, w2⟩
  · rw [hg, w, if_neg (show ¬ (0 : Int32) ≤ -1 by decide)]
  · have hgm : g ∈ (pb_pl n B).1 := List.mem_of_find?_eq_some hg
    have hd := hM.d hgm
    have z6 : (0 : Int32) ≤ nI ((pb_pl n B).2.1 g) := by
      show nI 0 ≤ _
      rw [nI_leI (by omega) (by omega)]
      omega
    rw [hg, w1, if_pos z6]
theorem cs_wayMood {n : Nat} {B : Nat → Int32} {σ : hb_Mem} (h : pl_WB n B) (hr : pl_RS σ 1 n B) (hk : pc_known σ n B) : ∃ v σ', fn_X5_wayMood 0 σ = some (v, σ') ∧ (v = -5 ↔ pw_goal B (pb_pl n B) = none) ∧ Sv n B σ σ' := by
  have hM := pb_pl_good h
  obtain ⟨σ', s1, s2⟩ := cs_sv h hr hk
  have hrs := s2.RS hr
  unfold fn_X5_wayMood jn_X5_wayMood_61
  rw [hc_r6, s1, Option.bind_some]
  rcases s2.way with ⟨hg, w⟩ | ⟨g, hg, w1, w2⟩
  · rw [w, if_neg (show ¬ (0 : Int32) ≤ -1 by decide)]
    exact ⟨-5, σ', rfl, ⟨fun _ => hg, fun _ => rfl⟩, s2⟩
  · have hgm : g ∈ (pb_pl n B).1 := List.mem_of_find?_eq_some hg
    have hd := hM.d hgm
    obtain ⟨b1, b2⟩ := ws_bitsC h hM hgm
    have z6 : (0 : Int32) ≤ nI ((pb_pl n B).2.1 g) := by
      show nI 0 ≤ _
      rw [nI_leI (by omega) (by omega)]
      omega
    rw [w1, if_pos z6, pc_wayMood h hrs s2.2.2 hM hg, Option.bind_some, b1, Option.bind_some]
    exact ⟨_, σ', rfl, ⟨fun hc => absurd hc b2, fun hc => by rw [hg] at hc; cases hc⟩, s2⟩
/-- way at step t: the pages and the choices of the way to g -/
theorem cs_way0 {n g t : Nat} {B : Nat → Int32} {σ : hb_Mem} (h : pl_WB n B) (hr : pl_RS σ 1 n B) (hk : pc_known σ n B) (hg : pw_goal B (pb_pl n B) = some g) (ht : t ≤ (pb_pl n B).2.1 g) : ∃ σ', fn_X5_way 0 (nI t) 0 σ = some (nI (pw_up (pb_pl n B) ((pb_pl n B).2.1 g - t) g / 32), σ') ∧ Sv n B σ σ' := by
  have hM := pb_pl_good h
  have hn := h.1
  obtain ⟨σ', s1, s2⟩ := cs_sv h hr hk
  refine ⟨σ', ?_, s2⟩
  rcases s2.way with ⟨hg', w⟩ | ⟨g', hg', w1, w2⟩
  · rw [hg] at hg'; cases hg'
  · rw [hg] at hg'; cases hg'
    have hgm : g ∈ (pb_pl n B).1 := List.mem_of_find?_eq_some hg
    have hd := hM.d hgm
    obtain ⟨u1, u2⟩ := pw_up_ok hM hgm ((pb_pl n B).2.1 g - t) (by omega)
    have hul := hM.lt u1
    have e := w2 ((pb_pl n B).2.1 g - t) (by omega)
    rw [show (pb_pl n B).2.1 g - ((pb_pl n B).2.1 g - t) = t by omega] at e
    unfold fn_X5_way
    rw [hc_r6, if_neg (nI_pos (by omega)), if_neg (show ¬ (0 : Int32) < 0 by decide), if_pos (show (0 : Int32) ≤ 2 by decide), s1, Option.bind_some, w1, if_pos (by rw [nI_leI (by omega) (by omega)]; exact ht), if_pos rfl, pl_at (r := hc_rf 147 11) (a := 159) (n := 1024) (by decide) (by omega), Option.bind_some, e, pc_page (by omega), Option.bind_some]
theorem cs_way2 {n g t : Nat} {B : Nat → Int32} {σ : hb_Mem} (h : pl_WB n B) (hr : pl_RS σ 1 n B) (hk : pc_known σ n B) (hg : pw_goal B (pb_pl n B) = some g) (ht : t ≤ (pb_pl n B).2.1 g) : ∃ σ', fn_X5_way 0 (nI t) 2 σ = some (if (pb_pl n B).2.1 g ≤ t then -5 else nI ((pb_pl n B).2.2.2 (pw_up (pb_pl n B) ((pb_pl n B).2.1 g - (t + 1)) g)), σ') ∧ Sv n B σ σ' := by
  have hM := pb_pl_good h
  have hn := h.1
  obtain ⟨σ', s1, s2⟩ := cs_sv h hr hk
  refine ⟨σ', ?_, s2⟩
  rcases s2.way with ⟨hg', w⟩ | ⟨g', hg', w1, w2⟩
  · rw [hg] at hg'; cases hg'
  · rw [hg] at hg'; cases hg'
    have hgm : g ∈ (pb_pl n B).1 := List.mem_of_find?_eq_some hg
    have hd := hM.d hgm
    unfold fn_X5_way
    rw [hc_r6, if_neg (nI_pos (by omega)), if_neg (show ¬ (2 : Int32) < 0 by decide), if_pos (show (2 : Int32) ≤ 2 by decide), s1, Option.bind_some, w1, if_pos (by rw [nI_leI (by omega) (by omega)]; exact ht), if_neg (show ¬ (2 : Int32) = 0 by decide), if_neg (show ¬ (2 : Int32) = 1 by decide), pc_onWay s2.2.2 hn hM hg ht, Option.bind_some]
theorem cs_way1U {n g : Nat} {B : Nat → Int32} {σ : hb_Mem} (h : pl_WB n B) (hr : pl_RS σ 1 n B) (hk : pc_known σ n B) (hg : pw_goal B (pb_pl n B) = some g) : ∃ σ', fn_X5_way 0 (nI ((pb_pl n B).2.1 g + 1)) 1 σ = some (-5, σ') ∧ Sv n B σ σ' := by
  have hM := pb_pl_good h
  have hn := h.1
  obtain ⟨σ', s1, s2⟩ := cs_sv h hr hk
  refine ⟨σ', ?_, s2⟩
  rcases s2.way with ⟨hg', w⟩ | ⟨g', hg', w1, w2⟩
  · rw [hg] at hg'; cases hg'
  · rw [hg] at hg'; cases hg'
    have hgm : g ∈ (pb_pl n B).1 := List.mem_of_find?_eq_some hg
    have hd := hM.d hgm
    unfold fn_X5_way
    rw [hc_r6, if_neg (nI_pos (by omega)), if_neg (show ¬ (1 : Int32) < 0 by decide), if_pos (show (1 : Int32) ≤ 2 by decide), s1, Option.bind_some, w1, if_neg (by rw [nI_leI (by omega) (by omega)]; omega)]
