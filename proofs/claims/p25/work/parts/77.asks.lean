/-! the class alone: what it tells -/
def md (B : Nat → Int32) (p : Nat) : Int32 := (pf_mood (B (1 + 13 * p))).toInt32
def kd (B : Nat → Int32) (p : Nat) : Int32 := if pl_m B p = 0 then (if B (1 + 13 * p) ≤ 0 then 2 else 1) else 0
theorem cs_pageU {n : Nat} {B : Nat → Int32} {σ : hb_Mem} {p : Nat} (h : pl_WB n B) (hr : pl_RS σ 1 n B) (hp : n ≤ p) (hp2 : p < 2 ^ 31) (w : Int32) : fn_X5_page 0 (nI p) w σ = some (-1, σ) := by
  unfold fn_X5_page
  rw [hc_r0, cs_hasPage h hr hp2, Option.bind_some, if_neg (show ¬ p < n by omega), if_pos rfl]
theorem cs_page0 {n : Nat} {B : Nat → Int32} {σ : hb_Mem} {p : Nat} (h : pl_WB n B) (hr : pl_RS σ 1 n B) (hp : p < n) : fn_X5_page 0 (nI p) 0 σ = some (nI (pl_m B p), σ) := by
  have hn := h.1
  obtain ⟨r1, r2, r3, r4, r5⟩ := hr.2.1 p hp
  unfold fn_X5_page
  rw [hc_r0, cs_hasPage h hr (by omega), Option.bind_some, if_pos hp, if_neg (show ¬ (1 : Int32) = 0 by decide), if_pos rfl, pl_at (r := hc_rf 1 4) (a := 9) (n := 32) (by decide) (by omega), Option.bind_some, show σ 9 p = B (4 + 13 * p) from r4, (h.m hp).2]
theorem cs_page1 {n : Nat} {B : Nat → Int32} {σ : hb_Mem} {p : Nat} (h : pl_WB n B) (hr : pl_RS σ 1 n B) (hp : p < n) : fn_X5_page 0 (nI p) 1 σ = some (B (2 + 13 * p), σ) := by
  have hn := h.1
  obtain ⟨r1, r2, r3, r4, r5⟩ := hr.2.1 p hp
  unfold fn_X5_page
  rw [hc_r0, cs_hasPage h hr (by omega), Option.bind_some, if_pos hp, if_neg (show ¬ (1 : Int32) = 0 by decide), if_neg (show ¬ (1 : Int32) = 0 by decide), if_pos rfl, pl_at (r := hc_rf 1 2) (a := 5) (n := 32) (by decide) (by omega), Option.bind_some, show σ 5 p = B (2 + 13 * p) from r2]
theorem cs_page2 {n : Nat} {B : Nat → Int32} {σ : hb_Mem} {p : Nat} (h : pl_WB n B) (hr : pl_RS σ 1 n B) (hp : p < n) : fn_X5_page 0 (nI p) 2 σ = some (B (3 + 13 * p), σ) := by
  have hn := h.1
  obtain ⟨r1, r2, r3, r4, r5⟩ := hr.2.1 p hp
  unfold fn_X5_page
  rw [hc_r0, cs_hasPage h hr (by omega), Option.bind_some, if_pos hp, if_neg (show ¬ (1 : Int32) = 0 by decide), if_neg (show ¬ (2 : Int32) = 0 by decide), if_neg (show ¬ (2 : Int32) = 1 by decide), if_pos rfl, pl_at (r := hc_rf 1 3) (a := 7) (n := 32) (by decide) (by omega), Option.bind_some, show σ 7 p = B (3 + 13 * p) from r3]
theorem cs_page3 {n : Nat} {B : Nat → Int32} {σ : hb_Mem} {p : Nat} (h : pl_WB n B) (hr : pl_RS σ 1 n B) (hp : p < n) : fn_X5_page 0 (nI p) 3 σ = some (md B p, σ) := by
  have hn := h.1
  have hw := (h.2.2.1 p hp).1
  unfold fn_X5_page
  rw [hc_r0, cs_hasPage h hr (by omega), Option.bind_some, if_pos hp, if_neg (show ¬ (1 : Int32) = 0 by decide), if_neg (show ¬ (3 : Int32) = 0 by decide), if_neg (show ¬ (3 : Int32) = 1 by decide), if_neg (show ¬ (3 : Int32) = 2 by decide), if_pos rfl, pc_mood (by decide) h hr hp, Option.bind_some, pf_bitsC hw.1 hw.2, Option.bind_some]
  rfl
theorem cs_page4 {n : Nat} {B : Nat → Int32} {σ : hb_Mem} {p : Nat} (h : pl_WB n B) (hr : pl_RS σ 1 n B) (hp : p < n) : fn_X5_page 0 (nI p) 4 σ = some (kd B p, σ) := by
  have hn := h.1
  unfold fn_X5_page
  rw [hc_r0, cs_hasPage h hr (by omega), Option.bind_some, if_pos hp, if_neg (show ¬ (1 : Int32) = 0 by decide), if_neg (show ¬ (4 : Int32) = 0 by decide), if_neg (show ¬ (4 : Int32) = 1 by decide), if_neg (show ¬ (4 : Int32) = 2 by decide), if_neg (show ¬ (4 : Int32) = 3 by decide), if_pos rfl, pc_kind (by decide) h hr hp, Option.bind_some]
  rfl
theorem cs_page10 {n : Nat} {B : Nat → Int32} {σ : hb_Mem} {p : Nat} (h : pl_WB n B) (hr : pl_RS σ 1 n B) (hp : p < n) : fn_X5_page 0 (nI p) 10 σ = some (nI (sp_to n B (nI p)), σ) := by
  have hn := h.1
  unfold fn_X5_page
  rw [hc_r0, cs_hasPage h hr (by omega), Option.bind_some, if_pos hp, if_neg (show ¬ (1 : Int32) = 0 by decide), if_neg (show ¬ (10 : Int32) = 0 by decide), if_neg (show ¬ (10 : Int32) = 1 by decide), if_neg (show ¬ (10 : Int32) = 2 by decide), if_neg (show ¬ (10 : Int32) = 3 by decide), if_neg (show ¬ (10 : Int32) = 4 by decide), if_neg (show ¬ (10 : Int32) = 5 by decide), if_neg (show ¬ (10 : Int32) = 6 by decide), if_neg (show ¬ (10 : Int32) = 7 by decide), if_neg (show ¬ (10 : Int32) = 8 by decide), if_neg (show ¬ (10 : Int32) = 9 by decide), if_pos rfl, pc_to h hr, Option.bind_some]
/-- what a survey is asked: the memory goes on to one that knows -/
def Sv (n : Nat) (B : Nat → Int32) (σ σ' : hb_Mem) : Prop := (∀ c, c < 147 → σ' c = σ c) ∧ σ' 147 0 = 1 ∧ pc_SV σ' n B (pb_pl n B)
theorem Sv.known {n : Nat} {B : Nat → Int32} {σ σ' : hb_Mem} (h : Sv n B σ σ') : pc_known σ' n B := Or.inr ⟨h.2.1, h.2.2⟩
theorem Sv.RS {n : Nat} {B : Nat → Int32} {σ σ' : hb_Mem} (h : Sv n B σ σ') (hr : pl_RS σ 1 n B) : pl_RS σ' 1 n B := hr.congr (fun c _ h2 => h.1 c (by omega))
theorem cs_sv {n : Nat} {B : Nat → Int32} {σ : hb_Mem} (h : pl_WB n B) (hr : pl_RS σ 1 n B) (hk : pc_known σ n B) : ∃ σ', fn_X5_surveyed 0 σ = some σ' ∧ Sv n B σ σ' := by
  obtain ⟨σ', s1, s2, s3, s4⟩ := pc_surveyed h hr hk
  exact ⟨σ', s1, s2, s3, s4⟩
/-- a question that asks the survey, of a memory that knows already: nothing changes -/
theorem Sv.same {n : Nat} {B : Nat → Int32} {σ σ' : hb_Mem} (h : Sv n B σ σ') : fn_X5_surveyed 0 σ' = some σ' := pc_surveyed2 h.2.1
theorem cs_page5 {n : Nat} {B : Nat → Int32} {σ : hb_Mem} {p : Nat} (h : pl_WB n B) (hr : pl_RS σ 1 n B) (hk : pc_known σ n B) (hp : p < n) : ∃ σ', fn_X5_page 0 (nI p) 5 σ = some (if sp_dead (pb_pl n B) p = true then 1 else 0, σ') ∧ Sv n B σ σ' := by
  have hn := h.1
  have hM := pb_pl_good h
  obtain ⟨σ', s1, s2⟩ := cs_sv h hr hk
  refine ⟨σ', ?_, s2⟩
  unfold fn_X5_page
  rw [hc_r0, cs_hasPage h hr (by omega), Option.bind_some, if_pos hp, if_neg (show ¬ (1 : Int32) = 0 by decide), if_neg (show ¬ (5 : Int32) = 0 by decide), if_neg (show ¬ (5 : Int32) = 1 by decide), if_neg (show ¬ (5 : Int32) = 2 by decide), if_neg (show ¬ (5 : Int32) = 3 by decide), if_neg (show ¬ (5 : Int32) = 4 by decide), if_pos rfl, hc_r6, s1, Option.bind_some, pc_dead s2.2.2 hn hM (by omega), Option.bind_some, pc_oneIf, Option.bind_some]
theorem cs_page6 {n : Nat} {B : Nat → Int32} {σ : hb_Mem} {p : Nat} (h : pl_WB n B) (hr : pl_RS σ 1 n B) (hk : pc_known σ n B) (hp : p < n) : ∃ σ', fn_X5_page 0 (nI p) 6 σ = some (if sp_again (pg_nx B) (pb_pl n B) p = true then 1 else 0, σ') ∧ Sv n B σ σ' := by
  have hn := h.1
  have hM := pb_pl_good h
  obtain ⟨σ', s1, s2⟩ := cs_sv h hr hk
  refine ⟨σ', ?_, s2⟩
  unfold fn_X5_page
  rw [hc_r0, cs_hasPage h hr (by omega), Option.bind_some, if_pos hp, if_neg (show ¬ (1 : Int32) = 0 by decide), if_neg (show ¬ (6 : Int32) = 0 by decide), if_neg (show ¬ (6 : Int32) = 1 by decide), if_neg (show ¬ (6 : Int32) = 2 by decide), if_neg (show ¬ (6 : Int32) = 3 by decide), if_neg (show ¬ (6 : Int32) = 4 by decide), if_neg (show ¬ (6 : Int32) = 5 by decide), if_pos rfl, hc_r6, s1, Option.bind_some, pc_again s2.2.2 hn hM (by omega), Option.bind_some, pc_oneIf, Option.bind_some]
theorem cs_page7 {n : Nat} {B : Nat → Int32} {σ : hb_Mem} {p : Nat} (h : pl_WB n B) (hr : pl_RS σ 1 n B) (hk : pc_known σ n B) (hp : p < n) : ∃ σ', fn_X5_page 0 (nI p) 7 σ = some (if sp_stucks B (pb_pl n B) p = 0 then 0 else 1, σ') ∧ Sv n B σ σ' := by
  have hn := h.1
  have hM := pb_pl_good h
  obtain ⟨σ', s1, s2⟩ := cs_sv h hr hk
  refine ⟨σ', ?_, s2⟩
  have hle : sp_stucks B (pb_pl n B) p ≤ 32 * 1 := ct_le 32 (fun i hi => by split <;> omega)
  unfold fn_X5_page jn_X5_page_169
  rw [hc_r0, cs_hasPage h hr (by omega), Option.bind_some, if_pos hp, if_neg (show ¬ (1 : Int32) = 0 by decide), if_neg (show ¬ (7 : Int32) = 0 by decide), if_neg (show ¬ (7 : Int32) = 1 by decide), if_neg (show ¬ (7 : Int32) = 2 by decide), if_neg (show ¬ (7 : Int32) = 3 by decide), if_neg (show ¬ (7 : Int32) = 4 by decide), if_neg (show ¬ (7 : Int32) = 5 by decide), if_neg (show ¬ (7 : Int32) = 6 by decide), if_pos rfl, hc_r6, s1, Option.bind_some, pc_stucksWith s2.2.2 hn hM (by omega), Option.bind_some]
  by_cases hz : sp_stucks B (pb_pl n B) p = 0
  · rw [if_pos (show nI (sp_stucks B (pb_pl n B) p) ≤ 0 by rw [hz]; decide), if_pos hz]
    rfl
  · rw [if_neg (show ¬ nI (sp_stucks B (pb_pl n B) p) ≤ 0 by show ¬ _ ≤ nI 0; rw [nI_leI (by omega) (by omega)]; omega), if_neg hz]
    rfl
theorem cs_page8 {n : Nat} {B : Nat → Int32} {σ : hb_Mem} {p : Nat} (h : pl_WB n B) (hr : pl_RS σ 1 n B) (hk : pc_known σ n B) (hp : p < n) : ∃ σ', fn_X5_page 0 (nI p) 8 σ = some (nI (sp_places (pb_pl n B) p), σ') ∧ Sv n B σ σ' := by
  have hn := h.1
  have hM := pb_pl_good h
  obtain ⟨σ', s1, s2⟩ := cs_sv h hr hk
  refine ⟨σ', ?_, s2⟩
  unfold fn_X5_page
  rw [hc_r0, cs_hasPage h hr (by omega), Option.bind_some, if_pos hp, if_neg (show ¬ (1 : Int32) = 0 by decide), if_neg (show ¬ (8 : Int32) = 0 by decide), if_neg (show ¬ (8 : Int32) = 1 by decide), if_neg (show ¬ (8 : Int32) = 2 by decide), if_neg (show ¬ (8 : Int32) = 3 by decide), if_neg (show ¬ (8 : Int32) = 4 by decide), if_neg (show ¬ (8 : Int32) = 5 by decide), if_neg (show ¬ (8 : Int32) = 6 by decide), if_neg (show ¬ (8 : Int32) = 7 by decide), if_pos rfl, hc_r6, s1, Option.bind_some, pc_placesWith s2.2.2 hn hM (by omega), Option.bind_some]
theorem cs_page9 {n : Nat} {B : Nat → Int32} {σ : hb_Mem} {p : Nat} (h : pl_WB n B) (hr : pl_RS σ 1 n B) (hk : pc_known σ n B) (hp : p < n) : ∃ σ', fn_X5_page 0 (nI p) 9 σ = some (sp_few (pb_pl n B) p, σ') ∧ Sv n B σ σ' := by
  have hn := h.1
  have hM := pb_pl_good h
  obtain ⟨σ', s1, s2⟩ := cs_sv h hr hk
  refine ⟨σ', ?_, s2⟩
  unfold fn_X5_page
  rw [hc_r0, cs_hasPage h hr (by omega), Option.bind_some, if_pos hp, if_neg (show ¬ (1 : Int32) = 0 by decide), if_neg (show ¬ (9 : Int32) = 0 by decide), if_neg (show ¬ (9 : Int32) = 1 by decide), if_neg (show ¬ (9 : Int32) = 2 by decide), if_neg (show ¬ (9 : Int32) = 3 by decide), if_neg (show ¬ (9 : Int32) = 4 by decide), if_neg (show ¬ (9 : Int32) = 5 by decide), if_neg (show ¬ (9 : Int32) = 6 by decide), if_neg (show ¬ (9 : Int32) = 7 by decide), if_neg (show ¬ (9 : Int32) = 8 by decide), if_pos rfl, hc_r6, s1, Option.bind_some, pc_few s2.2.2 hn hM (by omega), Option.bind_some]
-- choices
theorem cs_choiceU {n : Nat} {B : Nat → Int32} {σ : hb_Mem} (h : pl_WB n B) (hr : pl_RS σ 1 n B) (x y : Int32) (hno : ∀ p c, p < n → c < pl_m B p → ¬ (x = nI p ∧ y = nI c)) (w : Int32) : fn_X5_choice 0 x y w σ = some (-1, σ) := by
  unfold fn_X5_choice
  rcases cs_choice h hr x y with ⟨p, c, hp, hc, e1, e2, e3⟩ | ⟨-, e3⟩
  · exact absurd ⟨e1, e2⟩ (hno p c hp hc)
  · rw [hc_r0, e3, Option.bind_some, if_pos rfl]
theorem cs_has1 {n p c : Nat} {B : Nat → Int32} {σ : hb_Mem} (h : pl_WB n B) (hr : pl_RS σ 1 n B) (hp : p < n) (hc : c < pl_m B p) : fn_X2_hasChoice 1 (nI p) (nI c) σ = some 1 := by
  rcases cs_choice h hr (nI p) (nI c) with ⟨p', c', hp', hc', e1, e2, e3⟩ | ⟨hno, e3⟩
  · exact e3
  · exact absurd ⟨rfl, rfl⟩ (hno p c hp hc)
theorem cs_choice0 {n p c : Nat} {B : Nat → Int32} {σ : hb_Mem} (h : pl_WB n B) (hr : pl_RS σ 1 n B) (hp : p < n) (hc : c < pl_m B p) : fn_X5_choice 0 (nI p) (nI c) 0 σ = some (B (5 + 13 * p + 3 * c), σ) := by
  have hn := h.1
  have hm := (h.m hp).1
  obtain ⟨r1, r2, r3⟩ := (hr.2.1 p hp).2.2.2.2 c hc
  unfold fn_X5_choice
  rw [hc_r0, cs_has1 h hr hp hc, Option.bind_some, if_neg (show ¬ (1 : Int32) = 0 by decide), pc_slot, Option.bind_some, if_pos rfl, pl_at (r := hc_rf 1 5) (a := 11) (n := 96) (by decide) (by omega), Option.bind_some, show σ 11 (3 * p + c) = B (5 + 13 * p + 3 * c) from r1]
theorem cs_choice1 {n p c : Nat} {B : Nat → Int32} {σ : hb_Mem} (h : pl_WB n B) (hr : pl_RS σ 1 n B) (hp : p < n) (hc : c < pl_m B p) : fn_X5_choice 0 (nI p) (nI c) 1 σ = some (B (6 + 13 * p + 3 * c), σ) := by
  have hn := h.1
  have hm := (h.m hp).1
  obtain ⟨r1, r2, r3⟩ := (hr.2.1 p hp).2.2.2.2 c hc
  unfold fn_X5_choice
  rw [hc_r0, cs_has1 h hr hp hc, Option.bind_some, if_neg (show ¬ (1 : Int32) = 0 by decide), pc_slot, Option.bind_some, if_neg (show ¬ (1 : Int32) = 0 by decide), if_pos rfl, pl_at (r := hc_rf 1 6) (a := 13) (n := 96) (by decide) (by omega), Option.bind_some, show σ 13 (3 * p + c) = B (6 + 13 * p + 3 * c) from r2]
theorem cs_choice2 {n p c : Nat} {B : Nat → Int32} {σ : hb_Mem} (h : pl_WB n B) (hr : pl_RS σ 1 n B) (hp : p < n) (hc : c < pl_m B p) : fn_X5_choice 0 (nI p) (nI c) 2 σ = some (B (7 + 13 * p + 3 * c), σ) := by
  have hn := h.1
  have hm := (h.m hp).1
  obtain ⟨r1, r2, r3⟩ := (hr.2.1 p hp).2.2.2.2 c hc
  unfold fn_X5_choice
  rw [hc_r0, cs_has1 h hr hp hc, Option.bind_some, if_neg (show ¬ (1 : Int32) = 0 by decide), pc_slot, Option.bind_some, if_neg (show ¬ (2 : Int32) = 0 by decide), if_neg (show ¬ (2 : Int32) = 1 by decide), if_pos rfl, pl_at (r := hc_rf 1 7) (a := 15) (n := 96) (by decide) (by omega), Option.bind_some, show σ 15 (3 * p + c) = B (7 + 13 * p + 3 * c) from r3]
-- readers
theorem cs_whyU {σ : hb_Mem} {c : Nat} (hc : c < 2 ^ 31) : fn_X5_why 0 (nI 2) (nI c) σ = some (-1) := by
  unfold fn_X5_why
  rcases cs_isReader (nI 2) with ⟨r, hr, e, -⟩ | ⟨-, e⟩
  · have := (nI_eq (by omega) (by omega)).mp e
    omega
  · rw [e, Option.bind_some, if_pos rfl]
theorem cs_why3 {σ : hb_Mem} {r : Nat} (hr : r < 2) : fn_X5_why 0 (nI r) (nI 3) σ = some (-2) := by
  unfold fn_X5_why
  rw [cs_reader1 hr, Option.bind_some, if_neg (show ¬ (1 : Int32) = 0 by decide), show fn_X5_isChoiceNumber (nI 3) = some 0 from by decide +kernel, Option.bind_some, if_pos rfl]
theorem cs_why {n : Nat} {B : Nat → Int32} {σ : hb_Mem} {r c : Nat} (h : pl_WB n B) (hr : pl_RS σ 1 n B) (hr2 : r < 2) (hc : c < 3) : fn_X5_why 0 (nI r) (nI c) σ = some (sp_why B r c) := by
  unfold fn_X5_why
  rw [cs_reader1 hr2, Option.bind_some, if_neg (show ¬ (1 : Int32) = 0 by decide), cs_number1 hc, Option.bind_some, if_neg (show ¬ (1 : Int32) = 0 by decide), hc_r0, pc_whyR h hr hr2 hc]
  rfl
/-- what reader tells: of its page, its flags, its open choices, its choices taken -/
def rd (B : Nat → Int32) (r w : Nat) : Int32 := if B (417 + 3 * r) = -5 then -5 else if w = 0 then B (417 + 3 * r) else if w = 1 then B (418 + 3 * r) else if w = 2 then pg_set3 (pg_op B (32 * (B (417 + 3 * r)).toNatClampNeg + (B (418 + 3 * r)).toNatClampNeg) 0) (pg_op B (32 * (B (417 + 3 * r)).toNatClampNeg + (B (418 + 3 * r)).toNatClampNeg) 1) (pg_op B (32 * (B (417 + 3 * r)).toNatClampNeg + (B (418 + 3 * r)).toNatClampNeg) 2) else B (419 + 3 * r)
theorem cs_reader {n : Nat} {B : Nat → Int32} {σ : hb_Mem} {r w : Nat} (h : pl_WB n B) (hr : pl_RS σ 1 n B) (hr2 : r < 2) (hw : w < 4) : fn_X5_reader 0 (nI r) (nI w) σ = some (rd B r w) := by
  have hn := h.1
  have z1 : ¬ (1 : Int32) = 0 := by decide
  unfold fn_X5_reader
  rw [hc_r0, cs_reader1 hr2, Option.bind_some, if_neg z1, if_neg (nI_pos (by omega)), if_pos (by show nI w ≤ nI 3; rw [nI_leI (by omega) (by omega)]; omega), pc_rdr hr hr2, Option.bind_some]
  unfold rd
  rcases sp_plc (h.2.2.2.1 r hr2) with ⟨h5, e⟩ | ⟨p, g, hp, hg, ha, hf, e⟩
  · rw [e, if_pos rfl, if_pos h5]
  · have z2 : ¬ nI (32 * p + g) = -1 := pl_ne_neg (by omega) (by decide)
    have z3 : ¬ nI p = -5 := pl_ne_neg (by omega) (by decide)
    rw [e, if_neg z2, ha, if_neg z3, hf, nI_clamp (by omega), nI_clamp (by omega), pc_page (by omega), pc_flags (by omega), Option.bind_some, Option.bind_some, pc_open (by decide) h hr (by omega), Option.bind_some, pc_rtk hr hr2, Option.bind_some]
    have hw4 : w = 0 ∨ w = 1 ∨ w = 2 ∨ w = 3 := by omega
    rcases hw4 with rfl | rfl | rfl | rfl
    · rw [if_pos (show nI 0 = 0 from rfl), if_pos rfl, show (32 * p + g) / 32 = p by omega]
    · rw [if_neg (show ¬ nI 1 = 0 by decide), if_pos (show nI 1 = 1 from rfl), if_neg (show ¬ 1 = 0 by decide), if_pos rfl, show (32 * p + g) % 32 = g by omega]
    · rw [if_neg (show ¬ nI 2 = 0 by decide), if_neg (show ¬ nI 2 = 1 by decide), if_pos (show nI 2 = 2 from rfl), if_neg (show ¬ 2 = 0 by decide), if_neg (show ¬ 2 = 1 by decide), if_pos rfl]
    · rw [if_neg (show ¬ nI 3 = 0 by decide), if_neg (show ¬ nI 3 = 1 by decide), if_neg (show ¬ nI 3 = 2 by decide), if_neg (show ¬ 3 = 0 by decide), if_neg (show ¬ 3 = 1 by decide), if_neg (show ¬ 3 = 2 by decide)]
