/-! the class alone: acts on readers and the bookmark -/
theorem cs_reader2 : fn_X5_isReader (nI 2) = some 0 := by decide +kernel
def go (B : Nat → Int32) (r p g : Nat) (tk : Int32) : Nat → Int32 := fun j => if j = 417 + 3 * r then nI p else if j = 418 + 3 * r then nI g else if j = 419 + 3 * r then tk else B j
theorem go_off {B : Nat → Int32} {r p g j : Nat} {tk : Int32} (h : j < 417 + 3 * r ∨ 420 + 3 * r ≤ j) : go B r p g tk j = B j := by
  unfold go
  rw [if_neg (by omega), if_neg (by omega), if_neg (by omega)]
theorem go_0 {B : Nat → Int32} {r p g : Nat} {tk : Int32} : go B r p g tk (417 + 3 * r) = nI p := by
  unfold go
  rw [if_pos rfl]
theorem go_1 {B : Nat → Int32} {r p g : Nat} {tk : Int32} : go B r p g tk (418 + 3 * r) = nI g := by
  unfold go
  rw [if_neg (by omega), if_pos rfl]
theorem go_2 {B : Nat → Int32} {r p g : Nat} {tk : Int32} : go B r p g tk (419 + 3 * r) = tk := by
  unfold go
  rw [if_neg (by omega), if_neg (by omega), if_pos rfl]
theorem cs_goes {t n r p g w : Nat} {B : Nat → Int32} {σ : hb_Mem} (hO : ps_ok t n B) (hr : pl_RS σ 1 n B) (hr2 : r < 2) (hp : p < n) (hg : g < 32) (hw : w ≤ t + 1) : ∃ σ', fn_X2_putReader 1 (nI r) (nI (32 * p + g)) (nI w) σ = some σ' ∧ ps_ok (t + 1) n (go B r p g (nI w)) ∧ pl_RS σ' 1 n (go B r p g (nI w)) ∧ ∀ c, c ≠ 17 → c ≠ 19 → σ' c = σ c := by
  have h := hO.1
  have hn := h.1
  unfold fn_X2_putReader
  rw [pl_put (r := hc_rf 1 8) (a := 17) (n := 2) (by decide) hr2, Option.bind_some, pl_put (r := hc_rf 1 9) (a := 19) (n := 2) (by decide) hr2, Option.bind_some]
  obtain ⟨σ', hσ'⟩ : ∃ s, s = hb_up (hb_up σ 17 r (nI (32 * p + g))) 19 r (nI w) := ⟨_, rfl⟩
  have hoff2 : ∀ c, c ≠ 17 → c ≠ 19 → σ' c = σ c := fun c h1 h2 => by rw [hσ', hb_up_ne h2, hb_up_ne h1]
  rw [← hσ']
  have hlow : ∀ j, j < 417 → go B r p g (nI w) j = B j := fun j hj => go_off (by omega)
  have h423 : go B r p g (nI w) 423 = B 423 := go_off (by omega)
  have h424 : go B r p g (nI w) 424 = B 424 := go_off (by omega)
  have hW : pl_WB n (go B r p g (nI w)) := by
    refine wb_pages h hlow (fun r' hr' => ?_) (by rw [h423, h424]; exact h.2.2.2.2)
    by_cases e : r' = r
    · subst e
      rw [go_0, go_1]
      exact Or.inr ⟨⟨p, hp, rfl⟩, g, hg, rfl⟩
    · rw [go_off (by omega), go_off (by omega)]
      exact h.2.2.2.1 r' hr'
  refine ⟨σ', rfl, ⟨hW, fun r' hr' => ?_⟩, ?_, hoff2⟩
  · by_cases e : r' = r
    · subst e
      exact ⟨w, hw, go_2⟩
    · obtain ⟨w', k1, k2⟩ := hO.2 r' hr'
      exact ⟨w', by omega, by rw [go_off (by omega)]; exact k2⟩
  · refine rs_pages h hr hlow (by rw [hoff2 1 (by decide) (by decide)]) (fun c h1 h2 => hoff2 c (by omega) (by omega)) (fun r' hr' => ?_) (by rw [hoff2 1 (by decide) (by decide), h423, h424]; exact hr.2.2.2)
    by_cases e : r' = r
    · subst e
      refine ⟨?_, ?_⟩
      · rw [go_0, go_1, hσ', hb_up_ne (by decide), pl_up_same]
        unfold pl_plc
        rw [if_neg (pl_ne_neg (by omega) (by decide)), pl_place]
      · rw [go_2, hσ', pl_up_same]
    · obtain ⟨k1, k2⟩ := hr.2.2.1 r' hr'
      refine ⟨?_, ?_⟩
      · rw [go_off (by omega), go_off (by omega), hσ', hb_up_ne (by decide), pl_up_other e]
        exact k1
      · rw [go_off (by omega), hσ', pl_up_other e, hb_up_ne (by decide)]
        exact k2
theorem pg_com0 (B : Nat → Int32) (p : Nat) : pg_com B p 0 = pg_set B p := by
  unfold pg_com
  rw [Nat.zero_and, Nat.zero_or]
theorem cs_beginU {σ : hb_Mem} : fn_X5_begin 0 (nI 2) σ = some (-1, σ) := by
  unfold fn_X5_begin
  rw [cs_reader2, Option.bind_some, if_pos rfl]
theorem cs_begin0 {t sz nx len r : Nat} {B : Nat → Int32} {σ : hb_Mem} (h : Rl t 0 B sz nx len σ) (hr2 : r < 2) : fn_X5_begin 0 (nI r) σ = some (-4, σ) := by
  unfold fn_X5_begin
  rw [cs_reader1 hr2, Option.bind_some, if_neg (show ¬ (1 : Int32) = 0 by decide), hc_r0, h.2.1.1, if_pos (show nI 0 = 0 from rfl)]
theorem cs_begin {t n sz nx len r : Nat} {B : Nat → Int32} {σ : hb_Mem} (h : Rl t n B sz nx len σ) (hr2 : r < 2) (hn0 : 0 < n) : ∃ σ', fn_X5_begin 0 (nI r) σ = some (B 2, σ') ∧ Ac t n B sz nx len n (go B r 0 (pg_set B 0) (nI 0)) σ' := by
  have hW := h.1.1
  have hn := hW.1
  obtain ⟨σ1, r1, r2, r3, r4, r5, r6⟩ := cs_record h
  have hr1 := r2.2.1
  have hs0 := hW.set hn0
  have hc0 : pg_com B 0 0 < 32 := pg_com_lt hW hn0 (by decide)
  have hfp : fn_X2_firstPlace 1 σ1 = some (nI (32 * 0 + pg_com B 0 0)) := by
    unfold fn_X2_firstPlace
    rw [show (0 : Int32) = nI 0 from rfl, pc_com (k := 1) (p := 0) (f := 0) (by decide) hW hr1 hn0 (by decide)]
    rfl
  obtain ⟨σ2, g1, g2, g3, g4⟩ := cs_goes (t := t) (w := 0) h.1 hr1 hr2 hn0 hc0 (by omega)
  unfold fn_X5_begin
  rw [cs_reader1 hr2, Option.bind_some, if_neg (show ¬ (1 : Int32) = 0 by decide), hc_r0, h.2.1.1, if_neg (fun hc => by have := (pl_eq0 (by omega)).mp hc; omega), r1, Option.bind_some, hfp, Option.bind_some]
  have g1' : fn_X2_putReader 1 (nI r) (nI (32 * 0 + pg_com B 0 0)) 0 σ1 = some σ2 := g1
  rw [g1', Option.bind_some, pc_flags (by omega), Option.bind_some, show (32 * 0 + pg_com B 0 0) % 32 = pg_com B 0 0 by omega]
  rw [pg_com0] at g2 g3 ⊢
  refine ⟨σ2, ?_, Ac.of r2 r3 r4 (fun c hc => g4 c (by omega) (by omega)) g2 g3⟩
  rw [← hs0.2]
theorem cs_chooseU {σ : hb_Mem} {c : Nat} : fn_X5_choose 0 (nI 2) (nI c) σ = some (-1, σ) := by
  unfold fn_X5_choose
  rw [cs_reader2, Option.bind_some, if_pos rfl]
theorem cs_choose3 {σ : hb_Mem} {r : Nat} (hr2 : r < 2) : fn_X5_choose 0 (nI r) (nI 3) σ = some (-2, σ) := by
  unfold fn_X5_choose
  rw [cs_reader1 hr2, Option.bind_some, if_neg (show ¬ (1 : Int32) = 0 by decide), show fn_X5_isChoiceNumber (nI 3) = some 0 from by decide +kernel, Option.bind_some, if_pos rfl]
theorem cs_chooseN {n r c : Nat} {B : Nat → Int32} {σ : hb_Mem} (h : pl_WB n B) (hr : pl_RS σ 1 n B) (hr2 : r < 2) (hc : c < 3) (hw : ¬ sp_why B r c = 0) : fn_X5_choose 0 (nI r) (nI c) σ = some (-4, σ) := by
  unfold fn_X5_choose
  rw [cs_reader1 hr2, Option.bind_some, if_neg (show ¬ (1 : Int32) = 0 by decide), cs_number1 hc, Option.bind_some, if_neg (show ¬ (1 : Int32) = 0 by decide), hc_r0, pc_whyR h hr hr2 hc, Option.bind_some, if_neg hw]
/-- a reader who may take a choice stands at a place with that choice -/
theorem sp_why0 {n r c : Nat} {B : Nat → Int32} (h : pl_WB n B) (hr2 : r < 2) (hw : sp_why B r c = 0) : ∃ p g, p < n ∧ g < 32 ∧ B (417 + 3 * r) = nI p ∧ B (418 + 3 * r) = nI g ∧ pg_why B p g c = 0 ∧ c < pl_m B p := by
  have hn := h.1
  rcases sp_plc (h.2.2.2.1 r hr2) with ⟨h5, e⟩ | ⟨p, g, hp, hg, ha, hf, e⟩
  · exfalso
    unfold sp_why at hw
    rw [if_pos h5] at hw
    exact absurd hw (by decide)
  · rw [sp_why_at (by omega) hg ha hf] at hw
    have hw5 := pg_why_lt B p g c
    have hw0 : pg_why B p g c = 0 := (pl_eq0 (by omega)).mp hw
    exact ⟨p, g, hp, hg, ha, hf, hw0, pg_why_c hw0⟩
theorem cs_choose {t n sz nx len r c : Nat} {B : Nat → Int32} {σ : hb_Mem} (h : Rl t n B sz nx len σ) (hr2 : r < 2) (hc : c < 3) (hw : sp_why B r c = 0) (ht : t < 1000) : ∃ p u g w σ', B (417 + 3 * r) = nI p ∧ p < n ∧ c < pl_m B p ∧ u < n ∧ B (5 + 13 * p + 3 * c) = nI u ∧ B (419 + 3 * r) = nI w ∧ w ≤ t ∧ fn_X5_choose 0 (nI r) (nI c) σ = some (nI u, σ') ∧ g < 32 ∧ Ac t n B sz nx len n (go B r u g (nI (w + 1))) σ' := by
  have hW := h.1.1
  have hn := hW.1
  obtain ⟨p, g, hp, hg, ha, hf, hw0, hcm⟩ := sp_why0 hW hr2 hw
  obtain ⟨t1, t2⟩ := hW.to hp hcm
  obtain ⟨w, w1, w2⟩ := h.1.2 r hr2
  obtain ⟨σ1, r1, r2, r3, r4, r5, r6⟩ := cs_record h
  have hr1 := r2.2.1
  have hcom := pg_com_lt hW t1 hg
  have e : pl_plc (B (417 + 3 * r)) (B (418 + 3 * r)) = nI (32 * p + g) := by
    unfold pl_plc
    rw [ha, hf, if_neg (pl_ne_neg (by omega) (by decide)), pl_place]
  have hnx : pg_nx B (32 * p + g) c = some (32 * pg_to B p c + pg_com B (pg_to B p c) g) := by
    unfold pg_nx
    rw [show (32 * p + g) / 32 = p by omega, show (32 * p + g) % 32 = g by omega, if_pos hw0]
  have hpl : fn_X1_at (hc_rf 1 8) (nI r) σ1 = some (nI (32 * p + g)) := by rw [pc_rdr hr1 hr2, e]
  have htk : fn_X1_at (hc_rf 1 9) (nI r) σ1 = some (nI w) := by rw [pc_rtk hr1 hr2, w2]
  obtain ⟨σ2, g1, g2, g3, g4⟩ := cs_goes (t := t) (w := w + 1) h.1 hr1 hr2 t1 hcom (by omega)
  refine ⟨p, pg_to B p c, pg_com B (pg_to B p c) g, w, σ2, ha, hp, hcm, t1, t2, w2, w1, ?_, hcom, Ac.of r2 r3 r4 (fun c hc => g4 c (by omega) (by omega)) g2 g3⟩
  unfold fn_X5_choose
  rw [cs_reader1 hr2, Option.bind_some, if_neg (show ¬ (1 : Int32) = 0 by decide), cs_number1 hc, Option.bind_some, if_neg (show ¬ (1 : Int32) = 0 by decide), hc_r0, pc_whyR hW h.2.1 hr2 hc, Option.bind_some, if_pos hw, r1, Option.bind_some, hpl, Option.bind_some, pc_nx (by decide) hW hr1 (by omega) hnx, Option.bind_some, htk, Option.bind_some, nI_1, g1, Option.bind_some, pc_page (by omega), Option.bind_some, show (32 * pg_to B p c + pg_com B (pg_to B p c) g) / 32 = pg_to B p c by omega]
-- the bookmark
def mk (B : Nat → Int32) (p g : Nat) : Nat → Int32 := fun j => if j = 423 then nI p else if j = 424 then nI g else B j
theorem mk_off {B : Nat → Int32} {p g j : Nat} (h : j < 423) : mk B p g j = B j := by
  unfold mk
  rw [if_neg (by omega), if_neg (by omega)]
theorem cs_markU {σ : hb_Mem} : fn_X5_mark 0 (nI 2) σ = some (-1, σ) := by
  unfold fn_X5_mark
  rw [cs_reader2, Option.bind_some, if_pos rfl]
theorem cs_goU {σ : hb_Mem} : fn_X5_goToMark 0 (nI 2) σ = some (-1, σ) := by
  unfold fn_X5_goToMark
  rw [cs_reader2, Option.bind_some, if_pos rfl]
theorem cs_markN {n r : Nat} {B : Nat → Int32} {σ : hb_Mem} (h : pl_WB n B) (hr : pl_RS σ 1 n B) (hr2 : r < 2) (h5 : B (417 + 3 * r) = -5) : fn_X5_mark 0 (nI r) σ = some (-4, σ) := by
  unfold fn_X5_mark
  rw [cs_reader1 hr2, Option.bind_some, if_neg (show ¬ (1 : Int32) = 0 by decide), hc_r0, pc_rdr hr hr2, Option.bind_some, h5]
  rw [show ∀ f, pl_plc (-5) f = -1 from fun f => if_pos rfl, if_pos rfl]
theorem cs_goN {n r : Nat} {B : Nat → Int32} {σ : hb_Mem} (h : pl_WB n B) (hr : pl_RS σ 1 n B) (hr2 : r < 2) (h5 : B 423 = -5) : fn_X5_goToMark 0 (nI r) σ = some (-4, σ) := by
  unfold fn_X5_goToMark
  rw [cs_reader1 hr2, Option.bind_some, if_neg (show ¬ (1 : Int32) = 0 by decide), hc_r0, hr.2.2.2, h5]
  rw [show ∀ f, pl_plc (-5) f = -1 from fun f => if_pos rfl, if_pos rfl]
theorem pl_plc_at {p g : Nat} {a f : Int32} (hp : p < 32) (ha : a = nI p) (hf : f = nI g) : pl_plc a f = nI (32 * p + g) := by
  unfold pl_plc
  rw [ha, hf, if_neg (pl_ne_neg (by omega) (by decide)), pl_place]
/-- who stands at the bookmark -/
theorem cs_goSame {n r p g : Nat} {B : Nat → Int32} {σ : hb_Mem} (h : pl_WB n B) (hr : pl_RS σ 1 n B) (hr2 : r < 2) (hp : p < 32) (hg : g < 32) (h1 : B 423 = nI p) (h2 : B 424 = nI g) (h3 : B (417 + 3 * r) = nI p) (h4 : B (418 + 3 * r) = nI g) : fn_X5_goToMark 0 (nI r) σ = some (-5, σ) := by
  unfold fn_X5_goToMark
  rw [cs_reader1 hr2, Option.bind_some, if_neg (show ¬ (1 : Int32) = 0 by decide), hc_r0, hr.2.2.2, pl_plc_at hp h1 h2, if_neg (pl_ne_neg (by omega) (by decide)), pc_rdr hr hr2, Option.bind_some, pl_plc_at hp h3 h4, if_pos rfl]
theorem cs_mark {t n sz nx len r p g : Nat} {B : Nat → Int32} {σ : hb_Mem} (h : Rl t n B sz nx len σ) (hr2 : r < 2) (hp : p < n) (hg : g < 32) (ha : B (417 + 3 * r) = nI p) (hf : B (418 + 3 * r) = nI g) : (B 423 = nI p ∧ B 424 = nI g ∧ fn_X5_mark 0 (nI r) σ = some (-5, σ)) ∨ ∃ σ', fn_X5_mark 0 (nI r) σ = some (nI p, σ') ∧ Ac t n B sz nx len n (mk B p g) σ' := by
  have hW := h.1.1
  have hn := hW.1
  have hr := h.2.1
  have z2 : ¬ nI (32 * p + g) = -1 := pl_ne_neg (by omega) (by decide)
  unfold fn_X5_mark
  rw [cs_reader1 hr2, Option.bind_some, if_neg (show ¬ (1 : Int32) = 0 by decide), hc_r0, pc_rdr hr hr2, Option.bind_some, pl_plc_at (by omega) ha hf, if_neg z2, hr.2.2.2]
  by_cases q : pl_plc (B 423) (B 424) = nI (32 * p + g)
  · left
    rw [if_pos q]
    rcases sp_plc hW.2.2.2.2 with ⟨h5, e⟩ | ⟨p', g', hp', hg', ha', hf', e'⟩
    · rw [e] at q
      exact absurd q.symm z2
    · rw [e'] at q
      have := (nI_eq (by omega) (by omega)).mp q
      have e1 : p' = p := by omega
      have e2 : g' = g := by omega
      exact ⟨by rw [ha', e1], by rw [hf', e2], rfl⟩
  · right
    obtain ⟨σ1, r1, r2, r3, r4, r5, r6⟩ := cs_record h
    have hr1 := r2.2.1
    rw [if_neg q, r1, Option.bind_some, pc_page (by omega)]
    simp only [hb_nm]
    rw [Option.bind_some, show (32 * p + g) / 32 = p by omega]
    have b423 : mk B p g 423 = nI p := if_pos rfl
    have b424 : mk B p g 424 = nI g := by
      unfold mk
      rw [if_neg (by decide), if_pos rfl]
    have hWm : pl_WB n (mk B p g) := by
      refine wb_pages hW (fun j hj => mk_off (by omega)) (fun r' hr' => ?_) ?_
      · rw [mk_off (by omega), mk_off (by omega)]
        exact hW.2.2.2.1 r' hr'
      · rw [b423, b424]
        exact Or.inr ⟨⟨p, hp, rfl⟩, g, hg, rfl⟩
    have hR : pl_RS (hb_up σ1 1 10 (nI (32 * p + g))) 1 n (mk B p g) := by
      refine rs_pages hW hr1 (fun j hj => mk_off (by omega)) (pl_up_other (by decide)) (fun c k1 k2 => hb_up_ne (by omega)) (fun r' hr' => ?_) ?_
      · rw [mk_off (by omega), mk_off (by omega), mk_off (by omega), hb_up_ne (by decide), hb_up_ne (by decide)]
        exact hr1.2.2.1 r' hr'
      · rw [b423, b424, pl_up_same, pl_plc_at (by omega) rfl rfl]
    refine ⟨_, rfl, Ac.of r2 r3 r4 (fun c hc => hb_up_ne (by omega)) ⟨hWm, fun r' hr' => ?_⟩ hR⟩
    obtain ⟨w, w1, w2⟩ := h.1.2 r' hr'
    exact ⟨w, by omega, by rw [mk_off (by omega)]; exact w2⟩
theorem cs_go {t n sz nx len r p g : Nat} {B : Nat → Int32} {σ : hb_Mem} (h : Rl t n B sz nx len σ) (hr2 : r < 2) (hp : p < n) (hg : g < 32) (ha : B 423 = nI p) (hf : B 424 = nI g) : (¬ B (417 + 3 * r) = -5 ∧ fn_X5_goToMark 0 (nI r) σ = some (-5, σ)) ∨ ∃ σ', fn_X5_goToMark 0 (nI r) σ = some (nI p, σ') ∧ Ac t n B sz nx len n (go B r p g (nI 0)) σ' := by
  have hW := h.1.1
  have hn := hW.1
  have hr := h.2.1
  have z2 : ¬ nI (32 * p + g) = -1 := pl_ne_neg (by omega) (by decide)
  unfold fn_X5_goToMark
  rw [cs_reader1 hr2, Option.bind_some, if_neg (show ¬ (1 : Int32) = 0 by decide), hc_r0, hr.2.2.2, pl_plc_at (by omega) ha hf, if_neg z2, pc_rdr hr hr2, Option.bind_some]
  by_cases q : pl_plc (B (417 + 3 * r)) (B (418 + 3 * r)) = nI (32 * p + g)
  · left
    rw [if_pos q]
    refine ⟨fun hc => ?_, rfl⟩
    rw [hc] at q
    rw [show ∀ f, pl_plc (-5) f = -1 from fun f => if_pos rfl] at q
    exact z2 q.symm
  · right
    obtain ⟨σ1, r1, r2, r3, r4, r5, r6⟩ := cs_record h
    have hr1 := r2.2.1
    obtain ⟨σ2, g1, g2, g3, g4⟩ := cs_goes (t := t) (w := 0) h.1 hr1 hr2 hp hg (by omega)
    have e10 : σ1 1 10 = nI (32 * p + g) := by rw [hr1.2.2.2, pl_plc_at (by omega) ha hf]
    have g1' : fn_X2_putReader 1 (nI r) (nI (32 * p + g)) 0 σ1 = some σ2 := g1
    rw [if_neg q, r1, Option.bind_some, e10, g1', Option.bind_some, g4 1 (by decide) (by decide), e10, pc_page (by omega), Option.bind_some, show (32 * p + g) / 32 = p by omega]
    exact ⟨σ2, rfl, Ac.of r2 r3 r4 (fun c hc => g4 c (by omega) (by omega)) g2 g3⟩
-- the text
theorem cs_type {t n sz nx len : Nat} {B : Nat → Int32} {σ : hb_Mem} (h : Rl t n B sz nx len σ) (hl : len < 60) (v : Int32) : ∃ σ', fn_X5_type 0 v σ = some (nI (len + 1), σ') ∧ Rl t n B sz nx (len + 1) σ' := by
  have t2 := h.2.2.2.2.2.2
  unfold fn_X5_type fn_X4_append
  rw [show hc_rf 0 5 = 136 from by decide, t2, if_pos (by show nI len < nI 60; rw [nI_ltI (by omega) (by omega)]; omega), pl_put (r := hc_rf 136 0) (a := 138) (n := 60) (by decide) (by omega), Option.bind_some]
  simp only [hb_nm]
  rw [Option.bind_some, pl_up_same, pl_up_ne (by decide), t2, nI_1]
  refine ⟨hb_up (hb_up σ 138 len v) 136 1 (nI (len + 1)), rfl, h.text (fun c k1 k2 => ?_) ⟨by omega, pl_up_same _ _ _ _⟩⟩
  rw [hb_up_ne (by omega), hb_up_ne (by omega)]
theorem cs_clear {t n sz nx len : Nat} {B : Nat → Int32} {σ : hb_Mem} (h : Rl t n B sz nx len σ) : ∃ σ', fn_X5_clearText 0 σ = some (nI len, σ') ∧ Rl t n B sz nx 0 σ' := by
  have t2 := h.2.2.2.2.2.2
  unfold fn_X5_clearText
  simp only [hb_nm]
  rw [show hc_rf 0 5 = 136 from by decide, t2]
  exact ⟨hb_up σ 136 1 0, rfl, h.text (fun c k1 k2 => hb_up_ne (by omega)) ⟨by omega, pl_up_same _ _ _ _⟩⟩
