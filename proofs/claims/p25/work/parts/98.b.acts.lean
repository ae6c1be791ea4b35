/-! the class alone: acts on pages and choices -/
/-- one number changed -/
def st1 (B : Nat → Int32) (i : Nat) (v : Int32) : Nat → Int32 := fun j => if j = i then v else B j
theorem st1_eq {B : Nat → Int32} {i : Nat} {v : Int32} : st1 B i v i = v := if_pos rfl
theorem st1_ne {B : Nat → Int32} {i j : Nat} {v : Int32} (h : j ≠ i) : st1 B i v j = B j := if_neg h
/-- the numbers of choices taken stay -/
theorem ps_ok.taken {t n n' : Nat} {B B' : Nat → Int32} (h : ps_ok t n B) (hW : pl_WB n' B') (hj : ∀ r, r < 2 → B' (419 + 3 * r) = B (419 + 3 * r)) : ps_ok (t + 1) n' B' := ⟨hW, fun r hr => by
  obtain ⟨w, w1, w2⟩ := h.2 r hr
  exact ⟨w, by omega, (hj r hr).trans w2⟩⟩
theorem cs_setMoodU {n p : Nat} {B : Nat → Int32} {σ : hb_Mem} (h : pl_WB n B) (hr : pl_RS σ 1 n B) (hp : n ≤ p) (hp2 : p < 2 ^ 31) (v : Int32) : fn_X5_setMood 0 (nI p) v σ = some (-1, σ) := by
  unfold fn_X5_setMood
  rw [hc_r0, cs_hasPage h hr hp2, Option.bind_some, if_neg (show ¬ p < n by omega), if_pos rfl]
theorem cs_setMoodB {n p : Nat} {B : Nat → Int32} {σ : hb_Mem} (h : pl_WB n B) (hr : pl_RS σ 1 n B) (hp : p < n) {v : Int32} (hv : ¬ (-99 ≤ v.toInt ∧ v.toInt ≤ 99)) : fn_X5_setMood 0 (nI p) v σ = some (-2, σ) := by
  have hn := h.1
  unfold fn_X5_setMood
  rcases cs_mood v with ⟨hc, -⟩ | ⟨-, f1⟩
  · exact absurd hc hv
  · rw [hc_r0, cs_hasPage h hr (by omega), Option.bind_some, if_pos hp, if_neg (show ¬ (1 : Int32) = 0 by decide), f1, Option.bind_some, if_pos rfl]
theorem cs_setMood {t n sz nx len p : Nat} {B : Nat → Int32} {σ : hb_Mem} (h : Rl t n B sz nx len σ) (hp : p < n) {v : Int32} (hv : -99 ≤ v.toInt ∧ v.toInt ≤ 99) : (B (1 + 13 * p) = v ∧ fn_X5_setMood 0 (nI p) v σ = some (-5, σ)) ∨ (¬ B (1 + 13 * p) = v ∧ ∃ σ', fn_X5_setMood 0 (nI p) v σ = some (nI (pl_m B p), σ') ∧ Ac t n B sz nx len n (st1 B (1 + 13 * p) v) σ') := by
  have hW := h.1.1
  have hn := hW.1
  have hr := h.2.1
  unfold fn_X5_setMood
  rcases cs_mood v with ⟨-, f1⟩ | ⟨hc, -⟩
  · obtain ⟨r1, r2, r3, r4, r5⟩ := hr.2.1 p hp
    rw [hc_r0, cs_hasPage hW hr (by omega), Option.bind_some, if_pos hp, if_neg (show ¬ (1 : Int32) = 0 by decide), f1, Option.bind_some, if_neg (show ¬ (1 : Int32) = 0 by decide), pl_at (r := hc_rf 1 1) (a := 3) (n := 32) (by decide) (by omega), Option.bind_some, show σ 3 p = B (1 + 13 * p) from r1]
    by_cases q : B (1 + 13 * p) = v
    · left
      rw [if_pos q]
      exact ⟨q, rfl⟩
    · right
      obtain ⟨σ1, k1, k2, k3, k4, k5, k6⟩ := cs_record h
      have hr1 := k2.2.1
      have hsz : fn_X1_at (hc_rf 1 4) (nI p) (hb_up σ1 3 p v) = some (nI (pl_m B p)) := by
        rw [pl_at (r := hc_rf 1 4) (a := 9) (n := 32) (by decide) (by omega), hb_up_ne (by decide), k5 9 (by decide), ← (hW.m hp).2]
        exact congrArg some r4
      rw [if_neg q, k1, Option.bind_some, pl_put (r := hc_rf 1 1) (a := 3) (n := 32) (by decide) (by omega), Option.bind_some, hsz, Option.bind_some]
      have hlow : ∀ j, j ≠ 1 + 13 * p → st1 B (1 + 13 * p) v j = B j := fun j hj => st1_ne hj
      have hWm : pl_WB n (st1 B (1 + 13 * p) v) := by
        refine ⟨hn, by rw [hlow _ (by omega)]; exact hW.2.1, fun p' hp' => ?_, fun r' hr' => by rw [hlow _ (by omega), hlow _ (by omega)]; exact hW.2.2.2.1 r' hr', by rw [hlow _ (by omega), hlow _ (by omega)]; exact hW.2.2.2.2⟩
        have hP := hW.2.2.1 p' hp'
        by_cases e : p' = p
        · subst e
          obtain ⟨b1, b2, b3, b4, b5, b6⟩ := hP
          have hm : pl_m (st1 B (1 + 13 * p') v) p' = pl_m B p' := wb_m (hlow _ (by omega))
          unfold pl_WP
          rw [hm, st1_eq, hlow _ (by omega), hlow _ (by omega), hlow _ (by omega)]
          refine ⟨hv, b2, b3, b4, b5, fun c hc => ?_⟩
          have := b6 c hc
          unfold pl_WC at this ⊢
          rw [hlow _ (by omega), hlow _ (by omega), hlow _ (by omega)]
          exact this
        · exact wp_same hP (Nat.le_refl n) (fun j j1 j2 => hlow j (by omega))
      have hR : pl_RS (hb_up σ1 3 p v) 1 n (st1 B (1 + 13 * p) v) := by
        obtain ⟨c1, c2, c3, c4⟩ := hr1
        refine ⟨by rw [hb_up_ne (by decide)]; exact c1, fun p' hp' => ?_, fun r' hr' => by rw [hlow _ (by omega), hlow _ (by omega), hlow _ (by omega), hb_up_ne (by decide), hb_up_ne (by decide)]; exact c3 r' hr', by rw [hlow _ (by omega), hlow _ (by omega), hb_up_ne (by decide)]; exact c4⟩
        obtain ⟨b1, b2, b3, b4, b5⟩ := c2 p' hp'
        have hm : pl_m (st1 B (1 + 13 * p) v) p' = pl_m B p' := wb_m (hlow _ (by omega))
        have hm3 := (hW.m hp').1
        rw [hm, hlow (2 + 13 * p') (by omega), hlow (3 + 13 * p') (by omega), hlow (4 + 13 * p') (by omega)]
        refine ⟨?_, by rw [hb_up_ne (by decide)]; exact b2, by rw [hb_up_ne (by decide)]; exact b3, by rw [hb_up_ne (by decide)]; exact b4, fun c hc => ?_⟩
        · show hb_up σ1 3 p v 3 p' = _
          by_cases e : p' = p
          · subst e
            rw [pl_up_same, st1_eq]
          · rw [pl_up_other e, hlow _ (by omega)]
            exact b1
        · rw [hlow _ (by omega), hlow _ (by omega), hlow _ (by omega), hb_up_ne (by decide), hb_up_ne (by decide), hb_up_ne (by decide)]
          exact b5 c hc
      exact ⟨q, _, rfl, Ac.of k2 k3 k4 (fun c hc => hb_up_ne (by omega)) (h.1.taken hWm (fun r hr => hlow _ (by omega))) hR⟩
  · exact absurd hv hc
/-- a page bound last -/
def pgB (B : Nat → Int32) (n : Nat) (a : Int32) (s t : Nat) : Nat → Int32 := fun j => if j = 0 then nI (n + 1) else if j = 1 + 13 * n then a else if j = 2 + 13 * n then nI s else if j = 3 + 13 * n then nI t else if j = 4 + 13 * n then nI 0 else B j
theorem pgB_off {B : Nat → Int32} {n s t j : Nat} {a : Int32} (j0 : j ≠ 0) (h : j < 1 + 13 * n ∨ 5 + 13 * n ≤ j) : pgB B n a s t j = B j := by
  unfold pgB
  rw [if_neg j0, if_neg (by omega), if_neg (by omega), if_neg (by omega), if_neg (by omega)]
theorem pgB_at {B : Nat → Int32} {n s t : Nat} {a : Int32} : pgB B n a s t 0 = nI (n + 1) ∧ pgB B n a s t (1 + 13 * n) = a ∧ pgB B n a s t (2 + 13 * n) = nI s ∧ pgB B n a s t (3 + 13 * n) = nI t ∧ pgB B n a s t (4 + 13 * n) = nI 0 := by
  unfold pgB
  refine ⟨if_pos rfl, ?_, ?_, ?_, ?_⟩
  · rw [if_neg (by omega), if_pos rfl]
  · rw [if_neg (by omega), if_neg (by omega), if_pos rfl]
  · rw [if_neg (by omega), if_neg (by omega), if_neg (by omega), if_pos rfl]
  · rw [if_neg (by omega), if_neg (by omega), if_neg (by omega), if_neg (by omega), if_pos rfl]
theorem pgB_m {B : Nat → Int32} {n s t : Nat} {a : Int32} : pl_m (pgB B n a s t) n = 0 := by
  unfold pl_m
  rw [pgB_at.2.2.2.2]
  rfl
theorem cs_addPageB {σ : hb_Mem} {a1 a2 a3 : Int32} (hb : ¬ ((-99 ≤ a1.toInt ∧ a1.toInt ≤ 99) ∧ (∃ f, f < 32 ∧ a2 = nI f) ∧ ∃ f, f < 32 ∧ a3 = nI f)) : fn_X5_addPage 0 a1 a2 a3 σ = some (-2, σ) := by
  unfold fn_X5_addPage
  rcases cs_mood a1 with ⟨hv, f1⟩ | ⟨hv, f1⟩
  · rw [f1, Option.bind_some, if_neg (show ¬ (1 : Int32) = 0 by decide)]
    rcases cs_flags a2 with ⟨s, hs, e2, f2⟩ | ⟨hs, f2⟩
    · rw [f2, Option.bind_some, if_neg (show ¬ (1 : Int32) = 0 by decide)]
      rcases cs_flags a3 with ⟨u, hu, e3, f3⟩ | ⟨hu, f3⟩
      · exact absurd ⟨hv, ⟨s, hs, e2⟩, u, hu, e3⟩ hb
      · rw [f3, Option.bind_some, if_pos rfl]
    · rw [f2, Option.bind_some, if_pos rfl]
  · rw [f1, Option.bind_some, if_pos rfl]
theorem cs_fset {a : Nat} (ha : a < 32) : fn_X5_isFlagSet (nI a) = some 1 := by
  rcases cs_flags (nI a) with ⟨f, hf, e, e1⟩ | ⟨hno, -⟩
  · exact e1
  · exact absurd rfl (hno a ha)
theorem cs_moodOk {v : Int32} (hv : -99 ≤ v.toInt ∧ v.toInt ≤ 99) : fn_X5_isMood v = some 1 := by
  rcases cs_mood v with ⟨-, f1⟩ | ⟨hc, -⟩
  · exact f1
  · exact absurd hv hc
theorem cs_addPageF {n s u : Nat} {B : Nat → Int32} {σ : hb_Mem} (hr : pl_RS σ 1 n B) {v : Int32} (hv : -99 ≤ v.toInt ∧ v.toInt ≤ 99) (hs : s < 32) (hu : u < 32) (hn : n = 32) : fn_X5_addPage 0 v (nI s) (nI u) σ = some (-3, σ) := by
  unfold fn_X5_addPage
  rw [cs_moodOk hv, Option.bind_some, if_neg (show ¬ (1 : Int32) = 0 by decide), cs_fset hs, Option.bind_some, if_neg (show ¬ (1 : Int32) = 0 by decide), cs_fset hu, Option.bind_some, if_neg (show ¬ (1 : Int32) = 0 by decide), hc_r0, hr.1, if_neg (by show ¬ nI n < nI 32; rw [nI_ltI (by omega) (by omega)]; omega)]
theorem cs_addPage {t n sz nx len s u : Nat} {B : Nat → Int32} {σ : hb_Mem} (h : Rl t n B sz nx len σ) {v : Int32} (hv : -99 ≤ v.toInt ∧ v.toInt ≤ 99) (hs : s < 32) (hu : u < 32) (hn32 : n < 32) : ∃ σ', fn_X5_addPage 0 v (nI s) (nI u) σ = some (nI n, σ') ∧ Ac t n B sz nx len (n + 1) (pgB B n v s u) σ' := by
  have hW := h.1.1
  have hn := hW.1
  obtain ⟨σ1, k1, k2, k3, k4, k5, k6⟩ := cs_record h
  have hr1 := k2.2.1
  have hbind : fn_X2_bindPage 1 v (nI s) (nI u) σ1 = some (nI n, hb_up (hb_up (hb_up (hb_up (hb_up σ1 3 n v) 5 n (nI s)) 7 n (nI u)) 9 n 0) 1 0 (nI n + 1)) := by
    unfold fn_X2_bindPage
    simp only [hb_nm]
    rw [hr1.1, pl_put (r := hc_rf 1 1) (a := 3) (n := 32) (by decide) (by omega), Option.bind_some, pl_put (r := hc_rf 1 2) (a := 5) (n := 32) (by decide) (by omega), Option.bind_some, pl_put (r := hc_rf 1 3) (a := 7) (n := 32) (by decide) (by omega), Option.bind_some, pl_put (r := hc_rf 1 4) (a := 9) (n := 32) (by decide) (by omega), Option.bind_some]
  unfold fn_X5_addPage
  rw [cs_moodOk hv, Option.bind_some, if_neg (show ¬ (1 : Int32) = 0 by decide), cs_fset hs, Option.bind_some, if_neg (show ¬ (1 : Int32) = 0 by decide), cs_fset hu, Option.bind_some, if_neg (show ¬ (1 : Int32) = 0 by decide), hc_r0, h.2.1.1, if_pos (by show nI n < nI 32; rw [nI_ltI (by omega) (by omega)]; omega), k1, Option.bind_some, hbind, Option.bind_some]
  obtain ⟨σ2, hσ2⟩ : ∃ x, x = hb_up (hb_up (hb_up (hb_up (hb_up σ1 3 n v) 5 n (nI s)) 7 n (nI u)) 9 n 0) 1 0 (nI n + 1) := ⟨_, rfl⟩
  rw [← hσ2]
  have hoff2 : ∀ c, c ≠ 1 → c ≠ 3 → c ≠ 5 → c ≠ 7 → c ≠ 9 → σ2 c = σ1 c := fun c c1 c3 c5 c7 c9 => by rw [hσ2, hb_up_ne c1, hb_up_ne c9, hb_up_ne c7, hb_up_ne c5, hb_up_ne c3]
  have hlow : ∀ j, j ≠ 0 → (j < 1 + 13 * n ∨ 5 + 13 * n ≤ j) → pgB B n v s u j = B j := fun j j0 j1 => pgB_off j0 j1
  obtain ⟨b0, b1, b2, b3, b4⟩ := pgB_at (B := B) (n := n) (s := s) (t := u) (a := v)
  have hmn : pl_m (pgB B n v s u) n = 0 := pgB_m
  have hWm : pl_WB (n + 1) (pgB B n v s u) := by
    refine ⟨by omega, b0, fun p hp => ?_, fun r hr => ?_, ?_⟩
    · by_cases e : p = n
      · subst e
        unfold pl_WP
        rw [hmn, b1, b2, b3, b4]
        exact ⟨hv, ⟨s, hs, rfl⟩, ⟨u, hu, rfl⟩, by omega, rfl, fun c hc => by omega⟩
      · exact wp_same (hW.2.2.1 p (by omega)) (by omega) (fun j j1 j2 => hlow j (by omega) (by omega))
    · rw [hlow _ (by omega) (by omega), hlow _ (by omega) (by omega)]
      exact wr_up (hW.2.2.2.1 r hr) (by omega)
    · rw [hlow _ (by omega) (by omega), hlow _ (by omega) (by omega)]
      exact wr_up hW.2.2.2.2 (by omega)
  have hR : pl_RS σ2 1 (n + 1) (pgB B n v s u) := by
    obtain ⟨c1, c2, c3, c4⟩ := hr1
    refine ⟨by rw [hσ2, pl_up_same, nI_1], fun p hp => ?_, fun r hr => ?_, ?_⟩
    · by_cases e : p = n
      · subst e
        rw [hmn, b1, b2, b3, b4]
        refine ⟨?_, ?_, ?_, ?_, fun c hc => by omega⟩
        · rw [hσ2, hb_up_ne (by decide), hb_up_ne (by decide), hb_up_ne (by decide), hb_up_ne (by decide)]
          exact pl_up_same σ1 3 p v
        · rw [hσ2, hb_up_ne (by decide), hb_up_ne (by decide), hb_up_ne (by decide)]
          exact pl_up_same _ 5 p (nI s)
        · rw [hσ2, hb_up_ne (by decide), hb_up_ne (by decide)]
          exact pl_up_same _ 7 p (nI u)
        · rw [hσ2, hb_up_ne (by decide)]
          exact pl_up_same _ 9 p 0
      · obtain ⟨d1, d2, d3, d4, d5⟩ := c2 p (by omega)
        have hm : pl_m (pgB B n v s u) p = pl_m B p := wb_m (hlow _ (by omega) (by omega))
        have hm3 := (hW.m (p := p) (by omega)).1
        have hcell : ∀ a, (a = 3 ∨ a = 5 ∨ a = 7 ∨ a = 9) → σ2 a p = σ1 a p := by
          intro a ha
          rw [hσ2]
          rcases ha with rfl | rfl | rfl | rfl
          · rw [hb_up_ne (by decide), hb_up_ne (by decide), hb_up_ne (by decide), hb_up_ne (by decide), pl_up_other e]
          · rw [hb_up_ne (by decide), hb_up_ne (by decide), hb_up_ne (by decide), pl_up_other e, hb_up_ne (by decide)]
          · rw [hb_up_ne (by decide), hb_up_ne (by decide), pl_up_other e, hb_up_ne (by decide), hb_up_ne (by decide)]
          · rw [hb_up_ne (by decide), pl_up_other e, hb_up_ne (by decide), hb_up_ne (by decide), hb_up_ne (by decide)]
        rw [hm, hlow _ (by omega) (by omega), hlow _ (by omega) (by omega), hlow _ (by omega) (by omega), hlow _ (by omega) (by omega)]
        refine ⟨(hcell 3 (by omega)).trans d1, (hcell 5 (by omega)).trans d2, (hcell 7 (by omega)).trans d3, (hcell 9 (by omega)).trans d4, fun c hc => ?_⟩
        rw [hlow _ (by omega) (by omega), hlow _ (by omega) (by omega), hlow _ (by omega) (by omega), hoff2 _ (by decide) (by decide) (by decide) (by decide) (by decide), hoff2 _ (by decide) (by decide) (by decide) (by decide) (by decide), hoff2 _ (by decide) (by decide) (by decide) (by decide) (by decide)]
        exact d5 c hc
    · rw [hlow _ (by omega) (by omega), hlow _ (by omega) (by omega), hlow _ (by omega) (by omega), hoff2 _ (by decide) (by decide) (by decide) (by decide) (by decide), hoff2 _ (by decide) (by decide) (by decide) (by decide) (by decide)]
      exact c3 r hr
    · rw [hlow _ (by omega) (by omega), hlow _ (by omega) (by omega), hσ2, pl_up_other (by decide), hb_up_ne (by decide), hb_up_ne (by decide), hb_up_ne (by decide), hb_up_ne (by decide)]
      exact c4
  exact ⟨σ2, rfl, Ac.of k2 k3 k4 (fun c hc => hoff2 c (by omega) (by omega) (by omega) (by omega) (by omega)) (h.1.taken hWm (fun r hr => hlow _ (by omega) (by omega))) hR⟩
/-- the error of a choice -/
theorem cs_errU {n p q : Nat} {B : Nat → Int32} {σ : hb_Mem} (h : pl_WB n B) (hr : pl_RS σ 1 n B) (hp : p < 2 ^ 31) (hq : q < 2 ^ 31) (hno : ¬ (p < n ∧ q < n)) (a b : Int32) : fn_X5_addChoice 0 (nI p) (nI q) a b σ = some (-1, σ) := by
  unfold fn_X5_addChoice fn_X2_errorOfChoice
  rw [hc_r0, cs_hasPage h hr hp, cs_hasPage h hr hq, Option.bind_some]
  by_cases e : p < n
  · rw [if_pos e, if_neg (show ¬ (1 : Int32) = 0 by decide), Option.bind_some, if_neg (show ¬ q < n from fun hc => hno ⟨e, hc⟩), if_pos rfl, Option.bind_some, if_neg (show ¬ (-1 : Int32) = 0 by decide)]
  · rw [if_neg e, if_pos rfl, Option.bind_some, if_neg (show ¬ (-1 : Int32) = 0 by decide)]
theorem cs_errB {n p q : Nat} {B : Nat → Int32} {σ : hb_Mem} (h : pl_WB n B) (hr : pl_RS σ 1 n B) (hp : p < n) (hq : q < n) {a b : Int32} (hno : ¬ ((∃ f, f < 32 ∧ a = nI f) ∧ ∃ f, f < 32 ∧ b = nI f)) : fn_X5_addChoice 0 (nI p) (nI q) a b σ = some (-2, σ) := by
  have hn := h.1
  unfold fn_X5_addChoice fn_X2_errorOfChoice
  rw [hc_r0, cs_hasPage h hr (by omega), cs_hasPage h hr (by omega), Option.bind_some, if_pos hp, if_neg (show ¬ (1 : Int32) = 0 by decide), Option.bind_some, if_pos hq, if_neg (show ¬ (1 : Int32) = 0 by decide)]
  rcases cs_flags a with ⟨s, hs, e2, f2⟩ | ⟨hs, f2⟩
  · rw [f2, Option.bind_some, if_neg (show ¬ (1 : Int32) = 0 by decide)]
    rcases cs_flags b with ⟨u, hu, e3, f3⟩ | ⟨hu, f3⟩
    · exact absurd ⟨⟨s, hs, e2⟩, u, hu, e3⟩ hno
    · rw [f3, Option.bind_some, if_pos rfl, Option.bind_some, if_neg (show ¬ (-2 : Int32) = 0 by decide)]
  · rw [f2, Option.bind_some, if_pos rfl, Option.bind_some, if_neg (show ¬ (-2 : Int32) = 0 by decide)]
theorem cs_err0 {n p q a b : Nat} {B : Nat → Int32} {σ : hb_Mem} (h : pl_WB n B) (hr : pl_RS σ 1 n B) (hp : p < n) (hq : q < n) (ha : a < 32) (hb : b < 32) : fn_X2_errorOfChoice 1 (nI p) (nI q) (nI a) (nI b) σ = some (if pl_m B p < 3 then 0 else -3) := by
  have hn := h.1
  obtain ⟨r1, r2, r3, r4, r5⟩ := hr.2.1 p hp
  have hm := (h.m hp).1
  unfold fn_X2_errorOfChoice
  rw [cs_hasPage h hr (by omega), cs_hasPage h hr (by omega), Option.bind_some, if_pos hp, if_neg (show ¬ (1 : Int32) = 0 by decide), Option.bind_some, if_pos hq, if_neg (show ¬ (1 : Int32) = 0 by decide), cs_fset ha, Option.bind_some, if_neg (show ¬ (1 : Int32) = 0 by decide), cs_fset hb, Option.bind_some, if_neg (show ¬ (1 : Int32) = 0 by decide), pl_at (r := hc_rf 1 4) (a := 9) (n := 32) (by decide) (by omega), Option.bind_some, show σ 9 p = B (4 + 13 * p) from r4, (h.m hp).2]
  by_cases e : pl_m B p < 3
  · rw [if_pos ((tx_lt3 (by omega)).mpr e), if_pos e]
  · rw [if_neg (fun hc => e ((tx_lt3 (by omega)).mp hc)), if_neg e]
theorem cs_errF {n p q a b : Nat} {B : Nat → Int32} {σ : hb_Mem} (h : pl_WB n B) (hr : pl_RS σ 1 n B) (hp : p < n) (hq : q < n) (ha : a < 32) (hb : b < 32) (hm : pl_m B p = 3) : fn_X5_addChoice 0 (nI p) (nI q) (nI a) (nI b) σ = some (-3, σ) := by
  unfold fn_X5_addChoice
  rw [hc_r0, cs_err0 h hr hp hq ha hb, if_neg (show ¬ pl_m B p < 3 by omega), Option.bind_some, if_neg (show ¬ (-3 : Int32) = 0 by decide)]
theorem cs_addChoice {t n sz nx len p q a b : Nat} {B : Nat → Int32} {σ : hb_Mem} (h : Rl t n B sz nx len σ) (hp : p < n) (hq : q < n) (ha : a < 32) (hb : b < 32) (hm : pl_m B p < 3) : ∃ σ', fn_X5_addChoice 0 (nI p) (nI q) (nI a) (nI b) σ = some (nI (pl_m B p), σ') ∧ Ac t n B sz nx len n (ap B p q a b) σ' := by
  have hW := h.1.1
  have hn := hW.1
  obtain ⟨σ1, k1, k2, k3, k4, k5, k6⟩ := cs_record h
  have hr1 := k2.2.1
  obtain ⟨σ2, g1, g2, g3⟩ := pc_append (t := q) (a := a) (b := b) (show pl_st 1 by decide) hW hr1 hp hm
  unfold fn_X5_addChoice
  rw [hc_r0, cs_err0 hW h.2.1 hp hq ha hb, if_pos hm, Option.bind_some, if_pos rfl, k1, Option.bind_some, g1, Option.bind_some]
  exact ⟨σ2, rfl, Ac.of k2 k3 k4 (fun c hc => g2 c (by omega) (by omega) (by omega) (by omega)) (h.1.taken (ap_WB hW hp hq ha hb hm) (fun r hr => ap_off hm (by omega))) g3⟩
theorem cs_takeU {n : Nat} {B : Nat → Int32} {σ : hb_Mem} (h : pl_WB n B) (hr : pl_RS σ 1 n B) (x y : Int32) (hno : ∀ p c, p < n → c < pl_m B p → ¬ (x = nI p ∧ y = nI c)) : fn_X5_takeChoice 0 x y σ = some (-1, σ) := by
  unfold fn_X5_takeChoice
  rcases cs_choice h hr x y with ⟨p, c, hp, hc, e1, e2, e3⟩ | ⟨-, e3⟩
  · exact absurd ⟨e1, e2⟩ (hno p c hp hc)
  · rw [hc_r0, e3, Option.bind_some, if_pos rfl]
theorem cs_take {t n sz nx len p c : Nat} {B : Nat → Int32} {σ : hb_Mem} (h : Rl t n B sz nx len σ) (hp : p < n) (hc : c < pl_m B p) : ∃ σ', fn_X5_takeChoice 0 (nI p) (nI c) σ = some (B (5 + 13 * p + 3 * c), σ') ∧ Ac t n B sz nx len n (rm B p c) σ' := by
  have hW := h.1.1
  have hn := hW.1
  have hm := (hW.m hp).1
  obtain ⟨σ1, k1, k2, k3, k4, k5, k6⟩ := cs_record h
  have hr1 := k2.2.1
  obtain ⟨σ2, g1, g2, g3⟩ := pc_remove hW hr1 hp hc
  unfold fn_X5_takeChoice
  rw [hc_r0, cs_has1 hW h.2.1 hp hc, Option.bind_some, if_neg (show ¬ (1 : Int32) = 0 by decide), k1, Option.bind_some, g1, Option.bind_some]
  exact ⟨σ2, rfl, Ac.of k2 k3 k4 (fun k hk => g2 k (by omega) (by omega) (by omega) (by omega)) (h.1.taken (rm_WB (c := c) hW hp) (fun r hr => rm_off (by omega) hm)) g3⟩
/-- two pages exchanged -/
def swX (B : Nat → Int32) (p q : Nat) : Nat → Int32 := fun j => if j = 0 then B 0 else if j < 417 then (if (j - 1) % 13 = 4 ∨ (j - 1) % 13 = 7 ∨ (j - 1) % 13 = 10 then ot p q (B (1 + 13 * pgm p q ((j - 1) / 13) + (j - 1) % 13)) else B (1 + 13 * pgm p q ((j - 1) / 13) + (j - 1) % 13)) else if j = 417 ∨ j = 420 ∨ j = 423 then ot p q (B j) else B j
theorem swX_row {B : Nat → Int32} {p q r w : Nat} (hr : r < 32) (hw : w < 13) : swX B p q (1 + 13 * r + w) = if w = 4 ∨ w = 7 ∨ w = 10 then ot p q (B (1 + 13 * pgm p q r + w)) else B (1 + 13 * pgm p q r + w) := by
  unfold swX
  rw [if_neg (by omega), if_pos (by omega), show (1 + 13 * r + w - 1) / 13 = r by omega, show (1 + 13 * r + w - 1) % 13 = w by omega]
theorem swX_sX {n p q : Nat} {B : Nat → Int32} (h : pl_WB n B) (hp : p < n) (hq : q < n) : sX B (swX B p q) n p q := by
  have hn := h.1
  refine ⟨?_, fun r hr => ?_, fun r hr => ?_, ?_, ?_⟩
  · show swX B p q 0 = _
    unfold swX
    rw [if_pos rfl]
    exact h.2.1
  · have g : ∀ w, w < 13 → ¬ (w = 4 ∨ w = 7 ∨ w = 10) → swX B p q (1 + 13 * r + w) = B (1 + 13 * pgm p q r + w) := fun w hw hw2 => by rw [swX_row (by omega) hw, if_neg hw2]
    have g4 : ∀ w, w < 13 → (w = 4 ∨ w = 7 ∨ w = 10) → swX B p q (1 + 13 * r + w) = ot p q (B (1 + 13 * pgm p q r + w)) := fun w hw hw2 => by rw [swX_row (by omega) hw, if_pos hw2]
    have hm3 := (h.m (pgm_lt hp hq hr)).1
    have e4 : swX B p q (4 + 13 * r) = B (4 + 13 * pgm p q r) := by
      have := g 3 (by decide) (by decide)
      rw [show 1 + 13 * r + 3 = 4 + 13 * r by omega, show 1 + 13 * pgm p q r + 3 = 4 + 13 * pgm p q r by omega] at this
      exact this
    refine ⟨?_, g 0 (by decide) (by decide), ?_, ?_, e4, fun c hc => ⟨?_, ?_, ?_⟩⟩
    · unfold pl_m
      rw [e4]
    · have := g 1 (by decide) (by decide)
      rw [show 1 + 13 * r + 1 = 2 + 13 * r by omega, show 1 + 13 * pgm p q r + 1 = 2 + 13 * pgm p q r by omega] at this
      exact this
    · have := g 2 (by decide) (by decide)
      rw [show 1 + 13 * r + 2 = 3 + 13 * r by omega, show 1 + 13 * pgm p q r + 2 = 3 + 13 * pgm p q r by omega] at this
      exact this
    · have := g4 (4 + 3 * c) (by omega) (by omega)
      rw [show 1 + 13 * r + (4 + 3 * c) = 5 + 13 * r + 3 * c by omega, show 1 + 13 * pgm p q r + (4 + 3 * c) = 5 + 13 * pgm p q r + 3 * c by omega] at this
      exact this
    · have := g (5 + 3 * c) (by omega) (by omega)
      rw [show 1 + 13 * r + (5 + 3 * c) = 6 + 13 * r + 3 * c by omega, show 1 + 13 * pgm p q r + (5 + 3 * c) = 6 + 13 * pgm p q r + 3 * c by omega] at this
      exact this
    · have := g (6 + 3 * c) (by omega) (by omega)
      rw [show 1 + 13 * r + (6 + 3 * c) = 7 + 13 * r + 3 * c by omega, show 1 + 13 * pgm p q r + (6 + 3 * c) = 7 + 13 * pgm p q r + 3 * c by omega] at this
      exact this
  · unfold swX
    refine ⟨?_, ?_, ?_⟩
    · rw [if_neg (by omega), if_neg (by omega), if_pos (by omega)]
    · rw [if_neg (by omega), if_neg (by omega), if_neg (by omega)]
    · rw [if_neg (by omega), if_neg (by omega), if_neg (by omega)]
  · unfold swX
    rw [if_neg (by omega), if_neg (by omega), if_pos (by omega)]
  · unfold swX
    rw [if_neg (by omega), if_neg (by omega), if_neg (by omega)]
theorem cs_exchU {n p q : Nat} {B : Nat → Int32} {σ : hb_Mem} (h : pl_WB n B) (hr : pl_RS σ 1 n B) (hp : p < 2 ^ 31) (hq : q < 2 ^ 31) (hno : ¬ (p < n ∧ q < n)) : fn_X5_exchange 0 (nI p) (nI q) σ = some (-1, σ) := by
  unfold fn_X5_exchange
  rw [hc_r0, cs_hasPage h hr hp, cs_hasPage h hr hq, Option.bind_some]
  by_cases e : p < n
  · rw [if_pos e, if_neg (show ¬ (1 : Int32) = 0 by decide), Option.bind_some, if_neg (show ¬ q < n from fun hc => hno ⟨e, hc⟩), if_pos rfl]
  · rw [if_neg e, if_pos rfl]
theorem cs_exchS {n p : Nat} {B : Nat → Int32} {σ : hb_Mem} (h : pl_WB n B) (hr : pl_RS σ 1 n B) (hp : p < n) : fn_X5_exchange 0 (nI p) (nI p) σ = some (-5, σ) := by
  have hn := h.1
  unfold fn_X5_exchange
  rw [hc_r0, cs_hasPage h hr (by omega), Option.bind_some, if_pos hp, if_neg (show ¬ (1 : Int32) = 0 by decide), Option.bind_some, if_neg (show ¬ (1 : Int32) = 0 by decide), if_pos rfl]
theorem cs_exch {t n sz nx len p q : Nat} {B : Nat → Int32} {σ : hb_Mem} (h : Rl t n B sz nx len σ) (hp : p < n) (hq : q < n) (hpq : p ≠ q) : ∃ σ', fn_X5_exchange 0 (nI p) (nI q) σ = some (nI (sp_to n B (nI q)) + nI (sp_to n B (nI p)), σ') ∧ Ac t n B sz nx len n (swX B p q) σ' := by
  have hW := h.1.1
  have hn := hW.1
  obtain ⟨σ1, k1, k2, k3, k4, k5, k6⟩ := cs_record h
  have hr1 := k2.2.1
  have hX := swX_sX hW hp hq
  obtain ⟨σ2, g1, g2, g3⟩ := pc_exch hW hr1 hp hq hpq hX
  have hWX := sX_WB hW hp hq hX
  have ep : pgm p q p = q := by unfold pgm; rw [if_pos rfl]
  have eq : pgm p q q = p := by unfold pgm; rw [if_neg (fun hc => hpq hc.symm), if_pos rfl]
  unfold fn_X5_exchange
  rw [hc_r0, cs_hasPage hW h.2.1 (by omega), cs_hasPage hW h.2.1 (by omega), Option.bind_some, if_pos hp, if_neg (show ¬ (1 : Int32) = 0 by decide), Option.bind_some, if_pos hq, if_neg (show ¬ (1 : Int32) = 0 by decide), if_neg (fun hc => hpq ((nI_eq (by omega) (by omega)).mp hc)), k1, Option.bind_some, g1, Option.bind_some, pc_to hWX g3, pc_to hWX g3, Option.bind_some, Option.bind_some, sX_to hW hp hq hpq hp hX, sX_to hW hp hq hpq hq hX, ep, eq]
  exact ⟨σ2, rfl, Ac.of k2 k3 k4 (fun c hc => g2 c (by omega)) (h.1.taken hWX (fun r hr => (hX.2.2.1 r hr).2.2)) g3⟩
