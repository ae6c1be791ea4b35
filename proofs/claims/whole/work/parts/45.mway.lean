/-! the reference: pages there, choices that can be taken, the way -/
theorem pm_n0 {n : Nat} {μ : hb_Mem} (h : pl_WB n (μ 1)) : hb_ld ΛM μ (hm_rf 0 0) 0 = some (nI n) := by
  rw [show (0 : Int32) = nI 0 from rfl, pm_ld (a := hm_rf 0 0) (n := 425) (by decide) (by decide) (by decide)]
  show some (μ 1 0) = _
  rw [h.2.1]
/-- which pages are asked for -/
def pm_want (B : Nat → Int32) (k p : Nat) : Bool := if k = 0 then true else if k = 1 then pe_end B p else pe_hap B p
theorem pm_there {n : Nat} {B : Nat → Int32} {μ : hb_Mem} (h : pl_WB n B) (hB : μ 1 = B) {k : Nat} (hk : k < 3) : ∃ μ', fn_X6_pagesThere 0 (nI k) μ = some (nI (sp_live n (pb_pl n B) (pm_want B k)), μ') ∧ pm_fp μ μ' := by
  have hn := h.1
  obtain ⟨μ', r1, r2, r3⟩ := pm_reaches h hB
  obtain ⟨M, hMe⟩ : ∃ M, M = pb_pl n B := ⟨_, rfl⟩
  have hM : pb_good (pg_nx B) n M := by rw [hMe]; exact pb_pl_good h
  rw [← hMe] at r2 ⊢
  have hd : ∀ x, x ∈ M.1 → M.2.1 x < 1024 := fun x hx => hM.d hx
  have hB' : μ' 1 = B := r3.s.trans hB
  have hW : pl_WB n (μ' 1) := by rw [hB']; exact h
  unfold fn_X6_pagesThere ll_X6_pagesThere_8
  rw [r1, Option.bind_some, pl_sum (f := fun s => lb_X6_pagesThere_8 0 (nI k) s.1 s.2 μ') n (fun p => if (pm_want B k p && !sp_dead M p) = true then 1 else 0)]
  · exact ⟨μ', rfl, r3⟩
  · intro p a hp
    show lb_X6_pagesThere_8 0 (nI k) a (nI p) μ' = _
    have hin : ll_X6_pagesThere_26 0 (nI k) a (nI p) μ' (9999, 0) = some (pm_mn M p 32) := by
      unfold ll_X6_pagesThere_26
      refine pl_for (f := fun s => lb_X6_pagesThere_26 0 (nI k) a (nI p) s.1 s.2 μ') 32 (fun i => (pm_mn M p i, nI i)) (s := ((9999 : Int32), (0 : Int32))) (t := pm_mn M p 32) rfl ?_ rfl (by rw [pl_F]; omega)
      intro i hi
      show lb_X6_pagesThere_26 0 (nI k) a (nI p) (pm_mn M p i) (nI i) μ' = _
      unfold lb_X6_pagesThere_26 jn_X6_pagesThere_67
      simp only [hb_nm]
      rw [if_neg (by show ¬ nI 31 < nI i; rw [nI_ltI (by omega) (by omega)]; omega), pm_look r2 (by omega) hi, Option.bind_some, nI_1, Option.bind_some]
      show _ = some (Sum.inl (if pm_mn M p i ≤ pm_rd M (32 * p + i) then pm_mn M p i else pm_rd M (32 * p + i), nI (i + 1)))
      split <;> rfl
    have key : ∀ b : Bool, jn_X6_pagesThere_105 0 (nI k) a (nI p) (pm_mn M p 32) (if b = true then 1 else 0) μ' = some (.inl (a + nI (if (b && !sp_dead M p) = true then 1 else 0), nI p + 1)) := by
      intro b
      unfold jn_X6_pagesThere_105 jn_X6_pagesThere_125 jn_X6_pagesThere_126
      simp only [hb_nm]
      cases b with
      | false =>
        rw [if_pos (by decide : (if false = true then (1 : Int32) else 0) = 0), Bool.false_and, if_neg (by decide)]
        rfl
      | true =>
        rw [if_neg (by decide : ¬ (if true = true then (1 : Int32) else 0) = 0), Bool.true_and]
        by_cases hs : sp_dead M p = true
        · rw [if_pos ((pm_mn_9 hd p).mpr hs), hs]
          rfl
        · rw [if_neg (fun hc => hs ((pm_mn_9 hd p).mp hc)), Bool.not_eq_true _ |>.mp hs]
          rfl
    have k1 : jn_X6_pagesThere_105 0 (nI k) a (nI p) (pm_mn M p 32) 1 μ' = some (.inl (a + nI (if (true && !sp_dead M p) = true then 1 else 0), nI p + 1)) := key true
    have k0 : jn_X6_pagesThere_105 0 (nI k) a (nI p) (pm_mn M p 32) 0 μ' = some (.inl (a + nI (if (false && !sp_dead M p) = true then 1 else 0), nI p + 1)) := key false
    unfold lb_X6_pagesThere_8
    rw [pm_n0 hW, Option.bind_some, if_neg (by rw [nI_leI (by omega) (by omega)]; omega), hin, Option.bind_some]
    unfold jn_X6_pagesThere_100 jn_X6_pagesThere_104 pm_want
    by_cases hk0 : k = 0
    · rw [if_pos ((pl_eq0 (by omega)).mpr hk0), k1, if_pos hk0]
    · rw [if_neg (fun hc => hk0 ((pl_eq0 (by omega)).mp hc)), if_neg hk0, pm_isEnd hW hp, Option.bind_some, hB']
      by_cases hm : pl_m B p = 0
      · rw [if_pos hm, if_neg (by decide)]
        by_cases hk1 : k = 1
        · rw [if_pos (by rw [hk1]; rfl), k1, if_pos hk1, show pe_end B p = true from decide_eq_true hm]
        · rw [if_neg (show ¬ nI k = 1 from fun hc => hk1 ((nI_eq (by omega) (by omega)).mp (show nI k = nI 1 from hc))), if_neg hk1, pm_isHappy hW hp, Option.bind_some, hB']
          by_cases hh : pl_m B p = 0 ∧ ¬ B (1 + 13 * p) ≤ 0
          · rw [if_pos hh, if_neg (by decide), k1, show pe_hap B p = true from decide_eq_true hh]
          · rw [if_neg hh, if_pos rfl, k0, show pe_hap B p = false from decide_eq_false hh]
      · rw [if_neg hm, if_pos rfl, k0, show pe_end B p = false from decide_eq_false hm, show pe_hap B p = false from decide_eq_false (fun hc => hm hc.1), ite_self]
  · intro a
    show lb_X6_pagesThere_8 0 (nI k) a (nI n) μ' = _
    unfold lb_X6_pagesThere_8
    rw [pm_n0 hW, Option.bind_some, if_pos (by rw [nI_leI (by omega) (by omega)]; omega)]
  · rw [pl_F]; omega
theorem sp_live_deads (M : pb_M) : ∀ n, sp_live n M (fun _ => true) + sp_deads n M = n
  | 0 => rfl
  | n + 1 => by
    have := sp_live_deads M n
    unfold sp_live sp_deads at this ⊢
    show (ct n _ + if (true && !sp_dead M n) = true then 1 else 0) + (ct n _ + if sp_dead M n = true then 1 else 0) = n + 1
    cases sp_dead M n with
    | true =>
      rw [if_neg (by decide), if_pos rfl]
      omega
    | false =>
      rw [if_pos (by decide), if_neg (by decide)]
      omega
theorem pm_againAll {n : Nat} {B : Nat → Int32} {μ : hb_Mem} (h : pl_WB n B) (hB : μ 1 = B) : ∃ μ', fn_X6_again 0 μ = some (nI (sp_agains n B (pb_pl n B)), μ') ∧ pm_kp μ μ' := by
  have hn := h.1
  obtain ⟨μ1, r1, r2, r3, r4, r5⟩ := pm_keeps h hB
  obtain ⟨M, hMe⟩ : ∃ M, M = pb_pl n B := ⟨_, rfl⟩
  have hM : pb_good (pg_nx B) n M := by rw [hMe]; exact pb_pl_good h
  rw [← hMe] at r2 r3 ⊢
  have hk1 : pm_kp μ μ1 := ⟨fun c h1 h2 => r4 c (by omega) (by omega) (by omega) (by omega) (by omega) (by omega), fun j h1 _ => r5 j h1⟩
  unfold fn_X6_again ll_X6_again_8
  rw [r1, Option.bind_some]
  obtain ⟨t, g1, g2, g3⟩ := pl_inv (f := fun s => lb_X6_again_8 0 s.1 s.2.1 s.2.2) (s := ((0 : Int32), (0 : Int32), μ1)) n (fun i s => s.1 = nI (ct i (fun p => if sp_again (pg_nx B) M p = true then 1 else 0)) ∧ s.2.1 = nI i ∧ s.2.2 1 = B ∧ (∀ x, x < 1024 → s.2.2 9 x = if x ∈ M.1 then 1 else 0) ∧ pm_kp μ s.2.2) (fun t => t.1 = nI (sp_agains n B M) ∧ pm_kp μ t.2) ⟨rfl, rfl, (r4 1 (by decide) (by decide) (by decide) (by decide) (by decide) (by decide)).trans hB, r3, hk1⟩ (by
    intro i s hi ⟨e1, e2, e3, e4, e5⟩
    obtain ⟨w1, w2, τ⟩ := s
    dsimp only at e1 e2 e3 e4 e5
    subst e1
    subst e2
    left
    have hW : pl_WB n (τ 1) := by rw [e3]; exact h
    show ∃ s', lb_X6_again_8 0 _ (nI i) τ = some (.inl s') ∧ _
    obtain ⟨τ', k1, k2⟩ := pm_again h e3 hM e4 (p := i) (by omega)
    unfold lb_X6_again_8 jn_X6_again_32
    simp only [hb_nm]
    rw [pm_n0 hW, Option.bind_some, if_neg (by rw [nI_leI (by omega) (by omega)]; omega), k1, Option.bind_some]
    have e9 : ∀ x, x < 1024 → τ' 9 x = if x ∈ M.1 then 1 else 0 := fun x hx => by rw [k2.1 9 (by decide) (by decide) (by decide) (by decide) (by decide)]; exact e4 x hx
    by_cases hs : sp_again (pg_nx B) M i = true
    · rw [if_pos hs, if_neg (show ¬ ((1 : Int32), τ').1 = 0 by show ¬ (1 : Int32) = 0; decide)]
      refine ⟨_, rfl, ?_, by show nI i + 1 = _; rw [nI_1], k2.s.trans e3, e9, e5.tr k2.kp⟩
      show nI (ct i _) + 1 = nI (ct i _ + if sp_again (pg_nx B) M i = true then 1 else 0)
      rw [if_pos hs, nI_1]
    · rw [if_neg hs, if_pos rfl]
      refine ⟨_, rfl, ?_, by show nI i + 1 = _; rw [nI_1], k2.s.trans e3, e9, e5.tr k2.kp⟩
      show nI (ct i _) + 0 = nI (ct i _ + if sp_again (pg_nx B) M i = true then 1 else 0)
      rw [if_neg hs, Int32.add_zero, Nat.add_zero]) (by
    intro s ⟨e1, e2, e3, e4, e5⟩
    obtain ⟨w1, w2, τ⟩ := s
    dsimp only at e1 e2 e3 e4 e5
    subst e1
    subst e2
    have hW : pl_WB n (τ 1) := by rw [e3]; exact h
    show ∃ t, lb_X6_again_8 0 _ (nI n) τ = some (.inr t) ∧ _
    unfold lb_X6_again_8
    rw [pm_n0 hW, Option.bind_some, if_pos (by rw [nI_leI (by omega) (by omega)]; omega)]
    exact ⟨_, rfl, rfl, e5⟩) (by rw [pl_F]; omega)
  rw [g1, Option.bind_some, g2]
  exact ⟨_, rfl, g3⟩
theorem pm_ever {n : Nat} {B : Nat → Int32} {μ : hb_Mem} (h : pl_WB n B) (hB : μ 1 = B) {p c : Nat} (hp : p < n) (hc : c < pl_m B p) : ∃ μ', fn_X6_canBeTaken 0 (nI p) (nI c) μ = some (if sp_ever B (pb_pl n B) p c = true then 1 else 0, μ') ∧ pm_fp μ μ' := by
  have hn := h.1
  obtain ⟨μ', r1, r2, r3⟩ := pm_reaches h hB
  obtain ⟨M, hMe⟩ : ∃ M, M = pb_pl n B := ⟨_, rfl⟩
  have hM : pb_good (pg_nx B) n M := by rw [hMe]; exact pb_pl_good h
  rw [← hMe] at r2 ⊢
  have hd : ∀ x, x ∈ M.1 → M.2.1 x < 1024 := fun x hx => hM.d hx
  have hB' : μ' 1 = B := r3.s.trans hB
  have hW : pl_WB n (μ' 1) := by rw [hB']; exact h
  unfold fn_X6_canBeTaken ll_X6_canBeTaken_9
  rw [r1, Option.bind_some, pl_any2 (f := fun s => lb_X6_canBeTaken_9 0 (nI p) (nI c) s.1 s.2 μ') 32 (fun f => decide (32 * p + f ∈ M.1 ∧ pg_why B p f c = 0))]
  · exact ⟨μ', rfl, r3⟩
  · intro f b hf
    show lb_X6_canBeTaken_9 0 (nI p) (nI c) _ (nI f) μ' = _
    unfold lb_X6_canBeTaken_9 jn_X6_canBeTaken_49 jn_X6_canBeTaken_50
    simp only [hb_nm]
    rw [if_neg (by show ¬ nI 31 < nI f; rw [nI_ltI (by omega) (by omega)]; omega), pm_look r2 (by omega) hf, Option.bind_some]
    by_cases hm : 32 * p + f ∈ M.1
    · rw [if_neg (fun hc => (pm_rd_9 hd _).mp hc hm), pm_canTake hW hp (by rw [hB']; exact hc) hf, Option.bind_some, hB']
      by_cases hw : pg_why B p f c = 0
      · rw [if_pos hw, if_neg (by decide), show decide (32 * p + f ∈ M.1 ∧ pg_why B p f c = 0) = true from decide_eq_true ⟨hm, hw⟩, Bool.or_true, if_pos rfl]
      · rw [if_neg hw, if_pos rfl, show decide (32 * p + f ∈ M.1 ∧ pg_why B p f c = 0) = false from decide_eq_false (fun hc => hw hc.2), Bool.or_false]
    · rw [if_pos ((pm_rd_9 hd _).mpr hm), show decide (32 * p + f ∈ M.1 ∧ pg_why B p f c = 0) = false from decide_eq_false (fun hc => hm hc.1), Bool.or_false]
  · intro a
    rfl
  · rw [pl_F]; omega
/-- the last happy end but so many -/
def pw_sc (B : Nat → Int32) (l : List Nat) (t : Nat) : Int32 := match (l.drop (l.length - t)).find? (pw_hap B) with | none => -5 | some q => nI q
theorem pw_sc_s (B : Nat → Int32) {l : List Nat} {t q : Nat} (ht : t < l.length) (hq : l[l.length - 1 - t]? = some q) : pw_sc B l (t + 1) = if pw_hap B q = true then nI q else pw_sc B l t := by
  unfold pw_sc
  have hl : l.length - (t + 1) < l.length := by omega
  have he : l[l.length - (t + 1)] = q := by
    have h1 : l.length - 1 - t = l.length - (t + 1) := by omega
    rw [h1] at hq
    exact (List.getElem?_eq_some_iff.mp hq).2
  rw [List.drop_eq_getElem_cons hl, he, show l.length - (t + 1) + 1 = l.length - t by omega, List.find?_cons]
  cases hh : pw_hap B q with
  | true => rw [if_pos rfl]
  | false => rw [if_neg (by decide)]
theorem pm_findsWay {n : Nat} {B : Nat → Int32} {μ : hb_Mem} (h : pl_WB n B) (hB : μ 1 = B) : ∃ μ', fn_X6_findsWay 0 μ = some (if (pw_goal B (pb_pl n B)).isSome = true then 1 else 0, μ') ∧ pm_kp μ μ' ∧ pm_R μ' (pb_pl n B) ∧ ∀ g, pw_goal B (pb_pl n B) = some g → μ' 0 15 = nI ((pb_pl n B).2.1 g) ∧ ∀ t, t ≤ (pb_pl n B).2.1 g → μ' 11 ((pb_pl n B).2.1 g - t) = nI (pw_up (pb_pl n B) t g) := by
  have hn := h.1
  obtain ⟨μ1, r1, r2, r3⟩ := pm_reaches h hB
  obtain ⟨M, hMe⟩ : ∃ M, M = pb_pl n B := ⟨_, rfl⟩
  have hM : pb_good (pg_nx B) n M := by rw [hMe]; exact pb_pl_good h
  rw [← hMe] at r2 ⊢
  have hlen := hM.2.1
  have hB' : μ1 1 = B := r3.s.trans hB
  have hW : pl_WB n (μ1 1) := by rw [hB']; exact h
  unfold fn_X6_findsWay ll_X6_findsWay_14
  rw [r1, Option.bind_some]
  simp only [hb_nm]
  rw [r2.1, ← pl_dn_0 M.1.length (by omega)]
  rw [pl_for (f := fun s => lb_X6_findsWay_14 0 s.1 s.2 μ1) (s := ((-5 : Int32), pl_dn M.1.length 0)) (t := pw_sc B M.1 M.1.length) M.1.length (fun t => (pw_sc B M.1 t, pl_dn M.1.length t))]
  · rw [Option.bind_some]
    have hsc : pw_sc B M.1 M.1.length = match pw_goal B M with | none => -5 | some q => nI q := by
      unfold pw_sc pw_goal
      rw [Nat.sub_self, List.drop_zero]
    rw [hsc]
    cases hg : pw_goal B M with
    | none =>
      dsimp only
      rw [if_pos rfl]
      exact ⟨μ1, rfl, r3.kp, r2, fun g hg => by cases hg⟩
    | some g =>
      dsimp only
      have hgm : g ∈ M.1 := List.mem_of_find?_eq_some hg
      have hgl := hM.lt hgm
      have hd := hM.d hgm
      have e5 : μ1 (hm_rf 0 7) g = nI (M.2.1 g) := by
        show μ1 5 g = _
        rw [r2.2.2.1 g (by omega), if_pos hgm]
      rw [if_neg (pl_ne_neg (by omega) (by decide)), pm_ld (a := hm_rf 0 7) (n := 1024) (by decide) (by omega) (by decide), Option.bind_some, e5, pl_up_same]
      unfold ll_X6_findsWay_74
      have hd0 : nI (M.2.1 g) = pl_dn (M.2.1 g + 1) 0 := by
        unfold pl_dn
        rw [if_pos (by omega)]
        rfl
      obtain ⟨τ0, hτ0⟩ : ∃ τ, τ = hb_up μ1 0 15 (nI (M.2.1 g)) := ⟨_, rfl⟩
      rw [← hτ0, hd0]
      obtain ⟨t, g1, g2, g3, g4⟩ := pl_inv (f := fun s => lb_X6_findsWay_74 0 s.1 s.2.1 s.2.2) (s := (nI g, pl_dn (M.2.1 g + 1) 0, τ0)) (M.2.1 g + 1)
        (fun t s => s.2.1 = pl_dn (M.2.1 g + 1) t ∧ (t ≤ M.2.1 g → s.1 = nI (pw_up M t g)) ∧ (∀ c, c ≠ 11 → s.2.2 c = τ0 c) ∧ ∀ t', t' < t → s.2.2 11 (M.2.1 g - t') = nI (pw_up M t' g))
        (fun t => (∀ c, c ≠ 11 → t c = τ0 c) ∧ (∀ t', t' < M.2.1 g + 1 → t 11 (M.2.1 g - t') = nI (pw_up M t' g)) ∧ True)
        ⟨rfl, fun _ => rfl, fun _ _ => rfl, fun t' h => by omega⟩ (by
        intro t s ht ⟨e1, e2, e3, e4⟩
        obtain ⟨w2, w3, τ⟩ := s
        dsimp only at e1 e2 e3 e4
        subst e1
        left
        show ∃ s', lb_X6_findsWay_74 0 w2 (pl_dn (M.2.1 g + 1) t) τ = some (.inl s') ∧ _
        have hw := e2 (by omega)
        subst hw
        obtain ⟨u1, u2⟩ := pw_up_ok hM hgm t (by omega)
        have hul := hM.lt u1
        have hdn : pl_dn (M.2.1 g + 1) t = nI (M.2.1 g - t) := by unfold pl_dn; rw [if_pos ht, show M.2.1 g + 1 - 1 - t = M.2.1 g - t by omega]
        unfold lb_X6_findsWay_74
        rw [if_neg (pl_dn_ge ht (by omega)), hdn, pm_stt (a := hm_rf 0 14) (n := 1024) (by decide) (by omega) (by decide), Option.bind_some, pm_ld (a := hm_rf 0 8) (n := 1024) (by decide) (by omega) (by decide), Option.bind_some]
        simp only [hb_nm]
        refine ⟨_, rfl, ?_, fun ht2 => ?_, fun c hc => ?_, fun t' ht' => ?_⟩
        · show nI (M.2.1 g - t) + (-1) = _
          rw [← hdn]
          exact pl_dn_s ht
        · show hb_up τ 11 (M.2.1 g - t) (nI (pw_up M t g)) 6 (pw_up M t g) = nI (pw_up M (t + 1) g)
          rw [pl_up_ne (by decide), e3 6 (by decide), hτ0, hb_up_ne (by decide)]
          exact (r2.2.2.2 _ u1 (by omega)).1
        · show hb_up τ 11 (M.2.1 g - t) (nI (pw_up M t g)) c = _
          rw [hb_up_ne hc]
          exact e3 c hc
        · show hb_up τ 11 (M.2.1 g - t) (nI (pw_up M t g)) 11 (M.2.1 g - t') = _
          by_cases htt : t' = t
          · rw [htt, pl_up_same]
          · rw [pl_up_other (by omega)]
            exact e4 t' (by omega)) (by
        intro s ⟨e1, e2, e3, e4⟩
        obtain ⟨w2, w3, τ⟩ := s
        dsimp only at e1 e2 e3 e4
        subst e1
        show ∃ t, lb_X6_findsWay_74 0 w2 (pl_dn (M.2.1 g + 1) (M.2.1 g + 1)) τ = some (.inr t) ∧ _
        unfold lb_X6_findsWay_74
        rw [if_pos (pl_dn_end _)]
        exact ⟨τ, rfl, e3, e4, trivial⟩) (by rw [pl_F]; omega)
      rw [g1, Option.bind_some]
      have e0 : t 0 = τ0 0 := g2 0 (by decide)
      refine ⟨t, rfl, ⟨fun c h1 h2 => ?_, fun j h1 h2 => ?_⟩, ⟨?_, fun j x hj => ?_, fun x hx => ?_, fun x hx hd => ?_⟩, fun g' hg' => ?_⟩
      · rw [g2 c (by omega), hτ0, hb_up_ne (by omega)]
        exact r3.kp.1 c h1 h2
      · rw [e0, hτ0, pl_up_other h2]
        exact r3.kp.2 j h1 h2
      · rw [e0, hτ0, pl_up_other (by decide)]
        exact r2.1
      · rw [g2 8 (by decide), hτ0, hb_up_ne (by decide)]
        exact r2.2.1 j x hj
      · rw [g2 5 (by decide), hτ0, hb_up_ne (by decide)]
        exact r2.2.2.1 x hx
      · rw [g2 6 (by decide), g2 7 (by decide), hτ0, hb_up_ne (by decide), hb_up_ne (by decide)]
        exact r2.2.2.2 x hx hd
      · cases hg'
        exact ⟨by rw [e0, hτ0, pl_up_same], fun t' ht' => g3 t' (by omega)⟩
  · unfold pw_sc
    rw [Nat.sub_zero, List.drop_length]
    rfl
  · intro t ht
    show lb_X6_findsWay_14 0 (pw_sc B M.1 t) (pl_dn M.1.length t) μ1 = _
    obtain ⟨q, hq⟩ : ∃ q, M.1[M.1.length - 1 - t]? = some q := ⟨_, List.getElem?_eq_getElem (by omega)⟩
    have hqm := List.mem_of_getElem? hq
    have hql := hM.lt hqm
    have hdn : pl_dn M.1.length t = nI (M.1.length - 1 - t) := by unfold pl_dn; rw [if_pos ht]
    have e8 : μ1 (hm_rf 0 10) (M.1.length - 1 - t) = nI q := r2.2.1 _ q hq
    unfold lb_X6_findsWay_14 jn_X6_findsWay_44
    simp only [hb_nm]
    rw [if_neg (pl_dn_ge ht (by omega)), pl_dn_s ht, hdn, pm_ld (a := hm_rf 0 10) (n := 1024) (by decide) (by omega) (by decide), Option.bind_some, e8, pl_div _ (by omega), pm_isHappy hW (by omega), Option.bind_some, hB', pw_sc_s B ht hq, Option.bind_some]
    by_cases hh : pl_m B (q / 32) = 0 ∧ ¬ B (1 + 13 * (q / 32)) ≤ 0
    · rw [if_pos hh, if_neg (by decide), if_pos (show pw_hap B q = true from decide_eq_true hh)]
    · rw [if_neg hh, if_pos rfl, if_neg (by rw [show pw_hap B q = false from decide_eq_false hh]; decide)]
  · show lb_X6_findsWay_14 0 (pw_sc B M.1 M.1.length) (pl_dn M.1.length M.1.length) μ1 = _
    unfold lb_X6_findsWay_14
    rw [if_pos (pl_dn_end _)]
  · rw [pl_F]; omega
