/-! a text of choices, all of it, on both sides -/
abbrev tx_S : Type := Bool × Nat × Nat × (Nat → Nat × Nat × Nat × Nat)
def tx_put (r : Nat × Option (Nat × Nat × Nat × Nat)) (n : Nat) (L : Nat → Nat × Nat × Nat × Nat) : tx_S := r.2.elim (false, r.1, n, L) (fun c => (true, r.1, n + 1, fun k => if k = n then c else L k))
def tx_go (T : Nat → Nat) : Nat → tx_S → tx_S
  | 0, s => s
  | m + 1, s => if s.1 = true ∧ T s.2.1 = 59 then tx_go T m (tx_put (tx_ch T (s.2.1 + 1)) s.2.2.1 s.2.2.2) else s
def tx_all (T : Nat → Nat) : tx_S := tx_go T 15 (tx_put (tx_ch T 0) 0 (fun _ => (0, 0, 0, 0)))
def tx_iv (len : Nat) (s : tx_S) : Prop := s.2.1 ≤ len ∧ (s.1 = true → 4 * s.2.2.1 ≤ s.2.1 + 1) ∧ ∀ k, k < s.2.2.1 → tx_ok (s.2.2.2 k)
theorem tx_put_iv {T : Nat → Nat} {len i n : Nat} {L : Nat → Nat × Nat × Nat × Nat} (h : tx_E T len) (hi : i ≤ len) (hn : 4 * n ≤ i) (hL : ∀ k, k < n → tx_ok (L k)) : tx_iv len (tx_put (tx_ch T i) n L) := by
  obtain ⟨a1, a2⟩ := tx_ch_b h hi
  unfold tx_put
  cases e : (tx_ch T i).2 with
  | none => exact ⟨a1, (fun hc => by cases hc), hL⟩
  | some c =>
    obtain ⟨b1, b2⟩ := a2 c e
    refine ⟨a1, fun _ => ?_, fun k hk => ?_⟩
    · show 4 * (n + 1) ≤ (tx_ch T i).1 + 1
      omega
    · show tx_ok (if k = n then c else L k)
      by_cases hkn : k = n
      · rw [if_pos hkn]
        exact b2
      · rw [if_neg hkn]
        exact hL k (by have : k < n + 1 := hk; omega)
theorem tx_go_no {T : Nat → Nat} {s : tx_S} (h : ¬ (s.1 = true ∧ T s.2.1 = 59)) : ∀ m, tx_go T m s = s := by
  intro m
  cases m with
  | zero => rfl
  | succ m =>
    unfold tx_go
    rw [if_neg h]
theorem tx_go_yes {T : Nat → Nat} {s : tx_S} (h : s.1 = true ∧ T s.2.1 = 59) (m : Nat) : tx_go T (m + 1) s = tx_go T m (tx_put (tx_ch T (s.2.1 + 1)) s.2.2.1 s.2.2.2) := by
  rw [tx_go, if_pos h]
theorem tx_put_n {r : Nat × Option (Nat × Nat × Nat × Nat)} {n : Nat} {L : Nat → Nat × Nat × Nat × Nat} (h : (tx_put r n L).1 = true) : (tx_put r n L).2.2.1 = n + 1 := by
  unfold tx_put at h ⊢
  cases e : r.2 with
  | none => rw [e] at h; cases h
  | some c => rfl
theorem tx_go_iv {T : Nat → Nat} {len : Nat} (h : tx_E T len) : ∀ m s, tx_iv len s → tx_iv len (tx_go T m s) := by
  intro m
  induction m with
  | zero => intro s hs; exact hs
  | succ m ih =>
    intro s hs
    by_cases c : s.1 = true ∧ T s.2.1 = 59
    · rw [tx_go_yes c]
      have := tx_lt (i := s.2.1) h (by omega)
      exact ih _ (tx_put_iv h (by omega) (hs.2.1 c.1) hs.2.2)
    · rw [tx_go_no c]
      exact hs
theorem tx_all_iv {T : Nat → Nat} {len : Nat} (h : tx_E T len) : tx_iv len (tx_all T) := tx_go_iv h 15 _ (tx_put_iv h (Nat.zero_le _) (by omega) (fun k hk => by omega))
-- the class
def tx_cB (σ0 : hb_Mem) (n : Nat) (L : Nat → Nat × Nat × Nat × Nat) (σ : hb_Mem) : Prop := (∀ c, c ≠ 136 → c ≠ 140 → c ≠ 142 → c ≠ 144 → c ≠ 146 → σ c = σ0 c) ∧ (∀ j, j ≠ 2 → j ≠ 3 → j ≠ 4 → σ 136 j = σ0 136 j) ∧ σ 136 4 = nI n ∧ ∀ k, k < n → σ 140 k = nI (L k).1 ∧ σ 142 k = nI (L k).2.1 ∧ σ 144 k = nI (L k).2.2.1 ∧ σ 146 k = nI (L k).2.2.2
theorem tx_cB.m {σ0 σ : hb_Mem} {n : Nat} {L : Nat → Nat × Nat × Nat × Nat} (h : tx_cB σ0 n L σ) (b : Int32) (i : Nat) : tx_cB σ0 n L (tx_m 136 2 3 σ b i) := by
  obtain ⟨h1, h2, h3, h4⟩ := h
  refine ⟨fun c c1 c2 c3 c4 c5 => by rw [tx_m_c c1]; exact h1 c c1 c2 c3 c4 c5, fun j j1 j2 j3 => by rw [tx_m_f j1 j2]; exact h2 j j1 j2 j3, by rw [tx_m_f (by decide) (by decide)]; exact h3, fun k hk => ?_⟩
  rw [tx_m_c (by decide), tx_m_c (by decide), tx_m_c (by decide), tx_m_c (by decide)]
  exact h4 k hk
theorem tx_cB.s {σ0 σ : hb_Mem} {n : Nat} {L : Nat → Nat × Nat × Nat × Nat} (h : tx_cB σ0 n L σ) (c : Nat × Nat × Nat × Nat) : tx_cB σ0 (n + 1) (fun k => if k = n then c else L k) (tx_cl σ n c) := by
  obtain ⟨h1, h2, h3, h4⟩ := h
  unfold tx_cl
  refine ⟨fun d c1 c2 c3 c4 c5 => by rw [hb_up_ne c1, hb_up_ne c5, hb_up_ne c4, hb_up_ne c3, hb_up_ne c2]; exact h1 d c1 c2 c3 c4 c5, fun j j1 j2 j3 => by rw [pl_up_other j3, pl_up_ne (by decide), pl_up_ne (by decide), pl_up_ne (by decide), pl_up_ne (by decide)]; exact h2 j j1 j2 j3, pl_up_same _ _ _ _, fun k hk => ?_⟩
  dsimp only
  by_cases e : k = n
  · rw [if_pos e, e]
    refine ⟨?_, ?_, ?_, ?_⟩
    · rw [pl_up_ne (by decide), pl_up_ne (by decide), pl_up_ne (by decide), pl_up_ne (by decide), pl_up_same]
    · rw [pl_up_ne (by decide), pl_up_ne (by decide), pl_up_ne (by decide), pl_up_same]
    · rw [pl_up_ne (by decide), pl_up_ne (by decide), pl_up_same]
    · rw [pl_up_ne (by decide), pl_up_same]
  · rw [if_neg e]
    obtain ⟨k1, k2, k3, k4⟩ := h4 k (by omega)
    refine ⟨?_, ?_, ?_, ?_⟩
    · rw [pl_up_ne (by decide), pl_up_ne (by decide), pl_up_ne (by decide), pl_up_ne (by decide), pl_up_other e, k1]
    · rw [pl_up_ne (by decide), pl_up_ne (by decide), pl_up_ne (by decide), pl_up_other e, pl_up_ne (by decide), k2]
    · rw [pl_up_ne (by decide), pl_up_ne (by decide), pl_up_other e, pl_up_ne (by decide), pl_up_ne (by decide), k3]
    · rw [pl_up_ne (by decide), pl_up_other e, pl_up_ne (by decide), pl_up_ne (by decide), pl_up_ne (by decide), k4]
def tx_cR (σ0 : hb_Mem) (s : tx_S) (σ : hb_Mem) : Prop := tx_cB σ0 s.2.2.1 s.2.2.2 σ ∧ σ 136 2 = nI s.2.1 ∧ σ 136 3 = (if s.1 = true then 1 else 0)
theorem tx_cR.C {σ0 σ : hb_Mem} {n : Nat} {L : Nat → Nat × Nat × Nat × Nat} {T : Nat → Nat} {len : Nat} (h : tx_C σ0 T len) (hB : tx_cB σ0 n L σ) : tx_C σ T len := h.fr (hB.2.1 1 (by decide) (by decide) (by decide)) (hB.1 138 (by decide) (by decide) (by decide) (by decide) (by decide))
theorem pc_put {σ0 σ : hb_Mem} {T : Nat → Nat} {len i n : Nat} {L : Nat → Nat × Nat × Nat × Nat} (h : tx_C σ0 T len) (hB : tx_cB σ0 n L σ) (hi : i ≤ len) (hn : n < 16) : ∃ σ', fn_X4_parseChoice 136 (tx_m 136 2 3 σ 1 i) = some σ' ∧ tx_cR σ0 (tx_put (tx_ch T i) n L) σ' := by
  rw [pc_ch (tx_cR.C h hB) hi hn hB.2.2.1]
  refine ⟨_, rfl, ?_⟩
  unfold tx_put
  cases e : (tx_ch T i).2 with
  | none => exact ⟨hB.m 0 _, tx_m_p (by decide), tx_m_q⟩
  | some c => exact ⟨(hB.s c).m 1 _, tx_m_p (by decide), tx_m_q⟩
theorem pc_parse {σ : hb_Mem} {T : Nat → Nat} {len : Nat} (h : tx_C σ T len) : ∃ σ', fn_X4_parse 136 σ = some (if (tx_all T).1 = true ∧ (tx_all T).2.1 = len then 1 else 0, σ') ∧ tx_cR σ (tx_all T) σ' := by
  have z1 : ¬ (1 : Int32) = 0 := by decide
  have h60 := h.1
  have hE := h.2.2.2
  unfold fn_X4_parse
  simp only [hb_nm]
  have e0 : hb_up (hb_up (hb_up σ 136 2 0) 136 3 1) 136 4 0 = tx_m 136 2 3 (hb_up σ 136 4 (nI 0)) 1 0 := tx_m_upf (k := 136) (p := 2) (q := 3) (j := 4) (i := 0) (b := 1) (v := 0) (σ := σ) (by decide) (by decide) (by decide)
  have hB0 : tx_cB σ 0 (fun _ => (0, 0, 0, 0)) (hb_up σ 136 4 (nI 0)) := ⟨fun c c1 _ _ _ _ => hb_up_ne c1, fun j _ _ j3 => pl_up_other j3, pl_up_same _ _ _ _, fun k hk => by omega⟩
  obtain ⟨σ1, f1, g1⟩ := pc_put h hB0 (i := 0) (Nat.zero_le _) (by omega)
  rw [e0, f1, Option.bind_some]
  unfold ll_X4_parse_21
  obtain ⟨t, k1, k2⟩ := pl_inv (f := fun s => lb_X4_parse_21 136 s.1 s.2) (s := ((1 : Int32), σ1)) 15
    (fun k st => ∃ s : tx_S, tx_go T (15 - k) s = tx_all T ∧ tx_iv len s ∧ (s.1 = true → s.2.2.1 = k + 1) ∧ st.1 = nI (k + 1) ∧ tx_cR σ s st.2)
    (fun t => tx_cR σ (tx_all T) t)
    ⟨_, rfl, tx_put_iv hE (Nat.zero_le _) (by omega) (fun k hk => by omega), fun hs => tx_put_n hs, rfl, g1⟩ (by
    intro k st hk ⟨s, a1, a2, a3, a4, a5⟩
    obtain ⟨w, τ⟩ := st
    dsimp only at a4 a5
    subst a4
    show (∃ s', lb_X4_parse_21 136 (nI (k + 1)) τ = some (.inl s') ∧ _) ∨ ∃ t, lb_X4_parse_21 136 (nI (k + 1)) τ = some (.inr t) ∧ _
    obtain ⟨b1, b2, b3⟩ := a5
    unfold lb_X4_parse_21
    simp only [hb_nm]
    rw [if_neg (by show ¬ nI 16 ≤ nI (k + 1); rw [nI_leI (by omega) (by omega)]; omega), b3]
    by_cases hs : s.1 = true
    · rw [if_pos hs] at b3
      rw [if_pos hs, if_neg z1]
      have hself : tx_m 136 2 3 τ 1 s.2.1 = τ := tx_m_self b2 b3
      obtain ⟨x, hx, tx⟩ := pc_sign (tx_cR.C h b1) a2.1 1
      rw [hself] at hx
      rw [hx, Option.bind_some]
      by_cases e : T s.2.1 = 59
      · have e2 : x = 59 := (tx_eq (c := 59) tx (by decide) (by decide)).mpr e
        have hl := tx_lt (i := s.2.1) hE (by omega)
        have hm : hb_up τ 136 2 (τ 136 2 + 1) = tx_m 136 2 3 τ 1 (s.2.1 + 1) := by
          have := tx_m_upp (k := 136) (p := 2) (q := 3) (by decide) (σ := τ) (b := 1) (i := s.2.1) (j := s.2.1 + 1)
          rw [hself] at this
          rw [b2, nI_1]
          exact this
        obtain ⟨σ2, f2, g2⟩ := pc_put h b1 (i := s.2.1 + 1) (by omega) (by rw [a3 hs]; omega)
        left
        rw [if_pos e2, hm, f2, Option.bind_some, nI_1]
        refine ⟨_, rfl, _, ?_, tx_put_iv hE (by omega) (a2.2.1 hs) a2.2.2, fun hp => by rw [tx_put_n hp, a3 hs], rfl, g2⟩
        rw [← a1, show 15 - k = (15 - (k + 1)) + 1 by omega, tx_go_yes ⟨hs, e⟩]
      · have e2 : ¬ x = 59 := fun hc => e ((tx_eq (c := 59) tx (by decide) (by decide)).mp hc)
        right
        rw [if_neg e2]
        refine ⟨_, rfl, ?_⟩
        rw [← a1, tx_go_no (fun hc => e hc.2)]
        exact ⟨b1, b2, by rw [if_pos hs]; exact b3⟩
    · right
      rw [if_neg hs, if_pos rfl]
      refine ⟨_, rfl, ?_⟩
      rw [← a1, tx_go_no (fun hc => hs hc.1)]
      exact ⟨b1, b2, b3⟩) (by
    intro st ⟨s, a1, a2, a3, a4, a5⟩
    obtain ⟨w, τ⟩ := st
    dsimp only at a4 a5
    subst a4
    show ∃ t, lb_X4_parse_21 136 (nI 16) τ = some (.inr t) ∧ _
    unfold lb_X4_parse_21
    rw [if_pos (by show nI 16 ≤ nI 16; exact Int32.le_refl _)]
    refine ⟨_, rfl, ?_⟩
    have a1 : s = tx_all T := a1
    rw [← a1]
    exact a5) (by rw [pl_F]; omega)
  rw [k1, Option.bind_some]
  obtain ⟨b1, b2, b3⟩ := id k2
  have hiv := tx_all_iv hE
  have h1 : t 136 1 = nI len := by rw [b1.2.1 1 (by decide) (by decide) (by decide)]; exact h.2.1
  unfold jn_X4_parse_63
  rw [b3, b2, h1]
  refine ⟨t, ?_, k2⟩
  by_cases hs : (tx_all T).1 = true
  · rw [if_pos hs, if_neg z1]
    have hle := hiv.1
    by_cases e : (tx_all T).2.1 = len
    · rw [if_pos (by rw [e]), if_pos ⟨hs, e⟩]
    · rw [if_neg (fun hc => e ((nI_eq (by omega) (by omega)).mp hc)), if_neg (fun hc => e hc.2)]
  · rw [if_neg hs, if_pos rfl, if_neg (fun hc => hs hc.1)]

