/-! the class's rounds over the sets ahead -/
def pl_dn (len t : Nat) : Int32 := if t < len then nI (len - 1 - t) else -1
theorem pl_dn_0 (len : Nat) (h : len < 2 ^ 31) : pl_dn len 0 = nI len - 1 := by
  unfold pl_dn
  cases len with
  | zero => rfl
  | succ m =>
    rw [if_pos (by omega), show m + 1 - 1 - 0 = m by omega, nI_pred]
theorem pl_dn_s {len t : Nat} (h : t < len) : pl_dn len t + (-1) = pl_dn len (t + 1) := by
  unfold pl_dn
  rw [if_pos h]
  by_cases h2 : t + 1 < len
  · rw [if_pos h2, show len - 1 - t = (len - 1 - (t + 1)) + 1 by omega, pl_dec]
  · rw [if_neg h2, show len - 1 - t = 0 by omega]
    decide
theorem pl_dn_ge {len t : Nat} (h : t < len) (hl : len < 2 ^ 31) : ¬ pl_dn len t < 0 := by
  unfold pl_dn
  rw [if_pos h]
  exact nI_pos (by omega)
theorem pl_dn_end (len : Nat) : pl_dn len len < 0 := by
  unfold pl_dn
  rw [if_neg (by omega)]
  decide
/-- what is known of a list of places in the class's order row -/
def pc_ord (σ : hb_Mem) (l : List Nat) (n : Nat) (nx : Nat → Nat → Option Nat) : Prop := σ 147 2 = nI l.length ∧ (∀ j x : Nat, l[j]? = some x → σ 149 j = nI x) ∧ l.length ≤ 1024 ∧ (∀ x, x ∈ l → x < 32 * n) ∧ ∀ x c z, x ∈ l → c < 3 → nx x c = some z → z ∈ l
theorem pc_grow {n : Nat} {B : Nat → Int32} {σ : hb_Mem} {l : List Nat} (h : pl_WB n B) (hr : pl_RS σ 1 n B) (ho : pc_ord σ l n (pg_nx B)) : ∃ fl σ', fn_X3_growAhead 147 1 σ = some (fl, σ') ∧ pc_fa σ σ' ∧ (fl = 0 ∨ fl = 1) ∧ (pa_sound (pg_nx B) l (σ 157) → pa_sound (pg_nx B) l (σ' 157)) ∧ (∀ q, q ∈ l → pa_step (pg_nx B) (σ 157) q (σ' 157 q)) ∧ (fl = 0 → σ' 157 = σ 157) := by
  have hn := h.1
  obtain ⟨o1, o2, o3, o4, o5⟩ := ho
  unfold fn_X3_growAhead
  simp only [hb_nm]
  rw [o1, ← pl_dn_0 l.length (by omega)]
  unfold ll_X3_growAhead_9
  obtain ⟨t, g1, g2, g3, g4, g5, g6⟩ := pl_inv (f := fun s => lb_X3_growAhead_9 147 1 s.1 s.2.1 s.2.2) (s := (0, pl_dn l.length 0, σ)) l.length
    (fun t s => s.2.1 = pl_dn l.length t ∧ (s.1 = 0 ∨ s.1 = 1) ∧ pc_fa σ s.2.2 ∧ (pa_sound (pg_nx B) l (σ 157) → pa_sound (pg_nx B) l (s.2.2 157)) ∧ (∀ q p, q ∈ l → p < 32 → bt (σ 157 q) p = true → bt (s.2.2 157 q) p = true) ∧ (∀ j q, l.length - t ≤ j → l[j]? = some q → pa_step (pg_nx B) (σ 157) q (s.2.2 157 q)) ∧ (s.1 = 0 → s.2.2 157 = σ 157))
    (fun t => (t.1 = 0 ∨ t.1 = 1) ∧ pc_fa σ t.2 ∧ (pa_sound (pg_nx B) l (σ 157) → pa_sound (pg_nx B) l (t.2 157)) ∧ (∀ q, q ∈ l → pa_step (pg_nx B) (σ 157) q (t.2 157 q)) ∧ (t.1 = 0 → t.2 157 = σ 157))
    ⟨rfl, Or.inl rfl, fun _ _ => rfl, fun h => h, fun _ _ _ _ h => h, fun j q hj hq => by
      have := (List.getElem?_eq_some_iff.mp hq).1
      omega, fun _ => rfl⟩ (by
    intro t s ht ⟨e1, e2, e3, e4, e5, e6, e7⟩
    obtain ⟨w2, w3, τ⟩ := s
    dsimp only at e1 e2 e3 e4 e5 e6 e7
    subst e1
    left
    show ∃ s', lb_X3_growAhead_9 147 1 w2 (pl_dn l.length t) τ = some (.inl s') ∧ _
    obtain ⟨q, hq⟩ : ∃ q, l[l.length - 1 - t]? = some q := ⟨_, List.getElem?_eq_getElem (by omega)⟩
    have hqm := List.mem_of_getElem? hq
    have hqN := o4 q hqm
    have hr' := pc_fa.RS e3 hr
    have e149 : τ 149 = σ 149 := e3 149 (by decide)
    have hdn : pl_dn l.length t = nI (l.length - 1 - t) := by unfold pl_dn; rw [if_pos ht]
    unfold lb_X3_growAhead_9
    rw [if_neg (pl_dn_ge ht (by omega)), hdn, pl_at (r := hc_rf 147 3) (a := 149) (n := 1024) (by decide) (by omega), Option.bind_some, e149, o2 _ q hq, pc_open (by decide) h hr' hqN, Option.bind_some, pl_at (r := hc_rf 147 7) (a := 157) (n := 1024) (by decide) (by omega), Option.bind_some]
    obtain ⟨v, k1, k2, k3, k4⟩ := pc_seen h hr' hqN w2 (nI (l.length - 1 - t)) (τ 157 q)
    rw [k1, Option.bind_some]
    -- the new flag
    have key : ∀ fl : Int32, (fl = 0 ∨ fl = 1) → (fl = 0 → w2 = 0 ∧ v = τ 157 q) → ∃ s', jn_X3_growAhead_122 147 1 (nI (l.length - 1 - t)) (nI q) v fl τ = some (.inl s') ∧ (s'.2.1 = pl_dn l.length (t + 1) ∧ (s'.1 = 0 ∨ s'.1 = 1) ∧ pc_fa σ s'.2.2 ∧ (pa_sound (pg_nx B) l (σ 157) → pa_sound (pg_nx B) l (s'.2.2 157)) ∧ (∀ q p, q ∈ l → p < 32 → bt (σ 157 q) p = true → bt (s'.2.2 157 q) p = true) ∧ (∀ j q, l.length - (t + 1) ≤ j → l[j]? = some q → pa_step (pg_nx B) (σ 157) q (s'.2.2 157 q)) ∧ (s'.1 = 0 → s'.2.2 157 = σ 157)) := by
      intro fl hfl hfl0
      unfold jn_X3_growAhead_122
      rw [pl_put (r := hc_rf 147 7) (a := 157) (n := 1024) (by decide) (by omega), Option.bind_some]
      simp only [hb_nm]
      have hA : ∀ x, hb_up τ 157 q v 157 x = if x = q then v else τ 157 x := by
        intro x
        by_cases hx : x = q
        · rw [if_pos hx, hx, pl_up_same]
        · rw [if_neg hx, pl_up_other hx]
      refine ⟨_, rfl, ?_, hfl, fun c hc => ?_, fun hs => ?_, fun q' p hq' hp hb => ?_, fun j q' hj hq' => ?_, fun h0 => ?_⟩
      · show nI (l.length - 1 - t) + (-1) = _
        rw [← hdn]
        exact pl_dn_s ht
      · show hb_up τ 157 q v c = σ c
        rw [hb_up_ne hc]
        exact e3 c hc
      · intro q' p hq' hp hb
        have hb' : bt (hb_up τ 157 q v 157 q') p = true := hb
        rw [hA] at hb'
        by_cases hx : q' = q
        · rw [if_pos hx] at hb'
          rcases k4 p hp hb' with h1 | ⟨c, z, hc, hz, h1⟩
          · rw [hx]
            exact e4 hs q p hqm hp h1
          · rw [hx]
            rcases h1 with h1 | h1
            · exact ⟨0, z, ⟨c, z, hc, hz, rfl⟩, h1⟩
            · obtain ⟨k, z', h2, h3⟩ := e4 hs z p (o5 q c z hqm hc hz) hp h1
              exact ⟨k + 1, z', ⟨c, z, hc, hz, h2⟩, h3⟩
        · rw [if_neg hx] at hb'
          exact e4 hs q' p hq' hp hb'
      · show bt (hb_up τ 157 q v 157 q') p = true
        rw [hA]
        by_cases hx : q' = q
        · rw [if_pos hx]
          rw [hx] at hb
          exact k3 p hp (e5 q p hqm hp hb)
        · rw [if_neg hx]
          exact e5 q' p hq' hp hb
      · show pa_step (pg_nx B) (σ 157) q' (hb_up τ 157 q v 157 q')
        rw [hA]
        by_cases hx : q' = q
        · rw [if_pos hx, hx]
          intro c z hc hz
          obtain ⟨m1, m2⟩ := k2 c z hc hz
          exact ⟨m1, fun p hp hb => m2 p hp (e5 z p (o5 q c z hqm hc hz) hp hb)⟩
        · rw [if_neg hx]
          refine e6 j q' ?_ hq'
          have hne : j ≠ l.length - 1 - t := by
            intro e
            rw [e, hq] at hq'
            exact hx (Option.some.inj hq').symm
          omega
      · show hb_up τ 157 q v 157 = σ 157
        obtain ⟨w0, hv⟩ := hfl0 h0
        rw [← e7 w0]
        funext x
        rw [hA]
        by_cases hx : x = q
        · rw [if_pos hx, hx, hv]
        · rw [if_neg hx]
    by_cases hw : w2 = 0
    · rw [if_pos hw, Option.bind_some]
      by_cases hv : v = τ 157 q
      · rw [if_pos hv]
        exact key 0 (Or.inl rfl) (fun _ => ⟨hw, hv⟩)
      · rw [if_neg hv]
        exact key 1 (Or.inr rfl) (fun h => absurd h (by decide))
    · rw [if_neg hw]
      exact key 1 (Or.inr rfl) (fun h => absurd h (by decide))) (by
    intro s ⟨e1, e2, e3, e4, e5, e6, e7⟩
    obtain ⟨w2, w3, τ⟩ := s
    dsimp only at e1 e2 e3 e4 e5 e6 e7
    subst e1
    show ∃ t, lb_X3_growAhead_9 147 1 w2 (pl_dn l.length l.length) τ = some (.inr t) ∧ _
    unfold lb_X3_growAhead_9
    rw [if_pos (pl_dn_end _)]
    exact ⟨_, rfl, e2, e3, e4, fun q hq => by
      obtain ⟨j, hj⟩ := List.getElem?_of_mem hq
      exact e6 j q (by omega) hj, e7⟩) (by rw [pl_F]; omega)
  rw [g1, Option.bind_some]
  refine ⟨t.1, t.2, ?_, g3, g2, g4, g5, g6⟩
  unfold hb_bz
  rw [if_pos g2]
  rfl
/-- the rounds: in the end the sets are just what can be come to -/
theorem pc_ahead {n : Nat} {B : Nat → Int32} {σ : hb_Mem} {l : List Nat} (h : pl_WB n B) (hr : pl_RS σ 1 n B) (ho : pc_ord σ l n (pg_nx B)) (h0 : ∀ x, x ∈ l → σ 157 x = 0) : ∃ σ', fn_X3_findAhead 147 1 σ = some σ' ∧ pc_fa σ σ' ∧ pa_sound (pg_nx B) l (σ' 157) ∧ pa_full (pg_nx B) l (σ' 157) := by
  have hn := h.1
  have hN : ∀ x c z, x < 32 * n → pg_nx B x c = some z → z < 32 * n := fun x c z hx hz => pg_nx_lt h hx hz
  have h32 : ∀ x c z, x ∈ l → c < 3 → pg_nx B x c = some z → z / 32 < 32 := fun x c z hx hc hz => by have := hN x c z (ho.2.2.2.1 x hx) hz; omega
  have hs0 : pa_sound (pg_nx B) l (σ 157) := by
    intro q p hq _ hb
    rw [h0 q hq, bt_zero] at hb
    cases hb
  have hc0 : pa_comp (pg_nx B) l 0 (σ 157) := fun q k z _ hk => by omega
  have hw0 : (1 : Int32) = 0 → pa_full (pg_nx B) l (σ 157) := fun h => absurd h (by decide)
  unfold fn_X3_findAhead ll_X3_findAhead_4
  obtain ⟨t, g1, g2, g3, g4⟩ := pl_inv (f := fun s => lb_X3_findAhead_4 147 1 s.1 s.2.1 s.2.2) (s := (1, 0, σ)) 1025
    (fun r s => s.2.1 = nI r ∧ pc_fa σ s.2.2 ∧ pa_sound (pg_nx B) l (s.2.2 157) ∧ pa_comp (pg_nx B) l r (s.2.2 157) ∧ (s.1 = 0 → pa_full (pg_nx B) l (s.2.2 157)))
    (fun t => pc_fa σ t ∧ pa_sound (pg_nx B) l (t 157) ∧ pa_full (pg_nx B) l (t 157))
    ⟨rfl, fun _ _ => rfl, hs0, hc0, hw0⟩ (by
    intro r s hrr ⟨e1, e2, e3, e4, e5⟩
    obtain ⟨w2, w3, τ⟩ := s
    dsimp only at e1 e2 e3 e4 e5
    subst e1
    show (∃ s', lb_X3_findAhead_4 147 1 w2 (nI r) τ = some (.inl s') ∧ _) ∨ ∃ t, lb_X3_findAhead_4 147 1 w2 (nI r) τ = some (.inr t) ∧ _
    unfold lb_X3_findAhead_4
    by_cases hw : w2 = 0
    · right
      rw [if_pos hw]
      exact ⟨τ, rfl, e2, e3, e5 hw⟩
    · left
      have ho' : pc_ord τ l n (pg_nx B) := by
        obtain ⟨o1, o2, o3, o4, o5⟩ := ho
        exact ⟨by rw [e2 147 (by decide)]; exact o1, fun j x hj => by rw [e2 149 (by decide)]; exact o2 j x hj, o3, o4, o5⟩
      obtain ⟨fl, τ', k1, k2, k3, k4, k5, k6⟩ := pc_grow h (pc_fa.RS e2 hr) ho'
      rw [if_neg hw, if_neg (by show ¬ nI 1024 < nI r; rw [nI_ltI (by omega) (by omega)]; omega), k1, Option.bind_some]
      simp only [hb_nm, nI_1]
      refine ⟨_, rfl, rfl, fun c hc => (k2 c hc).trans (e2 c hc), k4 e3, ?_, fun hf => ?_⟩
      · intro q k z hq hk hp
        obtain ⟨c, w, hc, hw, hp⟩ := hp
        obtain ⟨m1, m2⟩ := k5 q hq c w hc hw
        cases k with
        | zero =>
          have e : w = z := hp
          rw [← e]
          exact m1
        | succ k =>
          have hz32 : z / 32 < 32 := by
            have hzl := pb_closed (fun x c z hx hc hz => ho.2.2.2.2 x c z hx hc hz) (k + 1) w z (ho.2.2.2.2 q c w hq hc hw) hp
            have := ho.2.2.2.1 z hzl
            omega
          exact m2 _ hz32 (e4 w k z (ho.2.2.2.2 q c w hq hc hw) (by omega) hp)
      · have hA := k6 hf
        refine pa_closed ho.2.2.2.2 h32 (fun q hq => ?_)
        have := k5 q hq
        show pa_step (pg_nx B) (τ' 157) q (τ' 157 q)
        rw [hA] at this ⊢
        exact this) (by
    intro s ⟨e1, e2, e3, e4, e5⟩
    obtain ⟨w2, w3, τ⟩ := s
    dsimp only at e1 e2 e3 e4 e5
    subst e1
    show ∃ t, lb_X3_findAhead_4 147 1 w2 (nI 1025) τ = some (.inr t) ∧ _
    unfold lb_X3_findAhead_4
    have hfull : pa_full (pg_nx B) l (τ 157) := pa_comp_full hN (by omega) ho.2.2.2.1 (pa_comp_mono e4 (by decide))
    by_cases hw : w2 = 0
    · rw [if_pos hw]
      exact ⟨τ, rfl, e2, e3, hfull⟩
    · rw [if_neg hw, if_pos (by decide)]
      exact ⟨τ, rfl, e2, e3, hfull⟩) (by rw [pl_F]; omega)
  rw [g1, Option.bind_some]
  exact ⟨t, rfl, g2, g3, g4⟩

