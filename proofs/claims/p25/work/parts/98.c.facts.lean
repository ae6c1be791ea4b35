/-! sums, and what of the places the law asks -/
theorem ct_add (g h : Nat → Nat) : ∀ N, ct N (fun i => g i + h i) = ct N g + ct N h
  | 0 => rfl
  | N + 1 => by
    show ct N (fun i => g i + h i) + (g N + h N) = (ct N g + g N) + (ct N h + h N)
    rw [ct_add g h N]
    omega
theorem ct_zero : ∀ N, ct N (fun _ => 0) = 0
  | 0 => rfl
  | N + 1 => by
    show ct N (fun _ => 0) + 0 = 0
    rw [ct_zero N]
theorem ct_ones : ∀ N, ct N (fun _ => 1) = N
  | 0 => rfl
  | N + 1 => by
    show ct N (fun _ => 1) + 1 = N + 1
    rw [ct_ones N]
theorem ct_one {a : Nat} : ∀ N, a < N → ct N (fun p => if a = p then 1 else 0) = 1
  | 0, h => by omega
  | N + 1, h => by
    show ct N (fun p => if a = p then 1 else 0) + (if a = N then 1 else 0) = 1
    by_cases e : a = N
    · rw [if_pos e, ct_congr (g' := fun _ => 0) N (fun i hi => if_neg (by omega)), ct_zero]
    · rw [if_neg e, ct_one N (by omega)]
theorem ct_swap (f : Nat → Nat → Nat) (m : Nat) : ∀ n, ct n (fun p => ct m (fun q => f p q)) = ct m (fun q => ct n (fun p => f p q))
  | 0 => (ct_zero m).symm
  | n + 1 => by
    show ct n (fun p => ct m (fun q => f p q)) + ct m (fun q => f n q) = _
    rw [ct_swap f m n, ← ct_add]
    rfl
theorem ct_mono {g h : Nat → Nat} : ∀ N, (∀ i, i < N → g i ≤ h i) → ct N g ≤ ct N h
  | 0, _ => Nat.le_refl 0
  | N + 1, hh => by
    show ct N g + g N ≤ ct N h + h N
    have := ct_mono N (fun i hi => hh i (by omega))
    have := hh N (by omega)
    omega
theorem ct_one_le {g : Nat → Nat} {i : Nat} : ∀ N, i < N → g i ≤ ct N g
  | 0, h => by omega
  | N + 1, h => by
    show g i ≤ ct N g + g N
    by_cases e : i = N
    · rw [e]; omega
    · have := ct_one_le (g := g) N (show i < N by omega)
      omega
theorem ct_none {g : Nat → Nat} (N : Nat) (h : ∀ i, i < N → g i = 0) : ct N g = 0 := by
  rw [ct_congr (g' := fun _ => 0) N h, ct_zero]
/-- as many choices lead anywhere as there are -/
theorem sp_to_sum {n : Nat} {B : Nat → Int32} (h : pl_WB n B) : ct n (fun p => sp_to n B (nI p)) = ct n (pl_m B) := by
  have hn := h.1
  show ct n (fun p => ct n (fun q => ct (pl_m B q) (fun c => if B (5 + 13 * q + 3 * c) = nI p then 1 else 0))) = _
  rw [ct_swap (fun p q => ct (pl_m B q) (fun c => if B (5 + 13 * q + 3 * c) = nI p then 1 else 0)) n n]
  refine ct_congr n (fun q hq => ?_)
  rw [ct_swap (fun p c => if B (5 + 13 * q + 3 * c) = nI p then 1 else 0) (pl_m B q) n]
  rw [ct_congr (g' := fun _ => 1) (pl_m B q) (fun c hc => ?_), ct_ones]
  obtain ⟨t1, t2⟩ := h.to hq hc
  rw [ct_congr (g' := fun p => if pg_to B q c = p then 1 else 0) n (fun p hp => ?_), ct_one n t1]
  rw [t2]
  by_cases e : pg_to B q c = p
  · rw [if_pos e, if_pos (by rw [e])]
  · rw [if_neg e, if_neg (fun hc => e ((nI_eq (by omega) (by omega)).mp hc))]
-- the law's numbers
theorem low_pos (x : Int32) : ¬ (x &&& 2147483647) < 0 := by
  intro h
  rw [Int32.lt_iff_toInt_lt] at h
  have h1 : (x &&& 2147483647).toBitVec.msb = true := by
    rw [BitVec.msb_eq_toInt]
    exact decide_eq_true h
  rw [Int32.toBitVec_and, BitVec.msb_and] at h1
  have h2 : (2147483647 : Int32).toBitVec.msb = false := by decide
  rw [h2, Bool.and_false] at h1
  cases h1
theorem cs_low (x : Int32) {m : Nat} (h0 : 0 < m) (hm : m < 2 ^ 31) : ∃ q, q < m ∧ fn_L_low x (nI m) = some (nI q) := by
  obtain ⟨t, ht, e⟩ := pl_nat (low_pos x)
  refine ⟨t % m, Nat.mod_lt _ h0, ?_⟩
  unfold fn_L_low hb_nz
  rw [if_neg (nI_ne0 h0 hm), Option.bind_some, e, pk_rem ht h0 hm]
-- the places
theorem pb_pl0 (B : Nat → Int32) : (pb_pl 0 B).1 = [] := by
  unfold pb_pl
  rw [if_pos rfl]
theorem pb_pl_ok {n : Nat} {B : Nat → Int32} (h : pl_WB n B) (h0 : 0 < n) : pb_ok (pg_nx B) (32 * n) [pg_com B 0 0] 1024 (pb_pl n B) := by
  have hn := h.1
  have hS : (pb_start B).1 = [pg_com B 0 0] := by
    unfold pb_start pb_add
    rw [if_neg (by simp)]
    rfl
  have := pb_fin_ok (fun x c z hx hz => pg_nx_lt h hx hz) (by omega) (pb_start_ok h h0)
  unfold pb_pl
  rw [if_neg (by omega), ← hS]
  exact this.1
theorem pb_pl_nd {n : Nat} {B : Nat → Int32} (h : pl_WB n B) : (pb_pl n B).1.Nodup ∧ ∀ x, x ∈ (pb_pl n B).1 → x < 32 * n := by
  obtain ⟨⟨S, hS⟩, -⟩ := pb_pl_good h
  exact ⟨hS.1, hS.2.1⟩
theorem pb_pl_len {n : Nat} {B : Nat → Int32} (h : pl_WB n B) : (pb_pl n B).1.length ≤ 32 * n := by
  obtain ⟨h1, h2⟩ := pb_pl_nd h
  exact pb_len (32 * n) _ h1 h2
theorem pb_pl_none {n : Nat} {B : Nat → Int32} (h : pl_WB n B) : n = 0 ↔ (pb_pl n B).1.length = 0 := by
  constructor
  · intro e
    rw [e, pb_pl0]
    rfl
  · intro e
    by_cases h0 : n = 0
    · exact h0
    · obtain ⟨l, hl⟩ := (pb_pl_ok h (by omega)).2.2.1
      rw [hl] at e
      simp at e
theorem ct_mem (n : Nat) : ∀ l : List Nat, l.Nodup → (∀ x ∈ l, x < 32 * n) → ct n (fun p => ct 32 (fun f => if 32 * p + f ∈ l then 1 else 0)) = l.length
  | [], _, _ => by
    rw [ct_none n (fun p _ => ct_none 32 (fun f _ => if_neg (by simp)))]
    rfl
  | a :: l, hn, hl => by
    have ha := hl a List.mem_cons_self
    obtain ⟨hna, hnl⟩ := List.nodup_cons.mp hn
    have ih := ct_mem n l hnl (fun x hx => hl x (List.mem_cons_of_mem _ hx))
    have key : ct n (fun p => ct 32 (fun f => if 32 * p + f ∈ a :: l then 1 else 0)) = ct n (fun p => (if a / 32 = p then 1 else 0) + ct 32 (fun f => if 32 * p + f ∈ l then 1 else 0)) := by
      refine ct_congr n (fun p hp => ?_)
      have e1 : ct 32 (fun f => if 32 * p + f ∈ a :: l then 1 else 0) = ct 32 (fun f => (if 32 * p + f = a then 1 else 0) + (if 32 * p + f ∈ l then 1 else 0)) := by
        refine ct_congr 32 (fun f hf => ?_)
        by_cases e : 32 * p + f = a
        · rw [if_pos e, if_pos (by rw [e]; exact List.mem_cons_self), if_neg (by rw [e]; exact hna)]
        · rw [if_neg e]
          by_cases e2 : 32 * p + f ∈ l
          · rw [if_pos e2, if_pos (List.mem_cons_of_mem _ e2)]
          · rw [if_neg e2, if_neg (fun hc => (List.mem_cons.mp hc).elim e e2)]
      rw [e1, ct_add]
      congr 1
      by_cases e : a / 32 = p
      · rw [if_pos e, ct_congr (g' := fun f => if a % 32 = f then 1 else 0) 32 (fun f hf => by
          by_cases e2 : a % 32 = f
          · rw [if_pos e2, if_pos (by omega)]
          · rw [if_neg e2, if_neg (by omega)]), ct_one 32 (by omega)]
      · rw [if_neg e, ct_none 32 (fun f hf => if_neg (by omega))]
    rw [key, ct_add, ct_one n (by omega), ih, List.length_cons]
    omega
theorem sp_places_sum {n : Nat} {B : Nat → Int32} (h : pl_WB n B) : ct n (fun p => sp_places (pb_pl n B) p) = (pb_pl n B).1.length := by
  obtain ⟨h1, h2⟩ := pb_pl_nd h
  exact ct_mem n _ h1 h2
theorem sp_places_le {n p : Nat} {B : Nat → Int32} (h : pl_WB n B) (hp : p < n) : sp_places (pb_pl n B) p ≤ (pb_pl n B).1.length := by
  rw [← sp_places_sum h]
  exact ct_one_le (g := fun p => sp_places (pb_pl n B) p) n hp
theorem sp_places0 {M : pb_M} {p : Nat} : sp_places M p = 0 ↔ ∀ q, q ∈ M.1 → ¬ q / 32 = p := by
  constructor
  · intro h q hq e
    have h1 : (fun f => if 32 * p + f ∈ M.1 then 1 else 0) (q % 32) ≤ ct 32 (fun f => if 32 * p + f ∈ M.1 then 1 else 0) := ct_one_le (g := fun f => if 32 * p + f ∈ M.1 then 1 else 0) (i := q % 32) 32 (Nat.mod_lt _ (by decide))
    have h2 : (if 32 * p + q % 32 ∈ M.1 then 1 else 0) = 1 := if_pos (by rw [show 32 * p + q % 32 = q by omega]; exact hq)
    have h3 : ct 32 (fun f => if 32 * p + f ∈ M.1 then 1 else 0) = 0 := h
    rw [h3] at h1
    have h1 : (if 32 * p + q % 32 ∈ M.1 then 1 else 0) ≤ 0 := h1
    rw [h2] at h1
    omega
  · intro h
    exact ct_none 32 (fun f hf => if_neg (fun hc => h _ hc (by omega)))
theorem sp_few5 {n p : Nat} {B : Nat → Int32} (h : pl_WB n B) : sp_few (pb_pl n B) p = -5 ↔ sp_places (pb_pl n B) p = 0 := by
  have hM := pb_pl_good h
  unfold sp_few
  cases e : (pb_pl n B).1.find? (fun q => decide (q / 32 = p)) with
  | none =>
    rw [List.find?_eq_none] at e
    refine ⟨fun _ => sp_places0.mpr (fun q hq hc => e q hq (decide_eq_true hc)), fun _ => rfl⟩
  | some q =>
    have hq := List.mem_of_find?_eq_some e
    have hp := List.find?_some e
    have hd := hM.d hq
    refine ⟨fun hc => absurd hc (pl_ne_neg (by omega) (by decide)), fun hc => ?_⟩
    exact absurd (of_decide_eq_true hp) (sp_places0.mp hc q hq)
theorem sp_again0 {nx : Nat → Nat → Option Nat} {M : pb_M} {p : Nat} (h : sp_places M p = 0) : sp_again nx M p = false := by
  rw [← Bool.not_eq_true]
  intro hc
  unfold sp_again at hc
  obtain ⟨f, hf, hcd⟩ := List.any_eq_true.mp hc
  have := (cd_iff.mp hcd).1
  exact sp_places0.mp h _ this (by have := List.mem_range.mp hf; omega)
theorem sp_stuck_mem {B : Nat → Int32} {M : pb_M} {q : Nat} (h : sp_stuck B M q = true) : q ∈ M.1 := (cd_iff.mp h).1
theorem sp_stucks_le {B : Nat → Int32} {M : pb_M} (p : Nat) : sp_stucks B M p ≤ sp_places M p := by
  refine ct_mono 32 (fun f hf => ?_)
  by_cases e : sp_stuck B M (32 * p + f) = true
  · rw [if_pos e, if_pos (sp_stuck_mem e)]
    exact Nat.le_refl 1
  · rw [if_neg e]
    exact Nat.zero_le _
theorem sp_allStuck_le {n : Nat} {B : Nat → Int32} (h : pl_WB n B) : sp_allStuck n B (pb_pl n B) ≤ (pb_pl n B).1.length := by
  rw [← sp_places_sum h]
  exact ct_mono n (fun p _ => sp_stucks_le p)
theorem sp_dead_live {n : Nat} {M : pb_M} (P : Nat → Bool) : sp_deads n M + sp_live n M P ≤ n := by
  unfold sp_deads sp_live
  rw [← ct_add]
  refine Nat.le_trans (ct_le (b := 1) n (fun p _ => ?_)) (by omega)
  cases sp_dead M p with
  | true => cases P p <;> decide
  | false => cases P p <;> decide
theorem sp_live_goal {n : Nat} {B : Nat → Int32} (h : pl_WB n B) : sp_live n (pb_pl n B) (pe_hap B) = 0 ↔ pw_goal B (pb_pl n B) = none := by
  have hM := pb_pl_good h
  unfold pw_goal
  constructor
  · intro h0
    rw [List.find?_eq_none]
    intro q hq hc
    have hlt := hM.lt hq
    have h1 : (fun p => if (pe_hap B p && !sp_dead (pb_pl n B) p) = true then 1 else 0) (q / 32) ≤ ct n (fun p => if (pe_hap B p && !sp_dead (pb_pl n B) p) = true then 1 else 0) := ct_one_le (g := fun p => if (pe_hap B p && !sp_dead (pb_pl n B) p) = true then 1 else 0) (i := q / 32) n (by omega)
    have h2 : ct n (fun p => if (pe_hap B p && !sp_dead (pb_pl n B) p) = true then 1 else 0) = 0 := h0
    rw [h2] at h1
    have h1 : (if (pe_hap B (q / 32) && !sp_dead (pb_pl n B) (q / 32)) = true then 1 else 0) ≤ 0 := h1
    have h3 : sp_dead (pb_pl n B) (q / 32) = false := by
      unfold sp_dead
      rw [decide_eq_false_iff_not]
      intro hz
      exact sp_places0.mp hz q hq rfl
    have h4 : pe_hap B (q / 32) = true := hc
    rw [h3, h4] at h1
    exact absurd h1 (by decide)
  · intro h0
    rw [List.find?_eq_none] at h0
    refine ct_none n (fun p hp => ?_)
    rw [if_neg]
    intro hc
    rw [Bool.and_eq_true] at hc
    obtain ⟨h1, h2⟩ := hc
    have h3 : ¬ sp_places (pb_pl n B) p = 0 := by
      intro hz
      unfold sp_dead at h2
      rw [decide_eq_true hz] at h2
      cases h2
    apply h3
    refine sp_places0.mpr (fun q hq e => ?_)
    apply h0 q hq
    show pe_hap B (q / 32) = true
    rw [e]
    exact h1
/-- the way's first place, and its first step -/
theorem pw_first {n g : Nat} {B : Nat → Int32} (h : pl_WB n B) (hg : g ∈ (pb_pl n B).1) : 0 < n ∧ pw_up (pb_pl n B) ((pb_pl n B).2.1 g) g = pg_com B 0 0 := by
  have hM := pb_pl_good h
  have hlt := hM.lt hg
  have h0 : 0 < n := by omega
  obtain ⟨u1, u2⟩ := pw_up_ok hM hg _ (Nat.le_refl _)
  have h9 := (pb_pl_ok h h0).2.2.2.2.2.2.2.2 _ u1
  have hz : (pb_pl n B).2.1 (pw_up (pb_pl n B) ((pb_pl n B).2.1 g) g) = 0 := by omega
  rw [hz] at h9
  obtain ⟨s, hs, hp⟩ := h9
  have e : s = pw_up (pb_pl n B) ((pb_pl n B).2.1 g) g := hp
  rw [List.mem_singleton] at hs
  exact ⟨h0, by rw [← e, hs]⟩
theorem pw_step {n g : Nat} {B : Nat → Int32} (h : pl_WB n B) (hg : g ∈ (pb_pl n B).1) (hd : 0 < (pb_pl n B).2.1 g) : (pb_pl n B).2.2.2 (pw_up (pb_pl n B) ((pb_pl n B).2.1 g - 1) g) < 3 ∧ pg_nx B (pg_com B 0 0) ((pb_pl n B).2.2.2 (pw_up (pb_pl n B) ((pb_pl n B).2.1 g - 1) g)) = some (pw_up (pb_pl n B) ((pb_pl n B).2.1 g - 1) g) := by
  have hM := pb_pl_good h
  obtain ⟨h0, e⟩ := pw_first h hg
  obtain ⟨u1, u2⟩ := pw_up_ok hM hg ((pb_pl n B).2.1 g - 1) (by omega)
  obtain ⟨p1, p2, p3, p4⟩ := (pb_pl_ok h h0).2.2.2.2.2.2.2.1 _ u1 (by omega)
  refine ⟨p3, ?_⟩
  have e2 : (pb_pl n B).2.2.1 (pw_up (pb_pl n B) ((pb_pl n B).2.1 g - 1) g) = pg_com B 0 0 := by
    rw [← e]
    show pw_up (pb_pl n B) ((pb_pl n B).2.1 g - 1 + 1) g = _
    rw [show (pb_pl n B).2.1 g - 1 + 1 = (pb_pl n B).2.1 g by omega]
  rw [e2] at p4
  exact p4
