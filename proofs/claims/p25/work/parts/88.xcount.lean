/-! exchange: as many choices lead to one of both behind it as ahead of it -/
theorem ct_drop {g : Nat → Nat} {p : Nat} : ∀ n, p < n → ct n g = ct n (fun r => if r = p then 0 else g r) + g p := by
  intro n
  induction n with
  | zero => intro h; omega
  | succ m ih =>
    intro h
    show ct m g + g m = ct m (fun r => if r = p then 0 else g r) + (if m = p then 0 else g m) + g p
    by_cases e : m = p
    · rw [if_pos e, e, ct_congr (g := fun r => if r = p then 0 else g r) (g' := g) p (fun i hi => by show (if i = p then 0 else g i) = g i; rw [if_neg (by omega)])]
      omega
    · rw [if_neg e, ih (by omega)]
      omega
theorem ct_pgm {g : Nat → Nat} {n p q : Nat} (hp : p < n) (hq : q < n) (hne : p ≠ q) : ct n (fun r => g (pgm p q r)) = ct n g := by
  rw [ct_drop (g := fun r => g (pgm p q r)) n hp, ct_drop (g := fun r => if r = p then 0 else g (pgm p q r)) n hq, ct_drop (g := g) n hp, ct_drop (g := fun r => if r = p then 0 else g r) n hq]
  have e1 : pgm p q p = q := by unfold pgm; rw [if_pos rfl]
  have e2 : pgm p q q = p := by unfold pgm; rw [if_neg (fun hc => hne hc.symm), if_pos rfl]
  rw [e1, e2, if_neg (fun hc => hne hc.symm), if_neg (fun hc => hne hc.symm)]
  have e3 : ct n (fun r => if r = q then 0 else if r = p then 0 else g (pgm p q r)) = ct n (fun r => if r = q then 0 else if r = p then 0 else g r) := ct_congr n (fun i _ => by
    by_cases k1 : i = q
    · rw [if_pos k1, if_pos k1]
    · rw [if_neg k1, if_neg k1]
      by_cases k2 : i = p
      · rw [if_pos k2, if_pos k2]
      · rw [if_neg k2, if_neg k2]
        unfold pgm
        rw [if_neg k2, if_neg k1])
  rw [e3]
  omega
theorem pgm_eq {p q t : Nat} (hne : p ≠ q) (u : Nat) : pgm p q t = u ↔ t = pgm p q u := by
  constructor
  · intro h
    rw [← h, pgm_pgm]
  · intro h
    rw [h, pgm_pgm]
theorem sX_to {n p q u : Nat} {B X : Nat → Int32} (h : pl_WB n B) (hp : p < n) (hq : q < n) (hne : p ≠ q) (hu : u < n) (hX : sX B X n p q) : sp_to n X (nI u) = sp_to n B (nI (pgm p q u)) := by
  have hn := h.1
  unfold sp_to
  rw [← ct_pgm (g := fun r => ct (pl_m B r) (fun c => if B (5 + 13 * r + 3 * c) = nI (pgm p q u) then 1 else 0)) hp hq hne]
  refine ct_congr n (fun r hr => ?_)
  obtain ⟨z0, -, -, -, -, z5⟩ := hX.2.1 r hr
  show ct (pl_m X r) _ = ct (pl_m B (pgm p q r)) _
  rw [z0]
  refine ct_congr _ (fun c hc => ?_)
  obtain ⟨v1, -, -⟩ := z5 c hc
  obtain ⟨t, ht, et⟩ := (h.2.2.1 (pgm p q r) (pgm_lt hp hq hr)).2.2.2.2.2 c hc |>.1
  have hpu := pgm_lt hp hq hu
  have hpt := pgm_lt hp hq ht
  show (if X (5 + 13 * r + 3 * c) = nI u then 1 else 0) = (if B (5 + 13 * pgm p q r + 3 * c) = nI (pgm p q u) then 1 else 0)
  rw [v1, et, ot_nI (by omega) (by omega) (by omega)]
  by_cases k : t = pgm p q u
  · have k2 : pgm p q t = u := (pgm_eq hne u).mpr k
    rw [if_pos (by rw [k2]), if_pos (by rw [k])]
  · have k2 : ¬ pgm p q t = u := fun hc => k ((pgm_eq hne u).mp hc)
    rw [if_neg (fun hc => k2 ((nI_eq (by omega) (by omega)).mp hc)), if_neg (fun hc => k ((nI_eq (by omega) (by omega)).mp hc))]

