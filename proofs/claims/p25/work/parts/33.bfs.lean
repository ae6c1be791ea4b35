/-! breadth first, as mathematics: the order, the distances, whence, by which choice -/
abbrev pb_M : Type := List Nat × (Nat → Nat) × (Nat → Nat) × (Nat → Nat)
/-- a way of n choices -/
def pb_pa (nx : Nat → Nat → Option Nat) : Nat → Nat → Nat → Prop
  | 0, x, y => x = y
  | n + 1, x, y => ∃ c z, c < 3 ∧ nx x c = some z ∧ pb_pa nx n z y
theorem pb_pa_snoc {nx : Nat → Nat → Option Nat} : ∀ (n : Nat) {x y z c : Nat}, pb_pa nx n x y → c < 3 → nx y c = some z → pb_pa nx (n + 1) x z
  | 0, x, y, z, c, h, hc, hz => by
    have h' : x = y := h
    subst h'
    exact ⟨c, z, hc, hz, rfl⟩
  | n + 1, x, y, z, c, h, hc, hz => by
    obtain ⟨c', w, h1, h2, h3⟩ := h
    exact ⟨c', w, h1, h2, pb_pa_snoc n h3 hc hz⟩
def pb_add (M : pb_M) (q d f b : Nat) : pb_M := if q ∈ M.1 then M else (M.1 ++ [q], fun x => if x = q then d else M.2.1 x, fun x => if x = q then f else M.2.2.1 x, fun x => if x = q then b else M.2.2.2 x)
def pb_c (nx : Nat → Nat → Option Nat) (M : pb_M) (q c : Nat) : pb_M := match nx q c with
  | none => M
  | some q' => pb_add M q' (M.2.1 q + 1) q c
def pb_row (nx : Nat → Nat → Option Nat) (M : pb_M) (q : Nat) : pb_M := pb_c nx (pb_c nx (pb_c nx M q 0) q 1) q 2
def pb_it (nx : Nat → Nat → Option Nat) (M0 : pb_M) : Nat → pb_M
  | 0 => M0
  | i + 1 => match (pb_it nx M0 i).1[i]? with
    | none => pb_it nx M0 i
    | some q => pb_row nx (pb_it nx M0 i) q
/-- numbers below N, each once: at most N of them -/
theorem pb_len : ∀ (N : Nat) (l : List Nat), l.Nodup → (∀ x ∈ l, x < N) → l.length ≤ N
  | 0, l, _, h => by
    cases l with
    | nil => simp
    | cons a l => exact absurd (h a List.mem_cons_self) (by omega)
  | N + 1, l, hn, h => by
    by_cases hN : N ∈ l
    · have h1 := pb_len N (l.erase N) (hn.erase N) (fun x hx => by
        have h2 := h x (List.mem_of_mem_erase hx)
        have h3 : x ≠ N := fun e => by
          subst e
          exact (List.Nodup.not_mem_erase hn) hx
        omega)
      rw [List.length_erase_of_mem hN] at h1
      omega
    · have h1 := pb_len N l hn (fun x hx => by
        have h2 := h x hx
        have h3 : x ≠ N := fun e => hN (e ▸ hx)
        omega)
      omega
def pb_ok (nx : Nat → Nat → Option Nat) (N : Nat) (S : List Nat) (i : Nat) (M : pb_M) : Prop :=
  M.1.Nodup ∧ (∀ x : Nat, x ∈ M.1 → x < N) ∧ (∃ l, M.1 = S ++ l) ∧ (∀ j x : Nat, M.1[j]? = some x → M.2.1 x ≤ j) ∧ (∀ j x k y : Nat, M.1[j]? = some x → M.1[k]? = some y → j ≤ k → M.2.1 x ≤ M.2.1 y) ∧ (∀ y j x : Nat, M.1[i]? = some y → M.1[j]? = some x → M.2.1 x ≤ M.2.1 y + 1) ∧ (∀ j x : Nat, j < i → M.1[j]? = some x → ∀ c z : Nat, c < 3 → nx x c = some z → z ∈ M.1) ∧ (∀ x : Nat, x ∈ M.1 → 0 < M.2.1 x → M.2.2.1 x ∈ M.1 ∧ M.2.1 (M.2.2.1 x) + 1 = M.2.1 x ∧ M.2.2.2 x < 3 ∧ nx (M.2.2.1 x) (M.2.2.2 x) = some x) ∧ ∀ x : Nat, x ∈ M.1 → ∃ s, s ∈ S ∧ pb_pa nx (M.2.1 x) s x
theorem pb_add_mem (M : pb_M) (q d f b : Nat) : q ∈ (pb_add M q d f b).1 := by
  unfold pb_add
  split
  · assumption
  · simp
theorem pb_add_pre (M : pb_M) (q d f b : Nat) : ∃ l, (pb_add M q d f b).1 = M.1 ++ l := by
  unfold pb_add
  split
  · exact ⟨[], by simp⟩
  · exact ⟨[q], rfl⟩
theorem pb_add_d {M : pb_M} {q d f b x : Nat} (hx : x ∈ M.1) : (pb_add M q d f b).2.1 x = M.2.1 x := by
  unfold pb_add
  split
  · rfl
  · rename_i h
    have : x ≠ q := fun e => h (e ▸ hx)
    simp [this]
theorem pb_c_ok {nx : Nat → Nat → Option Nat} {N : Nat} {S : List Nat} {i q c : Nat} {M : pb_M} (hN : ∀ x c z, x < N → nx x c = some z → z < N) (h : pb_ok nx N S i M) (hi : M.1[i]? = some q) (hc : c < 3) : pb_ok nx N S i (pb_c nx M q c) ∧ (pb_c nx M q c).1[i]? = some q ∧ (∃ l, (pb_c nx M q c).1 = M.1 ++ l) ∧ ∀ z, nx q c = some z → z ∈ (pb_c nx M q c).1 := by
  have hq : q ∈ M.1 := List.mem_of_getElem? hi
  unfold pb_c
  cases hz : nx q c with
  | none => exact ⟨h, hi, ⟨[], by simp⟩, fun z hz' => by cases hz'⟩
  | some q' =>
    dsimp only
    by_cases hmem : q' ∈ M.1
    · have e : pb_add M q' (M.2.1 q + 1) q c = M := by unfold pb_add; rw [if_pos hmem]
      rw [e]
      exact ⟨h, hi, ⟨[], by simp⟩, fun z hz' => by cases hz'; exact hmem⟩
    · obtain ⟨h1, h2, ⟨l, h3⟩, h4, h5, h6, h7, h8, h9⟩ := h
      have hlt : i < M.1.length := (List.getElem?_eq_some_iff.mp hi).1
      have e : pb_add M q' (M.2.1 q + 1) q c = (M.1 ++ [q'], fun x => if x = q' then M.2.1 q + 1 else M.2.1 x, fun x => if x = q' then q else M.2.2.1 x, fun x => if x = q' then c else M.2.2.2 x) := by unfold pb_add; rw [if_neg hmem]
      rw [e]
      have hne : ∀ x, x ∈ M.1 → x ≠ q' := fun x hx e => hmem (e ▸ hx)
      have hD : ∀ x, x ∈ M.1 → (if x = q' then M.2.1 q + 1 else M.2.1 x) = M.2.1 x := fun x hx => if_neg (hne x hx)
      have hget : ∀ j x, (M.1 ++ [q'])[j]? = some x → (M.1[j]? = some x ∧ j < M.1.length) ∨ (j = M.1.length ∧ x = q') := by
        intro j x hj
        by_cases hjl : j < M.1.length
        · rw [List.getElem?_append_left hjl] at hj
          exact Or.inl ⟨hj, hjl⟩
        · rw [List.getElem?_append_right (by omega)] at hj
          have h0 : j - M.1.length = 0 := by
            have := (List.getElem?_eq_some_iff.mp hj).1
            simp at this
            omega
          rw [h0] at hj
          simp at hj
          exact Or.inr ⟨by omega, hj.symm⟩
      have hqi : M.2.1 q ≤ i := h4 i q hi
      refine ⟨⟨?_, ?_, ⟨l ++ [q'], by rw [h3, List.append_assoc]⟩, ?_, ?_, ?_, ?_, ?_, ?_⟩, ?_, ⟨[q'], rfl⟩, fun z hz' => by cases hz'; simp⟩
      · rw [List.nodup_append]
        refine ⟨h1, by simp, fun a ha b hb => ?_⟩
        rw [List.mem_singleton] at hb
        subst hb
        exact hne a ha
      · intro x hx
        rcases List.mem_append.mp hx with hx | hx
        · exact h2 x hx
        · rw [List.mem_singleton] at hx
          subst hx
          exact hN q c _ (h2 q hq) hz
      · intro j x hj
        dsimp only
        rcases hget j x hj with ⟨hj, -⟩ | ⟨rfl, rfl⟩
        · rw [hD x (List.mem_of_getElem? hj)]
          exact h4 j x hj
        · rw [if_pos rfl]
          omega
      · intro j x k y hj hk hjk
        dsimp only
        rcases hget j x hj with ⟨gj, hjl⟩ | ⟨ej, ex⟩ <;> rcases hget k y hk with ⟨gk, hkl⟩ | ⟨ek, ey⟩
        · rw [hD x (List.mem_of_getElem? gj), hD y (List.mem_of_getElem? gk)]
          exact h5 j x k y gj gk hjk
        · rw [hD x (List.mem_of_getElem? gj), ey, if_pos rfl]
          exact h6 q j x hi gj
        · omega
        · rw [ex, ey, if_pos rfl]
          exact Nat.le_refl _
      · intro y j x hy hj
        dsimp only
        have hy' : y = q := by
          rw [List.getElem?_append_left hlt] at hy
          exact Option.some.inj (hy.symm.trans hi)
        subst hy'
        rw [hD y hq]
        rcases hget j x hj with ⟨hj, -⟩ | ⟨rfl, rfl⟩
        · rw [hD x (List.mem_of_getElem? hj)]
          exact h6 y j x hi hj
        · rw [if_pos rfl]
          exact Nat.le_refl _
      · intro j x hji hj c' z hc' hz'
        rcases hget j x hj with ⟨hj, -⟩ | ⟨rfl, rfl⟩
        · exact List.mem_append_left _ (h7 j x hji hj c' z hc' hz')
        · omega
      · intro x hx hdx
        dsimp only at hdx ⊢
        rcases List.mem_append.mp hx with hx | hx
        · rw [hD x hx] at hdx ⊢
          rw [if_neg (hne x hx), if_neg (hne x hx)]
          obtain ⟨a1, a2, a3, a4⟩ := h8 x hx hdx
          exact ⟨List.mem_append_left _ a1, by rw [hD _ a1]; exact a2, a3, a4⟩
        · rw [List.mem_singleton] at hx
          subst hx
          rw [if_pos rfl, if_pos rfl, if_pos rfl]
          exact ⟨List.mem_append_left _ hq, by rw [hD _ hq], hc, hz⟩
      · intro x hx
        dsimp only
        rcases List.mem_append.mp hx with hx | hx
        · rw [hD x hx]
          exact h9 x hx
        · rw [List.mem_singleton] at hx
          subst hx
          rw [if_pos rfl]
          obtain ⟨s, hs, hp⟩ := h9 q hq
          exact ⟨s, hs, pb_pa_snoc _ hp hc hz⟩
      · show (M.1 ++ [q'])[i]? = some q
        rw [List.getElem?_append_left hlt]
        exact hi
theorem pb_row_ok {nx : Nat → Nat → Option Nat} {N : Nat} {S : List Nat} {i q : Nat} {M : pb_M} (hN : ∀ x c z, x < N → nx x c = some z → z < N) (h : pb_ok nx N S i M) (hi : M.1[i]? = some q) : pb_ok nx N S (i + 1) (pb_row nx M q) := by
  obtain ⟨k0, i0, ⟨l0, p0⟩, m0⟩ := pb_c_ok (c := 0) hN h hi (by decide)
  obtain ⟨k1, i1, ⟨l1, p1⟩, m1⟩ := pb_c_ok (c := 1) hN k0 i0 (by decide)
  obtain ⟨k2, i2, ⟨l2, p2⟩, m2⟩ := pb_c_ok (c := 2) hN k1 i1 (by decide)
  unfold pb_row
  obtain ⟨h1, h2, h3, h4, h5, h6, h7, h8, h9⟩ := k2
  refine ⟨h1, h2, h3, h4, h5, fun y j x hy hj => ?_, fun j x hj hx c z hc hz => ?_, h8, h9⟩
  · have := h5 i _ (i + 1) y i2 hy (by omega)
    have := h6 _ j x i2 hj
    omega
  · by_cases hji : j < i
    · exact h7 j x hji hx c z hc hz
    · have hj' : j = i := by omega
      subst hj'
      have hxq : x = q := Option.some.inj (hx.symm.trans i2)
      subst hxq
      rcases (show c = 0 ∨ c = 1 ∨ c = 2 by omega) with rfl | rfl | rfl
      · rw [p2, p1]
        exact List.mem_append_left _ (List.mem_append_left _ (m0 z hz))
      · rw [p2]
        exact List.mem_append_left _ (m1 z hz)
      · exact m2 z hz
theorem pb_it_ok {nx : Nat → Nat → Option Nat} {N : Nat} {S : List Nat} {M : pb_M} (hN : ∀ x c z, x < N → nx x c = some z → z < N) (h : pb_ok nx N S 0 M) : ∀ i, pb_ok nx N S i (pb_it nx M i)
  | 0 => h
  | i + 1 => by
    have ih := pb_it_ok hN h i
    rw [pb_it]
    cases hi : (pb_it nx M i).1[i]? with
    | none =>
      show pb_ok nx N S (i + 1) (pb_it nx M i)
      obtain ⟨h1, h2, h3, h4, h5, h6, h7, h8, h9⟩ := ih
      have hl : (pb_it nx M i).1.length ≤ i := List.getElem?_eq_none_iff.mp hi
      refine ⟨h1, h2, h3, h4, h5, fun y j x hy hj => ?_, fun j x hj hx => ?_, h8, h9⟩
      · rw [List.getElem?_eq_none (by omega)] at hy
        cases hy
      · have := (List.getElem?_eq_some_iff.mp hx).1
        exact h7 j x (by omega) hx
    | some q => exact pb_row_ok hN ih hi
theorem pb_it_stop {nx : Nat → Nat → Option Nat} {M : pb_M} {i : Nat} (h : (pb_it nx M i).1.length ≤ i) : ∀ k, pb_it nx M (i + k) = pb_it nx M i
  | 0 => rfl
  | k + 1 => by
    have ih := pb_it_stop h k
    rw [show i + (k + 1) = i + k + 1 by omega, pb_it, ih, List.getElem?_eq_none (by omega)]
/-- the end of it -/
def pb_fin (nx : Nat → Nat → Option Nat) (M0 : pb_M) : pb_M := pb_it nx M0 1024
theorem pb_fin_of {nx : Nat → Nat → Option Nat} {M : pb_M} {i : Nat} (hi : i ≤ 1024) (h : (pb_it nx M i).1.length ≤ i) : pb_it nx M i = pb_fin nx M := by
  have := pb_it_stop h (1024 - i)
  rw [show i + (1024 - i) = 1024 by omega] at this
  exact this.symm
/-- what is known of the end: its places closed under the steps -/
theorem pb_fin_ok {nx : Nat → Nat → Option Nat} {N : Nat} {S : List Nat} {M : pb_M} (hN : ∀ x c z, x < N → nx x c = some z → z < N) (hN2 : N ≤ 1024) (h : pb_ok nx N S 0 M) : pb_ok nx N S 1024 (pb_fin nx M) ∧ (pb_fin nx M).1.length ≤ 1024 ∧ ∀ x c z, x ∈ (pb_fin nx M).1 → c < 3 → nx x c = some z → z ∈ (pb_fin nx M).1 := by
  have h1 := pb_it_ok hN h 1024
  have h2 : (pb_fin nx M).1.length ≤ 1024 := Nat.le_trans (pb_len N _ h1.1 h1.2.1) hN2
  refine ⟨h1, h2, fun x c z hx hc hz => ?_⟩
  obtain ⟨j, hj⟩ := List.getElem?_of_mem hx
  have hl := (List.getElem?_eq_some_iff.mp hj).1
  exact h1.2.2.2.2.2.2.1 j x (by omega) hj c z hc hz
theorem pb_closed {nx : Nat → Nat → Option Nat} {l : List Nat} (h : ∀ x c z, x ∈ l → c < 3 → nx x c = some z → z ∈ l) : ∀ (n : Nat) (x y : Nat), x ∈ l → pb_pa nx n x y → y ∈ l
  | 0, x, y, hx, hp => by
    have e : x = y := hp
    exact e ▸ hx
  | n + 1, x, y, hx, hp => by
    obtain ⟨c, z, hc, hz, hp⟩ := hp
    exact pb_closed h n z y (h x c z hx hc hz) hp
/-- the starts, added one by one, each at distance 0 -/
theorem pb_add_ok {nx : Nat → Nat → Option Nat} {N q f b : Nat} {M : pb_M} (hM : pb_ok nx N M.1 0 M) (h0 : ∀ x, x ∈ M.1 → M.2.1 x = 0) (hq : q < N) : pb_ok nx N (pb_add M q 0 f b).1 0 (pb_add M q 0 f b) ∧ ∀ x, x ∈ (pb_add M q 0 f b).1 → (pb_add M q 0 f b).2.1 x = 0 := by
  have hD : ∀ x, x ∈ (pb_add M q 0 f b).1 → (pb_add M q 0 f b).2.1 x = 0 := by
    intro x hx
    unfold pb_add at hx ⊢
    split at hx
    · rename_i h
      rw [if_pos h]
      exact h0 x hx
    · rename_i h
      rw [if_neg h]
      dsimp only at hx ⊢
      by_cases e : x = q
      · rw [if_pos e]
      · rw [if_neg e]
        rcases List.mem_append.mp hx with hx | hx
        · exact h0 x hx
        · rw [List.mem_singleton] at hx
          exact absurd hx e
  refine ⟨⟨?_, ?_, ⟨[], by simp⟩, ?_, ?_, ?_, ?_, ?_, ?_⟩, hD⟩
  · unfold pb_add
    split
    · exact hM.1
    · rename_i h
      rw [List.nodup_append]
      refine ⟨hM.1, by simp, fun a ha b hb => ?_⟩
      rw [List.mem_singleton] at hb
      subst hb
      exact fun e => h (e ▸ ha)
  · intro x hx
    unfold pb_add at hx
    split at hx
    · exact hM.2.1 x hx
    · rcases List.mem_append.mp hx with hx | hx
      · exact hM.2.1 x hx
      · rw [List.mem_singleton] at hx
        exact hx ▸ hq
  · intro j x hj
    rw [hD x (List.mem_of_getElem? hj)]
    omega
  · intro j x k y hj hk _
    rw [hD x (List.mem_of_getElem? hj)]
    omega
  · intro y j x hy hj
    rw [hD x (List.mem_of_getElem? hj)]
    omega
  · intro j x hj
    omega
  · intro x hx hd
    rw [hD x hx] at hd
    omega
  · intro x hx
    rw [hD x hx]
    exact ⟨x, hx, rfl⟩
theorem pb_nil_ok {nx : Nat → Nat → Option Nat} {N : Nat} (d f b : Nat → Nat) : pb_ok nx N ([] : List Nat) 0 ([], d, f, b) := by
  refine ⟨List.nodup_nil, ?_, ⟨[], rfl⟩, ?_, ?_, ?_, ?_, ?_, ?_⟩
  · intro x hx; cases hx
  · intro j x hj; simp at hj
  · intro j x k y hj; simp at hj
  · intro y j x hy; simp at hy
  · intro j x hj; omega
  · intro x hx; cases hx
  · intro x hx; cases hx

