/-! which pages are ahead of a place: the class's sets, round by round -/
/-- the sets are sound: what they hold can be come to by one choice or more -/
def pa_sound (nx : Nat → Nat → Option Nat) (l : List Nat) (A : Nat → Int32) : Prop := ∀ q p : Nat, q ∈ l → p < 32 → bt (A q) p = true → ∃ k z : Nat, pb_pa nx (k + 1) q z ∧ z / 32 = p
/-- all that can be come to by at most r choices is held -/
def pa_comp (nx : Nat → Nat → Option Nat) (l : List Nat) (r : Nat) (A : Nat → Int32) : Prop := ∀ q k z : Nat, q ∈ l → k < r → pb_pa nx (k + 1) q z → bt (A q) (z / 32) = true
def pa_full (nx : Nat → Nat → Option Nat) (l : List Nat) (A : Nat → Int32) : Prop := ∀ q k z : Nat, q ∈ l → pb_pa nx (k + 1) q z → bt (A q) (z / 32) = true
/-- one place's set, made anew from older ones -/
def pa_step (nx : Nat → Nat → Option Nat) (A : Nat → Int32) (q : Nat) (v : Int32) : Prop := ∀ c z, c < 3 → nx q c = some z → bt v (z / 32) = true ∧ ∀ p, p < 32 → bt (A z) p = true → bt v p = true
theorem pa_closed {nx : Nat → Nat → Option Nat} {l : List Nat} {A : Nat → Int32} (hl : ∀ x c z, x ∈ l → c < 3 → nx x c = some z → z ∈ l) (h32 : ∀ x c z, x ∈ l → c < 3 → nx x c = some z → z / 32 < 32) (h : ∀ q, q ∈ l → pa_step nx A q (A q)) : pa_full nx l A := by
  intro q k
  induction k generalizing q with
  | zero =>
    intro z hq ⟨c, w, hc, hw, e⟩
    have e' : w = z := e
    subst e'
    exact (h q hq c w hc hw).1
  | succ k ih =>
    intro z hq ⟨c, w, hc, hw, hp⟩
    have hwl := hl q c w hq hc hw
    have h1 := ih w z hwl hp
    refine (h q hq c w hc hw).2 (z / 32) ?_ h1
    obtain ⟨c2, w2, hc2, hw2, hp2⟩ := hp
    have hz : ∀ (k : Nat) (x y : Nat), x ∈ l → x / 32 < 32 → pb_pa nx k x y → y / 32 < 32 := by
      intro k
      induction k with
      | zero => intro x y hx h32x e; have e' : x = y := e; exact e' ▸ h32x
      | succ k ih2 =>
        intro x y hx _ ⟨c, w, hc, hw, hp⟩
        exact ih2 w y (hl x c w hx hc hw) (h32 x c w hx hc hw) hp
    exact hz k w2 z (hl w c2 w2 hwl hc2 hw2) (h32 w c2 w2 hwl hc2 hw2) hp2
theorem pa_short_aux {nx : Nat → Nat → Option Nat} {N i : Nat} {S : List Nat} {F : pb_M} (hN2 : N ≤ 1024) {w k z : Nat} (h1 : pb_ok nx N S i F) (hS : ∀ s, s ∈ S → s = w) (hw : w ∈ S) (h3 : ∀ x c z, x ∈ F.1 → c < 3 → nx x c = some z → z ∈ F.1) (hp : pb_pa nx k w z) : ∃ k', k' < 1024 ∧ pb_pa nx k' w z := by
  have hwm : w ∈ F.1 := by
    obtain ⟨l, hl⟩ := h1.2.2.1
    rw [hl]
    exact List.mem_append_left _ hw
  have hzm := pb_closed h3 k w z hwm hp
  obtain ⟨s, hs, hps⟩ := h1.2.2.2.2.2.2.2.2 z hzm
  have hsw := hS s hs
  subst hsw
  exact ⟨F.2.1 z, h1.lt hN2 z hzm, hps⟩
/-- what is come to by any way is come to by a short one -/
theorem pa_short {nx : Nat → Nat → Option Nat} {N : Nat} (hN : ∀ x c z, x < N → nx x c = some z → z < N) (hN2 : N ≤ 1024) {q k z : Nat} (hq : q < N) (h : pb_pa nx (k + 1) q z) : ∃ k', k' < 1024 ∧ pb_pa nx (k' + 1) q z := by
  obtain ⟨c, w, hc, hw, hp⟩ := h
  have hwN := hN q c w hq hw
  have hok := (pb_add_ok (q := w) (f := 0) (b := 0) (pb_nil_ok (nx := nx) (N := N) (fun _ => 0) (fun _ => 0) (fun _ => 0)) (fun x hx => by cases hx) hwN).1
  have hfin := pb_fin_ok hN hN2 hok
  have hS : ∀ s, s ∈ (pb_add ([], fun _ => 0, fun _ => 0, fun _ => 0) w 0 0 0).1 → s = w := by
    intro s hs
    have : s ∈ [w] := hs
    simpa using this
  have hwS : w ∈ (pb_add ([], fun _ => 0, fun _ => 0, fun _ => 0) w 0 0 0).1 := pb_add_mem _ _ _ _ _
  revert hfin
  generalize pb_fin nx (pb_add ([], fun _ => 0, fun _ => 0, fun _ => 0) w 0 0 0) = F
  intro hfin
  obtain ⟨k', h1, h2⟩ := pa_short_aux hN2 hfin.1 hS hwS hfin.2.2 hp
  exact ⟨k', h1, c, w, hc, hw, h2⟩
theorem pa_comp_full {nx : Nat → Nat → Option Nat} {N : Nat} (hN : ∀ x c z, x < N → nx x c = some z → z < N) (hN2 : N ≤ 1024) {l : List Nat} (hl : ∀ x, x ∈ l → x < N) {A : Nat → Int32} (h : pa_comp nx l 1024 A) : pa_full nx l A := by
  intro q k z hq hp
  obtain ⟨k', hk', hp'⟩ := pa_short hN hN2 (hl q hq) hp
  exact h q k' z hq hk' hp'
theorem pa_comp_mono {nx : Nat → Nat → Option Nat} {l : List Nat} {r r' : Nat} {A : Nat → Int32} (h : pa_comp nx l r A) (hr : r' ≤ r) : pa_comp nx l r' A := fun q k z hq hk hp => h q k z hq (by omega) hp
/-- frame: the sets alone change -/
def pc_fa (σ σ' : hb_Mem) : Prop := ∀ c, c ≠ 157 → σ' c = σ c
theorem pc_fa.RS {σ σ' : hb_Mem} {n : Nat} {B : Nat → Int32} (h : pc_fa σ σ') (hr : pl_RS σ 1 n B) : pl_RS σ' 1 n B := hr.congr (fun c _ h2 => h c (by omega))
/-- the set of one place -/
theorem pc_seen {n q : Nat} {B : Nat → Int32} {σ : hb_Mem} (h : pl_WB n B) (hr : pl_RS σ 1 n B) (hq : q < 32 * n) (i2 i3 : Int32) (s0 : Int32) : ∃ v, ll_X3_growAhead_45 147 1 i2 i3 (nI q) (pg_set3 (pg_op B q 0) (pg_op B q 1) (pg_op B q 2)) σ (s0, 0) = some v ∧ pa_step (pg_nx B) (σ 157) q v ∧ (∀ p, p < 32 → bt s0 p = true → bt v p = true) ∧ ∀ p, p < 32 → bt v p = true → bt s0 p = true ∨ ∃ c z, c < 3 ∧ pg_nx B q c = some z ∧ (z / 32 = p ∨ bt (σ 157 z) p = true) := by
  have hn := h.1
  unfold ll_X3_growAhead_45
  obtain ⟨v, h1, h2, h3, h4⟩ := pl_inv (f := fun s => lb_X3_growAhead_45 147 1 i2 i3 (nI q) (pg_set3 (pg_op B q 0) (pg_op B q 1) (pg_op B q 2)) s.1 s.2 σ) (s := (s0, 0)) 3
    (fun c s => s.2 = nI c ∧ (∀ c' z, c' < c → pg_nx B q c' = some z → bt s.1 (z / 32) = true ∧ ∀ p, p < 32 → bt (σ 157 z) p = true → bt s.1 p = true) ∧ (∀ p, p < 32 → bt s0 p = true → bt s.1 p = true) ∧ ∀ p, p < 32 → bt s.1 p = true → bt s0 p = true ∨ ∃ c z, c < 3 ∧ pg_nx B q c = some z ∧ (z / 32 = p ∨ bt (σ 157 z) p = true))
    (fun v => pa_step (pg_nx B) (σ 157) q v ∧ (∀ p, p < 32 → bt s0 p = true → bt v p = true) ∧ ∀ p, p < 32 → bt v p = true → bt s0 p = true ∨ ∃ c z, c < 3 ∧ pg_nx B q c = some z ∧ (z / 32 = p ∨ bt (σ 157 z) p = true))
    ⟨rfl, fun c' z hc' => by omega, fun p _ h => h, fun p _ h => Or.inl h⟩ (by
    intro c s hc ⟨e1, e2, e3, e4⟩
    obtain ⟨w, s2⟩ := s
    dsimp only at e1 e2 e3 e4
    subst e1
    left
    show ∃ s', lb_X3_growAhead_45 147 1 i2 i3 (nI q) (pg_set3 (pg_op B q 0) (pg_op B q 1) (pg_op B q 2)) w (nI c) σ = some (.inl s') ∧ _
    unfold lb_X3_growAhead_45
    rw [if_neg (by show ¬ nI 3 ≤ nI c; rw [nI_leI (by omega) (by omega)]; omega), pc_isIn3 (pg_op B q) hc, Option.bind_some]
    unfold jn_X3_growAhead_93
    simp only [hb_nm, nI_1]
    by_cases ho : pg_op B q c = true
    · rw [if_pos ho, if_neg (by decide)]
      have hnx : ∃ z, pg_nx B q c = some z := by
        unfold pg_nx
        rw [if_pos (of_decide_eq_true ho)]
        exact ⟨_, rfl⟩
      obtain ⟨z, hz⟩ := hnx
      have hzl := pg_nx_lt h hq hz
      rw [pc_nx (by decide) h hr hq hz, Option.bind_some, pc_page (by omega), Option.bind_some, pl_at (r := hc_rf 147 7) (a := 157) (n := 1024) (by decide) (by omega), Option.bind_some]
      have hb : ∀ p, p < 32 → (bt (w ||| ((1 : Int32) <<< (nI (z / 32) &&& 31)) ||| σ 157 z) p = true ↔ bt w p = true ∨ p = z / 32 ∨ bt (σ 157 z) p = true) := by
        intro p hp
        rw [bt_or, bt_or, bt_one (z / 32) (by omega) p hp]
        simp [or_assoc]
      refine ⟨_, rfl, rfl, fun c' z' hc' hz' => ?_, fun p hp hb0 => ?_, fun p hp hb1 => ?_⟩
      · by_cases hcc : c' < c
        · obtain ⟨g1, g2⟩ := e2 c' z' hcc hz'
          have hz'l := pg_nx_lt h hq hz'
          exact ⟨(hb _ (by omega)).mpr (Or.inl g1), fun p hp hb0 => (hb p hp).mpr (Or.inl (g2 p hp hb0))⟩
        · have hce : c' = c := by omega
          subst hce
          have hze : z' = z := Option.some.inj (hz'.symm.trans hz)
          subst hze
          exact ⟨(hb _ (by omega)).mpr (Or.inr (Or.inl rfl)), fun p hp hb0 => (hb p hp).mpr (Or.inr (Or.inr hb0))⟩
      · exact (hb p hp).mpr (Or.inl (e3 p hp hb0))
      · rcases (hb p hp).mp hb1 with h1 | h1 | h1
        · exact e4 p hp h1
        · exact Or.inr ⟨c, z, hc, hz, Or.inl h1.symm⟩
        · exact Or.inr ⟨c, z, hc, hz, Or.inr h1⟩
    · rw [if_neg ho, if_pos rfl]
      have hnx : pg_nx B q c = none := by
        unfold pg_nx
        rw [if_neg (fun hw => ho (decide_eq_true hw))]
      refine ⟨_, rfl, rfl, fun c' z' hc' hz' => ?_, e3, e4⟩
      by_cases hcc : c' < c
      · exact e2 c' z' hcc hz'
      · have hce : c' = c := by omega
        subst hce
        rw [hnx] at hz'
        cases hz') (by
    intro s ⟨e1, e2, e3, e4⟩
    obtain ⟨w, s2⟩ := s
    dsimp only at e1 e2 e3 e4
    subst e1
    show ∃ t, lb_X3_growAhead_45 147 1 i2 i3 (nI q) (pg_set3 (pg_op B q 0) (pg_op B q 1) (pg_op B q 2)) w (nI 3) σ = some (.inr t) ∧ _
    unfold lb_X3_growAhead_45
    rw [if_pos (by show nI 3 ≤ nI 3; exact Int32.le_refl _)]
    exact ⟨w, rfl, fun c z hc hz => e2 c z hc hz, e3, e4⟩) (by rw [pl_F]; omega)
  exact ⟨v, h1, h2, h3, h4⟩

