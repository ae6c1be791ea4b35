/-! the mood of the way, on both sides -/
def pf_sv (s : Bool) (c : Nat) (q : Int) : Int := if s && decide (c ≠ 0) then -((c * 2 ^ (q + 27).toNat : Nat) : Int) else ((c * 2 ^ (q + 27).toNat : Nat) : Int)
def pf_chk (d : Jvm.FP.Core.Datum) : Bool := match d with
  | .fin s c q => decide (c * 2 ^ (q + 149).toNat = (pf_sv s c q).natAbs * 2 ^ 122) && (decide (pf_sv s c q < 0) == s) && decide ((pf_sv s c q).natAbs ≤ 10 * 2 ^ 27)
  | _ => false
theorem pf_chks : ∀ t, t < 199 → pf_chk (Jvm.FP.Core.val32 (pf_mood (nI t - 99))) = true := by decide +kernel
theorem pf_fv {x : Int32} (h1 : -99 ≤ x.toInt) (h2 : x.toInt ≤ 99) : ∃ v : Int, fv (pf_mood x) v ∧ v.natAbs ≤ 10 * 2 ^ 27 := by
  obtain ⟨t, ht, rfl⟩ := pf_range h1 h2
  have h := pf_chks t ht
  cases hd : Jvm.FP.Core.val32 (pf_mood (nI t - 99)) with
  | nan => rw [hd] at h; cases h
  | inf s => rw [hd] at h; cases h
  | fin s c q =>
    rw [hd] at h
    have h : (decide (c * 2 ^ (q + 149).toNat = (pf_sv s c q).natAbs * 2 ^ 122) && (decide (pf_sv s c q < 0) == s) && decide ((pf_sv s c q).natAbs ≤ 10 * 2 ^ 27)) = true := h
    rw [Bool.and_eq_true, Bool.and_eq_true] at h
    obtain ⟨⟨k1, k2⟩, k3⟩ := h
    have k2 := eq_of_beq k2
    refine ⟨pf_sv s c q, ⟨s, c, q, hd, of_decide_eq_true k1, fun hn => ?_, fun hn => ?_⟩, of_decide_eq_true k3⟩
    · rw [← k2]; exact decide_eq_true hn
    · rw [← k2]; exact decide_eq_false (by omega)
/-- the sum over the first places of the way to g -/
def ws (B : Nat → Int32) (M : pb_M) (g : Nat) : Nat → UInt32
  | 0 => FP.fconst0
  | i + 1 => FP.fadd (ws B M g i) (pf_mood (B (1 + 13 * (pw_up M (M.2.1 g - i) g / 32))))
theorem ws_fv {n : Nat} {B : Nat → Int32} {M : pb_M} (h : pl_WB n B) (hM : pb_good (pg_nx B) n M) {g : Nat} (hg : g ∈ M.1) : ∀ i, i ≤ M.2.1 g + 1 → ∃ v : Int, fv (ws B M g i) v ∧ v.natAbs ≤ i * (11 * 2 ^ 27)
  | 0, _ => ⟨0, fv_zero, by decide⟩
  | i + 1, hi => by
    obtain ⟨v, h1, h2⟩ := ws_fv h hM hg i (by omega)
    obtain ⟨u1, u2⟩ := pw_up_ok hM hg (M.2.1 g - i) (by omega)
    have hul := hM.lt u1
    have hw := (h.2.2.1 (pw_up M (M.2.1 g - i) g / 32) (by omega)).1
    obtain ⟨w, k1, k2⟩ := pf_fv hw.1 hw.2
    have hd := hM.d hg
    have hsum : (v + w).natAbs ≤ i * (11 * 2 ^ 27) + 10 * 2 ^ 27 := by
      have := Int.natAbs_add_le v w
      omega
    obtain ⟨u, m1, m2⟩ := fv_add h1 k1 (by omega)
    exact ⟨u, m1, by omega⟩
theorem ws_nn {n : Nat} {B : Nat → Int32} {M : pb_M} (h : pl_WB n B) (hM : pb_good (pg_nx B) n M) {g : Nat} (hg : g ∈ M.1) {i : Nat} (hi : i ≤ M.2.1 g + 1) : hb_nn (ws B M g i) = some (ws B M g i) := by
  obtain ⟨v, h1, -⟩ := ws_fv h hM hg i hi
  exact ff_nn (fv_nan h1)
theorem pc_wayMood {n : Nat} {B : Nat → Int32} {σ : hb_Mem} {M : pb_M} (h : pl_WB n B) (hr : pl_RS σ 1 n B) (hS : pc_SV σ n B M) (hM : pb_good (pg_nx B) n M) {g : Nat} (hg : pw_goal B M = some g) : ll_X5_wayMood_19 0 σ (FP.fconst0, 0) = some (ws B M g (M.2.1 g + 1)) := by
  have hn := h.1
  have hw := hS.2.2.2.2.2
  unfold pc_way at hw
  rw [hg] at hw
  obtain ⟨w1, w2⟩ := hw
  have hgm : g ∈ M.1 := List.mem_of_find?_eq_some hg
  have hd := hM.d hgm
  unfold ll_X5_wayMood_19
  refine pl_for (f := fun s => lb_X5_wayMood_19 0 s.1 s.2 σ) (s := (FP.fconst0, (0 : Int32))) (M.2.1 g + 1) (fun i => (ws B M g i, nI i)) rfl ?_ ?_ (by rw [pl_F]; omega)
  · intro i hi
    show lb_X5_wayMood_19 0 (ws B M g i) (nI i) σ = _
    obtain ⟨u1, u2⟩ := pw_up_ok hM hgm (M.2.1 g - i) (by omega)
    have hul := hM.lt u1
    have e := w2 (M.2.1 g - i) (by omega)
    rw [show M.2.1 g - (M.2.1 g - i) = i by omega] at e
    unfold lb_X5_wayMood_19
    rw [show hc_rf 0 6 = 147 from by decide, show hc_rf 0 0 = 1 from by decide, w1, if_neg (by rw [nI_ltI (by omega) (by omega)]; omega), if_neg (by show ¬ nI 1024 ≤ nI i; rw [nI_leI (by omega) (by omega)]; omega), pl_at (r := hc_rf 147 11) (a := 159) (n := 1024) (by decide) (by omega), Option.bind_some, e, pc_page (by omega), Option.bind_some, pc_mood (by decide) h hr (by omega), Option.bind_some]
    have hnn := ws_nn h hM hgm (i := i + 1) (by omega)
    rw [show FP.fadd (ws B M g i) (pf_mood (B (1 + 13 * (pw_up M (M.2.1 g - i) g / 32)))) = ws B M g (i + 1) from rfl, hnn, Option.bind_some]
    simp only [hb_nm, nI_1]
  · show lb_X5_wayMood_19 0 (ws B M g (M.2.1 g + 1)) (nI (M.2.1 g + 1)) σ = _
    unfold lb_X5_wayMood_19
    rw [show hc_rf 0 6 = 147 from by decide, w1, if_pos (by rw [nI_ltI (by omega) (by omega)]; omega)]
