/-- a reader's place, on both sides -/
theorem sp_plc {n : Nat} {a f : Int32} (h : pl_WR n a f) : (a = -5 ∧ pl_plc a f = -1) ∨ ∃ p g, p < n ∧ g < 32 ∧ a = nI p ∧ f = nI g ∧ pl_plc a f = nI (32 * p + g) := by
  rcases h with h | ⟨⟨p, hp, ha⟩, g, hg, hf⟩
  · left
    refine ⟨h, ?_⟩
    unfold pl_plc
    rw [if_pos h]
  · by_cases h5 : a = -5
    · left
      refine ⟨h5, ?_⟩
      unfold pl_plc
      rw [if_pos h5]
    · right
      refine ⟨p, g, hp, hg, ha, hf, ?_⟩
      unfold pl_plc
      rw [if_neg h5, ha, hf, pl_place]
theorem pc_rdr {n r : Nat} {B : Nat → Int32} {σ : hb_Mem} (hr : pl_RS σ 1 n B) (hr2 : r < 2) : fn_X1_at (hc_rf 1 8) (nI r) σ = some (pl_plc (B (417 + 3 * r)) (B (418 + 3 * r))) := by
  rw [pl_at (r := hc_rf 1 8) (a := 17) (n := 2) (by decide) hr2]
  exact congrArg some (hr.2.2.1 r hr2).1
theorem pc_rtk {n r : Nat} {B : Nat → Int32} {σ : hb_Mem} (hr : pl_RS σ 1 n B) (hr2 : r < 2) : fn_X1_at (hc_rf 1 9) (nI r) σ = some (B (419 + 3 * r)) := by
  rw [pl_at (r := hc_rf 1 9) (a := 19) (n := 2) (by decide) hr2]
  exact congrArg some (hr.2.2.1 r hr2).2
/-- the reason against a reader's choice -/
def sp_why (B : Nat → Int32) (r c : Nat) : Int32 := if B (417 + 3 * r) = -5 then 1 else nI (pg_why B (B (417 + 3 * r)).toNatClampNeg (B (418 + 3 * r)).toNatClampNeg c)
theorem sp_why_at {B : Nat → Int32} {r c p g : Nat} (hp : p < 32) (hg : g < 32) (h1 : B (417 + 3 * r) = nI p) (h2 : B (418 + 3 * r) = nI g) : sp_why B r c = nI (pg_why B p g c) := by
  unfold sp_why
  rw [h1, h2, if_neg (pl_ne_neg (by omega) (by decide)), nI_clamp (by omega), nI_clamp (by omega)]
theorem pc_whyR {n r c : Nat} {B : Nat → Int32} {σ : hb_Mem} (h : pl_WB n B) (hr : pl_RS σ 1 n B) (hr2 : r < 2) (hc : c < 3) : fn_X2_reasonAgainst 1 (nI r) (nI c) σ = some (sp_why B r c) := by
  have hn := h.1
  unfold fn_X2_reasonAgainst
  rw [pc_rdr hr hr2, Option.bind_some]
  rcases sp_plc (h.2.2.2.1 r hr2) with ⟨h5, e⟩ | ⟨p, g, hp, hg, ha, hf, e⟩
  · rw [e, if_pos rfl]
    unfold sp_why
    rw [if_pos h5]
  · rw [e, if_neg (pl_ne_neg (by omega) (by decide)), pc_why (by decide) h hr (by omega) hc, Option.bind_some, sp_why_at (by omega) hg ha hf, show (32 * p + g) / 32 = p by omega, show (32 * p + g) % 32 = g by omega]
