theorem pc_known.congr {σ σ' : hb_Mem} {n : Nat} {B : Nat → Int32} (h : pc_known σ n B) (hc : ∀ c, 147 ≤ c → σ' c = σ c) : pc_known σ' n B := by
  unfold pc_known pc_SV pc_rows pc_bits at h ⊢
  have hw : pc_way σ' B (pb_pl n B) = pc_way σ B (pb_pl n B) := by
    unfold pc_way
    rw [hc 147 (by decide), hc 159 (by decide)]
  rw [hw, hc 147 (by decide), hc 149 (by decide), hc 151 (by decide), hc 153 (by decide), hc 155 (by decide), hc 157 (by decide)]
  exact h
