/-! the class alone: what a memory holds -/
def ps_ok (t n : Nat) (B : Nat → Int32) : Prop := pl_WB n B ∧ ∀ r, r < 2 → ∃ w, w ≤ t ∧ B (419 + 3 * r) = nI w
def ps_hist (t : Nat) (σ : hb_Mem) (sz nx : Nat) : Prop := sz ≤ 4 ∧ nx < 4 ∧ σ 58 2 = nI sz ∧ σ 58 1 = nI nx ∧ ∀ i, i < sz → ∃ n B, ps_ok t n B ∧ pl_RS σ (60 + 19 * ((nx + 4 - sz + i) % 4)) n B
def ps_snap (t : Nat) (σ : hb_Mem) : Prop := σ 0 3 = 0 ∨ (σ 0 3 = 1 ∧ ∃ n B, ps_ok t n B ∧ pl_RS σ 39 n B)
def ps_text (σ : hb_Mem) (len : Nat) : Prop := len ≤ 60 ∧ σ 136 1 = nI len
/-- n pages and the row B now; sz states to be undone, the next at nx; len signs typed; no reader has taken more than t choices -/
def Rl (t n : Nat) (B : Nat → Int32) (sz nx len : Nat) (σ : hb_Mem) : Prop := ps_ok t n B ∧ pl_RS σ 1 n B ∧ pc_known σ n B ∧ ps_snap t σ ∧ ps_hist t σ sz nx ∧ ps_text σ len
theorem ps_ok.up {t t' n : Nat} {B : Nat → Int32} (h : ps_ok t n B) (ht : t ≤ t') : ps_ok t' n B := ⟨h.1, fun r hr => by
  obtain ⟨w, h1, h2⟩ := h.2 r hr
  exact ⟨w, by omega, h2⟩⟩
theorem ps_hist.up {t t' sz nx : Nat} {σ : hb_Mem} (h : ps_hist t σ sz nx) (ht : t ≤ t') : ps_hist t' σ sz nx := by
  obtain ⟨a1, a2, a3, a4, a5⟩ := h
  refine ⟨a1, a2, a3, a4, fun i hi => ?_⟩
  obtain ⟨n, B, b1, b2⟩ := a5 i hi
  exact ⟨n, B, b1.up ht, b2⟩
theorem ps_snap.up {t t' : Nat} {σ : hb_Mem} (h : ps_snap t σ) (ht : t ≤ t') : ps_snap t' σ := by
  rcases h with h | ⟨h, n, B, b1, b2⟩
  · exact Or.inl h
  · exact Or.inr ⟨h, n, B, b1.up ht, b2⟩
theorem Rl.up {t t' n sz nx len : Nat} {B : Nat → Int32} {σ : hb_Mem} (h : Rl t n B sz nx len σ) (ht : t ≤ t') : Rl t' n B sz nx len σ := ⟨h.1.up ht, h.2.1, h.2.2.1, h.2.2.2.1.up ht, h.2.2.2.2.1.up ht, h.2.2.2.2.2⟩
theorem ps_snap.fr {t : Nat} {σ σ' : hb_Mem} (h : ps_snap t σ) (h0 : σ' 0 3 = σ 0 3) (hc : ∀ c, 39 ≤ c → c < 58 → σ' c = σ c) : ps_snap t σ' := by
  rcases h with h | ⟨h, n, B, b1, b2⟩
  · exact Or.inl (h0.trans h)
  · exact Or.inr ⟨h0.trans h, n, B, b1, b2.congr (fun c h1 h2 => hc c (by omega) (by omega))⟩
theorem ps_hist.fr {t sz nx : Nat} {σ σ' : hb_Mem} (h : ps_hist t σ sz nx) (hc : ∀ c, 58 ≤ c → c < 136 → σ' c = σ c) : ps_hist t σ' sz nx := by
  obtain ⟨a1, a2, a3, a4, a5⟩ := h
  refine ⟨a1, a2, by rw [hc 58 (by decide) (by decide)]; exact a3, by rw [hc 58 (by decide) (by decide)]; exact a4, fun i hi => ?_⟩
  obtain ⟨n, B, b1, b2⟩ := a5 i hi
  exact ⟨n, B, b1, b2.congr (fun c h1 h2 => hc c (by omega) (by omega))⟩
theorem Rl.ask {t n sz nx len : Nat} {B : Nat → Int32} {σ σ' : hb_Mem} (h : Rl t n B sz nx len σ) (hc : ∀ c, c < 147 → σ' c = σ c) (hk : pc_known σ' n B) : Rl t n B sz nx len σ' := by
  obtain ⟨a1, a2, a3, a4, a5, a6⟩ := h
  exact ⟨a1, a2.congr (fun c _ h2 => hc c (by omega)), hk, a4.fr (by rw [hc 0 (by decide)]) (fun c _ h2 => hc c (by omega)), a5.fr (fun c _ h2 => hc c (by omega)), a6.1, by rw [hc 136 (by decide)]; exact a6.2⟩
theorem Rl.put {t t' n n' sz nx len : Nat} {B B' : Nat → Int32} {σ1 σ2 : hb_Mem} (h : Rl t n B sz nx len σ1) (h0 : σ1 147 0 = 0) (hc : ∀ c, (c < 1 ∨ 39 ≤ c) → σ2 c = σ1 c) (ht : t ≤ t') (hO : ps_ok t' n' B') (hR : pl_RS σ2 1 n' B') : Rl t' n' B' sz nx len σ2 := by
  obtain ⟨-, -, -, b, c, d⟩ := h
  refine ⟨hO, hR, Or.inl (by rw [hc 147 (by omega)]; exact h0), ?_, ?_, d.1, ?_⟩
  · exact (b.up ht).fr (by rw [hc 0 (by omega)]) (fun c h1 h2 => hc c (by omega))
  · exact (c.up ht).fr (fun c h1 h2 => hc c (by omega))
  · rw [hc 136 (by omega)]
    exact d.2
theorem Rl.text {t n sz nx len len' : Nat} {B : Nat → Int32} {σ σ' : hb_Mem} (h : Rl t n B sz nx len σ) (hc : ∀ c, (c < 20 ∨ 39 ≤ c) → (c < 136 ∨ 147 ≤ c) → σ' c = σ c) (ht : ps_text σ' len') : Rl t n B sz nx len' σ' := by
  obtain ⟨a1, a2, a3, b, c, -⟩ := h
  refine ⟨a1, a2.congr (fun c _ h2 => hc c (by omega) (by omega)), a3.congr (fun c hc' => hc c (by omega) (by omega)), ?_, ?_, ht⟩
  · exact b.fr (by rw [hc 0 (by omega) (by omega)]) (fun c k1 k2 => hc c (by omega) (by omega))
  · exact c.fr (fun c k1 k2 => hc c (by omega) (by omega))
theorem cs_record {t n sz nx len : Nat} {B : Nat → Int32} {σ : hb_Mem} (h : Rl t n B sz nx len σ) : ∃ σ', fn_X5_record 0 σ = some σ' ∧ Rl t n B (min 4 (sz + 1)) ((nx + 1) % 4) len σ' ∧ σ' 147 0 = 0 ∧ pl_RS σ' (60 + 19 * nx) n B ∧ (∀ c, c < 58 → σ' c = σ c) ∧ ∀ c, 136 ≤ c → c < 147 → σ' c = σ c := by
  obtain ⟨a1, a2, a3, b, ⟨c1, c2, c3, c4, c5⟩, d⟩ := h
  obtain ⟨σ', r1, r2, r3, r4, r5, r6⟩ := pc_record c1 c2 c3 c4
  have hlo : ∀ c, c < 58 → σ' c = σ c := fun c hc => r2 c (by omega) (by omega) (by omega)
  have hhi : ∀ c, 136 ≤ c → c < 147 → σ' c = σ c := fun c h1 h2 => r2 c (by omega) (by omega) (by omega)
  have htp : pl_RS σ' (60 + 19 * nx) n B := pl_RS.same a1.1 a2 r3
  refine ⟨σ', r1, ⟨a1, a2.congr (fun c _ h2 => hlo c (by omega)), Or.inl r6, ?_, ?_, d.1, ?_⟩, r6, htp, hlo, hhi⟩
  · exact b.fr (by rw [hlo 0 (by decide)]) (fun c _ h2 => hlo c h2)
  · refine ⟨by omega, by omega, r5, r4, fun i hi => ?_⟩
    by_cases hl : i = min 4 (sz + 1) - 1
    · refine ⟨n, B, a1, ?_⟩
      rw [show ((nx + 1) % 4 + 4 - min 4 (sz + 1) + i) % 4 = nx by omega]
      exact htp
    · obtain ⟨n', B', b1, b2⟩ := c5 (i + (sz - (min 4 (sz + 1) - 1))) (by omega)
      have hpos : (nx + 4 - sz + (i + (sz - (min 4 (sz + 1) - 1)))) % 4 = ((nx + 1) % 4 + 4 - min 4 (sz + 1) + i) % 4 := by omega
      rw [hpos] at b2
      have hne : ((nx + 1) % 4 + 4 - min 4 (sz + 1) + i) % 4 ≠ nx := by omega
      exact ⟨n', B', b1, b2.congr (fun c h1 h2 => r2 c (by omega) (by omega) (by omega))⟩
  · rw [hhi 136 (by decide) (by decide)]
    exact d.2
/-- an act: the state of before is what the next undo brings back -/
def Ac (t n : Nat) (B : Nat → Int32) (sz nx len n' : Nat) (B' : Nat → Int32) (σ' : hb_Mem) : Prop := Rl (t + 1) n' B' (min 4 (sz + 1)) ((nx + 1) % 4) len σ' ∧ pl_RS σ' (60 + 19 * nx) n B
theorem Ac.of {t n n' sz nx len : Nat} {B B' : Nat → Int32} {σ1 σ2 : hb_Mem} (h : Rl t n B (min 4 (sz + 1)) ((nx + 1) % 4) len σ1) (h0 : σ1 147 0 = 0) (htp : pl_RS σ1 (60 + 19 * nx) n B) (hc : ∀ c, (c < 1 ∨ 39 ≤ c) → σ2 c = σ1 c) (hO : ps_ok (t + 1) n' B') (hR : pl_RS σ2 1 n' B') : Ac t n B sz nx len n' B' σ2 :=
  ⟨h.put h0 hc (Nat.le_succ t) hO hR, htp.congr (fun c h1 h2 => hc c (by omega))⟩
theorem Ac.ask {t n n' sz nx len : Nat} {B B' : Nat → Int32} {σ σ' : hb_Mem} (h : Ac t n B sz nx len n' B' σ) (hn : nx < 4) (hc : ∀ c, c < 147 → σ' c = σ c) (hk : pc_known σ' n' B') : Ac t n B sz nx len n' B' σ' :=
  ⟨h.1.ask hc hk, h.2.congr (fun c h1 h2 => hc c (by omega))⟩
theorem Rl.nx {t n sz nx len : Nat} {B : Nat → Int32} {σ : hb_Mem} (h : Rl t n B sz nx len σ) : sz ≤ 4 ∧ nx < 4 := ⟨h.2.2.2.2.1.1, h.2.2.2.2.1.2.1⟩
theorem cs_undo0 {t n nx len : Nat} {B : Nat → Int32} {σ : hb_Mem} (h : Rl t n B 0 nx len σ) : fn_X5_undo 0 σ = some (-5, σ) := by
  obtain ⟨-, -, -, -, ⟨c1, c2, c3, c4, c5⟩, -⟩ := h
  unfold fn_X5_undo
  rw [show hc_rf 0 4 = 58 from by decide, c3, if_pos (show nI 0 = 0 from rfl)]
theorem cs_undo1 {t n sz nx len n' : Nat} {B B' : Nat → Int32} {σ : hb_Mem} (h : Rl t n B sz nx len σ) (hs : 0 < sz) (hO : ps_ok t n' B') (hR : pl_RS σ (60 + 19 * ((nx + 3) % 4)) n' B') : ∃ σ', fn_X5_undo 0 σ = some (nI (sz - 1), σ') ∧ Rl t n' B' (sz - 1) ((nx + 3) % 4) len σ' := by
  obtain ⟨a1, a2, a3, b, ⟨c1, c2, c3, c4, c5⟩, d⟩ := h
  unfold fn_X5_undo
  rw [show hc_rf 0 4 = 58 from by decide, hc_r0, hc_r6, c3]
  have z : ¬ nI sz = 0 := fun hc => by have := (pl_eq0 (by omega)).mp hc; omega
  have hsub : nI sz - 1 = nI (sz - 1) := pl_sub (b := 1) (by omega)
  obtain ⟨s2, hs2⟩ : ∃ s, s = hb_up (hb_up σ 58 1 (nI ((nx + 3) % 4))) 58 2 (nI (sz - 1)) := ⟨_, rfl⟩
  have hb2 : pl_RS s2 (60 + 19 * ((nx + 3) % 4)) n' B' := hR.congr (fun c h1 h2 => by rw [hs2, hb_up_ne (by omega), hb_up_ne (by omega)])
  obtain ⟨s3, k1, k2, k3⟩ := pl_copy (show pl_st 1 by decide) (pl_st_ring (nx := (nx + 3) % 4) (by omega)) (by omega) s2
  have hpop : fn_X0_pop 58 1 σ = some s3 := by
    have key : ∀ x, x = nI ((nx + 3) % 4) → jn_X0_pop_18 58 1 x σ = some s3 := by
      intro x hx
      unfold jn_X0_pop_18
      simp only [hb_nm]
      have e2 : hb_up σ 58 1 x 58 2 - 1 = nI (sz - 1) := by rw [pl_up_other (by decide), c3, hsub]
      rw [e2, hx, ← hs2]
      have e1 : s2 58 1 = nI ((nx + 3) % 4) := by rw [hs2, pl_up_other (by decide), pl_up_same]
      rw [e1, pc_ring _ (by omega), Option.bind_some, Option.bind_some, k1, Option.bind_some]
    unfold fn_X0_pop
    rw [c4]
    by_cases q0 : nx = 0
    · have z0 : nI nx ≤ 0 := by rw [q0]; decide
      rw [if_pos z0]
      exact key 3 (by rw [q0]; rfl)
    · have z0 : ¬ nI nx ≤ 0 := by show ¬ nI nx ≤ nI 0; rw [nI_leI (by omega) (by omega)]; omega
      rw [if_neg z0]
      refine key _ ?_
      rw [show nI nx - 1 = nI (nx - 1) from pl_sub (b := 1) (by omega), show (nx + 3) % 4 = nx - 1 by omega]
  rw [if_neg z, hpop, Option.bind_some]
  simp only [hb_nm]
  have ecls : ∀ c, c < 147 → (c < 1 ∨ 20 ≤ c) → hb_up s3 147 0 0 c = s2 c := fun c h1 h2 => by rw [hb_up_ne (by omega)]; exact k2 c (by omega)
  refine ⟨hb_up s3 147 0 0, ?_, hO, ?_, Or.inl (pl_up_same _ _ _ _), ?_, ?_, d.1, ?_⟩
  · rw [ecls 58 (by decide) (by omega), hs2, pl_up_same]
  · exact (pl_RS.same hO.1 hb2 k3).congr (fun c h1 h2 => by rw [hb_up_ne (by omega)])
  · refine b.fr ?_ (fun c h1 h2 => ?_)
    · rw [ecls 0 (by decide) (by omega), hs2, hb_up_ne (by decide), hb_up_ne (by decide)]
    · rw [ecls c (by omega) (by omega), hs2, hb_up_ne (by omega), hb_up_ne (by omega)]
  · refine ⟨by omega, by omega, ?_, ?_, fun i hi => ?_⟩
    · rw [ecls 58 (by decide) (by omega), hs2, pl_up_same]
    · rw [ecls 58 (by decide) (by omega), hs2, pl_up_other (by decide), pl_up_same]
    · obtain ⟨n2, B2, f1, f2⟩ := c5 i (by omega)
      rw [show ((nx + 3) % 4 + 4 - (sz - 1) + i) % 4 = (nx + 4 - sz + i) % 4 by omega]
      refine ⟨n2, B2, f1, f2.congr (fun c h1 h2 => ?_)⟩
      rw [ecls c (by omega) (by omega), hs2, hb_up_ne (by omega), hb_up_ne (by omega)]
  · rw [ecls 136 (by decide) (by omega), hs2, hb_up_ne (by decide), hb_up_ne (by decide)]
    exact d.2
theorem cs_undo {t n sz nx len : Nat} {B : Nat → Int32} {σ : hb_Mem} (h : Rl t n B sz nx len σ) (hs : 0 < sz) : ∃ n' B' σ', fn_X5_undo 0 σ = some (nI (sz - 1), σ') ∧ Rl t n' B' (sz - 1) ((nx + 3) % 4) len σ' := by
  obtain ⟨n', B', b1, b2⟩ := h.2.2.2.2.1.2.2.2.2 (sz - 1) (by omega)
  have hx := h.nx
  rw [show (nx + 4 - sz + (sz - 1)) % 4 = (nx + 3) % 4 by omega] at b2
  obtain ⟨σ', h1, h2⟩ := cs_undo1 h hs b1 b2
  exact ⟨n', B', σ', h1, h2⟩
theorem cs_keep {t n sz nx len : Nat} {B : Nat → Int32} {σ : hb_Mem} (h : Rl t n B sz nx len σ) : ∃ σ', fn_X5_keep 0 σ = some (nI n, σ') ∧ Rl t n B sz nx len σ' := by
  obtain ⟨a1, a2, a3, b, c, d⟩ := h
  obtain ⟨s1, k1, k2, k3⟩ := pl_copy (k := 39) (k' := 1) (by decide) (by decide) (by decide) σ
  unfold fn_X5_keep
  rw [show hc_rf 0 2 = 39 from by decide, hc_r0, k1, Option.bind_some]
  simp only [hb_nm]
  have ecls : ∀ c, c ≠ 0 → (c < 39 ∨ 58 ≤ c) → hb_up s1 0 3 1 c = σ c := fun c h1 h2 => by rw [hb_up_ne h1]; exact k2 c (by omega)
  refine ⟨hb_up s1 0 3 1, by rw [ecls 1 (by decide) (by omega), a2.1], a1, a2.congr (fun c h1 h2 => ecls c (by omega) (by omega)), a3.congr (fun c hc => ecls c (by omega) (by omega)), Or.inr ⟨pl_up_same _ _ _ _, n, B, a1, ?_⟩, c.fr (fun c h1 h2 => ecls c (by omega) (by omega)), d.1, by rw [ecls 136 (by decide) (by omega)]; exact d.2⟩
  exact (pl_RS.same a1.1 a2 k3).congr (fun c h1 h2 => by rw [hb_up_ne (by omega)])
theorem cs_restore {t n sz nx len : Nat} {B : Nat → Int32} {σ : hb_Mem} (h : Rl t n B sz nx len σ) : fn_X5_restore 0 σ = some (-5, σ) ∨ ∃ n' B' σ', fn_X5_restore 0 σ = some (nI n', σ') ∧ Ac t n B sz nx len n' B' σ' := by
  unfold fn_X5_restore
  rw [show hc_rf 0 2 = 39 from by decide, hc_r0]
  rcases h.2.2.2.1 with b2 | ⟨b2, n', B', b3, b4⟩
  · left
    rw [if_pos b2]
  · right
    have z : ¬ σ 0 3 = 0 := by rw [b2]; decide
    obtain ⟨σ1, r1, r2, r3, r4, r5, r6⟩ := cs_record h
    obtain ⟨s2, k1, k2, k3⟩ := pl_copy (k := 1) (k' := 39) (by decide) (by decide) (by decide) σ1
    have hb4 : pl_RS σ1 39 n' B' := b4.congr (fun c h1 h2 => r5 c (by omega))
    have hR : pl_RS s2 1 n' B' := pl_RS.same b3.1 hb4 k3
    rw [if_neg z, r1, Option.bind_some, k1, Option.bind_some, hR.1]
    exact ⟨n', B', s2, rfl, Ac.of r2 r3 r4 (fun c hc => k2 c (by omega)) (b3.up (Nat.le_succ t)) hR⟩
theorem cs_start : Rl 0 0 (fun j => if j = 417 ∨ j = 420 ∨ j = 423 then -5 else 0) 0 0 0 hc_s0 := by
  have hr3 : ∀ r, r < 2 → hc_s0 17 r = -1 ∧ hc_s0 19 r = 0 := by decide +kernel
  have h10 : hc_s0 1 10 = -1 := by decide +kernel
  have hplc : ∀ f, pl_plc (-5) f = -1 := fun f => by
    unfold pl_plc
    rw [if_pos rfl]
  have hb : ∀ r, r < 2 → (fun j => if j = 417 ∨ j = 420 ∨ j = 423 then (-5 : Int32) else 0) (417 + 3 * r) = -5 ∧ (fun j => if j = 417 ∨ j = 420 ∨ j = 423 then (-5 : Int32) else 0) (419 + 3 * r) = 0 := by decide +kernel
  refine ⟨⟨⟨by decide, by decide +kernel, fun p hp => by omega, fun r hr => Or.inl (hb r hr).1, Or.inl (by decide +kernel)⟩, fun r hr => ⟨0, Nat.le_refl 0, (hb r hr).2⟩⟩, ⟨by decide +kernel, fun p hp => by omega, fun r hr => ⟨?_, ?_⟩, ?_⟩, Or.inl (by decide +kernel), Or.inl (by decide +kernel), ⟨by decide, by decide, by decide +kernel, by decide +kernel, fun i hi => by omega⟩, by decide, by decide +kernel⟩
  · rw [(hb r hr).1, hplc]
    exact (hr3 r hr).1
  · rw [(hb r hr).2]
    exact (hr3 r hr).2
  · show hc_s0 1 10 = pl_plc (-5) _
    rw [hplc]
    exact h10
