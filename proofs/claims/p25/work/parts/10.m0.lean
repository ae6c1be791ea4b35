/-! methods (laid by wip/p25/gen.py) -/
def lb_X1_fill_2 (k : Nat) (p1 : Int32) (w2 : Int32) (σ : hb_Mem) : Option ((Int32 × hb_Mem) ⊕ hb_Mem) :=
if (Int32.ofNat (hc_ln (hc_rf k 0))) ≤ w2 then (
some (.inr σ))
else (
(hb_st ΛC σ (hc_rf k 0) w2 p1).bind fun σ1 =>
hb_nm (w2 + 1) fun v2 =>
some (.inl (v2, σ1)))
set_option maxRecDepth 100000 in
set_option maxHeartbeats 4000000 in
theorem lk_X1_fill_2 {Γ : hb_Ctx} {G : hb_Gam} {Q : State → Prop} (X : hb_X Γ cX1_fill 3 RX1 ΛC G 0 0)  (k : Nat) (hk : hb_is ΛC k 1) (p1 : Int32) (w2 : Int32) (σ : hb_Mem) {x : ((Int32 × hb_Mem) ⊕ hb_Mem)} (h : lb_X1_fill_2 k p1 w2 σ = some x) (K : Sum.elim (fun s : (Int32 × hb_Mem) => hb_W Γ ΛC G 3 Q s.2 [some (.ref (G.2.2.2 k)), some (.int p1), some (.int s.1)] [] 2) (fun t : hb_Mem => hb_W Γ ΛC G 3 Q t [none, none, none] [] 24) x) : hb_W Γ ΛC G 3 Q σ [some (.ref (G.2.2.2 k)), some (.int p1), some (.int w2)] [] 2 := by
  unfold lb_X1_fill_2 at h
  refine ww_iload_n 3 X dX1_fill_2 rfl rfl ?_
  refine ww_aload_n 4 X dX1_fill_3 rfl rfl ?_
  refine ww_getr (ci := 1) (j := 0) 7 X cf_1 tw_X1_7 (by decide) rfl hk dX1_fill_4 rfl ?_
  refine ww_alen 8 X (hc_kr_1_0 hk) rfl dX1_fill_7 rfl ?_
  refine ww_icmp_ge 24 11 X dX1_fill_8 (by decide) rfl h (fun h => ?_) (fun h => ?_)
  · skip
    obtain rfl := Option.some.inj h
    refine ww_kill [0, 1, 2] (L' := [none, none, none]) rfl ?_
    exact K
  · skip
    refine ww_aload_n 12 X dX1_fill_11 rfl rfl ?_
    refine ww_getr (ci := 1) (j := 0) 15 X cf_1 tw_X1_7 (by decide) rfl hk dX1_fill_12 rfl ?_
    refine ww_iload_n 16 X dX1_fill_15 rfl rfl ?_
    refine ww_iload_n 17 X dX1_fill_16 rfl rfl ?_
    obtain ⟨σ1, hσ1, h⟩ := hb_bind_of h
    refine ww_iast 18 X (hc_kr_1_0 hk) hσ1 dX1_fill_17 rfl ?_
    obtain ⟨v2, ev2, h⟩ := hb_nm_of h
    refine ww_iinc 21 X (L' := [some (.ref (G.2.2.2 k)), some (.int p1), some (.int v2)]) dX1_fill_18 rfl rfl ev2.symm rfl ?_
    refine ww_goto 2 X dX1_fill_21 (by decide) ?_
    obtain rfl := Option.some.inj h
    exact K
def ll_X1_fill_2 (k : Nat) (p1 : Int32) : (Int32 × hb_Mem) → Option hb_Mem := hb_lp (fun s => lb_X1_fill_2 k p1 s.1 s.2) hb_F
theorem lw_X1_fill_2 {Γ : hb_Ctx} {G : hb_Gam} {Q : State → Prop} (X : hb_X Γ cX1_fill 3 RX1 ΛC G 0 0)  (k : Nat) (hk : hb_is ΛC k 1) (p1 : Int32) (s : (Int32 × hb_Mem)) (t : hb_Mem) (h : ll_X1_fill_2 k p1 s = some t) (K : (fun t : hb_Mem => hb_W Γ ΛC G 3 Q t [none, none, none] [] 24) t) : hb_W Γ ΛC G 3 Q s.2 [some (.ref (G.2.2.2 k)), some (.int p1), some (.int s.1)] [] 2 :=
  hb_lp_w (P := fun s : (Int32 × hb_Mem) => hb_W Γ ΛC G 3 Q s.2 [some (.ref (G.2.2.2 k)), some (.int p1), some (.int s.1)] [] 2) (E := (fun t : hb_Mem => hb_W Γ ΛC G 3 Q t [none, none, none] [] 24)) (fun s x hx K => lk_X1_fill_2 X k hk p1 s.1 s.2 hx K) _ s t h K
def fn_X1_fill (k : Nat) (p1 : Int32) (σ : hb_Mem) : Option hb_Mem :=
(ll_X1_fill_2 k p1 (0, σ)).bind fun t3 =>
some t3
set_option maxRecDepth 100000 in
set_option maxHeartbeats 4000000 in
theorem wk_X1_fill {Γ : hb_Ctx} {G : hb_Gam} {Q : State → Prop} (X : hb_X Γ cX1_fill 3 RX1 ΛC G 0 0) (hr : hb_ret Γ = none) (k : Nat) (hk : hb_is ΛC k 1) (p1 : Int32) (σ : hb_Mem) {x : hb_Mem} (h : fn_X1_fill k p1 σ = some x) (K : Q = hb_Q Γ ΛC G none x) : hb_W Γ ΛC G 3 Q σ [some (.ref (G.2.2.2 k)), some (.int p1), none] [] 0 := by
  unfold fn_X1_fill at h
  refine ww_iconst (v := 0) 1 X dX1_fill_0 rfl (by decide) ?_
  refine ww_istore_n 2 X (L' := [some (.ref (G.2.2.2 k)), some (.int p1), some (.int 0)]) dX1_fill_1 rfl (Nat.le_of_ble_eq_true rfl) rfl rfl ?_
  obtain ⟨t3, ht3, h⟩ := hb_bind_of h
  refine lw_X1_fill_2 X k hk p1 (0, σ) t3 ht3 ?_
  obtain rfl := Option.some.inj h
  exact ww_ret_v X hr K dX1_fill_24
theorem ct_X1_fill (l : Launch) (G : hb_Gam) (k : Nat) (hk : hb_is ΛC k 1) (p1 : Int32) (σ : hb_Mem) {x : hb_Mem} (h : fn_X1_fill k p1 σ = some x) : hb_C l yX1_fill cX1_fill 3 none 0 0 ΛC G [.ref (G.2.2.2 k), .int p1] σ none x :=
  hb_C.of [some (.ref (G.2.2.2 k)), some (.int p1), none] (by decide +kernel) (Nat.le_of_ble_eq_true rfl) (by intro v hv; simp only [List.mem_cons, List.not_mem_nil, or_false] at hv; rcases hv with rfl | rfl <;> rfl) rfl (hb_pad [.ref (G.2.2.2 k), .int p1] 1) (fun Γ X hr => wk_X1_fill X hr k hk p1 σ h rfl)
def fn_X0_stateAt (k : Nat) (p1 : Int32) (σ : hb_Mem) : Option (Option Nat) :=
if p1 < 0 then (
some none)
else (
if (Int32.ofNat (hc_ln (hc_rf k 0))) ≤ p1 then (
some none)
else (
(hb_ldr ΛC (hc_rf k 0) p1).bind fun b1 =>
some (some b1)))
set_option maxRecDepth 100000 in
set_option maxHeartbeats 4000000 in
theorem wk_X0_stateAt {Γ : hb_Ctx} {G : hb_Gam} {Q : State → Prop} (X : hb_X Γ cX0_stateAt 2 RX0 ΛC G 0 0) (hr : hb_ret Γ = (some (.object "PathBook$State"))) (k : Nat) (hk : hb_is ΛC k 0) (p1 : Int32) (σ : hb_Mem) {x : Option Nat} (h : fn_X0_stateAt k p1 σ = some x) (K : Q = hb_Q Γ ΛC G (some (hb_or G x)) σ) : hb_W Γ ΛC G 2 Q σ [some (.ref (G.2.2.2 k)), some (.int p1)] [] 0 := by
  unfold fn_X0_stateAt at h
  refine ww_iload_n 1 X dX0_stateAt_0 rfl rfl ?_
  refine ww_if_lt 22 4 X dX0_stateAt_1 (by decide) rfl h (fun h => ?_) (fun h => ?_)
  · skip
    refine ww_null 23 X dX0_stateAt_22 rfl ?_
    obtain rfl := Option.some.inj h
    exact ww_ret_a X hr (.inl rfl) K dX0_stateAt_23
  · skip
    refine ww_iload_n 5 X dX0_stateAt_4 rfl rfl ?_
    refine ww_aload_n 6 X dX0_stateAt_5 rfl rfl ?_
    refine ww_getr (ci := 0) (j := 0) 9 X cf_0 tw_X0_11 (by decide) rfl hk dX0_stateAt_6 rfl ?_
    refine ww_alenq 10 X (hc_kr_0_0 hk) rfl dX0_stateAt_9 rfl ?_
    refine ww_icmp_ge 22 13 X dX0_stateAt_10 (by decide) rfl h (fun h => ?_) (fun h => ?_)
    · skip
      refine ww_null 23 X dX0_stateAt_22 rfl ?_
      obtain rfl := Option.some.inj h
      exact ww_ret_a X hr (.inl rfl) K dX0_stateAt_23
    · skip
      refine ww_aload_n 14 X dX0_stateAt_13 rfl rfl ?_
      refine ww_getr (ci := 0) (j := 0) 17 X cf_0 tw_X0_11 (by decide) rfl hk dX0_stateAt_14 rfl ?_
      refine ww_iload_n 18 X dX0_stateAt_17 rfl rfl ?_
      obtain ⟨b1, hb1, h⟩ := hb_bind_of h
      refine ww_aald 19 X (hc_kr_0_0 hk) hb1 dX0_stateAt_18 rfl ?_
      refine ww_goto 23 X dX0_stateAt_19 (by decide) ?_
      obtain rfl := Option.some.inj h
      exact ww_ret_a X hr (.inr ⟨_, rfl⟩) K dX0_stateAt_23
theorem ct_X0_stateAt (l : Launch) (G : hb_Gam) (k : Nat) (hk : hb_is ΛC k 0) (p1 : Int32) (σ : hb_Mem) {x : Option Nat} (h : fn_X0_stateAt k p1 σ = some x) : hb_C l yX0_stateAt cX0_stateAt 2 (some (.object "PathBook$State")) 0 0 ΛC G [.ref (G.2.2.2 k), .int p1] σ (some (hb_or G x)) σ :=
  hb_C.of [some (.ref (G.2.2.2 k)), some (.int p1)] (by decide +kernel) (Nat.le_of_ble_eq_true rfl) (by intro v hv; simp only [List.mem_cons, List.not_mem_nil, or_false] at hv; rcases hv with rfl | rfl <;> rfl) rfl (hb_pad [.ref (G.2.2.2 k), .int p1] 0) (fun Γ X hr => wk_X0_stateAt X hr k hk p1 σ h rfl)
theorem hc_stateAt_kind {k : Nat} (hk : hb_is ΛC k 0) {i : Int32} {σ : hb_Mem} {b : Nat} (h : fn_X0_stateAt k i σ = some (some b)) : hb_is ΛC b 2 := by
  unfold fn_X0_stateAt at h
  split at h
  · cases h
  · split at h
    · cases h
    · obtain ⟨c, hc, h⟩ := hb_bind_of h
      cases h
      exact hc_ldr_kind (hc_kr_0_0 hk) hc
def fn_X1_at (k : Nat) (p1 : Int32) (σ : hb_Mem) : Option Int32 :=
if p1 < 0 then (
some 0)
else (
if (Int32.ofNat (hc_ln (hc_rf k 0))) ≤ p1 then (
some 0)
else (
(hb_ld ΛC σ (hc_rf k 0) p1).bind fun v1 =>
some v1))
set_option maxRecDepth 100000 in
set_option maxHeartbeats 4000000 in
theorem wk_X1_at {Γ : hb_Ctx} {G : hb_Gam} {Q : State → Prop} (X : hb_X Γ cX1_at 2 RX1 ΛC G 0 0) (hr : hb_ret Γ = (some .int)) (k : Nat) (hk : hb_is ΛC k 1) (p1 : Int32) (σ : hb_Mem) {x : Int32} (h : fn_X1_at k p1 σ = some x) (K : Q = hb_Q Γ ΛC G (some (.int x)) σ) : hb_W Γ ΛC G 2 Q σ [some (.ref (G.2.2.2 k)), some (.int p1)] [] 0 := by
  unfold fn_X1_at at h
  refine ww_iload_n 1 X dX1_at_0 rfl rfl ?_
  refine ww_if_lt 22 4 X dX1_at_1 (by decide) rfl h (fun h => ?_) (fun h => ?_)
  · skip
    refine ww_iconst (v := 0) 23 X dX1_at_22 rfl (by decide) ?_
    obtain rfl := Option.some.inj h
    exact ww_ret_i X hr K dX1_at_23
  · skip
    refine ww_iload_n 5 X dX1_at_4 rfl rfl ?_
    refine ww_aload_n 6 X dX1_at_5 rfl rfl ?_
    refine ww_getr (ci := 1) (j := 0) 9 X cf_1 tw_X1_7 (by decide) rfl hk dX1_at_6 rfl ?_
    refine ww_alen 10 X (hc_kr_1_0 hk) rfl dX1_at_9 rfl ?_
    refine ww_icmp_ge 22 13 X dX1_at_10 (by decide) rfl h (fun h => ?_) (fun h => ?_)
    · skip
      refine ww_iconst (v := 0) 23 X dX1_at_22 rfl (by decide) ?_
      obtain rfl := Option.some.inj h
      exact ww_ret_i X hr K dX1_at_23
    · skip
      refine ww_aload_n 14 X dX1_at_13 rfl rfl ?_
      refine ww_getr (ci := 1) (j := 0) 17 X cf_1 tw_X1_7 (by decide) rfl hk dX1_at_14 rfl ?_
      refine ww_iload_n 18 X dX1_at_17 rfl rfl ?_
      obtain ⟨v1, hv1, h⟩ := hb_bind_of h
      refine ww_iald 19 X (hc_kr_1_0 hk) hv1 dX1_at_18 rfl ?_
      refine ww_goto 23 X dX1_at_19 (by decide) ?_
      obtain rfl := Option.some.inj h
      exact ww_ret_i X hr K dX1_at_23
theorem ct_X1_at (l : Launch) (G : hb_Gam) (k : Nat) (hk : hb_is ΛC k 1) (p1 : Int32) (σ : hb_Mem) {x : Int32} (h : fn_X1_at k p1 σ = some x) : hb_C l yX1_at cX1_at 2 (some .int) 0 0 ΛC G [.ref (G.2.2.2 k), .int p1] σ (some (.int x)) σ :=
  hb_C.of [some (.ref (G.2.2.2 k)), some (.int p1)] (by decide +kernel) (Nat.le_of_ble_eq_true rfl) (by intro v hv; simp only [List.mem_cons, List.not_mem_nil, or_false] at hv; rcases hv with rfl | rfl <;> rfl) rfl (hb_pad [.ref (G.2.2.2 k), .int p1] 0) (fun Γ X hr => wk_X1_at X hr k hk p1 σ h rfl)
def lb_X1_copyFrom_2 (k : Nat) (r1 : Nat) (w2 : Int32) (σ : hb_Mem) : Option ((Int32 × hb_Mem) ⊕ hb_Mem) :=
if (Int32.ofNat (hc_ln (hc_rf k 0))) ≤ w2 then (
some (.inr σ))
else (
(fn_X1_at r1 w2 σ).bind fun x1 =>
(hb_st ΛC σ (hc_rf k 0) w2 x1).bind fun σ2 =>
hb_nm (w2 + 1) fun v3 =>
some (.inl (v3, σ2)))
set_option maxRecDepth 100000 in
set_option maxHeartbeats 4000000 in
theorem lk_X1_copyFrom_2 {Γ : hb_Ctx} {G : hb_Gam} {Q : State → Prop} (X : hb_X Γ cX1_copyFrom 3 RX1 ΛC G 1 21)  (k : Nat) (hk : hb_is ΛC k 1) (r1 : Nat) (hr1 : hb_is ΛC r1 1) (w2 : Int32) (σ : hb_Mem) {x : ((Int32 × hb_Mem) ⊕ hb_Mem)} (h : lb_X1_copyFrom_2 k r1 w2 σ = some x) (K : Sum.elim (fun s : (Int32 × hb_Mem) => hb_W Γ ΛC G 3 Q s.2 [some (.ref (G.2.2.2 k)), some (.ref (G.2.2.2 r1)), some (.int s.1)] [] 2) (fun t : hb_Mem => hb_W Γ ΛC G 3 Q t [none, none, none] [] 28) x) : hb_W Γ ΛC G 3 Q σ [some (.ref (G.2.2.2 k)), some (.ref (G.2.2.2 r1)), some (.int w2)] [] 2 := by
  unfold lb_X1_copyFrom_2 at h
  refine ww_iload_n 3 X dX1_copyFrom_2 rfl rfl ?_
  refine ww_aload_n 4 X dX1_copyFrom_3 rfl rfl ?_
  refine ww_getr (ci := 1) (j := 0) 7 X cf_1 tw_X1_7 (by decide) rfl hk dX1_copyFrom_4 rfl ?_
  refine ww_alen 8 X (hc_kr_1_0 hk) rfl dX1_copyFrom_7 rfl ?_
  refine ww_icmp_ge 28 11 X dX1_copyFrom_8 (by decide) rfl h (fun h => ?_) (fun h => ?_)
  · skip
    obtain rfl := Option.some.inj h
    refine ww_kill [0, 1, 2] (L' := [none, none, none]) rfl ?_
    exact K
  · skip
    refine ww_aload_n 12 X dX1_copyFrom_11 rfl rfl ?_
    refine ww_getr (ci := 1) (j := 0) 15 X cf_1 tw_X1_7 (by decide) rfl hk dX1_copyFrom_12 rfl ?_
    refine ww_iload_n 16 X dX1_copyFrom_15 rfl rfl ?_
    refine ww_aload_n 17 X dX1_copyFrom_16 rfl rfl ?_
    refine ww_iload_n 18 X dX1_copyFrom_17 rfl rfl ?_
    obtain ⟨x1, hx1, h⟩ := hb_bind_of h
    refine ww_callV (ci := 1) (rest := [.int w2, .ref (G.2.2.2 (hc_rf k 0))]) (st' := [.int x1, .int w2, .ref (G.2.2.2 (hc_rf k 0))]) 21 X (ct_X1_at (hb_l Γ) G r1 hr1 w2 σ hx1) cw_X1_13 rfl (by decide) hr1 rfl ⟨by decide, by decide⟩ (Nat.le_of_ble_eq_true rfl) rfl rfl dX1_copyFrom_18 rfl ?_
    obtain ⟨σ2, hσ2, h⟩ := hb_bind_of h
    refine ww_iast 22 X (hc_kr_1_0 hk) hσ2 dX1_copyFrom_21 rfl ?_
    obtain ⟨v3, ev3, h⟩ := hb_nm_of h
    refine ww_iinc 25 X (L' := [some (.ref (G.2.2.2 k)), some (.ref (G.2.2.2 r1)), some (.int v3)]) dX1_copyFrom_22 rfl rfl ev3.symm rfl ?_
    refine ww_goto 2 X dX1_copyFrom_25 (by decide) ?_
    obtain rfl := Option.some.inj h
    exact K
def ll_X1_copyFrom_2 (k : Nat) (r1 : Nat) : (Int32 × hb_Mem) → Option hb_Mem := hb_lp (fun s => lb_X1_copyFrom_2 k r1 s.1 s.2) hb_F
theorem lw_X1_copyFrom_2 {Γ : hb_Ctx} {G : hb_Gam} {Q : State → Prop} (X : hb_X Γ cX1_copyFrom 3 RX1 ΛC G 1 21)  (k : Nat) (hk : hb_is ΛC k 1) (r1 : Nat) (hr1 : hb_is ΛC r1 1) (s : (Int32 × hb_Mem)) (t : hb_Mem) (h : ll_X1_copyFrom_2 k r1 s = some t) (K : (fun t : hb_Mem => hb_W Γ ΛC G 3 Q t [none, none, none] [] 28) t) : hb_W Γ ΛC G 3 Q s.2 [some (.ref (G.2.2.2 k)), some (.ref (G.2.2.2 r1)), some (.int s.1)] [] 2 :=
  hb_lp_w (P := fun s : (Int32 × hb_Mem) => hb_W Γ ΛC G 3 Q s.2 [some (.ref (G.2.2.2 k)), some (.ref (G.2.2.2 r1)), some (.int s.1)] [] 2) (E := (fun t : hb_Mem => hb_W Γ ΛC G 3 Q t [none, none, none] [] 28)) (fun s x hx K => lk_X1_copyFrom_2 X k hk r1 hr1 s.1 s.2 hx K) _ s t h K
def fn_X1_copyFrom (k : Nat) (r1 : Nat) (σ : hb_Mem) : Option hb_Mem :=
(ll_X1_copyFrom_2 k r1 (0, σ)).bind fun t4 =>
some t4
set_option maxRecDepth 100000 in
set_option maxHeartbeats 4000000 in
theorem wk_X1_copyFrom {Γ : hb_Ctx} {G : hb_Gam} {Q : State → Prop} (X : hb_X Γ cX1_copyFrom 3 RX1 ΛC G 1 21) (hr : hb_ret Γ = none) (k : Nat) (hk : hb_is ΛC k 1) (r1 : Nat) (hr1 : hb_is ΛC r1 1) (σ : hb_Mem) {x : hb_Mem} (h : fn_X1_copyFrom k r1 σ = some x) (K : Q = hb_Q Γ ΛC G none x) : hb_W Γ ΛC G 3 Q σ [some (.ref (G.2.2.2 k)), some (.ref (G.2.2.2 r1)), none] [] 0 := by
  unfold fn_X1_copyFrom at h
  refine ww_iconst (v := 0) 1 X dX1_copyFrom_0 rfl (by decide) ?_
  refine ww_istore_n 2 X (L' := [some (.ref (G.2.2.2 k)), some (.ref (G.2.2.2 r1)), some (.int 0)]) dX1_copyFrom_1 rfl (Nat.le_of_ble_eq_true rfl) rfl rfl ?_
  obtain ⟨t4, ht4, h⟩ := hb_bind_of h
  refine lw_X1_copyFrom_2 X k hk r1 hr1 (0, σ) t4 ht4 ?_
  obtain rfl := Option.some.inj h
  exact ww_ret_v X hr K dX1_copyFrom_28
theorem ct_X1_copyFrom (l : Launch) (G : hb_Gam) (k : Nat) (hk : hb_is ΛC k 1) (r1 : Nat) (hr1 : hb_is ΛC r1 1) (σ : hb_Mem) {x : hb_Mem} (h : fn_X1_copyFrom k r1 σ = some x) : hb_C l yX1_copyFrom cX1_copyFrom 3 none 1 21 ΛC G [.ref (G.2.2.2 k), .ref (G.2.2.2 r1)] σ none x :=
  hb_C.of [some (.ref (G.2.2.2 k)), some (.ref (G.2.2.2 r1)), none] (by decide +kernel) (Nat.le_of_ble_eq_true rfl) (by intro v hv; simp only [List.mem_cons, List.not_mem_nil, or_false] at hv; rcases hv with rfl | rfl <;> rfl) rfl (hb_pad [.ref (G.2.2.2 k), .ref (G.2.2.2 r1)] 1) (fun Γ X hr => wk_X1_copyFrom X hr k hk r1 hr1 σ h rfl)
def fn_X2_copyFrom (k : Nat) (r1 : Nat) (σ : hb_Mem) : Option hb_Mem :=
hb_nm (hb_up σ k 0 (σ r1 0)) fun σ1 =>
(fn_X1_copyFrom (hc_rf k 1) (hc_rf r1 1) σ1).bind fun x2 =>
(fn_X1_copyFrom (hc_rf k 2) (hc_rf r1 2) x2).bind fun x3 =>
(fn_X1_copyFrom (hc_rf k 3) (hc_rf r1 3) x3).bind fun x4 =>
(fn_X1_copyFrom (hc_rf k 4) (hc_rf r1 4) x4).bind fun x5 =>
(fn_X1_copyFrom (hc_rf k 5) (hc_rf r1 5) x5).bind fun x6 =>
(fn_X1_copyFrom (hc_rf k 6) (hc_rf r1 6) x6).bind fun x7 =>
(fn_X1_copyFrom (hc_rf k 7) (hc_rf r1 7) x7).bind fun x8 =>
(fn_X1_copyFrom (hc_rf k 8) (hc_rf r1 8) x8).bind fun x9 =>
(fn_X1_copyFrom (hc_rf k 9) (hc_rf r1 9) x9).bind fun x10 =>
hb_nm (hb_up x10 k 10 (x10 r1 10)) fun σ11 =>
some σ11
set_option maxRecDepth 100000 in
set_option maxHeartbeats 4000000 in
theorem wk_X2_copyFrom {Γ : hb_Ctx} {G : hb_Gam} {Q : State → Prop} (X : hb_X Γ cX2_copyFrom 2 RX2 ΛC G 2 43) (hr : hb_ret Γ = none) (k : Nat) (hk : hb_is ΛC k 2) (r1 : Nat) (hr1 : hb_is ΛC r1 2) (σ : hb_Mem) {x : hb_Mem} (h : fn_X2_copyFrom k r1 σ = some x) (K : Q = hb_Q Γ ΛC G none x) : hb_W Γ ΛC G 2 Q σ [some (.ref (G.2.2.2 k)), some (.ref (G.2.2.2 r1))] [] 0 := by
  unfold fn_X2_copyFrom at h
  refine ww_aload_n 1 X dX2_copyFrom_0 rfl rfl ?_
  refine ww_aload_n 2 X dX2_copyFrom_1 rfl rfl ?_
  refine ww_geti (ci := 2) (j := 0) 5 X cf_2 tw_X2_9 (by decide) rfl hr1 dX2_copyFrom_2 rfl ?_
  obtain ⟨σ1, eσ1, h⟩ := hb_nm_of h
  refine ww_put (ci := 2) (j := 0) (ty := .int) 8 X cf_2 cg_2 tw_X2_9 (by decide) rfl rfl rfl rfl rfl hk eσ1.symm dX2_copyFrom_5 rfl ?_
  refine ww_aload_n 9 X dX2_copyFrom_8 rfl rfl ?_
  refine ww_getr (ci := 2) (j := 1) 12 X cf_2 tw_X2_20 (by decide) rfl hk dX2_copyFrom_9 rfl ?_
  refine ww_aload_n 13 X dX2_copyFrom_12 rfl rfl ?_
  refine ww_getr (ci := 2) (j := 1) 16 X cf_2 tw_X2_20 (by decide) rfl hr1 dX2_copyFrom_13 rfl ?_
  obtain ⟨x2, hx2, h⟩ := hb_bind_of h
  refine ww_callV (ci := 1) (rest := []) (st' := []) 19 X (ct_X1_copyFrom (hb_l Γ) G (hc_rf k 1) (hc_kr_2_1 hk) (hc_rf r1 1) (hc_kr_2_1 hr1) σ1 hx2) cw_X2_54 rfl (by decide) (hc_kr_2_1 hk) rfl ⟨by decide, by decide⟩ (Nat.le_of_ble_eq_true rfl) rfl rfl dX2_copyFrom_16 rfl ?_
  refine ww_aload_n 20 X dX2_copyFrom_19 rfl rfl ?_
  refine ww_getr (ci := 2) (j := 2) 23 X cf_2 tw_X2_24 (by decide) rfl hk dX2_copyFrom_20 rfl ?_
  refine ww_aload_n 24 X dX2_copyFrom_23 rfl rfl ?_
  refine ww_getr (ci := 2) (j := 2) 27 X cf_2 tw_X2_24 (by decide) rfl hr1 dX2_copyFrom_24 rfl ?_
  obtain ⟨x3, hx3, h⟩ := hb_bind_of h
  refine ww_callV (ci := 1) (rest := []) (st' := []) 30 X (ct_X1_copyFrom (hb_l Γ) G (hc_rf k 2) (hc_kr_2_2 hk) (hc_rf r1 2) (hc_kr_2_2 hr1) x2 hx3) cw_X2_54 rfl (by decide) (hc_kr_2_2 hk) rfl ⟨by decide, by decide⟩ (Nat.le_of_ble_eq_true rfl) rfl rfl dX2_copyFrom_27 rfl ?_
  refine ww_aload_n 31 X dX2_copyFrom_30 rfl rfl ?_
  refine ww_getr (ci := 2) (j := 3) 34 X cf_2 tw_X2_27 (by decide) rfl hk dX2_copyFrom_31 rfl ?_
  refine ww_aload_n 35 X dX2_copyFrom_34 rfl rfl ?_
  refine ww_getr (ci := 2) (j := 3) 38 X cf_2 tw_X2_27 (by decide) rfl hr1 dX2_copyFrom_35 rfl ?_
  obtain ⟨x4, hx4, h⟩ := hb_bind_of h
  refine ww_callV (ci := 1) (rest := []) (st' := []) 41 X (ct_X1_copyFrom (hb_l Γ) G (hc_rf k 3) (hc_kr_2_3 hk) (hc_rf r1 3) (hc_kr_2_3 hr1) x3 hx4) cw_X2_54 rfl (by decide) (hc_kr_2_3 hk) rfl ⟨by decide, by decide⟩ (Nat.le_of_ble_eq_true rfl) rfl rfl dX2_copyFrom_38 rfl ?_
  refine ww_aload_n 42 X dX2_copyFrom_41 rfl rfl ?_
  refine ww_getr (ci := 2) (j := 4) 45 X cf_2 tw_X2_30 (by decide) rfl hk dX2_copyFrom_42 rfl ?_
  refine ww_aload_n 46 X dX2_copyFrom_45 rfl rfl ?_
  refine ww_getr (ci := 2) (j := 4) 49 X cf_2 tw_X2_30 (by decide) rfl hr1 dX2_copyFrom_46 rfl ?_
  obtain ⟨x5, hx5, h⟩ := hb_bind_of h
  refine ww_callV (ci := 1) (rest := []) (st' := []) 52 X (ct_X1_copyFrom (hb_l Γ) G (hc_rf k 4) (hc_kr_2_4 hk) (hc_rf r1 4) (hc_kr_2_4 hr1) x4 hx5) cw_X2_54 rfl (by decide) (hc_kr_2_4 hk) rfl ⟨by decide, by decide⟩ (Nat.le_of_ble_eq_true rfl) rfl rfl dX2_copyFrom_49 rfl ?_
  refine ww_aload_n 53 X dX2_copyFrom_52 rfl rfl ?_
  refine ww_getr (ci := 2) (j := 5) 56 X cf_2 tw_X2_33 (by decide) rfl hk dX2_copyFrom_53 rfl ?_
  refine ww_aload_n 57 X dX2_copyFrom_56 rfl rfl ?_
  refine ww_getr (ci := 2) (j := 5) 60 X cf_2 tw_X2_33 (by decide) rfl hr1 dX2_copyFrom_57 rfl ?_
  obtain ⟨x6, hx6, h⟩ := hb_bind_of h
  refine ww_callV (ci := 1) (rest := []) (st' := []) 63 X (ct_X1_copyFrom (hb_l Γ) G (hc_rf k 5) (hc_kr_2_5 hk) (hc_rf r1 5) (hc_kr_2_5 hr1) x5 hx6) cw_X2_54 rfl (by decide) (hc_kr_2_5 hk) rfl ⟨by decide, by decide⟩ (Nat.le_of_ble_eq_true rfl) rfl rfl dX2_copyFrom_60 rfl ?_
  refine ww_aload_n 64 X dX2_copyFrom_63 rfl rfl ?_
  refine ww_getr (ci := 2) (j := 6) 67 X cf_2 tw_X2_36 (by decide) rfl hk dX2_copyFrom_64 rfl ?_
  refine ww_aload_n 68 X dX2_copyFrom_67 rfl rfl ?_
  refine ww_getr (ci := 2) (j := 6) 71 X cf_2 tw_X2_36 (by decide) rfl hr1 dX2_copyFrom_68 rfl ?_
  obtain ⟨x7, hx7, h⟩ := hb_bind_of h
  refine ww_callV (ci := 1) (rest := []) (st' := []) 74 X (ct_X1_copyFrom (hb_l Γ) G (hc_rf k 6) (hc_kr_2_6 hk) (hc_rf r1 6) (hc_kr_2_6 hr1) x6 hx7) cw_X2_54 rfl (by decide) (hc_kr_2_6 hk) rfl ⟨by decide, by decide⟩ (Nat.le_of_ble_eq_true rfl) rfl rfl dX2_copyFrom_71 rfl ?_
  refine ww_aload_n 75 X dX2_copyFrom_74 rfl rfl ?_
  refine ww_getr (ci := 2) (j := 7) 78 X cf_2 tw_X2_39 (by decide) rfl hk dX2_copyFrom_75 rfl ?_
  refine ww_aload_n 79 X dX2_copyFrom_78 rfl rfl ?_
  refine ww_getr (ci := 2) (j := 7) 82 X cf_2 tw_X2_39 (by decide) rfl hr1 dX2_copyFrom_79 rfl ?_
  obtain ⟨x8, hx8, h⟩ := hb_bind_of h
  refine ww_callV (ci := 1) (rest := []) (st' := []) 85 X (ct_X1_copyFrom (hb_l Γ) G (hc_rf k 7) (hc_kr_2_7 hk) (hc_rf r1 7) (hc_kr_2_7 hr1) x7 hx8) cw_X2_54 rfl (by decide) (hc_kr_2_7 hk) rfl ⟨by decide, by decide⟩ (Nat.le_of_ble_eq_true rfl) rfl rfl dX2_copyFrom_82 rfl ?_
  refine ww_aload_n 86 X dX2_copyFrom_85 rfl rfl ?_
  refine ww_getr (ci := 2) (j := 8) 89 X cf_2 tw_X2_42 (by decide) rfl hk dX2_copyFrom_86 rfl ?_
  refine ww_aload_n 90 X dX2_copyFrom_89 rfl rfl ?_
  refine ww_getr (ci := 2) (j := 8) 93 X cf_2 tw_X2_42 (by decide) rfl hr1 dX2_copyFrom_90 rfl ?_
  obtain ⟨x9, hx9, h⟩ := hb_bind_of h
  refine ww_callV (ci := 1) (rest := []) (st' := []) 96 X (ct_X1_copyFrom (hb_l Γ) G (hc_rf k 8) (hc_kr_2_8 hk) (hc_rf r1 8) (hc_kr_2_8 hr1) x8 hx9) cw_X2_54 rfl (by decide) (hc_kr_2_8 hk) rfl ⟨by decide, by decide⟩ (Nat.le_of_ble_eq_true rfl) rfl rfl dX2_copyFrom_93 rfl ?_
  refine ww_aload_n 97 X dX2_copyFrom_96 rfl rfl ?_
  refine ww_getr (ci := 2) (j := 9) 100 X cf_2 tw_X2_48 (by decide) rfl hk dX2_copyFrom_97 rfl ?_
  refine ww_aload_n 101 X dX2_copyFrom_100 rfl rfl ?_
  refine ww_getr (ci := 2) (j := 9) 104 X cf_2 tw_X2_48 (by decide) rfl hr1 dX2_copyFrom_101 rfl ?_
  obtain ⟨x10, hx10, h⟩ := hb_bind_of h
  refine ww_callV (ci := 1) (rest := []) (st' := []) 107 X (ct_X1_copyFrom (hb_l Γ) G (hc_rf k 9) (hc_kr_2_9 hk) (hc_rf r1 9) (hc_kr_2_9 hr1) x9 hx10) cw_X2_54 rfl (by decide) (hc_kr_2_9 hk) rfl ⟨by decide, by decide⟩ (Nat.le_of_ble_eq_true rfl) rfl rfl dX2_copyFrom_104 rfl ?_
  refine ww_aload_n 108 X dX2_copyFrom_107 rfl rfl ?_
  refine ww_aload_n 109 X dX2_copyFrom_108 rfl rfl ?_
  refine ww_geti (ci := 2) (j := 10) 112 X cf_2 tw_X2_51 (by decide) rfl hr1 dX2_copyFrom_109 rfl ?_
  obtain ⟨σ11, eσ11, h⟩ := hb_nm_of h
  refine ww_put (ci := 2) (j := 10) (ty := .int) 115 X cf_2 cg_2 tw_X2_51 (by decide) rfl rfl rfl rfl rfl hk eσ11.symm dX2_copyFrom_112 rfl ?_
  obtain rfl := Option.some.inj h
  exact ww_ret_v X hr K dX2_copyFrom_115
theorem ct_X2_copyFrom (l : Launch) (G : hb_Gam) (k : Nat) (hk : hb_is ΛC k 2) (r1 : Nat) (hr1 : hb_is ΛC r1 2) (σ : hb_Mem) {x : hb_Mem} (h : fn_X2_copyFrom k r1 σ = some x) : hb_C l yX2_copyFrom cX2_copyFrom 2 none 2 43 ΛC G [.ref (G.2.2.2 k), .ref (G.2.2.2 r1)] σ none x :=
  hb_C.of [some (.ref (G.2.2.2 k)), some (.ref (G.2.2.2 r1))] (by decide +kernel) (Nat.le_of_ble_eq_true rfl) (by intro v hv; simp only [List.mem_cons, List.not_mem_nil, or_false] at hv; rcases hv with rfl | rfl <;> rfl) rfl (hb_pad [.ref (G.2.2.2 k), .ref (G.2.2.2 r1)] 0) (fun Γ X hr => wk_X2_copyFrom X hr k hk r1 hr1 σ h rfl)
def jn_X0_push_61 (k : Nat) (r1 : Nat) (s1 : Int32) (σ : hb_Mem) : Option hb_Mem :=
hb_nm (hb_up σ k 2 s1) fun σ5 =>
some σ5
set_option maxRecDepth 100000 in
set_option maxHeartbeats 4000000 in
theorem jw_X0_push_61 {Γ : hb_Ctx} {G : hb_Gam} {Q : State → Prop} (X : hb_X Γ cX0_push 3 RX0 ΛC G 3 64) (hr : hb_ret Γ = none) (k : Nat) (hk : hb_is ΛC k 0) (r1 : Nat) (hr1 : hb_is ΛC r1 2) (s1 : Int32) (σ : hb_Mem) {x : hb_Mem} (h : jn_X0_push_61 k r1 s1 σ = some x) (K : Q = hb_Q Γ ΛC G none x) : hb_W Γ ΛC G 3 Q σ [none, none, none] [.int s1, .ref (G.2.2.2 k)] 61 := by
  unfold jn_X0_push_61 at h
  obtain ⟨σ5, eσ5, h⟩ := hb_nm_of h
  refine ww_put (ci := 0) (j := 2) (ty := .int) 64 X cf_0 cg_0 tw_X0_22 (by decide) rfl rfl rfl rfl rfl hk eσ5.symm dX0_push_61 rfl ?_
  obtain rfl := Option.some.inj h
  exact ww_ret_v X hr K dX0_push_64
def jn_X0_push_39 (k : Nat) (r1 : Nat) (s1 : Int32) (σ : hb_Mem) : Option hb_Mem :=
hb_nm (hb_up σ k 1 s1) fun σ4 =>
if 4 ≤ (σ4 k 2) then (
jn_X0_push_61 k r1 4 σ4)
else (
jn_X0_push_61 k r1 ((σ4 k 2) + 1) σ4)
set_option maxRecDepth 100000 in
set_option maxHeartbeats 4000000 in
theorem jw_X0_push_39 {Γ : hb_Ctx} {G : hb_Gam} {Q : State → Prop} (X : hb_X Γ cX0_push 3 RX0 ΛC G 3 64) (hr : hb_ret Γ = none) (k : Nat) (hk : hb_is ΛC k 0) (r1 : Nat) (hr1 : hb_is ΛC r1 2) (s1 : Int32) (σ : hb_Mem) {x : hb_Mem} (h : jn_X0_push_39 k r1 s1 σ = some x) (K : Q = hb_Q Γ ΛC G none x) : hb_W Γ ΛC G 3 Q σ [some (.ref (G.2.2.2 k)), none, none] [.int s1, .ref (G.2.2.2 k)] 39 := by
  unfold jn_X0_push_39 at h
  obtain ⟨σ4, eσ4, h⟩ := hb_nm_of h
  refine ww_put (ci := 0) (j := 1) (ty := .int) 42 X cf_0 cg_0 tw_X0_18 (by decide) rfl rfl rfl rfl rfl hk eσ4.symm dX0_push_39 rfl ?_
  refine ww_aload_n 43 X dX0_push_42 rfl rfl ?_
  refine ww_aload_n 44 X dX0_push_43 rfl rfl ?_
  refine ww_geti (ci := 0) (j := 2) 47 X cf_0 tw_X0_22 (by decide) rfl hk dX0_push_44 rfl ?_
  refine ww_iconst (v := 4) 48 X dX0_push_47 rfl (by decide) ?_
  refine ww_icmp_ge 60 51 X dX0_push_48 (by decide) rfl h (fun h => ?_) (fun h => ?_)
  · skip
    refine ww_iconst (v := 4) 61 X dX0_push_60 rfl (by decide) ?_
    refine ww_kill [0] (L' := [none, none, none]) rfl ?_
    exact jw_X0_push_61 X hr k hk r1 hr1 4 σ4 h K
  · skip
    refine ww_aload_n 52 X dX0_push_51 rfl rfl ?_
    refine ww_geti (ci := 0) (j := 2) 55 X cf_0 tw_X0_22 (by decide) rfl hk dX0_push_52 rfl ?_
    refine ww_iconst (v := 1) 56 X dX0_push_55 rfl (by decide) ?_
    refine ww_iadd 57 X dX0_push_56 rfl ?_
    refine ww_goto 61 X dX0_push_57 (by decide) ?_
    refine ww_kill [0] (L' := [none, none, none]) rfl ?_
    exact jw_X0_push_61 X hr k hk r1 hr1 ((σ4 k 2) + 1) σ4 h K
def jn_X0_push_18 (k : Nat) (r1 : Nat) (σ : hb_Mem) : Option hb_Mem :=
if 4 ≤ ((σ k 1) + 1) then (
jn_X0_push_39 k r1 0 σ)
else (
jn_X0_push_39 k r1 ((σ k 1) + 1) σ)
set_option maxRecDepth 100000 in
set_option maxHeartbeats 4000000 in
theorem jw_X0_push_18 {Γ : hb_Ctx} {G : hb_Gam} {Q : State → Prop} (X : hb_X Γ cX0_push 3 RX0 ΛC G 3 64) (hr : hb_ret Γ = none) (k : Nat) (hk : hb_is ΛC k 0) (r1 : Nat) (hr1 : hb_is ΛC r1 2) (σ : hb_Mem) {x : hb_Mem} (h : jn_X0_push_18 k r1 σ = some x) (K : Q = hb_Q Γ ΛC G none x) : hb_W Γ ΛC G 3 Q σ [some (.ref (G.2.2.2 k)), none, none] [] 18 := by
  unfold jn_X0_push_18 at h
  refine ww_aload_n 19 X dX0_push_18 rfl rfl ?_
  refine ww_aload_n 20 X dX0_push_19 rfl rfl ?_
  refine ww_geti (ci := 0) (j := 1) 23 X cf_0 tw_X0_18 (by decide) rfl hk dX0_push_20 rfl ?_
  refine ww_iconst (v := 1) 24 X dX0_push_23 rfl (by decide) ?_
  refine ww_iadd 25 X dX0_push_24 rfl ?_
  refine ww_iconst (v := 4) 26 X dX0_push_25 rfl (by decide) ?_
  refine ww_icmp_ge 38 29 X dX0_push_26 (by decide) rfl h (fun h => ?_) (fun h => ?_)
  · skip
    refine ww_iconst (v := 0) 39 X dX0_push_38 rfl (by decide) ?_
    exact jw_X0_push_39 X hr k hk r1 hr1 0 σ h K
  · skip
    refine ww_aload_n 30 X dX0_push_29 rfl rfl ?_
    refine ww_geti (ci := 0) (j := 1) 33 X cf_0 tw_X0_18 (by decide) rfl hk dX0_push_30 rfl ?_
    refine ww_iconst (v := 1) 34 X dX0_push_33 rfl (by decide) ?_
    refine ww_iadd 35 X dX0_push_34 rfl ?_
    refine ww_goto 39 X dX0_push_35 (by decide) ?_
    exact jw_X0_push_39 X hr k hk r1 hr1 ((σ k 1) + 1) σ h K
def fn_X0_push (k : Nat) (r1 : Nat) (σ : hb_Mem) : Option hb_Mem :=
(fn_X0_stateAt k (σ k 1) σ).bind fun x1 =>
x1.bind fun b2 =>
(fn_X2_copyFrom b2 r1 σ).bind fun x3 =>
jn_X0_push_18 k r1 x3
set_option maxRecDepth 100000 in
set_option maxHeartbeats 4000000 in
theorem wk_X0_push {Γ : hb_Ctx} {G : hb_Gam} {Q : State → Prop} (X : hb_X Γ cX0_push 3 RX0 ΛC G 3 64) (hr : hb_ret Γ = none) (k : Nat) (hk : hb_is ΛC k 0) (r1 : Nat) (hr1 : hb_is ΛC r1 2) (σ : hb_Mem) {x : hb_Mem} (h : fn_X0_push k r1 σ = some x) (K : Q = hb_Q Γ ΛC G none x) : hb_W Γ ΛC G 3 Q σ [some (.ref (G.2.2.2 k)), some (.ref (G.2.2.2 r1)), none] [] 0 := by
  unfold fn_X0_push at h
  refine ww_aload_n 1 X dX0_push_0 rfl rfl ?_
  refine ww_aload_n 2 X dX0_push_1 rfl rfl ?_
  refine ww_geti (ci := 0) (j := 1) 5 X cf_0 tw_X0_18 (by decide) rfl hk dX0_push_2 rfl ?_
  obtain ⟨x1, hx1, h⟩ := hb_bind_of h
  obtain ⟨b2, eb2, h⟩ := hb_bind_of h
  replace hx1 := hx1.trans (congrArg some eb2)
  refine ww_callV (ci := 0) (rest := []) (st' := [.ref (G.2.2.2 b2)]) 8 X (ct_X0_stateAt (hb_l Γ) G k hk (σ k 1) σ hx1) cw_X0_25 rfl (by decide) hk rfl ⟨by decide, by decide⟩ (Nat.le_of_ble_eq_true rfl) rfl rfl dX0_push_5 rfl ?_
  refine ww_astore_n 9 X (L' := [some (.ref (G.2.2.2 k)), some (.ref (G.2.2.2 r1)), some (.ref (G.2.2.2 b2))]) dX0_push_8 rfl (Nat.le_of_ble_eq_true rfl) rfl rfl ?_
  refine ww_aload_n 10 X dX0_push_9 rfl rfl ?_
  refine ww_ifnull_r 13 X dX0_push_10 rfl ?_
  refine ww_aload_n 14 X dX0_push_13 rfl rfl ?_
  refine ww_aload_n 15 X dX0_push_14 rfl rfl ?_
  obtain ⟨x3, hx3, h⟩ := hb_bind_of h
  refine ww_callV (ci := 2) (rest := []) (st' := []) 18 X (ct_X2_copyFrom (hb_l Γ) G b2 (hc_stateAt_kind hk hx1) r1 hr1 σ hx3) cw_X0_29 rfl (by decide) (hc_stateAt_kind hk hx1) rfl ⟨by decide, by decide⟩ (Nat.le_of_ble_eq_true rfl) rfl rfl dX0_push_15 rfl ?_
  refine ww_kill [1, 2] (L' := [some (.ref (G.2.2.2 k)), none, none]) rfl ?_
  exact jw_X0_push_18 X hr k hk r1 hr1 x3 h K
theorem ct_X0_push (l : Launch) (G : hb_Gam) (k : Nat) (hk : hb_is ΛC k 0) (r1 : Nat) (hr1 : hb_is ΛC r1 2) (σ : hb_Mem) {x : hb_Mem} (h : fn_X0_push k r1 σ = some x) : hb_C l yX0_push cX0_push 3 none 3 64 ΛC G [.ref (G.2.2.2 k), .ref (G.2.2.2 r1)] σ none x :=
  hb_C.of [some (.ref (G.2.2.2 k)), some (.ref (G.2.2.2 r1)), none] (by decide +kernel) (Nat.le_of_ble_eq_true rfl) (by intro v hv; simp only [List.mem_cons, List.not_mem_nil, or_false] at hv; rcases hv with rfl | rfl <;> rfl) rfl (hb_pad [.ref (G.2.2.2 k), .ref (G.2.2.2 r1)] 1) (fun Γ X hr => wk_X0_push X hr k hk r1 hr1 σ h rfl)
def jn_X0_pop_18 (k : Nat) (r1 : Nat) (s1 : Int32) (σ : hb_Mem) : Option hb_Mem :=
hb_nm (hb_up σ k 1 s1) fun σ1 =>
hb_nm (hb_up σ1 k 2 ((σ1 k 2) - 1)) fun σ2 =>
(fn_X0_stateAt k (σ2 k 1) σ2).bind fun x3 =>
x3.bind fun b4 =>
(fn_X2_copyFrom r1 b4 σ2).bind fun x5 =>
some x5
set_option maxRecDepth 100000 in
set_option maxHeartbeats 4000000 in
theorem jw_X0_pop_18 {Γ : hb_Ctx} {G : hb_Gam} {Q : State → Prop} (X : hb_X Γ cX0_pop 3 RX0 ΛC G 3 64) (hr : hb_ret Γ = none) (k : Nat) (hk : hb_is ΛC k 0) (r1 : Nat) (hr1 : hb_is ΛC r1 2) (s1 : Int32) (σ : hb_Mem) {x : hb_Mem} (h : jn_X0_pop_18 k r1 s1 σ = some x) (K : Q = hb_Q Γ ΛC G none x) : hb_W Γ ΛC G 3 Q σ [some (.ref (G.2.2.2 k)), some (.ref (G.2.2.2 r1)), none] [.int s1, .ref (G.2.2.2 k)] 18 := by
  unfold jn_X0_pop_18 at h
  obtain ⟨σ1, eσ1, h⟩ := hb_nm_of h
  refine ww_put (ci := 0) (j := 1) (ty := .int) 21 X cf_0 cg_0 tw_X0_18 (by decide) rfl rfl rfl rfl rfl hk eσ1.symm dX0_pop_18 rfl ?_
  refine ww_aload_n 22 X dX0_pop_21 rfl rfl ?_
  refine ww_aload_n 23 X dX0_pop_22 rfl rfl ?_
  refine ww_geti (ci := 0) (j := 2) 26 X cf_0 tw_X0_22 (by decide) rfl hk dX0_pop_23 rfl ?_
  refine ww_iconst (v := 1) 27 X dX0_pop_26 rfl (by decide) ?_
  refine ww_isub 28 X dX0_pop_27 rfl ?_
  obtain ⟨σ2, eσ2, h⟩ := hb_nm_of h
  refine ww_put (ci := 0) (j := 2) (ty := .int) 31 X cf_0 cg_0 tw_X0_22 (by decide) rfl rfl rfl rfl rfl hk eσ2.symm dX0_pop_28 rfl ?_
  refine ww_aload_n 32 X dX0_pop_31 rfl rfl ?_
  refine ww_aload_n 33 X dX0_pop_32 rfl rfl ?_
  refine ww_geti (ci := 0) (j := 1) 36 X cf_0 tw_X0_18 (by decide) rfl hk dX0_pop_33 rfl ?_
  obtain ⟨x3, hx3, h⟩ := hb_bind_of h
  obtain ⟨b4, eb4, h⟩ := hb_bind_of h
  replace hx3 := hx3.trans (congrArg some eb4)
  refine ww_callV (ci := 0) (rest := []) (st' := [.ref (G.2.2.2 b4)]) 39 X (ct_X0_stateAt (hb_l Γ) G k hk (σ2 k 1) σ2 hx3) cw_X0_25 rfl (by decide) hk rfl ⟨by decide, by decide⟩ (Nat.le_of_ble_eq_true rfl) rfl rfl dX0_pop_36 rfl ?_
  refine ww_astore_n 40 X (L' := [some (.ref (G.2.2.2 k)), some (.ref (G.2.2.2 r1)), some (.ref (G.2.2.2 b4))]) dX0_pop_39 rfl (Nat.le_of_ble_eq_true rfl) rfl rfl ?_
  refine ww_aload_n 41 X dX0_pop_40 rfl rfl ?_
  refine ww_ifnull_r 44 X dX0_pop_41 rfl ?_
  refine ww_aload_n 45 X dX0_pop_44 rfl rfl ?_
  refine ww_aload_n 46 X dX0_pop_45 rfl rfl ?_
  obtain ⟨x5, hx5, h⟩ := hb_bind_of h
  refine ww_callV (ci := 2) (rest := []) (st' := []) 49 X (ct_X2_copyFrom (hb_l Γ) G r1 hr1 b4 (hc_stateAt_kind hk hx3) σ2 hx5) cw_X0_29 rfl (by decide) hr1 rfl ⟨by decide, by decide⟩ (Nat.le_of_ble_eq_true rfl) rfl rfl dX0_pop_46 rfl ?_
  obtain rfl := Option.some.inj h
  exact ww_ret_v X hr K dX0_pop_49
def fn_X0_pop (k : Nat) (r1 : Nat) (σ : hb_Mem) : Option hb_Mem :=
if (σ k 1) ≤ 0 then (
jn_X0_pop_18 k r1 3 σ)
else (
jn_X0_pop_18 k r1 ((σ k 1) - 1) σ)
set_option maxRecDepth 100000 in
set_option maxHeartbeats 4000000 in
theorem wk_X0_pop {Γ : hb_Ctx} {G : hb_Gam} {Q : State → Prop} (X : hb_X Γ cX0_pop 3 RX0 ΛC G 3 64) (hr : hb_ret Γ = none) (k : Nat) (hk : hb_is ΛC k 0) (r1 : Nat) (hr1 : hb_is ΛC r1 2) (σ : hb_Mem) {x : hb_Mem} (h : fn_X0_pop k r1 σ = some x) (K : Q = hb_Q Γ ΛC G none x) : hb_W Γ ΛC G 3 Q σ [some (.ref (G.2.2.2 k)), some (.ref (G.2.2.2 r1)), none] [] 0 := by
  unfold fn_X0_pop at h
  refine ww_aload_n 1 X dX0_pop_0 rfl rfl ?_
  refine ww_aload_n 2 X dX0_pop_1 rfl rfl ?_
  refine ww_geti (ci := 0) (j := 1) 5 X cf_0 tw_X0_18 (by decide) rfl hk dX0_pop_2 rfl ?_
  refine ww_if_le 17 8 X dX0_pop_5 (by decide) rfl h (fun h => ?_) (fun h => ?_)
  · skip
    refine ww_iconst (v := 3) 18 X dX0_pop_17 rfl (by decide) ?_
    exact jw_X0_pop_18 X hr k hk r1 hr1 3 σ h K
  · skip
    refine ww_aload_n 9 X dX0_pop_8 rfl rfl ?_
    refine ww_geti (ci := 0) (j := 1) 12 X cf_0 tw_X0_18 (by decide) rfl hk dX0_pop_9 rfl ?_
    refine ww_iconst (v := 1) 13 X dX0_pop_12 rfl (by decide) ?_
    refine ww_isub 14 X dX0_pop_13 rfl ?_
    refine ww_goto 18 X dX0_pop_14 (by decide) ?_
    exact jw_X0_pop_18 X hr k hk r1 hr1 ((σ k 1) - 1) σ h K
theorem ct_X0_pop (l : Launch) (G : hb_Gam) (k : Nat) (hk : hb_is ΛC k 0) (r1 : Nat) (hr1 : hb_is ΛC r1 2) (σ : hb_Mem) {x : hb_Mem} (h : fn_X0_pop k r1 σ = some x) : hb_C l yX0_pop cX0_pop 3 none 3 64 ΛC G [.ref (G.2.2.2 k), .ref (G.2.2.2 r1)] σ none x :=
  hb_C.of [some (.ref (G.2.2.2 k)), some (.ref (G.2.2.2 r1)), none] (by decide +kernel) (Nat.le_of_ble_eq_true rfl) (by intro v hv; simp only [List.mem_cons, List.not_mem_nil, or_false] at hv; rcases hv with rfl | rfl <;> rfl) rfl (hb_pad [.ref (G.2.2.2 k), .ref (G.2.2.2 r1)] 1) (fun Γ X hr => wk_X0_pop X hr k hk r1 hr1 σ h rfl)
def fn_X1_put (k : Nat) (p1 : Int32) (p2 : Int32) (σ : hb_Mem) : Option hb_Mem :=
if p1 < 0 then (
some σ)
else (
if (Int32.ofNat (hc_ln (hc_rf k 0))) ≤ p1 then (
some σ)
else (
(hb_st ΛC σ (hc_rf k 0) p1 p2).bind fun σ1 =>
some σ1))
set_option maxRecDepth 100000 in
set_option maxHeartbeats 4000000 in
theorem wk_X1_put {Γ : hb_Ctx} {G : hb_Gam} {Q : State → Prop} (X : hb_X Γ cX1_put 3 RX1 ΛC G 0 0) (hr : hb_ret Γ = none) (k : Nat) (hk : hb_is ΛC k 1) (p1 : Int32) (p2 : Int32) (σ : hb_Mem) {x : hb_Mem} (h : fn_X1_put k p1 p2 σ = some x) (K : Q = hb_Q Γ ΛC G none x) : hb_W Γ ΛC G 3 Q σ [some (.ref (G.2.2.2 k)), some (.int p1), some (.int p2)] [] 0 := by
  unfold fn_X1_put at h
  refine ww_iload_n 1 X dX1_put_0 rfl rfl ?_
  refine ww_if_lt 20 4 X dX1_put_1 (by decide) rfl h (fun h => ?_) (fun h => ?_)
  · skip
    obtain rfl := Option.some.inj h
    exact ww_ret_v X hr K dX1_put_20
  · skip
    refine ww_iload_n 5 X dX1_put_4 rfl rfl ?_
    refine ww_aload_n 6 X dX1_put_5 rfl rfl ?_
    refine ww_getr (ci := 1) (j := 0) 9 X cf_1 tw_X1_7 (by decide) rfl hk dX1_put_6 rfl ?_
    refine ww_alen 10 X (hc_kr_1_0 hk) rfl dX1_put_9 rfl ?_
    refine ww_icmp_ge 20 13 X dX1_put_10 (by decide) rfl h (fun h => ?_) (fun h => ?_)
    · skip
      obtain rfl := Option.some.inj h
      exact ww_ret_v X hr K dX1_put_20
    · skip
      refine ww_aload_n 14 X dX1_put_13 rfl rfl ?_
      refine ww_getr (ci := 1) (j := 0) 17 X cf_1 tw_X1_7 (by decide) rfl hk dX1_put_14 rfl ?_
      refine ww_iload_n 18 X dX1_put_17 rfl rfl ?_
      refine ww_iload_n 19 X dX1_put_18 rfl rfl ?_
      obtain ⟨σ1, hσ1, h⟩ := hb_bind_of h
      refine ww_iast 20 X (hc_kr_1_0 hk) hσ1 dX1_put_19 rfl ?_
      obtain rfl := Option.some.inj h
      exact ww_ret_v X hr K dX1_put_20
theorem ct_X1_put (l : Launch) (G : hb_Gam) (k : Nat) (hk : hb_is ΛC k 1) (p1 : Int32) (p2 : Int32) (σ : hb_Mem) {x : hb_Mem} (h : fn_X1_put k p1 p2 σ = some x) : hb_C l yX1_put cX1_put 3 none 0 0 ΛC G [.ref (G.2.2.2 k), .int p1, .int p2] σ none x :=
  hb_C.of [some (.ref (G.2.2.2 k)), some (.int p1), some (.int p2)] (by decide +kernel) (Nat.le_of_ble_eq_true rfl) (by intro v hv; simp only [List.mem_cons, List.not_mem_nil, or_false] at hv; rcases hv with rfl | rfl | rfl <;> rfl) rfl (hb_pad [.ref (G.2.2.2 k), .int p1, .int p2] 0) (fun Γ X hr => wk_X1_put X hr k hk p1 p2 σ h rfl)
def fn_X1_swap (k : Nat) (p1 : Int32) (p2 : Int32) (σ : hb_Mem) : Option hb_Mem :=
(fn_X1_at k p1 σ).bind fun x1 =>
(fn_X1_at k p2 σ).bind fun x2 =>
(fn_X1_put k p1 x2 σ).bind fun x3 =>
(fn_X1_put k p2 x1 x3).bind fun x4 =>
some x4
set_option maxRecDepth 100000 in
set_option maxHeartbeats 4000000 in
theorem wk_X1_swap {Γ : hb_Ctx} {G : hb_Gam} {Q : State → Prop} (X : hb_X Γ cX1_swap 4 RX1 ΛC G 1 22) (hr : hb_ret Γ = none) (k : Nat) (hk : hb_is ΛC k 1) (p1 : Int32) (p2 : Int32) (σ : hb_Mem) {x : hb_Mem} (h : fn_X1_swap k p1 p2 σ = some x) (K : Q = hb_Q Γ ΛC G none x) : hb_W Γ ΛC G 4 Q σ [some (.ref (G.2.2.2 k)), some (.int p1), some (.int p2), none] [] 0 := by
  unfold fn_X1_swap at h
  refine ww_aload_n 1 X dX1_swap_0 rfl rfl ?_
  refine ww_iload_n 2 X dX1_swap_1 rfl rfl ?_
  obtain ⟨x1, hx1, h⟩ := hb_bind_of h
  refine ww_callV (ci := 1) (rest := []) (st' := [.int x1]) 5 X (ct_X1_at (hb_l Γ) G k hk p1 σ hx1) cw_X1_13 rfl (by decide) hk rfl ⟨by decide, by decide⟩ (Nat.le_of_ble_eq_true rfl) rfl rfl dX1_swap_2 rfl ?_
  refine ww_istore_n 6 X (L' := [some (.ref (G.2.2.2 k)), some (.int p1), some (.int p2), some (.int x1)]) dX1_swap_5 rfl (Nat.le_of_ble_eq_true rfl) rfl rfl ?_
  refine ww_aload_n 7 X dX1_swap_6 rfl rfl ?_
  refine ww_iload_n 8 X dX1_swap_7 rfl rfl ?_
  refine ww_aload_n 9 X dX1_swap_8 rfl rfl ?_
  refine ww_iload_n 10 X dX1_swap_9 rfl rfl ?_
  obtain ⟨x2, hx2, h⟩ := hb_bind_of h
  refine ww_callV (ci := 1) (rest := [.int p1, .ref (G.2.2.2 k)]) (st' := [.int x2, .int p1, .ref (G.2.2.2 k)]) 13 X (ct_X1_at (hb_l Γ) G k hk p2 σ hx2) cw_X1_13 rfl (by decide) hk rfl ⟨by decide, by decide⟩ (Nat.le_of_ble_eq_true rfl) rfl rfl dX1_swap_10 rfl ?_
  obtain ⟨x3, hx3, h⟩ := hb_bind_of h
  refine ww_callV (ci := 1) (rest := []) (st' := []) 16 X (ct_X1_put (hb_l Γ) G k hk p1 x2 σ hx3) cw_X1_17 rfl (by decide) hk rfl ⟨by decide, by decide⟩ (Nat.le_of_ble_eq_true rfl) rfl rfl dX1_swap_13 rfl ?_
  refine ww_aload_n 17 X dX1_swap_16 rfl rfl ?_
  refine ww_iload_n 18 X dX1_swap_17 rfl rfl ?_
  refine ww_iload_n 19 X dX1_swap_18 rfl rfl ?_
  obtain ⟨x4, hx4, h⟩ := hb_bind_of h
  refine ww_callV (ci := 1) (rest := []) (st' := []) 22 X (ct_X1_put (hb_l Γ) G k hk p2 x1 x3 hx4) cw_X1_17 rfl (by decide) hk rfl ⟨by decide, by decide⟩ (Nat.le_of_ble_eq_true rfl) rfl rfl dX1_swap_19 rfl ?_
  obtain rfl := Option.some.inj h
  exact ww_ret_v X hr K dX1_swap_22
theorem ct_X1_swap (l : Launch) (G : hb_Gam) (k : Nat) (hk : hb_is ΛC k 1) (p1 : Int32) (p2 : Int32) (σ : hb_Mem) {x : hb_Mem} (h : fn_X1_swap k p1 p2 σ = some x) : hb_C l yX1_swap cX1_swap 4 none 1 22 ΛC G [.ref (G.2.2.2 k), .int p1, .int p2] σ none x :=
  hb_C.of [some (.ref (G.2.2.2 k)), some (.int p1), some (.int p2), none] (by decide +kernel) (Nat.le_of_ble_eq_true rfl) (by intro v hv; simp only [List.mem_cons, List.not_mem_nil, or_false] at hv; rcases hv with rfl | rfl | rfl <;> rfl) rfl (hb_pad [.ref (G.2.2.2 k), .int p1, .int p2] 1) (fun Γ X hr => wk_X1_swap X hr k hk p1 p2 σ h rfl)
def fn_X2_hasPage (k : Nat) (p1 : Int32) (σ : hb_Mem) : Option Int32 :=
if p1 < 0 then (
some 0)
else (
if (σ k 0) ≤ p1 then (
some 0)
else (
some 1))
set_option maxRecDepth 100000 in
set_option maxHeartbeats 4000000 in
theorem wk_X2_hasPage {Γ : hb_Ctx} {G : hb_Gam} {Q : State → Prop} (X : hb_X Γ cX2_hasPage 2 RX2 ΛC G 0 0) (hr : hb_ret Γ = (some .boolean)) (k : Nat) (hk : hb_is ΛC k 2) (p1 : Int32) (σ : hb_Mem) {x : Int32} (h : fn_X2_hasPage k p1 σ = some x) (K : Q = hb_Q Γ ΛC G (some (.int x)) σ) : hb_W Γ ΛC G 2 Q σ [some (.ref (G.2.2.2 k)), some (.int p1)] [] 0 := by
  unfold fn_X2_hasPage at h
  refine ww_iload_n 1 X dX2_hasPage_0 rfl rfl ?_
  refine ww_if_lt 16 4 X dX2_hasPage_1 (by decide) rfl h (fun h => ?_) (fun h => ?_)
  · skip
    refine ww_iconst (v := 0) 17 X dX2_hasPage_16 rfl (by decide) ?_
    obtain rfl := Option.some.inj h
    exact ww_ret_z X hr (by decide) K dX2_hasPage_17
  · skip
    refine ww_iload_n 5 X dX2_hasPage_4 rfl rfl ?_
    refine ww_aload_n 6 X dX2_hasPage_5 rfl rfl ?_
    refine ww_geti (ci := 2) (j := 0) 9 X cf_2 tw_X2_9 (by decide) rfl hk dX2_hasPage_6 rfl ?_
    refine ww_icmp_ge 16 12 X dX2_hasPage_9 (by decide) rfl h (fun h => ?_) (fun h => ?_)
    · skip
      refine ww_iconst (v := 0) 17 X dX2_hasPage_16 rfl (by decide) ?_
      obtain rfl := Option.some.inj h
      exact ww_ret_z X hr (by decide) K dX2_hasPage_17
    · skip
      refine ww_iconst (v := 1) 13 X dX2_hasPage_12 rfl (by decide) ?_
      refine ww_goto 17 X dX2_hasPage_13 (by decide) ?_
      obtain rfl := Option.some.inj h
      exact ww_ret_z X hr (by decide) K dX2_hasPage_17
theorem ct_X2_hasPage (l : Launch) (G : hb_Gam) (k : Nat) (hk : hb_is ΛC k 2) (p1 : Int32) (σ : hb_Mem) {x : Int32} (h : fn_X2_hasPage k p1 σ = some x) : hb_C l yX2_hasPage cX2_hasPage 2 (some .boolean) 0 0 ΛC G [.ref (G.2.2.2 k), .int p1] σ (some (.int x)) σ :=
  hb_C.of [some (.ref (G.2.2.2 k)), some (.int p1)] (by decide +kernel) (Nat.le_of_ble_eq_true rfl) (by intro v hv; simp only [List.mem_cons, List.not_mem_nil, or_false] at hv; rcases hv with rfl | rfl <;> rfl) rfl (hb_pad [.ref (G.2.2.2 k), .int p1] 0) (fun Γ X hr => wk_X2_hasPage X hr k hk p1 σ h rfl)
def fn_X2_hasChoice (k : Nat) (p1 : Int32) (p2 : Int32) (σ : hb_Mem) : Option Int32 :=
(fn_X2_hasPage k p1 σ).bind fun x1 =>
if x1 = 0 then (
some 0)
else (
if p2 < 0 then (
some 0)
else (
(fn_X1_at (hc_rf k 4) p1 σ).bind fun x2 =>
if x2 ≤ p2 then (
some 0)
else (
some 1)))
set_option maxRecDepth 100000 in
set_option maxHeartbeats 4000000 in
theorem wk_X2_hasChoice {Γ : hb_Ctx} {G : hb_Gam} {Q : State → Prop} (X : hb_X Γ cX2_hasChoice 3 RX2 ΛC G 1 21) (hr : hb_ret Γ = (some .boolean)) (k : Nat) (hk : hb_is ΛC k 2) (p1 : Int32) (p2 : Int32) (σ : hb_Mem) {x : Int32} (h : fn_X2_hasChoice k p1 p2 σ = some x) (K : Q = hb_Q Γ ΛC G (some (.int x)) σ) : hb_W Γ ΛC G 3 Q σ [some (.ref (G.2.2.2 k)), some (.int p1), some (.int p2)] [] 0 := by
  unfold fn_X2_hasChoice at h
  refine ww_aload_n 1 X dX2_hasChoice_0 rfl rfl ?_
  refine ww_iload_n 2 X dX2_hasChoice_1 rfl rfl ?_
  obtain ⟨x1, hx1, h⟩ := hb_bind_of h
  refine ww_callV (ci := 2) (rest := []) (st' := [.int x1]) 5 X (ct_X2_hasPage (hb_l Γ) G k hk p1 σ hx1) cw_X2_58 rfl (by decide) hk rfl ⟨by decide, by decide⟩ (Nat.le_of_ble_eq_true rfl) rfl rfl dX2_hasChoice_2 rfl ?_
  refine ww_if_eq 28 8 X dX2_hasChoice_5 (by decide) rfl h (fun h => ?_) (fun h => ?_)
  · skip
    refine ww_iconst (v := 0) 29 X dX2_hasChoice_28 rfl (by decide) ?_
    obtain rfl := Option.some.inj h
    exact ww_ret_z X hr (by decide) K dX2_hasChoice_29
  · skip
    refine ww_iload_n 9 X dX2_hasChoice_8 rfl rfl ?_
    refine ww_if_lt 28 12 X dX2_hasChoice_9 (by decide) rfl h (fun h => ?_) (fun h => ?_)
    · skip
      refine ww_iconst (v := 0) 29 X dX2_hasChoice_28 rfl (by decide) ?_
      obtain rfl := Option.some.inj h
      exact ww_ret_z X hr (by decide) K dX2_hasChoice_29
    · skip
      refine ww_iload_n 13 X dX2_hasChoice_12 rfl rfl ?_
      refine ww_aload_n 14 X dX2_hasChoice_13 rfl rfl ?_
      refine ww_getr (ci := 2) (j := 4) 17 X cf_2 tw_X2_30 (by decide) rfl hk dX2_hasChoice_14 rfl ?_
      refine ww_iload_n 18 X dX2_hasChoice_17 rfl rfl ?_
      obtain ⟨x2, hx2, h⟩ := hb_bind_of h
      refine ww_callV (ci := 1) (rest := [.int p2]) (st' := [.int x2, .int p2]) 21 X (ct_X1_at (hb_l Γ) G (hc_rf k 4) (hc_kr_2_4 hk) p1 σ hx2) cw_X2_62 rfl (by decide) (hc_kr_2_4 hk) rfl ⟨by decide, by decide⟩ (Nat.le_of_ble_eq_true rfl) rfl rfl dX2_hasChoice_18 rfl ?_
      refine ww_icmp_ge 28 24 X dX2_hasChoice_21 (by decide) rfl h (fun h => ?_) (fun h => ?_)
      · skip
        refine ww_iconst (v := 0) 29 X dX2_hasChoice_28 rfl (by decide) ?_
        obtain rfl := Option.some.inj h
        exact ww_ret_z X hr (by decide) K dX2_hasChoice_29
      · skip
        refine ww_iconst (v := 1) 25 X dX2_hasChoice_24 rfl (by decide) ?_
        refine ww_goto 29 X dX2_hasChoice_25 (by decide) ?_
        obtain rfl := Option.some.inj h
        exact ww_ret_z X hr (by decide) K dX2_hasChoice_29
theorem ct_X2_hasChoice (l : Launch) (G : hb_Gam) (k : Nat) (hk : hb_is ΛC k 2) (p1 : Int32) (p2 : Int32) (σ : hb_Mem) {x : Int32} (h : fn_X2_hasChoice k p1 p2 σ = some x) : hb_C l yX2_hasChoice cX2_hasChoice 3 (some .boolean) 1 21 ΛC G [.ref (G.2.2.2 k), .int p1, .int p2] σ (some (.int x)) σ :=
  hb_C.of [some (.ref (G.2.2.2 k)), some (.int p1), some (.int p2)] (by decide +kernel) (Nat.le_of_ble_eq_true rfl) (by intro v hv; simp only [List.mem_cons, List.not_mem_nil, or_false] at hv; rcases hv with rfl | rfl | rfl <;> rfl) rfl (hb_pad [.ref (G.2.2.2 k), .int p1, .int p2] 0) (fun Γ X hr => wk_X2_hasChoice X hr k hk p1 p2 σ h rfl)
def fn_X2_bindPage (k : Nat) (p1 : Int32) (p2 : Int32) (p3 : Int32) (σ : hb_Mem) : Option (Int32 × hb_Mem) :=
hb_nm (σ k 0) fun v1 =>
(fn_X1_put (hc_rf k 1) v1 p1 σ).bind fun x2 =>
(fn_X1_put (hc_rf k 2) v1 p2 x2).bind fun x3 =>
(fn_X1_put (hc_rf k 3) v1 p3 x3).bind fun x4 =>
(fn_X1_put (hc_rf k 4) v1 0 x4).bind fun x5 =>
hb_nm (hb_up x5 k 0 (v1 + 1)) fun σ6 =>
some (v1, σ6)
set_option maxRecDepth 100000 in
set_option maxHeartbeats 4000000 in
theorem wk_X2_bindPage {Γ : hb_Ctx} {G : hb_Gam} {Q : State → Prop} (X : hb_X Γ cX2_bindPage 5 RX2 ΛC G 1 22) (hr : hb_ret Γ = (some .int)) (k : Nat) (hk : hb_is ΛC k 2) (p1 : Int32) (p2 : Int32) (p3 : Int32) (σ : hb_Mem) {x : (Int32 × hb_Mem)} (h : fn_X2_bindPage k p1 p2 p3 σ = some x) (K : Q = hb_Q Γ ΛC G (some (.int x.1)) x.2) : hb_W Γ ΛC G 5 Q σ [some (.ref (G.2.2.2 k)), some (.int p1), some (.int p2), some (.int p3), none] [] 0 := by
  unfold fn_X2_bindPage at h
  refine ww_aload_n 1 X dX2_bindPage_0 rfl rfl ?_
  refine ww_geti (ci := 2) (j := 0) 4 X cf_2 tw_X2_9 (by decide) rfl hk dX2_bindPage_1 rfl ?_
  obtain ⟨v1, ev1, h⟩ := hb_nm_of h
  rw [← ev1]
  refine ww_istore 6 X (L' := [some (.ref (G.2.2.2 k)), some (.int p1), some (.int p2), some (.int p3), some (.int v1)]) dX2_bindPage_4 rfl (Nat.le_of_ble_eq_true rfl) rfl rfl ?_
  refine ww_aload_n 7 X dX2_bindPage_6 rfl rfl ?_
  refine ww_getr (ci := 2) (j := 1) 10 X cf_2 tw_X2_20 (by decide) rfl hk dX2_bindPage_7 rfl ?_
  refine ww_iload 12 X dX2_bindPage_10 rfl rfl ?_
  refine ww_iload_n 13 X dX2_bindPage_12 rfl rfl ?_
  obtain ⟨x2, hx2, h⟩ := hb_bind_of h
  refine ww_callV (ci := 1) (rest := []) (st' := []) 16 X (ct_X1_put (hb_l Γ) G (hc_rf k 1) (hc_kr_2_1 hk) v1 p1 σ hx2) cw_X2_66 rfl (by decide) (hc_kr_2_1 hk) rfl ⟨by decide, by decide⟩ (Nat.le_of_ble_eq_true rfl) rfl rfl dX2_bindPage_13 rfl ?_
  refine ww_aload_n 17 X dX2_bindPage_16 rfl rfl ?_
  refine ww_getr (ci := 2) (j := 2) 20 X cf_2 tw_X2_24 (by decide) rfl hk dX2_bindPage_17 rfl ?_
  refine ww_iload 22 X dX2_bindPage_20 rfl rfl ?_
  refine ww_iload_n 23 X dX2_bindPage_22 rfl rfl ?_
  obtain ⟨x3, hx3, h⟩ := hb_bind_of h
  refine ww_callV (ci := 1) (rest := []) (st' := []) 26 X (ct_X1_put (hb_l Γ) G (hc_rf k 2) (hc_kr_2_2 hk) v1 p2 x2 hx3) cw_X2_66 rfl (by decide) (hc_kr_2_2 hk) rfl ⟨by decide, by decide⟩ (Nat.le_of_ble_eq_true rfl) rfl rfl dX2_bindPage_23 rfl ?_
  refine ww_aload_n 27 X dX2_bindPage_26 rfl rfl ?_
  refine ww_getr (ci := 2) (j := 3) 30 X cf_2 tw_X2_27 (by decide) rfl hk dX2_bindPage_27 rfl ?_
  refine ww_iload 32 X dX2_bindPage_30 rfl rfl ?_
  refine ww_iload_n 33 X dX2_bindPage_32 rfl rfl ?_
  obtain ⟨x4, hx4, h⟩ := hb_bind_of h
  refine ww_callV (ci := 1) (rest := []) (st' := []) 36 X (ct_X1_put (hb_l Γ) G (hc_rf k 3) (hc_kr_2_3 hk) v1 p3 x3 hx4) cw_X2_66 rfl (by decide) (hc_kr_2_3 hk) rfl ⟨by decide, by decide⟩ (Nat.le_of_ble_eq_true rfl) rfl rfl dX2_bindPage_33 rfl ?_
  refine ww_aload_n 37 X dX2_bindPage_36 rfl rfl ?_
  refine ww_getr (ci := 2) (j := 4) 40 X cf_2 tw_X2_30 (by decide) rfl hk dX2_bindPage_37 rfl ?_
  refine ww_iload 42 X dX2_bindPage_40 rfl rfl ?_
  refine ww_iconst (v := 0) 43 X dX2_bindPage_42 rfl (by decide) ?_
  obtain ⟨x5, hx5, h⟩ := hb_bind_of h
  refine ww_callV (ci := 1) (rest := []) (st' := []) 46 X (ct_X1_put (hb_l Γ) G (hc_rf k 4) (hc_kr_2_4 hk) v1 0 x4 hx5) cw_X2_66 rfl (by decide) (hc_kr_2_4 hk) rfl ⟨by decide, by decide⟩ (Nat.le_of_ble_eq_true rfl) rfl rfl dX2_bindPage_43 rfl ?_
  refine ww_aload_n 47 X dX2_bindPage_46 rfl rfl ?_
  refine ww_iload 49 X dX2_bindPage_47 rfl rfl ?_
  refine ww_iconst (v := 1) 50 X dX2_bindPage_49 rfl (by decide) ?_
  refine ww_iadd 51 X dX2_bindPage_50 rfl ?_
  obtain ⟨σ6, eσ6, h⟩ := hb_nm_of h
  refine ww_put (ci := 2) (j := 0) (ty := .int) 54 X cf_2 cg_2 tw_X2_9 (by decide) rfl rfl rfl rfl rfl hk eσ6.symm dX2_bindPage_51 rfl ?_
  refine ww_iload 56 X dX2_bindPage_54 rfl rfl ?_
  obtain rfl := Option.some.inj h
  exact ww_ret_i X hr K dX2_bindPage_56
theorem ct_X2_bindPage (l : Launch) (G : hb_Gam) (k : Nat) (hk : hb_is ΛC k 2) (p1 : Int32) (p2 : Int32) (p3 : Int32) (σ : hb_Mem) {x : (Int32 × hb_Mem)} (h : fn_X2_bindPage k p1 p2 p3 σ = some x) : hb_C l yX2_bindPage cX2_bindPage 5 (some .int) 1 22 ΛC G [.ref (G.2.2.2 k), .int p1, .int p2, .int p3] σ (some (.int x.1)) x.2 :=
  hb_C.of [some (.ref (G.2.2.2 k)), some (.int p1), some (.int p2), some (.int p3), none] (by decide +kernel) (Nat.le_of_ble_eq_true rfl) (by intro v hv; simp only [List.mem_cons, List.not_mem_nil, or_false] at hv; rcases hv with rfl | rfl | rfl | rfl <;> rfl) rfl (hb_pad [.ref (G.2.2.2 k), .int p1, .int p2, .int p3] 1) (fun Γ X hr => wk_X2_bindPage X hr k hk p1 p2 p3 σ h rfl)
def fn_X5_isFlagSet (p0 : Int32) : Option Int32 :=
if p0 < 0 then (
some 0)
else (
if 32 ≤ p0 then (
some 0)
else (
some 1))
set_option maxRecDepth 100000 in
set_option maxHeartbeats 4000000 in
theorem wk_X5_isFlagSet {Γ : hb_Ctx} {G : hb_Gam} {Q : State → Prop} (X : hb_X Γ cX5_isFlagSet 1 RX5 ΛC G 0 0) (hr : hb_ret Γ = (some .boolean)) (p0 : Int32) (σ : hb_Mem) {x : Int32} (h : fn_X5_isFlagSet p0 = some x) (K : Q = hb_Q Γ ΛC G (some (.int x)) σ) : hb_W Γ ΛC G 1 Q σ [some (.int p0)] [] 0 := by
  unfold fn_X5_isFlagSet at h
  refine ww_iload_n 1 X dX5_isFlagSet_0 rfl rfl ?_
  refine ww_if_lt 14 4 X dX5_isFlagSet_1 (by decide) rfl h (fun h => ?_) (fun h => ?_)
  · skip
    refine ww_iconst (v := 0) 15 X dX5_isFlagSet_14 rfl (by decide) ?_
    obtain rfl := Option.some.inj h
    exact ww_ret_z X hr (by decide) K dX5_isFlagSet_15
  · skip
    refine ww_iload_n 5 X dX5_isFlagSet_4 rfl rfl ?_
    refine ww_bipush (v := 32) 7 X dX5_isFlagSet_5 rfl (by decide) ?_
    refine ww_icmp_ge 14 10 X dX5_isFlagSet_7 (by decide) rfl h (fun h => ?_) (fun h => ?_)
    · skip
      refine ww_iconst (v := 0) 15 X dX5_isFlagSet_14 rfl (by decide) ?_
      obtain rfl := Option.some.inj h
      exact ww_ret_z X hr (by decide) K dX5_isFlagSet_15
    · skip
      refine ww_iconst (v := 1) 11 X dX5_isFlagSet_10 rfl (by decide) ?_
      refine ww_goto 15 X dX5_isFlagSet_11 (by decide) ?_
      obtain rfl := Option.some.inj h
      exact ww_ret_z X hr (by decide) K dX5_isFlagSet_15
theorem ct_X5_isFlagSet (l : Launch) (G : hb_Gam) (p0 : Int32) (σ : hb_Mem) {x : Int32} (h : fn_X5_isFlagSet p0 = some x) : hb_C l yX5_isFlagSet cX5_isFlagSet 1 (some .boolean) 0 0 ΛC G [.int p0] σ (some (.int x)) σ :=
  hb_C.of [some (.int p0)] (by decide +kernel) (Nat.le_of_ble_eq_true rfl) (by intro v hv; simp only [List.mem_cons, List.not_mem_nil, or_false] at hv; subst hv; rfl) rfl (hb_pad [.int p0] 0) (fun Γ X hr => wk_X5_isFlagSet X hr p0 σ h rfl)
def fn_X2_errorOfChoice (k : Nat) (p1 : Int32) (p2 : Int32) (p3 : Int32) (p4 : Int32) (σ : hb_Mem) : Option Int32 :=
(fn_X2_hasPage k p1 σ).bind fun x1 =>
if x1 = 0 then (
some (-1))
else (
(fn_X2_hasPage k p2 σ).bind fun x2 =>
if x2 = 0 then (
some (-1))
else (
(fn_X5_isFlagSet p3).bind fun x3 =>
if x3 = 0 then (
some (-2))
else (
(fn_X5_isFlagSet p4).bind fun x4 =>
if x4 = 0 then (
some (-2))
else (
(fn_X1_at (hc_rf k 4) p1 σ).bind fun x5 =>
if x5 < 3 then (
some 0)
else (
some (-3))))))
set_option maxRecDepth 100000 in
set_option maxHeartbeats 4000000 in
theorem wk_X2_errorOfChoice {Γ : hb_Ctx} {G : hb_Gam} {Q : State → Prop} (X : hb_X Γ cX2_errorOfChoice 5 RX2 ΛC G 1 21) (hr : hb_ret Γ = (some .int)) (k : Nat) (hk : hb_is ΛC k 2) (p1 : Int32) (p2 : Int32) (p3 : Int32) (p4 : Int32) (σ : hb_Mem) {x : Int32} (h : fn_X2_errorOfChoice k p1 p2 p3 p4 σ = some x) (K : Q = hb_Q Γ ΛC G (some (.int x)) σ) : hb_W Γ ΛC G 5 Q σ [some (.ref (G.2.2.2 k)), some (.int p1), some (.int p2), some (.int p3), some (.int p4)] [] 0 := by
  unfold fn_X2_errorOfChoice at h
  refine ww_aload_n 1 X dX2_errorOfChoice_0 rfl rfl ?_
  refine ww_iload_n 2 X dX2_errorOfChoice_1 rfl rfl ?_
  obtain ⟨x1, hx1, h⟩ := hb_bind_of h
  refine ww_callV (ci := 2) (rest := []) (st' := [.int x1]) 5 X (ct_X2_hasPage (hb_l Γ) G k hk p1 σ hx1) cw_X2_58 rfl (by decide) hk rfl ⟨by decide, by decide⟩ (Nat.le_of_ble_eq_true rfl) rfl rfl dX2_errorOfChoice_2 rfl ?_
  refine ww_if_eq 16 8 X dX2_errorOfChoice_5 (by decide) rfl h (fun h => ?_) (fun h => ?_)
  · skip
    refine ww_iconst (v := (-1)) 17 X dX2_errorOfChoice_16 rfl (by decide) ?_
    obtain rfl := Option.some.inj h
    exact ww_ret_i X hr K dX2_errorOfChoice_17
  · skip
    refine ww_aload_n 9 X dX2_errorOfChoice_8 rfl rfl ?_
    refine ww_iload_n 10 X dX2_errorOfChoice_9 rfl rfl ?_
    obtain ⟨x2, hx2, h⟩ := hb_bind_of h
    refine ww_callV (ci := 2) (rest := []) (st' := [.int x2]) 13 X (ct_X2_hasPage (hb_l Γ) G k hk p2 σ hx2) cw_X2_58 rfl (by decide) hk rfl ⟨by decide, by decide⟩ (Nat.le_of_ble_eq_true rfl) rfl rfl dX2_errorOfChoice_10 rfl ?_
    refine ww_if_ne 18 16 X dX2_errorOfChoice_13 (by decide) rfl h (fun h => ?_) (fun h => ?_)
    · skip
      refine ww_iconst (v := (-1)) 17 X dX2_errorOfChoice_16 rfl (by decide) ?_
      obtain rfl := Option.some.inj h
      exact ww_ret_i X hr K dX2_errorOfChoice_17
    · skip
      refine ww_iload_n 19 X dX2_errorOfChoice_18 rfl rfl ?_
      obtain ⟨x3, hx3, h⟩ := hb_bind_of h
      refine ww_callSN (rest := []) (st' := [.int x3]) 22 X (ct_X5_isFlagSet (hb_l Γ) G p3 σ hx3) cw_X2_70 rfl ⟨by decide, by decide⟩ (Nat.le_of_ble_eq_true rfl) rfl rfl dX2_errorOfChoice_19 rfl ?_
      refine ww_if_eq 33 25 X dX2_errorOfChoice_22 (by decide) rfl h (fun h => ?_) (fun h => ?_)
      · skip
        refine ww_bipush (v := (-2)) 35 X dX2_errorOfChoice_33 rfl (by decide) ?_
        obtain rfl := Option.some.inj h
        exact ww_ret_i X hr K dX2_errorOfChoice_35
      · skip
        refine ww_iload 27 X dX2_errorOfChoice_25 rfl rfl ?_
        obtain ⟨x4, hx4, h⟩ := hb_bind_of h
        refine ww_callSN (rest := []) (st' := [.int x4]) 30 X (ct_X5_isFlagSet (hb_l Γ) G p4 σ hx4) cw_X2_70 rfl ⟨by decide, by decide⟩ (Nat.le_of_ble_eq_true rfl) rfl rfl dX2_errorOfChoice_27 rfl ?_
        refine ww_if_ne 36 33 X dX2_errorOfChoice_30 (by decide) rfl h (fun h => ?_) (fun h => ?_)
        · skip
          refine ww_bipush (v := (-2)) 35 X dX2_errorOfChoice_33 rfl (by decide) ?_
          obtain rfl := Option.some.inj h
          exact ww_ret_i X hr K dX2_errorOfChoice_35
        · skip
          refine ww_aload_n 37 X dX2_errorOfChoice_36 rfl rfl ?_
          refine ww_getr (ci := 2) (j := 4) 40 X cf_2 tw_X2_30 (by decide) rfl hk dX2_errorOfChoice_37 rfl ?_
          refine ww_iload_n 41 X dX2_errorOfChoice_40 rfl rfl ?_
          obtain ⟨x5, hx5, h⟩ := hb_bind_of h
          refine ww_callV (ci := 1) (rest := []) (st' := [.int x5]) 44 X (ct_X1_at (hb_l Γ) G (hc_rf k 4) (hc_kr_2_4 hk) p1 σ hx5) cw_X2_62 rfl (by decide) (hc_kr_2_4 hk) rfl ⟨by decide, by decide⟩ (Nat.le_of_ble_eq_true rfl) rfl rfl dX2_errorOfChoice_41 rfl ?_
          refine ww_iconst (v := 3) 45 X dX2_errorOfChoice_44 rfl (by decide) ?_
          refine ww_icmp_lt 53 48 X dX2_errorOfChoice_45 (by decide) rfl h (fun h => ?_) (fun h => ?_)
          · skip
            refine ww_iconst (v := 0) 54 X dX2_errorOfChoice_53 rfl (by decide) ?_
            obtain rfl := Option.some.inj h
            exact ww_ret_i X hr K dX2_errorOfChoice_54
          · skip
            refine ww_bipush (v := (-3)) 50 X dX2_errorOfChoice_48 rfl (by decide) ?_
            refine ww_goto 54 X dX2_errorOfChoice_50 (by decide) ?_
            obtain rfl := Option.some.inj h
            exact ww_ret_i X hr K dX2_errorOfChoice_54
theorem ct_X2_errorOfChoice (l : Launch) (G : hb_Gam) (k : Nat) (hk : hb_is ΛC k 2) (p1 : Int32) (p2 : Int32) (p3 : Int32) (p4 : Int32) (σ : hb_Mem) {x : Int32} (h : fn_X2_errorOfChoice k p1 p2 p3 p4 σ = some x) : hb_C l yX2_errorOfChoice cX2_errorOfChoice 5 (some .int) 1 21 ΛC G [.ref (G.2.2.2 k), .int p1, .int p2, .int p3, .int p4] σ (some (.int x)) σ :=
  hb_C.of [some (.ref (G.2.2.2 k)), some (.int p1), some (.int p2), some (.int p3), some (.int p4)] (by decide +kernel) (Nat.le_of_ble_eq_true rfl) (by intro v hv; simp only [List.mem_cons, List.not_mem_nil, or_false] at hv; rcases hv with rfl | rfl | rfl | rfl | rfl <;> rfl) rfl (hb_pad [.ref (G.2.2.2 k), .int p1, .int p2, .int p3, .int p4] 0) (fun Γ X hr => wk_X2_errorOfChoice X hr k hk p1 p2 p3 p4 σ h rfl)
def fn_X5_slotOf (p0 : Int32) (p1 : Int32) : Option Int32 :=
some ((p0 * 3) + p1)
set_option maxRecDepth 100000 in
set_option maxHeartbeats 4000000 in
theorem wk_X5_slotOf {Γ : hb_Ctx} {G : hb_Gam} {Q : State → Prop} (X : hb_X Γ cX5_slotOf 2 RX5 ΛC G 0 0) (hr : hb_ret Γ = (some .int)) (p0 : Int32) (p1 : Int32) (σ : hb_Mem) {x : Int32} (h : fn_X5_slotOf p0 p1 = some x) (K : Q = hb_Q Γ ΛC G (some (.int x)) σ) : hb_W Γ ΛC G 2 Q σ [some (.int p0), some (.int p1)] [] 0 := by
  unfold fn_X5_slotOf at h
  refine ww_iload_n 1 X dX5_slotOf_0 rfl rfl ?_
  refine ww_iconst (v := 3) 2 X dX5_slotOf_1 rfl (by decide) ?_
  refine ww_imul 3 X dX5_slotOf_2 rfl ?_
  refine ww_iload_n 4 X dX5_slotOf_3 rfl rfl ?_
  refine ww_iadd 5 X dX5_slotOf_4 rfl ?_
  obtain rfl := Option.some.inj h
  exact ww_ret_i X hr K dX5_slotOf_5
theorem ct_X5_slotOf (l : Launch) (G : hb_Gam) (p0 : Int32) (p1 : Int32) (σ : hb_Mem) {x : Int32} (h : fn_X5_slotOf p0 p1 = some x) : hb_C l yX5_slotOf cX5_slotOf 2 (some .int) 0 0 ΛC G [.int p0, .int p1] σ (some (.int x)) σ :=
  hb_C.of [some (.int p0), some (.int p1)] (by decide +kernel) (Nat.le_of_ble_eq_true rfl) (by intro v hv; simp only [List.mem_cons, List.not_mem_nil, or_false] at hv; rcases hv with rfl | rfl <;> rfl) rfl (hb_pad [.int p0, .int p1] 0) (fun Γ X hr => wk_X5_slotOf X hr p0 p1 σ h rfl)
def fn_X2_appendChoice (k : Nat) (p1 : Int32) (p2 : Int32) (p3 : Int32) (p4 : Int32) (σ : hb_Mem) : Option (Int32 × hb_Mem) :=
(fn_X1_at (hc_rf k 4) p1 σ).bind fun x1 =>
(fn_X5_slotOf p1 x1).bind fun x2 =>
(fn_X1_put (hc_rf k 5) x2 p2 σ).bind fun x3 =>
(fn_X1_put (hc_rf k 6) x2 p3 x3).bind fun x4 =>
(fn_X1_put (hc_rf k 7) x2 p4 x4).bind fun x5 =>
(fn_X1_put (hc_rf k 4) p1 (x1 + 1) x5).bind fun x6 =>
some (x1, x6)
set_option maxRecDepth 100000 in
set_option maxHeartbeats 4000000 in
theorem wk_X2_appendChoice {Γ : hb_Ctx} {G : hb_Gam} {Q : State → Prop} (X : hb_X Γ cX2_appendChoice 7 RX2 ΛC G 1 22) (hr : hb_ret Γ = (some .int)) (k : Nat) (hk : hb_is ΛC k 2) (p1 : Int32) (p2 : Int32) (p3 : Int32) (p4 : Int32) (σ : hb_Mem) {x : (Int32 × hb_Mem)} (h : fn_X2_appendChoice k p1 p2 p3 p4 σ = some x) (K : Q = hb_Q Γ ΛC G (some (.int x.1)) x.2) : hb_W Γ ΛC G 7 Q σ [some (.ref (G.2.2.2 k)), some (.int p1), some (.int p2), some (.int p3), some (.int p4), none, none] [] 0 := by
  unfold fn_X2_appendChoice at h
  refine ww_aload_n 1 X dX2_appendChoice_0 rfl rfl ?_
  refine ww_getr (ci := 2) (j := 4) 4 X cf_2 tw_X2_30 (by decide) rfl hk dX2_appendChoice_1 rfl ?_
  refine ww_iload_n 5 X dX2_appendChoice_4 rfl rfl ?_
  obtain ⟨x1, hx1, h⟩ := hb_bind_of h
  refine ww_callV (ci := 1) (rest := []) (st' := [.int x1]) 8 X (ct_X1_at (hb_l Γ) G (hc_rf k 4) (hc_kr_2_4 hk) p1 σ hx1) cw_X2_62 rfl (by decide) (hc_kr_2_4 hk) rfl ⟨by decide, by decide⟩ (Nat.le_of_ble_eq_true rfl) rfl rfl dX2_appendChoice_5 rfl ?_
  refine ww_istore 10 X (L' := [some (.ref (G.2.2.2 k)), some (.int p1), some (.int p2), some (.int p3), some (.int p4), some (.int x1), none]) dX2_appendChoice_8 rfl (Nat.le_of_ble_eq_true rfl) rfl rfl ?_
  refine ww_iload_n 11 X dX2_appendChoice_10 rfl rfl ?_
  refine ww_iload 13 X dX2_appendChoice_11 rfl rfl ?_
  obtain ⟨x2, hx2, h⟩ := hb_bind_of h
  refine ww_callSN (rest := []) (st' := [.int x2]) 16 X (ct_X5_slotOf (hb_l Γ) G p1 x1 σ hx2) cw_X2_73 rfl ⟨by decide, by decide⟩ (Nat.le_of_ble_eq_true rfl) rfl rfl dX2_appendChoice_13 rfl ?_
  refine ww_istore 18 X (L' := [some (.ref (G.2.2.2 k)), some (.int p1), some (.int p2), some (.int p3), some (.int p4), some (.int x1), some (.int x2)]) dX2_appendChoice_16 rfl (Nat.le_of_ble_eq_true rfl) rfl rfl ?_
  refine ww_aload_n 19 X dX2_appendChoice_18 rfl rfl ?_
  refine ww_getr (ci := 2) (j := 5) 22 X cf_2 tw_X2_33 (by decide) rfl hk dX2_appendChoice_19 rfl ?_
  refine ww_iload 24 X dX2_appendChoice_22 rfl rfl ?_
  refine ww_iload_n 25 X dX2_appendChoice_24 rfl rfl ?_
  obtain ⟨x3, hx3, h⟩ := hb_bind_of h
  refine ww_callV (ci := 1) (rest := []) (st' := []) 28 X (ct_X1_put (hb_l Γ) G (hc_rf k 5) (hc_kr_2_5 hk) x2 p2 σ hx3) cw_X2_66 rfl (by decide) (hc_kr_2_5 hk) rfl ⟨by decide, by decide⟩ (Nat.le_of_ble_eq_true rfl) rfl rfl dX2_appendChoice_25 rfl ?_
  refine ww_aload_n 29 X dX2_appendChoice_28 rfl rfl ?_
  refine ww_getr (ci := 2) (j := 6) 32 X cf_2 tw_X2_36 (by decide) rfl hk dX2_appendChoice_29 rfl ?_
  refine ww_iload 34 X dX2_appendChoice_32 rfl rfl ?_
  refine ww_iload_n 35 X dX2_appendChoice_34 rfl rfl ?_
  obtain ⟨x4, hx4, h⟩ := hb_bind_of h
  refine ww_callV (ci := 1) (rest := []) (st' := []) 38 X (ct_X1_put (hb_l Γ) G (hc_rf k 6) (hc_kr_2_6 hk) x2 p3 x3 hx4) cw_X2_66 rfl (by decide) (hc_kr_2_6 hk) rfl ⟨by decide, by decide⟩ (Nat.le_of_ble_eq_true rfl) rfl rfl dX2_appendChoice_35 rfl ?_
  refine ww_aload_n 39 X dX2_appendChoice_38 rfl rfl ?_
  refine ww_getr (ci := 2) (j := 7) 42 X cf_2 tw_X2_39 (by decide) rfl hk dX2_appendChoice_39 rfl ?_
  refine ww_iload 44 X dX2_appendChoice_42 rfl rfl ?_
  refine ww_iload 46 X dX2_appendChoice_44 rfl rfl ?_
  obtain ⟨x5, hx5, h⟩ := hb_bind_of h
  refine ww_callV (ci := 1) (rest := []) (st' := []) 49 X (ct_X1_put (hb_l Γ) G (hc_rf k 7) (hc_kr_2_7 hk) x2 p4 x4 hx5) cw_X2_66 rfl (by decide) (hc_kr_2_7 hk) rfl ⟨by decide, by decide⟩ (Nat.le_of_ble_eq_true rfl) rfl rfl dX2_appendChoice_46 rfl ?_
  refine ww_aload_n 50 X dX2_appendChoice_49 rfl rfl ?_
  refine ww_getr (ci := 2) (j := 4) 53 X cf_2 tw_X2_30 (by decide) rfl hk dX2_appendChoice_50 rfl ?_
  refine ww_iload_n 54 X dX2_appendChoice_53 rfl rfl ?_
  refine ww_iload 56 X dX2_appendChoice_54 rfl rfl ?_
  refine ww_iconst (v := 1) 57 X dX2_appendChoice_56 rfl (by decide) ?_
  refine ww_iadd 58 X dX2_appendChoice_57 rfl ?_
  obtain ⟨x6, hx6, h⟩ := hb_bind_of h
  refine ww_callV (ci := 1) (rest := []) (st' := []) 61 X (ct_X1_put (hb_l Γ) G (hc_rf k 4) (hc_kr_2_4 hk) p1 (x1 + 1) x5 hx6) cw_X2_66 rfl (by decide) (hc_kr_2_4 hk) rfl ⟨by decide, by decide⟩ (Nat.le_of_ble_eq_true rfl) rfl rfl dX2_appendChoice_58 rfl ?_
  refine ww_iload 63 X dX2_appendChoice_61 rfl rfl ?_
  obtain rfl := Option.some.inj h
  exact ww_ret_i X hr K dX2_appendChoice_63
theorem ct_X2_appendChoice (l : Launch) (G : hb_Gam) (k : Nat) (hk : hb_is ΛC k 2) (p1 : Int32) (p2 : Int32) (p3 : Int32) (p4 : Int32) (σ : hb_Mem) {x : (Int32 × hb_Mem)} (h : fn_X2_appendChoice k p1 p2 p3 p4 σ = some x) : hb_C l yX2_appendChoice cX2_appendChoice 7 (some .int) 1 22 ΛC G [.ref (G.2.2.2 k), .int p1, .int p2, .int p3, .int p4] σ (some (.int x.1)) x.2 :=
  hb_C.of [some (.ref (G.2.2.2 k)), some (.int p1), some (.int p2), some (.int p3), some (.int p4), none, none] (by decide +kernel) (Nat.le_of_ble_eq_true rfl) (by intro v hv; simp only [List.mem_cons, List.not_mem_nil, or_false] at hv; rcases hv with rfl | rfl | rfl | rfl | rfl <;> rfl) rfl (hb_pad [.ref (G.2.2.2 k), .int p1, .int p2, .int p3, .int p4] 2) (fun Γ X hr => wk_X2_appendChoice X hr k hk p1 p2 p3 p4 σ h rfl)
def lb_X2_removeChoice_28 (k : Nat) (p1 : Int32) (p2 : Int32) (i3 : Int32) (i4 : Int32) (w5 : Int32) (σ : hb_Mem) : Option ((Int32 × hb_Mem) ⊕ hb_Mem) :=
if i4 ≤ w5 then (
some (.inr σ))
else (
if 3 ≤ w5 then (
some (.inr σ))
else (
(fn_X5_slotOf p1 w5).bind fun x5 =>
(fn_X1_at (hc_rf k 5) (x5 + 1) σ).bind fun x6 =>
(fn_X1_put (hc_rf k 5) x5 x6 σ).bind fun x7 =>
(fn_X1_at (hc_rf k 6) (x5 + 1) x7).bind fun x8 =>
(fn_X1_put (hc_rf k 6) x5 x8 x7).bind fun x9 =>
(fn_X1_at (hc_rf k 7) (x5 + 1) x9).bind fun x10 =>
(fn_X1_put (hc_rf k 7) x5 x10 x9).bind fun x11 =>
hb_nm (w5 + 1) fun v12 =>
some (.inl (v12, x11))))
set_option maxRecDepth 100000 in
set_option maxHeartbeats 4000000 in
theorem lk_X2_removeChoice_28 {Γ : hb_Ctx} {G : hb_Gam} {Q : State → Prop} (X : hb_X Γ cX2_removeChoice 7 RX2 ΛC G 1 22)  (k : Nat) (hk : hb_is ΛC k 2) (p1 : Int32) (p2 : Int32) (i3 : Int32) (i4 : Int32) (w5 : Int32) (σ : hb_Mem) {x : ((Int32 × hb_Mem) ⊕ hb_Mem)} (h : lb_X2_removeChoice_28 k p1 p2 i3 i4 w5 σ = some x) (K : Sum.elim (fun s : (Int32 × hb_Mem) => hb_W Γ ΛC G 7 Q s.2 [some (.ref (G.2.2.2 k)), some (.int p1), none, some (.int i3), some (.int i4), some (.int s.1), none] [] 28) (fun t : hb_Mem => hb_W Γ ΛC G 7 Q t [some (.ref (G.2.2.2 k)), some (.int p1), none, some (.int i3), some (.int i4), none, none] [] 115) x) : hb_W Γ ΛC G 7 Q σ [some (.ref (G.2.2.2 k)), some (.int p1), none, some (.int i3), some (.int i4), some (.int w5), none] [] 28 := by
  unfold lb_X2_removeChoice_28 at h
  refine ww_iload 30 X dX2_removeChoice_28 rfl rfl ?_
  refine ww_iload 32 X dX2_removeChoice_30 rfl rfl ?_
  refine ww_icmp_ge 115 35 X dX2_removeChoice_32 (by decide) rfl h (fun h => ?_) (fun h => ?_)
  · skip
    obtain rfl := Option.some.inj h
    refine ww_kill [5] (L' := [some (.ref (G.2.2.2 k)), some (.int p1), none, some (.int i3), some (.int i4), none, none]) rfl ?_
    exact K
  · skip
    refine ww_iload 37 X dX2_removeChoice_35 rfl rfl ?_
    refine ww_iconst (v := 3) 38 X dX2_removeChoice_37 rfl (by decide) ?_
    refine ww_icmp_ge 115 41 X dX2_removeChoice_38 (by decide) rfl h (fun h => ?_) (fun h => ?_)
    · skip
      obtain rfl := Option.some.inj h
      refine ww_kill [5] (L' := [some (.ref (G.2.2.2 k)), some (.int p1), none, some (.int i3), some (.int i4), none, none]) rfl ?_
      exact K
    · skip
      refine ww_iload_n 42 X dX2_removeChoice_41 rfl rfl ?_
      refine ww_iload 44 X dX2_removeChoice_42 rfl rfl ?_
      obtain ⟨x5, hx5, h⟩ := hb_bind_of h
      refine ww_callSN (rest := []) (st' := [.int x5]) 47 X (ct_X5_slotOf (hb_l Γ) G p1 w5 σ hx5) cw_X2_73 rfl ⟨by decide, by decide⟩ (Nat.le_of_ble_eq_true rfl) rfl rfl dX2_removeChoice_44 rfl ?_
      refine ww_istore 49 X (L' := [some (.ref (G.2.2.2 k)), some (.int p1), none, some (.int i3), some (.int i4), some (.int w5), some (.int x5)]) dX2_removeChoice_47 rfl (Nat.le_of_ble_eq_true rfl) rfl rfl ?_
      refine ww_aload_n 50 X dX2_removeChoice_49 rfl rfl ?_
      refine ww_getr (ci := 2) (j := 5) 53 X cf_2 tw_X2_33 (by decide) rfl hk dX2_removeChoice_50 rfl ?_
      refine ww_iload 55 X dX2_removeChoice_53 rfl rfl ?_
      refine ww_aload_n 56 X dX2_removeChoice_55 rfl rfl ?_
      refine ww_getr (ci := 2) (j := 5) 59 X cf_2 tw_X2_33 (by decide) rfl hk dX2_removeChoice_56 rfl ?_
      refine ww_iload 61 X dX2_removeChoice_59 rfl rfl ?_
      refine ww_iconst (v := 1) 62 X dX2_removeChoice_61 rfl (by decide) ?_
      refine ww_iadd 63 X dX2_removeChoice_62 rfl ?_
      obtain ⟨x6, hx6, h⟩ := hb_bind_of h
      refine ww_callV (ci := 1) (rest := [.int x5, .ref (G.2.2.2 (hc_rf k 5))]) (st' := [.int x6, .int x5, .ref (G.2.2.2 (hc_rf k 5))]) 66 X (ct_X1_at (hb_l Γ) G (hc_rf k 5) (hc_kr_2_5 hk) (x5 + 1) σ hx6) cw_X2_62 rfl (by decide) (hc_kr_2_5 hk) rfl ⟨by decide, by decide⟩ (Nat.le_of_ble_eq_true rfl) rfl rfl dX2_removeChoice_63 rfl ?_
      obtain ⟨x7, hx7, h⟩ := hb_bind_of h
      refine ww_callV (ci := 1) (rest := []) (st' := []) 69 X (ct_X1_put (hb_l Γ) G (hc_rf k 5) (hc_kr_2_5 hk) x5 x6 σ hx7) cw_X2_66 rfl (by decide) (hc_kr_2_5 hk) rfl ⟨by decide, by decide⟩ (Nat.le_of_ble_eq_true rfl) rfl rfl dX2_removeChoice_66 rfl ?_
      refine ww_aload_n 70 X dX2_removeChoice_69 rfl rfl ?_
      refine ww_getr (ci := 2) (j := 6) 73 X cf_2 tw_X2_36 (by decide) rfl hk dX2_removeChoice_70 rfl ?_
      refine ww_iload 75 X dX2_removeChoice_73 rfl rfl ?_
      refine ww_aload_n 76 X dX2_removeChoice_75 rfl rfl ?_
      refine ww_getr (ci := 2) (j := 6) 79 X cf_2 tw_X2_36 (by decide) rfl hk dX2_removeChoice_76 rfl ?_
      refine ww_iload 81 X dX2_removeChoice_79 rfl rfl ?_
      refine ww_iconst (v := 1) 82 X dX2_removeChoice_81 rfl (by decide) ?_
      refine ww_iadd 83 X dX2_removeChoice_82 rfl ?_
      obtain ⟨x8, hx8, h⟩ := hb_bind_of h
      refine ww_callV (ci := 1) (rest := [.int x5, .ref (G.2.2.2 (hc_rf k 6))]) (st' := [.int x8, .int x5, .ref (G.2.2.2 (hc_rf k 6))]) 86 X (ct_X1_at (hb_l Γ) G (hc_rf k 6) (hc_kr_2_6 hk) (x5 + 1) x7 hx8) cw_X2_62 rfl (by decide) (hc_kr_2_6 hk) rfl ⟨by decide, by decide⟩ (Nat.le_of_ble_eq_true rfl) rfl rfl dX2_removeChoice_83 rfl ?_
      obtain ⟨x9, hx9, h⟩ := hb_bind_of h
      refine ww_callV (ci := 1) (rest := []) (st' := []) 89 X (ct_X1_put (hb_l Γ) G (hc_rf k 6) (hc_kr_2_6 hk) x5 x8 x7 hx9) cw_X2_66 rfl (by decide) (hc_kr_2_6 hk) rfl ⟨by decide, by decide⟩ (Nat.le_of_ble_eq_true rfl) rfl rfl dX2_removeChoice_86 rfl ?_
      refine ww_aload_n 90 X dX2_removeChoice_89 rfl rfl ?_
      refine ww_getr (ci := 2) (j := 7) 93 X cf_2 tw_X2_39 (by decide) rfl hk dX2_removeChoice_90 rfl ?_
      refine ww_iload 95 X dX2_removeChoice_93 rfl rfl ?_
      refine ww_aload_n 96 X dX2_removeChoice_95 rfl rfl ?_
      refine ww_getr (ci := 2) (j := 7) 99 X cf_2 tw_X2_39 (by decide) rfl hk dX2_removeChoice_96 rfl ?_
      refine ww_iload 101 X dX2_removeChoice_99 rfl rfl ?_
      refine ww_iconst (v := 1) 102 X dX2_removeChoice_101 rfl (by decide) ?_
      refine ww_iadd 103 X dX2_removeChoice_102 rfl ?_
      obtain ⟨x10, hx10, h⟩ := hb_bind_of h
      refine ww_callV (ci := 1) (rest := [.int x5, .ref (G.2.2.2 (hc_rf k 7))]) (st' := [.int x10, .int x5, .ref (G.2.2.2 (hc_rf k 7))]) 106 X (ct_X1_at (hb_l Γ) G (hc_rf k 7) (hc_kr_2_7 hk) (x5 + 1) x9 hx10) cw_X2_62 rfl (by decide) (hc_kr_2_7 hk) rfl ⟨by decide, by decide⟩ (Nat.le_of_ble_eq_true rfl) rfl rfl dX2_removeChoice_103 rfl ?_
      obtain ⟨x11, hx11, h⟩ := hb_bind_of h
      refine ww_callV (ci := 1) (rest := []) (st' := []) 109 X (ct_X1_put (hb_l Γ) G (hc_rf k 7) (hc_kr_2_7 hk) x5 x10 x9 hx11) cw_X2_66 rfl (by decide) (hc_kr_2_7 hk) rfl ⟨by decide, by decide⟩ (Nat.le_of_ble_eq_true rfl) rfl rfl dX2_removeChoice_106 rfl ?_
      obtain ⟨v12, ev12, h⟩ := hb_nm_of h
      refine ww_iinc 112 X (L' := [some (.ref (G.2.2.2 k)), some (.int p1), none, some (.int i3), some (.int i4), some (.int v12), some (.int x5)]) dX2_removeChoice_109 rfl rfl ev12.symm rfl ?_
      refine ww_goto 28 X dX2_removeChoice_112 (by decide) ?_
      obtain rfl := Option.some.inj h
      refine ww_kill [6] (L' := [some (.ref (G.2.2.2 k)), some (.int p1), none, some (.int i3), some (.int i4), some (.int v12), none]) rfl ?_
      exact K
def ll_X2_removeChoice_28 (k : Nat) (p1 : Int32) (p2 : Int32) (i3 : Int32) (i4 : Int32) : (Int32 × hb_Mem) → Option hb_Mem := hb_lp (fun s => lb_X2_removeChoice_28 k p1 p2 i3 i4 s.1 s.2) hb_F
theorem lw_X2_removeChoice_28 {Γ : hb_Ctx} {G : hb_Gam} {Q : State → Prop} (X : hb_X Γ cX2_removeChoice 7 RX2 ΛC G 1 22)  (k : Nat) (hk : hb_is ΛC k 2) (p1 : Int32) (p2 : Int32) (i3 : Int32) (i4 : Int32) (s : (Int32 × hb_Mem)) (t : hb_Mem) (h : ll_X2_removeChoice_28 k p1 p2 i3 i4 s = some t) (K : (fun t : hb_Mem => hb_W Γ ΛC G 7 Q t [some (.ref (G.2.2.2 k)), some (.int p1), none, some (.int i3), some (.int i4), none, none] [] 115) t) : hb_W Γ ΛC G 7 Q s.2 [some (.ref (G.2.2.2 k)), some (.int p1), none, some (.int i3), some (.int i4), some (.int s.1), none] [] 28 :=
  hb_lp_w (P := fun s : (Int32 × hb_Mem) => hb_W Γ ΛC G 7 Q s.2 [some (.ref (G.2.2.2 k)), some (.int p1), none, some (.int i3), some (.int i4), some (.int s.1), none] [] 28) (E := (fun t : hb_Mem => hb_W Γ ΛC G 7 Q t [some (.ref (G.2.2.2 k)), some (.int p1), none, some (.int i3), some (.int i4), none, none] [] 115)) (fun s x hx K => lk_X2_removeChoice_28 X k hk p1 p2 i3 i4 s.1 s.2 hx K) _ s t h K
def jn_X2_removeChoice_115 (k : Nat) (p1 : Int32) (p2 : Int32) (j3 : Int32) (j4 : Int32) (σ : hb_Mem) : Option (Int32 × hb_Mem) :=
(fn_X1_put (hc_rf k 4) p1 j4 σ).bind fun x14 =>
some (j3, x14)
set_option maxRecDepth 100000 in
set_option maxHeartbeats 4000000 in
theorem jw_X2_removeChoice_115 {Γ : hb_Ctx} {G : hb_Gam} {Q : State → Prop} (X : hb_X Γ cX2_removeChoice 7 RX2 ΛC G 1 22) (hr : hb_ret Γ = (some .int)) (k : Nat) (hk : hb_is ΛC k 2) (p1 : Int32) (p2 : Int32) (j3 : Int32) (j4 : Int32) (σ : hb_Mem) {x : (Int32 × hb_Mem)} (h : jn_X2_removeChoice_115 k p1 p2 j3 j4 σ = some x) (K : Q = hb_Q Γ ΛC G (some (.int x.1)) x.2) : hb_W Γ ΛC G 7 Q σ [some (.ref (G.2.2.2 k)), some (.int p1), none, some (.int j3), some (.int j4), none, none] [] 115 := by
  unfold jn_X2_removeChoice_115 at h
  refine ww_aload_n 116 X dX2_removeChoice_115 rfl rfl ?_
  refine ww_getr (ci := 2) (j := 4) 119 X cf_2 tw_X2_30 (by decide) rfl hk dX2_removeChoice_116 rfl ?_
  refine ww_iload_n 120 X dX2_removeChoice_119 rfl rfl ?_
  refine ww_iload 122 X dX2_removeChoice_120 rfl rfl ?_
  obtain ⟨x14, hx14, h⟩ := hb_bind_of h
  refine ww_callV (ci := 1) (rest := []) (st' := []) 125 X (ct_X1_put (hb_l Γ) G (hc_rf k 4) (hc_kr_2_4 hk) p1 j4 σ hx14) cw_X2_66 rfl (by decide) (hc_kr_2_4 hk) rfl ⟨by decide, by decide⟩ (Nat.le_of_ble_eq_true rfl) rfl rfl dX2_removeChoice_122 rfl ?_
  refine ww_iload_n 126 X dX2_removeChoice_125 rfl rfl ?_
  obtain rfl := Option.some.inj h
  exact ww_ret_i X hr K dX2_removeChoice_126
def fn_X2_removeChoice (k : Nat) (p1 : Int32) (p2 : Int32) (σ : hb_Mem) : Option (Int32 × hb_Mem) :=
(fn_X5_slotOf p1 p2).bind fun x1 =>
(fn_X1_at (hc_rf k 5) x1 σ).bind fun x2 =>
(fn_X1_at (hc_rf k 4) p1 σ).bind fun x3 =>
hb_nm (x3 - 1) fun v4 =>
(ll_X2_removeChoice_28 k p1 p2 x2 v4 (p2, σ)).bind fun t13 =>
jn_X2_removeChoice_115 k p1 p2 x2 v4 t13
set_option maxRecDepth 100000 in
set_option maxHeartbeats 4000000 in
theorem wk_X2_removeChoice {Γ : hb_Ctx} {G : hb_Gam} {Q : State → Prop} (X : hb_X Γ cX2_removeChoice 7 RX2 ΛC G 1 22) (hr : hb_ret Γ = (some .int)) (k : Nat) (hk : hb_is ΛC k 2) (p1 : Int32) (p2 : Int32) (σ : hb_Mem) {x : (Int32 × hb_Mem)} (h : fn_X2_removeChoice k p1 p2 σ = some x) (K : Q = hb_Q Γ ΛC G (some (.int x.1)) x.2) : hb_W Γ ΛC G 7 Q σ [some (.ref (G.2.2.2 k)), some (.int p1), some (.int p2), none, none, none, none] [] 0 := by
  unfold fn_X2_removeChoice at h
  refine ww_aload_n 1 X dX2_removeChoice_0 rfl rfl ?_
  refine ww_getr (ci := 2) (j := 5) 4 X cf_2 tw_X2_33 (by decide) rfl hk dX2_removeChoice_1 rfl ?_
  refine ww_iload_n 5 X dX2_removeChoice_4 rfl rfl ?_
  refine ww_iload_n 6 X dX2_removeChoice_5 rfl rfl ?_
  obtain ⟨x1, hx1, h⟩ := hb_bind_of h
  refine ww_callSN (rest := [.ref (G.2.2.2 (hc_rf k 5))]) (st' := [.int x1, .ref (G.2.2.2 (hc_rf k 5))]) 9 X (ct_X5_slotOf (hb_l Γ) G p1 p2 σ hx1) cw_X2_73 rfl ⟨by decide, by decide⟩ (Nat.le_of_ble_eq_true rfl) rfl rfl dX2_removeChoice_6 rfl ?_
  obtain ⟨x2, hx2, h⟩ := hb_bind_of h
  refine ww_callV (ci := 1) (rest := []) (st' := [.int x2]) 12 X (ct_X1_at (hb_l Γ) G (hc_rf k 5) (hc_kr_2_5 hk) x1 σ hx2) cw_X2_62 rfl (by decide) (hc_kr_2_5 hk) rfl ⟨by decide, by decide⟩ (Nat.le_of_ble_eq_true rfl) rfl rfl dX2_removeChoice_9 rfl ?_
  refine ww_istore_n 13 X (L' := [some (.ref (G.2.2.2 k)), some (.int p1), some (.int p2), some (.int x2), none, none, none]) dX2_removeChoice_12 rfl (Nat.le_of_ble_eq_true rfl) rfl rfl ?_
  refine ww_aload_n 14 X dX2_removeChoice_13 rfl rfl ?_
  refine ww_getr (ci := 2) (j := 4) 17 X cf_2 tw_X2_30 (by decide) rfl hk dX2_removeChoice_14 rfl ?_
  refine ww_iload_n 18 X dX2_removeChoice_17 rfl rfl ?_
  obtain ⟨x3, hx3, h⟩ := hb_bind_of h
  refine ww_callV (ci := 1) (rest := []) (st' := [.int x3]) 21 X (ct_X1_at (hb_l Γ) G (hc_rf k 4) (hc_kr_2_4 hk) p1 σ hx3) cw_X2_62 rfl (by decide) (hc_kr_2_4 hk) rfl ⟨by decide, by decide⟩ (Nat.le_of_ble_eq_true rfl) rfl rfl dX2_removeChoice_18 rfl ?_
  refine ww_iconst (v := 1) 22 X dX2_removeChoice_21 rfl (by decide) ?_
  refine ww_isub 23 X dX2_removeChoice_22 rfl ?_
  obtain ⟨v4, ev4, h⟩ := hb_nm_of h
  rw [← ev4]
  refine ww_istore 25 X (L' := [some (.ref (G.2.2.2 k)), some (.int p1), some (.int p2), some (.int x2), some (.int v4), none, none]) dX2_removeChoice_23 rfl (Nat.le_of_ble_eq_true rfl) rfl rfl ?_
  refine ww_iload_n 26 X dX2_removeChoice_25 rfl rfl ?_
  refine ww_istore 28 X (L' := [some (.ref (G.2.2.2 k)), some (.int p1), some (.int p2), some (.int x2), some (.int v4), some (.int p2), none]) dX2_removeChoice_26 rfl (Nat.le_of_ble_eq_true rfl) rfl rfl ?_
  obtain ⟨t13, ht13, h⟩ := hb_bind_of h
  refine ww_kill [2] (L' := [some (.ref (G.2.2.2 k)), some (.int p1), none, some (.int x2), some (.int v4), some (.int p2), none]) rfl ?_
  refine lw_X2_removeChoice_28 X k hk p1 p2 x2 v4 (p2, σ) t13 ht13 ?_
  exact jw_X2_removeChoice_115 X hr k hk p1 p2 x2 v4 t13 h K
theorem ct_X2_removeChoice (l : Launch) (G : hb_Gam) (k : Nat) (hk : hb_is ΛC k 2) (p1 : Int32) (p2 : Int32) (σ : hb_Mem) {x : (Int32 × hb_Mem)} (h : fn_X2_removeChoice k p1 p2 σ = some x) : hb_C l yX2_removeChoice cX2_removeChoice 7 (some .int) 1 22 ΛC G [.ref (G.2.2.2 k), .int p1, .int p2] σ (some (.int x.1)) x.2 :=
  hb_C.of [some (.ref (G.2.2.2 k)), some (.int p1), some (.int p2), none, none, none, none] (by decide +kernel) (Nat.le_of_ble_eq_true rfl) (by intro v hv; simp only [List.mem_cons, List.not_mem_nil, or_false] at hv; rcases hv with rfl | rfl | rfl <;> rfl) rfl (hb_pad [.ref (G.2.2.2 k), .int p1, .int p2] 4) (fun Γ X hr => wk_X2_removeChoice X hr k hk p1 p2 σ h rfl)
def fn_X2_renumbered (p0 : Int32) (p1 : Int32) (p2 : Int32) : Option Int32 :=
if p0 = p1 then (
some p2)
else (
if p0 = p2 then (
some p1)
else (
some p0))
set_option maxRecDepth 100000 in
set_option maxHeartbeats 4000000 in
theorem wk_X2_renumbered {Γ : hb_Ctx} {G : hb_Gam} {Q : State → Prop} (X : hb_X Γ cX2_renumbered 3 RX2 ΛC G 0 0) (hr : hb_ret Γ = (some .int)) (p0 : Int32) (p1 : Int32) (p2 : Int32) (σ : hb_Mem) {x : Int32} (h : fn_X2_renumbered p0 p1 p2 = some x) (K : Q = hb_Q Γ ΛC G (some (.int x)) σ) : hb_W Γ ΛC G 3 Q σ [some (.int p0), some (.int p1), some (.int p2)] [] 0 := by
  unfold fn_X2_renumbered at h
  refine ww_iload_n 1 X dX2_renumbered_0 rfl rfl ?_
  refine ww_iload_n 2 X dX2_renumbered_1 rfl rfl ?_
  refine ww_icmp_ne 7 5 X dX2_renumbered_2 (by decide) rfl h (fun h => ?_) (fun h => ?_)
  · skip
    refine ww_iload_n 6 X dX2_renumbered_5 rfl rfl ?_
    obtain rfl := Option.some.inj h
    exact ww_ret_i X hr K dX2_renumbered_6
  · skip
    refine ww_iload_n 8 X dX2_renumbered_7 rfl rfl ?_
    refine ww_iload_n 9 X dX2_renumbered_8 rfl rfl ?_
    refine ww_icmp_ne 16 12 X dX2_renumbered_9 (by decide) rfl h (fun h => ?_) (fun h => ?_)
    · skip
      refine ww_iload_n 13 X dX2_renumbered_12 rfl rfl ?_
      refine ww_goto 17 X dX2_renumbered_13 (by decide) ?_
      obtain rfl := Option.some.inj h
      exact ww_ret_i X hr K dX2_renumbered_17
    · skip
      refine ww_iload_n 17 X dX2_renumbered_16 rfl rfl ?_
      obtain rfl := Option.some.inj h
      exact ww_ret_i X hr K dX2_renumbered_17
theorem ct_X2_renumbered (l : Launch) (G : hb_Gam) (p0 : Int32) (p1 : Int32) (p2 : Int32) (σ : hb_Mem) {x : Int32} (h : fn_X2_renumbered p0 p1 p2 = some x) : hb_C l yX2_renumbered cX2_renumbered 3 (some .int) 0 0 ΛC G [.int p0, .int p1, .int p2] σ (some (.int x)) σ :=
  hb_C.of [some (.int p0), some (.int p1), some (.int p2)] (by decide +kernel) (Nat.le_of_ble_eq_true rfl) (by intro v hv; simp only [List.mem_cons, List.not_mem_nil, or_false] at hv; rcases hv with rfl | rfl | rfl <;> rfl) rfl (hb_pad [.int p0, .int p1, .int p2] 0) (fun Γ X hr => wk_X2_renumbered X hr p0 p1 p2 σ h rfl)
def fn_X5_pageAt (p0 : Int32) : Option Int32 :=
some (p0 >>> (5 &&& 31))
set_option maxRecDepth 100000 in
set_option maxHeartbeats 4000000 in
theorem wk_X5_pageAt {Γ : hb_Ctx} {G : hb_Gam} {Q : State → Prop} (X : hb_X Γ cX5_pageAt 1 RX5 ΛC G 0 0) (hr : hb_ret Γ = (some .int)) (p0 : Int32) (σ : hb_Mem) {x : Int32} (h : fn_X5_pageAt p0 = some x) (K : Q = hb_Q Γ ΛC G (some (.int x)) σ) : hb_W Γ ΛC G 1 Q σ [some (.int p0)] [] 0 := by
  unfold fn_X5_pageAt at h
  refine ww_iload_n 1 X dX5_pageAt_0 rfl rfl ?_
  refine ww_iconst (v := 5) 2 X dX5_pageAt_1 rfl (by decide) ?_
  refine ww_ishr 3 X dX5_pageAt_2 rfl ?_
  obtain rfl := Option.some.inj h
  exact ww_ret_i X hr K dX5_pageAt_3
theorem ct_X5_pageAt (l : Launch) (G : hb_Gam) (p0 : Int32) (σ : hb_Mem) {x : Int32} (h : fn_X5_pageAt p0 = some x) : hb_C l yX5_pageAt cX5_pageAt 1 (some .int) 0 0 ΛC G [.int p0] σ (some (.int x)) σ :=
  hb_C.of [some (.int p0)] (by decide +kernel) (Nat.le_of_ble_eq_true rfl) (by intro v hv; simp only [List.mem_cons, List.not_mem_nil, or_false] at hv; subst hv; rfl) rfl (hb_pad [.int p0] 0) (fun Γ X hr => wk_X5_pageAt X hr p0 σ h rfl)
def fn_X5_flagsAt (p0 : Int32) : Option Int32 :=
some (p0 &&& 31)
set_option maxRecDepth 100000 in
set_option maxHeartbeats 4000000 in
theorem wk_X5_flagsAt {Γ : hb_Ctx} {G : hb_Gam} {Q : State → Prop} (X : hb_X Γ cX5_flagsAt 1 RX5 ΛC G 0 0) (hr : hb_ret Γ = (some .int)) (p0 : Int32) (σ : hb_Mem) {x : Int32} (h : fn_X5_flagsAt p0 = some x) (K : Q = hb_Q Γ ΛC G (some (.int x)) σ) : hb_W Γ ΛC G 1 Q σ [some (.int p0)] [] 0 := by
  unfold fn_X5_flagsAt at h
  refine ww_iload_n 1 X dX5_flagsAt_0 rfl rfl ?_
  refine ww_bipush (v := 31) 3 X dX5_flagsAt_1 rfl (by decide) ?_
  refine ww_iand 4 X dX5_flagsAt_3 rfl ?_
  obtain rfl := Option.some.inj h
  exact ww_ret_i X hr K dX5_flagsAt_4
theorem ct_X5_flagsAt (l : Launch) (G : hb_Gam) (p0 : Int32) (σ : hb_Mem) {x : Int32} (h : fn_X5_flagsAt p0 = some x) : hb_C l yX5_flagsAt cX5_flagsAt 1 (some .int) 0 0 ΛC G [.int p0] σ (some (.int x)) σ :=
  hb_C.of [some (.int p0)] (by decide +kernel) (Nat.le_of_ble_eq_true rfl) (by intro v hv; simp only [List.mem_cons, List.not_mem_nil, or_false] at hv; subst hv; rfl) rfl (hb_pad [.int p0] 0) (fun Γ X hr => wk_X5_flagsAt X hr p0 σ h rfl)
def fn_X5_placeOf (p0 : Int32) (p1 : Int32) : Option Int32 :=
some ((p0 * 32) + p1)
set_option maxRecDepth 100000 in
set_option maxHeartbeats 4000000 in
theorem wk_X5_placeOf {Γ : hb_Ctx} {G : hb_Gam} {Q : State → Prop} (X : hb_X Γ cX5_placeOf 2 RX5 ΛC G 0 0) (hr : hb_ret Γ = (some .int)) (p0 : Int32) (p1 : Int32) (σ : hb_Mem) {x : Int32} (h : fn_X5_placeOf p0 p1 = some x) (K : Q = hb_Q Γ ΛC G (some (.int x)) σ) : hb_W Γ ΛC G 2 Q σ [some (.int p0), some (.int p1)] [] 0 := by
  unfold fn_X5_placeOf at h
  refine ww_iload_n 1 X dX5_placeOf_0 rfl rfl ?_
  refine ww_bipush (v := 32) 3 X dX5_placeOf_1 rfl (by decide) ?_
  refine ww_imul 4 X dX5_placeOf_3 rfl ?_
  refine ww_iload_n 5 X dX5_placeOf_4 rfl rfl ?_
  refine ww_iadd 6 X dX5_placeOf_5 rfl ?_
  obtain rfl := Option.some.inj h
  exact ww_ret_i X hr K dX5_placeOf_6
theorem ct_X5_placeOf (l : Launch) (G : hb_Gam) (p0 : Int32) (p1 : Int32) (σ : hb_Mem) {x : Int32} (h : fn_X5_placeOf p0 p1 = some x) : hb_C l yX5_placeOf cX5_placeOf 2 (some .int) 0 0 ΛC G [.int p0, .int p1] σ (some (.int x)) σ :=
  hb_C.of [some (.int p0), some (.int p1)] (by decide +kernel) (Nat.le_of_ble_eq_true rfl) (by intro v hv; simp only [List.mem_cons, List.not_mem_nil, or_false] at hv; rcases hv with rfl | rfl <;> rfl) rfl (hb_pad [.int p0, .int p1] 0) (fun Γ X hr => wk_X5_placeOf X hr p0 p1 σ h rfl)
def fn_X2_moved (p0 : Int32) (p1 : Int32) (p2 : Int32) : Option Int32 :=
if p0 = (-1) then (
some (-1))
else (
(fn_X5_pageAt p0).bind fun x1 =>
(fn_X2_renumbered x1 p1 p2).bind fun x2 =>
(fn_X5_flagsAt p0).bind fun x3 =>
(fn_X5_placeOf x2 x3).bind fun x4 =>
some x4)
set_option maxRecDepth 100000 in
set_option maxHeartbeats 4000000 in
theorem wk_X2_moved {Γ : hb_Ctx} {G : hb_Gam} {Q : State → Prop} (X : hb_X Γ cX2_moved 3 RX2 ΛC G 1 22) (hr : hb_ret Γ = (some .int)) (p0 : Int32) (p1 : Int32) (p2 : Int32) (σ : hb_Mem) {x : Int32} (h : fn_X2_moved p0 p1 p2 = some x) (K : Q = hb_Q Γ ΛC G (some (.int x)) σ) : hb_W Γ ΛC G 3 Q σ [some (.int p0), some (.int p1), some (.int p2)] [] 0 := by
  unfold fn_X2_moved at h
  refine ww_iload_n 1 X dX2_moved_0 rfl rfl ?_
  refine ww_iconst (v := (-1)) 2 X dX2_moved_1 rfl (by decide) ?_
  refine ww_icmp_ne 7 5 X dX2_moved_2 (by decide) rfl h (fun h => ?_) (fun h => ?_)
  · skip
    refine ww_iconst (v := (-1)) 6 X dX2_moved_5 rfl (by decide) ?_
    obtain rfl := Option.some.inj h
    exact ww_ret_i X hr K dX2_moved_6
  · skip
    refine ww_iload_n 8 X dX2_moved_7 rfl rfl ?_
    obtain ⟨x1, hx1, h⟩ := hb_bind_of h
    refine ww_callSN (rest := []) (st' := [.int x1]) 11 X (ct_X5_pageAt (hb_l Γ) G p0 σ hx1) cw_X2_87 rfl ⟨by decide, by decide⟩ (Nat.le_of_ble_eq_true rfl) rfl rfl dX2_moved_8 rfl ?_
    refine ww_iload_n 12 X dX2_moved_11 rfl rfl ?_
    refine ww_iload_n 13 X dX2_moved_12 rfl rfl ?_
    obtain ⟨x2, hx2, h⟩ := hb_bind_of h
    refine ww_callS (rest := []) (st' := [.int x2]) 16 X (ct_X2_renumbered (hb_l Γ) G x1 p1 p2 σ hx2) cw_X2_80 rfl ⟨by decide, by decide⟩ (Nat.le_of_ble_eq_true rfl) rfl rfl dX2_moved_13 rfl ?_
    refine ww_iload_n 17 X dX2_moved_16 rfl rfl ?_
    obtain ⟨x3, hx3, h⟩ := hb_bind_of h
    refine ww_callSN (rest := [.int x2]) (st' := [.int x3, .int x2]) 20 X (ct_X5_flagsAt (hb_l Γ) G p0 σ hx3) cw_X2_90 rfl ⟨by decide, by decide⟩ (Nat.le_of_ble_eq_true rfl) rfl rfl dX2_moved_17 rfl ?_
    obtain ⟨x4, hx4, h⟩ := hb_bind_of h
    refine ww_callSN (rest := []) (st' := [.int x4]) 23 X (ct_X5_placeOf (hb_l Γ) G x2 x3 σ hx4) cw_X2_93 rfl ⟨by decide, by decide⟩ (Nat.le_of_ble_eq_true rfl) rfl rfl dX2_moved_20 rfl ?_
    obtain rfl := Option.some.inj h
    exact ww_ret_i X hr K dX2_moved_23
theorem ct_X2_moved (l : Launch) (G : hb_Gam) (p0 : Int32) (p1 : Int32) (p2 : Int32) (σ : hb_Mem) {x : Int32} (h : fn_X2_moved p0 p1 p2 = some x) : hb_C l yX2_moved cX2_moved 3 (some .int) 1 22 ΛC G [.int p0, .int p1, .int p2] σ (some (.int x)) σ :=
  hb_C.of [some (.int p0), some (.int p1), some (.int p2)] (by decide +kernel) (Nat.le_of_ble_eq_true rfl) (by intro v hv; simp only [List.mem_cons, List.not_mem_nil, or_false] at hv; rcases hv with rfl | rfl | rfl <;> rfl) rfl (hb_pad [.int p0, .int p1, .int p2] 0) (fun Γ X hr => wk_X2_moved X hr p0 p1 p2 σ h rfl)
def lb_X2_swapPages_38 (k : Nat) (p1 : Int32) (p2 : Int32) (w3 : Int32) (σ : hb_Mem) : Option ((Int32 × hb_Mem) ⊕ hb_Mem) :=
if 3 ≤ w3 then (
some (.inr σ))
else (
(fn_X5_slotOf p1 w3).bind fun x5 =>
(fn_X5_slotOf p2 w3).bind fun x6 =>
(fn_X1_swap (hc_rf k 5) x5 x6 σ).bind fun x7 =>
(fn_X1_swap (hc_rf k 6) x5 x6 x7).bind fun x8 =>
(fn_X1_swap (hc_rf k 7) x5 x6 x8).bind fun x9 =>
hb_nm (w3 + 1) fun v10 =>
some (.inl (v10, x9)))
set_option maxRecDepth 100000 in
set_option maxHeartbeats 4000000 in
theorem lk_X2_swapPages_38 {Γ : hb_Ctx} {G : hb_Gam} {Q : State → Prop} (X : hb_X Γ cX2_swapPages 6 RX2 ΛC G 2 45)  (k : Nat) (hk : hb_is ΛC k 2) (p1 : Int32) (p2 : Int32) (w3 : Int32) (σ : hb_Mem) {x : ((Int32 × hb_Mem) ⊕ hb_Mem)} (h : lb_X2_swapPages_38 k p1 p2 w3 σ = some x) (K : Sum.elim (fun s : (Int32 × hb_Mem) => hb_W Γ ΛC G 6 Q s.2 [some (.ref (G.2.2.2 k)), some (.int p1), some (.int p2), some (.int s.1), none, none] [] 38) (fun t : hb_Mem => hb_W Γ ΛC G 6 Q t [some (.ref (G.2.2.2 k)), some (.int p1), some (.int p2), none, none, none] [] 96) x) : hb_W Γ ΛC G 6 Q σ [some (.ref (G.2.2.2 k)), some (.int p1), some (.int p2), some (.int w3), none, none] [] 38 := by
  unfold lb_X2_swapPages_38 at h
  refine ww_iload_n 39 X dX2_swapPages_38 rfl rfl ?_
  refine ww_iconst (v := 3) 40 X dX2_swapPages_39 rfl (by decide) ?_
  refine ww_icmp_ge 96 43 X dX2_swapPages_40 (by decide) rfl h (fun h => ?_) (fun h => ?_)
  · skip
    obtain rfl := Option.some.inj h
    refine ww_kill [3] (L' := [some (.ref (G.2.2.2 k)), some (.int p1), some (.int p2), none, none, none]) rfl ?_
    exact K
  · skip
    refine ww_iload_n 44 X dX2_swapPages_43 rfl rfl ?_
    refine ww_iload_n 45 X dX2_swapPages_44 rfl rfl ?_
    obtain ⟨x5, hx5, h⟩ := hb_bind_of h
    refine ww_callSN (rest := []) (st' := [.int x5]) 48 X (ct_X5_slotOf (hb_l Γ) G p1 w3 σ hx5) cw_X2_73 rfl ⟨by decide, by decide⟩ (Nat.le_of_ble_eq_true rfl) rfl rfl dX2_swapPages_45 rfl ?_
    refine ww_istore 50 X (L' := [some (.ref (G.2.2.2 k)), some (.int p1), some (.int p2), some (.int w3), some (.int x5), none]) dX2_swapPages_48 rfl (Nat.le_of_ble_eq_true rfl) rfl rfl ?_
    refine ww_iload_n 51 X dX2_swapPages_50 rfl rfl ?_
    refine ww_iload_n 52 X dX2_swapPages_51 rfl rfl ?_
    obtain ⟨x6, hx6, h⟩ := hb_bind_of h
    refine ww_callSN (rest := []) (st' := [.int x6]) 55 X (ct_X5_slotOf (hb_l Γ) G p2 w3 σ hx6) cw_X2_73 rfl ⟨by decide, by decide⟩ (Nat.le_of_ble_eq_true rfl) rfl rfl dX2_swapPages_52 rfl ?_
    refine ww_istore 57 X (L' := [some (.ref (G.2.2.2 k)), some (.int p1), some (.int p2), some (.int w3), some (.int x5), some (.int x6)]) dX2_swapPages_55 rfl (Nat.le_of_ble_eq_true rfl) rfl rfl ?_
    refine ww_aload_n 58 X dX2_swapPages_57 rfl rfl ?_
    refine ww_getr (ci := 2) (j := 5) 61 X cf_2 tw_X2_33 (by decide) rfl hk dX2_swapPages_58 rfl ?_
    refine ww_iload 63 X dX2_swapPages_61 rfl rfl ?_
    refine ww_iload 65 X dX2_swapPages_63 rfl rfl ?_
    obtain ⟨x7, hx7, h⟩ := hb_bind_of h
    refine ww_callV (ci := 1) (rest := []) (st' := []) 68 X (ct_X1_swap (hb_l Γ) G (hc_rf k 5) (hc_kr_2_5 hk) x5 x6 σ hx7) cw_X2_77 rfl (by decide) (hc_kr_2_5 hk) rfl ⟨by decide, by decide⟩ (Nat.le_of_ble_eq_true rfl) rfl rfl dX2_swapPages_65 rfl ?_
    refine ww_aload_n 69 X dX2_swapPages_68 rfl rfl ?_
    refine ww_getr (ci := 2) (j := 6) 72 X cf_2 tw_X2_36 (by decide) rfl hk dX2_swapPages_69 rfl ?_
    refine ww_iload 74 X dX2_swapPages_72 rfl rfl ?_
    refine ww_iload 76 X dX2_swapPages_74 rfl rfl ?_
    obtain ⟨x8, hx8, h⟩ := hb_bind_of h
    refine ww_callV (ci := 1) (rest := []) (st' := []) 79 X (ct_X1_swap (hb_l Γ) G (hc_rf k 6) (hc_kr_2_6 hk) x5 x6 x7 hx8) cw_X2_77 rfl (by decide) (hc_kr_2_6 hk) rfl ⟨by decide, by decide⟩ (Nat.le_of_ble_eq_true rfl) rfl rfl dX2_swapPages_76 rfl ?_
    refine ww_aload_n 80 X dX2_swapPages_79 rfl rfl ?_
    refine ww_getr (ci := 2) (j := 7) 83 X cf_2 tw_X2_39 (by decide) rfl hk dX2_swapPages_80 rfl ?_
    refine ww_iload 85 X dX2_swapPages_83 rfl rfl ?_
    refine ww_iload 87 X dX2_swapPages_85 rfl rfl ?_
    obtain ⟨x9, hx9, h⟩ := hb_bind_of h
    refine ww_callV (ci := 1) (rest := []) (st' := []) 90 X (ct_X1_swap (hb_l Γ) G (hc_rf k 7) (hc_kr_2_7 hk) x5 x6 x8 hx9) cw_X2_77 rfl (by decide) (hc_kr_2_7 hk) rfl ⟨by decide, by decide⟩ (Nat.le_of_ble_eq_true rfl) rfl rfl dX2_swapPages_87 rfl ?_
    obtain ⟨v10, ev10, h⟩ := hb_nm_of h
    refine ww_iinc 93 X (L' := [some (.ref (G.2.2.2 k)), some (.int p1), some (.int p2), some (.int v10), some (.int x5), some (.int x6)]) dX2_swapPages_90 rfl rfl ev10.symm rfl ?_
    refine ww_goto 38 X dX2_swapPages_93 (by decide) ?_
    obtain rfl := Option.some.inj h
    refine ww_kill [4, 5] (L' := [some (.ref (G.2.2.2 k)), some (.int p1), some (.int p2), some (.int v10), none, none]) rfl ?_
    exact K
def ll_X2_swapPages_38 (k : Nat) (p1 : Int32) (p2 : Int32) : (Int32 × hb_Mem) → Option hb_Mem := hb_lp (fun s => lb_X2_swapPages_38 k p1 p2 s.1 s.2) hb_F
theorem lw_X2_swapPages_38 {Γ : hb_Ctx} {G : hb_Gam} {Q : State → Prop} (X : hb_X Γ cX2_swapPages 6 RX2 ΛC G 2 45)  (k : Nat) (hk : hb_is ΛC k 2) (p1 : Int32) (p2 : Int32) (s : (Int32 × hb_Mem)) (t : hb_Mem) (h : ll_X2_swapPages_38 k p1 p2 s = some t) (K : (fun t : hb_Mem => hb_W Γ ΛC G 6 Q t [some (.ref (G.2.2.2 k)), some (.int p1), some (.int p2), none, none, none] [] 96) t) : hb_W Γ ΛC G 6 Q s.2 [some (.ref (G.2.2.2 k)), some (.int p1), some (.int p2), some (.int s.1), none, none] [] 38 :=
  hb_lp_w (P := fun s : (Int32 × hb_Mem) => hb_W Γ ΛC G 6 Q s.2 [some (.ref (G.2.2.2 k)), some (.int p1), some (.int p2), some (.int s.1), none, none] [] 38) (E := (fun t : hb_Mem => hb_W Γ ΛC G 6 Q t [some (.ref (G.2.2.2 k)), some (.int p1), some (.int p2), none, none, none] [] 96)) (fun s x hx K => lk_X2_swapPages_38 X k hk p1 p2 s.1 s.2 hx K) _ s t h K
def lb_X2_swapPages_98 (k : Nat) (p1 : Int32) (p2 : Int32) (w3 : Int32) (σ : hb_Mem) : Option ((Int32 × hb_Mem) ⊕ hb_Mem) :=
if 96 ≤ w3 then (
some (.inr σ))
else (
(fn_X1_at (hc_rf k 5) w3 σ).bind fun x12 =>
(fn_X2_renumbered x12 p1 p2).bind fun x13 =>
(fn_X1_put (hc_rf k 5) w3 x13 σ).bind fun x14 =>
hb_nm (w3 + 1) fun v15 =>
some (.inl (v15, x14)))
set_option maxRecDepth 100000 in
set_option maxHeartbeats 4000000 in
theorem lk_X2_swapPages_98 {Γ : hb_Ctx} {G : hb_Gam} {Q : State → Prop} (X : hb_X Γ cX2_swapPages 6 RX2 ΛC G 2 45)  (k : Nat) (hk : hb_is ΛC k 2) (p1 : Int32) (p2 : Int32) (w3 : Int32) (σ : hb_Mem) {x : ((Int32 × hb_Mem) ⊕ hb_Mem)} (h : lb_X2_swapPages_98 k p1 p2 w3 σ = some x) (K : Sum.elim (fun s : (Int32 × hb_Mem) => hb_W Γ ΛC G 6 Q s.2 [some (.ref (G.2.2.2 k)), some (.int p1), some (.int p2), some (.int s.1), none, none] [] 98) (fun t : hb_Mem => hb_W Γ ΛC G 6 Q t [some (.ref (G.2.2.2 k)), some (.int p1), some (.int p2), none, none, none] [] 131) x) : hb_W Γ ΛC G 6 Q σ [some (.ref (G.2.2.2 k)), some (.int p1), some (.int p2), some (.int w3), none, none] [] 98 := by
  unfold lb_X2_swapPages_98 at h
  refine ww_iload_n 99 X dX2_swapPages_98 rfl rfl ?_
  refine ww_bipush (v := 96) 101 X dX2_swapPages_99 rfl (by decide) ?_
  refine ww_icmp_ge 131 104 X dX2_swapPages_101 (by decide) rfl h (fun h => ?_) (fun h => ?_)
  · skip
    obtain rfl := Option.some.inj h
    refine ww_kill [3] (L' := [some (.ref (G.2.2.2 k)), some (.int p1), some (.int p2), none, none, none]) rfl ?_
    exact K
  · skip
    refine ww_aload_n 105 X dX2_swapPages_104 rfl rfl ?_
    refine ww_getr (ci := 2) (j := 5) 108 X cf_2 tw_X2_33 (by decide) rfl hk dX2_swapPages_105 rfl ?_
    refine ww_iload_n 109 X dX2_swapPages_108 rfl rfl ?_
    refine ww_aload_n 110 X dX2_swapPages_109 rfl rfl ?_
    refine ww_getr (ci := 2) (j := 5) 113 X cf_2 tw_X2_33 (by decide) rfl hk dX2_swapPages_110 rfl ?_
    refine ww_iload_n 114 X dX2_swapPages_113 rfl rfl ?_
    obtain ⟨x12, hx12, h⟩ := hb_bind_of h
    refine ww_callV (ci := 1) (rest := [.int w3, .ref (G.2.2.2 (hc_rf k 5))]) (st' := [.int x12, .int w3, .ref (G.2.2.2 (hc_rf k 5))]) 117 X (ct_X1_at (hb_l Γ) G (hc_rf k 5) (hc_kr_2_5 hk) w3 σ hx12) cw_X2_62 rfl (by decide) (hc_kr_2_5 hk) rfl ⟨by decide, by decide⟩ (Nat.le_of_ble_eq_true rfl) rfl rfl dX2_swapPages_114 rfl ?_
    refine ww_iload_n 118 X dX2_swapPages_117 rfl rfl ?_
    refine ww_iload_n 119 X dX2_swapPages_118 rfl rfl ?_
    obtain ⟨x13, hx13, h⟩ := hb_bind_of h
    refine ww_callS (rest := [.int w3, .ref (G.2.2.2 (hc_rf k 5))]) (st' := [.int x13, .int w3, .ref (G.2.2.2 (hc_rf k 5))]) 122 X (ct_X2_renumbered (hb_l Γ) G x12 p1 p2 σ hx13) cw_X2_80 rfl ⟨by decide, by decide⟩ (Nat.le_of_ble_eq_true rfl) rfl rfl dX2_swapPages_119 rfl ?_
    obtain ⟨x14, hx14, h⟩ := hb_bind_of h
    refine ww_callV (ci := 1) (rest := []) (st' := []) 125 X (ct_X1_put (hb_l Γ) G (hc_rf k 5) (hc_kr_2_5 hk) w3 x13 σ hx14) cw_X2_66 rfl (by decide) (hc_kr_2_5 hk) rfl ⟨by decide, by decide⟩ (Nat.le_of_ble_eq_true rfl) rfl rfl dX2_swapPages_122 rfl ?_
    obtain ⟨v15, ev15, h⟩ := hb_nm_of h
    refine ww_iinc 128 X (L' := [some (.ref (G.2.2.2 k)), some (.int p1), some (.int p2), some (.int v15), none, none]) dX2_swapPages_125 rfl rfl ev15.symm rfl ?_
    refine ww_goto 98 X dX2_swapPages_128 (by decide) ?_
    obtain rfl := Option.some.inj h
    exact K
def ll_X2_swapPages_98 (k : Nat) (p1 : Int32) (p2 : Int32) : (Int32 × hb_Mem) → Option hb_Mem := hb_lp (fun s => lb_X2_swapPages_98 k p1 p2 s.1 s.2) hb_F
theorem lw_X2_swapPages_98 {Γ : hb_Ctx} {G : hb_Gam} {Q : State → Prop} (X : hb_X Γ cX2_swapPages 6 RX2 ΛC G 2 45)  (k : Nat) (hk : hb_is ΛC k 2) (p1 : Int32) (p2 : Int32) (s : (Int32 × hb_Mem)) (t : hb_Mem) (h : ll_X2_swapPages_98 k p1 p2 s = some t) (K : (fun t : hb_Mem => hb_W Γ ΛC G 6 Q t [some (.ref (G.2.2.2 k)), some (.int p1), some (.int p2), none, none, none] [] 131) t) : hb_W Γ ΛC G 6 Q s.2 [some (.ref (G.2.2.2 k)), some (.int p1), some (.int p2), some (.int s.1), none, none] [] 98 :=
  hb_lp_w (P := fun s : (Int32 × hb_Mem) => hb_W Γ ΛC G 6 Q s.2 [some (.ref (G.2.2.2 k)), some (.int p1), some (.int p2), some (.int s.1), none, none] [] 98) (E := (fun t : hb_Mem => hb_W Γ ΛC G 6 Q t [some (.ref (G.2.2.2 k)), some (.int p1), some (.int p2), none, none, none] [] 131)) (fun s x hx K => lk_X2_swapPages_98 X k hk p1 p2 s.1 s.2 hx K) _ s t h K
def lb_X2_swapPages_133 (k : Nat) (p1 : Int32) (p2 : Int32) (w3 : Int32) (σ : hb_Mem) : Option ((Int32 × hb_Mem) ⊕ hb_Mem) :=
if 2 ≤ w3 then (
some (.inr σ))
else (
(fn_X1_at (hc_rf k 8) w3 σ).bind fun x17 =>
(fn_X2_moved x17 p1 p2).bind fun x18 =>
(fn_X1_put (hc_rf k 8) w3 x18 σ).bind fun x19 =>
hb_nm (w3 + 1) fun v20 =>
some (.inl (v20, x19)))
set_option maxRecDepth 100000 in
set_option maxHeartbeats 4000000 in
theorem lk_X2_swapPages_133 {Γ : hb_Ctx} {G : hb_Gam} {Q : State → Prop} (X : hb_X Γ cX2_swapPages 6 RX2 ΛC G 2 45)  (k : Nat) (hk : hb_is ΛC k 2) (p1 : Int32) (p2 : Int32) (w3 : Int32) (σ : hb_Mem) {x : ((Int32 × hb_Mem) ⊕ hb_Mem)} (h : lb_X2_swapPages_133 k p1 p2 w3 σ = some x) (K : Sum.elim (fun s : (Int32 × hb_Mem) => hb_W Γ ΛC G 6 Q s.2 [some (.ref (G.2.2.2 k)), some (.int p1), some (.int p2), some (.int s.1), none, none] [] 133) (fun t : hb_Mem => hb_W Γ ΛC G 6 Q t [some (.ref (G.2.2.2 k)), some (.int p1), some (.int p2), none, none, none] [] 165) x) : hb_W Γ ΛC G 6 Q σ [some (.ref (G.2.2.2 k)), some (.int p1), some (.int p2), some (.int w3), none, none] [] 133 := by
  unfold lb_X2_swapPages_133 at h
  refine ww_iload_n 134 X dX2_swapPages_133 rfl rfl ?_
  refine ww_iconst (v := 2) 135 X dX2_swapPages_134 rfl (by decide) ?_
  refine ww_icmp_ge 165 138 X dX2_swapPages_135 (by decide) rfl h (fun h => ?_) (fun h => ?_)
  · skip
    obtain rfl := Option.some.inj h
    refine ww_kill [3] (L' := [some (.ref (G.2.2.2 k)), some (.int p1), some (.int p2), none, none, none]) rfl ?_
    exact K
  · skip
    refine ww_aload_n 139 X dX2_swapPages_138 rfl rfl ?_
    refine ww_getr (ci := 2) (j := 8) 142 X cf_2 tw_X2_42 (by decide) rfl hk dX2_swapPages_139 rfl ?_
    refine ww_iload_n 143 X dX2_swapPages_142 rfl rfl ?_
    refine ww_aload_n 144 X dX2_swapPages_143 rfl rfl ?_
    refine ww_getr (ci := 2) (j := 8) 147 X cf_2 tw_X2_42 (by decide) rfl hk dX2_swapPages_144 rfl ?_
    refine ww_iload_n 148 X dX2_swapPages_147 rfl rfl ?_
    obtain ⟨x17, hx17, h⟩ := hb_bind_of h
    refine ww_callV (ci := 1) (rest := [.int w3, .ref (G.2.2.2 (hc_rf k 8))]) (st' := [.int x17, .int w3, .ref (G.2.2.2 (hc_rf k 8))]) 151 X (ct_X1_at (hb_l Γ) G (hc_rf k 8) (hc_kr_2_8 hk) w3 σ hx17) cw_X2_62 rfl (by decide) (hc_kr_2_8 hk) rfl ⟨by decide, by decide⟩ (Nat.le_of_ble_eq_true rfl) rfl rfl dX2_swapPages_148 rfl ?_
    refine ww_iload_n 152 X dX2_swapPages_151 rfl rfl ?_
    refine ww_iload_n 153 X dX2_swapPages_152 rfl rfl ?_
    obtain ⟨x18, hx18, h⟩ := hb_bind_of h
    refine ww_callS (rest := [.int w3, .ref (G.2.2.2 (hc_rf k 8))]) (st' := [.int x18, .int w3, .ref (G.2.2.2 (hc_rf k 8))]) 156 X (ct_X2_moved (hb_l Γ) G x17 p1 p2 σ hx18) cw_X2_84 rfl ⟨by decide, by decide⟩ (Nat.le_of_ble_eq_true rfl) rfl rfl dX2_swapPages_153 rfl ?_
    obtain ⟨x19, hx19, h⟩ := hb_bind_of h
    refine ww_callV (ci := 1) (rest := []) (st' := []) 159 X (ct_X1_put (hb_l Γ) G (hc_rf k 8) (hc_kr_2_8 hk) w3 x18 σ hx19) cw_X2_66 rfl (by decide) (hc_kr_2_8 hk) rfl ⟨by decide, by decide⟩ (Nat.le_of_ble_eq_true rfl) rfl rfl dX2_swapPages_156 rfl ?_
    obtain ⟨v20, ev20, h⟩ := hb_nm_of h
    refine ww_iinc 162 X (L' := [some (.ref (G.2.2.2 k)), some (.int p1), some (.int p2), some (.int v20), none, none]) dX2_swapPages_159 rfl rfl ev20.symm rfl ?_
    refine ww_goto 133 X dX2_swapPages_162 (by decide) ?_
    obtain rfl := Option.some.inj h
    exact K
def ll_X2_swapPages_133 (k : Nat) (p1 : Int32) (p2 : Int32) : (Int32 × hb_Mem) → Option hb_Mem := hb_lp (fun s => lb_X2_swapPages_133 k p1 p2 s.1 s.2) hb_F
theorem lw_X2_swapPages_133 {Γ : hb_Ctx} {G : hb_Gam} {Q : State → Prop} (X : hb_X Γ cX2_swapPages 6 RX2 ΛC G 2 45)  (k : Nat) (hk : hb_is ΛC k 2) (p1 : Int32) (p2 : Int32) (s : (Int32 × hb_Mem)) (t : hb_Mem) (h : ll_X2_swapPages_133 k p1 p2 s = some t) (K : (fun t : hb_Mem => hb_W Γ ΛC G 6 Q t [some (.ref (G.2.2.2 k)), some (.int p1), some (.int p2), none, none, none] [] 165) t) : hb_W Γ ΛC G 6 Q s.2 [some (.ref (G.2.2.2 k)), some (.int p1), some (.int p2), some (.int s.1), none, none] [] 133 :=
  hb_lp_w (P := fun s : (Int32 × hb_Mem) => hb_W Γ ΛC G 6 Q s.2 [some (.ref (G.2.2.2 k)), some (.int p1), some (.int p2), some (.int s.1), none, none] [] 133) (E := (fun t : hb_Mem => hb_W Γ ΛC G 6 Q t [some (.ref (G.2.2.2 k)), some (.int p1), some (.int p2), none, none, none] [] 165)) (fun s x hx K => lk_X2_swapPages_133 X k hk p1 p2 s.1 s.2 hx K) _ s t h K
def fn_X2_swapPages (k : Nat) (p1 : Int32) (p2 : Int32) (σ : hb_Mem) : Option hb_Mem :=
(fn_X1_swap (hc_rf k 1) p1 p2 σ).bind fun x1 =>
(fn_X1_swap (hc_rf k 2) p1 p2 x1).bind fun x2 =>
(fn_X1_swap (hc_rf k 3) p1 p2 x2).bind fun x3 =>
(fn_X1_swap (hc_rf k 4) p1 p2 x3).bind fun x4 =>
(ll_X2_swapPages_38 k p1 p2 (0, x4)).bind fun t11 =>
(ll_X2_swapPages_98 k p1 p2 (0, t11)).bind fun t16 =>
(ll_X2_swapPages_133 k p1 p2 (0, t16)).bind fun t21 =>
(fn_X2_moved (t21 k 10) p1 p2).bind fun x22 =>
hb_nm (hb_up t21 k 10 x22) fun σ23 =>
some σ23
set_option maxRecDepth 100000 in
set_option maxHeartbeats 4000000 in
theorem wk_X2_swapPages {Γ : hb_Ctx} {G : hb_Gam} {Q : State → Prop} (X : hb_X Γ cX2_swapPages 6 RX2 ΛC G 2 45) (hr : hb_ret Γ = none) (k : Nat) (hk : hb_is ΛC k 2) (p1 : Int32) (p2 : Int32) (σ : hb_Mem) {x : hb_Mem} (h : fn_X2_swapPages k p1 p2 σ = some x) (K : Q = hb_Q Γ ΛC G none x) : hb_W Γ ΛC G 6 Q σ [some (.ref (G.2.2.2 k)), some (.int p1), some (.int p2), none, none, none] [] 0 := by
  unfold fn_X2_swapPages at h
  refine ww_aload_n 1 X dX2_swapPages_0 rfl rfl ?_
  refine ww_getr (ci := 2) (j := 1) 4 X cf_2 tw_X2_20 (by decide) rfl hk dX2_swapPages_1 rfl ?_
  refine ww_iload_n 5 X dX2_swapPages_4 rfl rfl ?_
  refine ww_iload_n 6 X dX2_swapPages_5 rfl rfl ?_
  obtain ⟨x1, hx1, h⟩ := hb_bind_of h
  refine ww_callV (ci := 1) (rest := []) (st' := []) 9 X (ct_X1_swap (hb_l Γ) G (hc_rf k 1) (hc_kr_2_1 hk) p1 p2 σ hx1) cw_X2_77 rfl (by decide) (hc_kr_2_1 hk) rfl ⟨by decide, by decide⟩ (Nat.le_of_ble_eq_true rfl) rfl rfl dX2_swapPages_6 rfl ?_
  refine ww_aload_n 10 X dX2_swapPages_9 rfl rfl ?_
  refine ww_getr (ci := 2) (j := 2) 13 X cf_2 tw_X2_24 (by decide) rfl hk dX2_swapPages_10 rfl ?_
  refine ww_iload_n 14 X dX2_swapPages_13 rfl rfl ?_
  refine ww_iload_n 15 X dX2_swapPages_14 rfl rfl ?_
  obtain ⟨x2, hx2, h⟩ := hb_bind_of h
  refine ww_callV (ci := 1) (rest := []) (st' := []) 18 X (ct_X1_swap (hb_l Γ) G (hc_rf k 2) (hc_kr_2_2 hk) p1 p2 x1 hx2) cw_X2_77 rfl (by decide) (hc_kr_2_2 hk) rfl ⟨by decide, by decide⟩ (Nat.le_of_ble_eq_true rfl) rfl rfl dX2_swapPages_15 rfl ?_
  refine ww_aload_n 19 X dX2_swapPages_18 rfl rfl ?_
  refine ww_getr (ci := 2) (j := 3) 22 X cf_2 tw_X2_27 (by decide) rfl hk dX2_swapPages_19 rfl ?_
  refine ww_iload_n 23 X dX2_swapPages_22 rfl rfl ?_
  refine ww_iload_n 24 X dX2_swapPages_23 rfl rfl ?_
  obtain ⟨x3, hx3, h⟩ := hb_bind_of h
  refine ww_callV (ci := 1) (rest := []) (st' := []) 27 X (ct_X1_swap (hb_l Γ) G (hc_rf k 3) (hc_kr_2_3 hk) p1 p2 x2 hx3) cw_X2_77 rfl (by decide) (hc_kr_2_3 hk) rfl ⟨by decide, by decide⟩ (Nat.le_of_ble_eq_true rfl) rfl rfl dX2_swapPages_24 rfl ?_
  refine ww_aload_n 28 X dX2_swapPages_27 rfl rfl ?_
  refine ww_getr (ci := 2) (j := 4) 31 X cf_2 tw_X2_30 (by decide) rfl hk dX2_swapPages_28 rfl ?_
  refine ww_iload_n 32 X dX2_swapPages_31 rfl rfl ?_
  refine ww_iload_n 33 X dX2_swapPages_32 rfl rfl ?_
  obtain ⟨x4, hx4, h⟩ := hb_bind_of h
  refine ww_callV (ci := 1) (rest := []) (st' := []) 36 X (ct_X1_swap (hb_l Γ) G (hc_rf k 4) (hc_kr_2_4 hk) p1 p2 x3 hx4) cw_X2_77 rfl (by decide) (hc_kr_2_4 hk) rfl ⟨by decide, by decide⟩ (Nat.le_of_ble_eq_true rfl) rfl rfl dX2_swapPages_33 rfl ?_
  refine ww_iconst (v := 0) 37 X dX2_swapPages_36 rfl (by decide) ?_
  refine ww_istore_n 38 X (L' := [some (.ref (G.2.2.2 k)), some (.int p1), some (.int p2), some (.int 0), none, none]) dX2_swapPages_37 rfl (Nat.le_of_ble_eq_true rfl) rfl rfl ?_
  obtain ⟨t11, ht11, h⟩ := hb_bind_of h
  refine lw_X2_swapPages_38 X k hk p1 p2 (0, x4) t11 ht11 ?_
  refine ww_iconst (v := 0) 97 X dX2_swapPages_96 rfl (by decide) ?_
  refine ww_istore_n 98 X (L' := [some (.ref (G.2.2.2 k)), some (.int p1), some (.int p2), some (.int 0), none, none]) dX2_swapPages_97 rfl (Nat.le_of_ble_eq_true rfl) rfl rfl ?_
  obtain ⟨t16, ht16, h⟩ := hb_bind_of h
  refine lw_X2_swapPages_98 X k hk p1 p2 (0, t11) t16 ht16 ?_
  refine ww_iconst (v := 0) 132 X dX2_swapPages_131 rfl (by decide) ?_
  refine ww_istore_n 133 X (L' := [some (.ref (G.2.2.2 k)), some (.int p1), some (.int p2), some (.int 0), none, none]) dX2_swapPages_132 rfl (Nat.le_of_ble_eq_true rfl) rfl rfl ?_
  obtain ⟨t21, ht21, h⟩ := hb_bind_of h
  refine lw_X2_swapPages_133 X k hk p1 p2 (0, t16) t21 ht21 ?_
  refine ww_aload_n 166 X dX2_swapPages_165 rfl rfl ?_
  refine ww_aload_n 167 X dX2_swapPages_166 rfl rfl ?_
  refine ww_geti (ci := 2) (j := 10) 170 X cf_2 tw_X2_51 (by decide) rfl hk dX2_swapPages_167 rfl ?_
  refine ww_iload_n 171 X dX2_swapPages_170 rfl rfl ?_
  refine ww_iload_n 172 X dX2_swapPages_171 rfl rfl ?_
  obtain ⟨x22, hx22, h⟩ := hb_bind_of h
  refine ww_callS (rest := [.ref (G.2.2.2 k)]) (st' := [.int x22, .ref (G.2.2.2 k)]) 175 X (ct_X2_moved (hb_l Γ) G (t21 k 10) p1 p2 t21 hx22) cw_X2_84 rfl ⟨by decide, by decide⟩ (Nat.le_of_ble_eq_true rfl) rfl rfl dX2_swapPages_172 rfl ?_
  obtain ⟨σ23, eσ23, h⟩ := hb_nm_of h
  refine ww_put (ci := 2) (j := 10) (ty := .int) 178 X cf_2 cg_2 tw_X2_51 (by decide) rfl rfl rfl rfl rfl hk eσ23.symm dX2_swapPages_175 rfl ?_
  obtain rfl := Option.some.inj h
  exact ww_ret_v X hr K dX2_swapPages_178
theorem ct_X2_swapPages (l : Launch) (G : hb_Gam) (k : Nat) (hk : hb_is ΛC k 2) (p1 : Int32) (p2 : Int32) (σ : hb_Mem) {x : hb_Mem} (h : fn_X2_swapPages k p1 p2 σ = some x) : hb_C l yX2_swapPages cX2_swapPages 6 none 2 45 ΛC G [.ref (G.2.2.2 k), .int p1, .int p2] σ none x :=
  hb_C.of [some (.ref (G.2.2.2 k)), some (.int p1), some (.int p2), none, none, none] (by decide +kernel) (Nat.le_of_ble_eq_true rfl) (by intro v hv; simp only [List.mem_cons, List.not_mem_nil, or_false] at hv; rcases hv with rfl | rfl | rfl <;> rfl) rfl (hb_pad [.ref (G.2.2.2 k), .int p1, .int p2] 3) (fun Γ X hr => wk_X2_swapPages X hr k hk p1 p2 σ h rfl)
def lb_X2_allChoices_4 (k : Nat) (w1 : Int32) (w2 : Int32) (σ : hb_Mem) : Option ((Int32 × Int32) ⊕ Int32) :=
if (σ k 0) ≤ w2 then (
some (.inr w1))
else (
(fn_X1_at (hc_rf k 4) w2 σ).bind fun x1 =>
hb_nm (w1 + x1) fun v2 =>
hb_nm (w2 + 1) fun v3 =>
some (.inl (v2, v3)))
set_option maxRecDepth 100000 in
set_option maxHeartbeats 4000000 in
theorem lk_X2_allChoices_4 {Γ : hb_Ctx} {G : hb_Gam} {Q : State → Prop} (X : hb_X Γ cX2_allChoices 3 RX2 ΛC G 1 21)  (k : Nat) (hk : hb_is ΛC k 2) (w1 : Int32) (w2 : Int32) (σ : hb_Mem) {x : ((Int32 × Int32) ⊕ Int32)} (h : lb_X2_allChoices_4 k w1 w2 σ = some x) (K : Sum.elim (fun s : (Int32 × Int32) => hb_W Γ ΛC G 3 Q σ [some (.ref (G.2.2.2 k)), some (.int s.1), some (.int s.2)] [] 4) (fun t : Int32 => hb_W Γ ΛC G 3 Q σ [none, some (.int t), none] [] 29) x) : hb_W Γ ΛC G 3 Q σ [some (.ref (G.2.2.2 k)), some (.int w1), some (.int w2)] [] 4 := by
  unfold lb_X2_allChoices_4 at h
  refine ww_iload_n 5 X dX2_allChoices_4 rfl rfl ?_
  refine ww_aload_n 6 X dX2_allChoices_5 rfl rfl ?_
  refine ww_geti (ci := 2) (j := 0) 9 X cf_2 tw_X2_9 (by decide) rfl hk dX2_allChoices_6 rfl ?_
  refine ww_icmp_ge 29 12 X dX2_allChoices_9 (by decide) rfl h (fun h => ?_) (fun h => ?_)
  · skip
    obtain rfl := Option.some.inj h
    refine ww_kill [0, 2] (L' := [none, some (.int w1), none]) rfl ?_
    exact K
  · skip
    refine ww_iload_n 13 X dX2_allChoices_12 rfl rfl ?_
    refine ww_aload_n 14 X dX2_allChoices_13 rfl rfl ?_
    refine ww_getr (ci := 2) (j := 4) 17 X cf_2 tw_X2_30 (by decide) rfl hk dX2_allChoices_14 rfl ?_
    refine ww_iload_n 18 X dX2_allChoices_17 rfl rfl ?_
    obtain ⟨x1, hx1, h⟩ := hb_bind_of h
    refine ww_callV (ci := 1) (rest := [.int w1]) (st' := [.int x1, .int w1]) 21 X (ct_X1_at (hb_l Γ) G (hc_rf k 4) (hc_kr_2_4 hk) w2 σ hx1) cw_X2_62 rfl (by decide) (hc_kr_2_4 hk) rfl ⟨by decide, by decide⟩ (Nat.le_of_ble_eq_true rfl) rfl rfl dX2_allChoices_18 rfl ?_
    refine ww_iadd 22 X dX2_allChoices_21 rfl ?_
    obtain ⟨v2, ev2, h⟩ := hb_nm_of h
    rw [← ev2]
    refine ww_istore_n 23 X (L' := [some (.ref (G.2.2.2 k)), some (.int v2), some (.int w2)]) dX2_allChoices_22 rfl (Nat.le_of_ble_eq_true rfl) rfl rfl ?_
    obtain ⟨v3, ev3, h⟩ := hb_nm_of h
    refine ww_iinc 26 X (L' := [some (.ref (G.2.2.2 k)), some (.int v2), some (.int v3)]) dX2_allChoices_23 rfl rfl ev3.symm rfl ?_
    refine ww_goto 4 X dX2_allChoices_26 (by decide) ?_
    obtain rfl := Option.some.inj h
    exact K
def ll_X2_allChoices_4 (k : Nat) (σ : hb_Mem) : (Int32 × Int32) → Option Int32 := hb_lp (fun s => lb_X2_allChoices_4 k s.1 s.2 σ) hb_F
theorem lw_X2_allChoices_4 {Γ : hb_Ctx} {G : hb_Gam} {Q : State → Prop} (X : hb_X Γ cX2_allChoices 3 RX2 ΛC G 1 21)  (k : Nat) (hk : hb_is ΛC k 2) (σ : hb_Mem) (s : (Int32 × Int32)) (t : Int32) (h : ll_X2_allChoices_4 k σ s = some t) (K : (fun t : Int32 => hb_W Γ ΛC G 3 Q σ [none, some (.int t), none] [] 29) t) : hb_W Γ ΛC G 3 Q σ [some (.ref (G.2.2.2 k)), some (.int s.1), some (.int s.2)] [] 4 :=
  hb_lp_w (P := fun s : (Int32 × Int32) => hb_W Γ ΛC G 3 Q σ [some (.ref (G.2.2.2 k)), some (.int s.1), some (.int s.2)] [] 4) (E := (fun t : Int32 => hb_W Γ ΛC G 3 Q σ [none, some (.int t), none] [] 29)) (fun s x hx K => lk_X2_allChoices_4 X k hk s.1 s.2 σ hx K) _ s t h K
def fn_X2_allChoices (k : Nat) (σ : hb_Mem) : Option Int32 :=
(ll_X2_allChoices_4 k σ (0, 0)).bind fun t4 =>
some t4
set_option maxRecDepth 100000 in
set_option maxHeartbeats 4000000 in
theorem wk_X2_allChoices {Γ : hb_Ctx} {G : hb_Gam} {Q : State → Prop} (X : hb_X Γ cX2_allChoices 3 RX2 ΛC G 1 21) (hr : hb_ret Γ = (some .int)) (k : Nat) (hk : hb_is ΛC k 2) (σ : hb_Mem) {x : Int32} (h : fn_X2_allChoices k σ = some x) (K : Q = hb_Q Γ ΛC G (some (.int x)) σ) : hb_W Γ ΛC G 3 Q σ [some (.ref (G.2.2.2 k)), none, none] [] 0 := by
  unfold fn_X2_allChoices at h
  refine ww_iconst (v := 0) 1 X dX2_allChoices_0 rfl (by decide) ?_
  refine ww_istore_n 2 X (L' := [some (.ref (G.2.2.2 k)), some (.int 0), none]) dX2_allChoices_1 rfl (Nat.le_of_ble_eq_true rfl) rfl rfl ?_
  refine ww_iconst (v := 0) 3 X dX2_allChoices_2 rfl (by decide) ?_
  refine ww_istore_n 4 X (L' := [some (.ref (G.2.2.2 k)), some (.int 0), some (.int 0)]) dX2_allChoices_3 rfl (Nat.le_of_ble_eq_true rfl) rfl rfl ?_
  obtain ⟨t4, ht4, h⟩ := hb_bind_of h
  refine lw_X2_allChoices_4 X k hk σ (0, 0) t4 ht4 ?_
  refine ww_iload_n 30 X dX2_allChoices_29 rfl rfl ?_
  obtain rfl := Option.some.inj h
  exact ww_ret_i X hr K dX2_allChoices_30
theorem ct_X2_allChoices (l : Launch) (G : hb_Gam) (k : Nat) (hk : hb_is ΛC k 2) (σ : hb_Mem) {x : Int32} (h : fn_X2_allChoices k σ = some x) : hb_C l yX2_allChoices cX2_allChoices 3 (some .int) 1 21 ΛC G [.ref (G.2.2.2 k)] σ (some (.int x)) σ :=
  hb_C.of [some (.ref (G.2.2.2 k)), none, none] (by decide +kernel) (Nat.le_of_ble_eq_true rfl) (by intro v hv; simp only [List.mem_cons, List.not_mem_nil, or_false] at hv; subst hv; rfl) rfl (hb_pad [.ref (G.2.2.2 k)] 2) (fun Γ X hr => wk_X2_allChoices X hr k hk σ h rfl)
def fn_X5_oneIf (p0 : Int32) : Option Int32 :=
if p0 = 0 then (
some 0)
else (
some 1)
set_option maxRecDepth 100000 in
set_option maxHeartbeats 4000000 in
theorem wk_X5_oneIf {Γ : hb_Ctx} {G : hb_Gam} {Q : State → Prop} (X : hb_X Γ cX5_oneIf 1 RX5 ΛC G 0 0) (hr : hb_ret Γ = (some .int)) (p0 : Int32) (σ : hb_Mem) {x : Int32} (h : fn_X5_oneIf p0 = some x) (K : Q = hb_Q Γ ΛC G (some (.int x)) σ) : hb_W Γ ΛC G 1 Q σ [some (.int p0)] [] 0 := by
  unfold fn_X5_oneIf at h
  refine ww_iload_n 1 X dX5_oneIf_0 rfl rfl ?_
  refine ww_if_eq 8 4 X dX5_oneIf_1 (by decide) rfl h (fun h => ?_) (fun h => ?_)
  · skip
    refine ww_iconst (v := 0) 9 X dX5_oneIf_8 rfl (by decide) ?_
    obtain rfl := Option.some.inj h
    exact ww_ret_i X hr K dX5_oneIf_9
  · skip
    refine ww_iconst (v := 1) 5 X dX5_oneIf_4 rfl (by decide) ?_
    refine ww_goto 9 X dX5_oneIf_5 (by decide) ?_
    obtain rfl := Option.some.inj h
    exact ww_ret_i X hr K dX5_oneIf_9
theorem ct_X5_oneIf (l : Launch) (G : hb_Gam) (p0 : Int32) (σ : hb_Mem) {x : Int32} (h : fn_X5_oneIf p0 = some x) : hb_C l yX5_oneIf cX5_oneIf 1 (some .int) 0 0 ΛC G [.int p0] σ (some (.int x)) σ :=
  hb_C.of [some (.int p0)] (by decide +kernel) (Nat.le_of_ble_eq_true rfl) (by intro v hv; simp only [List.mem_cons, List.not_mem_nil, or_false] at hv; subst hv; rfl) rfl (hb_pad [.int p0] 0) (fun Γ X hr => wk_X5_oneIf X hr p0 σ h rfl)
def jn_X2_choicesTo_57 (k : Nat) (p1 : Int32) (i3 : Int32) (j4 : Int32) (s0 : Int32) (s1 : Int32) (σ : hb_Mem) : Option ((Int32 × Int32) ⊕ Int32) :=
(fn_X5_oneIf s1).bind fun x4 =>
hb_nm (s0 + x4) fun v5 =>
hb_nm (j4 + 1) fun v6 =>
some (.inl (v5, v6))
set_option maxRecDepth 100000 in
set_option maxHeartbeats 4000000 in
theorem jw_X2_choicesTo_57 {Γ : hb_Ctx} {G : hb_Gam} {Q : State → Prop} (X : hb_X Γ cX2_choicesTo 5 RX2 ΛC G 1 21)  (k : Nat) (hk : hb_is ΛC k 2) (p1 : Int32) (i3 : Int32) (j4 : Int32) (s0 : Int32) (s1 : Int32) (σ : hb_Mem) {x : ((Int32 × Int32) ⊕ Int32)} (h : jn_X2_choicesTo_57 k p1 i3 j4 s0 s1 σ = some x) (K : Sum.elim (fun s : (Int32 × Int32) => hb_W Γ ΛC G 5 Q σ [some (.ref (G.2.2.2 k)), some (.int p1), some (.int s.1), some (.int i3), some (.int s.2)] [] 15) (fun t : Int32 => hb_W Γ ΛC G 5 Q σ [some (.ref (G.2.2.2 k)), some (.int p1), some (.int t), some (.int i3), none] [] 68) x) : hb_W Γ ΛC G 5 Q σ [some (.ref (G.2.2.2 k)), some (.int p1), none, some (.int i3), some (.int j4)] [.int s1, .int s0] 57 := by
  unfold jn_X2_choicesTo_57 at h
  obtain ⟨x4, hx4, h⟩ := hb_bind_of h
  refine ww_callSN (rest := [.int s0]) (st' := [.int x4, .int s0]) 60 X (ct_X5_oneIf (hb_l Γ) G s1 σ hx4) cw_X2_96 rfl ⟨by decide, by decide⟩ (Nat.le_of_ble_eq_true rfl) rfl rfl dX2_choicesTo_57 rfl ?_
  refine ww_iadd 61 X dX2_choicesTo_60 rfl ?_
  obtain ⟨v5, ev5, h⟩ := hb_nm_of h
  rw [← ev5]
  refine ww_istore_n 62 X (L' := [some (.ref (G.2.2.2 k)), some (.int p1), some (.int v5), some (.int i3), some (.int j4)]) dX2_choicesTo_61 rfl (Nat.le_of_ble_eq_true rfl) rfl rfl ?_
  obtain ⟨v6, ev6, h⟩ := hb_nm_of h
  refine ww_iinc 65 X (L' := [some (.ref (G.2.2.2 k)), some (.int p1), some (.int v5), some (.int i3), some (.int v6)]) dX2_choicesTo_62 rfl rfl ev6.symm rfl ?_
  refine ww_goto 15 X dX2_choicesTo_65 (by decide) ?_
  obtain rfl := Option.some.inj h
  exact K
def lb_X2_choicesTo_15 (k : Nat) (p1 : Int32) (i3 : Int32) (w2 : Int32) (w4 : Int32) (σ : hb_Mem) : Option ((Int32 × Int32) ⊕ Int32) :=
(fn_X1_at (hc_rf k 4) i3 σ).bind fun x1 =>
if x1 ≤ w4 then (
some (.inr w2))
else (
if 3 ≤ w4 then (
some (.inr w2))
else (
(fn_X5_slotOf i3 w4).bind fun x2 =>
(fn_X1_at (hc_rf k 5) x2 σ).bind fun x3 =>
if x3 = p1 then (
jn_X2_choicesTo_57 k p1 i3 w4 w2 1 σ)
else (
jn_X2_choicesTo_57 k p1 i3 w4 w2 0 σ)))
set_option maxRecDepth 100000 in
set_option maxHeartbeats 4000000 in
theorem lk_X2_choicesTo_15 {Γ : hb_Ctx} {G : hb_Gam} {Q : State → Prop} (X : hb_X Γ cX2_choicesTo 5 RX2 ΛC G 1 21)  (k : Nat) (hk : hb_is ΛC k 2) (p1 : Int32) (i3 : Int32) (w2 : Int32) (w4 : Int32) (σ : hb_Mem) {x : ((Int32 × Int32) ⊕ Int32)} (h : lb_X2_choicesTo_15 k p1 i3 w2 w4 σ = some x) (K : Sum.elim (fun s : (Int32 × Int32) => hb_W Γ ΛC G 5 Q σ [some (.ref (G.2.2.2 k)), some (.int p1), some (.int s.1), some (.int i3), some (.int s.2)] [] 15) (fun t : Int32 => hb_W Γ ΛC G 5 Q σ [some (.ref (G.2.2.2 k)), some (.int p1), some (.int t), some (.int i3), none] [] 68) x) : hb_W Γ ΛC G 5 Q σ [some (.ref (G.2.2.2 k)), some (.int p1), some (.int w2), some (.int i3), some (.int w4)] [] 15 := by
  unfold lb_X2_choicesTo_15 at h
  refine ww_iload 17 X dX2_choicesTo_15 rfl rfl ?_
  refine ww_aload_n 18 X dX2_choicesTo_17 rfl rfl ?_
  refine ww_getr (ci := 2) (j := 4) 21 X cf_2 tw_X2_30 (by decide) rfl hk dX2_choicesTo_18 rfl ?_
  refine ww_iload_n 22 X dX2_choicesTo_21 rfl rfl ?_
  obtain ⟨x1, hx1, h⟩ := hb_bind_of h
  refine ww_callV (ci := 1) (rest := [.int w4]) (st' := [.int x1, .int w4]) 25 X (ct_X1_at (hb_l Γ) G (hc_rf k 4) (hc_kr_2_4 hk) i3 σ hx1) cw_X2_62 rfl (by decide) (hc_kr_2_4 hk) rfl ⟨by decide, by decide⟩ (Nat.le_of_ble_eq_true rfl) rfl rfl dX2_choicesTo_22 rfl ?_
  refine ww_icmp_ge 68 28 X dX2_choicesTo_25 (by decide) rfl h (fun h => ?_) (fun h => ?_)
  · skip
    obtain rfl := Option.some.inj h
    refine ww_kill [4] (L' := [some (.ref (G.2.2.2 k)), some (.int p1), some (.int w2), some (.int i3), none]) rfl ?_
    exact K
  · skip
    refine ww_iload 30 X dX2_choicesTo_28 rfl rfl ?_
    refine ww_iconst (v := 3) 31 X dX2_choicesTo_30 rfl (by decide) ?_
    refine ww_icmp_ge 68 34 X dX2_choicesTo_31 (by decide) rfl h (fun h => ?_) (fun h => ?_)
    · skip
      obtain rfl := Option.some.inj h
      refine ww_kill [4] (L' := [some (.ref (G.2.2.2 k)), some (.int p1), some (.int w2), some (.int i3), none]) rfl ?_
      exact K
    · skip
      refine ww_iload_n 35 X dX2_choicesTo_34 rfl rfl ?_
      refine ww_aload_n 36 X dX2_choicesTo_35 rfl rfl ?_
      refine ww_getr (ci := 2) (j := 5) 39 X cf_2 tw_X2_33 (by decide) rfl hk dX2_choicesTo_36 rfl ?_
      refine ww_iload_n 40 X dX2_choicesTo_39 rfl rfl ?_
      refine ww_iload 42 X dX2_choicesTo_40 rfl rfl ?_
      obtain ⟨x2, hx2, h⟩ := hb_bind_of h
      refine ww_callSN (rest := [.ref (G.2.2.2 (hc_rf k 5)), .int w2]) (st' := [.int x2, .ref (G.2.2.2 (hc_rf k 5)), .int w2]) 45 X (ct_X5_slotOf (hb_l Γ) G i3 w4 σ hx2) cw_X2_73 rfl ⟨by decide, by decide⟩ (Nat.le_of_ble_eq_true rfl) rfl rfl dX2_choicesTo_42 rfl ?_
      obtain ⟨x3, hx3, h⟩ := hb_bind_of h
      refine ww_callV (ci := 1) (rest := [.int w2]) (st' := [.int x3, .int w2]) 48 X (ct_X1_at (hb_l Γ) G (hc_rf k 5) (hc_kr_2_5 hk) x2 σ hx3) cw_X2_62 rfl (by decide) (hc_kr_2_5 hk) rfl ⟨by decide, by decide⟩ (Nat.le_of_ble_eq_true rfl) rfl rfl dX2_choicesTo_45 rfl ?_
      refine ww_iload_n 49 X dX2_choicesTo_48 rfl rfl ?_
      refine ww_icmp_ne 56 52 X dX2_choicesTo_49 (by decide) rfl h (fun h => ?_) (fun h => ?_)
      · skip
        refine ww_iconst (v := 1) 53 X dX2_choicesTo_52 rfl (by decide) ?_
        refine ww_goto 57 X dX2_choicesTo_53 (by decide) ?_
        refine ww_kill [2] (L' := [some (.ref (G.2.2.2 k)), some (.int p1), none, some (.int i3), some (.int w4)]) rfl ?_
        exact jw_X2_choicesTo_57 X k hk p1 i3 w4 w2 1 σ h K
      · skip
        refine ww_iconst (v := 0) 57 X dX2_choicesTo_56 rfl (by decide) ?_
        refine ww_kill [2] (L' := [some (.ref (G.2.2.2 k)), some (.int p1), none, some (.int i3), some (.int w4)]) rfl ?_
        exact jw_X2_choicesTo_57 X k hk p1 i3 w4 w2 0 σ h K
def ll_X2_choicesTo_15 (k : Nat) (p1 : Int32) (i3 : Int32) (σ : hb_Mem) : (Int32 × Int32) → Option Int32 := hb_lp (fun s => lb_X2_choicesTo_15 k p1 i3 s.1 s.2 σ) hb_F
theorem lw_X2_choicesTo_15 {Γ : hb_Ctx} {G : hb_Gam} {Q : State → Prop} (X : hb_X Γ cX2_choicesTo 5 RX2 ΛC G 1 21)  (k : Nat) (hk : hb_is ΛC k 2) (p1 : Int32) (i3 : Int32) (σ : hb_Mem) (s : (Int32 × Int32)) (t : Int32) (h : ll_X2_choicesTo_15 k p1 i3 σ s = some t) (K : (fun t : Int32 => hb_W Γ ΛC G 5 Q σ [some (.ref (G.2.2.2 k)), some (.int p1), some (.int t), some (.int i3), none] [] 68) t) : hb_W Γ ΛC G 5 Q σ [some (.ref (G.2.2.2 k)), some (.int p1), some (.int s.1), some (.int i3), some (.int s.2)] [] 15 :=
  hb_lp_w (P := fun s : (Int32 × Int32) => hb_W Γ ΛC G 5 Q σ [some (.ref (G.2.2.2 k)), some (.int p1), some (.int s.1), some (.int i3), some (.int s.2)] [] 15) (E := (fun t : Int32 => hb_W Γ ΛC G 5 Q σ [some (.ref (G.2.2.2 k)), some (.int p1), some (.int t), some (.int i3), none] [] 68)) (fun s x hx K => lk_X2_choicesTo_15 X k hk p1 i3 s.1 s.2 σ hx K) _ s t h K
def jn_X2_choicesTo_68 (k : Nat) (p1 : Int32) (j2 : Int32) (j3 : Int32) (σ : hb_Mem) : Option ((Int32 × Int32) ⊕ Int32) :=
hb_nm (j3 + 1) fun v8 =>
some (.inl (j2, v8))
set_option maxRecDepth 100000 in
set_option maxHeartbeats 4000000 in
theorem jw_X2_choicesTo_68 {Γ : hb_Ctx} {G : hb_Gam} {Q : State → Prop} (X : hb_X Γ cX2_choicesTo 5 RX2 ΛC G 1 21)  (k : Nat) (hk : hb_is ΛC k 2) (p1 : Int32) (j2 : Int32) (j3 : Int32) (σ : hb_Mem) {x : ((Int32 × Int32) ⊕ Int32)} (h : jn_X2_choicesTo_68 k p1 j2 j3 σ = some x) (K : Sum.elim (fun s : (Int32 × Int32) => hb_W Γ ΛC G 5 Q σ [some (.ref (G.2.2.2 k)), some (.int p1), some (.int s.1), some (.int s.2), none] [] 4) (fun t : Int32 => hb_W Γ ΛC G 5 Q σ [none, none, some (.int t), none, none] [] 74) x) : hb_W Γ ΛC G 5 Q σ [some (.ref (G.2.2.2 k)), some (.int p1), some (.int j2), some (.int j3), none] [] 68 := by
  unfold jn_X2_choicesTo_68 at h
  obtain ⟨v8, ev8, h⟩ := hb_nm_of h
  refine ww_iinc 71 X (L' := [some (.ref (G.2.2.2 k)), some (.int p1), some (.int j2), some (.int v8), none]) dX2_choicesTo_68 rfl rfl ev8.symm rfl ?_
  refine ww_goto 4 X dX2_choicesTo_71 (by decide) ?_
  obtain rfl := Option.some.inj h
  exact K
def lb_X2_choicesTo_4 (k : Nat) (p1 : Int32) (w2 : Int32) (w3 : Int32) (σ : hb_Mem) : Option ((Int32 × Int32) ⊕ Int32) :=
if (σ k 0) ≤ w3 then (
some (.inr w2))
else (
(ll_X2_choicesTo_15 k p1 w3 σ (w2, 0)).bind fun t7 =>
jn_X2_choicesTo_68 k p1 t7 w3 σ)
set_option maxRecDepth 100000 in
set_option maxHeartbeats 4000000 in
theorem lk_X2_choicesTo_4 {Γ : hb_Ctx} {G : hb_Gam} {Q : State → Prop} (X : hb_X Γ cX2_choicesTo 5 RX2 ΛC G 1 21)  (k : Nat) (hk : hb_is ΛC k 2) (p1 : Int32) (w2 : Int32) (w3 : Int32) (σ : hb_Mem) {x : ((Int32 × Int32) ⊕ Int32)} (h : lb_X2_choicesTo_4 k p1 w2 w3 σ = some x) (K : Sum.elim (fun s : (Int32 × Int32) => hb_W Γ ΛC G 5 Q σ [some (.ref (G.2.2.2 k)), some (.int p1), some (.int s.1), some (.int s.2), none] [] 4) (fun t : Int32 => hb_W Γ ΛC G 5 Q σ [none, none, some (.int t), none, none] [] 74) x) : hb_W Γ ΛC G 5 Q σ [some (.ref (G.2.2.2 k)), some (.int p1), some (.int w2), some (.int w3), none] [] 4 := by
  unfold lb_X2_choicesTo_4 at h
  refine ww_iload_n 5 X dX2_choicesTo_4 rfl rfl ?_
  refine ww_aload_n 6 X dX2_choicesTo_5 rfl rfl ?_
  refine ww_geti (ci := 2) (j := 0) 9 X cf_2 tw_X2_9 (by decide) rfl hk dX2_choicesTo_6 rfl ?_
  refine ww_icmp_ge 74 12 X dX2_choicesTo_9 (by decide) rfl h (fun h => ?_) (fun h => ?_)
  · skip
    obtain rfl := Option.some.inj h
    refine ww_kill [0, 1, 3] (L' := [none, none, some (.int w2), none, none]) rfl ?_
    exact K
  · skip
    refine ww_iconst (v := 0) 13 X dX2_choicesTo_12 rfl (by decide) ?_
    refine ww_istore 15 X (L' := [some (.ref (G.2.2.2 k)), some (.int p1), some (.int w2), some (.int w3), some (.int 0)]) dX2_choicesTo_13 rfl (Nat.le_of_ble_eq_true rfl) rfl rfl ?_
    obtain ⟨t7, ht7, h⟩ := hb_bind_of h
    refine lw_X2_choicesTo_15 X k hk p1 w3 σ (w2, 0) t7 ht7 ?_
    exact jw_X2_choicesTo_68 X k hk p1 t7 w3 σ h K
def ll_X2_choicesTo_4 (k : Nat) (p1 : Int32) (σ : hb_Mem) : (Int32 × Int32) → Option Int32 := hb_lp (fun s => lb_X2_choicesTo_4 k p1 s.1 s.2 σ) hb_F
theorem lw_X2_choicesTo_4 {Γ : hb_Ctx} {G : hb_Gam} {Q : State → Prop} (X : hb_X Γ cX2_choicesTo 5 RX2 ΛC G 1 21)  (k : Nat) (hk : hb_is ΛC k 2) (p1 : Int32) (σ : hb_Mem) (s : (Int32 × Int32)) (t : Int32) (h : ll_X2_choicesTo_4 k p1 σ s = some t) (K : (fun t : Int32 => hb_W Γ ΛC G 5 Q σ [none, none, some (.int t), none, none] [] 74) t) : hb_W Γ ΛC G 5 Q σ [some (.ref (G.2.2.2 k)), some (.int p1), some (.int s.1), some (.int s.2), none] [] 4 :=
  hb_lp_w (P := fun s : (Int32 × Int32) => hb_W Γ ΛC G 5 Q σ [some (.ref (G.2.2.2 k)), some (.int p1), some (.int s.1), some (.int s.2), none] [] 4) (E := (fun t : Int32 => hb_W Γ ΛC G 5 Q σ [none, none, some (.int t), none, none] [] 74)) (fun s x hx K => lk_X2_choicesTo_4 X k hk p1 s.1 s.2 σ hx K) _ s t h K
def fn_X2_choicesTo (k : Nat) (p1 : Int32) (σ : hb_Mem) : Option Int32 :=
(ll_X2_choicesTo_4 k p1 σ (0, 0)).bind fun t9 =>
some t9
set_option maxRecDepth 100000 in
set_option maxHeartbeats 4000000 in
theorem wk_X2_choicesTo {Γ : hb_Ctx} {G : hb_Gam} {Q : State → Prop} (X : hb_X Γ cX2_choicesTo 5 RX2 ΛC G 1 21) (hr : hb_ret Γ = (some .int)) (k : Nat) (hk : hb_is ΛC k 2) (p1 : Int32) (σ : hb_Mem) {x : Int32} (h : fn_X2_choicesTo k p1 σ = some x) (K : Q = hb_Q Γ ΛC G (some (.int x)) σ) : hb_W Γ ΛC G 5 Q σ [some (.ref (G.2.2.2 k)), some (.int p1), none, none, none] [] 0 := by
  unfold fn_X2_choicesTo at h
  refine ww_iconst (v := 0) 1 X dX2_choicesTo_0 rfl (by decide) ?_
  refine ww_istore_n 2 X (L' := [some (.ref (G.2.2.2 k)), some (.int p1), some (.int 0), none, none]) dX2_choicesTo_1 rfl (Nat.le_of_ble_eq_true rfl) rfl rfl ?_
  refine ww_iconst (v := 0) 3 X dX2_choicesTo_2 rfl (by decide) ?_
  refine ww_istore_n 4 X (L' := [some (.ref (G.2.2.2 k)), some (.int p1), some (.int 0), some (.int 0), none]) dX2_choicesTo_3 rfl (Nat.le_of_ble_eq_true rfl) rfl rfl ?_
  obtain ⟨t9, ht9, h⟩ := hb_bind_of h
  refine lw_X2_choicesTo_4 X k hk p1 σ (0, 0) t9 ht9 ?_
  refine ww_iload_n 75 X dX2_choicesTo_74 rfl rfl ?_
  obtain rfl := Option.some.inj h
  exact ww_ret_i X hr K dX2_choicesTo_75
theorem ct_X2_choicesTo (l : Launch) (G : hb_Gam) (k : Nat) (hk : hb_is ΛC k 2) (p1 : Int32) (σ : hb_Mem) {x : Int32} (h : fn_X2_choicesTo k p1 σ = some x) : hb_C l yX2_choicesTo cX2_choicesTo 5 (some .int) 1 21 ΛC G [.ref (G.2.2.2 k), .int p1] σ (some (.int x)) σ :=
  hb_C.of [some (.ref (G.2.2.2 k)), some (.int p1), none, none, none] (by decide +kernel) (Nat.le_of_ble_eq_true rfl) (by intro v hv; simp only [List.mem_cons, List.not_mem_nil, or_false] at hv; rcases hv with rfl | rfl <;> rfl) rfl (hb_pad [.ref (G.2.2.2 k), .int p1] 3) (fun Γ X hr => wk_X2_choicesTo X hr k hk p1 σ h rfl)
def fn_X2_moodOf (k : Nat) (p1 : Int32) (σ : hb_Mem) : Option UInt32 :=
(fn_X1_at (hc_rf k 1) p1 σ).bind fun x1 =>
(hb_nn (FP.fdiv (FP.i2f x1) 1092616192)).bind fun z2 =>
some z2
set_option maxRecDepth 100000 in
set_option maxHeartbeats 4000000 in
theorem wk_X2_moodOf {Γ : hb_Ctx} {G : hb_Gam} {Q : State → Prop} (X : hb_X Γ cX2_moodOf 2 RX2 ΛC G 1 21) (hr : hb_ret Γ = (some .float)) (k : Nat) (hk : hb_is ΛC k 2) (p1 : Int32) (σ : hb_Mem) {x : UInt32} (h : fn_X2_moodOf k p1 σ = some x) (K : Q = hb_Q Γ ΛC G (some (.float x)) σ) : hb_W Γ ΛC G 2 Q σ [some (.ref (G.2.2.2 k)), some (.int p1)] [] 0 := by
  unfold fn_X2_moodOf at h
  refine ww_aload_n 1 X dX2_moodOf_0 rfl rfl ?_
  refine ww_getr (ci := 2) (j := 1) 4 X cf_2 tw_X2_20 (by decide) rfl hk dX2_moodOf_1 rfl ?_
  refine ww_iload_n 5 X dX2_moodOf_4 rfl rfl ?_
  obtain ⟨x1, hx1, h⟩ := hb_bind_of h
  refine ww_callV (ci := 1) (rest := []) (st' := [.int x1]) 8 X (ct_X1_at (hb_l Γ) G (hc_rf k 1) (hc_kr_2_1 hk) p1 σ hx1) cw_X2_62 rfl (by decide) (hc_kr_2_1 hk) rfl ⟨by decide, by decide⟩ (Nat.le_of_ble_eq_true rfl) rfl rfl dX2_moodOf_5 rfl ?_
  refine ww_i2f 9 X dX2_moodOf_8 rfl ?_
  refine ww_ldcf (v := 1092616192) 11 X dX2_moodOf_9 rfl (by decide +kernel) ?_
  obtain ⟨z2, hz2, h⟩ := hb_bind_of h
  refine ww_fdiv 12 X dX2_moodOf_11 rfl hz2 ?_
  obtain rfl := Option.some.inj h
  exact ww_ret_f X hr K dX2_moodOf_12
theorem ct_X2_moodOf (l : Launch) (G : hb_Gam) (k : Nat) (hk : hb_is ΛC k 2) (p1 : Int32) (σ : hb_Mem) {x : UInt32} (h : fn_X2_moodOf k p1 σ = some x) : hb_C l yX2_moodOf cX2_moodOf 2 (some .float) 1 21 ΛC G [.ref (G.2.2.2 k), .int p1] σ (some (.float x)) σ :=
  hb_C.of [some (.ref (G.2.2.2 k)), some (.int p1)] (by decide +kernel) (Nat.le_of_ble_eq_true rfl) (by intro v hv; simp only [List.mem_cons, List.not_mem_nil, or_false] at hv; rcases hv with rfl | rfl <;> rfl) rfl (hb_pad [.ref (G.2.2.2 k), .int p1] 0) (fun Γ X hr => wk_X2_moodOf X hr k hk p1 σ h rfl)
def fn_X2_kindOf (k : Nat) (p1 : Int32) (σ : hb_Mem) : Option Int32 :=
(fn_X1_at (hc_rf k 4) p1 σ).bind fun x1 =>
if x1 ≤ 0 then (
(fn_X2_moodOf k p1 σ).bind fun x2 =>
if (Op.cmpValue (FP.fcmp x2 FP.fconst0) .l) ≤ 0 then (
some 2)
else (
some 1))
else (
some 0)
set_option maxRecDepth 100000 in
set_option maxHeartbeats 4000000 in
theorem wk_X2_kindOf {Γ : hb_Ctx} {G : hb_Gam} {Q : State → Prop} (X : hb_X Γ cX2_kindOf 2 RX2 ΛC G 2 42) (hr : hb_ret Γ = (some .int)) (k : Nat) (hk : hb_is ΛC k 2) (p1 : Int32) (σ : hb_Mem) {x : Int32} (h : fn_X2_kindOf k p1 σ = some x) (K : Q = hb_Q Γ ΛC G (some (.int x)) σ) : hb_W Γ ΛC G 2 Q σ [some (.ref (G.2.2.2 k)), some (.int p1)] [] 0 := by
  unfold fn_X2_kindOf at h
  refine ww_aload_n 1 X dX2_kindOf_0 rfl rfl ?_
  refine ww_getr (ci := 2) (j := 4) 4 X cf_2 tw_X2_30 (by decide) rfl hk dX2_kindOf_1 rfl ?_
  refine ww_iload_n 5 X dX2_kindOf_4 rfl rfl ?_
  obtain ⟨x1, hx1, h⟩ := hb_bind_of h
  refine ww_callV (ci := 1) (rest := []) (st' := [.int x1]) 8 X (ct_X1_at (hb_l Γ) G (hc_rf k 4) (hc_kr_2_4 hk) p1 σ hx1) cw_X2_62 rfl (by decide) (hc_kr_2_4 hk) rfl ⟨by decide, by decide⟩ (Nat.le_of_ble_eq_true rfl) rfl rfl dX2_kindOf_5 rfl ?_
  refine ww_if_le 13 11 X dX2_kindOf_8 (by decide) rfl h (fun h => ?_) (fun h => ?_)
  · skip
    refine ww_aload_n 14 X dX2_kindOf_13 rfl rfl ?_
    refine ww_iload_n 15 X dX2_kindOf_14 rfl rfl ?_
    obtain ⟨x2, hx2, h⟩ := hb_bind_of h
    refine ww_callV (ci := 2) (rest := []) (st' := [.float x2]) 18 X (ct_X2_moodOf (hb_l Γ) G k hk p1 σ hx2) cw_X2_101 rfl (by decide) hk rfl ⟨by decide, by decide⟩ (Nat.le_of_ble_eq_true rfl) rfl rfl dX2_kindOf_15 rfl ?_
    refine ww_fconst0 19 X dX2_kindOf_18 rfl ?_
    refine ww_fcmp 20 X dX2_kindOf_19 rfl ?_
    refine ww_if_le 27 23 X dX2_kindOf_20 (by decide) rfl h (fun h => ?_) (fun h => ?_)
    · skip
      refine ww_iconst (v := 2) 28 X dX2_kindOf_27 rfl (by decide) ?_
      obtain rfl := Option.some.inj h
      exact ww_ret_i X hr K dX2_kindOf_28
    · skip
      refine ww_iconst (v := 1) 24 X dX2_kindOf_23 rfl (by decide) ?_
      refine ww_goto 28 X dX2_kindOf_24 (by decide) ?_
      obtain rfl := Option.some.inj h
      exact ww_ret_i X hr K dX2_kindOf_28
  · skip
    refine ww_iconst (v := 0) 12 X dX2_kindOf_11 rfl (by decide) ?_
    obtain rfl := Option.some.inj h
    exact ww_ret_i X hr K dX2_kindOf_12
theorem ct_X2_kindOf (l : Launch) (G : hb_Gam) (k : Nat) (hk : hb_is ΛC k 2) (p1 : Int32) (σ : hb_Mem) {x : Int32} (h : fn_X2_kindOf k p1 σ = some x) : hb_C l yX2_kindOf cX2_kindOf 2 (some .int) 2 42 ΛC G [.ref (G.2.2.2 k), .int p1] σ (some (.int x)) σ :=
  hb_C.of [some (.ref (G.2.2.2 k)), some (.int p1)] (by decide +kernel) (Nat.le_of_ble_eq_true rfl) (by intro v hv; simp only [List.mem_cons, List.not_mem_nil, or_false] at hv; rcases hv with rfl | rfl <;> rfl) rfl (hb_pad [.ref (G.2.2.2 k), .int p1] 0) (fun Γ X hr => wk_X2_kindOf X hr k hk p1 σ h rfl)
def fn_X2_placeComingTo (k : Nat) (p1 : Int32) (p2 : Int32) (σ : hb_Mem) : Option Int32 :=
(fn_X1_at (hc_rf k 3) p1 σ).bind fun x1 =>
(fn_X1_at (hc_rf k 2) p1 σ).bind fun x2 =>
(fn_X5_placeOf p1 ((p2 &&& (x1 ^^^ (-1))) ||| x2)).bind fun x3 =>
some x3
set_option maxRecDepth 100000 in
set_option maxHeartbeats 4000000 in
theorem wk_X2_placeComingTo {Γ : hb_Ctx} {G : hb_Gam} {Q : State → Prop} (X : hb_X Γ cX2_placeComingTo 3 RX2 ΛC G 1 21) (hr : hb_ret Γ = (some .int)) (k : Nat) (hk : hb_is ΛC k 2) (p1 : Int32) (p2 : Int32) (σ : hb_Mem) {x : Int32} (h : fn_X2_placeComingTo k p1 p2 σ = some x) (K : Q = hb_Q Γ ΛC G (some (.int x)) σ) : hb_W Γ ΛC G 3 Q σ [some (.ref (G.2.2.2 k)), some (.int p1), some (.int p2)] [] 0 := by
  unfold fn_X2_placeComingTo at h
  refine ww_iload_n 1 X dX2_placeComingTo_0 rfl rfl ?_
  refine ww_iload_n 2 X dX2_placeComingTo_1 rfl rfl ?_
  refine ww_aload_n 3 X dX2_placeComingTo_2 rfl rfl ?_
  refine ww_getr (ci := 2) (j := 3) 6 X cf_2 tw_X2_27 (by decide) rfl hk dX2_placeComingTo_3 rfl ?_
  refine ww_iload_n 7 X dX2_placeComingTo_6 rfl rfl ?_
  obtain ⟨x1, hx1, h⟩ := hb_bind_of h
  refine ww_callV (ci := 1) (rest := [.int p2, .int p1]) (st' := [.int x1, .int p2, .int p1]) 10 X (ct_X1_at (hb_l Γ) G (hc_rf k 3) (hc_kr_2_3 hk) p1 σ hx1) cw_X2_62 rfl (by decide) (hc_kr_2_3 hk) rfl ⟨by decide, by decide⟩ (Nat.le_of_ble_eq_true rfl) rfl rfl dX2_placeComingTo_7 rfl ?_
  refine ww_iconst (v := (-1)) 11 X dX2_placeComingTo_10 rfl (by decide) ?_
  refine ww_ixor 12 X dX2_placeComingTo_11 rfl ?_
  refine ww_iand 13 X dX2_placeComingTo_12 rfl ?_
  refine ww_aload_n 14 X dX2_placeComingTo_13 rfl rfl ?_
  refine ww_getr (ci := 2) (j := 2) 17 X cf_2 tw_X2_24 (by decide) rfl hk dX2_placeComingTo_14 rfl ?_
  refine ww_iload_n 18 X dX2_placeComingTo_17 rfl rfl ?_
  obtain ⟨x2, hx2, h⟩ := hb_bind_of h
  refine ww_callV (ci := 1) (rest := [.int (p2 &&& (x1 ^^^ (-1))), .int p1]) (st' := [.int x2, .int (p2 &&& (x1 ^^^ (-1))), .int p1]) 21 X (ct_X1_at (hb_l Γ) G (hc_rf k 2) (hc_kr_2_2 hk) p1 σ hx2) cw_X2_62 rfl (by decide) (hc_kr_2_2 hk) rfl ⟨by decide, by decide⟩ (Nat.le_of_ble_eq_true rfl) rfl rfl dX2_placeComingTo_18 rfl ?_
  refine ww_ior 22 X dX2_placeComingTo_21 rfl ?_
  obtain ⟨x3, hx3, h⟩ := hb_bind_of h
  refine ww_callSN (rest := []) (st' := [.int x3]) 25 X (ct_X5_placeOf (hb_l Γ) G p1 ((p2 &&& (x1 ^^^ (-1))) ||| x2) σ hx3) cw_X2_93 rfl ⟨by decide, by decide⟩ (Nat.le_of_ble_eq_true rfl) rfl rfl dX2_placeComingTo_22 rfl ?_
  obtain rfl := Option.some.inj h
  exact ww_ret_i X hr K dX2_placeComingTo_25
theorem ct_X2_placeComingTo (l : Launch) (G : hb_Gam) (k : Nat) (hk : hb_is ΛC k 2) (p1 : Int32) (p2 : Int32) (σ : hb_Mem) {x : Int32} (h : fn_X2_placeComingTo k p1 p2 σ = some x) : hb_C l yX2_placeComingTo cX2_placeComingTo 3 (some .int) 1 21 ΛC G [.ref (G.2.2.2 k), .int p1, .int p2] σ (some (.int x)) σ :=
  hb_C.of [some (.ref (G.2.2.2 k)), some (.int p1), some (.int p2)] (by decide +kernel) (Nat.le_of_ble_eq_true rfl) (by intro v hv; simp only [List.mem_cons, List.not_mem_nil, or_false] at hv; rcases hv with rfl | rfl | rfl <;> rfl) rfl (hb_pad [.ref (G.2.2.2 k), .int p1, .int p2] 0) (fun Γ X hr => wk_X2_placeComingTo X hr k hk p1 p2 σ h rfl)
def fn_X2_firstPlace (k : Nat) (σ : hb_Mem) : Option Int32 :=
(fn_X2_placeComingTo k 0 0 σ).bind fun x1 =>
some x1
set_option maxRecDepth 100000 in
set_option maxHeartbeats 4000000 in
theorem wk_X2_firstPlace {Γ : hb_Ctx} {G : hb_Gam} {Q : State → Prop} (X : hb_X Γ cX2_firstPlace 1 RX2 ΛC G 2 43) (hr : hb_ret Γ = (some .int)) (k : Nat) (hk : hb_is ΛC k 2) (σ : hb_Mem) {x : Int32} (h : fn_X2_firstPlace k σ = some x) (K : Q = hb_Q Γ ΛC G (some (.int x)) σ) : hb_W Γ ΛC G 1 Q σ [some (.ref (G.2.2.2 k))] [] 0 := by
  unfold fn_X2_firstPlace at h
  refine ww_aload_n 1 X dX2_firstPlace_0 rfl rfl ?_
  refine ww_iconst (v := 0) 2 X dX2_firstPlace_1 rfl (by decide) ?_
  refine ww_iconst (v := 0) 3 X dX2_firstPlace_2 rfl (by decide) ?_
  obtain ⟨x1, hx1, h⟩ := hb_bind_of h
  refine ww_callV (ci := 2) (rest := []) (st' := [.int x1]) 6 X (ct_X2_placeComingTo (hb_l Γ) G k hk 0 0 σ hx1) cw_X2_105 rfl (by decide) hk rfl ⟨by decide, by decide⟩ (Nat.le_of_ble_eq_true rfl) rfl rfl dX2_firstPlace_3 rfl ?_
  obtain rfl := Option.some.inj h
  exact ww_ret_i X hr K dX2_firstPlace_6
theorem ct_X2_firstPlace (l : Launch) (G : hb_Gam) (k : Nat) (hk : hb_is ΛC k 2) (σ : hb_Mem) {x : Int32} (h : fn_X2_firstPlace k σ = some x) : hb_C l yX2_firstPlace cX2_firstPlace 1 (some .int) 2 43 ΛC G [.ref (G.2.2.2 k)] σ (some (.int x)) σ :=
  hb_C.of [some (.ref (G.2.2.2 k))] (by decide +kernel) (Nat.le_of_ble_eq_true rfl) (by intro v hv; simp only [List.mem_cons, List.not_mem_nil, or_false] at hv; subst hv; rfl) rfl (hb_pad [.ref (G.2.2.2 k)] 0) (fun Γ X hr => wk_X2_firstPlace X hr k hk σ h rfl)
def fn_X2_placeBehind (k : Nat) (p1 : Int32) (p2 : Int32) (σ : hb_Mem) : Option Int32 :=
(fn_X5_pageAt p1).bind fun x1 =>
(fn_X5_slotOf x1 p2).bind fun x2 =>
(fn_X1_at (hc_rf k 5) x2 σ).bind fun x3 =>
(fn_X5_flagsAt p1).bind fun x4 =>
(fn_X2_placeComingTo k x3 x4 σ).bind fun x5 =>
some x5
set_option maxRecDepth 100000 in
set_option maxHeartbeats 4000000 in
theorem wk_X2_placeBehind {Γ : hb_Ctx} {G : hb_Gam} {Q : State → Prop} (X : hb_X Γ cX2_placeBehind 3 RX2 ΛC G 2 43) (hr : hb_ret Γ = (some .int)) (k : Nat) (hk : hb_is ΛC k 2) (p1 : Int32) (p2 : Int32) (σ : hb_Mem) {x : Int32} (h : fn_X2_placeBehind k p1 p2 σ = some x) (K : Q = hb_Q Γ ΛC G (some (.int x)) σ) : hb_W Γ ΛC G 3 Q σ [some (.ref (G.2.2.2 k)), some (.int p1), some (.int p2)] [] 0 := by
  unfold fn_X2_placeBehind at h
  refine ww_aload_n 1 X dX2_placeBehind_0 rfl rfl ?_
  refine ww_aload_n 2 X dX2_placeBehind_1 rfl rfl ?_
  refine ww_getr (ci := 2) (j := 5) 5 X cf_2 tw_X2_33 (by decide) rfl hk dX2_placeBehind_2 rfl ?_
  refine ww_iload_n 6 X dX2_placeBehind_5 rfl rfl ?_
  obtain ⟨x1, hx1, h⟩ := hb_bind_of h
  refine ww_callSN (rest := [.ref (G.2.2.2 (hc_rf k 5)), .ref (G.2.2.2 k)]) (st' := [.int x1, .ref (G.2.2.2 (hc_rf k 5)), .ref (G.2.2.2 k)]) 9 X (ct_X5_pageAt (hb_l Γ) G p1 σ hx1) cw_X2_87 rfl ⟨by decide, by decide⟩ (Nat.le_of_ble_eq_true rfl) rfl rfl dX2_placeBehind_6 rfl ?_
  refine ww_iload_n 10 X dX2_placeBehind_9 rfl rfl ?_
  obtain ⟨x2, hx2, h⟩ := hb_bind_of h
  refine ww_callSN (rest := [.ref (G.2.2.2 (hc_rf k 5)), .ref (G.2.2.2 k)]) (st' := [.int x2, .ref (G.2.2.2 (hc_rf k 5)), .ref (G.2.2.2 k)]) 13 X (ct_X5_slotOf (hb_l Γ) G x1 p2 σ hx2) cw_X2_73 rfl ⟨by decide, by decide⟩ (Nat.le_of_ble_eq_true rfl) rfl rfl dX2_placeBehind_10 rfl ?_
  obtain ⟨x3, hx3, h⟩ := hb_bind_of h
  refine ww_callV (ci := 1) (rest := [.ref (G.2.2.2 k)]) (st' := [.int x3, .ref (G.2.2.2 k)]) 16 X (ct_X1_at (hb_l Γ) G (hc_rf k 5) (hc_kr_2_5 hk) x2 σ hx3) cw_X2_62 rfl (by decide) (hc_kr_2_5 hk) rfl ⟨by decide, by decide⟩ (Nat.le_of_ble_eq_true rfl) rfl rfl dX2_placeBehind_13 rfl ?_
  refine ww_iload_n 17 X dX2_placeBehind_16 rfl rfl ?_
  obtain ⟨x4, hx4, h⟩ := hb_bind_of h
  refine ww_callSN (rest := [.int x3, .ref (G.2.2.2 k)]) (st' := [.int x4, .int x3, .ref (G.2.2.2 k)]) 20 X (ct_X5_flagsAt (hb_l Γ) G p1 σ hx4) cw_X2_90 rfl ⟨by decide, by decide⟩ (Nat.le_of_ble_eq_true rfl) rfl rfl dX2_placeBehind_17 rfl ?_
  obtain ⟨x5, hx5, h⟩ := hb_bind_of h
  refine ww_callV (ci := 2) (rest := []) (st' := [.int x5]) 23 X (ct_X2_placeComingTo (hb_l Γ) G k hk x3 x4 σ hx5) cw_X2_105 rfl (by decide) hk rfl ⟨by decide, by decide⟩ (Nat.le_of_ble_eq_true rfl) rfl rfl dX2_placeBehind_20 rfl ?_
  obtain rfl := Option.some.inj h
  exact ww_ret_i X hr K dX2_placeBehind_23
theorem ct_X2_placeBehind (l : Launch) (G : hb_Gam) (k : Nat) (hk : hb_is ΛC k 2) (p1 : Int32) (p2 : Int32) (σ : hb_Mem) {x : Int32} (h : fn_X2_placeBehind k p1 p2 σ = some x) : hb_C l yX2_placeBehind cX2_placeBehind 3 (some .int) 2 43 ΛC G [.ref (G.2.2.2 k), .int p1, .int p2] σ (some (.int x)) σ :=
  hb_C.of [some (.ref (G.2.2.2 k)), some (.int p1), some (.int p2)] (by decide +kernel) (Nat.le_of_ble_eq_true rfl) (by intro v hv; simp only [List.mem_cons, List.not_mem_nil, or_false] at hv; rcases hv with rfl | rfl | rfl <;> rfl) rfl (hb_pad [.ref (G.2.2.2 k), .int p1, .int p2] 0) (fun Γ X hr => wk_X2_placeBehind X hr k hk p1 p2 σ h rfl)
def fn_X2_reasonAt (k : Nat) (p1 : Int32) (p2 : Int32) (σ : hb_Mem) : Option Int32 :=
(fn_X5_pageAt p1).bind fun x1 =>
(fn_X5_flagsAt p1).bind fun x2 =>
if p2 < 0 then (
some 2)
else (
(fn_X1_at (hc_rf k 4) x1 σ).bind fun x3 =>
if p2 < x3 then (
(fn_X5_slotOf x1 p2).bind fun x4 =>
(fn_X1_at (hc_rf k 6) x4 σ).bind fun x5 =>
if (x5 &&& (x2 ^^^ (-1))) = 0 then (
(fn_X1_at (hc_rf k 7) x4 σ).bind fun x6 =>
if (x6 &&& x2) = 0 then (
some 0)
else (
some 4))
else (
some 3))
else (
some 2))
set_option maxRecDepth 100000 in
set_option maxHeartbeats 4000000 in
theorem wk_X2_reasonAt {Γ : hb_Ctx} {G : hb_Gam} {Q : State → Prop} (X : hb_X Γ cX2_reasonAt 6 RX2 ΛC G 1 21) (hr : hb_ret Γ = (some .int)) (k : Nat) (hk : hb_is ΛC k 2) (p1 : Int32) (p2 : Int32) (σ : hb_Mem) {x : Int32} (h : fn_X2_reasonAt k p1 p2 σ = some x) (K : Q = hb_Q Γ ΛC G (some (.int x)) σ) : hb_W Γ ΛC G 6 Q σ [some (.ref (G.2.2.2 k)), some (.int p1), some (.int p2), none, none, none] [] 0 := by
  unfold fn_X2_reasonAt at h
  refine ww_iload_n 1 X dX2_reasonAt_0 rfl rfl ?_
  obtain ⟨x1, hx1, h⟩ := hb_bind_of h
  refine ww_callSN (rest := []) (st' := [.int x1]) 4 X (ct_X5_pageAt (hb_l Γ) G p1 σ hx1) cw_X2_87 rfl ⟨by decide, by decide⟩ (Nat.le_of_ble_eq_true rfl) rfl rfl dX2_reasonAt_1 rfl ?_
  refine ww_istore_n 5 X (L' := [some (.ref (G.2.2.2 k)), some (.int p1), some (.int p2), some (.int x1), none, none]) dX2_reasonAt_4 rfl (Nat.le_of_ble_eq_true rfl) rfl rfl ?_
  refine ww_iload_n 6 X dX2_reasonAt_5 rfl rfl ?_
  obtain ⟨x2, hx2, h⟩ := hb_bind_of h
  refine ww_callSN (rest := []) (st' := [.int x2]) 9 X (ct_X5_flagsAt (hb_l Γ) G p1 σ hx2) cw_X2_90 rfl ⟨by decide, by decide⟩ (Nat.le_of_ble_eq_true rfl) rfl rfl dX2_reasonAt_6 rfl ?_
  refine ww_istore 11 X (L' := [some (.ref (G.2.2.2 k)), some (.int p1), some (.int p2), some (.int x1), some (.int x2), none]) dX2_reasonAt_9 rfl (Nat.le_of_ble_eq_true rfl) rfl rfl ?_
  refine ww_iload_n 12 X dX2_reasonAt_11 rfl rfl ?_
  refine ww_if_lt 27 15 X dX2_reasonAt_12 (by decide) rfl h (fun h => ?_) (fun h => ?_)
  · skip
    refine ww_iconst (v := 2) 28 X dX2_reasonAt_27 rfl (by decide) ?_
    obtain rfl := Option.some.inj h
    exact ww_ret_i X hr K dX2_reasonAt_28
  · skip
    refine ww_iload_n 16 X dX2_reasonAt_15 rfl rfl ?_
    refine ww_aload_n 17 X dX2_reasonAt_16 rfl rfl ?_
    refine ww_getr (ci := 2) (j := 4) 20 X cf_2 tw_X2_30 (by decide) rfl hk dX2_reasonAt_17 rfl ?_
    refine ww_iload_n 21 X dX2_reasonAt_20 rfl rfl ?_
    obtain ⟨x3, hx3, h⟩ := hb_bind_of h
    refine ww_callV (ci := 1) (rest := [.int p2]) (st' := [.int x3, .int p2]) 24 X (ct_X1_at (hb_l Γ) G (hc_rf k 4) (hc_kr_2_4 hk) x1 σ hx3) cw_X2_62 rfl (by decide) (hc_kr_2_4 hk) rfl ⟨by decide, by decide⟩ (Nat.le_of_ble_eq_true rfl) rfl rfl dX2_reasonAt_21 rfl ?_
    refine ww_icmp_lt 29 27 X dX2_reasonAt_24 (by decide) rfl h (fun h => ?_) (fun h => ?_)
    · skip
      refine ww_iload_n 30 X dX2_reasonAt_29 rfl rfl ?_
      refine ww_iload_n 31 X dX2_reasonAt_30 rfl rfl ?_
      obtain ⟨x4, hx4, h⟩ := hb_bind_of h
      refine ww_callSN (rest := []) (st' := [.int x4]) 34 X (ct_X5_slotOf (hb_l Γ) G x1 p2 σ hx4) cw_X2_73 rfl ⟨by decide, by decide⟩ (Nat.le_of_ble_eq_true rfl) rfl rfl dX2_reasonAt_31 rfl ?_
      refine ww_istore 36 X (L' := [some (.ref (G.2.2.2 k)), some (.int p1), some (.int p2), some (.int x1), some (.int x2), some (.int x4)]) dX2_reasonAt_34 rfl (Nat.le_of_ble_eq_true rfl) rfl rfl ?_
      refine ww_aload_n 37 X dX2_reasonAt_36 rfl rfl ?_
      refine ww_getr (ci := 2) (j := 6) 40 X cf_2 tw_X2_36 (by decide) rfl hk dX2_reasonAt_37 rfl ?_
      refine ww_iload 42 X dX2_reasonAt_40 rfl rfl ?_
      obtain ⟨x5, hx5, h⟩ := hb_bind_of h
      refine ww_callV (ci := 1) (rest := []) (st' := [.int x5]) 45 X (ct_X1_at (hb_l Γ) G (hc_rf k 6) (hc_kr_2_6 hk) x4 σ hx5) cw_X2_62 rfl (by decide) (hc_kr_2_6 hk) rfl ⟨by decide, by decide⟩ (Nat.le_of_ble_eq_true rfl) rfl rfl dX2_reasonAt_42 rfl ?_
      refine ww_iload 47 X dX2_reasonAt_45 rfl rfl ?_
      refine ww_iconst (v := (-1)) 48 X dX2_reasonAt_47 rfl (by decide) ?_
      refine ww_ixor 49 X dX2_reasonAt_48 rfl ?_
      refine ww_iand 50 X dX2_reasonAt_49 rfl ?_
      refine ww_if_eq 55 53 X dX2_reasonAt_50 (by decide) rfl h (fun h => ?_) (fun h => ?_)
      · skip
        refine ww_aload_n 56 X dX2_reasonAt_55 rfl rfl ?_
        refine ww_getr (ci := 2) (j := 7) 59 X cf_2 tw_X2_39 (by decide) rfl hk dX2_reasonAt_56 rfl ?_
        refine ww_iload 61 X dX2_reasonAt_59 rfl rfl ?_
        obtain ⟨x6, hx6, h⟩ := hb_bind_of h
        refine ww_callV (ci := 1) (rest := []) (st' := [.int x6]) 64 X (ct_X1_at (hb_l Γ) G (hc_rf k 7) (hc_kr_2_7 hk) x4 σ hx6) cw_X2_62 rfl (by decide) (hc_kr_2_7 hk) rfl ⟨by decide, by decide⟩ (Nat.le_of_ble_eq_true rfl) rfl rfl dX2_reasonAt_61 rfl ?_
        refine ww_iload 66 X dX2_reasonAt_64 rfl rfl ?_
        refine ww_iand 67 X dX2_reasonAt_66 rfl ?_
        refine ww_if_eq 74 70 X dX2_reasonAt_67 (by decide) rfl h (fun h => ?_) (fun h => ?_)
        · skip
          refine ww_iconst (v := 0) 75 X dX2_reasonAt_74 rfl (by decide) ?_
          obtain rfl := Option.some.inj h
          exact ww_ret_i X hr K dX2_reasonAt_75
        · skip
          refine ww_iconst (v := 4) 71 X dX2_reasonAt_70 rfl (by decide) ?_
          refine ww_goto 75 X dX2_reasonAt_71 (by decide) ?_
          obtain rfl := Option.some.inj h
          exact ww_ret_i X hr K dX2_reasonAt_75
      · skip
        refine ww_iconst (v := 3) 54 X dX2_reasonAt_53 rfl (by decide) ?_
        obtain rfl := Option.some.inj h
        exact ww_ret_i X hr K dX2_reasonAt_54
    · skip
      refine ww_iconst (v := 2) 28 X dX2_reasonAt_27 rfl (by decide) ?_
      obtain rfl := Option.some.inj h
      exact ww_ret_i X hr K dX2_reasonAt_28
theorem ct_X2_reasonAt (l : Launch) (G : hb_Gam) (k : Nat) (hk : hb_is ΛC k 2) (p1 : Int32) (p2 : Int32) (σ : hb_Mem) {x : Int32} (h : fn_X2_reasonAt k p1 p2 σ = some x) : hb_C l yX2_reasonAt cX2_reasonAt 6 (some .int) 1 21 ΛC G [.ref (G.2.2.2 k), .int p1, .int p2] σ (some (.int x)) σ :=
  hb_C.of [some (.ref (G.2.2.2 k)), some (.int p1), some (.int p2), none, none, none] (by decide +kernel) (Nat.le_of_ble_eq_true rfl) (by intro v hv; simp only [List.mem_cons, List.not_mem_nil, or_false] at hv; rcases hv with rfl | rfl | rfl <;> rfl) rfl (hb_pad [.ref (G.2.2.2 k), .int p1, .int p2] 3) (fun Γ X hr => wk_X2_reasonAt X hr k hk p1 p2 σ h rfl)
def fn_X2_reasonAgainst (k : Nat) (p1 : Int32) (p2 : Int32) (σ : hb_Mem) : Option Int32 :=
(fn_X1_at (hc_rf k 8) p1 σ).bind fun x1 =>
if x1 = (-1) then (
some 1)
else (
(fn_X2_reasonAt k x1 p2 σ).bind fun x2 =>
some x2)
set_option maxRecDepth 100000 in
set_option maxHeartbeats 4000000 in
theorem wk_X2_reasonAgainst {Γ : hb_Ctx} {G : hb_Gam} {Q : State → Prop} (X : hb_X Γ cX2_reasonAgainst 4 RX2 ΛC G 2 46) (hr : hb_ret Γ = (some .int)) (k : Nat) (hk : hb_is ΛC k 2) (p1 : Int32) (p2 : Int32) (σ : hb_Mem) {x : Int32} (h : fn_X2_reasonAgainst k p1 p2 σ = some x) (K : Q = hb_Q Γ ΛC G (some (.int x)) σ) : hb_W Γ ΛC G 4 Q σ [some (.ref (G.2.2.2 k)), some (.int p1), some (.int p2), none] [] 0 := by
  unfold fn_X2_reasonAgainst at h
  refine ww_aload_n 1 X dX2_reasonAgainst_0 rfl rfl ?_
  refine ww_getr (ci := 2) (j := 8) 4 X cf_2 tw_X2_42 (by decide) rfl hk dX2_reasonAgainst_1 rfl ?_
  refine ww_iload_n 5 X dX2_reasonAgainst_4 rfl rfl ?_
  obtain ⟨x1, hx1, h⟩ := hb_bind_of h
  refine ww_callV (ci := 1) (rest := []) (st' := [.int x1]) 8 X (ct_X1_at (hb_l Γ) G (hc_rf k 8) (hc_kr_2_8 hk) p1 σ hx1) cw_X2_62 rfl (by decide) (hc_kr_2_8 hk) rfl ⟨by decide, by decide⟩ (Nat.le_of_ble_eq_true rfl) rfl rfl dX2_reasonAgainst_5 rfl ?_
  refine ww_istore_n 9 X (L' := [some (.ref (G.2.2.2 k)), some (.int p1), some (.int p2), some (.int x1)]) dX2_reasonAgainst_8 rfl (Nat.le_of_ble_eq_true rfl) rfl rfl ?_
  refine ww_iload_n 10 X dX2_reasonAgainst_9 rfl rfl ?_
  refine ww_iconst (v := (-1)) 11 X dX2_reasonAgainst_10 rfl (by decide) ?_
  refine ww_icmp_ne 18 14 X dX2_reasonAgainst_11 (by decide) rfl h (fun h => ?_) (fun h => ?_)
  · skip
    refine ww_iconst (v := 1) 15 X dX2_reasonAgainst_14 rfl (by decide) ?_
    refine ww_goto 24 X dX2_reasonAgainst_15 (by decide) ?_
    obtain rfl := Option.some.inj h
    exact ww_ret_i X hr K dX2_reasonAgainst_24
  · skip
    refine ww_aload_n 19 X dX2_reasonAgainst_18 rfl rfl ?_
    refine ww_iload_n 20 X dX2_reasonAgainst_19 rfl rfl ?_
    refine ww_iload_n 21 X dX2_reasonAgainst_20 rfl rfl ?_
    obtain ⟨x2, hx2, h⟩ := hb_bind_of h
    refine ww_callV (ci := 2) (rest := []) (st' := [.int x2]) 24 X (ct_X2_reasonAt (hb_l Γ) G k hk x1 p2 σ hx2) cw_X2_108 rfl (by decide) hk rfl ⟨by decide, by decide⟩ (Nat.le_of_ble_eq_true rfl) rfl rfl dX2_reasonAgainst_21 rfl ?_
    obtain rfl := Option.some.inj h
    exact ww_ret_i X hr K dX2_reasonAgainst_24
theorem ct_X2_reasonAgainst (l : Launch) (G : hb_Gam) (k : Nat) (hk : hb_is ΛC k 2) (p1 : Int32) (p2 : Int32) (σ : hb_Mem) {x : Int32} (h : fn_X2_reasonAgainst k p1 p2 σ = some x) : hb_C l yX2_reasonAgainst cX2_reasonAgainst 4 (some .int) 2 46 ΛC G [.ref (G.2.2.2 k), .int p1, .int p2] σ (some (.int x)) σ :=
  hb_C.of [some (.ref (G.2.2.2 k)), some (.int p1), some (.int p2), none] (by decide +kernel) (Nat.le_of_ble_eq_true rfl) (by intro v hv; simp only [List.mem_cons, List.not_mem_nil, or_false] at hv; rcases hv with rfl | rfl | rfl <;> rfl) rfl (hb_pad [.ref (G.2.2.2 k), .int p1, .int p2] 1) (fun Γ X hr => wk_X2_reasonAgainst X hr k hk p1 p2 σ h rfl)
def jn_X2_openChoices_24 (k : Nat) (p1 : Int32) (j2 : Int32) (j3 : Int32) (σ : hb_Mem) : Option ((Int32 × Int32) ⊕ Int32) :=
hb_nm (j3 + 1) fun v2 =>
some (.inl (j2, v2))
set_option maxRecDepth 100000 in
set_option maxHeartbeats 4000000 in
theorem jw_X2_openChoices_24 {Γ : hb_Ctx} {G : hb_Gam} {Q : State → Prop} (X : hb_X Γ cX2_openChoices 4 RX2 ΛC G 2 46)  (k : Nat) (hk : hb_is ΛC k 2) (p1 : Int32) (j2 : Int32) (j3 : Int32) (σ : hb_Mem) {x : ((Int32 × Int32) ⊕ Int32)} (h : jn_X2_openChoices_24 k p1 j2 j3 σ = some x) (K : Sum.elim (fun s : (Int32 × Int32) => hb_W Γ ΛC G 4 Q σ [some (.ref (G.2.2.2 k)), some (.int p1), some (.int s.1), some (.int s.2)] [] 4) (fun t : Int32 => hb_W Γ ΛC G 4 Q σ [none, none, some (.int t), none] [] 30) x) : hb_W Γ ΛC G 4 Q σ [some (.ref (G.2.2.2 k)), some (.int p1), some (.int j2), some (.int j3)] [] 24 := by
  unfold jn_X2_openChoices_24 at h
  obtain ⟨v2, ev2, h⟩ := hb_nm_of h
  refine ww_iinc 27 X (L' := [some (.ref (G.2.2.2 k)), some (.int p1), some (.int j2), some (.int v2)]) dX2_openChoices_24 rfl rfl ev2.symm rfl ?_
  refine ww_goto 4 X dX2_openChoices_27 (by decide) ?_
  obtain rfl := Option.some.inj h
  exact K
def lb_X2_openChoices_4 (k : Nat) (p1 : Int32) (w2 : Int32) (w3 : Int32) (σ : hb_Mem) : Option ((Int32 × Int32) ⊕ Int32) :=
if 3 ≤ w3 then (
some (.inr w2))
else (
(fn_X2_reasonAt k p1 w3 σ).bind fun x1 =>
if x1 = 0 then (
hb_nm (w2 ||| ((1 : Int32) <<< (w3 &&& 31))) fun v3 =>
jn_X2_openChoices_24 k p1 v3 w3 σ)
else (
jn_X2_openChoices_24 k p1 w2 w3 σ))
set_option maxRecDepth 100000 in
set_option maxHeartbeats 4000000 in
theorem lk_X2_openChoices_4 {Γ : hb_Ctx} {G : hb_Gam} {Q : State → Prop} (X : hb_X Γ cX2_openChoices 4 RX2 ΛC G 2 46)  (k : Nat) (hk : hb_is ΛC k 2) (p1 : Int32) (w2 : Int32) (w3 : Int32) (σ : hb_Mem) {x : ((Int32 × Int32) ⊕ Int32)} (h : lb_X2_openChoices_4 k p1 w2 w3 σ = some x) (K : Sum.elim (fun s : (Int32 × Int32) => hb_W Γ ΛC G 4 Q σ [some (.ref (G.2.2.2 k)), some (.int p1), some (.int s.1), some (.int s.2)] [] 4) (fun t : Int32 => hb_W Γ ΛC G 4 Q σ [none, none, some (.int t), none] [] 30) x) : hb_W Γ ΛC G 4 Q σ [some (.ref (G.2.2.2 k)), some (.int p1), some (.int w2), some (.int w3)] [] 4 := by
  unfold lb_X2_openChoices_4 at h
  refine ww_iload_n 5 X dX2_openChoices_4 rfl rfl ?_
  refine ww_iconst (v := 3) 6 X dX2_openChoices_5 rfl (by decide) ?_
  refine ww_icmp_ge 30 9 X dX2_openChoices_6 (by decide) rfl h (fun h => ?_) (fun h => ?_)
  · skip
    obtain rfl := Option.some.inj h
    refine ww_kill [0, 1, 3] (L' := [none, none, some (.int w2), none]) rfl ?_
    exact K
  · skip
    refine ww_aload_n 10 X dX2_openChoices_9 rfl rfl ?_
    refine ww_iload_n 11 X dX2_openChoices_10 rfl rfl ?_
    refine ww_iload_n 12 X dX2_openChoices_11 rfl rfl ?_
    obtain ⟨x1, hx1, h⟩ := hb_bind_of h
    refine ww_callV (ci := 2) (rest := []) (st' := [.int x1]) 15 X (ct_X2_reasonAt (hb_l Γ) G k hk p1 w3 σ hx1) cw_X2_108 rfl (by decide) hk rfl ⟨by decide, by decide⟩ (Nat.le_of_ble_eq_true rfl) rfl rfl dX2_openChoices_12 rfl ?_
    refine ww_if_ne 24 18 X dX2_openChoices_15 (by decide) rfl h (fun h => ?_) (fun h => ?_)
    · skip
      refine ww_iload_n 19 X dX2_openChoices_18 rfl rfl ?_
      refine ww_iconst (v := 1) 20 X dX2_openChoices_19 rfl (by decide) ?_
      refine ww_iload_n 21 X dX2_openChoices_20 rfl rfl ?_
      refine ww_ishl 22 X dX2_openChoices_21 rfl ?_
      refine ww_ior 23 X dX2_openChoices_22 rfl ?_
      obtain ⟨v3, ev3, h⟩ := hb_nm_of h
      rw [← ev3]
      refine ww_istore_n 24 X (L' := [some (.ref (G.2.2.2 k)), some (.int p1), some (.int v3), some (.int w3)]) dX2_openChoices_23 rfl (Nat.le_of_ble_eq_true rfl) rfl rfl ?_
      exact jw_X2_openChoices_24 X k hk p1 v3 w3 σ h K
    · skip
      exact jw_X2_openChoices_24 X k hk p1 w2 w3 σ h K
def ll_X2_openChoices_4 (k : Nat) (p1 : Int32) (σ : hb_Mem) : (Int32 × Int32) → Option Int32 := hb_lp (fun s => lb_X2_openChoices_4 k p1 s.1 s.2 σ) hb_F
theorem lw_X2_openChoices_4 {Γ : hb_Ctx} {G : hb_Gam} {Q : State → Prop} (X : hb_X Γ cX2_openChoices 4 RX2 ΛC G 2 46)  (k : Nat) (hk : hb_is ΛC k 2) (p1 : Int32) (σ : hb_Mem) (s : (Int32 × Int32)) (t : Int32) (h : ll_X2_openChoices_4 k p1 σ s = some t) (K : (fun t : Int32 => hb_W Γ ΛC G 4 Q σ [none, none, some (.int t), none] [] 30) t) : hb_W Γ ΛC G 4 Q σ [some (.ref (G.2.2.2 k)), some (.int p1), some (.int s.1), some (.int s.2)] [] 4 :=
  hb_lp_w (P := fun s : (Int32 × Int32) => hb_W Γ ΛC G 4 Q σ [some (.ref (G.2.2.2 k)), some (.int p1), some (.int s.1), some (.int s.2)] [] 4) (E := (fun t : Int32 => hb_W Γ ΛC G 4 Q σ [none, none, some (.int t), none] [] 30)) (fun s x hx K => lk_X2_openChoices_4 X k hk p1 s.1 s.2 σ hx K) _ s t h K
def fn_X2_openChoices (k : Nat) (p1 : Int32) (σ : hb_Mem) : Option Int32 :=
(ll_X2_openChoices_4 k p1 σ (0, 0)).bind fun t4 =>
some t4
set_option maxRecDepth 100000 in
set_option maxHeartbeats 4000000 in
theorem wk_X2_openChoices {Γ : hb_Ctx} {G : hb_Gam} {Q : State → Prop} (X : hb_X Γ cX2_openChoices 4 RX2 ΛC G 2 46) (hr : hb_ret Γ = (some .int)) (k : Nat) (hk : hb_is ΛC k 2) (p1 : Int32) (σ : hb_Mem) {x : Int32} (h : fn_X2_openChoices k p1 σ = some x) (K : Q = hb_Q Γ ΛC G (some (.int x)) σ) : hb_W Γ ΛC G 4 Q σ [some (.ref (G.2.2.2 k)), some (.int p1), none, none] [] 0 := by
  unfold fn_X2_openChoices at h
  refine ww_iconst (v := 0) 1 X dX2_openChoices_0 rfl (by decide) ?_
  refine ww_istore_n 2 X (L' := [some (.ref (G.2.2.2 k)), some (.int p1), some (.int 0), none]) dX2_openChoices_1 rfl (Nat.le_of_ble_eq_true rfl) rfl rfl ?_
  refine ww_iconst (v := 0) 3 X dX2_openChoices_2 rfl (by decide) ?_
  refine ww_istore_n 4 X (L' := [some (.ref (G.2.2.2 k)), some (.int p1), some (.int 0), some (.int 0)]) dX2_openChoices_3 rfl (Nat.le_of_ble_eq_true rfl) rfl rfl ?_
  obtain ⟨t4, ht4, h⟩ := hb_bind_of h
  refine lw_X2_openChoices_4 X k hk p1 σ (0, 0) t4 ht4 ?_
  refine ww_iload_n 31 X dX2_openChoices_30 rfl rfl ?_
  obtain rfl := Option.some.inj h
  exact ww_ret_i X hr K dX2_openChoices_31
theorem ct_X2_openChoices (l : Launch) (G : hb_Gam) (k : Nat) (hk : hb_is ΛC k 2) (p1 : Int32) (σ : hb_Mem) {x : Int32} (h : fn_X2_openChoices k p1 σ = some x) : hb_C l yX2_openChoices cX2_openChoices 4 (some .int) 2 46 ΛC G [.ref (G.2.2.2 k), .int p1] σ (some (.int x)) σ :=
  hb_C.of [some (.ref (G.2.2.2 k)), some (.int p1), none, none] (by decide +kernel) (Nat.le_of_ble_eq_true rfl) (by intro v hv; simp only [List.mem_cons, List.not_mem_nil, or_false] at hv; rcases hv with rfl | rfl <;> rfl) rfl (hb_pad [.ref (G.2.2.2 k), .int p1] 2) (fun Γ X hr => wk_X2_openChoices X hr k hk p1 σ h rfl)
