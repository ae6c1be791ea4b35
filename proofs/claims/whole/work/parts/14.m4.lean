/-! methods (laid by wip/whole/gen.py) -/
def jn_X6_leadsOn_44 (k : Nat) (p1 : Int32) (j3 : Int32) (s0 : Int32) (σ : hb_Mem) : Option ((Int32 × Int32) ⊕ Int32) :=
hb_nm (j3 + 1) fun v2 =>
some (.inl (s0, v2))
set_option maxRecDepth 100000 in
set_option maxHeartbeats 4000000 in
theorem jw_X6_leadsOn_44 {Γ : hb_Ctx} {G : hb_Gam} {Q : State → Prop} (X : hb_X Γ cX6_leadsOn 5 RX6 ΛM G 3 71)  (k : Nat) (hk : hb_is ΛM k 6) (p1 : Int32) (j3 : Int32) (s0 : Int32) (σ : hb_Mem) {x : ((Int32 × Int32) ⊕ Int32)} (h : jn_X6_leadsOn_44 k p1 j3 s0 σ = some x) (K : Sum.elim (fun s : (Int32 × Int32) => hb_W Γ ΛM G 5 Q σ [some (.ref (G.2.2.2 k)), some (.int p1), some (.int s.1), some (.int s.2), none] [] 4) (fun t : Int32 => hb_W Γ ΛM G 5 Q σ [none, none, some (.int t), none, none] [] 51) x) : hb_W Γ ΛM G 5 Q σ [some (.ref (G.2.2.2 k)), some (.int p1), none, some (.int j3), none] [.int s0] 44 := by
  unfold jn_X6_leadsOn_44 at h
  refine ww_istore_n 45 X (L' := [some (.ref (G.2.2.2 k)), some (.int p1), some (.int s0), some (.int j3), none]) dX6_leadsOn_44 rfl (Nat.le_of_ble_eq_true rfl) rfl ?_
  obtain ⟨v2, ev2, h⟩ := hb_nm_of h
  refine ww_iinc 48 X (L' := [some (.ref (G.2.2.2 k)), some (.int p1), some (.int s0), some (.int v2), none]) dX6_leadsOn_45 rfl rfl ev2.symm rfl ?_
  refine ww_goto 4 X dX6_leadsOn_48 (by decide) ?_
  obtain rfl := Option.some.inj h
  exact K
def jn_X6_leadsOn_39 (k : Nat) (p1 : Int32) (j3 : Int32) (σ : hb_Mem) : Option ((Int32 × Int32) ⊕ Int32) :=
jn_X6_leadsOn_44 k p1 j3 1 σ
set_option maxRecDepth 100000 in
set_option maxHeartbeats 4000000 in
theorem jw_X6_leadsOn_39 {Γ : hb_Ctx} {G : hb_Gam} {Q : State → Prop} (X : hb_X Γ cX6_leadsOn 5 RX6 ΛM G 3 71)  (k : Nat) (hk : hb_is ΛM k 6) (p1 : Int32) (j3 : Int32) (σ : hb_Mem) {x : ((Int32 × Int32) ⊕ Int32)} (h : jn_X6_leadsOn_39 k p1 j3 σ = some x) (K : Sum.elim (fun s : (Int32 × Int32) => hb_W Γ ΛM G 5 Q σ [some (.ref (G.2.2.2 k)), some (.int p1), some (.int s.1), some (.int s.2), none] [] 4) (fun t : Int32 => hb_W Γ ΛM G 5 Q σ [none, none, some (.int t), none, none] [] 51) x) : hb_W Γ ΛM G 5 Q σ [some (.ref (G.2.2.2 k)), some (.int p1), none, some (.int j3), none] [] 39 := by
  unfold jn_X6_leadsOn_39 at h
  refine ww_iconst (v := 1) 40 X dX6_leadsOn_39 rfl (by decide) ?_
  refine ww_goto 44 X dX6_leadsOn_40 (by decide) ?_
  exact jw_X6_leadsOn_44 X k hk p1 j3 1 σ h K
def jn_X6_leadsOn_43 (k : Nat) (p1 : Int32) (j3 : Int32) (σ : hb_Mem) : Option ((Int32 × Int32) ⊕ Int32) :=
jn_X6_leadsOn_44 k p1 j3 0 σ
set_option maxRecDepth 100000 in
set_option maxHeartbeats 4000000 in
theorem jw_X6_leadsOn_43 {Γ : hb_Ctx} {G : hb_Gam} {Q : State → Prop} (X : hb_X Γ cX6_leadsOn 5 RX6 ΛM G 3 71)  (k : Nat) (hk : hb_is ΛM k 6) (p1 : Int32) (j3 : Int32) (σ : hb_Mem) {x : ((Int32 × Int32) ⊕ Int32)} (h : jn_X6_leadsOn_43 k p1 j3 σ = some x) (K : Sum.elim (fun s : (Int32 × Int32) => hb_W Γ ΛM G 5 Q σ [some (.ref (G.2.2.2 k)), some (.int p1), some (.int s.1), some (.int s.2), none] [] 4) (fun t : Int32 => hb_W Γ ΛM G 5 Q σ [none, none, some (.int t), none, none] [] 51) x) : hb_W Γ ΛM G 5 Q σ [some (.ref (G.2.2.2 k)), some (.int p1), none, some (.int j3), none] [] 43 := by
  unfold jn_X6_leadsOn_43 at h
  refine ww_iconst (v := 0) 44 X dX6_leadsOn_43 rfl (by decide) ?_
  exact jw_X6_leadsOn_44 X k hk p1 j3 0 σ h K
def lb_X6_leadsOn_4 (k : Nat) (p1 : Int32) (w2 : Int32) (w3 : Int32) (σ : hb_Mem) : Option ((Int32 × Int32) ⊕ Int32) :=
if 3 ≤ w3 then (
some (.inr w2))
else (
(fn_X6_behind k p1 w3 σ).bind fun x1 =>
if w2 = 0 then (
if x1 = (-5) then (
jn_X6_leadsOn_43 k p1 w3 σ)
else (
(hb_ld ΛM σ (hm_rf k 13) x1).bind fun v3 =>
if v3 = 1 then (
jn_X6_leadsOn_39 k p1 w3 σ)
else (
jn_X6_leadsOn_43 k p1 w3 σ)))
else (
jn_X6_leadsOn_39 k p1 w3 σ))
set_option maxRecDepth 100000 in
set_option maxHeartbeats 4000000 in
theorem lk_X6_leadsOn_4 {Γ : hb_Ctx} {G : hb_Gam} {Q : State → Prop} (X : hb_X Γ cX6_leadsOn 5 RX6 ΛM G 3 71)  (k : Nat) (hk : hb_is ΛM k 6) (p1 : Int32) (w2 : Int32) (w3 : Int32) (σ : hb_Mem) {x : ((Int32 × Int32) ⊕ Int32)} (h : lb_X6_leadsOn_4 k p1 w2 w3 σ = some x) (K : Sum.elim (fun s : (Int32 × Int32) => hb_W Γ ΛM G 5 Q σ [some (.ref (G.2.2.2 k)), some (.int p1), some (.int s.1), some (.int s.2), none] [] 4) (fun t : Int32 => hb_W Γ ΛM G 5 Q σ [none, none, some (.int t), none, none] [] 51) x) : hb_W Γ ΛM G 5 Q σ [some (.ref (G.2.2.2 k)), some (.int p1), some (.int w2), some (.int w3), none] [] 4 := by
  unfold lb_X6_leadsOn_4 at h
  refine ww_iload_n 5 X dX6_leadsOn_4 rfl rfl ?_
  refine ww_iconst (v := 3) 6 X dX6_leadsOn_5 rfl (by decide) ?_
  refine ww_icmp_ge 51 9 X dX6_leadsOn_6 (by decide) rfl h (fun h => ?_) (fun h => ?_)
  · skip
    obtain rfl := Option.some.inj h
    refine ww_kill [0, 1, 3] (L' := [none, none, some (.int w2), none, none]) rfl ?_
    exact K
  · skip
    refine ww_aload_n 10 X dX6_leadsOn_9 rfl rfl ?_
    refine ww_iload_n 11 X dX6_leadsOn_10 rfl rfl ?_
    refine ww_iload_n 12 X dX6_leadsOn_11 rfl rfl ?_
    obtain ⟨x1, hx1, h⟩ := hb_bind_of h
    refine ww_callV (ci := 6) (rest := []) (st' := [.int x1]) 15 X (ct_X6_behind (hb_l Γ) G k hk p1 w3 σ hx1) cw_X6_79 rfl (by decide) hk rfl ⟨by decide, by decide⟩ (Nat.le_of_ble_eq_true rfl) rfl rfl dX6_leadsOn_12 rfl ?_
    refine ww_istore 17 X (L' := [some (.ref (G.2.2.2 k)), some (.int p1), some (.int w2), some (.int w3), some (.int x1)]) dX6_leadsOn_15 rfl (Nat.le_of_ble_eq_true rfl) rfl ?_
    refine ww_iload_n 18 X dX6_leadsOn_17 rfl rfl ?_
    refine ww_if_ne 39 21 X dX6_leadsOn_18 (by decide) rfl h (fun h => ?_) (fun h => ?_)
    · skip
      refine ww_iload 23 X dX6_leadsOn_21 rfl rfl ?_
      refine ww_bipush (v := (-5)) 25 X dX6_leadsOn_23 rfl (by decide) ?_
      refine ww_icmp_eq 43 28 X dX6_leadsOn_25 (by decide) rfl h (fun h => ?_) (fun h => ?_)
      · skip
        refine ww_kill [2, 4] (L' := [some (.ref (G.2.2.2 k)), some (.int p1), none, some (.int w3), none]) rfl ?_
        exact jw_X6_leadsOn_43 X k hk p1 w3 σ h K
      · skip
        refine ww_aload_n 29 X dX6_leadsOn_28 rfl rfl ?_
        refine ww_getr (ci := 6) (j := 13) 32 X cf_6 tw_X6_37 (by decide) rfl hk dX6_leadsOn_29 rfl ?_
        refine ww_iload 34 X dX6_leadsOn_32 rfl rfl ?_
        obtain ⟨v3, hv3, h⟩ := hb_bind_of h
        refine ww_iald 35 X (hm_kr_6_13 hk) hv3 dX6_leadsOn_34 rfl ?_
        refine ww_iconst (v := 1) 36 X dX6_leadsOn_35 rfl (by decide) ?_
        refine ww_icmp_ne 43 39 X dX6_leadsOn_36 (by decide) rfl h (fun h => ?_) (fun h => ?_)
        · skip
          refine ww_kill [2, 4] (L' := [some (.ref (G.2.2.2 k)), some (.int p1), none, some (.int w3), none]) rfl ?_
          exact jw_X6_leadsOn_39 X k hk p1 w3 σ h K
        · skip
          refine ww_kill [2, 4] (L' := [some (.ref (G.2.2.2 k)), some (.int p1), none, some (.int w3), none]) rfl ?_
          exact jw_X6_leadsOn_43 X k hk p1 w3 σ h K
    · skip
      refine ww_kill [2, 4] (L' := [some (.ref (G.2.2.2 k)), some (.int p1), none, some (.int w3), none]) rfl ?_
      exact jw_X6_leadsOn_39 X k hk p1 w3 σ h K
def ll_X6_leadsOn_4 (k : Nat) (p1 : Int32) (σ : hb_Mem) : (Int32 × Int32) → Option Int32 := hb_lp (fun s => lb_X6_leadsOn_4 k p1 s.1 s.2 σ) hb_F
theorem lw_X6_leadsOn_4 {Γ : hb_Ctx} {G : hb_Gam} {Q : State → Prop} (X : hb_X Γ cX6_leadsOn 5 RX6 ΛM G 3 71)  (k : Nat) (hk : hb_is ΛM k 6) (p1 : Int32) (σ : hb_Mem) (s : (Int32 × Int32)) (t : Int32) (h : ll_X6_leadsOn_4 k p1 σ s = some t) (K : (fun t : Int32 => hb_W Γ ΛM G 5 Q σ [none, none, some (.int t), none, none] [] 51) t) : hb_W Γ ΛM G 5 Q σ [some (.ref (G.2.2.2 k)), some (.int p1), some (.int s.1), some (.int s.2), none] [] 4 :=
  hb_lp_w (P := fun s : (Int32 × Int32) => hb_W Γ ΛM G 5 Q σ [some (.ref (G.2.2.2 k)), some (.int p1), some (.int s.1), some (.int s.2), none] [] 4) (E := (fun t : Int32 => hb_W Γ ΛM G 5 Q σ [none, none, some (.int t), none, none] [] 51)) (fun s x hx K => lk_X6_leadsOn_4 X k hk p1 s.1 s.2 σ hx K) _ s t h K
def fn_X6_leadsOn (k : Nat) (p1 : Int32) (σ : hb_Mem) : Option Int32 :=
(ll_X6_leadsOn_4 k p1 σ (0, 0)).bind fun t4 =>
(hb_bz t4).bind fun z5 =>
some t4
set_option maxRecDepth 100000 in
set_option maxHeartbeats 4000000 in
theorem wk_X6_leadsOn {Γ : hb_Ctx} {G : hb_Gam} {Q : State → Prop} (X : hb_X Γ cX6_leadsOn 5 RX6 ΛM G 3 71) (hr : hb_ret Γ = (some .boolean)) (k : Nat) (hk : hb_is ΛM k 6) (p1 : Int32) (σ : hb_Mem) {x : Int32} (h : fn_X6_leadsOn k p1 σ = some x) (K : Q = hb_Q Γ ΛM G (some (.int x)) σ) : hb_W Γ ΛM G 5 Q σ [some (.ref (G.2.2.2 k)), some (.int p1), none, none, none] [] 0 := by
  unfold fn_X6_leadsOn at h
  refine ww_iconst (v := 0) 1 X dX6_leadsOn_0 rfl (by decide) ?_
  refine ww_istore_n 2 X (L' := [some (.ref (G.2.2.2 k)), some (.int p1), some (.int 0), none, none]) dX6_leadsOn_1 rfl (Nat.le_of_ble_eq_true rfl) rfl ?_
  refine ww_iconst (v := 0) 3 X dX6_leadsOn_2 rfl (by decide) ?_
  refine ww_istore_n 4 X (L' := [some (.ref (G.2.2.2 k)), some (.int p1), some (.int 0), some (.int 0), none]) dX6_leadsOn_3 rfl (Nat.le_of_ble_eq_true rfl) rfl ?_
  obtain ⟨t4, ht4, h⟩ := hb_bind_of h
  refine lw_X6_leadsOn_4 X k hk p1 σ (0, 0) t4 ht4 ?_
  refine ww_iload_n 52 X dX6_leadsOn_51 rfl rfl ?_
  obtain ⟨z5, hz5, h⟩ := hb_bind_of h
  replace hz5 := (hb_bz_of hz5).1
  obtain rfl := Option.some.inj h
  exact ww_ret_z X hr hz5 K dX6_leadsOn_52
theorem ct_X6_leadsOn (l : Launch) (G : hb_Gam) (k : Nat) (hk : hb_is ΛM k 6) (p1 : Int32) (σ : hb_Mem) {x : Int32} (h : fn_X6_leadsOn k p1 σ = some x) : hb_C l yX6_leadsOn cX6_leadsOn 5 (some .boolean) 3 71 ΛM G [.ref (G.2.2.2 k), .int p1] σ (some (.int x)) σ :=
  hb_C.of [some (.ref (G.2.2.2 k)), some (.int p1), none, none, none] (by decide +kernel) (Nat.le_of_ble_eq_true rfl) (by intro v hv; simp only [List.mem_cons, List.not_mem_nil, or_false] at hv; rcases hv with rfl | rfl <;> rfl) rfl (hb_pad [.ref (G.2.2.2 k), .int p1] 3) (fun Γ X hr => wk_X6_leadsOn X hr k hk p1 σ h rfl)
def jn_X6_findsEnds_44 (k : Nat) (j1 : Int32) (s1 : Int32) (s2 : Int32) (σ : hb_Mem) : Option ((Int32 × hb_Mem) ⊕ hb_Mem) :=
(hb_st ΛM σ (hm_rf k 13) s1 s2).bind fun σ3 =>
hb_nm (j1 + 1) fun v4 =>
some (.inl (v4, σ3))
set_option maxRecDepth 100000 in
set_option maxHeartbeats 4000000 in
theorem jw_X6_findsEnds_44 {Γ : hb_Ctx} {G : hb_Gam} {Q : State → Prop} (X : hb_X Γ cX6_findsEnds 3 RX6 ΛM G 6 136)  (k : Nat) (hk : hb_is ΛM k 6) (j1 : Int32) (s1 : Int32) (s2 : Int32) (σ : hb_Mem) {x : ((Int32 × hb_Mem) ⊕ hb_Mem)} (h : jn_X6_findsEnds_44 k j1 s1 s2 σ = some x) (K : Sum.elim (fun s : (Int32 × hb_Mem) => hb_W Γ ΛM G 3 Q s.2 [some (.ref (G.2.2.2 k)), some (.int s.1), none] [] 6) (fun t : hb_Mem => hb_W Γ ΛM G 3 Q t [some (.ref (G.2.2.2 k)), none, none] [] 51) x) : hb_W Γ ΛM G 3 Q σ [some (.ref (G.2.2.2 k)), some (.int j1), none] [.int s2, .int s1, .ref (G.2.2.2 (hm_rf k 13))] 44 := by
  unfold jn_X6_findsEnds_44 at h
  obtain ⟨σ3, hσ3, h⟩ := hb_bind_of h
  refine ww_iast 45 X (hm_kr_6_13 hk) hσ3 dX6_findsEnds_44 rfl ?_
  obtain ⟨v4, ev4, h⟩ := hb_nm_of h
  refine ww_iinc 48 X (L' := [some (.ref (G.2.2.2 k)), some (.int v4), none]) dX6_findsEnds_45 rfl rfl ev4.symm rfl ?_
  refine ww_goto 6 X dX6_findsEnds_48 (by decide) ?_
  obtain rfl := Option.some.inj h
  exact K
def jn_X6_findsEnds_43 (k : Nat) (j1 : Int32) (s1 : Int32) (σ : hb_Mem) : Option ((Int32 × hb_Mem) ⊕ hb_Mem) :=
jn_X6_findsEnds_44 k j1 s1 0 σ
set_option maxRecDepth 100000 in
set_option maxHeartbeats 4000000 in
theorem jw_X6_findsEnds_43 {Γ : hb_Ctx} {G : hb_Gam} {Q : State → Prop} (X : hb_X Γ cX6_findsEnds 3 RX6 ΛM G 6 136)  (k : Nat) (hk : hb_is ΛM k 6) (j1 : Int32) (s1 : Int32) (σ : hb_Mem) {x : ((Int32 × hb_Mem) ⊕ hb_Mem)} (h : jn_X6_findsEnds_43 k j1 s1 σ = some x) (K : Sum.elim (fun s : (Int32 × hb_Mem) => hb_W Γ ΛM G 3 Q s.2 [some (.ref (G.2.2.2 k)), some (.int s.1), none] [] 6) (fun t : hb_Mem => hb_W Γ ΛM G 3 Q t [some (.ref (G.2.2.2 k)), none, none] [] 51) x) : hb_W Γ ΛM G 3 Q σ [some (.ref (G.2.2.2 k)), some (.int j1), none] [.int s1, .ref (G.2.2.2 (hm_rf k 13))] 43 := by
  unfold jn_X6_findsEnds_43 at h
  refine ww_iconst (v := 0) 44 X dX6_findsEnds_43 rfl (by decide) ?_
  exact jw_X6_findsEnds_44 X k hk j1 s1 0 σ h K
def lb_X6_findsEnds_6 (k : Nat) (w1 : Int32) (σ : hb_Mem) : Option ((Int32 × hb_Mem) ⊕ hb_Mem) :=
if 1024 ≤ w1 then (
some (.inr σ))
else (
(hb_ld ΛM σ (hm_rf k 12) w1).bind fun v2 =>
if v2 = 1 then (
(fn_X6_isEnd k (w1 / 32) σ).bind fun x5 =>
if x5 = 0 then (
jn_X6_findsEnds_43 k w1 w1 σ)
else (
jn_X6_findsEnds_44 k w1 w1 1 σ))
else (
jn_X6_findsEnds_43 k w1 w1 σ))
set_option maxRecDepth 100000 in
set_option maxHeartbeats 4000000 in
theorem lk_X6_findsEnds_6 {Γ : hb_Ctx} {G : hb_Gam} {Q : State → Prop} (X : hb_X Γ cX6_findsEnds 3 RX6 ΛM G 6 136)  (k : Nat) (hk : hb_is ΛM k 6) (w1 : Int32) (σ : hb_Mem) {x : ((Int32 × hb_Mem) ⊕ hb_Mem)} (h : lb_X6_findsEnds_6 k w1 σ = some x) (K : Sum.elim (fun s : (Int32 × hb_Mem) => hb_W Γ ΛM G 3 Q s.2 [some (.ref (G.2.2.2 k)), some (.int s.1), none] [] 6) (fun t : hb_Mem => hb_W Γ ΛM G 3 Q t [some (.ref (G.2.2.2 k)), none, none] [] 51) x) : hb_W Γ ΛM G 3 Q σ [some (.ref (G.2.2.2 k)), some (.int w1), none] [] 6 := by
  unfold lb_X6_findsEnds_6 at h
  refine ww_iload_n 7 X dX6_findsEnds_6 rfl rfl ?_
  refine ww_sipush (v := 1024) 10 X dX6_findsEnds_7 rfl (by decide) ?_
  refine ww_icmp_ge 51 13 X dX6_findsEnds_10 (by decide) rfl h (fun h => ?_) (fun h => ?_)
  · skip
    obtain rfl := Option.some.inj h
    refine ww_kill [1] (L' := [some (.ref (G.2.2.2 k)), none, none]) rfl ?_
    exact K
  · skip
    refine ww_aload_n 14 X dX6_findsEnds_13 rfl rfl ?_
    refine ww_getr (ci := 6) (j := 13) 17 X cf_6 tw_X6_37 (by decide) rfl hk dX6_findsEnds_14 rfl ?_
    refine ww_iload_n 18 X dX6_findsEnds_17 rfl rfl ?_
    refine ww_aload_n 19 X dX6_findsEnds_18 rfl rfl ?_
    refine ww_getr (ci := 6) (j := 12) 22 X cf_6 tw_X6_34 (by decide) rfl hk dX6_findsEnds_19 rfl ?_
    refine ww_iload_n 23 X dX6_findsEnds_22 rfl rfl ?_
    obtain ⟨v2, hv2, h⟩ := hb_bind_of h
    refine ww_iald 24 X (hm_kr_6_12 hk) hv2 dX6_findsEnds_23 rfl ?_
    refine ww_iconst (v := 1) 25 X dX6_findsEnds_24 rfl (by decide) ?_
    refine ww_icmp_ne 43 28 X dX6_findsEnds_25 (by decide) rfl h (fun h => ?_) (fun h => ?_)
    · skip
      refine ww_aload_n 29 X dX6_findsEnds_28 rfl rfl ?_
      refine ww_iload_n 30 X dX6_findsEnds_29 rfl rfl ?_
      refine ww_bipush (v := 32) 32 X dX6_findsEnds_30 rfl (by decide) ?_
      refine ww_idiv 33 X dX6_findsEnds_32 rfl (by decide) ?_
      obtain ⟨x5, hx5, h⟩ := hb_bind_of h
      refine ww_callV (ci := 6) (rest := [.int w1, .ref (G.2.2.2 (hm_rf k 13))]) (st' := [.int x5, .int w1, .ref (G.2.2.2 (hm_rf k 13))]) 36 X (ct_X6_isEnd (hb_l Γ) G k hk (w1 / 32) σ hx5) cw_X6_66 rfl (by decide) hk rfl ⟨by decide, by decide⟩ (Nat.le_of_ble_eq_true rfl) rfl rfl dX6_findsEnds_33 rfl ?_
      refine ww_if_eq 43 39 X dX6_findsEnds_36 (by decide) rfl h (fun h => ?_) (fun h => ?_)
      · skip
        exact jw_X6_findsEnds_43 X k hk w1 w1 σ h K
      · skip
        refine ww_iconst (v := 1) 40 X dX6_findsEnds_39 rfl (by decide) ?_
        refine ww_goto 44 X dX6_findsEnds_40 (by decide) ?_
        exact jw_X6_findsEnds_44 X k hk w1 w1 1 σ h K
    · skip
      exact jw_X6_findsEnds_43 X k hk w1 w1 σ h K
def ll_X6_findsEnds_6 (k : Nat) : (Int32 × hb_Mem) → Option hb_Mem := hb_lp (fun s => lb_X6_findsEnds_6 k s.1 s.2) hb_F
theorem lw_X6_findsEnds_6 {Γ : hb_Ctx} {G : hb_Gam} {Q : State → Prop} (X : hb_X Γ cX6_findsEnds 3 RX6 ΛM G 6 136)  (k : Nat) (hk : hb_is ΛM k 6) (s : (Int32 × hb_Mem)) (t : hb_Mem) (h : ll_X6_findsEnds_6 k s = some t) (K : (fun t : hb_Mem => hb_W Γ ΛM G 3 Q t [some (.ref (G.2.2.2 k)), none, none] [] 51) t) : hb_W Γ ΛM G 3 Q s.2 [some (.ref (G.2.2.2 k)), some (.int s.1), none] [] 6 :=
  hb_lp_w (P := fun s : (Int32 × hb_Mem) => hb_W Γ ΛM G 3 Q s.2 [some (.ref (G.2.2.2 k)), some (.int s.1), none] [] 6) (E := (fun t : hb_Mem => hb_W Γ ΛM G 3 Q t [some (.ref (G.2.2.2 k)), none, none] [] 51)) (fun s x hx K => lk_X6_findsEnds_6 X k hk s.1 s.2 hx K) _ s t h K
def jn_X6_findsEnds_111 (k : Nat) (j1 : Int32) (j2 : Int32) (σ : hb_Mem) : Option ((Int32 × Int32 × hb_Mem) ⊕ (Int32 × hb_Mem)) :=
hb_nm (j2 + (-1)) fun v10 =>
some (.inl (j1, v10, σ))
set_option maxRecDepth 100000 in
set_option maxHeartbeats 4000000 in
theorem jw_X6_findsEnds_111 {Γ : hb_Ctx} {G : hb_Gam} {Q : State → Prop} (X : hb_X Γ cX6_findsEnds 3 RX6 ΛM G 6 136)  (k : Nat) (hk : hb_is ΛM k 6) (j1 : Int32) (j2 : Int32) (σ : hb_Mem) {x : ((Int32 × Int32 × hb_Mem) ⊕ (Int32 × hb_Mem))} (h : jn_X6_findsEnds_111 k j1 j2 σ = some x) (K : Sum.elim (fun s : (Int32 × Int32 × hb_Mem) => hb_W Γ ΛM G 3 Q s.2.2 [some (.ref (G.2.2.2 k)), some (.int s.1), some (.int s.2.1)] [] 66) (fun t : (Int32 × hb_Mem) => hb_W Γ ΛM G 3 Q t.2 [some (.ref (G.2.2.2 k)), some (.int t.1), none] [] 117) x) : hb_W Γ ΛM G 3 Q σ [some (.ref (G.2.2.2 k)), some (.int j1), some (.int j2)] [] 111 := by
  unfold jn_X6_findsEnds_111 at h
  obtain ⟨v10, ev10, h⟩ := hb_nm_of h
  refine ww_iinc 114 X (L' := [some (.ref (G.2.2.2 k)), some (.int j1), some (.int v10)]) dX6_findsEnds_111 rfl rfl ev10.symm rfl ?_
  refine ww_goto 66 X dX6_findsEnds_114 (by decide) ?_
  obtain rfl := Option.some.inj h
  exact K
def lb_X6_findsEnds_66 (k : Nat) (w1 : Int32) (w2 : Int32) (σ : hb_Mem) : Option ((Int32 × Int32 × hb_Mem) ⊕ (Int32 × hb_Mem)) :=
if w2 < 0 then (
some (.inr (w1, σ)))
else (
(hb_ld ΛM σ (hm_rf k 10) w2).bind fun v8 =>
(hb_ld ΛM σ (hm_rf k 13) v8).bind fun v9 =>
if v9 = 0 then (
(hb_ld ΛM σ (hm_rf k 10) w2).bind fun v11 =>
(fn_X6_leadsOn k v11 σ).bind fun x12 =>
if x12 = 0 then (
jn_X6_findsEnds_111 k w1 w2 σ)
else (
(hb_ld ΛM σ (hm_rf k 10) w2).bind fun v13 =>
(hb_st ΛM σ (hm_rf k 13) v13 1).bind fun σ14 =>
jn_X6_findsEnds_111 k 1 w2 σ14))
else (
jn_X6_findsEnds_111 k w1 w2 σ))
set_option maxRecDepth 100000 in
set_option maxHeartbeats 4000000 in
theorem lk_X6_findsEnds_66 {Γ : hb_Ctx} {G : hb_Gam} {Q : State → Prop} (X : hb_X Γ cX6_findsEnds 3 RX6 ΛM G 6 136)  (k : Nat) (hk : hb_is ΛM k 6) (w1 : Int32) (w2 : Int32) (σ : hb_Mem) {x : ((Int32 × Int32 × hb_Mem) ⊕ (Int32 × hb_Mem))} (h : lb_X6_findsEnds_66 k w1 w2 σ = some x) (K : Sum.elim (fun s : (Int32 × Int32 × hb_Mem) => hb_W Γ ΛM G 3 Q s.2.2 [some (.ref (G.2.2.2 k)), some (.int s.1), some (.int s.2.1)] [] 66) (fun t : (Int32 × hb_Mem) => hb_W Γ ΛM G 3 Q t.2 [some (.ref (G.2.2.2 k)), some (.int t.1), none] [] 117) x) : hb_W Γ ΛM G 3 Q σ [some (.ref (G.2.2.2 k)), some (.int w1), some (.int w2)] [] 66 := by
  unfold lb_X6_findsEnds_66 at h
  refine ww_iload_n 67 X dX6_findsEnds_66 rfl rfl ?_
  refine ww_if_lt 117 70 X dX6_findsEnds_67 (by decide) rfl h (fun h => ?_) (fun h => ?_)
  · skip
    obtain rfl := Option.some.inj h
    refine ww_kill [2] (L' := [some (.ref (G.2.2.2 k)), some (.int w1), none]) rfl ?_
    exact K
  · skip
    refine ww_aload_n 71 X dX6_findsEnds_70 rfl rfl ?_
    refine ww_getr (ci := 6) (j := 13) 74 X cf_6 tw_X6_37 (by decide) rfl hk dX6_findsEnds_71 rfl ?_
    refine ww_aload_n 75 X dX6_findsEnds_74 rfl rfl ?_
    refine ww_getr (ci := 6) (j := 10) 78 X cf_6 tw_X6_31 (by decide) rfl hk dX6_findsEnds_75 rfl ?_
    refine ww_iload_n 79 X dX6_findsEnds_78 rfl rfl ?_
    obtain ⟨v8, hv8, h⟩ := hb_bind_of h
    refine ww_iald 80 X (hm_kr_6_10 hk) hv8 dX6_findsEnds_79 rfl ?_
    obtain ⟨v9, hv9, h⟩ := hb_bind_of h
    refine ww_iald 81 X (hm_kr_6_13 hk) hv9 dX6_findsEnds_80 rfl ?_
    refine ww_if_ne 111 84 X dX6_findsEnds_81 (by decide) rfl h (fun h => ?_) (fun h => ?_)
    · skip
      refine ww_aload_n 85 X dX6_findsEnds_84 rfl rfl ?_
      refine ww_aload_n 86 X dX6_findsEnds_85 rfl rfl ?_
      refine ww_getr (ci := 6) (j := 10) 89 X cf_6 tw_X6_31 (by decide) rfl hk dX6_findsEnds_86 rfl ?_
      refine ww_iload_n 90 X dX6_findsEnds_89 rfl rfl ?_
      obtain ⟨v11, hv11, h⟩ := hb_bind_of h
      refine ww_iald 91 X (hm_kr_6_10 hk) hv11 dX6_findsEnds_90 rfl ?_
      obtain ⟨x12, hx12, h⟩ := hb_bind_of h
      refine ww_callV (ci := 6) (rest := []) (st' := [.int x12]) 94 X (ct_X6_leadsOn (hb_l Γ) G k hk v11 σ hx12) cw_X6_102 rfl (by decide) hk rfl ⟨by decide, by decide⟩ (Nat.le_of_ble_eq_true rfl) rfl rfl dX6_findsEnds_91 rfl ?_
      refine ww_if_eq 111 97 X dX6_findsEnds_94 (by decide) rfl h (fun h => ?_) (fun h => ?_)
      · skip
        exact jw_X6_findsEnds_111 X k hk w1 w2 σ h K
      · skip
        refine ww_aload_n 98 X dX6_findsEnds_97 rfl rfl ?_
        refine ww_getr (ci := 6) (j := 13) 101 X cf_6 tw_X6_37 (by decide) rfl hk dX6_findsEnds_98 rfl ?_
        refine ww_aload_n 102 X dX6_findsEnds_101 rfl rfl ?_
        refine ww_getr (ci := 6) (j := 10) 105 X cf_6 tw_X6_31 (by decide) rfl hk dX6_findsEnds_102 rfl ?_
        refine ww_iload_n 106 X dX6_findsEnds_105 rfl rfl ?_
        obtain ⟨v13, hv13, h⟩ := hb_bind_of h
        refine ww_iald 107 X (hm_kr_6_10 hk) hv13 dX6_findsEnds_106 rfl ?_
        refine ww_iconst (v := 1) 108 X dX6_findsEnds_107 rfl (by decide) ?_
        obtain ⟨σ14, hσ14, h⟩ := hb_bind_of h
        refine ww_iast 109 X (hm_kr_6_13 hk) hσ14 dX6_findsEnds_108 rfl ?_
        refine ww_iconst (v := 1) 110 X dX6_findsEnds_109 rfl (by decide) ?_
        refine ww_istore_n 111 X (L' := [some (.ref (G.2.2.2 k)), some (.int 1), some (.int w2)]) dX6_findsEnds_110 rfl (Nat.le_of_ble_eq_true rfl) rfl ?_
        exact jw_X6_findsEnds_111 X k hk 1 w2 σ14 h K
    · skip
      exact jw_X6_findsEnds_111 X k hk w1 w2 σ h K
def ll_X6_findsEnds_66 (k : Nat) : (Int32 × Int32 × hb_Mem) → Option (Int32 × hb_Mem) := hb_lp (fun s => lb_X6_findsEnds_66 k s.1 s.2.1 s.2.2) hb_F
theorem lw_X6_findsEnds_66 {Γ : hb_Ctx} {G : hb_Gam} {Q : State → Prop} (X : hb_X Γ cX6_findsEnds 3 RX6 ΛM G 6 136)  (k : Nat) (hk : hb_is ΛM k 6) (s : (Int32 × Int32 × hb_Mem)) (t : (Int32 × hb_Mem)) (h : ll_X6_findsEnds_66 k s = some t) (K : (fun t : (Int32 × hb_Mem) => hb_W Γ ΛM G 3 Q t.2 [some (.ref (G.2.2.2 k)), some (.int t.1), none] [] 117) t) : hb_W Γ ΛM G 3 Q s.2.2 [some (.ref (G.2.2.2 k)), some (.int s.1), some (.int s.2.1)] [] 66 :=
  hb_lp_w (P := fun s : (Int32 × Int32 × hb_Mem) => hb_W Γ ΛM G 3 Q s.2.2 [some (.ref (G.2.2.2 k)), some (.int s.1), some (.int s.2.1)] [] 66) (E := (fun t : (Int32 × hb_Mem) => hb_W Γ ΛM G 3 Q t.2 [some (.ref (G.2.2.2 k)), some (.int t.1), none] [] 117)) (fun s x hx K => lk_X6_findsEnds_66 X k hk s.1 s.2.1 s.2.2 hx K) _ s t h K
def lb_X6_findsEnds_53 (k : Nat) (w1 : Int32) (σ : hb_Mem) : Option ((Int32 × hb_Mem) ⊕ hb_Mem) :=
if w1 = 0 then (
some (.inr σ))
else (
hb_nm ((σ k 11) - 1) fun v7 =>
(ll_X6_findsEnds_66 k (0, v7, σ)).bind fun t15 =>
some (.inl (t15.1, t15.2)))
set_option maxRecDepth 100000 in
set_option maxHeartbeats 4000000 in
theorem lk_X6_findsEnds_53 {Γ : hb_Ctx} {G : hb_Gam} {Q : State → Prop} (X : hb_X Γ cX6_findsEnds 3 RX6 ΛM G 6 136)  (k : Nat) (hk : hb_is ΛM k 6) (w1 : Int32) (σ : hb_Mem) {x : ((Int32 × hb_Mem) ⊕ hb_Mem)} (h : lb_X6_findsEnds_53 k w1 σ = some x) (K : Sum.elim (fun s : (Int32 × hb_Mem) => hb_W Γ ΛM G 3 Q s.2 [some (.ref (G.2.2.2 k)), some (.int s.1), none] [] 53) (fun t : hb_Mem => hb_W Γ ΛM G 3 Q t [none, none, none] [] 120) x) : hb_W Γ ΛM G 3 Q σ [some (.ref (G.2.2.2 k)), some (.int w1), none] [] 53 := by
  unfold lb_X6_findsEnds_53 at h
  refine ww_iload_n 54 X dX6_findsEnds_53 rfl rfl ?_
  refine ww_if_eq 120 57 X dX6_findsEnds_54 (by decide) rfl h (fun h => ?_) (fun h => ?_)
  · skip
    obtain rfl := Option.some.inj h
    refine ww_kill [0, 1] (L' := [none, none, none]) rfl ?_
    exact K
  · skip
    refine ww_iconst (v := 0) 58 X dX6_findsEnds_57 rfl (by decide) ?_
    refine ww_istore_n 59 X (L' := [some (.ref (G.2.2.2 k)), some (.int 0), none]) dX6_findsEnds_58 rfl (Nat.le_of_ble_eq_true rfl) rfl ?_
    refine ww_aload_n 60 X dX6_findsEnds_59 rfl rfl ?_
    refine ww_geti (ci := 6) (j := 11) 63 X cf_6 tw_X6_76 (by decide) rfl hk dX6_findsEnds_60 rfl ?_
    refine ww_iconst (v := 1) 64 X dX6_findsEnds_63 rfl (by decide) ?_
    refine ww_isub 65 X dX6_findsEnds_64 rfl ?_
    obtain ⟨v7, ev7, h⟩ := hb_nm_of h
    rw [← ev7]
    refine ww_istore_n 66 X (L' := [some (.ref (G.2.2.2 k)), some (.int 0), some (.int v7)]) dX6_findsEnds_65 rfl (Nat.le_of_ble_eq_true rfl) rfl ?_
    obtain ⟨t15, ht15, h⟩ := hb_bind_of h
    refine lw_X6_findsEnds_66 X k hk (0, v7, σ) t15 ht15 ?_
    refine ww_goto 53 X dX6_findsEnds_117 (by decide) ?_
    obtain rfl := Option.some.inj h
    exact K
def ll_X6_findsEnds_53 (k : Nat) : (Int32 × hb_Mem) → Option hb_Mem := hb_lp (fun s => lb_X6_findsEnds_53 k s.1 s.2) hb_F
theorem lw_X6_findsEnds_53 {Γ : hb_Ctx} {G : hb_Gam} {Q : State → Prop} (X : hb_X Γ cX6_findsEnds 3 RX6 ΛM G 6 136)  (k : Nat) (hk : hb_is ΛM k 6) (s : (Int32 × hb_Mem)) (t : hb_Mem) (h : ll_X6_findsEnds_53 k s = some t) (K : (fun t : hb_Mem => hb_W Γ ΛM G 3 Q t [none, none, none] [] 120) t) : hb_W Γ ΛM G 3 Q s.2 [some (.ref (G.2.2.2 k)), some (.int s.1), none] [] 53 :=
  hb_lp_w (P := fun s : (Int32 × hb_Mem) => hb_W Γ ΛM G 3 Q s.2 [some (.ref (G.2.2.2 k)), some (.int s.1), none] [] 53) (E := (fun t : hb_Mem => hb_W Γ ΛM G 3 Q t [none, none, none] [] 120)) (fun s x hx K => lk_X6_findsEnds_53 X k hk s.1 s.2 hx K) _ s t h K
def fn_X6_findsEnds (k : Nat) (σ : hb_Mem) : Option hb_Mem :=
(fn_X6_keepsPlaces k σ).bind fun x1 =>
(ll_X6_findsEnds_6 k (0, x1)).bind fun t6 =>
(ll_X6_findsEnds_53 k (1, t6)).bind fun t16 =>
some t16
set_option maxRecDepth 100000 in
set_option maxHeartbeats 4000000 in
theorem wk_X6_findsEnds {Γ : hb_Ctx} {G : hb_Gam} {Q : State → Prop} (X : hb_X Γ cX6_findsEnds 3 RX6 ΛM G 6 136) (hr : hb_ret Γ = none) (k : Nat) (hk : hb_is ΛM k 6) (σ : hb_Mem) {x : hb_Mem} (h : fn_X6_findsEnds k σ = some x) (K : Q = hb_Q Γ ΛM G none x) : hb_W Γ ΛM G 3 Q σ [some (.ref (G.2.2.2 k)), none, none] [] 0 := by
  unfold fn_X6_findsEnds at h
  refine ww_aload_n 1 X dX6_findsEnds_0 rfl rfl ?_
  obtain ⟨x1, hx1, h⟩ := hb_bind_of h
  refine ww_callV (ci := 6) (rest := []) (st' := []) 4 X (ct_X6_keepsPlaces (hb_l Γ) G k hk σ hx1) cw_X6_99 rfl (by decide) hk rfl ⟨by decide, by decide⟩ (Nat.le_of_ble_eq_true rfl) rfl rfl dX6_findsEnds_1 rfl ?_
  refine ww_iconst (v := 0) 5 X dX6_findsEnds_4 rfl (by decide) ?_
  refine ww_istore_n 6 X (L' := [some (.ref (G.2.2.2 k)), some (.int 0), none]) dX6_findsEnds_5 rfl (Nat.le_of_ble_eq_true rfl) rfl ?_
  obtain ⟨t6, ht6, h⟩ := hb_bind_of h
  refine lw_X6_findsEnds_6 X k hk (0, x1) t6 ht6 ?_
  refine ww_iconst (v := 1) 52 X dX6_findsEnds_51 rfl (by decide) ?_
  refine ww_istore_n 53 X (L' := [some (.ref (G.2.2.2 k)), some (.int 1), none]) dX6_findsEnds_52 rfl (Nat.le_of_ble_eq_true rfl) rfl ?_
  obtain ⟨t16, ht16, h⟩ := hb_bind_of h
  refine lw_X6_findsEnds_53 X k hk (1, t6) t16 ht16 ?_
  obtain rfl := Option.some.inj h
  exact ww_ret_v X hr K dX6_findsEnds_120
theorem ct_X6_findsEnds (l : Launch) (G : hb_Gam) (k : Nat) (hk : hb_is ΛM k 6) (σ : hb_Mem) {x : hb_Mem} (h : fn_X6_findsEnds k σ = some x) : hb_C l yX6_findsEnds cX6_findsEnds 3 none 6 136 ΛM G [.ref (G.2.2.2 k)] σ none x :=
  hb_C.of [some (.ref (G.2.2.2 k)), none, none] (by decide +kernel) (Nat.le_of_ble_eq_true rfl) (by intro v hv; simp only [List.mem_cons, List.not_mem_nil, or_false] at hv; subst hv; rfl) rfl (hb_pad [.ref (G.2.2.2 k)] 2) (fun Γ X hr => wk_X6_findsEnds X hr k hk σ h rfl)
def jn_X6_stuckIn_42 (k : Nat) (p1 : Int32) (p2 : Int32) (j4 : Int32) (s0 : Int32) (s1 : Int32) (σ : hb_Mem) : Option ((Int32 × Int32) ⊕ Int32) :=
hb_nm (s0 + s1) fun v3 =>
hb_nm (j4 + 1) fun v4 =>
some (.inl (v3, v4))
set_option maxRecDepth 100000 in
set_option maxHeartbeats 4000000 in
theorem jw_X6_stuckIn_42 {Γ : hb_Ctx} {G : hb_Gam} {Q : State → Prop} (X : hb_X Γ cX6_stuckIn 5 RX6 ΛM G 7 158)  (k : Nat) (hk : hb_is ΛM k 6) (p1 : Int32) (p2 : Int32) (j4 : Int32) (s0 : Int32) (s1 : Int32) (σ : hb_Mem) {x : ((Int32 × Int32) ⊕ Int32)} (h : jn_X6_stuckIn_42 k p1 p2 j4 s0 s1 σ = some x) (K : Sum.elim (fun s : (Int32 × Int32) => hb_W Γ ΛM G 5 Q σ [some (.ref (G.2.2.2 k)), none, some (.int p2), some (.int s.1), some (.int s.2)] [] 9) (fun t : Int32 => hb_W Γ ΛM G 5 Q σ [none, none, none, some (.int t), none] [] 50) x) : hb_W Γ ΛM G 5 Q σ [some (.ref (G.2.2.2 k)), none, some (.int p2), none, some (.int j4)] [.int s1, .int s0] 42 := by
  unfold jn_X6_stuckIn_42 at h
  refine ww_iadd 43 X dX6_stuckIn_42 rfl ?_
  obtain ⟨v3, ev3, h⟩ := hb_nm_of h
  rw [← ev3]
  refine ww_istore_n 44 X (L' := [some (.ref (G.2.2.2 k)), none, some (.int p2), some (.int v3), some (.int j4)]) dX6_stuckIn_43 rfl (Nat.le_of_ble_eq_true rfl) rfl ?_
  obtain ⟨v4, ev4, h⟩ := hb_nm_of h
  refine ww_iinc 47 X (L' := [some (.ref (G.2.2.2 k)), none, some (.int p2), some (.int v3), some (.int v4)]) dX6_stuckIn_44 rfl rfl ev4.symm rfl ?_
  refine ww_goto 9 X dX6_stuckIn_47 (by decide) ?_
  obtain rfl := Option.some.inj h
  exact K
def jn_X6_stuckIn_41 (k : Nat) (p1 : Int32) (p2 : Int32) (j4 : Int32) (s0 : Int32) (σ : hb_Mem) : Option ((Int32 × Int32) ⊕ Int32) :=
jn_X6_stuckIn_42 k p1 p2 j4 s0 0 σ
set_option maxRecDepth 100000 in
set_option maxHeartbeats 4000000 in
theorem jw_X6_stuckIn_41 {Γ : hb_Ctx} {G : hb_Gam} {Q : State → Prop} (X : hb_X Γ cX6_stuckIn 5 RX6 ΛM G 7 158)  (k : Nat) (hk : hb_is ΛM k 6) (p1 : Int32) (p2 : Int32) (j4 : Int32) (s0 : Int32) (σ : hb_Mem) {x : ((Int32 × Int32) ⊕ Int32)} (h : jn_X6_stuckIn_41 k p1 p2 j4 s0 σ = some x) (K : Sum.elim (fun s : (Int32 × Int32) => hb_W Γ ΛM G 5 Q σ [some (.ref (G.2.2.2 k)), none, some (.int p2), some (.int s.1), some (.int s.2)] [] 9) (fun t : Int32 => hb_W Γ ΛM G 5 Q σ [none, none, none, some (.int t), none] [] 50) x) : hb_W Γ ΛM G 5 Q σ [some (.ref (G.2.2.2 k)), none, some (.int p2), none, some (.int j4)] [.int s0] 41 := by
  unfold jn_X6_stuckIn_41 at h
  refine ww_iconst (v := 0) 42 X dX6_stuckIn_41 rfl (by decide) ?_
  exact jw_X6_stuckIn_42 X k hk p1 p2 j4 s0 0 σ h K
def lb_X6_stuckIn_9 (k : Nat) (p1 : Int32) (p2 : Int32) (w3 : Int32) (w4 : Int32) (σ : hb_Mem) : Option ((Int32 × Int32) ⊕ Int32) :=
if p2 < w4 then (
some (.inr w3))
else (
(hb_ld ΛM σ (hm_rf k 12) w4).bind fun v2 =>
if v2 = 1 then (
(hb_ld ΛM σ (hm_rf k 13) w4).bind fun v5 =>
if v5 = 0 then (
jn_X6_stuckIn_42 k p1 p2 w4 w3 1 σ)
else (
jn_X6_stuckIn_41 k p1 p2 w4 w3 σ))
else (
jn_X6_stuckIn_41 k p1 p2 w4 w3 σ))
set_option maxRecDepth 100000 in
set_option maxHeartbeats 4000000 in
theorem lk_X6_stuckIn_9 {Γ : hb_Ctx} {G : hb_Gam} {Q : State → Prop} (X : hb_X Γ cX6_stuckIn 5 RX6 ΛM G 7 158)  (k : Nat) (hk : hb_is ΛM k 6) (p1 : Int32) (p2 : Int32) (w3 : Int32) (w4 : Int32) (σ : hb_Mem) {x : ((Int32 × Int32) ⊕ Int32)} (h : lb_X6_stuckIn_9 k p1 p2 w3 w4 σ = some x) (K : Sum.elim (fun s : (Int32 × Int32) => hb_W Γ ΛM G 5 Q σ [some (.ref (G.2.2.2 k)), none, some (.int p2), some (.int s.1), some (.int s.2)] [] 9) (fun t : Int32 => hb_W Γ ΛM G 5 Q σ [none, none, none, some (.int t), none] [] 50) x) : hb_W Γ ΛM G 5 Q σ [some (.ref (G.2.2.2 k)), none, some (.int p2), some (.int w3), some (.int w4)] [] 9 := by
  unfold lb_X6_stuckIn_9 at h
  refine ww_iload 11 X dX6_stuckIn_9 rfl rfl ?_
  refine ww_iload_n 12 X dX6_stuckIn_11 rfl rfl ?_
  refine ww_icmp_gt 50 15 X dX6_stuckIn_12 (by decide) rfl h (fun h => ?_) (fun h => ?_)
  · skip
    obtain rfl := Option.some.inj h
    refine ww_kill [0, 2, 4] (L' := [none, none, none, some (.int w3), none]) rfl ?_
    exact K
  · skip
    refine ww_iload_n 16 X dX6_stuckIn_15 rfl rfl ?_
    refine ww_aload_n 17 X dX6_stuckIn_16 rfl rfl ?_
    refine ww_getr (ci := 6) (j := 12) 20 X cf_6 tw_X6_34 (by decide) rfl hk dX6_stuckIn_17 rfl ?_
    refine ww_iload 22 X dX6_stuckIn_20 rfl rfl ?_
    obtain ⟨v2, hv2, h⟩ := hb_bind_of h
    refine ww_iald 23 X (hm_kr_6_12 hk) hv2 dX6_stuckIn_22 rfl ?_
    refine ww_iconst (v := 1) 24 X dX6_stuckIn_23 rfl (by decide) ?_
    refine ww_icmp_ne 41 27 X dX6_stuckIn_24 (by decide) rfl h (fun h => ?_) (fun h => ?_)
    · skip
      refine ww_aload_n 28 X dX6_stuckIn_27 rfl rfl ?_
      refine ww_getr (ci := 6) (j := 13) 31 X cf_6 tw_X6_37 (by decide) rfl hk dX6_stuckIn_28 rfl ?_
      refine ww_iload 33 X dX6_stuckIn_31 rfl rfl ?_
      obtain ⟨v5, hv5, h⟩ := hb_bind_of h
      refine ww_iald 34 X (hm_kr_6_13 hk) hv5 dX6_stuckIn_33 rfl ?_
      refine ww_if_ne 41 37 X dX6_stuckIn_34 (by decide) rfl h (fun h => ?_) (fun h => ?_)
      · skip
        refine ww_iconst (v := 1) 38 X dX6_stuckIn_37 rfl (by decide) ?_
        refine ww_goto 42 X dX6_stuckIn_38 (by decide) ?_
        refine ww_kill [3] (L' := [some (.ref (G.2.2.2 k)), none, some (.int p2), none, some (.int w4)]) rfl ?_
        exact jw_X6_stuckIn_42 X k hk p1 p2 w4 w3 1 σ h K
      · skip
        refine ww_kill [3] (L' := [some (.ref (G.2.2.2 k)), none, some (.int p2), none, some (.int w4)]) rfl ?_
        exact jw_X6_stuckIn_41 X k hk p1 p2 w4 w3 σ h K
    · skip
      refine ww_kill [3] (L' := [some (.ref (G.2.2.2 k)), none, some (.int p2), none, some (.int w4)]) rfl ?_
      exact jw_X6_stuckIn_41 X k hk p1 p2 w4 w3 σ h K
def ll_X6_stuckIn_9 (k : Nat) (p1 : Int32) (p2 : Int32) (σ : hb_Mem) : (Int32 × Int32) → Option Int32 := hb_lp (fun s => lb_X6_stuckIn_9 k p1 p2 s.1 s.2 σ) hb_F
theorem lw_X6_stuckIn_9 {Γ : hb_Ctx} {G : hb_Gam} {Q : State → Prop} (X : hb_X Γ cX6_stuckIn 5 RX6 ΛM G 7 158)  (k : Nat) (hk : hb_is ΛM k 6) (p1 : Int32) (p2 : Int32) (σ : hb_Mem) (s : (Int32 × Int32)) (t : Int32) (h : ll_X6_stuckIn_9 k p1 p2 σ s = some t) (K : (fun t : Int32 => hb_W Γ ΛM G 5 Q σ [none, none, none, some (.int t), none] [] 50) t) : hb_W Γ ΛM G 5 Q σ [some (.ref (G.2.2.2 k)), none, some (.int p2), some (.int s.1), some (.int s.2)] [] 9 :=
  hb_lp_w (P := fun s : (Int32 × Int32) => hb_W Γ ΛM G 5 Q σ [some (.ref (G.2.2.2 k)), none, some (.int p2), some (.int s.1), some (.int s.2)] [] 9) (E := (fun t : Int32 => hb_W Γ ΛM G 5 Q σ [none, none, none, some (.int t), none] [] 50)) (fun s x hx K => lk_X6_stuckIn_9 X k hk p1 p2 s.1 s.2 σ hx K) _ s t h K
def fn_X6_stuckIn (k : Nat) (p1 : Int32) (p2 : Int32) (σ : hb_Mem) : Option (Int32 × hb_Mem) :=
(fn_X6_findsEnds k σ).bind fun x1 =>
(ll_X6_stuckIn_9 k p1 p2 x1 (0, p1)).bind fun t6 =>
some (t6, x1)
set_option maxRecDepth 100000 in
set_option maxHeartbeats 4000000 in
theorem wk_X6_stuckIn {Γ : hb_Ctx} {G : hb_Gam} {Q : State → Prop} (X : hb_X Γ cX6_stuckIn 5 RX6 ΛM G 7 158) (hr : hb_ret Γ = (some .int)) (k : Nat) (hk : hb_is ΛM k 6) (p1 : Int32) (p2 : Int32) (σ : hb_Mem) {x : (Int32 × hb_Mem)} (h : fn_X6_stuckIn k p1 p2 σ = some x) (K : Q = hb_Q Γ ΛM G (some (.int x.1)) x.2) : hb_W Γ ΛM G 5 Q σ [some (.ref (G.2.2.2 k)), some (.int p1), some (.int p2), none, none] [] 0 := by
  unfold fn_X6_stuckIn at h
  refine ww_aload_n 1 X dX6_stuckIn_0 rfl rfl ?_
  obtain ⟨x1, hx1, h⟩ := hb_bind_of h
  refine ww_callV (ci := 6) (rest := []) (st' := []) 4 X (ct_X6_findsEnds (hb_l Γ) G k hk σ hx1) cw_X6_105 rfl (by decide) hk rfl ⟨by decide, by decide⟩ (Nat.le_of_ble_eq_true rfl) rfl rfl dX6_stuckIn_1 rfl ?_
  refine ww_iconst (v := 0) 5 X dX6_stuckIn_4 rfl (by decide) ?_
  refine ww_istore_n 6 X (L' := [some (.ref (G.2.2.2 k)), some (.int p1), some (.int p2), some (.int 0), none]) dX6_stuckIn_5 rfl (Nat.le_of_ble_eq_true rfl) rfl ?_
  refine ww_iload_n 7 X dX6_stuckIn_6 rfl rfl ?_
  refine ww_istore 9 X (L' := [some (.ref (G.2.2.2 k)), some (.int p1), some (.int p2), some (.int 0), some (.int p1)]) dX6_stuckIn_7 rfl (Nat.le_of_ble_eq_true rfl) rfl ?_
  obtain ⟨t6, ht6, h⟩ := hb_bind_of h
  refine ww_kill [1] (L' := [some (.ref (G.2.2.2 k)), none, some (.int p2), some (.int 0), some (.int p1)]) rfl ?_
  refine lw_X6_stuckIn_9 X k hk p1 p2 x1 (0, p1) t6 ht6 ?_
  refine ww_iload_n 51 X dX6_stuckIn_50 rfl rfl ?_
  obtain rfl := Option.some.inj h
  exact ww_ret_i X hr K dX6_stuckIn_51
theorem ct_X6_stuckIn (l : Launch) (G : hb_Gam) (k : Nat) (hk : hb_is ΛM k 6) (p1 : Int32) (p2 : Int32) (σ : hb_Mem) {x : (Int32 × hb_Mem)} (h : fn_X6_stuckIn k p1 p2 σ = some x) : hb_C l yX6_stuckIn cX6_stuckIn 5 (some .int) 7 158 ΛM G [.ref (G.2.2.2 k), .int p1, .int p2] σ (some (.int x.1)) x.2 :=
  hb_C.of [some (.ref (G.2.2.2 k)), some (.int p1), some (.int p2), none, none] (by decide +kernel) (Nat.le_of_ble_eq_true rfl) (by intro v hv; simp only [List.mem_cons, List.not_mem_nil, or_false] at hv; rcases hv with rfl | rfl | rfl <;> rfl) rfl (hb_pad [.ref (G.2.2.2 k), .int p1, .int p2] 2) (fun Γ X hr => wk_X6_stuckIn X hr k hk p1 p2 σ h rfl)
def fn_X6_isTenths (p0 : Int32) : Option Int32 :=
(fn_X6_in p0 (-99) 99).bind fun x1 =>
(hb_bz x1).bind fun z2 =>
some x1
set_option maxRecDepth 100000 in
set_option maxHeartbeats 4000000 in
theorem wk_X6_isTenths {Γ : hb_Ctx} {G : hb_Gam} {Q : State → Prop} (X : hb_X Γ cX6_isTenths 1 RX6 ΛM G 1 22) (hr : hb_ret Γ = (some .boolean)) (p0 : Int32) (σ : hb_Mem) {x : Int32} (h : fn_X6_isTenths p0 = some x) (K : Q = hb_Q Γ ΛM G (some (.int x)) σ) : hb_W Γ ΛM G 1 Q σ [some (.int p0)] [] 0 := by
  unfold fn_X6_isTenths at h
  refine ww_iload_n 1 X dX6_isTenths_0 rfl rfl ?_
  refine ww_bipush (v := (-99)) 3 X dX6_isTenths_1 rfl (by decide) ?_
  refine ww_bipush (v := 99) 5 X dX6_isTenths_3 rfl (by decide) ?_
  obtain ⟨x1, hx1, h⟩ := hb_bind_of h
  refine ww_callS (rest := []) (st' := [.int x1]) 8 X (ct_X6_in (hb_l Γ) G p0 (-99) 99 σ hx1) cw_X6_50 rfl ⟨by decide, by decide⟩ (Nat.le_of_ble_eq_true rfl) rfl rfl dX6_isTenths_5 rfl ?_
  obtain ⟨z2, hz2, h⟩ := hb_bind_of h
  replace hz2 := (hb_bz_of hz2).1
  obtain rfl := Option.some.inj h
  exact ww_ret_z X hr hz2 K dX6_isTenths_8
theorem ct_X6_isTenths (l : Launch) (G : hb_Gam) (p0 : Int32) (σ : hb_Mem) {x : Int32} (h : fn_X6_isTenths p0 = some x) : hb_C l yX6_isTenths cX6_isTenths 1 (some .boolean) 1 22 ΛM G [.int p0] σ (some (.int x)) σ :=
  hb_C.of [some (.int p0)] (by decide +kernel) (Nat.le_of_ble_eq_true rfl) (by intro v hv; simp only [List.mem_cons, List.not_mem_nil, or_false] at hv; subst hv; rfl) rfl (hb_pad [.int p0] 0) (fun Γ X hr => wk_X6_isTenths X hr p0 σ h rfl)
def fn_X6_areFlags (p0 : Int32) : Option Int32 :=
(fn_X6_in p0 0 31).bind fun x1 =>
(hb_bz x1).bind fun z2 =>
some x1
set_option maxRecDepth 100000 in
set_option maxHeartbeats 4000000 in
theorem wk_X6_areFlags {Γ : hb_Ctx} {G : hb_Gam} {Q : State → Prop} (X : hb_X Γ cX6_areFlags 1 RX6 ΛM G 1 22) (hr : hb_ret Γ = (some .boolean)) (p0 : Int32) (σ : hb_Mem) {x : Int32} (h : fn_X6_areFlags p0 = some x) (K : Q = hb_Q Γ ΛM G (some (.int x)) σ) : hb_W Γ ΛM G 1 Q σ [some (.int p0)] [] 0 := by
  unfold fn_X6_areFlags at h
  refine ww_iload_n 1 X dX6_areFlags_0 rfl rfl ?_
  refine ww_iconst (v := 0) 2 X dX6_areFlags_1 rfl (by decide) ?_
  refine ww_bipush (v := 31) 4 X dX6_areFlags_2 rfl (by decide) ?_
  obtain ⟨x1, hx1, h⟩ := hb_bind_of h
  refine ww_callS (rest := []) (st' := [.int x1]) 7 X (ct_X6_in (hb_l Γ) G p0 0 31 σ hx1) cw_X6_50 rfl ⟨by decide, by decide⟩ (Nat.le_of_ble_eq_true rfl) rfl rfl dX6_areFlags_4 rfl ?_
  obtain ⟨z2, hz2, h⟩ := hb_bind_of h
  replace hz2 := (hb_bz_of hz2).1
  obtain rfl := Option.some.inj h
  exact ww_ret_z X hr hz2 K dX6_areFlags_7
theorem ct_X6_areFlags (l : Launch) (G : hb_Gam) (p0 : Int32) (σ : hb_Mem) {x : Int32} (h : fn_X6_areFlags p0 = some x) : hb_C l yX6_areFlags cX6_areFlags 1 (some .boolean) 1 22 ΛM G [.int p0] σ (some (.int x)) σ :=
  hb_C.of [some (.int p0)] (by decide +kernel) (Nat.le_of_ble_eq_true rfl) (by intro v hv; simp only [List.mem_cons, List.not_mem_nil, or_false] at hv; subst hv; rfl) rfl (hb_pad [.int p0] 0) (fun Γ X hr => wk_X6_areFlags X hr p0 σ h rfl)
def fn_X6_addPage (k : Nat) (p1 : Int32) (p2 : Int32) (p3 : Int32) (σ : hb_Mem) : Option (Int32 × hb_Mem) :=
(fn_X6_isTenths p1).bind fun x1 =>
if x1 = 0 then (
some ((-2), σ))
else (
(fn_X6_areFlags p2).bind fun x2 =>
if x2 = 0 then (
some ((-2), σ))
else (
(fn_X6_areFlags p3).bind fun x3 =>
if x3 = 0 then (
some ((-2), σ))
else (
(hb_ld ΛM σ (hm_rf k 0) 0).bind fun v4 =>
if v4 = 32 then (
some ((-3), σ))
else (
(fn_X6_records k σ).bind fun x5 =>
(hb_ld ΛM x5 (hm_rf k 0) 0).bind fun v6 =>
hb_nm ((1 : Int32) + ((13 : Int32) * v6)) fun v7 =>
(hb_st ΛM x5 (hm_rf k 0) (v7 + 0) p1).bind fun σ8 =>
(hb_st ΛM σ8 (hm_rf k 0) (v7 + 1) p2).bind fun σ9 =>
(hb_st ΛM σ9 (hm_rf k 0) (v7 + 2) p3).bind fun σ10 =>
(hb_st ΛM σ10 (hm_rf k 0) (v7 + 3) 0).bind fun σ11 =>
(hb_ld ΛM σ11 (hm_rf k 0) 0).bind fun v12 =>
(hb_st ΛM σ11 (hm_rf k 0) 0 (v12 + 1)).bind fun σ13 =>
(hb_ld ΛM σ13 (hm_rf k 0) 0).bind fun v14 =>
some (v14 - 1, σ13)))))
set_option maxRecDepth 100000 in
set_option maxHeartbeats 4000000 in
theorem wk_X6_addPage {Γ : hb_Ctx} {G : hb_Gam} {Q : State → Prop} (X : hb_X Γ cX6_addPage 5 RX6 ΛM G 2 42) (hr : hb_ret Γ = (some .int)) (k : Nat) (hk : hb_is ΛM k 6) (p1 : Int32) (p2 : Int32) (p3 : Int32) (σ : hb_Mem) {x : (Int32 × hb_Mem)} (h : fn_X6_addPage k p1 p2 p3 σ = some x) (K : Q = hb_Q Γ ΛM G (some (.int x.1)) x.2) : hb_W Γ ΛM G 5 Q σ [some (.ref (G.2.2.2 k)), some (.int p1), some (.int p2), some (.int p3), none] [] 0 := by
  unfold fn_X6_addPage at h
  refine ww_iload_n 1 X dX6_addPage_0 rfl rfl ?_
  obtain ⟨x1, hx1, h⟩ := hb_bind_of h
  refine ww_callS (rest := []) (st' := [.int x1]) 4 X (ct_X6_isTenths (hb_l Γ) G p1 σ hx1) cw_X6_108 rfl ⟨by decide, by decide⟩ (Nat.le_of_ble_eq_true rfl) rfl rfl dX6_addPage_1 rfl ?_
  refine ww_if_eq 21 7 X dX6_addPage_4 (by decide) rfl h (fun h => ?_) (fun h => ?_)
  · skip
    refine ww_bipush (v := (-2)) 23 X dX6_addPage_21 rfl (by decide) ?_
    obtain rfl := Option.some.inj h
    exact ww_ret_i X hr K dX6_addPage_23
  · skip
    refine ww_iload_n 8 X dX6_addPage_7 rfl rfl ?_
    obtain ⟨x2, hx2, h⟩ := hb_bind_of h
    refine ww_callS (rest := []) (st' := [.int x2]) 11 X (ct_X6_areFlags (hb_l Γ) G p2 σ hx2) cw_X6_111 rfl ⟨by decide, by decide⟩ (Nat.le_of_ble_eq_true rfl) rfl rfl dX6_addPage_8 rfl ?_
    refine ww_if_eq 21 14 X dX6_addPage_11 (by decide) rfl h (fun h => ?_) (fun h => ?_)
    · skip
      refine ww_bipush (v := (-2)) 23 X dX6_addPage_21 rfl (by decide) ?_
      obtain rfl := Option.some.inj h
      exact ww_ret_i X hr K dX6_addPage_23
    · skip
      refine ww_iload_n 15 X dX6_addPage_14 rfl rfl ?_
      obtain ⟨x3, hx3, h⟩ := hb_bind_of h
      refine ww_callS (rest := []) (st' := [.int x3]) 18 X (ct_X6_areFlags (hb_l Γ) G p3 σ hx3) cw_X6_111 rfl ⟨by decide, by decide⟩ (Nat.le_of_ble_eq_true rfl) rfl rfl dX6_addPage_15 rfl ?_
      refine ww_if_ne 24 21 X dX6_addPage_18 (by decide) rfl h (fun h => ?_) (fun h => ?_)
      · skip
        refine ww_bipush (v := (-2)) 23 X dX6_addPage_21 rfl (by decide) ?_
        obtain rfl := Option.some.inj h
        exact ww_ret_i X hr K dX6_addPage_23
      · skip
        refine ww_aload_n 25 X dX6_addPage_24 rfl rfl ?_
        refine ww_getr (ci := 6) (j := 0) 28 X cf_6 tw_X6_7 (by decide) rfl hk dX6_addPage_25 rfl ?_
        refine ww_iconst (v := 0) 29 X dX6_addPage_28 rfl (by decide) ?_
        obtain ⟨v4, hv4, h⟩ := hb_bind_of h
        refine ww_iald 30 X (hm_kr_6_0 hk) hv4 dX6_addPage_29 rfl ?_
        refine ww_bipush (v := 32) 32 X dX6_addPage_30 rfl (by decide) ?_
        refine ww_icmp_ne 38 35 X dX6_addPage_32 (by decide) rfl h (fun h => ?_) (fun h => ?_)
        · skip
          refine ww_bipush (v := (-3)) 37 X dX6_addPage_35 rfl (by decide) ?_
          obtain rfl := Option.some.inj h
          exact ww_ret_i X hr K dX6_addPage_37
        · skip
          refine ww_aload_n 39 X dX6_addPage_38 rfl rfl ?_
          obtain ⟨x5, hx5, h⟩ := hb_bind_of h
          refine ww_callV (ci := 6) (rest := []) (st' := []) 42 X (ct_X6_records (hb_l Γ) G k hk σ hx5) cw_X6_114 rfl (by decide) hk rfl ⟨by decide, by decide⟩ (Nat.le_of_ble_eq_true rfl) rfl rfl dX6_addPage_39 rfl ?_
          refine ww_iconst (v := 1) 43 X dX6_addPage_42 rfl (by decide) ?_
          refine ww_bipush (v := 13) 45 X dX6_addPage_43 rfl (by decide) ?_
          refine ww_aload_n 46 X dX6_addPage_45 rfl rfl ?_
          refine ww_getr (ci := 6) (j := 0) 49 X cf_6 tw_X6_7 (by decide) rfl hk dX6_addPage_46 rfl ?_
          refine ww_iconst (v := 0) 50 X dX6_addPage_49 rfl (by decide) ?_
          obtain ⟨v6, hv6, h⟩ := hb_bind_of h
          refine ww_iald 51 X (hm_kr_6_0 hk) hv6 dX6_addPage_50 rfl ?_
          refine ww_imul 52 X dX6_addPage_51 rfl ?_
          refine ww_iadd 53 X dX6_addPage_52 rfl ?_
          obtain ⟨v7, ev7, h⟩ := hb_nm_of h
          rw [← ev7]
          refine ww_istore 55 X (L' := [some (.ref (G.2.2.2 k)), some (.int p1), some (.int p2), some (.int p3), some (.int v7)]) dX6_addPage_53 rfl (Nat.le_of_ble_eq_true rfl) rfl ?_
          refine ww_aload_n 56 X dX6_addPage_55 rfl rfl ?_
          refine ww_getr (ci := 6) (j := 0) 59 X cf_6 tw_X6_7 (by decide) rfl hk dX6_addPage_56 rfl ?_
          refine ww_iload 61 X dX6_addPage_59 rfl rfl ?_
          refine ww_iconst (v := 0) 62 X dX6_addPage_61 rfl (by decide) ?_
          refine ww_iadd 63 X dX6_addPage_62 rfl ?_
          refine ww_iload_n 64 X dX6_addPage_63 rfl rfl ?_
          obtain ⟨σ8, hσ8, h⟩ := hb_bind_of h
          refine ww_iast 65 X (hm_kr_6_0 hk) hσ8 dX6_addPage_64 rfl ?_
          refine ww_aload_n 66 X dX6_addPage_65 rfl rfl ?_
          refine ww_getr (ci := 6) (j := 0) 69 X cf_6 tw_X6_7 (by decide) rfl hk dX6_addPage_66 rfl ?_
          refine ww_iload 71 X dX6_addPage_69 rfl rfl ?_
          refine ww_iconst (v := 1) 72 X dX6_addPage_71 rfl (by decide) ?_
          refine ww_iadd 73 X dX6_addPage_72 rfl ?_
          refine ww_iload_n 74 X dX6_addPage_73 rfl rfl ?_
          obtain ⟨σ9, hσ9, h⟩ := hb_bind_of h
          refine ww_iast 75 X (hm_kr_6_0 hk) hσ9 dX6_addPage_74 rfl ?_
          refine ww_aload_n 76 X dX6_addPage_75 rfl rfl ?_
          refine ww_getr (ci := 6) (j := 0) 79 X cf_6 tw_X6_7 (by decide) rfl hk dX6_addPage_76 rfl ?_
          refine ww_iload 81 X dX6_addPage_79 rfl rfl ?_
          refine ww_iconst (v := 2) 82 X dX6_addPage_81 rfl (by decide) ?_
          refine ww_iadd 83 X dX6_addPage_82 rfl ?_
          refine ww_iload_n 84 X dX6_addPage_83 rfl rfl ?_
          obtain ⟨σ10, hσ10, h⟩ := hb_bind_of h
          refine ww_iast 85 X (hm_kr_6_0 hk) hσ10 dX6_addPage_84 rfl ?_
          refine ww_aload_n 86 X dX6_addPage_85 rfl rfl ?_
          refine ww_getr (ci := 6) (j := 0) 89 X cf_6 tw_X6_7 (by decide) rfl hk dX6_addPage_86 rfl ?_
          refine ww_iload 91 X dX6_addPage_89 rfl rfl ?_
          refine ww_iconst (v := 3) 92 X dX6_addPage_91 rfl (by decide) ?_
          refine ww_iadd 93 X dX6_addPage_92 rfl ?_
          refine ww_iconst (v := 0) 94 X dX6_addPage_93 rfl (by decide) ?_
          obtain ⟨σ11, hσ11, h⟩ := hb_bind_of h
          refine ww_iast 95 X (hm_kr_6_0 hk) hσ11 dX6_addPage_94 rfl ?_
          refine ww_aload_n 96 X dX6_addPage_95 rfl rfl ?_
          refine ww_getr (ci := 6) (j := 0) 99 X cf_6 tw_X6_7 (by decide) rfl hk dX6_addPage_96 rfl ?_
          refine ww_iconst (v := 0) 100 X dX6_addPage_99 rfl (by decide) ?_
          refine ww_dup2 101 X dX6_addPage_100 rfl rfl rfl ?_
          obtain ⟨v12, hv12, h⟩ := hb_bind_of h
          refine ww_iald 102 X (hm_kr_6_0 hk) hv12 dX6_addPage_101 rfl ?_
          refine ww_iconst (v := 1) 103 X dX6_addPage_102 rfl (by decide) ?_
          refine ww_iadd 104 X dX6_addPage_103 rfl ?_
          obtain ⟨σ13, hσ13, h⟩ := hb_bind_of h
          refine ww_iast 105 X (hm_kr_6_0 hk) hσ13 dX6_addPage_104 rfl ?_
          refine ww_aload_n 106 X dX6_addPage_105 rfl rfl ?_
          refine ww_getr (ci := 6) (j := 0) 109 X cf_6 tw_X6_7 (by decide) rfl hk dX6_addPage_106 rfl ?_
          refine ww_iconst (v := 0) 110 X dX6_addPage_109 rfl (by decide) ?_
          obtain ⟨v14, hv14, h⟩ := hb_bind_of h
          refine ww_iald 111 X (hm_kr_6_0 hk) hv14 dX6_addPage_110 rfl ?_
          refine ww_iconst (v := 1) 112 X dX6_addPage_111 rfl (by decide) ?_
          refine ww_isub 113 X dX6_addPage_112 rfl ?_
          obtain rfl := Option.some.inj h
          exact ww_ret_i X hr K dX6_addPage_113
theorem ct_X6_addPage (l : Launch) (G : hb_Gam) (k : Nat) (hk : hb_is ΛM k 6) (p1 : Int32) (p2 : Int32) (p3 : Int32) (σ : hb_Mem) {x : (Int32 × hb_Mem)} (h : fn_X6_addPage k p1 p2 p3 σ = some x) : hb_C l yX6_addPage cX6_addPage 5 (some .int) 2 42 ΛM G [.ref (G.2.2.2 k), .int p1, .int p2, .int p3] σ (some (.int x.1)) x.2 :=
  hb_C.of [some (.ref (G.2.2.2 k)), some (.int p1), some (.int p2), some (.int p3), none] (by decide +kernel) (Nat.le_of_ble_eq_true rfl) (by intro v hv; simp only [List.mem_cons, List.not_mem_nil, or_false] at hv; rcases hv with rfl | rfl | rfl | rfl <;> rfl) rfl (hb_pad [.ref (G.2.2.2 k), .int p1, .int p2, .int p3] 1) (fun Γ X hr => wk_X6_addPage X hr k hk p1 p2 p3 σ h rfl)
def jn_X6_setMood_27 (k : Nat) (p1 : Int32) (p2 : Int32) (σ : hb_Mem) : Option (Int32 × hb_Mem) :=
(fn_X6_isTenths p2).bind fun x3 =>
if x3 = 0 then (
some ((-2), σ))
else (
some ((-5), σ))
set_option maxRecDepth 100000 in
set_option maxHeartbeats 4000000 in
theorem jw_X6_setMood_27 {Γ : hb_Ctx} {G : hb_Gam} {Q : State → Prop} (X : hb_X Γ cX6_setMood 3 RX6 ΛM G 2 43) (hr : hb_ret Γ = (some .int)) (k : Nat) (hk : hb_is ΛM k 6) (p1 : Int32) (p2 : Int32) (σ : hb_Mem) {x : (Int32 × hb_Mem)} (h : jn_X6_setMood_27 k p1 p2 σ = some x) (K : Q = hb_Q Γ ΛM G (some (.int x.1)) x.2) : hb_W Γ ΛM G 3 Q σ [none, none, some (.int p2)] [] 27 := by
  unfold jn_X6_setMood_27 at h
  refine ww_iload_n 28 X dX6_setMood_27 rfl rfl ?_
  obtain ⟨x3, hx3, h⟩ := hb_bind_of h
  refine ww_callS (rest := []) (st' := [.int x3]) 31 X (ct_X6_isTenths (hb_l Γ) G p2 σ hx3) cw_X6_108 rfl ⟨by decide, by decide⟩ (Nat.le_of_ble_eq_true rfl) rfl rfl dX6_setMood_28 rfl ?_
  refine ww_if_eq 39 34 X dX6_setMood_31 (by decide) rfl h (fun h => ?_) (fun h => ?_)
  · skip
    refine ww_bipush (v := (-2)) 41 X dX6_setMood_39 rfl (by decide) ?_
    obtain rfl := Option.some.inj h
    exact ww_ret_i X hr K dX6_setMood_41
  · skip
    refine ww_bipush (v := (-5)) 36 X dX6_setMood_34 rfl (by decide) ?_
    refine ww_goto 41 X dX6_setMood_36 (by decide) ?_
    obtain rfl := Option.some.inj h
    exact ww_ret_i X hr K dX6_setMood_41
def fn_X6_setMood (k : Nat) (p1 : Int32) (p2 : Int32) (σ : hb_Mem) : Option (Int32 × hb_Mem) :=
(fn_X6_isPage k p1 σ).bind fun x1 =>
if x1 = 0 then (
some ((-1), σ))
else (
(fn_X6_isTenths p2).bind fun x2 =>
if x2 = 0 then (
jn_X6_setMood_27 k p1 p2 σ)
else (
(fn_X6_of k p1 0 σ).bind fun x4 =>
if x4 = p2 then (
jn_X6_setMood_27 k p1 p2 σ)
else (
(fn_X6_records k σ).bind fun x5 =>
(hb_st ΛM x5 (hm_rf k 0) (((1 : Int32) + ((13 : Int32) * p1)) + 0) p2).bind fun σ6 =>
(fn_X6_of k p1 3 σ6).bind fun x7 =>
some (x7, σ6))))
set_option maxRecDepth 100000 in
set_option maxHeartbeats 4000000 in
theorem wk_X6_setMood {Γ : hb_Ctx} {G : hb_Gam} {Q : State → Prop} (X : hb_X Γ cX6_setMood 3 RX6 ΛM G 2 43) (hr : hb_ret Γ = (some .int)) (k : Nat) (hk : hb_is ΛM k 6) (p1 : Int32) (p2 : Int32) (σ : hb_Mem) {x : (Int32 × hb_Mem)} (h : fn_X6_setMood k p1 p2 σ = some x) (K : Q = hb_Q Γ ΛM G (some (.int x.1)) x.2) : hb_W Γ ΛM G 3 Q σ [some (.ref (G.2.2.2 k)), some (.int p1), some (.int p2)] [] 0 := by
  unfold fn_X6_setMood at h
  refine ww_aload_n 1 X dX6_setMood_0 rfl rfl ?_
  refine ww_iload_n 2 X dX6_setMood_1 rfl rfl ?_
  obtain ⟨x1, hx1, h⟩ := hb_bind_of h
  refine ww_callV (ci := 6) (rest := []) (st' := [.int x1]) 5 X (ct_X6_isPage (hb_l Γ) G k hk p1 σ hx1) cw_X6_54 rfl (by decide) hk rfl ⟨by decide, by decide⟩ (Nat.le_of_ble_eq_true rfl) rfl rfl dX6_setMood_2 rfl ?_
  refine ww_if_ne 10 8 X dX6_setMood_5 (by decide) rfl h (fun h => ?_) (fun h => ?_)
  · skip
    refine ww_iconst (v := (-1)) 9 X dX6_setMood_8 rfl (by decide) ?_
    obtain rfl := Option.some.inj h
    exact ww_ret_i X hr K dX6_setMood_9
  · skip
    refine ww_iload_n 11 X dX6_setMood_10 rfl rfl ?_
    obtain ⟨x2, hx2, h⟩ := hb_bind_of h
    refine ww_callS (rest := []) (st' := [.int x2]) 14 X (ct_X6_isTenths (hb_l Γ) G p2 σ hx2) cw_X6_108 rfl ⟨by decide, by decide⟩ (Nat.le_of_ble_eq_true rfl) rfl rfl dX6_setMood_11 rfl ?_
    refine ww_if_eq 27 17 X dX6_setMood_14 (by decide) rfl h (fun h => ?_) (fun h => ?_)
    · skip
      refine ww_kill [0, 1] (L' := [none, none, some (.int p2)]) rfl ?_
      exact jw_X6_setMood_27 X hr k hk p1 p2 σ h K
    · skip
      refine ww_aload_n 18 X dX6_setMood_17 rfl rfl ?_
      refine ww_iload_n 19 X dX6_setMood_18 rfl rfl ?_
      refine ww_iconst (v := 0) 20 X dX6_setMood_19 rfl (by decide) ?_
      obtain ⟨x4, hx4, h⟩ := hb_bind_of h
      refine ww_callV (ci := 6) (rest := []) (st' := [.int x4]) 23 X (ct_X6_of (hb_l Γ) G k hk p1 0 σ hx4) cw_X6_62 rfl (by decide) hk rfl ⟨by decide, by decide⟩ (Nat.le_of_ble_eq_true rfl) rfl rfl dX6_setMood_20 rfl ?_
      refine ww_iload_n 24 X dX6_setMood_23 rfl rfl ?_
      refine ww_icmp_ne 42 27 X dX6_setMood_24 (by decide) rfl h (fun h => ?_) (fun h => ?_)
      · skip
        refine ww_kill [0, 1] (L' := [none, none, some (.int p2)]) rfl ?_
        exact jw_X6_setMood_27 X hr k hk p1 p2 σ h K
      · skip
        refine ww_aload_n 43 X dX6_setMood_42 rfl rfl ?_
        obtain ⟨x5, hx5, h⟩ := hb_bind_of h
        refine ww_callV (ci := 6) (rest := []) (st' := []) 46 X (ct_X6_records (hb_l Γ) G k hk σ hx5) cw_X6_114 rfl (by decide) hk rfl ⟨by decide, by decide⟩ (Nat.le_of_ble_eq_true rfl) rfl rfl dX6_setMood_43 rfl ?_
        refine ww_aload_n 47 X dX6_setMood_46 rfl rfl ?_
        refine ww_getr (ci := 6) (j := 0) 50 X cf_6 tw_X6_7 (by decide) rfl hk dX6_setMood_47 rfl ?_
        refine ww_iconst (v := 1) 51 X dX6_setMood_50 rfl (by decide) ?_
        refine ww_bipush (v := 13) 53 X dX6_setMood_51 rfl (by decide) ?_
        refine ww_iload_n 54 X dX6_setMood_53 rfl rfl ?_
        refine ww_imul 55 X dX6_setMood_54 rfl ?_
        refine ww_iadd 56 X dX6_setMood_55 rfl ?_
        refine ww_iconst (v := 0) 57 X dX6_setMood_56 rfl (by decide) ?_
        refine ww_iadd 58 X dX6_setMood_57 rfl ?_
        refine ww_iload_n 59 X dX6_setMood_58 rfl rfl ?_
        obtain ⟨σ6, hσ6, h⟩ := hb_bind_of h
        refine ww_iast 60 X (hm_kr_6_0 hk) hσ6 dX6_setMood_59 rfl ?_
        refine ww_aload_n 61 X dX6_setMood_60 rfl rfl ?_
        refine ww_iload_n 62 X dX6_setMood_61 rfl rfl ?_
        refine ww_iconst (v := 3) 63 X dX6_setMood_62 rfl (by decide) ?_
        obtain ⟨x7, hx7, h⟩ := hb_bind_of h
        refine ww_callV (ci := 6) (rest := []) (st' := [.int x7]) 66 X (ct_X6_of (hb_l Γ) G k hk p1 3 σ6 hx7) cw_X6_62 rfl (by decide) hk rfl ⟨by decide, by decide⟩ (Nat.le_of_ble_eq_true rfl) rfl rfl dX6_setMood_63 rfl ?_
        obtain rfl := Option.some.inj h
        exact ww_ret_i X hr K dX6_setMood_66
theorem ct_X6_setMood (l : Launch) (G : hb_Gam) (k : Nat) (hk : hb_is ΛM k 6) (p1 : Int32) (p2 : Int32) (σ : hb_Mem) {x : (Int32 × hb_Mem)} (h : fn_X6_setMood k p1 p2 σ = some x) : hb_C l yX6_setMood cX6_setMood 3 (some .int) 2 43 ΛM G [.ref (G.2.2.2 k), .int p1, .int p2] σ (some (.int x.1)) x.2 :=
  hb_C.of [some (.ref (G.2.2.2 k)), some (.int p1), some (.int p2)] (by decide +kernel) (Nat.le_of_ble_eq_true rfl) (by intro v hv; simp only [List.mem_cons, List.not_mem_nil, or_false] at hv; rcases hv with rfl | rfl | rfl <;> rfl) rfl (hb_pad [.ref (G.2.2.2 k), .int p1, .int p2] 0) (fun Γ X hr => wk_X6_setMood X hr k hk p1 p2 σ h rfl)
def fn_X6_whyNot (k : Nat) (p1 : Int32) (p2 : Int32) (σ : hb_Mem) : Option Int32 :=
(fn_X6_isPage k p1 σ).bind fun x1 =>
if x1 = 0 then (
some (-1))
else (
(fn_X6_isPage k p2 σ).bind fun x2 =>
if x2 = 0 then (
some (-1))
else (
(fn_X6_of k p1 3 σ).bind fun x3 =>
if x3 = 3 then (
some (-3))
else (
some 0)))
set_option maxRecDepth 100000 in
set_option maxHeartbeats 4000000 in
theorem wk_X6_whyNot {Γ : hb_Ctx} {G : hb_Gam} {Q : State → Prop} (X : hb_X Γ cX6_whyNot 3 RX6 ΛM G 2 43) (hr : hb_ret Γ = (some .int)) (k : Nat) (hk : hb_is ΛM k 6) (p1 : Int32) (p2 : Int32) (σ : hb_Mem) {x : Int32} (h : fn_X6_whyNot k p1 p2 σ = some x) (K : Q = hb_Q Γ ΛM G (some (.int x)) σ) : hb_W Γ ΛM G 3 Q σ [some (.ref (G.2.2.2 k)), some (.int p1), some (.int p2)] [] 0 := by
  unfold fn_X6_whyNot at h
  refine ww_aload_n 1 X dX6_whyNot_0 rfl rfl ?_
  refine ww_iload_n 2 X dX6_whyNot_1 rfl rfl ?_
  obtain ⟨x1, hx1, h⟩ := hb_bind_of h
  refine ww_callV (ci := 6) (rest := []) (st' := [.int x1]) 5 X (ct_X6_isPage (hb_l Γ) G k hk p1 σ hx1) cw_X6_54 rfl (by decide) hk rfl ⟨by decide, by decide⟩ (Nat.le_of_ble_eq_true rfl) rfl rfl dX6_whyNot_2 rfl ?_
  refine ww_if_eq 16 8 X dX6_whyNot_5 (by decide) rfl h (fun h => ?_) (fun h => ?_)
  · skip
    refine ww_iconst (v := (-1)) 17 X dX6_whyNot_16 rfl (by decide) ?_
    refine ww_goto 36 X dX6_whyNot_17 (by decide) ?_
    obtain rfl := Option.some.inj h
    exact ww_ret_i X hr K dX6_whyNot_36
  · skip
    refine ww_aload_n 9 X dX6_whyNot_8 rfl rfl ?_
    refine ww_iload_n 10 X dX6_whyNot_9 rfl rfl ?_
    obtain ⟨x2, hx2, h⟩ := hb_bind_of h
    refine ww_callV (ci := 6) (rest := []) (st' := [.int x2]) 13 X (ct_X6_isPage (hb_l Γ) G k hk p2 σ hx2) cw_X6_54 rfl (by decide) hk rfl ⟨by decide, by decide⟩ (Nat.le_of_ble_eq_true rfl) rfl rfl dX6_whyNot_10 rfl ?_
    refine ww_if_ne 20 16 X dX6_whyNot_13 (by decide) rfl h (fun h => ?_) (fun h => ?_)
    · skip
      refine ww_iconst (v := (-1)) 17 X dX6_whyNot_16 rfl (by decide) ?_
      refine ww_goto 36 X dX6_whyNot_17 (by decide) ?_
      obtain rfl := Option.some.inj h
      exact ww_ret_i X hr K dX6_whyNot_36
    · skip
      refine ww_aload_n 21 X dX6_whyNot_20 rfl rfl ?_
      refine ww_iload_n 22 X dX6_whyNot_21 rfl rfl ?_
      refine ww_iconst (v := 3) 23 X dX6_whyNot_22 rfl (by decide) ?_
      obtain ⟨x3, hx3, h⟩ := hb_bind_of h
      refine ww_callV (ci := 6) (rest := []) (st' := [.int x3]) 26 X (ct_X6_of (hb_l Γ) G k hk p1 3 σ hx3) cw_X6_62 rfl (by decide) hk rfl ⟨by decide, by decide⟩ (Nat.le_of_ble_eq_true rfl) rfl rfl dX6_whyNot_23 rfl ?_
      refine ww_iconst (v := 3) 27 X dX6_whyNot_26 rfl (by decide) ?_
      refine ww_icmp_ne 35 30 X dX6_whyNot_27 (by decide) rfl h (fun h => ?_) (fun h => ?_)
      · skip
        refine ww_bipush (v := (-3)) 32 X dX6_whyNot_30 rfl (by decide) ?_
        refine ww_goto 36 X dX6_whyNot_32 (by decide) ?_
        obtain rfl := Option.some.inj h
        exact ww_ret_i X hr K dX6_whyNot_36
      · skip
        refine ww_iconst (v := 0) 36 X dX6_whyNot_35 rfl (by decide) ?_
        obtain rfl := Option.some.inj h
        exact ww_ret_i X hr K dX6_whyNot_36
theorem ct_X6_whyNot (l : Launch) (G : hb_Gam) (k : Nat) (hk : hb_is ΛM k 6) (p1 : Int32) (p2 : Int32) (σ : hb_Mem) {x : Int32} (h : fn_X6_whyNot k p1 p2 σ = some x) : hb_C l yX6_whyNot cX6_whyNot 3 (some .int) 2 43 ΛM G [.ref (G.2.2.2 k), .int p1, .int p2] σ (some (.int x)) σ :=
  hb_C.of [some (.ref (G.2.2.2 k)), some (.int p1), some (.int p2)] (by decide +kernel) (Nat.le_of_ble_eq_true rfl) (by intro v hv; simp only [List.mem_cons, List.not_mem_nil, or_false] at hv; rcases hv with rfl | rfl | rfl <;> rfl) rfl (hb_pad [.ref (G.2.2.2 k), .int p1, .int p2] 0) (fun Γ X hr => wk_X6_whyNot X hr k hk p1 p2 σ h rfl)
def fn_X6_adds (k : Nat) (p1 : Int32) (p2 : Int32) (p3 : Int32) (p4 : Int32) (σ : hb_Mem) : Option (Int32 × hb_Mem) :=
(fn_X6_of k p1 3 σ).bind fun x1 =>
hb_nm ((((1 : Int32) + ((13 : Int32) * p1)) + 4) + ((3 : Int32) * x1)) fun v2 =>
(hb_st ΛM σ (hm_rf k 0) (v2 + 0) p2).bind fun σ3 =>
(hb_st ΛM σ3 (hm_rf k 0) (v2 + 1) p3).bind fun σ4 =>
(hb_st ΛM σ4 (hm_rf k 0) (v2 + 2) p4).bind fun σ5 =>
hb_nm (((1 : Int32) + ((13 : Int32) * p1)) + 3) fun v6 =>
(hb_ld ΛM σ5 (hm_rf k 0) v6).bind fun v7 =>
(hb_st ΛM σ5 (hm_rf k 0) v6 (v7 + 1)).bind fun σ8 =>
some (x1, σ8)
set_option maxRecDepth 100000 in
set_option maxHeartbeats 4000000 in
theorem wk_X6_adds {Γ : hb_Ctx} {G : hb_Gam} {Q : State → Prop} (X : hb_X Γ cX6_adds 7 RX6 ΛM G 1 22) (hr : hb_ret Γ = (some .int)) (k : Nat) (hk : hb_is ΛM k 6) (p1 : Int32) (p2 : Int32) (p3 : Int32) (p4 : Int32) (σ : hb_Mem) {x : (Int32 × hb_Mem)} (h : fn_X6_adds k p1 p2 p3 p4 σ = some x) (K : Q = hb_Q Γ ΛM G (some (.int x.1)) x.2) : hb_W Γ ΛM G 7 Q σ [some (.ref (G.2.2.2 k)), some (.int p1), some (.int p2), some (.int p3), some (.int p4), none, none] [] 0 := by
  unfold fn_X6_adds at h
  refine ww_aload_n 1 X dX6_adds_0 rfl rfl ?_
  refine ww_iload_n 2 X dX6_adds_1 rfl rfl ?_
  refine ww_iconst (v := 3) 3 X dX6_adds_2 rfl (by decide) ?_
  obtain ⟨x1, hx1, h⟩ := hb_bind_of h
  refine ww_callV (ci := 6) (rest := []) (st' := [.int x1]) 6 X (ct_X6_of (hb_l Γ) G k hk p1 3 σ hx1) cw_X6_62 rfl (by decide) hk rfl ⟨by decide, by decide⟩ (Nat.le_of_ble_eq_true rfl) rfl rfl dX6_adds_3 rfl ?_
  refine ww_istore 8 X (L' := [some (.ref (G.2.2.2 k)), some (.int p1), some (.int p2), some (.int p3), some (.int p4), some (.int x1), none]) dX6_adds_6 rfl (Nat.le_of_ble_eq_true rfl) rfl ?_
  refine ww_iconst (v := 1) 9 X dX6_adds_8 rfl (by decide) ?_
  refine ww_bipush (v := 13) 11 X dX6_adds_9 rfl (by decide) ?_
  refine ww_iload_n 12 X dX6_adds_11 rfl rfl ?_
  refine ww_imul 13 X dX6_adds_12 rfl ?_
  refine ww_iadd 14 X dX6_adds_13 rfl ?_
  refine ww_iconst (v := 4) 15 X dX6_adds_14 rfl (by decide) ?_
  refine ww_iadd 16 X dX6_adds_15 rfl ?_
  refine ww_iconst (v := 3) 17 X dX6_adds_16 rfl (by decide) ?_
  refine ww_iload 19 X dX6_adds_17 rfl rfl ?_
  refine ww_imul 20 X dX6_adds_19 rfl ?_
  refine ww_iadd 21 X dX6_adds_20 rfl ?_
  obtain ⟨v2, ev2, h⟩ := hb_nm_of h
  rw [← ev2]
  refine ww_istore 23 X (L' := [some (.ref (G.2.2.2 k)), some (.int p1), some (.int p2), some (.int p3), some (.int p4), some (.int x1), some (.int v2)]) dX6_adds_21 rfl (Nat.le_of_ble_eq_true rfl) rfl ?_
  refine ww_aload_n 24 X dX6_adds_23 rfl rfl ?_
  refine ww_getr (ci := 6) (j := 0) 27 X cf_6 tw_X6_7 (by decide) rfl hk dX6_adds_24 rfl ?_
  refine ww_iload 29 X dX6_adds_27 rfl rfl ?_
  refine ww_iconst (v := 0) 30 X dX6_adds_29 rfl (by decide) ?_
  refine ww_iadd 31 X dX6_adds_30 rfl ?_
  refine ww_iload_n 32 X dX6_adds_31 rfl rfl ?_
  obtain ⟨σ3, hσ3, h⟩ := hb_bind_of h
  refine ww_iast 33 X (hm_kr_6_0 hk) hσ3 dX6_adds_32 rfl ?_
  refine ww_aload_n 34 X dX6_adds_33 rfl rfl ?_
  refine ww_getr (ci := 6) (j := 0) 37 X cf_6 tw_X6_7 (by decide) rfl hk dX6_adds_34 rfl ?_
  refine ww_iload 39 X dX6_adds_37 rfl rfl ?_
  refine ww_iconst (v := 1) 40 X dX6_adds_39 rfl (by decide) ?_
  refine ww_iadd 41 X dX6_adds_40 rfl ?_
  refine ww_iload_n 42 X dX6_adds_41 rfl rfl ?_
  obtain ⟨σ4, hσ4, h⟩ := hb_bind_of h
  refine ww_iast 43 X (hm_kr_6_0 hk) hσ4 dX6_adds_42 rfl ?_
  refine ww_aload_n 44 X dX6_adds_43 rfl rfl ?_
  refine ww_getr (ci := 6) (j := 0) 47 X cf_6 tw_X6_7 (by decide) rfl hk dX6_adds_44 rfl ?_
  refine ww_iload 49 X dX6_adds_47 rfl rfl ?_
  refine ww_iconst (v := 2) 50 X dX6_adds_49 rfl (by decide) ?_
  refine ww_iadd 51 X dX6_adds_50 rfl ?_
  refine ww_iload 53 X dX6_adds_51 rfl rfl ?_
  obtain ⟨σ5, hσ5, h⟩ := hb_bind_of h
  refine ww_iast 54 X (hm_kr_6_0 hk) hσ5 dX6_adds_53 rfl ?_
  refine ww_aload_n 55 X dX6_adds_54 rfl rfl ?_
  refine ww_getr (ci := 6) (j := 0) 58 X cf_6 tw_X6_7 (by decide) rfl hk dX6_adds_55 rfl ?_
  refine ww_iconst (v := 1) 59 X dX6_adds_58 rfl (by decide) ?_
  refine ww_bipush (v := 13) 61 X dX6_adds_59 rfl (by decide) ?_
  refine ww_iload_n 62 X dX6_adds_61 rfl rfl ?_
  refine ww_imul 63 X dX6_adds_62 rfl ?_
  refine ww_iadd 64 X dX6_adds_63 rfl ?_
  refine ww_iconst (v := 3) 65 X dX6_adds_64 rfl (by decide) ?_
  refine ww_iadd 66 X dX6_adds_65 rfl ?_
  obtain ⟨v6, ev6, h⟩ := hb_nm_of h
  rw [← ev6]
  refine ww_dup2 67 X dX6_adds_66 rfl rfl rfl ?_
  obtain ⟨v7, hv7, h⟩ := hb_bind_of h
  refine ww_iald 68 X (hm_kr_6_0 hk) hv7 dX6_adds_67 rfl ?_
  refine ww_iconst (v := 1) 69 X dX6_adds_68 rfl (by decide) ?_
  refine ww_iadd 70 X dX6_adds_69 rfl ?_
  obtain ⟨σ8, hσ8, h⟩ := hb_bind_of h
  refine ww_iast 71 X (hm_kr_6_0 hk) hσ8 dX6_adds_70 rfl ?_
  refine ww_iload 73 X dX6_adds_71 rfl rfl ?_
  obtain rfl := Option.some.inj h
  exact ww_ret_i X hr K dX6_adds_73
theorem ct_X6_adds (l : Launch) (G : hb_Gam) (k : Nat) (hk : hb_is ΛM k 6) (p1 : Int32) (p2 : Int32) (p3 : Int32) (p4 : Int32) (σ : hb_Mem) {x : (Int32 × hb_Mem)} (h : fn_X6_adds k p1 p2 p3 p4 σ = some x) : hb_C l yX6_adds cX6_adds 7 (some .int) 1 22 ΛM G [.ref (G.2.2.2 k), .int p1, .int p2, .int p3, .int p4] σ (some (.int x.1)) x.2 :=
  hb_C.of [some (.ref (G.2.2.2 k)), some (.int p1), some (.int p2), some (.int p3), some (.int p4), none, none] (by decide +kernel) (Nat.le_of_ble_eq_true rfl) (by intro v hv; simp only [List.mem_cons, List.not_mem_nil, or_false] at hv; rcases hv with rfl | rfl | rfl | rfl | rfl <;> rfl) rfl (hb_pad [.ref (G.2.2.2 k), .int p1, .int p2, .int p3, .int p4] 2) (fun Γ X hr => wk_X6_adds X hr k hk p1 p2 p3 p4 σ h rfl)
def fn_X6_addChoice (k : Nat) (p1 : Int32) (p2 : Int32) (p3 : Int32) (p4 : Int32) (σ : hb_Mem) : Option (Int32 × hb_Mem) :=
(fn_X6_whyNot k p1 p2 σ).bind fun x1 =>
if x1 = (-1) then (
some ((-1), σ))
else (
(fn_X6_areFlags p3).bind fun x2 =>
if x2 = 0 then (
some ((-2), σ))
else (
(fn_X6_areFlags p4).bind fun x3 =>
if x3 = 0 then (
some ((-2), σ))
else (
if 0 ≤ x1 then (
(fn_X6_records k σ).bind fun x4 =>
(fn_X6_adds k p1 p2 p3 p4 x4).bind fun x5 =>
some (x5.1, x5.2))
else (
some (x1, σ)))))
set_option maxRecDepth 100000 in
set_option maxHeartbeats 4000000 in
theorem wk_X6_addChoice {Γ : hb_Ctx} {G : hb_Gam} {Q : State → Prop} (X : hb_X Γ cX6_addChoice 6 RX6 ΛM G 3 65) (hr : hb_ret Γ = (some .int)) (k : Nat) (hk : hb_is ΛM k 6) (p1 : Int32) (p2 : Int32) (p3 : Int32) (p4 : Int32) (σ : hb_Mem) {x : (Int32 × hb_Mem)} (h : fn_X6_addChoice k p1 p2 p3 p4 σ = some x) (K : Q = hb_Q Γ ΛM G (some (.int x.1)) x.2) : hb_W Γ ΛM G 6 Q σ [some (.ref (G.2.2.2 k)), some (.int p1), some (.int p2), some (.int p3), some (.int p4), none] [] 0 := by
  unfold fn_X6_addChoice at h
  refine ww_aload_n 1 X dX6_addChoice_0 rfl rfl ?_
  refine ww_iload_n 2 X dX6_addChoice_1 rfl rfl ?_
  refine ww_iload_n 3 X dX6_addChoice_2 rfl rfl ?_
  obtain ⟨x1, hx1, h⟩ := hb_bind_of h
  refine ww_callV (ci := 6) (rest := []) (st' := [.int x1]) 6 X (ct_X6_whyNot (hb_l Γ) G k hk p1 p2 σ hx1) cw_X6_117 rfl (by decide) hk rfl ⟨by decide, by decide⟩ (Nat.le_of_ble_eq_true rfl) rfl rfl dX6_addChoice_3 rfl ?_
  refine ww_istore 8 X (L' := [some (.ref (G.2.2.2 k)), some (.int p1), some (.int p2), some (.int p3), some (.int p4), some (.int x1)]) dX6_addChoice_6 rfl (Nat.le_of_ble_eq_true rfl) rfl ?_
  refine ww_iload 10 X dX6_addChoice_8 rfl rfl ?_
  refine ww_iconst (v := (-1)) 11 X dX6_addChoice_10 rfl (by decide) ?_
  refine ww_icmp_ne 16 14 X dX6_addChoice_11 (by decide) rfl h (fun h => ?_) (fun h => ?_)
  · skip
    refine ww_iconst (v := (-1)) 15 X dX6_addChoice_14 rfl (by decide) ?_
    obtain rfl := Option.some.inj h
    exact ww_ret_i X hr K dX6_addChoice_15
  · skip
    refine ww_iload_n 17 X dX6_addChoice_16 rfl rfl ?_
    obtain ⟨x2, hx2, h⟩ := hb_bind_of h
    refine ww_callS (rest := []) (st' := [.int x2]) 20 X (ct_X6_areFlags (hb_l Γ) G p3 σ hx2) cw_X6_111 rfl ⟨by decide, by decide⟩ (Nat.le_of_ble_eq_true rfl) rfl rfl dX6_addChoice_17 rfl ?_
    refine ww_if_eq 31 23 X dX6_addChoice_20 (by decide) rfl h (fun h => ?_) (fun h => ?_)
    · skip
      refine ww_bipush (v := (-2)) 33 X dX6_addChoice_31 rfl (by decide) ?_
      obtain rfl := Option.some.inj h
      exact ww_ret_i X hr K dX6_addChoice_33
    · skip
      refine ww_iload 25 X dX6_addChoice_23 rfl rfl ?_
      obtain ⟨x3, hx3, h⟩ := hb_bind_of h
      refine ww_callS (rest := []) (st' := [.int x3]) 28 X (ct_X6_areFlags (hb_l Γ) G p4 σ hx3) cw_X6_111 rfl ⟨by decide, by decide⟩ (Nat.le_of_ble_eq_true rfl) rfl rfl dX6_addChoice_25 rfl ?_
      refine ww_if_ne 34 31 X dX6_addChoice_28 (by decide) rfl h (fun h => ?_) (fun h => ?_)
      · skip
        refine ww_bipush (v := (-2)) 33 X dX6_addChoice_31 rfl (by decide) ?_
        obtain rfl := Option.some.inj h
        exact ww_ret_i X hr K dX6_addChoice_33
      · skip
        refine ww_iload 36 X dX6_addChoice_34 rfl rfl ?_
        refine ww_if_ge 42 39 X dX6_addChoice_36 (by decide) rfl h (fun h => ?_) (fun h => ?_)
        · skip
          refine ww_aload_n 43 X dX6_addChoice_42 rfl rfl ?_
          obtain ⟨x4, hx4, h⟩ := hb_bind_of h
          refine ww_callV (ci := 6) (rest := []) (st' := []) 46 X (ct_X6_records (hb_l Γ) G k hk σ hx4) cw_X6_114 rfl (by decide) hk rfl ⟨by decide, by decide⟩ (Nat.le_of_ble_eq_true rfl) rfl rfl dX6_addChoice_43 rfl ?_
          refine ww_aload_n 47 X dX6_addChoice_46 rfl rfl ?_
          refine ww_iload_n 48 X dX6_addChoice_47 rfl rfl ?_
          refine ww_iload_n 49 X dX6_addChoice_48 rfl rfl ?_
          refine ww_iload_n 50 X dX6_addChoice_49 rfl rfl ?_
          refine ww_iload 52 X dX6_addChoice_50 rfl rfl ?_
          obtain ⟨x5, hx5, h⟩ := hb_bind_of h
          refine ww_callV (ci := 6) (rest := []) (st' := [.int x5.1]) 55 X (ct_X6_adds (hb_l Γ) G k hk p1 p2 p3 p4 x4 hx5) cw_X6_120 rfl (by decide) hk rfl ⟨by decide, by decide⟩ (Nat.le_of_ble_eq_true rfl) rfl rfl dX6_addChoice_52 rfl ?_
          obtain rfl := Option.some.inj h
          exact ww_ret_i X hr K dX6_addChoice_55
        · skip
          refine ww_iload 41 X dX6_addChoice_39 rfl rfl ?_
          obtain rfl := Option.some.inj h
          exact ww_ret_i X hr K dX6_addChoice_41
theorem ct_X6_addChoice (l : Launch) (G : hb_Gam) (k : Nat) (hk : hb_is ΛM k 6) (p1 : Int32) (p2 : Int32) (p3 : Int32) (p4 : Int32) (σ : hb_Mem) {x : (Int32 × hb_Mem)} (h : fn_X6_addChoice k p1 p2 p3 p4 σ = some x) : hb_C l yX6_addChoice cX6_addChoice 6 (some .int) 3 65 ΛM G [.ref (G.2.2.2 k), .int p1, .int p2, .int p3, .int p4] σ (some (.int x.1)) x.2 :=
  hb_C.of [some (.ref (G.2.2.2 k)), some (.int p1), some (.int p2), some (.int p3), some (.int p4), none] (by decide +kernel) (Nat.le_of_ble_eq_true rfl) (by intro v hv; simp only [List.mem_cons, List.not_mem_nil, or_false] at hv; rcases hv with rfl | rfl | rfl | rfl | rfl <;> rfl) rfl (hb_pad [.ref (G.2.2.2 k), .int p1, .int p2, .int p3, .int p4] 1) (fun Γ X hr => wk_X6_addChoice X hr k hk p1 p2 p3 p4 σ h rfl)
def lb_X6_takeChoice_58 (k : Nat) (p1 : Int32) (p2 : Int32) (i3 : Int32) (i4 : Int32) (w5 : Int32) (σ : hb_Mem) : Option ((Int32 × hb_Mem) ⊕ hb_Mem) :=
if i4 ≤ w5 then (
some (.inr σ))
else (
(hb_ld ΛM σ (hm_rf k 0) (w5 + 3)).bind fun v7 =>
(hb_st ΛM σ (hm_rf k 0) w5 v7).bind fun σ8 =>
hb_nm (w5 + 1) fun v9 =>
some (.inl (v9, σ8)))
set_option maxRecDepth 100000 in
set_option maxHeartbeats 4000000 in
theorem lk_X6_takeChoice_58 {Γ : hb_Ctx} {G : hb_Gam} {Q : State → Prop} (X : hb_X Γ cX6_takeChoice 6 RX6 ΛM G 3 65)  (k : Nat) (hk : hb_is ΛM k 6) (p1 : Int32) (p2 : Int32) (i3 : Int32) (i4 : Int32) (w5 : Int32) (σ : hb_Mem) {x : ((Int32 × hb_Mem) ⊕ hb_Mem)} (h : lb_X6_takeChoice_58 k p1 p2 i3 i4 w5 σ = some x) (K : Sum.elim (fun s : (Int32 × hb_Mem) => hb_W Γ ΛM G 6 Q s.2 [some (.ref (G.2.2.2 k)), some (.int p1), none, some (.int i3), some (.int i4), some (.int s.1)] [] 58) (fun t : hb_Mem => hb_W Γ ΛM G 6 Q t [some (.ref (G.2.2.2 k)), some (.int p1), none, some (.int i3), none, none] [] 87) x) : hb_W Γ ΛM G 6 Q σ [some (.ref (G.2.2.2 k)), some (.int p1), none, some (.int i3), some (.int i4), some (.int w5)] [] 58 := by
  unfold lb_X6_takeChoice_58 at h
  refine ww_iload 60 X dX6_takeChoice_58 rfl rfl ?_
  refine ww_iload 62 X dX6_takeChoice_60 rfl rfl ?_
  refine ww_icmp_ge 87 65 X dX6_takeChoice_62 (by decide) rfl h (fun h => ?_) (fun h => ?_)
  · skip
    obtain rfl := Option.some.inj h
    refine ww_kill [4, 5] (L' := [some (.ref (G.2.2.2 k)), some (.int p1), none, some (.int i3), none, none]) rfl ?_
    exact K
  · skip
    refine ww_aload_n 66 X dX6_takeChoice_65 rfl rfl ?_
    refine ww_getr (ci := 6) (j := 0) 69 X cf_6 tw_X6_7 (by decide) rfl hk dX6_takeChoice_66 rfl ?_
    refine ww_iload 71 X dX6_takeChoice_69 rfl rfl ?_
    refine ww_aload_n 72 X dX6_takeChoice_71 rfl rfl ?_
    refine ww_getr (ci := 6) (j := 0) 75 X cf_6 tw_X6_7 (by decide) rfl hk dX6_takeChoice_72 rfl ?_
    refine ww_iload 77 X dX6_takeChoice_75 rfl rfl ?_
    refine ww_iconst (v := 3) 78 X dX6_takeChoice_77 rfl (by decide) ?_
    refine ww_iadd 79 X dX6_takeChoice_78 rfl ?_
    obtain ⟨v7, hv7, h⟩ := hb_bind_of h
    refine ww_iald 80 X (hm_kr_6_0 hk) hv7 dX6_takeChoice_79 rfl ?_
    obtain ⟨σ8, hσ8, h⟩ := hb_bind_of h
    refine ww_iast 81 X (hm_kr_6_0 hk) hσ8 dX6_takeChoice_80 rfl ?_
    obtain ⟨v9, ev9, h⟩ := hb_nm_of h
    refine ww_iinc 84 X (L' := [some (.ref (G.2.2.2 k)), some (.int p1), none, some (.int i3), some (.int i4), some (.int v9)]) dX6_takeChoice_81 rfl rfl ev9.symm rfl ?_
    refine ww_goto 58 X dX6_takeChoice_84 (by decide) ?_
    obtain rfl := Option.some.inj h
    exact K
def ll_X6_takeChoice_58 (k : Nat) (p1 : Int32) (p2 : Int32) (i3 : Int32) (i4 : Int32) : (Int32 × hb_Mem) → Option hb_Mem := hb_lp (fun s => lb_X6_takeChoice_58 k p1 p2 i3 i4 s.1 s.2) hb_F
theorem lw_X6_takeChoice_58 {Γ : hb_Ctx} {G : hb_Gam} {Q : State → Prop} (X : hb_X Γ cX6_takeChoice 6 RX6 ΛM G 3 65)  (k : Nat) (hk : hb_is ΛM k 6) (p1 : Int32) (p2 : Int32) (i3 : Int32) (i4 : Int32) (s : (Int32 × hb_Mem)) (t : hb_Mem) (h : ll_X6_takeChoice_58 k p1 p2 i3 i4 s = some t) (K : (fun t : hb_Mem => hb_W Γ ΛM G 6 Q t [some (.ref (G.2.2.2 k)), some (.int p1), none, some (.int i3), none, none] [] 87) t) : hb_W Γ ΛM G 6 Q s.2 [some (.ref (G.2.2.2 k)), some (.int p1), none, some (.int i3), some (.int i4), some (.int s.1)] [] 58 :=
  hb_lp_w (P := fun s : (Int32 × hb_Mem) => hb_W Γ ΛM G 6 Q s.2 [some (.ref (G.2.2.2 k)), some (.int p1), none, some (.int i3), some (.int i4), some (.int s.1)] [] 58) (E := (fun t : hb_Mem => hb_W Γ ΛM G 6 Q t [some (.ref (G.2.2.2 k)), some (.int p1), none, some (.int i3), none, none] [] 87)) (fun s x hx K => lk_X6_takeChoice_58 X k hk p1 p2 i3 i4 s.1 s.2 hx K) _ s t h K
def fn_X6_takeChoice (k : Nat) (p1 : Int32) (p2 : Int32) (σ : hb_Mem) : Option (Int32 × hb_Mem) :=
(fn_X6_isChoice k p1 p2 σ).bind fun x1 =>
if x1 = 0 then (
some ((-1), σ))
else (
(fn_X6_records k σ).bind fun x2 =>
(fn_X6_ofChoice k p1 p2 0 x2).bind fun x3 =>
(fn_X6_of k p1 3 x2).bind fun x4 =>
hb_nm ((((1 : Int32) + ((13 : Int32) * p1)) + 4) + ((3 : Int32) * (x4 - 1))) fun v5 =>
hb_nm ((((1 : Int32) + ((13 : Int32) * p1)) + 4) + ((3 : Int32) * p2)) fun v6 =>
(ll_X6_takeChoice_58 k p1 p2 x3 v5 (v6, x2)).bind fun t10 =>
hb_nm (((1 : Int32) + ((13 : Int32) * p1)) + 3) fun v11 =>
(hb_ld ΛM t10 (hm_rf k 0) v11).bind fun v12 =>
(hb_st ΛM t10 (hm_rf k 0) v11 (v12 - 1)).bind fun σ13 =>
some (x3, σ13))
set_option maxRecDepth 100000 in
set_option maxHeartbeats 4000000 in
theorem wk_X6_takeChoice {Γ : hb_Ctx} {G : hb_Gam} {Q : State → Prop} (X : hb_X Γ cX6_takeChoice 6 RX6 ΛM G 3 65) (hr : hb_ret Γ = (some .int)) (k : Nat) (hk : hb_is ΛM k 6) (p1 : Int32) (p2 : Int32) (σ : hb_Mem) {x : (Int32 × hb_Mem)} (h : fn_X6_takeChoice k p1 p2 σ = some x) (K : Q = hb_Q Γ ΛM G (some (.int x.1)) x.2) : hb_W Γ ΛM G 6 Q σ [some (.ref (G.2.2.2 k)), some (.int p1), some (.int p2), none, none, none] [] 0 := by
  unfold fn_X6_takeChoice at h
  refine ww_aload_n 1 X dX6_takeChoice_0 rfl rfl ?_
  refine ww_iload_n 2 X dX6_takeChoice_1 rfl rfl ?_
  refine ww_iload_n 3 X dX6_takeChoice_2 rfl rfl ?_
  obtain ⟨x1, hx1, h⟩ := hb_bind_of h
  refine ww_callV (ci := 6) (rest := []) (st' := [.int x1]) 6 X (ct_X6_isChoice (hb_l Γ) G k hk p1 p2 σ hx1) cw_X6_124 rfl (by decide) hk rfl ⟨by decide, by decide⟩ (Nat.le_of_ble_eq_true rfl) rfl rfl dX6_takeChoice_3 rfl ?_
  refine ww_if_ne 11 9 X dX6_takeChoice_6 (by decide) rfl h (fun h => ?_) (fun h => ?_)
  · skip
    refine ww_iconst (v := (-1)) 10 X dX6_takeChoice_9 rfl (by decide) ?_
    obtain rfl := Option.some.inj h
    exact ww_ret_i X hr K dX6_takeChoice_10
  · skip
    refine ww_aload_n 12 X dX6_takeChoice_11 rfl rfl ?_
    obtain ⟨x2, hx2, h⟩ := hb_bind_of h
    refine ww_callV (ci := 6) (rest := []) (st' := []) 15 X (ct_X6_records (hb_l Γ) G k hk σ hx2) cw_X6_114 rfl (by decide) hk rfl ⟨by decide, by decide⟩ (Nat.le_of_ble_eq_true rfl) rfl rfl dX6_takeChoice_12 rfl ?_
    refine ww_aload_n 16 X dX6_takeChoice_15 rfl rfl ?_
    refine ww_iload_n 17 X dX6_takeChoice_16 rfl rfl ?_
    refine ww_iload_n 18 X dX6_takeChoice_17 rfl rfl ?_
    refine ww_iconst (v := 0) 19 X dX6_takeChoice_18 rfl (by decide) ?_
    obtain ⟨x3, hx3, h⟩ := hb_bind_of h
    refine ww_callV (ci := 6) (rest := []) (st' := [.int x3]) 22 X (ct_X6_ofChoice (hb_l Γ) G k hk p1 p2 0 x2 hx3) cw_X6_58 rfl (by decide) hk rfl ⟨by decide, by decide⟩ (Nat.le_of_ble_eq_true rfl) rfl rfl dX6_takeChoice_19 rfl ?_
    refine ww_istore_n 23 X (L' := [some (.ref (G.2.2.2 k)), some (.int p1), some (.int p2), some (.int x3), none, none]) dX6_takeChoice_22 rfl (Nat.le_of_ble_eq_true rfl) rfl ?_
    refine ww_iconst (v := 1) 24 X dX6_takeChoice_23 rfl (by decide) ?_
    refine ww_bipush (v := 13) 26 X dX6_takeChoice_24 rfl (by decide) ?_
    refine ww_iload_n 27 X dX6_takeChoice_26 rfl rfl ?_
    refine ww_imul 28 X dX6_takeChoice_27 rfl ?_
    refine ww_iadd 29 X dX6_takeChoice_28 rfl ?_
    refine ww_iconst (v := 4) 30 X dX6_takeChoice_29 rfl (by decide) ?_
    refine ww_iadd 31 X dX6_takeChoice_30 rfl ?_
    refine ww_iconst (v := 3) 32 X dX6_takeChoice_31 rfl (by decide) ?_
    refine ww_aload_n 33 X dX6_takeChoice_32 rfl rfl ?_
    refine ww_iload_n 34 X dX6_takeChoice_33 rfl rfl ?_
    refine ww_iconst (v := 3) 35 X dX6_takeChoice_34 rfl (by decide) ?_
    obtain ⟨x4, hx4, h⟩ := hb_bind_of h
    refine ww_callV (ci := 6) (rest := [.int 3, .int (((1 : Int32) + ((13 : Int32) * p1)) + 4)]) (st' := [.int x4, .int 3, .int (((1 : Int32) + ((13 : Int32) * p1)) + 4)]) 38 X (ct_X6_of (hb_l Γ) G k hk p1 3 x2 hx4) cw_X6_62 rfl (by decide) hk rfl ⟨by decide, by decide⟩ (Nat.le_of_ble_eq_true rfl) rfl rfl dX6_takeChoice_35 rfl ?_
    refine ww_iconst (v := 1) 39 X dX6_takeChoice_38 rfl (by decide) ?_
    refine ww_isub 40 X dX6_takeChoice_39 rfl ?_
    refine ww_imul 41 X dX6_takeChoice_40 rfl ?_
    refine ww_iadd 42 X dX6_takeChoice_41 rfl ?_
    obtain ⟨v5, ev5, h⟩ := hb_nm_of h
    rw [← ev5]
    refine ww_istore 44 X (L' := [some (.ref (G.2.2.2 k)), some (.int p1), some (.int p2), some (.int x3), some (.int v5), none]) dX6_takeChoice_42 rfl (Nat.le_of_ble_eq_true rfl) rfl ?_
    refine ww_iconst (v := 1) 45 X dX6_takeChoice_44 rfl (by decide) ?_
    refine ww_bipush (v := 13) 47 X dX6_takeChoice_45 rfl (by decide) ?_
    refine ww_iload_n 48 X dX6_takeChoice_47 rfl rfl ?_
    refine ww_imul 49 X dX6_takeChoice_48 rfl ?_
    refine ww_iadd 50 X dX6_takeChoice_49 rfl ?_
    refine ww_iconst (v := 4) 51 X dX6_takeChoice_50 rfl (by decide) ?_
    refine ww_iadd 52 X dX6_takeChoice_51 rfl ?_
    refine ww_iconst (v := 3) 53 X dX6_takeChoice_52 rfl (by decide) ?_
    refine ww_iload_n 54 X dX6_takeChoice_53 rfl rfl ?_
    refine ww_imul 55 X dX6_takeChoice_54 rfl ?_
    refine ww_iadd 56 X dX6_takeChoice_55 rfl ?_
    obtain ⟨v6, ev6, h⟩ := hb_nm_of h
    rw [← ev6]
    refine ww_istore 58 X (L' := [some (.ref (G.2.2.2 k)), some (.int p1), some (.int p2), some (.int x3), some (.int v5), some (.int v6)]) dX6_takeChoice_56 rfl (Nat.le_of_ble_eq_true rfl) rfl ?_
    obtain ⟨t10, ht10, h⟩ := hb_bind_of h
    refine ww_kill [2] (L' := [some (.ref (G.2.2.2 k)), some (.int p1), none, some (.int x3), some (.int v5), some (.int v6)]) rfl ?_
    refine lw_X6_takeChoice_58 X k hk p1 p2 x3 v5 (v6, x2) t10 ht10 ?_
    refine ww_aload_n 88 X dX6_takeChoice_87 rfl rfl ?_
    refine ww_getr (ci := 6) (j := 0) 91 X cf_6 tw_X6_7 (by decide) rfl hk dX6_takeChoice_88 rfl ?_
    refine ww_iconst (v := 1) 92 X dX6_takeChoice_91 rfl (by decide) ?_
    refine ww_bipush (v := 13) 94 X dX6_takeChoice_92 rfl (by decide) ?_
    refine ww_iload_n 95 X dX6_takeChoice_94 rfl rfl ?_
    refine ww_imul 96 X dX6_takeChoice_95 rfl ?_
    refine ww_iadd 97 X dX6_takeChoice_96 rfl ?_
    refine ww_iconst (v := 3) 98 X dX6_takeChoice_97 rfl (by decide) ?_
    refine ww_iadd 99 X dX6_takeChoice_98 rfl ?_
    obtain ⟨v11, ev11, h⟩ := hb_nm_of h
    rw [← ev11]
    refine ww_dup2 100 X dX6_takeChoice_99 rfl rfl rfl ?_
    obtain ⟨v12, hv12, h⟩ := hb_bind_of h
    refine ww_iald 101 X (hm_kr_6_0 hk) hv12 dX6_takeChoice_100 rfl ?_
    refine ww_iconst (v := 1) 102 X dX6_takeChoice_101 rfl (by decide) ?_
    refine ww_isub 103 X dX6_takeChoice_102 rfl ?_
    obtain ⟨σ13, hσ13, h⟩ := hb_bind_of h
    refine ww_iast 104 X (hm_kr_6_0 hk) hσ13 dX6_takeChoice_103 rfl ?_
    refine ww_iload_n 105 X dX6_takeChoice_104 rfl rfl ?_
    obtain rfl := Option.some.inj h
    exact ww_ret_i X hr K dX6_takeChoice_105
theorem ct_X6_takeChoice (l : Launch) (G : hb_Gam) (k : Nat) (hk : hb_is ΛM k 6) (p1 : Int32) (p2 : Int32) (σ : hb_Mem) {x : (Int32 × hb_Mem)} (h : fn_X6_takeChoice k p1 p2 σ = some x) : hb_C l yX6_takeChoice cX6_takeChoice 6 (some .int) 3 65 ΛM G [.ref (G.2.2.2 k), .int p1, .int p2] σ (some (.int x.1)) x.2 :=
  hb_C.of [some (.ref (G.2.2.2 k)), some (.int p1), some (.int p2), none, none, none] (by decide +kernel) (Nat.le_of_ble_eq_true rfl) (by intro v hv; simp only [List.mem_cons, List.not_mem_nil, or_false] at hv; rcases hv with rfl | rfl | rfl <;> rfl) rfl (hb_pad [.ref (G.2.2.2 k), .int p1, .int p2] 3) (fun Γ X hr => wk_X6_takeChoice X hr k hk p1 p2 σ h rfl)
def fn_X6_other (p0 : Int32) (p1 : Int32) (p2 : Int32) : Option Int32 :=
if p0 = p1 then (
some p2)
else (
if p0 = p2 then (
some p1)
else (
some p0))
set_option maxRecDepth 100000 in
set_option maxHeartbeats 4000000 in
theorem wk_X6_other {Γ : hb_Ctx} {G : hb_Gam} {Q : State → Prop} (X : hb_X Γ cX6_other 3 RX6 ΛM G 0 0) (hr : hb_ret Γ = (some .int)) (p0 : Int32) (p1 : Int32) (p2 : Int32) (σ : hb_Mem) {x : Int32} (h : fn_X6_other p0 p1 p2 = some x) (K : Q = hb_Q Γ ΛM G (some (.int x)) σ) : hb_W Γ ΛM G 3 Q σ [some (.int p0), some (.int p1), some (.int p2)] [] 0 := by
  unfold fn_X6_other at h
  refine ww_iload_n 1 X dX6_other_0 rfl rfl ?_
  refine ww_iload_n 2 X dX6_other_1 rfl rfl ?_
  refine ww_icmp_ne 9 5 X dX6_other_2 (by decide) rfl h (fun h => ?_) (fun h => ?_)
  · skip
    refine ww_iload_n 6 X dX6_other_5 rfl rfl ?_
    refine ww_goto 19 X dX6_other_6 (by decide) ?_
    obtain rfl := Option.some.inj h
    exact ww_ret_i X hr K dX6_other_19
  · skip
    refine ww_iload_n 10 X dX6_other_9 rfl rfl ?_
    refine ww_iload_n 11 X dX6_other_10 rfl rfl ?_
    refine ww_icmp_ne 18 14 X dX6_other_11 (by decide) rfl h (fun h => ?_) (fun h => ?_)
    · skip
      refine ww_iload_n 15 X dX6_other_14 rfl rfl ?_
      refine ww_goto 19 X dX6_other_15 (by decide) ?_
      obtain rfl := Option.some.inj h
      exact ww_ret_i X hr K dX6_other_19
    · skip
      refine ww_iload_n 19 X dX6_other_18 rfl rfl ?_
      obtain rfl := Option.some.inj h
      exact ww_ret_i X hr K dX6_other_19
theorem ct_X6_other (l : Launch) (G : hb_Gam) (p0 : Int32) (p1 : Int32) (p2 : Int32) (σ : hb_Mem) {x : Int32} (h : fn_X6_other p0 p1 p2 = some x) : hb_C l yX6_other cX6_other 3 (some .int) 0 0 ΛM G [.int p0, .int p1, .int p2] σ (some (.int x)) σ :=
  hb_C.of [some (.int p0), some (.int p1), some (.int p2)] (by decide +kernel) (Nat.le_of_ble_eq_true rfl) (by intro v hv; simp only [List.mem_cons, List.not_mem_nil, or_false] at hv; rcases hv with rfl | rfl | rfl <;> rfl) rfl (hb_pad [.int p0, .int p1, .int p2] 0) (fun Γ X hr => wk_X6_other X hr p0 p1 p2 σ h rfl)
def jn_X6_leadingTo_46 (k : Nat) (p1 : Int32) (i3 : Int32) (j4 : Int32) (s0 : Int32) (s1 : Int32) (σ : hb_Mem) : Option ((Int32 × Int32) ⊕ Int32) :=
hb_nm (s0 + s1) fun v4 =>
hb_nm (j4 + 1) fun v5 =>
some (.inl (v4, v5))
set_option maxRecDepth 100000 in
set_option maxHeartbeats 4000000 in
theorem jw_X6_leadingTo_46 {Γ : hb_Ctx} {G : hb_Gam} {Q : State → Prop} (X : hb_X Γ cX6_leadingTo 5 RX6 ΛM G 1 23)  (k : Nat) (hk : hb_is ΛM k 6) (p1 : Int32) (i3 : Int32) (j4 : Int32) (s0 : Int32) (s1 : Int32) (σ : hb_Mem) {x : ((Int32 × Int32) ⊕ Int32)} (h : jn_X6_leadingTo_46 k p1 i3 j4 s0 s1 σ = some x) (K : Sum.elim (fun s : (Int32 × Int32) => hb_W Γ ΛM G 5 Q σ [some (.ref (G.2.2.2 k)), some (.int p1), some (.int s.1), some (.int i3), some (.int s.2)] [] 17) (fun t : Int32 => hb_W Γ ΛM G 5 Q σ [some (.ref (G.2.2.2 k)), some (.int p1), some (.int t), some (.int i3), none] [] 54) x) : hb_W Γ ΛM G 5 Q σ [some (.ref (G.2.2.2 k)), some (.int p1), none, some (.int i3), some (.int j4)] [.int s1, .int s0] 46 := by
  unfold jn_X6_leadingTo_46 at h
  refine ww_iadd 47 X dX6_leadingTo_46 rfl ?_
  obtain ⟨v4, ev4, h⟩ := hb_nm_of h
  rw [← ev4]
  refine ww_istore_n 48 X (L' := [some (.ref (G.2.2.2 k)), some (.int p1), some (.int v4), some (.int i3), some (.int j4)]) dX6_leadingTo_47 rfl (Nat.le_of_ble_eq_true rfl) rfl ?_
  obtain ⟨v5, ev5, h⟩ := hb_nm_of h
  refine ww_iinc 51 X (L' := [some (.ref (G.2.2.2 k)), some (.int p1), some (.int v4), some (.int i3), some (.int v5)]) dX6_leadingTo_48 rfl rfl ev5.symm rfl ?_
  refine ww_goto 17 X dX6_leadingTo_51 (by decide) ?_
  obtain rfl := Option.some.inj h
  exact K
def lb_X6_leadingTo_17 (k : Nat) (p1 : Int32) (i3 : Int32) (w2 : Int32) (w4 : Int32) (σ : hb_Mem) : Option ((Int32 × Int32) ⊕ Int32) :=
(fn_X6_of k i3 3 σ).bind fun x2 =>
if x2 ≤ w4 then (
some (.inr w2))
else (
(fn_X6_ofChoice k i3 w4 0 σ).bind fun x3 =>
if x3 = p1 then (
jn_X6_leadingTo_46 k p1 i3 w4 w2 1 σ)
else (
jn_X6_leadingTo_46 k p1 i3 w4 w2 0 σ))
set_option maxRecDepth 100000 in
set_option maxHeartbeats 4000000 in
theorem lk_X6_leadingTo_17 {Γ : hb_Ctx} {G : hb_Gam} {Q : State → Prop} (X : hb_X Γ cX6_leadingTo 5 RX6 ΛM G 1 23)  (k : Nat) (hk : hb_is ΛM k 6) (p1 : Int32) (i3 : Int32) (w2 : Int32) (w4 : Int32) (σ : hb_Mem) {x : ((Int32 × Int32) ⊕ Int32)} (h : lb_X6_leadingTo_17 k p1 i3 w2 w4 σ = some x) (K : Sum.elim (fun s : (Int32 × Int32) => hb_W Γ ΛM G 5 Q σ [some (.ref (G.2.2.2 k)), some (.int p1), some (.int s.1), some (.int i3), some (.int s.2)] [] 17) (fun t : Int32 => hb_W Γ ΛM G 5 Q σ [some (.ref (G.2.2.2 k)), some (.int p1), some (.int t), some (.int i3), none] [] 54) x) : hb_W Γ ΛM G 5 Q σ [some (.ref (G.2.2.2 k)), some (.int p1), some (.int w2), some (.int i3), some (.int w4)] [] 17 := by
  unfold lb_X6_leadingTo_17 at h
  refine ww_iload 19 X dX6_leadingTo_17 rfl rfl ?_
  refine ww_aload_n 20 X dX6_leadingTo_19 rfl rfl ?_
  refine ww_iload_n 21 X dX6_leadingTo_20 rfl rfl ?_
  refine ww_iconst (v := 3) 22 X dX6_leadingTo_21 rfl (by decide) ?_
  obtain ⟨x2, hx2, h⟩ := hb_bind_of h
  refine ww_callV (ci := 6) (rest := [.int w4]) (st' := [.int x2, .int w4]) 25 X (ct_X6_of (hb_l Γ) G k hk i3 3 σ hx2) cw_X6_62 rfl (by decide) hk rfl ⟨by decide, by decide⟩ (Nat.le_of_ble_eq_true rfl) rfl rfl dX6_leadingTo_22 rfl ?_
  refine ww_icmp_ge 54 28 X dX6_leadingTo_25 (by decide) rfl h (fun h => ?_) (fun h => ?_)
  · skip
    obtain rfl := Option.some.inj h
    refine ww_kill [4] (L' := [some (.ref (G.2.2.2 k)), some (.int p1), some (.int w2), some (.int i3), none]) rfl ?_
    exact K
  · skip
    refine ww_iload_n 29 X dX6_leadingTo_28 rfl rfl ?_
    refine ww_aload_n 30 X dX6_leadingTo_29 rfl rfl ?_
    refine ww_iload_n 31 X dX6_leadingTo_30 rfl rfl ?_
    refine ww_iload 33 X dX6_leadingTo_31 rfl rfl ?_
    refine ww_iconst (v := 0) 34 X dX6_leadingTo_33 rfl (by decide) ?_
    obtain ⟨x3, hx3, h⟩ := hb_bind_of h
    refine ww_callV (ci := 6) (rest := [.int w2]) (st' := [.int x3, .int w2]) 37 X (ct_X6_ofChoice (hb_l Γ) G k hk i3 w4 0 σ hx3) cw_X6_58 rfl (by decide) hk rfl ⟨by decide, by decide⟩ (Nat.le_of_ble_eq_true rfl) rfl rfl dX6_leadingTo_34 rfl ?_
    refine ww_iload_n 38 X dX6_leadingTo_37 rfl rfl ?_
    refine ww_icmp_ne 45 41 X dX6_leadingTo_38 (by decide) rfl h (fun h => ?_) (fun h => ?_)
    · skip
      refine ww_iconst (v := 1) 42 X dX6_leadingTo_41 rfl (by decide) ?_
      refine ww_goto 46 X dX6_leadingTo_42 (by decide) ?_
      refine ww_kill [2] (L' := [some (.ref (G.2.2.2 k)), some (.int p1), none, some (.int i3), some (.int w4)]) rfl ?_
      exact jw_X6_leadingTo_46 X k hk p1 i3 w4 w2 1 σ h K
    · skip
      refine ww_iconst (v := 0) 46 X dX6_leadingTo_45 rfl (by decide) ?_
      refine ww_kill [2] (L' := [some (.ref (G.2.2.2 k)), some (.int p1), none, some (.int i3), some (.int w4)]) rfl ?_
      exact jw_X6_leadingTo_46 X k hk p1 i3 w4 w2 0 σ h K
def ll_X6_leadingTo_17 (k : Nat) (p1 : Int32) (i3 : Int32) (σ : hb_Mem) : (Int32 × Int32) → Option Int32 := hb_lp (fun s => lb_X6_leadingTo_17 k p1 i3 s.1 s.2 σ) hb_F
theorem lw_X6_leadingTo_17 {Γ : hb_Ctx} {G : hb_Gam} {Q : State → Prop} (X : hb_X Γ cX6_leadingTo 5 RX6 ΛM G 1 23)  (k : Nat) (hk : hb_is ΛM k 6) (p1 : Int32) (i3 : Int32) (σ : hb_Mem) (s : (Int32 × Int32)) (t : Int32) (h : ll_X6_leadingTo_17 k p1 i3 σ s = some t) (K : (fun t : Int32 => hb_W Γ ΛM G 5 Q σ [some (.ref (G.2.2.2 k)), some (.int p1), some (.int t), some (.int i3), none] [] 54) t) : hb_W Γ ΛM G 5 Q σ [some (.ref (G.2.2.2 k)), some (.int p1), some (.int s.1), some (.int i3), some (.int s.2)] [] 17 :=
  hb_lp_w (P := fun s : (Int32 × Int32) => hb_W Γ ΛM G 5 Q σ [some (.ref (G.2.2.2 k)), some (.int p1), some (.int s.1), some (.int i3), some (.int s.2)] [] 17) (E := (fun t : Int32 => hb_W Γ ΛM G 5 Q σ [some (.ref (G.2.2.2 k)), some (.int p1), some (.int t), some (.int i3), none] [] 54)) (fun s x hx K => lk_X6_leadingTo_17 X k hk p1 i3 s.1 s.2 σ hx K) _ s t h K
def lb_X6_leadingTo_4 (k : Nat) (p1 : Int32) (w2 : Int32) (w3 : Int32) (σ : hb_Mem) : Option ((Int32 × Int32) ⊕ Int32) :=
(hb_ld ΛM σ (hm_rf k 0) 0).bind fun v1 =>
if v1 ≤ w3 then (
some (.inr w2))
else (
(ll_X6_leadingTo_17 k p1 w3 σ (w2, 0)).bind fun t6 =>
hb_nm (w3 + 1) fun v7 =>
some (.inl (t6, v7)))
set_option maxRecDepth 100000 in
set_option maxHeartbeats 4000000 in
theorem lk_X6_leadingTo_4 {Γ : hb_Ctx} {G : hb_Gam} {Q : State → Prop} (X : hb_X Γ cX6_leadingTo 5 RX6 ΛM G 1 23)  (k : Nat) (hk : hb_is ΛM k 6) (p1 : Int32) (w2 : Int32) (w3 : Int32) (σ : hb_Mem) {x : ((Int32 × Int32) ⊕ Int32)} (h : lb_X6_leadingTo_4 k p1 w2 w3 σ = some x) (K : Sum.elim (fun s : (Int32 × Int32) => hb_W Γ ΛM G 5 Q σ [some (.ref (G.2.2.2 k)), some (.int p1), some (.int s.1), some (.int s.2), none] [] 4) (fun t : Int32 => hb_W Γ ΛM G 5 Q σ [none, none, some (.int t), none, none] [] 60) x) : hb_W Γ ΛM G 5 Q σ [some (.ref (G.2.2.2 k)), some (.int p1), some (.int w2), some (.int w3), none] [] 4 := by
  unfold lb_X6_leadingTo_4 at h
  refine ww_iload_n 5 X dX6_leadingTo_4 rfl rfl ?_
  refine ww_aload_n 6 X dX6_leadingTo_5 rfl rfl ?_
  refine ww_getr (ci := 6) (j := 0) 9 X cf_6 tw_X6_7 (by decide) rfl hk dX6_leadingTo_6 rfl ?_
  refine ww_iconst (v := 0) 10 X dX6_leadingTo_9 rfl (by decide) ?_
  obtain ⟨v1, hv1, h⟩ := hb_bind_of h
  refine ww_iald 11 X (hm_kr_6_0 hk) hv1 dX6_leadingTo_10 rfl ?_
  refine ww_icmp_ge 60 14 X dX6_leadingTo_11 (by decide) rfl h (fun h => ?_) (fun h => ?_)
  · skip
    obtain rfl := Option.some.inj h
    refine ww_kill [0, 1, 3] (L' := [none, none, some (.int w2), none, none]) rfl ?_
    exact K
  · skip
    refine ww_iconst (v := 0) 15 X dX6_leadingTo_14 rfl (by decide) ?_
    refine ww_istore 17 X (L' := [some (.ref (G.2.2.2 k)), some (.int p1), some (.int w2), some (.int w3), some (.int 0)]) dX6_leadingTo_15 rfl (Nat.le_of_ble_eq_true rfl) rfl ?_
    obtain ⟨t6, ht6, h⟩ := hb_bind_of h
    refine lw_X6_leadingTo_17 X k hk p1 w3 σ (w2, 0) t6 ht6 ?_
    obtain ⟨v7, ev7, h⟩ := hb_nm_of h
    refine ww_iinc 57 X (L' := [some (.ref (G.2.2.2 k)), some (.int p1), some (.int t6), some (.int v7), none]) dX6_leadingTo_54 rfl rfl ev7.symm rfl ?_
    refine ww_goto 4 X dX6_leadingTo_57 (by decide) ?_
    obtain rfl := Option.some.inj h
    exact K
def ll_X6_leadingTo_4 (k : Nat) (p1 : Int32) (σ : hb_Mem) : (Int32 × Int32) → Option Int32 := hb_lp (fun s => lb_X6_leadingTo_4 k p1 s.1 s.2 σ) hb_F
theorem lw_X6_leadingTo_4 {Γ : hb_Ctx} {G : hb_Gam} {Q : State → Prop} (X : hb_X Γ cX6_leadingTo 5 RX6 ΛM G 1 23)  (k : Nat) (hk : hb_is ΛM k 6) (p1 : Int32) (σ : hb_Mem) (s : (Int32 × Int32)) (t : Int32) (h : ll_X6_leadingTo_4 k p1 σ s = some t) (K : (fun t : Int32 => hb_W Γ ΛM G 5 Q σ [none, none, some (.int t), none, none] [] 60) t) : hb_W Γ ΛM G 5 Q σ [some (.ref (G.2.2.2 k)), some (.int p1), some (.int s.1), some (.int s.2), none] [] 4 :=
  hb_lp_w (P := fun s : (Int32 × Int32) => hb_W Γ ΛM G 5 Q σ [some (.ref (G.2.2.2 k)), some (.int p1), some (.int s.1), some (.int s.2), none] [] 4) (E := (fun t : Int32 => hb_W Γ ΛM G 5 Q σ [none, none, some (.int t), none, none] [] 60)) (fun s x hx K => lk_X6_leadingTo_4 X k hk p1 s.1 s.2 σ hx K) _ s t h K
def fn_X6_leadingTo (k : Nat) (p1 : Int32) (σ : hb_Mem) : Option Int32 :=
(ll_X6_leadingTo_4 k p1 σ (0, 0)).bind fun t8 =>
some t8
set_option maxRecDepth 100000 in
set_option maxHeartbeats 4000000 in
theorem wk_X6_leadingTo {Γ : hb_Ctx} {G : hb_Gam} {Q : State → Prop} (X : hb_X Γ cX6_leadingTo 5 RX6 ΛM G 1 23) (hr : hb_ret Γ = (some .int)) (k : Nat) (hk : hb_is ΛM k 6) (p1 : Int32) (σ : hb_Mem) {x : Int32} (h : fn_X6_leadingTo k p1 σ = some x) (K : Q = hb_Q Γ ΛM G (some (.int x)) σ) : hb_W Γ ΛM G 5 Q σ [some (.ref (G.2.2.2 k)), some (.int p1), none, none, none] [] 0 := by
  unfold fn_X6_leadingTo at h
  refine ww_iconst (v := 0) 1 X dX6_leadingTo_0 rfl (by decide) ?_
  refine ww_istore_n 2 X (L' := [some (.ref (G.2.2.2 k)), some (.int p1), some (.int 0), none, none]) dX6_leadingTo_1 rfl (Nat.le_of_ble_eq_true rfl) rfl ?_
  refine ww_iconst (v := 0) 3 X dX6_leadingTo_2 rfl (by decide) ?_
  refine ww_istore_n 4 X (L' := [some (.ref (G.2.2.2 k)), some (.int p1), some (.int 0), some (.int 0), none]) dX6_leadingTo_3 rfl (Nat.le_of_ble_eq_true rfl) rfl ?_
  obtain ⟨t8, ht8, h⟩ := hb_bind_of h
  refine lw_X6_leadingTo_4 X k hk p1 σ (0, 0) t8 ht8 ?_
  refine ww_iload_n 61 X dX6_leadingTo_60 rfl rfl ?_
  obtain rfl := Option.some.inj h
  exact ww_ret_i X hr K dX6_leadingTo_61
theorem ct_X6_leadingTo (l : Launch) (G : hb_Gam) (k : Nat) (hk : hb_is ΛM k 6) (p1 : Int32) (σ : hb_Mem) {x : Int32} (h : fn_X6_leadingTo k p1 σ = some x) : hb_C l yX6_leadingTo cX6_leadingTo 5 (some .int) 1 23 ΛM G [.ref (G.2.2.2 k), .int p1] σ (some (.int x)) σ :=
  hb_C.of [some (.ref (G.2.2.2 k)), some (.int p1), none, none, none] (by decide +kernel) (Nat.le_of_ble_eq_true rfl) (by intro v hv; simp only [List.mem_cons, List.not_mem_nil, or_false] at hv; rcases hv with rfl | rfl <;> rfl) rfl (hb_pad [.ref (G.2.2.2 k), .int p1] 3) (fun Γ X hr => wk_X6_leadingTo X hr k hk p1 σ h rfl)
def jn_X6_exchange_21 (k : Nat) (p1 : Int32) (p2 : Int32) (σ : hb_Mem) : Option (Int32 × hb_Mem) :=
(fn_X6_isPage k p1 σ).bind fun x2 =>
if x2 = 0 then (
some ((-1), σ))
else (
(fn_X6_isPage k p2 σ).bind fun x3 =>
if x3 = 0 then (
some ((-1), σ))
else (
some ((-5), σ)))
set_option maxRecDepth 100000 in
set_option maxHeartbeats 4000000 in
theorem jw_X6_exchange_21 {Γ : hb_Ctx} {G : hb_Gam} {Q : State → Prop} (X : hb_X Γ cX6_exchange 6 RX6 ΛM G 2 47) (hr : hb_ret Γ = (some .int)) (k : Nat) (hk : hb_is ΛM k 6) (p1 : Int32) (p2 : Int32) (σ : hb_Mem) {x : (Int32 × hb_Mem)} (h : jn_X6_exchange_21 k p1 p2 σ = some x) (K : Q = hb_Q Γ ΛM G (some (.int x.1)) x.2) : hb_W Γ ΛM G 6 Q σ [some (.ref (G.2.2.2 k)), some (.int p1), some (.int p2), none, none, none] [] 21 := by
  unfold jn_X6_exchange_21 at h
  refine ww_aload_n 22 X dX6_exchange_21 rfl rfl ?_
  refine ww_iload_n 23 X dX6_exchange_22 rfl rfl ?_
  obtain ⟨x2, hx2, h⟩ := hb_bind_of h
  refine ww_callV (ci := 6) (rest := []) (st' := [.int x2]) 26 X (ct_X6_isPage (hb_l Γ) G k hk p1 σ hx2) cw_X6_54 rfl (by decide) hk rfl ⟨by decide, by decide⟩ (Nat.le_of_ble_eq_true rfl) rfl rfl dX6_exchange_23 rfl ?_
  refine ww_if_eq 42 29 X dX6_exchange_26 (by decide) rfl h (fun h => ?_) (fun h => ?_)
  · skip
    refine ww_iconst (v := (-1)) 43 X dX6_exchange_42 rfl (by decide) ?_
    obtain rfl := Option.some.inj h
    exact ww_ret_i X hr K dX6_exchange_43
  · skip
    refine ww_aload_n 30 X dX6_exchange_29 rfl rfl ?_
    refine ww_iload_n 31 X dX6_exchange_30 rfl rfl ?_
    obtain ⟨x3, hx3, h⟩ := hb_bind_of h
    refine ww_callV (ci := 6) (rest := []) (st' := [.int x3]) 34 X (ct_X6_isPage (hb_l Γ) G k hk p2 σ hx3) cw_X6_54 rfl (by decide) hk rfl ⟨by decide, by decide⟩ (Nat.le_of_ble_eq_true rfl) rfl rfl dX6_exchange_31 rfl ?_
    refine ww_if_eq 42 37 X dX6_exchange_34 (by decide) rfl h (fun h => ?_) (fun h => ?_)
    · skip
      refine ww_iconst (v := (-1)) 43 X dX6_exchange_42 rfl (by decide) ?_
      obtain rfl := Option.some.inj h
      exact ww_ret_i X hr K dX6_exchange_43
    · skip
      refine ww_bipush (v := (-5)) 39 X dX6_exchange_37 rfl (by decide) ?_
      refine ww_goto 43 X dX6_exchange_39 (by decide) ?_
      obtain rfl := Option.some.inj h
      exact ww_ret_i X hr K dX6_exchange_43
def lb_X6_exchange_63 (k : Nat) (p1 : Int32) (p2 : Int32) (i3 : Int32) (w4 : Int32) (σ : hb_Mem) : Option ((Int32 × hb_Mem) ⊕ hb_Mem) :=
if 13 ≤ w4 then (
some (.inr σ))
else (
(fn_X6_of k p1 w4 σ).bind fun x9 =>
(fn_X6_of k p2 w4 σ).bind fun x10 =>
(hb_st ΛM σ (hm_rf k 0) (((1 : Int32) + ((13 : Int32) * p1)) + w4) x10).bind fun σ11 =>
(hb_st ΛM σ11 (hm_rf k 0) (((1 : Int32) + ((13 : Int32) * p2)) + w4) x9).bind fun σ12 =>
hb_nm (w4 + 1) fun v13 =>
some (.inl (v13, σ12)))
set_option maxRecDepth 100000 in
set_option maxHeartbeats 4000000 in
theorem lk_X6_exchange_63 {Γ : hb_Ctx} {G : hb_Gam} {Q : State → Prop} (X : hb_X Γ cX6_exchange 6 RX6 ΛM G 2 47)  (k : Nat) (hk : hb_is ΛM k 6) (p1 : Int32) (p2 : Int32) (i3 : Int32) (w4 : Int32) (σ : hb_Mem) {x : ((Int32 × hb_Mem) ⊕ hb_Mem)} (h : lb_X6_exchange_63 k p1 p2 i3 w4 σ = some x) (K : Sum.elim (fun s : (Int32 × hb_Mem) => hb_W Γ ΛM G 6 Q s.2 [some (.ref (G.2.2.2 k)), some (.int p1), some (.int p2), some (.int i3), some (.int s.1), none] [] 63) (fun t : hb_Mem => hb_W Γ ΛM G 6 Q t [some (.ref (G.2.2.2 k)), some (.int p1), some (.int p2), some (.int i3), none, none] [] 122) x) : hb_W Γ ΛM G 6 Q σ [some (.ref (G.2.2.2 k)), some (.int p1), some (.int p2), some (.int i3), some (.int w4), none] [] 63 := by
  unfold lb_X6_exchange_63 at h
  refine ww_iload 65 X dX6_exchange_63 rfl rfl ?_
  refine ww_bipush (v := 13) 67 X dX6_exchange_65 rfl (by decide) ?_
  refine ww_icmp_ge 122 70 X dX6_exchange_67 (by decide) rfl h (fun h => ?_) (fun h => ?_)
  · skip
    obtain rfl := Option.some.inj h
    refine ww_kill [4] (L' := [some (.ref (G.2.2.2 k)), some (.int p1), some (.int p2), some (.int i3), none, none]) rfl ?_
    exact K
  · skip
    refine ww_aload_n 71 X dX6_exchange_70 rfl rfl ?_
    refine ww_iload_n 72 X dX6_exchange_71 rfl rfl ?_
    refine ww_iload 74 X dX6_exchange_72 rfl rfl ?_
    obtain ⟨x9, hx9, h⟩ := hb_bind_of h
    refine ww_callV (ci := 6) (rest := []) (st' := [.int x9]) 77 X (ct_X6_of (hb_l Γ) G k hk p1 w4 σ hx9) cw_X6_62 rfl (by decide) hk rfl ⟨by decide, by decide⟩ (Nat.le_of_ble_eq_true rfl) rfl rfl dX6_exchange_74 rfl ?_
    refine ww_istore 79 X (L' := [some (.ref (G.2.2.2 k)), some (.int p1), some (.int p2), some (.int i3), some (.int w4), some (.int x9)]) dX6_exchange_77 rfl (Nat.le_of_ble_eq_true rfl) rfl ?_
    refine ww_aload_n 80 X dX6_exchange_79 rfl rfl ?_
    refine ww_getr (ci := 6) (j := 0) 83 X cf_6 tw_X6_7 (by decide) rfl hk dX6_exchange_80 rfl ?_
    refine ww_iconst (v := 1) 84 X dX6_exchange_83 rfl (by decide) ?_
    refine ww_bipush (v := 13) 86 X dX6_exchange_84 rfl (by decide) ?_
    refine ww_iload_n 87 X dX6_exchange_86 rfl rfl ?_
    refine ww_imul 88 X dX6_exchange_87 rfl ?_
    refine ww_iadd 89 X dX6_exchange_88 rfl ?_
    refine ww_iload 91 X dX6_exchange_89 rfl rfl ?_
    refine ww_iadd 92 X dX6_exchange_91 rfl ?_
    refine ww_aload_n 93 X dX6_exchange_92 rfl rfl ?_
    refine ww_iload_n 94 X dX6_exchange_93 rfl rfl ?_
    refine ww_iload 96 X dX6_exchange_94 rfl rfl ?_
    obtain ⟨x10, hx10, h⟩ := hb_bind_of h
    refine ww_callV (ci := 6) (rest := [.int (((1 : Int32) + ((13 : Int32) * p1)) + w4), .ref (G.2.2.2 (hm_rf k 0))]) (st' := [.int x10, .int (((1 : Int32) + ((13 : Int32) * p1)) + w4), .ref (G.2.2.2 (hm_rf k 0))]) 99 X (ct_X6_of (hb_l Γ) G k hk p2 w4 σ hx10) cw_X6_62 rfl (by decide) hk rfl ⟨by decide, by decide⟩ (Nat.le_of_ble_eq_true rfl) rfl rfl dX6_exchange_96 rfl ?_
    obtain ⟨σ11, hσ11, h⟩ := hb_bind_of h
    refine ww_iast 100 X (hm_kr_6_0 hk) hσ11 dX6_exchange_99 rfl ?_
    refine ww_aload_n 101 X dX6_exchange_100 rfl rfl ?_
    refine ww_getr (ci := 6) (j := 0) 104 X cf_6 tw_X6_7 (by decide) rfl hk dX6_exchange_101 rfl ?_
    refine ww_iconst (v := 1) 105 X dX6_exchange_104 rfl (by decide) ?_
    refine ww_bipush (v := 13) 107 X dX6_exchange_105 rfl (by decide) ?_
    refine ww_iload_n 108 X dX6_exchange_107 rfl rfl ?_
    refine ww_imul 109 X dX6_exchange_108 rfl ?_
    refine ww_iadd 110 X dX6_exchange_109 rfl ?_
    refine ww_iload 112 X dX6_exchange_110 rfl rfl ?_
    refine ww_iadd 113 X dX6_exchange_112 rfl ?_
    refine ww_iload 115 X dX6_exchange_113 rfl rfl ?_
    obtain ⟨σ12, hσ12, h⟩ := hb_bind_of h
    refine ww_iast 116 X (hm_kr_6_0 hk) hσ12 dX6_exchange_115 rfl ?_
    obtain ⟨v13, ev13, h⟩ := hb_nm_of h
    refine ww_iinc 119 X (L' := [some (.ref (G.2.2.2 k)), some (.int p1), some (.int p2), some (.int i3), some (.int v13), some (.int x9)]) dX6_exchange_116 rfl rfl ev13.symm rfl ?_
    refine ww_goto 63 X dX6_exchange_119 (by decide) ?_
    obtain rfl := Option.some.inj h
    refine ww_kill [5] (L' := [some (.ref (G.2.2.2 k)), some (.int p1), some (.int p2), some (.int i3), some (.int v13), none]) rfl ?_
    exact K
def ll_X6_exchange_63 (k : Nat) (p1 : Int32) (p2 : Int32) (i3 : Int32) : (Int32 × hb_Mem) → Option hb_Mem := hb_lp (fun s => lb_X6_exchange_63 k p1 p2 i3 s.1 s.2) hb_F
theorem lw_X6_exchange_63 {Γ : hb_Ctx} {G : hb_Gam} {Q : State → Prop} (X : hb_X Γ cX6_exchange 6 RX6 ΛM G 2 47)  (k : Nat) (hk : hb_is ΛM k 6) (p1 : Int32) (p2 : Int32) (i3 : Int32) (s : (Int32 × hb_Mem)) (t : hb_Mem) (h : ll_X6_exchange_63 k p1 p2 i3 s = some t) (K : (fun t : hb_Mem => hb_W Γ ΛM G 6 Q t [some (.ref (G.2.2.2 k)), some (.int p1), some (.int p2), some (.int i3), none, none] [] 122) t) : hb_W Γ ΛM G 6 Q s.2 [some (.ref (G.2.2.2 k)), some (.int p1), some (.int p2), some (.int i3), some (.int s.1), none] [] 63 :=
  hb_lp_w (P := fun s : (Int32 × hb_Mem) => hb_W Γ ΛM G 6 Q s.2 [some (.ref (G.2.2.2 k)), some (.int p1), some (.int p2), some (.int i3), some (.int s.1), none] [] 63) (E := (fun t : hb_Mem => hb_W Γ ΛM G 6 Q t [some (.ref (G.2.2.2 k)), some (.int p1), some (.int p2), some (.int i3), none, none] [] 122)) (fun s x hx K => lk_X6_exchange_63 X k hk p1 p2 i3 s.1 s.2 hx K) _ s t h K
def lb_X6_exchange_139 (k : Nat) (p1 : Int32) (p2 : Int32) (i3 : Int32) (i4 : Int32) (w5 : Int32) (σ : hb_Mem) : Option ((Int32 × hb_Mem) ⊕ hb_Mem) :=
(fn_X6_of k i4 3 σ).bind fun x16 =>
if x16 ≤ w5 then (
some (.inr σ))
else (
(fn_X6_ofChoice k i4 w5 0 σ).bind fun x17 =>
(fn_X6_other x17 p1 p2).bind fun x18 =>
(hb_st ΛM σ (hm_rf k 0) (((((1 : Int32) + ((13 : Int32) * i4)) + 4) + ((3 : Int32) * w5)) + 0) x18).bind fun σ19 =>
hb_nm (w5 + 1) fun v20 =>
some (.inl (v20, σ19)))
set_option maxRecDepth 100000 in
set_option maxHeartbeats 4000000 in
theorem lk_X6_exchange_139 {Γ : hb_Ctx} {G : hb_Gam} {Q : State → Prop} (X : hb_X Γ cX6_exchange 6 RX6 ΛM G 2 47)  (k : Nat) (hk : hb_is ΛM k 6) (p1 : Int32) (p2 : Int32) (i3 : Int32) (i4 : Int32) (w5 : Int32) (σ : hb_Mem) {x : ((Int32 × hb_Mem) ⊕ hb_Mem)} (h : lb_X6_exchange_139 k p1 p2 i3 i4 w5 σ = some x) (K : Sum.elim (fun s : (Int32 × hb_Mem) => hb_W Γ ΛM G 6 Q s.2 [some (.ref (G.2.2.2 k)), some (.int p1), some (.int p2), some (.int i3), some (.int i4), some (.int s.1)] [] 139) (fun t : hb_Mem => hb_W Γ ΛM G 6 Q t [some (.ref (G.2.2.2 k)), some (.int p1), some (.int p2), some (.int i3), some (.int i4), none] [] 192) x) : hb_W Γ ΛM G 6 Q σ [some (.ref (G.2.2.2 k)), some (.int p1), some (.int p2), some (.int i3), some (.int i4), some (.int w5)] [] 139 := by
  unfold lb_X6_exchange_139 at h
  refine ww_iload 141 X dX6_exchange_139 rfl rfl ?_
  refine ww_aload_n 142 X dX6_exchange_141 rfl rfl ?_
  refine ww_iload 144 X dX6_exchange_142 rfl rfl ?_
  refine ww_iconst (v := 3) 145 X dX6_exchange_144 rfl (by decide) ?_
  obtain ⟨x16, hx16, h⟩ := hb_bind_of h
  refine ww_callV (ci := 6) (rest := [.int w5]) (st' := [.int x16, .int w5]) 148 X (ct_X6_of (hb_l Γ) G k hk i4 3 σ hx16) cw_X6_62 rfl (by decide) hk rfl ⟨by decide, by decide⟩ (Nat.le_of_ble_eq_true rfl) rfl rfl dX6_exchange_145 rfl ?_
  refine ww_icmp_ge 192 151 X dX6_exchange_148 (by decide) rfl h (fun h => ?_) (fun h => ?_)
  · skip
    obtain rfl := Option.some.inj h
    refine ww_kill [5] (L' := [some (.ref (G.2.2.2 k)), some (.int p1), some (.int p2), some (.int i3), some (.int i4), none]) rfl ?_
    exact K
  · skip
    refine ww_aload_n 152 X dX6_exchange_151 rfl rfl ?_
    refine ww_getr (ci := 6) (j := 0) 155 X cf_6 tw_X6_7 (by decide) rfl hk dX6_exchange_152 rfl ?_
    refine ww_iconst (v := 1) 156 X dX6_exchange_155 rfl (by decide) ?_
    refine ww_bipush (v := 13) 158 X dX6_exchange_156 rfl (by decide) ?_
    refine ww_iload 160 X dX6_exchange_158 rfl rfl ?_
    refine ww_imul 161 X dX6_exchange_160 rfl ?_
    refine ww_iadd 162 X dX6_exchange_161 rfl ?_
    refine ww_iconst (v := 4) 163 X dX6_exchange_162 rfl (by decide) ?_
    refine ww_iadd 164 X dX6_exchange_163 rfl ?_
    refine ww_iconst (v := 3) 165 X dX6_exchange_164 rfl (by decide) ?_
    refine ww_iload 167 X dX6_exchange_165 rfl rfl ?_
    refine ww_imul 168 X dX6_exchange_167 rfl ?_
    refine ww_iadd 169 X dX6_exchange_168 rfl ?_
    refine ww_iconst (v := 0) 170 X dX6_exchange_169 rfl (by decide) ?_
    refine ww_iadd 171 X dX6_exchange_170 rfl ?_
    refine ww_aload_n 172 X dX6_exchange_171 rfl rfl ?_
    refine ww_iload 174 X dX6_exchange_172 rfl rfl ?_
    refine ww_iload 176 X dX6_exchange_174 rfl rfl ?_
    refine ww_iconst (v := 0) 177 X dX6_exchange_176 rfl (by decide) ?_
    obtain ⟨x17, hx17, h⟩ := hb_bind_of h
    refine ww_callV (ci := 6) (rest := [.int (((((1 : Int32) + ((13 : Int32) * i4)) + 4) + ((3 : Int32) * w5)) + 0), .ref (G.2.2.2 (hm_rf k 0))]) (st' := [.int x17, .int (((((1 : Int32) + ((13 : Int32) * i4)) + 4) + ((3 : Int32) * w5)) + 0), .ref (G.2.2.2 (hm_rf k 0))]) 180 X (ct_X6_ofChoice (hb_l Γ) G k hk i4 w5 0 σ hx17) cw_X6_58 rfl (by decide) hk rfl ⟨by decide, by decide⟩ (Nat.le_of_ble_eq_true rfl) rfl rfl dX6_exchange_177 rfl ?_
    refine ww_iload_n 181 X dX6_exchange_180 rfl rfl ?_
    refine ww_iload_n 182 X dX6_exchange_181 rfl rfl ?_
    obtain ⟨x18, hx18, h⟩ := hb_bind_of h
    refine ww_callS (rest := [.int (((((1 : Int32) + ((13 : Int32) * i4)) + 4) + ((3 : Int32) * w5)) + 0), .ref (G.2.2.2 (hm_rf k 0))]) (st' := [.int x18, .int (((((1 : Int32) + ((13 : Int32) * i4)) + 4) + ((3 : Int32) * w5)) + 0), .ref (G.2.2.2 (hm_rf k 0))]) 185 X (ct_X6_other (hb_l Γ) G x17 p1 p2 σ hx18) cw_X6_132 rfl ⟨by decide, by decide⟩ (Nat.le_of_ble_eq_true rfl) rfl rfl dX6_exchange_182 rfl ?_
    obtain ⟨σ19, hσ19, h⟩ := hb_bind_of h
    refine ww_iast 186 X (hm_kr_6_0 hk) hσ19 dX6_exchange_185 rfl ?_
    obtain ⟨v20, ev20, h⟩ := hb_nm_of h
    refine ww_iinc 189 X (L' := [some (.ref (G.2.2.2 k)), some (.int p1), some (.int p2), some (.int i3), some (.int i4), some (.int v20)]) dX6_exchange_186 rfl rfl ev20.symm rfl ?_
    refine ww_goto 139 X dX6_exchange_189 (by decide) ?_
    obtain rfl := Option.some.inj h
    exact K
def ll_X6_exchange_139 (k : Nat) (p1 : Int32) (p2 : Int32) (i3 : Int32) (i4 : Int32) : (Int32 × hb_Mem) → Option hb_Mem := hb_lp (fun s => lb_X6_exchange_139 k p1 p2 i3 i4 s.1 s.2) hb_F
theorem lw_X6_exchange_139 {Γ : hb_Ctx} {G : hb_Gam} {Q : State → Prop} (X : hb_X Γ cX6_exchange 6 RX6 ΛM G 2 47)  (k : Nat) (hk : hb_is ΛM k 6) (p1 : Int32) (p2 : Int32) (i3 : Int32) (i4 : Int32) (s : (Int32 × hb_Mem)) (t : hb_Mem) (h : ll_X6_exchange_139 k p1 p2 i3 i4 s = some t) (K : (fun t : hb_Mem => hb_W Γ ΛM G 6 Q t [some (.ref (G.2.2.2 k)), some (.int p1), some (.int p2), some (.int i3), some (.int i4), none] [] 192) t) : hb_W Γ ΛM G 6 Q s.2 [some (.ref (G.2.2.2 k)), some (.int p1), some (.int p2), some (.int i3), some (.int i4), some (.int s.1)] [] 139 :=
  hb_lp_w (P := fun s : (Int32 × hb_Mem) => hb_W Γ ΛM G 6 Q s.2 [some (.ref (G.2.2.2 k)), some (.int p1), some (.int p2), some (.int i3), some (.int i4), some (.int s.1)] [] 139) (E := (fun t : hb_Mem => hb_W Γ ΛM G 6 Q t [some (.ref (G.2.2.2 k)), some (.int p1), some (.int p2), some (.int i3), some (.int i4), none] [] 192)) (fun s x hx K => lk_X6_exchange_139 X k hk p1 p2 i3 i4 s.1 s.2 hx K) _ s t h K
def lb_X6_exchange_125 (k : Nat) (p1 : Int32) (p2 : Int32) (i3 : Int32) (w4 : Int32) (σ : hb_Mem) : Option ((Int32 × hb_Mem) ⊕ hb_Mem) :=
(hb_ld ΛM σ (hm_rf k 0) 0).bind fun v15 =>
if v15 ≤ w4 then (
some (.inr σ))
else (
(ll_X6_exchange_139 k p1 p2 i3 w4 (0, σ)).bind fun t21 =>
hb_nm (w4 + 1) fun v22 =>
some (.inl (v22, t21)))
set_option maxRecDepth 100000 in
set_option maxHeartbeats 4000000 in
theorem lk_X6_exchange_125 {Γ : hb_Ctx} {G : hb_Gam} {Q : State → Prop} (X : hb_X Γ cX6_exchange 6 RX6 ΛM G 2 47)  (k : Nat) (hk : hb_is ΛM k 6) (p1 : Int32) (p2 : Int32) (i3 : Int32) (w4 : Int32) (σ : hb_Mem) {x : ((Int32 × hb_Mem) ⊕ hb_Mem)} (h : lb_X6_exchange_125 k p1 p2 i3 w4 σ = some x) (K : Sum.elim (fun s : (Int32 × hb_Mem) => hb_W Γ ΛM G 6 Q s.2 [some (.ref (G.2.2.2 k)), some (.int p1), some (.int p2), some (.int i3), some (.int s.1), none] [] 125) (fun t : hb_Mem => hb_W Γ ΛM G 6 Q t [some (.ref (G.2.2.2 k)), some (.int p1), some (.int p2), some (.int i3), none, none] [] 198) x) : hb_W Γ ΛM G 6 Q σ [some (.ref (G.2.2.2 k)), some (.int p1), some (.int p2), some (.int i3), some (.int w4), none] [] 125 := by
  unfold lb_X6_exchange_125 at h
  refine ww_iload 127 X dX6_exchange_125 rfl rfl ?_
  refine ww_aload_n 128 X dX6_exchange_127 rfl rfl ?_
  refine ww_getr (ci := 6) (j := 0) 131 X cf_6 tw_X6_7 (by decide) rfl hk dX6_exchange_128 rfl ?_
  refine ww_iconst (v := 0) 132 X dX6_exchange_131 rfl (by decide) ?_
  obtain ⟨v15, hv15, h⟩ := hb_bind_of h
  refine ww_iald 133 X (hm_kr_6_0 hk) hv15 dX6_exchange_132 rfl ?_
  refine ww_icmp_ge 198 136 X dX6_exchange_133 (by decide) rfl h (fun h => ?_) (fun h => ?_)
  · skip
    obtain rfl := Option.some.inj h
    refine ww_kill [4] (L' := [some (.ref (G.2.2.2 k)), some (.int p1), some (.int p2), some (.int i3), none, none]) rfl ?_
    exact K
  · skip
    refine ww_iconst (v := 0) 137 X dX6_exchange_136 rfl (by decide) ?_
    refine ww_istore 139 X (L' := [some (.ref (G.2.2.2 k)), some (.int p1), some (.int p2), some (.int i3), some (.int w4), some (.int 0)]) dX6_exchange_137 rfl (Nat.le_of_ble_eq_true rfl) rfl ?_
    obtain ⟨t21, ht21, h⟩ := hb_bind_of h
    refine lw_X6_exchange_139 X k hk p1 p2 i3 w4 (0, σ) t21 ht21 ?_
    obtain ⟨v22, ev22, h⟩ := hb_nm_of h
    refine ww_iinc 195 X (L' := [some (.ref (G.2.2.2 k)), some (.int p1), some (.int p2), some (.int i3), some (.int v22), none]) dX6_exchange_192 rfl rfl ev22.symm rfl ?_
    refine ww_goto 125 X dX6_exchange_195 (by decide) ?_
    obtain rfl := Option.some.inj h
    exact K
def ll_X6_exchange_125 (k : Nat) (p1 : Int32) (p2 : Int32) (i3 : Int32) : (Int32 × hb_Mem) → Option hb_Mem := hb_lp (fun s => lb_X6_exchange_125 k p1 p2 i3 s.1 s.2) hb_F
theorem lw_X6_exchange_125 {Γ : hb_Ctx} {G : hb_Gam} {Q : State → Prop} (X : hb_X Γ cX6_exchange 6 RX6 ΛM G 2 47)  (k : Nat) (hk : hb_is ΛM k 6) (p1 : Int32) (p2 : Int32) (i3 : Int32) (s : (Int32 × hb_Mem)) (t : hb_Mem) (h : ll_X6_exchange_125 k p1 p2 i3 s = some t) (K : (fun t : hb_Mem => hb_W Γ ΛM G 6 Q t [some (.ref (G.2.2.2 k)), some (.int p1), some (.int p2), some (.int i3), none, none] [] 198) t) : hb_W Γ ΛM G 6 Q s.2 [some (.ref (G.2.2.2 k)), some (.int p1), some (.int p2), some (.int i3), some (.int s.1), none] [] 125 :=
  hb_lp_w (P := fun s : (Int32 × hb_Mem) => hb_W Γ ΛM G 6 Q s.2 [some (.ref (G.2.2.2 k)), some (.int p1), some (.int p2), some (.int i3), some (.int s.1), none] [] 125) (E := (fun t : hb_Mem => hb_W Γ ΛM G 6 Q t [some (.ref (G.2.2.2 k)), some (.int p1), some (.int p2), some (.int i3), none, none] [] 198)) (fun s x hx K => lk_X6_exchange_125 X k hk p1 p2 i3 s.1 s.2 hx K) _ s t h K
def fn_X6_exchange (k : Nat) (p1 : Int32) (p2 : Int32) (σ : hb_Mem) : Option (Int32 × hb_Mem) :=
(fn_X6_isPage k p1 σ).bind fun x1 =>
if x1 = 0 then (
jn_X6_exchange_21 k p1 p2 σ)
else (
(fn_X6_isPage k p2 σ).bind fun x4 =>
if x4 = 0 then (
jn_X6_exchange_21 k p1 p2 σ)
else (
if p1 = p2 then (
jn_X6_exchange_21 k p1 p2 σ)
else (
(fn_X6_records k σ).bind fun x5 =>
(fn_X6_leadingTo k p1 x5).bind fun x6 =>
(fn_X6_leadingTo k p2 x5).bind fun x7 =>
hb_nm (x6 + x7) fun v8 =>
(ll_X6_exchange_63 k p1 p2 v8 (0, x5)).bind fun t14 =>
(ll_X6_exchange_125 k p1 p2 v8 (0, t14)).bind fun t23 =>
(hb_ld ΛM t23 (hm_rf k 0) 417).bind fun v24 =>
(fn_X6_other v24 p1 p2).bind fun x25 =>
(hb_st ΛM t23 (hm_rf k 0) 417 x25).bind fun σ26 =>
(hb_ld ΛM σ26 (hm_rf k 0) 420).bind fun v27 =>
(fn_X6_other v27 p1 p2).bind fun x28 =>
(hb_st ΛM σ26 (hm_rf k 0) 420 x28).bind fun σ29 =>
(hb_ld ΛM σ29 (hm_rf k 0) 423).bind fun v30 =>
(fn_X6_other v30 p1 p2).bind fun x31 =>
(hb_st ΛM σ29 (hm_rf k 0) 423 x31).bind fun σ32 =>
some (v8, σ32))))
set_option maxRecDepth 100000 in
set_option maxHeartbeats 4000000 in
theorem wk_X6_exchange {Γ : hb_Ctx} {G : hb_Gam} {Q : State → Prop} (X : hb_X Γ cX6_exchange 6 RX6 ΛM G 2 47) (hr : hb_ret Γ = (some .int)) (k : Nat) (hk : hb_is ΛM k 6) (p1 : Int32) (p2 : Int32) (σ : hb_Mem) {x : (Int32 × hb_Mem)} (h : fn_X6_exchange k p1 p2 σ = some x) (K : Q = hb_Q Γ ΛM G (some (.int x.1)) x.2) : hb_W Γ ΛM G 6 Q σ [some (.ref (G.2.2.2 k)), some (.int p1), some (.int p2), none, none, none] [] 0 := by
  unfold fn_X6_exchange at h
  refine ww_aload_n 1 X dX6_exchange_0 rfl rfl ?_
  refine ww_iload_n 2 X dX6_exchange_1 rfl rfl ?_
  obtain ⟨x1, hx1, h⟩ := hb_bind_of h
  refine ww_callV (ci := 6) (rest := []) (st' := [.int x1]) 5 X (ct_X6_isPage (hb_l Γ) G k hk p1 σ hx1) cw_X6_54 rfl (by decide) hk rfl ⟨by decide, by decide⟩ (Nat.le_of_ble_eq_true rfl) rfl rfl dX6_exchange_2 rfl ?_
  refine ww_if_eq 21 8 X dX6_exchange_5 (by decide) rfl h (fun h => ?_) (fun h => ?_)
  · skip
    exact jw_X6_exchange_21 X hr k hk p1 p2 σ h K
  · skip
    refine ww_aload_n 9 X dX6_exchange_8 rfl rfl ?_
    refine ww_iload_n 10 X dX6_exchange_9 rfl rfl ?_
    obtain ⟨x4, hx4, h⟩ := hb_bind_of h
    refine ww_callV (ci := 6) (rest := []) (st' := [.int x4]) 13 X (ct_X6_isPage (hb_l Γ) G k hk p2 σ hx4) cw_X6_54 rfl (by decide) hk rfl ⟨by decide, by decide⟩ (Nat.le_of_ble_eq_true rfl) rfl rfl dX6_exchange_10 rfl ?_
    refine ww_if_eq 21 16 X dX6_exchange_13 (by decide) rfl h (fun h => ?_) (fun h => ?_)
    · skip
      exact jw_X6_exchange_21 X hr k hk p1 p2 σ h K
    · skip
      refine ww_iload_n 17 X dX6_exchange_16 rfl rfl ?_
      refine ww_iload_n 18 X dX6_exchange_17 rfl rfl ?_
      refine ww_icmp_ne 44 21 X dX6_exchange_18 (by decide) rfl h (fun h => ?_) (fun h => ?_)
      · skip
        exact jw_X6_exchange_21 X hr k hk p1 p2 σ h K
      · skip
        refine ww_aload_n 45 X dX6_exchange_44 rfl rfl ?_
        obtain ⟨x5, hx5, h⟩ := hb_bind_of h
        refine ww_callV (ci := 6) (rest := []) (st' := []) 48 X (ct_X6_records (hb_l Γ) G k hk σ hx5) cw_X6_114 rfl (by decide) hk rfl ⟨by decide, by decide⟩ (Nat.le_of_ble_eq_true rfl) rfl rfl dX6_exchange_45 rfl ?_
        refine ww_aload_n 49 X dX6_exchange_48 rfl rfl ?_
        refine ww_iload_n 50 X dX6_exchange_49 rfl rfl ?_
        obtain ⟨x6, hx6, h⟩ := hb_bind_of h
        refine ww_callV (ci := 6) (rest := []) (st' := [.int x6]) 53 X (ct_X6_leadingTo (hb_l Γ) G k hk p1 x5 hx6) cw_X6_128 rfl (by decide) hk rfl ⟨by decide, by decide⟩ (Nat.le_of_ble_eq_true rfl) rfl rfl dX6_exchange_50 rfl ?_
        refine ww_aload_n 54 X dX6_exchange_53 rfl rfl ?_
        refine ww_iload_n 55 X dX6_exchange_54 rfl rfl ?_
        obtain ⟨x7, hx7, h⟩ := hb_bind_of h
        refine ww_callV (ci := 6) (rest := [.int x6]) (st' := [.int x7, .int x6]) 58 X (ct_X6_leadingTo (hb_l Γ) G k hk p2 x5 hx7) cw_X6_128 rfl (by decide) hk rfl ⟨by decide, by decide⟩ (Nat.le_of_ble_eq_true rfl) rfl rfl dX6_exchange_55 rfl ?_
        refine ww_iadd 59 X dX6_exchange_58 rfl ?_
        obtain ⟨v8, ev8, h⟩ := hb_nm_of h
        rw [← ev8]
        refine ww_istore_n 60 X (L' := [some (.ref (G.2.2.2 k)), some (.int p1), some (.int p2), some (.int v8), none, none]) dX6_exchange_59 rfl (Nat.le_of_ble_eq_true rfl) rfl ?_
        refine ww_iconst (v := 0) 61 X dX6_exchange_60 rfl (by decide) ?_
        refine ww_istore 63 X (L' := [some (.ref (G.2.2.2 k)), some (.int p1), some (.int p2), some (.int v8), some (.int 0), none]) dX6_exchange_61 rfl (Nat.le_of_ble_eq_true rfl) rfl ?_
        obtain ⟨t14, ht14, h⟩ := hb_bind_of h
        refine lw_X6_exchange_63 X k hk p1 p2 v8 (0, x5) t14 ht14 ?_
        refine ww_iconst (v := 0) 123 X dX6_exchange_122 rfl (by decide) ?_
        refine ww_istore 125 X (L' := [some (.ref (G.2.2.2 k)), some (.int p1), some (.int p2), some (.int v8), some (.int 0), none]) dX6_exchange_123 rfl (Nat.le_of_ble_eq_true rfl) rfl ?_
        obtain ⟨t23, ht23, h⟩ := hb_bind_of h
        refine lw_X6_exchange_125 X k hk p1 p2 v8 (0, t14) t23 ht23 ?_
        refine ww_aload_n 199 X dX6_exchange_198 rfl rfl ?_
        refine ww_getr (ci := 6) (j := 0) 202 X cf_6 tw_X6_7 (by decide) rfl hk dX6_exchange_199 rfl ?_
        refine ww_sipush (v := 417) 205 X dX6_exchange_202 rfl (by decide) ?_
        refine ww_aload_n 206 X dX6_exchange_205 rfl rfl ?_
        refine ww_getr (ci := 6) (j := 0) 209 X cf_6 tw_X6_7 (by decide) rfl hk dX6_exchange_206 rfl ?_
        refine ww_sipush (v := 417) 212 X dX6_exchange_209 rfl (by decide) ?_
        obtain ⟨v24, hv24, h⟩ := hb_bind_of h
        refine ww_iald 213 X (hm_kr_6_0 hk) hv24 dX6_exchange_212 rfl ?_
        refine ww_iload_n 214 X dX6_exchange_213 rfl rfl ?_
        refine ww_iload_n 215 X dX6_exchange_214 rfl rfl ?_
        obtain ⟨x25, hx25, h⟩ := hb_bind_of h
        refine ww_callS (rest := [.int 417, .ref (G.2.2.2 (hm_rf k 0))]) (st' := [.int x25, .int 417, .ref (G.2.2.2 (hm_rf k 0))]) 218 X (ct_X6_other (hb_l Γ) G v24 p1 p2 t23 hx25) cw_X6_132 rfl ⟨by decide, by decide⟩ (Nat.le_of_ble_eq_true rfl) rfl rfl dX6_exchange_215 rfl ?_
        obtain ⟨σ26, hσ26, h⟩ := hb_bind_of h
        refine ww_iast 219 X (hm_kr_6_0 hk) hσ26 dX6_exchange_218 rfl ?_
        refine ww_aload_n 220 X dX6_exchange_219 rfl rfl ?_
        refine ww_getr (ci := 6) (j := 0) 223 X cf_6 tw_X6_7 (by decide) rfl hk dX6_exchange_220 rfl ?_
        refine ww_sipush (v := 420) 226 X dX6_exchange_223 rfl (by decide) ?_
        refine ww_aload_n 227 X dX6_exchange_226 rfl rfl ?_
        refine ww_getr (ci := 6) (j := 0) 230 X cf_6 tw_X6_7 (by decide) rfl hk dX6_exchange_227 rfl ?_
        refine ww_sipush (v := 420) 233 X dX6_exchange_230 rfl (by decide) ?_
        obtain ⟨v27, hv27, h⟩ := hb_bind_of h
        refine ww_iald 234 X (hm_kr_6_0 hk) hv27 dX6_exchange_233 rfl ?_
        refine ww_iload_n 235 X dX6_exchange_234 rfl rfl ?_
        refine ww_iload_n 236 X dX6_exchange_235 rfl rfl ?_
        obtain ⟨x28, hx28, h⟩ := hb_bind_of h
        refine ww_callS (rest := [.int 420, .ref (G.2.2.2 (hm_rf k 0))]) (st' := [.int x28, .int 420, .ref (G.2.2.2 (hm_rf k 0))]) 239 X (ct_X6_other (hb_l Γ) G v27 p1 p2 σ26 hx28) cw_X6_132 rfl ⟨by decide, by decide⟩ (Nat.le_of_ble_eq_true rfl) rfl rfl dX6_exchange_236 rfl ?_
        obtain ⟨σ29, hσ29, h⟩ := hb_bind_of h
        refine ww_iast 240 X (hm_kr_6_0 hk) hσ29 dX6_exchange_239 rfl ?_
        refine ww_aload_n 241 X dX6_exchange_240 rfl rfl ?_
        refine ww_getr (ci := 6) (j := 0) 244 X cf_6 tw_X6_7 (by decide) rfl hk dX6_exchange_241 rfl ?_
        refine ww_sipush (v := 423) 247 X dX6_exchange_244 rfl (by decide) ?_
        refine ww_aload_n 248 X dX6_exchange_247 rfl rfl ?_
        refine ww_getr (ci := 6) (j := 0) 251 X cf_6 tw_X6_7 (by decide) rfl hk dX6_exchange_248 rfl ?_
        refine ww_sipush (v := 423) 254 X dX6_exchange_251 rfl (by decide) ?_
        obtain ⟨v30, hv30, h⟩ := hb_bind_of h
        refine ww_iald 255 X (hm_kr_6_0 hk) hv30 dX6_exchange_254 rfl ?_
        refine ww_iload_n 256 X dX6_exchange_255 rfl rfl ?_
        refine ww_iload_n 257 X dX6_exchange_256 rfl rfl ?_
        obtain ⟨x31, hx31, h⟩ := hb_bind_of h
        refine ww_callS (rest := [.int 423, .ref (G.2.2.2 (hm_rf k 0))]) (st' := [.int x31, .int 423, .ref (G.2.2.2 (hm_rf k 0))]) 260 X (ct_X6_other (hb_l Γ) G v30 p1 p2 σ29 hx31) cw_X6_132 rfl ⟨by decide, by decide⟩ (Nat.le_of_ble_eq_true rfl) rfl rfl dX6_exchange_257 rfl ?_
        obtain ⟨σ32, hσ32, h⟩ := hb_bind_of h
        refine ww_iast 261 X (hm_kr_6_0 hk) hσ32 dX6_exchange_260 rfl ?_
        refine ww_iload_n 262 X dX6_exchange_261 rfl rfl ?_
        obtain rfl := Option.some.inj h
        exact ww_ret_i X hr K dX6_exchange_262
theorem ct_X6_exchange (l : Launch) (G : hb_Gam) (k : Nat) (hk : hb_is ΛM k 6) (p1 : Int32) (p2 : Int32) (σ : hb_Mem) {x : (Int32 × hb_Mem)} (h : fn_X6_exchange k p1 p2 σ = some x) : hb_C l yX6_exchange cX6_exchange 6 (some .int) 2 47 ΛM G [.ref (G.2.2.2 k), .int p1, .int p2] σ (some (.int x.1)) x.2 :=
  hb_C.of [some (.ref (G.2.2.2 k)), some (.int p1), some (.int p2), none, none, none] (by decide +kernel) (Nat.le_of_ble_eq_true rfl) (by intro v hv; simp only [List.mem_cons, List.not_mem_nil, or_false] at hv; rcases hv with rfl | rfl | rfl <;> rfl) rfl (hb_pad [.ref (G.2.2.2 k), .int p1, .int p2] 3) (fun Γ X hr => wk_X6_exchange X hr k hk p1 p2 σ h rfl)
def fn_X6_isReader (p0 : Int32) : Option Int32 :=
(fn_X6_in p0 0 1).bind fun x1 =>
(hb_bz x1).bind fun z2 =>
some x1
set_option maxRecDepth 100000 in
set_option maxHeartbeats 4000000 in
theorem wk_X6_isReader {Γ : hb_Ctx} {G : hb_Gam} {Q : State → Prop} (X : hb_X Γ cX6_isReader 1 RX6 ΛM G 1 22) (hr : hb_ret Γ = (some .boolean)) (p0 : Int32) (σ : hb_Mem) {x : Int32} (h : fn_X6_isReader p0 = some x) (K : Q = hb_Q Γ ΛM G (some (.int x)) σ) : hb_W Γ ΛM G 1 Q σ [some (.int p0)] [] 0 := by
  unfold fn_X6_isReader at h
  refine ww_iload_n 1 X dX6_isReader_0 rfl rfl ?_
  refine ww_iconst (v := 0) 2 X dX6_isReader_1 rfl (by decide) ?_
  refine ww_iconst (v := 1) 3 X dX6_isReader_2 rfl (by decide) ?_
  obtain ⟨x1, hx1, h⟩ := hb_bind_of h
  refine ww_callS (rest := []) (st' := [.int x1]) 6 X (ct_X6_in (hb_l Γ) G p0 0 1 σ hx1) cw_X6_50 rfl ⟨by decide, by decide⟩ (Nat.le_of_ble_eq_true rfl) rfl rfl dX6_isReader_3 rfl ?_
  obtain ⟨z2, hz2, h⟩ := hb_bind_of h
  replace hz2 := (hb_bz_of hz2).1
  obtain rfl := Option.some.inj h
  exact ww_ret_z X hr hz2 K dX6_isReader_6
theorem ct_X6_isReader (l : Launch) (G : hb_Gam) (p0 : Int32) (σ : hb_Mem) {x : Int32} (h : fn_X6_isReader p0 = some x) : hb_C l yX6_isReader cX6_isReader 1 (some .boolean) 1 22 ΛM G [.int p0] σ (some (.int x)) σ :=
  hb_C.of [some (.int p0)] (by decide +kernel) (Nat.le_of_ble_eq_true rfl) (by intro v hv; simp only [List.mem_cons, List.not_mem_nil, or_false] at hv; subst hv; rfl) rfl (hb_pad [.int p0] 0) (fun Γ X hr => wk_X6_isReader X hr p0 σ h rfl)
def fn_X6_ofReader (k : Nat) (p1 : Int32) (p2 : Int32) (σ : hb_Mem) : Option Int32 :=
(hb_ld ΛM σ (hm_rf k 0) (((417 : Int32) + ((3 : Int32) * p1)) + p2)).bind fun v1 =>
some v1
set_option maxRecDepth 100000 in
set_option maxHeartbeats 4000000 in
theorem wk_X6_ofReader {Γ : hb_Ctx} {G : hb_Gam} {Q : State → Prop} (X : hb_X Γ cX6_ofReader 3 RX6 ΛM G 0 0) (hr : hb_ret Γ = (some .int)) (k : Nat) (hk : hb_is ΛM k 6) (p1 : Int32) (p2 : Int32) (σ : hb_Mem) {x : Int32} (h : fn_X6_ofReader k p1 p2 σ = some x) (K : Q = hb_Q Γ ΛM G (some (.int x)) σ) : hb_W Γ ΛM G 3 Q σ [some (.ref (G.2.2.2 k)), some (.int p1), some (.int p2)] [] 0 := by
  unfold fn_X6_ofReader at h
  refine ww_aload_n 1 X dX6_ofReader_0 rfl rfl ?_
  refine ww_getr (ci := 6) (j := 0) 4 X cf_6 tw_X6_7 (by decide) rfl hk dX6_ofReader_1 rfl ?_
  refine ww_sipush (v := 417) 7 X dX6_ofReader_4 rfl (by decide) ?_
  refine ww_iconst (v := 3) 8 X dX6_ofReader_7 rfl (by decide) ?_
  refine ww_iload_n 9 X dX6_ofReader_8 rfl rfl ?_
  refine ww_imul 10 X dX6_ofReader_9 rfl ?_
  refine ww_iadd 11 X dX6_ofReader_10 rfl ?_
  refine ww_iload_n 12 X dX6_ofReader_11 rfl rfl ?_
  refine ww_iadd 13 X dX6_ofReader_12 rfl ?_
  obtain ⟨v1, hv1, h⟩ := hb_bind_of h
  refine ww_iald 14 X (hm_kr_6_0 hk) hv1 dX6_ofReader_13 rfl ?_
  obtain rfl := Option.some.inj h
  exact ww_ret_i X hr K dX6_ofReader_14
theorem ct_X6_ofReader (l : Launch) (G : hb_Gam) (k : Nat) (hk : hb_is ΛM k 6) (p1 : Int32) (p2 : Int32) (σ : hb_Mem) {x : Int32} (h : fn_X6_ofReader k p1 p2 σ = some x) : hb_C l yX6_ofReader cX6_ofReader 3 (some .int) 0 0 ΛM G [.ref (G.2.2.2 k), .int p1, .int p2] σ (some (.int x)) σ :=
  hb_C.of [some (.ref (G.2.2.2 k)), some (.int p1), some (.int p2)] (by decide +kernel) (Nat.le_of_ble_eq_true rfl) (by intro v hv; simp only [List.mem_cons, List.not_mem_nil, or_false] at hv; rcases hv with rfl | rfl | rfl <;> rfl) rfl (hb_pad [.ref (G.2.2.2 k), .int p1, .int p2] 0) (fun Γ X hr => wk_X6_ofReader X hr k hk p1 p2 σ h rfl)
def fn_X6_goes (k : Nat) (p1 : Int32) (p2 : Int32) (p3 : Int32) (p4 : Int32) (σ : hb_Mem) : Option hb_Mem :=
(hb_st ΛM σ (hm_rf k 0) (((417 : Int32) + ((3 : Int32) * p1)) + 0) p2).bind fun σ1 =>
(hb_st ΛM σ1 (hm_rf k 0) (((417 : Int32) + ((3 : Int32) * p1)) + 1) p3).bind fun σ2 =>
(hb_st ΛM σ2 (hm_rf k 0) (((417 : Int32) + ((3 : Int32) * p1)) + 2) p4).bind fun σ3 =>
some σ3
set_option maxRecDepth 100000 in
set_option maxHeartbeats 4000000 in
theorem wk_X6_goes {Γ : hb_Ctx} {G : hb_Gam} {Q : State → Prop} (X : hb_X Γ cX6_goes 5 RX6 ΛM G 0 0) (hr : hb_ret Γ = none) (k : Nat) (hk : hb_is ΛM k 6) (p1 : Int32) (p2 : Int32) (p3 : Int32) (p4 : Int32) (σ : hb_Mem) {x : hb_Mem} (h : fn_X6_goes k p1 p2 p3 p4 σ = some x) (K : Q = hb_Q Γ ΛM G none x) : hb_W Γ ΛM G 5 Q σ [some (.ref (G.2.2.2 k)), some (.int p1), some (.int p2), some (.int p3), some (.int p4)] [] 0 := by
  unfold fn_X6_goes at h
  refine ww_aload_n 1 X dX6_goes_0 rfl rfl ?_
  refine ww_getr (ci := 6) (j := 0) 4 X cf_6 tw_X6_7 (by decide) rfl hk dX6_goes_1 rfl ?_
  refine ww_sipush (v := 417) 7 X dX6_goes_4 rfl (by decide) ?_
  refine ww_iconst (v := 3) 8 X dX6_goes_7 rfl (by decide) ?_
  refine ww_iload_n 9 X dX6_goes_8 rfl rfl ?_
  refine ww_imul 10 X dX6_goes_9 rfl ?_
  refine ww_iadd 11 X dX6_goes_10 rfl ?_
  refine ww_iconst (v := 0) 12 X dX6_goes_11 rfl (by decide) ?_
  refine ww_iadd 13 X dX6_goes_12 rfl ?_
  refine ww_iload_n 14 X dX6_goes_13 rfl rfl ?_
  obtain ⟨σ1, hσ1, h⟩ := hb_bind_of h
  refine ww_iast 15 X (hm_kr_6_0 hk) hσ1 dX6_goes_14 rfl ?_
  refine ww_aload_n 16 X dX6_goes_15 rfl rfl ?_
  refine ww_getr (ci := 6) (j := 0) 19 X cf_6 tw_X6_7 (by decide) rfl hk dX6_goes_16 rfl ?_
  refine ww_sipush (v := 417) 22 X dX6_goes_19 rfl (by decide) ?_
  refine ww_iconst (v := 3) 23 X dX6_goes_22 rfl (by decide) ?_
  refine ww_iload_n 24 X dX6_goes_23 rfl rfl ?_
  refine ww_imul 25 X dX6_goes_24 rfl ?_
  refine ww_iadd 26 X dX6_goes_25 rfl ?_
  refine ww_iconst (v := 1) 27 X dX6_goes_26 rfl (by decide) ?_
  refine ww_iadd 28 X dX6_goes_27 rfl ?_
  refine ww_iload_n 29 X dX6_goes_28 rfl rfl ?_
  obtain ⟨σ2, hσ2, h⟩ := hb_bind_of h
  refine ww_iast 30 X (hm_kr_6_0 hk) hσ2 dX6_goes_29 rfl ?_
  refine ww_aload_n 31 X dX6_goes_30 rfl rfl ?_
  refine ww_getr (ci := 6) (j := 0) 34 X cf_6 tw_X6_7 (by decide) rfl hk dX6_goes_31 rfl ?_
  refine ww_sipush (v := 417) 37 X dX6_goes_34 rfl (by decide) ?_
  refine ww_iconst (v := 3) 38 X dX6_goes_37 rfl (by decide) ?_
  refine ww_iload_n 39 X dX6_goes_38 rfl rfl ?_
  refine ww_imul 40 X dX6_goes_39 rfl ?_
  refine ww_iadd 41 X dX6_goes_40 rfl ?_
  refine ww_iconst (v := 2) 42 X dX6_goes_41 rfl (by decide) ?_
  refine ww_iadd 43 X dX6_goes_42 rfl ?_
  refine ww_iload 45 X dX6_goes_43 rfl rfl ?_
  obtain ⟨σ3, hσ3, h⟩ := hb_bind_of h
  refine ww_iast 46 X (hm_kr_6_0 hk) hσ3 dX6_goes_45 rfl ?_
  obtain rfl := Option.some.inj h
  exact ww_ret_v X hr K dX6_goes_46
theorem ct_X6_goes (l : Launch) (G : hb_Gam) (k : Nat) (hk : hb_is ΛM k 6) (p1 : Int32) (p2 : Int32) (p3 : Int32) (p4 : Int32) (σ : hb_Mem) {x : hb_Mem} (h : fn_X6_goes k p1 p2 p3 p4 σ = some x) : hb_C l yX6_goes cX6_goes 5 none 0 0 ΛM G [.ref (G.2.2.2 k), .int p1, .int p2, .int p3, .int p4] σ none x :=
  hb_C.of [some (.ref (G.2.2.2 k)), some (.int p1), some (.int p2), some (.int p3), some (.int p4)] (by decide +kernel) (Nat.le_of_ble_eq_true rfl) (by intro v hv; simp only [List.mem_cons, List.not_mem_nil, or_false] at hv; rcases hv with rfl | rfl | rfl | rfl | rfl <;> rfl) rfl (hb_pad [.ref (G.2.2.2 k), .int p1, .int p2, .int p3, .int p4] 0) (fun Γ X hr => wk_X6_goes X hr k hk p1 p2 p3 p4 σ h rfl)
def fn_X6_begin (k : Nat) (p1 : Int32) (σ : hb_Mem) : Option (Int32 × hb_Mem) :=
(fn_X6_isReader p1).bind fun x1 =>
if x1 = 0 then (
some ((-1), σ))
else (
(hb_ld ΛM σ (hm_rf k 0) 0).bind fun v2 =>
if v2 = 0 then (
some ((-4), σ))
else (
(fn_X6_records k σ).bind fun x3 =>
(fn_X6_firstPlace k x3).bind fun x4 =>
(fn_X6_goes k p1 0 x4 0 x3).bind fun x5 =>
(fn_X6_firstPlace k x5).bind fun x6 =>
some (x6, x5)))
set_option maxRecDepth 100000 in
set_option maxHeartbeats 4000000 in
theorem wk_X6_begin {Γ : hb_Ctx} {G : hb_Gam} {Q : State → Prop} (X : hb_X Γ cX6_begin 2 RX6 ΛM G 3 64) (hr : hb_ret Γ = (some .int)) (k : Nat) (hk : hb_is ΛM k 6) (p1 : Int32) (σ : hb_Mem) {x : (Int32 × hb_Mem)} (h : fn_X6_begin k p1 σ = some x) (K : Q = hb_Q Γ ΛM G (some (.int x.1)) x.2) : hb_W Γ ΛM G 2 Q σ [some (.ref (G.2.2.2 k)), some (.int p1)] [] 0 := by
  unfold fn_X6_begin at h
  refine ww_iload_n 1 X dX6_begin_0 rfl rfl ?_
  obtain ⟨x1, hx1, h⟩ := hb_bind_of h
  refine ww_callS (rest := []) (st' := [.int x1]) 4 X (ct_X6_isReader (hb_l Γ) G p1 σ hx1) cw_X6_135 rfl ⟨by decide, by decide⟩ (Nat.le_of_ble_eq_true rfl) rfl rfl dX6_begin_1 rfl ?_
  refine ww_if_ne 9 7 X dX6_begin_4 (by decide) rfl h (fun h => ?_) (fun h => ?_)
  · skip
    refine ww_iconst (v := (-1)) 8 X dX6_begin_7 rfl (by decide) ?_
    obtain rfl := Option.some.inj h
    exact ww_ret_i X hr K dX6_begin_8
  · skip
    refine ww_aload_n 10 X dX6_begin_9 rfl rfl ?_
    refine ww_getr (ci := 6) (j := 0) 13 X cf_6 tw_X6_7 (by decide) rfl hk dX6_begin_10 rfl ?_
    refine ww_iconst (v := 0) 14 X dX6_begin_13 rfl (by decide) ?_
    obtain ⟨v2, hv2, h⟩ := hb_bind_of h
    refine ww_iald 15 X (hm_kr_6_0 hk) hv2 dX6_begin_14 rfl ?_
    refine ww_if_ne 21 18 X dX6_begin_15 (by decide) rfl h (fun h => ?_) (fun h => ?_)
    · skip
      refine ww_bipush (v := (-4)) 20 X dX6_begin_18 rfl (by decide) ?_
      obtain rfl := Option.some.inj h
      exact ww_ret_i X hr K dX6_begin_20
    · skip
      refine ww_aload_n 22 X dX6_begin_21 rfl rfl ?_
      obtain ⟨x3, hx3, h⟩ := hb_bind_of h
      refine ww_callV (ci := 6) (rest := []) (st' := []) 25 X (ct_X6_records (hb_l Γ) G k hk σ hx3) cw_X6_114 rfl (by decide) hk rfl ⟨by decide, by decide⟩ (Nat.le_of_ble_eq_true rfl) rfl rfl dX6_begin_22 rfl ?_
      refine ww_aload_n 26 X dX6_begin_25 rfl rfl ?_
      refine ww_iload_n 27 X dX6_begin_26 rfl rfl ?_
      refine ww_iconst (v := 0) 28 X dX6_begin_27 rfl (by decide) ?_
      refine ww_aload_n 29 X dX6_begin_28 rfl rfl ?_
      obtain ⟨x4, hx4, h⟩ := hb_bind_of h
      refine ww_callV (ci := 6) (rest := [.int 0, .int p1, .ref (G.2.2.2 k)]) (st' := [.int x4, .int 0, .int p1, .ref (G.2.2.2 k)]) 32 X (ct_X6_firstPlace (hb_l Γ) G k hk x3 hx4) cw_X6_89 rfl (by decide) hk rfl ⟨by decide, by decide⟩ (Nat.le_of_ble_eq_true rfl) rfl rfl dX6_begin_29 rfl ?_
      refine ww_iconst (v := 0) 33 X dX6_begin_32 rfl (by decide) ?_
      obtain ⟨x5, hx5, h⟩ := hb_bind_of h
      refine ww_callV (ci := 6) (rest := []) (st' := []) 36 X (ct_X6_goes (hb_l Γ) G k hk p1 0 x4 0 x3 hx5) cw_X6_138 rfl (by decide) hk rfl ⟨by decide, by decide⟩ (Nat.le_of_ble_eq_true rfl) rfl rfl dX6_begin_33 rfl ?_
      refine ww_aload_n 37 X dX6_begin_36 rfl rfl ?_
      obtain ⟨x6, hx6, h⟩ := hb_bind_of h
      refine ww_callV (ci := 6) (rest := []) (st' := [.int x6]) 40 X (ct_X6_firstPlace (hb_l Γ) G k hk x5 hx6) cw_X6_89 rfl (by decide) hk rfl ⟨by decide, by decide⟩ (Nat.le_of_ble_eq_true rfl) rfl rfl dX6_begin_37 rfl ?_
      obtain rfl := Option.some.inj h
      exact ww_ret_i X hr K dX6_begin_40
theorem ct_X6_begin (l : Launch) (G : hb_Gam) (k : Nat) (hk : hb_is ΛM k 6) (p1 : Int32) (σ : hb_Mem) {x : (Int32 × hb_Mem)} (h : fn_X6_begin k p1 σ = some x) : hb_C l yX6_begin cX6_begin 2 (some .int) 3 64 ΛM G [.ref (G.2.2.2 k), .int p1] σ (some (.int x.1)) x.2 :=
  hb_C.of [some (.ref (G.2.2.2 k)), some (.int p1)] (by decide +kernel) (Nat.le_of_ble_eq_true rfl) (by intro v hv; simp only [List.mem_cons, List.not_mem_nil, or_false] at hv; rcases hv with rfl | rfl <;> rfl) rfl (hb_pad [.ref (G.2.2.2 k), .int p1] 0) (fun Γ X hr => wk_X6_begin X hr k hk p1 σ h rfl)
def jn_X6_reason_23 (k : Nat) (p1 : Int32) (p2 : Int32) (j3 : Int32) (σ : hb_Mem) : Option Int32 :=
if j3 = (-5) then (
some 1)
else (
some 2)
set_option maxRecDepth 100000 in
set_option maxHeartbeats 4000000 in
theorem jw_X6_reason_23 {Γ : hb_Ctx} {G : hb_Gam} {Q : State → Prop} (X : hb_X Γ cX6_reason 5 RX6 ΛM G 1 23) (hr : hb_ret Γ = (some .int)) (k : Nat) (hk : hb_is ΛM k 6) (p1 : Int32) (p2 : Int32) (j3 : Int32) (σ : hb_Mem) {x : Int32} (h : jn_X6_reason_23 k p1 p2 j3 σ = some x) (K : Q = hb_Q Γ ΛM G (some (.int x)) σ) : hb_W Γ ΛM G 5 Q σ [none, none, none, some (.int j3), none] [] 23 := by
  unfold jn_X6_reason_23 at h
  refine ww_iload_n 24 X dX6_reason_23 rfl rfl ?_
  refine ww_bipush (v := (-5)) 26 X dX6_reason_24 rfl (by decide) ?_
  refine ww_icmp_ne 33 29 X dX6_reason_26 (by decide) rfl h (fun h => ?_) (fun h => ?_)
  · skip
    refine ww_iconst (v := 1) 30 X dX6_reason_29 rfl (by decide) ?_
    refine ww_goto 34 X dX6_reason_30 (by decide) ?_
    obtain rfl := Option.some.inj h
    exact ww_ret_i X hr K dX6_reason_34
  · skip
    refine ww_iconst (v := 2) 34 X dX6_reason_33 rfl (by decide) ?_
    obtain rfl := Option.some.inj h
    exact ww_ret_i X hr K dX6_reason_34
def fn_X6_reason (k : Nat) (p1 : Int32) (p2 : Int32) (σ : hb_Mem) : Option Int32 :=
(fn_X6_ofReader k p1 0 σ).bind fun x1 =>
if x1 = (-5) then (
jn_X6_reason_23 k p1 p2 x1 σ)
else (
(fn_X6_of k x1 3 σ).bind fun x2 =>
if p2 < x2 then (
(fn_X6_ofReader k p1 1 σ).bind fun x3 =>
(fn_X6_ofChoice k x1 p2 1 σ).bind fun x4 =>
if (x4 &&& (x3 ^^^ (-1))) = 0 then (
(fn_X6_ofChoice k x1 p2 2 σ).bind fun x5 =>
if (x5 &&& x3) = 0 then (
some 0)
else (
some 4))
else (
some 3))
else (
jn_X6_reason_23 k p1 p2 x1 σ))
set_option maxRecDepth 100000 in
set_option maxHeartbeats 4000000 in
theorem wk_X6_reason {Γ : hb_Ctx} {G : hb_Gam} {Q : State → Prop} (X : hb_X Γ cX6_reason 5 RX6 ΛM G 1 23) (hr : hb_ret Γ = (some .int)) (k : Nat) (hk : hb_is ΛM k 6) (p1 : Int32) (p2 : Int32) (σ : hb_Mem) {x : Int32} (h : fn_X6_reason k p1 p2 σ = some x) (K : Q = hb_Q Γ ΛM G (some (.int x)) σ) : hb_W Γ ΛM G 5 Q σ [some (.ref (G.2.2.2 k)), some (.int p1), some (.int p2), none, none] [] 0 := by
  unfold fn_X6_reason at h
  refine ww_aload_n 1 X dX6_reason_0 rfl rfl ?_
  refine ww_iload_n 2 X dX6_reason_1 rfl rfl ?_
  refine ww_iconst (v := 0) 3 X dX6_reason_2 rfl (by decide) ?_
  obtain ⟨x1, hx1, h⟩ := hb_bind_of h
  refine ww_callV (ci := 6) (rest := []) (st' := [.int x1]) 6 X (ct_X6_ofReader (hb_l Γ) G k hk p1 0 σ hx1) cw_X6_141 rfl (by decide) hk rfl ⟨by decide, by decide⟩ (Nat.le_of_ble_eq_true rfl) rfl rfl dX6_reason_3 rfl ?_
  refine ww_istore_n 7 X (L' := [some (.ref (G.2.2.2 k)), some (.int p1), some (.int p2), some (.int x1), none]) dX6_reason_6 rfl (Nat.le_of_ble_eq_true rfl) rfl ?_
  refine ww_iload_n 8 X dX6_reason_7 rfl rfl ?_
  refine ww_bipush (v := (-5)) 10 X dX6_reason_8 rfl (by decide) ?_
  refine ww_icmp_eq 23 13 X dX6_reason_10 (by decide) rfl h (fun h => ?_) (fun h => ?_)
  · skip
    refine ww_kill [0, 1, 2] (L' := [none, none, none, some (.int x1), none]) rfl ?_
    exact jw_X6_reason_23 X hr k hk p1 p2 x1 σ h K
  · skip
    refine ww_iload_n 14 X dX6_reason_13 rfl rfl ?_
    refine ww_aload_n 15 X dX6_reason_14 rfl rfl ?_
    refine ww_iload_n 16 X dX6_reason_15 rfl rfl ?_
    refine ww_iconst (v := 3) 17 X dX6_reason_16 rfl (by decide) ?_
    obtain ⟨x2, hx2, h⟩ := hb_bind_of h
    refine ww_callV (ci := 6) (rest := [.int p2]) (st' := [.int x2, .int p2]) 20 X (ct_X6_of (hb_l Γ) G k hk x1 3 σ hx2) cw_X6_62 rfl (by decide) hk rfl ⟨by decide, by decide⟩ (Nat.le_of_ble_eq_true rfl) rfl rfl dX6_reason_17 rfl ?_
    refine ww_icmp_lt 35 23 X dX6_reason_20 (by decide) rfl h (fun h => ?_) (fun h => ?_)
    · skip
      refine ww_aload_n 36 X dX6_reason_35 rfl rfl ?_
      refine ww_iload_n 37 X dX6_reason_36 rfl rfl ?_
      refine ww_iconst (v := 1) 38 X dX6_reason_37 rfl (by decide) ?_
      obtain ⟨x3, hx3, h⟩ := hb_bind_of h
      refine ww_callV (ci := 6) (rest := []) (st' := [.int x3]) 41 X (ct_X6_ofReader (hb_l Γ) G k hk p1 1 σ hx3) cw_X6_141 rfl (by decide) hk rfl ⟨by decide, by decide⟩ (Nat.le_of_ble_eq_true rfl) rfl rfl dX6_reason_38 rfl ?_
      refine ww_istore 43 X (L' := [some (.ref (G.2.2.2 k)), some (.int p1), some (.int p2), some (.int x1), some (.int x3)]) dX6_reason_41 rfl (Nat.le_of_ble_eq_true rfl) rfl ?_
      refine ww_aload_n 44 X dX6_reason_43 rfl rfl ?_
      refine ww_iload_n 45 X dX6_reason_44 rfl rfl ?_
      refine ww_iload_n 46 X dX6_reason_45 rfl rfl ?_
      refine ww_iconst (v := 1) 47 X dX6_reason_46 rfl (by decide) ?_
      obtain ⟨x4, hx4, h⟩ := hb_bind_of h
      refine ww_callV (ci := 6) (rest := []) (st' := [.int x4]) 50 X (ct_X6_ofChoice (hb_l Γ) G k hk x1 p2 1 σ hx4) cw_X6_58 rfl (by decide) hk rfl ⟨by decide, by decide⟩ (Nat.le_of_ble_eq_true rfl) rfl rfl dX6_reason_47 rfl ?_
      refine ww_iload 52 X dX6_reason_50 rfl rfl ?_
      refine ww_iconst (v := (-1)) 53 X dX6_reason_52 rfl (by decide) ?_
      refine ww_ixor 54 X dX6_reason_53 rfl ?_
      refine ww_iand 55 X dX6_reason_54 rfl ?_
      refine ww_if_eq 62 58 X dX6_reason_55 (by decide) rfl h (fun h => ?_) (fun h => ?_)
      · skip
        refine ww_aload_n 63 X dX6_reason_62 rfl rfl ?_
        refine ww_iload_n 64 X dX6_reason_63 rfl rfl ?_
        refine ww_iload_n 65 X dX6_reason_64 rfl rfl ?_
        refine ww_iconst (v := 2) 66 X dX6_reason_65 rfl (by decide) ?_
        obtain ⟨x5, hx5, h⟩ := hb_bind_of h
        refine ww_callV (ci := 6) (rest := []) (st' := [.int x5]) 69 X (ct_X6_ofChoice (hb_l Γ) G k hk x1 p2 2 σ hx5) cw_X6_58 rfl (by decide) hk rfl ⟨by decide, by decide⟩ (Nat.le_of_ble_eq_true rfl) rfl rfl dX6_reason_66 rfl ?_
        refine ww_iload 71 X dX6_reason_69 rfl rfl ?_
        refine ww_iand 72 X dX6_reason_71 rfl ?_
        refine ww_if_eq 79 75 X dX6_reason_72 (by decide) rfl h (fun h => ?_) (fun h => ?_)
        · skip
          refine ww_iconst (v := 0) 80 X dX6_reason_79 rfl (by decide) ?_
          obtain rfl := Option.some.inj h
          exact ww_ret_i X hr K dX6_reason_80
        · skip
          refine ww_iconst (v := 4) 76 X dX6_reason_75 rfl (by decide) ?_
          refine ww_goto 80 X dX6_reason_76 (by decide) ?_
          obtain rfl := Option.some.inj h
          exact ww_ret_i X hr K dX6_reason_80
      · skip
        refine ww_iconst (v := 3) 59 X dX6_reason_58 rfl (by decide) ?_
        refine ww_goto 80 X dX6_reason_59 (by decide) ?_
        obtain rfl := Option.some.inj h
        exact ww_ret_i X hr K dX6_reason_80
    · skip
      refine ww_kill [0, 1, 2] (L' := [none, none, none, some (.int x1), none]) rfl ?_
      exact jw_X6_reason_23 X hr k hk p1 p2 x1 σ h K
theorem ct_X6_reason (l : Launch) (G : hb_Gam) (k : Nat) (hk : hb_is ΛM k 6) (p1 : Int32) (p2 : Int32) (σ : hb_Mem) {x : Int32} (h : fn_X6_reason k p1 p2 σ = some x) : hb_C l yX6_reason cX6_reason 5 (some .int) 1 23 ΛM G [.ref (G.2.2.2 k), .int p1, .int p2] σ (some (.int x)) σ :=
  hb_C.of [some (.ref (G.2.2.2 k)), some (.int p1), some (.int p2), none, none] (by decide +kernel) (Nat.le_of_ble_eq_true rfl) (by intro v hv; simp only [List.mem_cons, List.not_mem_nil, or_false] at hv; rcases hv with rfl | rfl | rfl <;> rfl) rfl (hb_pad [.ref (G.2.2.2 k), .int p1, .int p2] 2) (fun Γ X hr => wk_X6_reason X hr k hk p1 p2 σ h rfl)
def fn_X6_why (k : Nat) (p1 : Int32) (p2 : Int32) (σ : hb_Mem) : Option Int32 :=
(fn_X6_isReader p1).bind fun x1 =>
if x1 = 0 then (
some (-1))
else (
(fn_X6_in p2 0 2).bind fun x2 =>
if x2 = 0 then (
some (-2))
else (
(fn_X6_reason k p1 p2 σ).bind fun x3 =>
some x3))
set_option maxRecDepth 100000 in
set_option maxHeartbeats 4000000 in
theorem wk_X6_why {Γ : hb_Ctx} {G : hb_Gam} {Q : State → Prop} (X : hb_X Γ cX6_why 3 RX6 ΛM G 2 47) (hr : hb_ret Γ = (some .int)) (k : Nat) (hk : hb_is ΛM k 6) (p1 : Int32) (p2 : Int32) (σ : hb_Mem) {x : Int32} (h : fn_X6_why k p1 p2 σ = some x) (K : Q = hb_Q Γ ΛM G (some (.int x)) σ) : hb_W Γ ΛM G 3 Q σ [some (.ref (G.2.2.2 k)), some (.int p1), some (.int p2)] [] 0 := by
  unfold fn_X6_why at h
  refine ww_iload_n 1 X dX6_why_0 rfl rfl ?_
  obtain ⟨x1, hx1, h⟩ := hb_bind_of h
  refine ww_callS (rest := []) (st' := [.int x1]) 4 X (ct_X6_isReader (hb_l Γ) G p1 σ hx1) cw_X6_135 rfl ⟨by decide, by decide⟩ (Nat.le_of_ble_eq_true rfl) rfl rfl dX6_why_1 rfl ?_
  refine ww_if_ne 11 7 X dX6_why_4 (by decide) rfl h (fun h => ?_) (fun h => ?_)
  · skip
    refine ww_iconst (v := (-1)) 8 X dX6_why_7 rfl (by decide) ?_
    refine ww_goto 31 X dX6_why_8 (by decide) ?_
    obtain rfl := Option.some.inj h
    exact ww_ret_i X hr K dX6_why_31
  · skip
    refine ww_iload_n 12 X dX6_why_11 rfl rfl ?_
    refine ww_iconst (v := 0) 13 X dX6_why_12 rfl (by decide) ?_
    refine ww_iconst (v := 2) 14 X dX6_why_13 rfl (by decide) ?_
    obtain ⟨x2, hx2, h⟩ := hb_bind_of h
    refine ww_callS (rest := []) (st' := [.int x2]) 17 X (ct_X6_in (hb_l Γ) G p2 0 2 σ hx2) cw_X6_50 rfl ⟨by decide, by decide⟩ (Nat.le_of_ble_eq_true rfl) rfl rfl dX6_why_14 rfl ?_
    refine ww_if_eq 29 20 X dX6_why_17 (by decide) rfl h (fun h => ?_) (fun h => ?_)
    · skip
      refine ww_bipush (v := (-2)) 31 X dX6_why_29 rfl (by decide) ?_
      obtain rfl := Option.some.inj h
      exact ww_ret_i X hr K dX6_why_31
    · skip
      refine ww_aload_n 21 X dX6_why_20 rfl rfl ?_
      refine ww_iload_n 22 X dX6_why_21 rfl rfl ?_
      refine ww_iload_n 23 X dX6_why_22 rfl rfl ?_
      obtain ⟨x3, hx3, h⟩ := hb_bind_of h
      refine ww_callV (ci := 6) (rest := []) (st' := [.int x3]) 26 X (ct_X6_reason (hb_l Γ) G k hk p1 p2 σ hx3) cw_X6_144 rfl (by decide) hk rfl ⟨by decide, by decide⟩ (Nat.le_of_ble_eq_true rfl) rfl rfl dX6_why_23 rfl ?_
      refine ww_goto 31 X dX6_why_26 (by decide) ?_
      obtain rfl := Option.some.inj h
      exact ww_ret_i X hr K dX6_why_31
theorem ct_X6_why (l : Launch) (G : hb_Gam) (k : Nat) (hk : hb_is ΛM k 6) (p1 : Int32) (p2 : Int32) (σ : hb_Mem) {x : Int32} (h : fn_X6_why k p1 p2 σ = some x) : hb_C l yX6_why cX6_why 3 (some .int) 2 47 ΛM G [.ref (G.2.2.2 k), .int p1, .int p2] σ (some (.int x)) σ :=
  hb_C.of [some (.ref (G.2.2.2 k)), some (.int p1), some (.int p2)] (by decide +kernel) (Nat.le_of_ble_eq_true rfl) (by intro v hv; simp only [List.mem_cons, List.not_mem_nil, or_false] at hv; rcases hv with rfl | rfl | rfl <;> rfl) rfl (hb_pad [.ref (G.2.2.2 k), .int p1, .int p2] 0) (fun Γ X hr => wk_X6_why X hr k hk p1 p2 σ h rfl)
def fn_X6_choose (k : Nat) (p1 : Int32) (p2 : Int32) (σ : hb_Mem) : Option (Int32 × hb_Mem) :=
(fn_X6_why k p1 p2 σ).bind fun x1 =>
if x1 = 0 then (
(fn_X6_records k σ).bind fun x2 =>
(fn_X6_ofReader k p1 0 x2).bind fun x3 =>
(fn_X6_ofChoice k x3 p2 0 x2).bind fun x4 =>
(fn_X6_ofReader k p1 1 x2).bind fun x5 =>
(fn_X6_coming k x4 x5 x2).bind fun x6 =>
(fn_X6_ofReader k p1 2 x2).bind fun x7 =>
(fn_X6_goes k p1 x4 x6 (x7 + 1) x2).bind fun x8 =>
some (x4, x8))
else (
if 0 ≤ x1 then (
some ((-4), σ))
else (
some (x1, σ)))
set_option maxRecDepth 100000 in
set_option maxHeartbeats 4000000 in
theorem wk_X6_choose {Γ : hb_Ctx} {G : hb_Gam} {Q : State → Prop} (X : hb_X Γ cX6_choose 5 RX6 ΛM G 3 69) (hr : hb_ret Γ = (some .int)) (k : Nat) (hk : hb_is ΛM k 6) (p1 : Int32) (p2 : Int32) (σ : hb_Mem) {x : (Int32 × hb_Mem)} (h : fn_X6_choose k p1 p2 σ = some x) (K : Q = hb_Q Γ ΛM G (some (.int x.1)) x.2) : hb_W Γ ΛM G 5 Q σ [some (.ref (G.2.2.2 k)), some (.int p1), some (.int p2), none, none] [] 0 := by
  unfold fn_X6_choose at h
  refine ww_aload_n 1 X dX6_choose_0 rfl rfl ?_
  refine ww_iload_n 2 X dX6_choose_1 rfl rfl ?_
  refine ww_iload_n 3 X dX6_choose_2 rfl rfl ?_
  obtain ⟨x1, hx1, h⟩ := hb_bind_of h
  refine ww_callV (ci := 6) (rest := []) (st' := [.int x1]) 6 X (ct_X6_why (hb_l Γ) G k hk p1 p2 σ hx1) cw_X6_147 rfl (by decide) hk rfl ⟨by decide, by decide⟩ (Nat.le_of_ble_eq_true rfl) rfl rfl dX6_choose_3 rfl ?_
  refine ww_istore_n 7 X (L' := [some (.ref (G.2.2.2 k)), some (.int p1), some (.int p2), some (.int x1), none]) dX6_choose_6 rfl (Nat.le_of_ble_eq_true rfl) rfl ?_
  refine ww_iload_n 8 X dX6_choose_7 rfl rfl ?_
  refine ww_if_eq 22 11 X dX6_choose_8 (by decide) rfl h (fun h => ?_) (fun h => ?_)
  · skip
    refine ww_aload_n 23 X dX6_choose_22 rfl rfl ?_
    obtain ⟨x2, hx2, h⟩ := hb_bind_of h
    refine ww_callV (ci := 6) (rest := []) (st' := []) 26 X (ct_X6_records (hb_l Γ) G k hk σ hx2) cw_X6_114 rfl (by decide) hk rfl ⟨by decide, by decide⟩ (Nat.le_of_ble_eq_true rfl) rfl rfl dX6_choose_23 rfl ?_
    refine ww_aload_n 27 X dX6_choose_26 rfl rfl ?_
    refine ww_aload_n 28 X dX6_choose_27 rfl rfl ?_
    refine ww_iload_n 29 X dX6_choose_28 rfl rfl ?_
    refine ww_iconst (v := 0) 30 X dX6_choose_29 rfl (by decide) ?_
    obtain ⟨x3, hx3, h⟩ := hb_bind_of h
    refine ww_callV (ci := 6) (rest := [.ref (G.2.2.2 k)]) (st' := [.int x3, .ref (G.2.2.2 k)]) 33 X (ct_X6_ofReader (hb_l Γ) G k hk p1 0 x2 hx3) cw_X6_141 rfl (by decide) hk rfl ⟨by decide, by decide⟩ (Nat.le_of_ble_eq_true rfl) rfl rfl dX6_choose_30 rfl ?_
    refine ww_iload_n 34 X dX6_choose_33 rfl rfl ?_
    refine ww_iconst (v := 0) 35 X dX6_choose_34 rfl (by decide) ?_
    obtain ⟨x4, hx4, h⟩ := hb_bind_of h
    refine ww_callV (ci := 6) (rest := []) (st' := [.int x4]) 38 X (ct_X6_ofChoice (hb_l Γ) G k hk x3 p2 0 x2 hx4) cw_X6_58 rfl (by decide) hk rfl ⟨by decide, by decide⟩ (Nat.le_of_ble_eq_true rfl) rfl rfl dX6_choose_35 rfl ?_
    refine ww_istore 40 X (L' := [some (.ref (G.2.2.2 k)), some (.int p1), some (.int p2), some (.int x1), some (.int x4)]) dX6_choose_38 rfl (Nat.le_of_ble_eq_true rfl) rfl ?_
    refine ww_aload_n 41 X dX6_choose_40 rfl rfl ?_
    refine ww_iload_n 42 X dX6_choose_41 rfl rfl ?_
    refine ww_iload 44 X dX6_choose_42 rfl rfl ?_
    refine ww_aload_n 45 X dX6_choose_44 rfl rfl ?_
    refine ww_iload 47 X dX6_choose_45 rfl rfl ?_
    refine ww_aload_n 48 X dX6_choose_47 rfl rfl ?_
    refine ww_iload_n 49 X dX6_choose_48 rfl rfl ?_
    refine ww_iconst (v := 1) 50 X dX6_choose_49 rfl (by decide) ?_
    obtain ⟨x5, hx5, h⟩ := hb_bind_of h
    refine ww_callV (ci := 6) (rest := [.int x4, .ref (G.2.2.2 k), .int x4, .int p1, .ref (G.2.2.2 k)]) (st' := [.int x5, .int x4, .ref (G.2.2.2 k), .int x4, .int p1, .ref (G.2.2.2 k)]) 53 X (ct_X6_ofReader (hb_l Γ) G k hk p1 1 x2 hx5) cw_X6_141 rfl (by decide) hk rfl ⟨by decide, by decide⟩ (Nat.le_of_ble_eq_true rfl) rfl rfl dX6_choose_50 rfl ?_
    obtain ⟨x6, hx6, h⟩ := hb_bind_of h
    refine ww_callV (ci := 6) (rest := [.int x4, .int p1, .ref (G.2.2.2 k)]) (st' := [.int x6, .int x4, .int p1, .ref (G.2.2.2 k)]) 56 X (ct_X6_coming (hb_l Γ) G k hk x4 x5 x2 hx6) cw_X6_73 rfl (by decide) hk rfl ⟨by decide, by decide⟩ (Nat.le_of_ble_eq_true rfl) rfl rfl dX6_choose_53 rfl ?_
    refine ww_aload_n 57 X dX6_choose_56 rfl rfl ?_
    refine ww_iload_n 58 X dX6_choose_57 rfl rfl ?_
    refine ww_iconst (v := 2) 59 X dX6_choose_58 rfl (by decide) ?_
    obtain ⟨x7, hx7, h⟩ := hb_bind_of h
    refine ww_callV (ci := 6) (rest := [.int x6, .int x4, .int p1, .ref (G.2.2.2 k)]) (st' := [.int x7, .int x6, .int x4, .int p1, .ref (G.2.2.2 k)]) 62 X (ct_X6_ofReader (hb_l Γ) G k hk p1 2 x2 hx7) cw_X6_141 rfl (by decide) hk rfl ⟨by decide, by decide⟩ (Nat.le_of_ble_eq_true rfl) rfl rfl dX6_choose_59 rfl ?_
    refine ww_iconst (v := 1) 63 X dX6_choose_62 rfl (by decide) ?_
    refine ww_iadd 64 X dX6_choose_63 rfl ?_
    obtain ⟨x8, hx8, h⟩ := hb_bind_of h
    refine ww_callV (ci := 6) (rest := []) (st' := []) 67 X (ct_X6_goes (hb_l Γ) G k hk p1 x4 x6 (x7 + 1) x2 hx8) cw_X6_138 rfl (by decide) hk rfl ⟨by decide, by decide⟩ (Nat.le_of_ble_eq_true rfl) rfl rfl dX6_choose_64 rfl ?_
    refine ww_iload 69 X dX6_choose_67 rfl rfl ?_
    obtain rfl := Option.some.inj h
    exact ww_ret_i X hr K dX6_choose_69
  · skip
    refine ww_iload_n 12 X dX6_choose_11 rfl rfl ?_
    refine ww_if_ge 19 15 X dX6_choose_12 (by decide) rfl h (fun h => ?_) (fun h => ?_)
    · skip
      refine ww_bipush (v := (-4)) 21 X dX6_choose_19 rfl (by decide) ?_
      obtain rfl := Option.some.inj h
      exact ww_ret_i X hr K dX6_choose_21
    · skip
      refine ww_iload_n 16 X dX6_choose_15 rfl rfl ?_
      refine ww_goto 21 X dX6_choose_16 (by decide) ?_
      obtain rfl := Option.some.inj h
      exact ww_ret_i X hr K dX6_choose_21
theorem ct_X6_choose (l : Launch) (G : hb_Gam) (k : Nat) (hk : hb_is ΛM k 6) (p1 : Int32) (p2 : Int32) (σ : hb_Mem) {x : (Int32 × hb_Mem)} (h : fn_X6_choose k p1 p2 σ = some x) : hb_C l yX6_choose cX6_choose 5 (some .int) 3 69 ΛM G [.ref (G.2.2.2 k), .int p1, .int p2] σ (some (.int x.1)) x.2 :=
  hb_C.of [some (.ref (G.2.2.2 k)), some (.int p1), some (.int p2), none, none] (by decide +kernel) (Nat.le_of_ble_eq_true rfl) (by intro v hv; simp only [List.mem_cons, List.not_mem_nil, or_false] at hv; rcases hv with rfl | rfl | rfl <;> rfl) rfl (hb_pad [.ref (G.2.2.2 k), .int p1, .int p2] 2) (fun Γ X hr => wk_X6_choose X hr k hk p1 p2 σ h rfl)
def fn_X6_isMarked (k : Nat) (p1 : Int32) (σ : hb_Mem) : Option Int32 :=
(hb_ld ΛM σ (hm_rf k 0) 423).bind fun v1 =>
(fn_X6_ofReader k p1 0 σ).bind fun x2 =>
if v1 = x2 then (
(hb_ld ΛM σ (hm_rf k 0) 424).bind fun v3 =>
(fn_X6_ofReader k p1 1 σ).bind fun x4 =>
if v3 = x4 then (
some 1)
else (
some 0))
else (
some 0)
set_option maxRecDepth 100000 in
set_option maxHeartbeats 4000000 in
theorem wk_X6_isMarked {Γ : hb_Ctx} {G : hb_Gam} {Q : State → Prop} (X : hb_X Γ cX6_isMarked 2 RX6 ΛM G 1 22) (hr : hb_ret Γ = (some .boolean)) (k : Nat) (hk : hb_is ΛM k 6) (p1 : Int32) (σ : hb_Mem) {x : Int32} (h : fn_X6_isMarked k p1 σ = some x) (K : Q = hb_Q Γ ΛM G (some (.int x)) σ) : hb_W Γ ΛM G 2 Q σ [some (.ref (G.2.2.2 k)), some (.int p1)] [] 0 := by
  unfold fn_X6_isMarked at h
  refine ww_aload_n 1 X dX6_isMarked_0 rfl rfl ?_
  refine ww_getr (ci := 6) (j := 0) 4 X cf_6 tw_X6_7 (by decide) rfl hk dX6_isMarked_1 rfl ?_
  refine ww_sipush (v := 423) 7 X dX6_isMarked_4 rfl (by decide) ?_
  obtain ⟨v1, hv1, h⟩ := hb_bind_of h
  refine ww_iald 8 X (hm_kr_6_0 hk) hv1 dX6_isMarked_7 rfl ?_
  refine ww_aload_n 9 X dX6_isMarked_8 rfl rfl ?_
  refine ww_iload_n 10 X dX6_isMarked_9 rfl rfl ?_
  refine ww_iconst (v := 0) 11 X dX6_isMarked_10 rfl (by decide) ?_
  obtain ⟨x2, hx2, h⟩ := hb_bind_of h
  refine ww_callV (ci := 6) (rest := [.int v1]) (st' := [.int x2, .int v1]) 14 X (ct_X6_ofReader (hb_l Γ) G k hk p1 0 σ hx2) cw_X6_141 rfl (by decide) hk rfl ⟨by decide, by decide⟩ (Nat.le_of_ble_eq_true rfl) rfl rfl dX6_isMarked_11 rfl ?_
  refine ww_icmp_ne 38 17 X dX6_isMarked_14 (by decide) rfl h (fun h => ?_) (fun h => ?_)
  · skip
    refine ww_aload_n 18 X dX6_isMarked_17 rfl rfl ?_
    refine ww_getr (ci := 6) (j := 0) 21 X cf_6 tw_X6_7 (by decide) rfl hk dX6_isMarked_18 rfl ?_
    refine ww_sipush (v := 424) 24 X dX6_isMarked_21 rfl (by decide) ?_
    obtain ⟨v3, hv3, h⟩ := hb_bind_of h
    refine ww_iald 25 X (hm_kr_6_0 hk) hv3 dX6_isMarked_24 rfl ?_
    refine ww_aload_n 26 X dX6_isMarked_25 rfl rfl ?_
    refine ww_iload_n 27 X dX6_isMarked_26 rfl rfl ?_
    refine ww_iconst (v := 1) 28 X dX6_isMarked_27 rfl (by decide) ?_
    obtain ⟨x4, hx4, h⟩ := hb_bind_of h
    refine ww_callV (ci := 6) (rest := [.int v3]) (st' := [.int x4, .int v3]) 31 X (ct_X6_ofReader (hb_l Γ) G k hk p1 1 σ hx4) cw_X6_141 rfl (by decide) hk rfl ⟨by decide, by decide⟩ (Nat.le_of_ble_eq_true rfl) rfl rfl dX6_isMarked_28 rfl ?_
    refine ww_icmp_ne 38 34 X dX6_isMarked_31 (by decide) rfl h (fun h => ?_) (fun h => ?_)
    · skip
      refine ww_iconst (v := 1) 35 X dX6_isMarked_34 rfl (by decide) ?_
      refine ww_goto 39 X dX6_isMarked_35 (by decide) ?_
      obtain rfl := Option.some.inj h
      exact ww_ret_z X hr (by decide) K dX6_isMarked_39
    · skip
      refine ww_iconst (v := 0) 39 X dX6_isMarked_38 rfl (by decide) ?_
      obtain rfl := Option.some.inj h
      exact ww_ret_z X hr (by decide) K dX6_isMarked_39
  · skip
    refine ww_iconst (v := 0) 39 X dX6_isMarked_38 rfl (by decide) ?_
    obtain rfl := Option.some.inj h
    exact ww_ret_z X hr (by decide) K dX6_isMarked_39
theorem ct_X6_isMarked (l : Launch) (G : hb_Gam) (k : Nat) (hk : hb_is ΛM k 6) (p1 : Int32) (σ : hb_Mem) {x : Int32} (h : fn_X6_isMarked k p1 σ = some x) : hb_C l yX6_isMarked cX6_isMarked 2 (some .boolean) 1 22 ΛM G [.ref (G.2.2.2 k), .int p1] σ (some (.int x)) σ :=
  hb_C.of [some (.ref (G.2.2.2 k)), some (.int p1)] (by decide +kernel) (Nat.le_of_ble_eq_true rfl) (by intro v hv; simp only [List.mem_cons, List.not_mem_nil, or_false] at hv; rcases hv with rfl | rfl <;> rfl) rfl (hb_pad [.ref (G.2.2.2 k), .int p1] 0) (fun Γ X hr => wk_X6_isMarked X hr k hk p1 σ h rfl)
