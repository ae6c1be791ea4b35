/-! methods (laid by wip/p25/gen.py) -/
def fn_X2_putReader (k : Nat) (p1 : Int32) (p2 : Int32) (p3 : Int32) (σ : hb_Mem) : Option hb_Mem :=
(fn_X1_put (hc_rf k 8) p1 p2 σ).bind fun x1 =>
(fn_X1_put (hc_rf k 9) p1 p3 x1).bind fun x2 =>
some x2
set_option maxRecDepth 100000 in
set_option maxHeartbeats 4000000 in
theorem wk_X2_putReader {Γ : hb_Ctx} {G : hb_Gam} {Q : State → Prop} (X : hb_X Γ cX2_putReader 4 RX2 ΛC G 1 22) (hr : hb_ret Γ = none) (k : Nat) (hk : hb_is ΛC k 2) (p1 : Int32) (p2 : Int32) (p3 : Int32) (σ : hb_Mem) {x : hb_Mem} (h : fn_X2_putReader k p1 p2 p3 σ = some x) (K : Q = hb_Q Γ ΛC G none x) : hb_W Γ ΛC G 4 Q σ [some (.ref (G.2.2.2 k)), some (.int p1), some (.int p2), some (.int p3)] [] 0 := by
  unfold fn_X2_putReader at h
  refine ww_aload_n 1 X dX2_putReader_0 rfl rfl ?_
  refine ww_getr (ci := 2) (j := 8) 4 X cf_2 tw_X2_42 (by decide) rfl hk dX2_putReader_1 rfl ?_
  refine ww_iload_n 5 X dX2_putReader_4 rfl rfl ?_
  refine ww_iload_n 6 X dX2_putReader_5 rfl rfl ?_
  obtain ⟨x1, hx1, h⟩ := hb_bind_of h
  refine ww_callV (ci := 1) (rest := []) (st' := []) 9 X (ct_X1_put (hb_l Γ) G (hc_rf k 8) (hc_kr_2_8 hk) p1 p2 σ hx1) cw_X2_66 rfl (by decide) (hc_kr_2_8 hk) rfl ⟨by decide, by decide⟩ (Nat.le_of_ble_eq_true rfl) rfl rfl dX2_putReader_6 rfl ?_
  refine ww_aload_n 10 X dX2_putReader_9 rfl rfl ?_
  refine ww_getr (ci := 2) (j := 9) 13 X cf_2 tw_X2_48 (by decide) rfl hk dX2_putReader_10 rfl ?_
  refine ww_iload_n 14 X dX2_putReader_13 rfl rfl ?_
  refine ww_iload_n 15 X dX2_putReader_14 rfl rfl ?_
  obtain ⟨x2, hx2, h⟩ := hb_bind_of h
  refine ww_callV (ci := 1) (rest := []) (st' := []) 18 X (ct_X1_put (hb_l Γ) G (hc_rf k 9) (hc_kr_2_9 hk) p1 p3 x1 hx2) cw_X2_66 rfl (by decide) (hc_kr_2_9 hk) rfl ⟨by decide, by decide⟩ (Nat.le_of_ble_eq_true rfl) rfl rfl dX2_putReader_15 rfl ?_
  obtain rfl := Option.some.inj h
  exact ww_ret_v X hr K dX2_putReader_18
theorem ct_X2_putReader (l : Launch) (G : hb_Gam) (k : Nat) (hk : hb_is ΛC k 2) (p1 : Int32) (p2 : Int32) (p3 : Int32) (σ : hb_Mem) {x : hb_Mem} (h : fn_X2_putReader k p1 p2 p3 σ = some x) : hb_C l yX2_putReader cX2_putReader 4 none 1 22 ΛC G [.ref (G.2.2.2 k), .int p1, .int p2, .int p3] σ none x :=
  hb_C.of [some (.ref (G.2.2.2 k)), some (.int p1), some (.int p2), some (.int p3)] (by decide +kernel) (Nat.le_of_ble_eq_true rfl) (by intro v hv; simp only [List.mem_cons, List.not_mem_nil, or_false] at hv; rcases hv with rfl | rfl | rfl | rfl <;> rfl) rfl (hb_pad [.ref (G.2.2.2 k), .int p1, .int p2, .int p3] 0) (fun Γ X hr => wk_X2_putReader X hr k hk p1 p2 p3 σ h rfl)
def fn_X3_isReached (k : Nat) (p1 : Int32) (σ : hb_Mem) : Option Int32 :=
(fn_X1_at (hc_rf k 4) p1 σ).bind fun x1 =>
if x1 = (-1) then (
some 0)
else (
some 1)
set_option maxRecDepth 100000 in
set_option maxHeartbeats 4000000 in
theorem wk_X3_isReached {Γ : hb_Ctx} {G : hb_Gam} {Q : State → Prop} (X : hb_X Γ cX3_isReached 2 RX3 ΛC G 1 21) (hr : hb_ret Γ = (some .boolean)) (k : Nat) (hk : hb_is ΛC k 3) (p1 : Int32) (σ : hb_Mem) {x : Int32} (h : fn_X3_isReached k p1 σ = some x) (K : Q = hb_Q Γ ΛC G (some (.int x)) σ) : hb_W Γ ΛC G 2 Q σ [some (.ref (G.2.2.2 k)), some (.int p1)] [] 0 := by
  unfold fn_X3_isReached at h
  refine ww_aload_n 1 X dX3_isReached_0 rfl rfl ?_
  refine ww_getr (ci := 3) (j := 4) 4 X cf_3 tw_X3_31 (by decide) rfl hk dX3_isReached_1 rfl ?_
  refine ww_iload_n 5 X dX3_isReached_4 rfl rfl ?_
  obtain ⟨x1, hx1, h⟩ := hb_bind_of h
  refine ww_callV (ci := 1) (rest := []) (st' := [.int x1]) 8 X (ct_X1_at (hb_l Γ) G (hc_rf k 4) (hc_kr_3_4 hk) p1 σ hx1) cw_X3_82 rfl (by decide) (hc_kr_3_4 hk) rfl ⟨by decide, by decide⟩ (Nat.le_of_ble_eq_true rfl) rfl rfl dX3_isReached_5 rfl ?_
  refine ww_iconst (v := (-1)) 9 X dX3_isReached_8 rfl (by decide) ?_
  refine ww_icmp_eq 16 12 X dX3_isReached_9 (by decide) rfl h (fun h => ?_) (fun h => ?_)
  · skip
    refine ww_iconst (v := 0) 17 X dX3_isReached_16 rfl (by decide) ?_
    obtain rfl := Option.some.inj h
    exact ww_ret_z X hr (by decide) K dX3_isReached_17
  · skip
    refine ww_iconst (v := 1) 13 X dX3_isReached_12 rfl (by decide) ?_
    refine ww_goto 17 X dX3_isReached_13 (by decide) ?_
    obtain rfl := Option.some.inj h
    exact ww_ret_z X hr (by decide) K dX3_isReached_17
theorem ct_X3_isReached (l : Launch) (G : hb_Gam) (k : Nat) (hk : hb_is ΛC k 3) (p1 : Int32) (σ : hb_Mem) {x : Int32} (h : fn_X3_isReached k p1 σ = some x) : hb_C l yX3_isReached cX3_isReached 2 (some .boolean) 1 21 ΛC G [.ref (G.2.2.2 k), .int p1] σ (some (.int x)) σ :=
  hb_C.of [some (.ref (G.2.2.2 k)), some (.int p1)] (by decide +kernel) (Nat.le_of_ble_eq_true rfl) (by intro v hv; simp only [List.mem_cons, List.not_mem_nil, or_false] at hv; rcases hv with rfl | rfl <;> rfl) rfl (hb_pad [.ref (G.2.2.2 k), .int p1] 0) (fun Γ X hr => wk_X3_isReached X hr k hk p1 σ h rfl)
def fn_X3_addPlace (k : Nat) (p1 : Int32) (p2 : Int32) (p3 : Int32) (p4 : Int32) (σ : hb_Mem) : Option hb_Mem :=
(fn_X3_isReached k p1 σ).bind fun x1 =>
if x1 = 0 then (
if (σ k 2) < 1024 then (
(fn_X1_put (hc_rf k 3) (σ k 2) p1 σ).bind fun x2 =>
hb_nm (hb_up x2 k 2 ((x2 k 2) + 1)) fun σ3 =>
(fn_X1_put (hc_rf k 4) p1 p2 σ3).bind fun x4 =>
(fn_X1_put (hc_rf k 5) p1 p3 x4).bind fun x5 =>
(fn_X1_put (hc_rf k 6) p1 p4 x5).bind fun x6 =>
(fn_X1_put (hc_rf k 7) p1 0 x6).bind fun x7 =>
some x7)
else (
some σ))
else (
some σ)
set_option maxRecDepth 100000 in
set_option maxHeartbeats 4000000 in
theorem wk_X3_addPlace {Γ : hb_Ctx} {G : hb_Gam} {Q : State → Prop} (X : hb_X Γ cX3_addPlace 5 RX3 ΛC G 2 42) (hr : hb_ret Γ = none) (k : Nat) (hk : hb_is ΛC k 3) (p1 : Int32) (p2 : Int32) (p3 : Int32) (p4 : Int32) (σ : hb_Mem) {x : hb_Mem} (h : fn_X3_addPlace k p1 p2 p3 p4 σ = some x) (K : Q = hb_Q Γ ΛC G none x) : hb_W Γ ΛC G 5 Q σ [some (.ref (G.2.2.2 k)), some (.int p1), some (.int p2), some (.int p3), some (.int p4)] [] 0 := by
  unfold fn_X3_addPlace at h
  refine ww_aload_n 1 X dX3_addPlace_0 rfl rfl ?_
  refine ww_iload_n 2 X dX3_addPlace_1 rfl rfl ?_
  obtain ⟨x1, hx1, h⟩ := hb_bind_of h
  refine ww_callV (ci := 3) (rest := []) (st' := [.int x1]) 5 X (ct_X3_isReached (hb_l Γ) G k hk p1 σ hx1) cw_X3_97 rfl (by decide) hk rfl ⟨by decide, by decide⟩ (Nat.le_of_ble_eq_true rfl) rfl rfl dX3_addPlace_2 rfl ?_
  refine ww_if_ne 18 8 X dX3_addPlace_5 (by decide) rfl h (fun h => ?_) (fun h => ?_)
  · skip
    refine ww_aload_n 9 X dX3_addPlace_8 rfl rfl ?_
    refine ww_geti (ci := 3) (j := 2) 12 X cf_3 tw_X3_19 (by decide) rfl hk dX3_addPlace_9 rfl ?_
    refine ww_sipush (v := 1024) 15 X dX3_addPlace_12 rfl (by decide) ?_
    refine ww_icmp_lt 19 18 X dX3_addPlace_15 (by decide) rfl h (fun h => ?_) (fun h => ?_)
    · skip
      refine ww_aload_n 20 X dX3_addPlace_19 rfl rfl ?_
      refine ww_getr (ci := 3) (j := 3) 23 X cf_3 tw_X3_27 (by decide) rfl hk dX3_addPlace_20 rfl ?_
      refine ww_aload_n 24 X dX3_addPlace_23 rfl rfl ?_
      refine ww_geti (ci := 3) (j := 2) 27 X cf_3 tw_X3_19 (by decide) rfl hk dX3_addPlace_24 rfl ?_
      refine ww_iload_n 28 X dX3_addPlace_27 rfl rfl ?_
      obtain ⟨x2, hx2, h⟩ := hb_bind_of h
      refine ww_callV (ci := 1) (rest := []) (st' := []) 31 X (ct_X1_put (hb_l Γ) G (hc_rf k 3) (hc_kr_3_3 hk) (σ k 2) p1 σ hx2) cw_X3_101 rfl (by decide) (hc_kr_3_3 hk) rfl ⟨by decide, by decide⟩ (Nat.le_of_ble_eq_true rfl) rfl rfl dX3_addPlace_28 rfl ?_
      refine ww_aload_n 32 X dX3_addPlace_31 rfl rfl ?_
      refine ww_aload_n 33 X dX3_addPlace_32 rfl rfl ?_
      refine ww_geti (ci := 3) (j := 2) 36 X cf_3 tw_X3_19 (by decide) rfl hk dX3_addPlace_33 rfl ?_
      refine ww_iconst (v := 1) 37 X dX3_addPlace_36 rfl (by decide) ?_
      refine ww_iadd 38 X dX3_addPlace_37 rfl ?_
      obtain ⟨σ3, eσ3, h⟩ := hb_nm_of h
      refine ww_put (ci := 3) (j := 2) (ty := .int) 41 X cf_3 cg_3 tw_X3_19 (by decide) rfl rfl rfl rfl rfl hk eσ3.symm dX3_addPlace_38 rfl ?_
      refine ww_aload_n 42 X dX3_addPlace_41 rfl rfl ?_
      refine ww_getr (ci := 3) (j := 4) 45 X cf_3 tw_X3_31 (by decide) rfl hk dX3_addPlace_42 rfl ?_
      refine ww_iload_n 46 X dX3_addPlace_45 rfl rfl ?_
      refine ww_iload_n 47 X dX3_addPlace_46 rfl rfl ?_
      obtain ⟨x4, hx4, h⟩ := hb_bind_of h
      refine ww_callV (ci := 1) (rest := []) (st' := []) 50 X (ct_X1_put (hb_l Γ) G (hc_rf k 4) (hc_kr_3_4 hk) p1 p2 σ3 hx4) cw_X3_101 rfl (by decide) (hc_kr_3_4 hk) rfl ⟨by decide, by decide⟩ (Nat.le_of_ble_eq_true rfl) rfl rfl dX3_addPlace_47 rfl ?_
      refine ww_aload_n 51 X dX3_addPlace_50 rfl rfl ?_
      refine ww_getr (ci := 3) (j := 5) 54 X cf_3 tw_X3_34 (by decide) rfl hk dX3_addPlace_51 rfl ?_
      refine ww_iload_n 55 X dX3_addPlace_54 rfl rfl ?_
      refine ww_iload_n 56 X dX3_addPlace_55 rfl rfl ?_
      obtain ⟨x5, hx5, h⟩ := hb_bind_of h
      refine ww_callV (ci := 1) (rest := []) (st' := []) 59 X (ct_X1_put (hb_l Γ) G (hc_rf k 5) (hc_kr_3_5 hk) p1 p3 x4 hx5) cw_X3_101 rfl (by decide) (hc_kr_3_5 hk) rfl ⟨by decide, by decide⟩ (Nat.le_of_ble_eq_true rfl) rfl rfl dX3_addPlace_56 rfl ?_
      refine ww_aload_n 60 X dX3_addPlace_59 rfl rfl ?_
      refine ww_getr (ci := 3) (j := 6) 63 X cf_3 tw_X3_37 (by decide) rfl hk dX3_addPlace_60 rfl ?_
      refine ww_iload_n 64 X dX3_addPlace_63 rfl rfl ?_
      refine ww_iload 66 X dX3_addPlace_64 rfl rfl ?_
      obtain ⟨x6, hx6, h⟩ := hb_bind_of h
      refine ww_callV (ci := 1) (rest := []) (st' := []) 69 X (ct_X1_put (hb_l Γ) G (hc_rf k 6) (hc_kr_3_6 hk) p1 p4 x5 hx6) cw_X3_101 rfl (by decide) (hc_kr_3_6 hk) rfl ⟨by decide, by decide⟩ (Nat.le_of_ble_eq_true rfl) rfl rfl dX3_addPlace_66 rfl ?_
      refine ww_aload_n 70 X dX3_addPlace_69 rfl rfl ?_
      refine ww_getr (ci := 3) (j := 7) 73 X cf_3 tw_X3_40 (by decide) rfl hk dX3_addPlace_70 rfl ?_
      refine ww_iload_n 74 X dX3_addPlace_73 rfl rfl ?_
      refine ww_iconst (v := 0) 75 X dX3_addPlace_74 rfl (by decide) ?_
      obtain ⟨x7, hx7, h⟩ := hb_bind_of h
      refine ww_callV (ci := 1) (rest := []) (st' := []) 78 X (ct_X1_put (hb_l Γ) G (hc_rf k 7) (hc_kr_3_7 hk) p1 0 x6 hx7) cw_X3_101 rfl (by decide) (hc_kr_3_7 hk) rfl ⟨by decide, by decide⟩ (Nat.le_of_ble_eq_true rfl) rfl rfl dX3_addPlace_75 rfl ?_
      obtain rfl := Option.some.inj h
      exact ww_ret_v X hr K dX3_addPlace_78
    · skip
      obtain rfl := Option.some.inj h
      exact ww_ret_v X hr K dX3_addPlace_18
  · skip
    obtain rfl := Option.some.inj h
    exact ww_ret_v X hr K dX3_addPlace_18
theorem ct_X3_addPlace (l : Launch) (G : hb_Gam) (k : Nat) (hk : hb_is ΛC k 3) (p1 : Int32) (p2 : Int32) (p3 : Int32) (p4 : Int32) (σ : hb_Mem) {x : hb_Mem} (h : fn_X3_addPlace k p1 p2 p3 p4 σ = some x) : hb_C l yX3_addPlace cX3_addPlace 5 none 2 42 ΛC G [.ref (G.2.2.2 k), .int p1, .int p2, .int p3, .int p4] σ none x :=
  hb_C.of [some (.ref (G.2.2.2 k)), some (.int p1), some (.int p2), some (.int p3), some (.int p4)] (by decide +kernel) (Nat.le_of_ble_eq_true rfl) (by intro v hv; simp only [List.mem_cons, List.not_mem_nil, or_false] at hv; rcases hv with rfl | rfl | rfl | rfl | rfl <;> rfl) rfl (hb_pad [.ref (G.2.2.2 k), .int p1, .int p2, .int p3, .int p4] 0) (fun Γ X hr => wk_X3_addPlace X hr k hk p1 p2 p3 p4 σ h rfl)
def fn_X3_isIn (p0 : Int32) (p1 : Int32) : Option Int32 :=
if (((p1.toUInt32 >>> (p0.toUInt32 &&& Int32.toUInt32 31)).toInt32) &&& 1) = 1 then (
some 1)
else (
some 0)
set_option maxRecDepth 100000 in
set_option maxHeartbeats 4000000 in
theorem wk_X3_isIn {Γ : hb_Ctx} {G : hb_Gam} {Q : State → Prop} (X : hb_X Γ cX3_isIn 2 RX3 ΛC G 0 0) (hr : hb_ret Γ = (some .boolean)) (p0 : Int32) (p1 : Int32) (σ : hb_Mem) {x : Int32} (h : fn_X3_isIn p0 p1 = some x) (K : Q = hb_Q Γ ΛC G (some (.int x)) σ) : hb_W Γ ΛC G 2 Q σ [some (.int p0), some (.int p1)] [] 0 := by
  unfold fn_X3_isIn at h
  refine ww_iload_n 1 X dX3_isIn_0 rfl rfl ?_
  refine ww_iload_n 2 X dX3_isIn_1 rfl rfl ?_
  refine ww_iushr 3 X dX3_isIn_2 rfl ?_
  refine ww_iconst (v := 1) 4 X dX3_isIn_3 rfl (by decide) ?_
  refine ww_iand 5 X dX3_isIn_4 rfl ?_
  refine ww_iconst (v := 1) 6 X dX3_isIn_5 rfl (by decide) ?_
  refine ww_icmp_ne 13 9 X dX3_isIn_6 (by decide) rfl h (fun h => ?_) (fun h => ?_)
  · skip
    refine ww_iconst (v := 1) 10 X dX3_isIn_9 rfl (by decide) ?_
    refine ww_goto 14 X dX3_isIn_10 (by decide) ?_
    obtain rfl := Option.some.inj h
    exact ww_ret_z X hr (by decide) K dX3_isIn_14
  · skip
    refine ww_iconst (v := 0) 14 X dX3_isIn_13 rfl (by decide) ?_
    obtain rfl := Option.some.inj h
    exact ww_ret_z X hr (by decide) K dX3_isIn_14
theorem ct_X3_isIn (l : Launch) (G : hb_Gam) (p0 : Int32) (p1 : Int32) (σ : hb_Mem) {x : Int32} (h : fn_X3_isIn p0 p1 = some x) : hb_C l yX3_isIn cX3_isIn 2 (some .boolean) 0 0 ΛC G [.int p0, .int p1] σ (some (.int x)) σ :=
  hb_C.of [some (.int p0), some (.int p1)] (by decide +kernel) (Nat.le_of_ble_eq_true rfl) (by intro v hv; simp only [List.mem_cons, List.not_mem_nil, or_false] at hv; rcases hv with rfl | rfl <;> rfl) rfl (hb_pad [.int p0, .int p1] 0) (fun Γ X hr => wk_X3_isIn X hr p0 p1 σ h rfl)
def jn_X3_findPlaces_112 (k : Nat) (r1 : Nat) (i2 : Int32) (i3 : Int32) (i4 : Int32) (j5 : Int32) (σ : hb_Mem) : Option ((Int32 × hb_Mem) ⊕ hb_Mem) :=
hb_nm (j5 + 1) fun v8 =>
some (.inl (v8, σ))
set_option maxRecDepth 100000 in
set_option maxHeartbeats 4000000 in
theorem jw_X3_findPlaces_112 {Γ : hb_Ctx} {G : hb_Gam} {Q : State → Prop} (X : hb_X Γ cX3_findPlaces 7 RX3 ΛC G 3 69)  (k : Nat) (hk : hb_is ΛC k 3) (r1 : Nat) (hr1 : hb_is ΛC r1 2) (i2 : Int32) (i3 : Int32) (i4 : Int32) (j5 : Int32) (σ : hb_Mem) {x : ((Int32 × hb_Mem) ⊕ hb_Mem)} (h : jn_X3_findPlaces_112 k r1 i2 i3 i4 j5 σ = some x) (K : Sum.elim (fun s : (Int32 × hb_Mem) => hb_W Γ ΛC G 7 Q s.2 [some (.ref (G.2.2.2 k)), some (.ref (G.2.2.2 r1)), some (.int i2), some (.int i3), some (.int i4), some (.int s.1), none] [] 68) (fun t : hb_Mem => hb_W Γ ΛC G 7 Q t [some (.ref (G.2.2.2 k)), some (.ref (G.2.2.2 r1)), some (.int i2), none, none, none, none] [] 118) x) : hb_W Γ ΛC G 7 Q σ [some (.ref (G.2.2.2 k)), some (.ref (G.2.2.2 r1)), some (.int i2), some (.int i3), some (.int i4), some (.int j5), none] [] 112 := by
  unfold jn_X3_findPlaces_112 at h
  obtain ⟨v8, ev8, h⟩ := hb_nm_of h
  refine ww_iinc 115 X (L' := [some (.ref (G.2.2.2 k)), some (.ref (G.2.2.2 r1)), some (.int i2), some (.int i3), some (.int i4), some (.int v8), none]) dX3_findPlaces_112 rfl rfl ev8.symm rfl ?_
  refine ww_goto 68 X dX3_findPlaces_115 (by decide) ?_
  obtain rfl := Option.some.inj h
  exact K
def lb_X3_findPlaces_68 (k : Nat) (r1 : Nat) (i2 : Int32) (i3 : Int32) (i4 : Int32) (w5 : Int32) (σ : hb_Mem) : Option ((Int32 × hb_Mem) ⊕ hb_Mem) :=
if 3 ≤ w5 then (
some (.inr σ))
else (
(fn_X3_isIn w5 i4).bind fun x7 =>
if x7 = 0 then (
jn_X3_findPlaces_112 k r1 i2 i3 i4 w5 σ)
else (
(fn_X2_placeBehind r1 i3 w5 σ).bind fun x9 =>
(fn_X1_at (hc_rf k 4) i3 σ).bind fun x10 =>
(fn_X3_addPlace k x9 (x10 + 1) i3 w5 σ).bind fun x11 =>
jn_X3_findPlaces_112 k r1 i2 i3 i4 w5 x11))
set_option maxRecDepth 100000 in
set_option maxHeartbeats 4000000 in
theorem lk_X3_findPlaces_68 {Γ : hb_Ctx} {G : hb_Gam} {Q : State → Prop} (X : hb_X Γ cX3_findPlaces 7 RX3 ΛC G 3 69)  (k : Nat) (hk : hb_is ΛC k 3) (r1 : Nat) (hr1 : hb_is ΛC r1 2) (i2 : Int32) (i3 : Int32) (i4 : Int32) (w5 : Int32) (σ : hb_Mem) {x : ((Int32 × hb_Mem) ⊕ hb_Mem)} (h : lb_X3_findPlaces_68 k r1 i2 i3 i4 w5 σ = some x) (K : Sum.elim (fun s : (Int32 × hb_Mem) => hb_W Γ ΛC G 7 Q s.2 [some (.ref (G.2.2.2 k)), some (.ref (G.2.2.2 r1)), some (.int i2), some (.int i3), some (.int i4), some (.int s.1), none] [] 68) (fun t : hb_Mem => hb_W Γ ΛC G 7 Q t [some (.ref (G.2.2.2 k)), some (.ref (G.2.2.2 r1)), some (.int i2), none, none, none, none] [] 118) x) : hb_W Γ ΛC G 7 Q σ [some (.ref (G.2.2.2 k)), some (.ref (G.2.2.2 r1)), some (.int i2), some (.int i3), some (.int i4), some (.int w5), none] [] 68 := by
  unfold lb_X3_findPlaces_68 at h
  refine ww_iload 70 X dX3_findPlaces_68 rfl rfl ?_
  refine ww_iconst (v := 3) 71 X dX3_findPlaces_70 rfl (by decide) ?_
  refine ww_icmp_ge 118 74 X dX3_findPlaces_71 (by decide) rfl h (fun h => ?_) (fun h => ?_)
  · skip
    obtain rfl := Option.some.inj h
    refine ww_kill [3, 4, 5] (L' := [some (.ref (G.2.2.2 k)), some (.ref (G.2.2.2 r1)), some (.int i2), none, none, none, none]) rfl ?_
    exact K
  · skip
    refine ww_iload 76 X dX3_findPlaces_74 rfl rfl ?_
    refine ww_iload 78 X dX3_findPlaces_76 rfl rfl ?_
    obtain ⟨x7, hx7, h⟩ := hb_bind_of h
    refine ww_callS (rest := []) (st' := [.int x7]) 81 X (ct_X3_isIn (hb_l Γ) G w5 i4 σ hx7) cw_X3_89 rfl ⟨by decide, by decide⟩ (Nat.le_of_ble_eq_true rfl) rfl rfl dX3_findPlaces_78 rfl ?_
    refine ww_if_eq 112 84 X dX3_findPlaces_81 (by decide) rfl h (fun h => ?_) (fun h => ?_)
    · skip
      exact jw_X3_findPlaces_112 X k hk r1 hr1 i2 i3 i4 w5 σ h K
    · skip
      refine ww_aload_n 85 X dX3_findPlaces_84 rfl rfl ?_
      refine ww_iload_n 86 X dX3_findPlaces_85 rfl rfl ?_
      refine ww_iload 88 X dX3_findPlaces_86 rfl rfl ?_
      obtain ⟨x9, hx9, h⟩ := hb_bind_of h
      refine ww_callV (ci := 2) (rest := []) (st' := [.int x9]) 91 X (ct_X2_placeBehind (hb_l Γ) G r1 hr1 i3 w5 σ hx9) cw_X3_93 rfl (by decide) hr1 rfl ⟨by decide, by decide⟩ (Nat.le_of_ble_eq_true rfl) rfl rfl dX3_findPlaces_88 rfl ?_
      refine ww_istore 93 X (L' := [some (.ref (G.2.2.2 k)), some (.ref (G.2.2.2 r1)), some (.int i2), some (.int i3), some (.int i4), some (.int w5), some (.int x9)]) dX3_findPlaces_91 rfl (Nat.le_of_ble_eq_true rfl) rfl rfl ?_
      refine ww_aload_n 94 X dX3_findPlaces_93 rfl rfl ?_
      refine ww_iload 96 X dX3_findPlaces_94 rfl rfl ?_
      refine ww_aload_n 97 X dX3_findPlaces_96 rfl rfl ?_
      refine ww_getr (ci := 3) (j := 4) 100 X cf_3 tw_X3_31 (by decide) rfl hk dX3_findPlaces_97 rfl ?_
      refine ww_iload_n 101 X dX3_findPlaces_100 rfl rfl ?_
      obtain ⟨x10, hx10, h⟩ := hb_bind_of h
      refine ww_callV (ci := 1) (rest := [.int x9, .ref (G.2.2.2 k)]) (st' := [.int x10, .int x9, .ref (G.2.2.2 k)]) 104 X (ct_X1_at (hb_l Γ) G (hc_rf k 4) (hc_kr_3_4 hk) i3 σ hx10) cw_X3_82 rfl (by decide) (hc_kr_3_4 hk) rfl ⟨by decide, by decide⟩ (Nat.le_of_ble_eq_true rfl) rfl rfl dX3_findPlaces_101 rfl ?_
      refine ww_iconst (v := 1) 105 X dX3_findPlaces_104 rfl (by decide) ?_
      refine ww_iadd 106 X dX3_findPlaces_105 rfl ?_
      refine ww_iload_n 107 X dX3_findPlaces_106 rfl rfl ?_
      refine ww_iload 109 X dX3_findPlaces_107 rfl rfl ?_
      obtain ⟨x11, hx11, h⟩ := hb_bind_of h
      refine ww_callV (ci := 3) (rest := []) (st' := []) 112 X (ct_X3_addPlace (hb_l Γ) G k hk x9 (x10 + 1) i3 w5 σ hx11) cw_X3_78 rfl (by decide) hk rfl ⟨by decide, by decide⟩ (Nat.le_of_ble_eq_true rfl) rfl rfl dX3_findPlaces_109 rfl ?_
      refine ww_kill [6] (L' := [some (.ref (G.2.2.2 k)), some (.ref (G.2.2.2 r1)), some (.int i2), some (.int i3), some (.int i4), some (.int w5), none]) rfl ?_
      exact jw_X3_findPlaces_112 X k hk r1 hr1 i2 i3 i4 w5 x11 h K
def ll_X3_findPlaces_68 (k : Nat) (r1 : Nat) (i2 : Int32) (i3 : Int32) (i4 : Int32) : (Int32 × hb_Mem) → Option hb_Mem := hb_lp (fun s => lb_X3_findPlaces_68 k r1 i2 i3 i4 s.1 s.2) hb_F
theorem lw_X3_findPlaces_68 {Γ : hb_Ctx} {G : hb_Gam} {Q : State → Prop} (X : hb_X Γ cX3_findPlaces 7 RX3 ΛC G 3 69)  (k : Nat) (hk : hb_is ΛC k 3) (r1 : Nat) (hr1 : hb_is ΛC r1 2) (i2 : Int32) (i3 : Int32) (i4 : Int32) (s : (Int32 × hb_Mem)) (t : hb_Mem) (h : ll_X3_findPlaces_68 k r1 i2 i3 i4 s = some t) (K : (fun t : hb_Mem => hb_W Γ ΛC G 7 Q t [some (.ref (G.2.2.2 k)), some (.ref (G.2.2.2 r1)), some (.int i2), none, none, none, none] [] 118) t) : hb_W Γ ΛC G 7 Q s.2 [some (.ref (G.2.2.2 k)), some (.ref (G.2.2.2 r1)), some (.int i2), some (.int i3), some (.int i4), some (.int s.1), none] [] 68 :=
  hb_lp_w (P := fun s : (Int32 × hb_Mem) => hb_W Γ ΛC G 7 Q s.2 [some (.ref (G.2.2.2 k)), some (.ref (G.2.2.2 r1)), some (.int i2), some (.int i3), some (.int i4), some (.int s.1), none] [] 68) (E := (fun t : hb_Mem => hb_W Γ ΛC G 7 Q t [some (.ref (G.2.2.2 k)), some (.ref (G.2.2.2 r1)), some (.int i2), none, none, none, none] [] 118)) (fun s x hx K => lk_X3_findPlaces_68 X k hk r1 hr1 i2 i3 i4 s.1 s.2 hx K) _ s t h K
def lb_X3_findPlaces_34 (k : Nat) (r1 : Nat) (w2 : Int32) (σ : hb_Mem) : Option ((Int32 × hb_Mem) ⊕ hb_Mem) :=
if (σ k 2) ≤ w2 then (
some (.inr σ))
else (
if 1024 ≤ w2 then (
some (.inr σ))
else (
(fn_X1_at (hc_rf k 3) w2 σ).bind fun x5 =>
(fn_X2_openChoices r1 x5 σ).bind fun x6 =>
(ll_X3_findPlaces_68 k r1 w2 x5 x6 (0, σ)).bind fun t12 =>
hb_nm (w2 + 1) fun v13 =>
some (.inl (v13, t12))))
set_option maxRecDepth 100000 in
set_option maxHeartbeats 4000000 in
theorem lk_X3_findPlaces_34 {Γ : hb_Ctx} {G : hb_Gam} {Q : State → Prop} (X : hb_X Γ cX3_findPlaces 7 RX3 ΛC G 3 69)  (k : Nat) (hk : hb_is ΛC k 3) (r1 : Nat) (hr1 : hb_is ΛC r1 2) (w2 : Int32) (σ : hb_Mem) {x : ((Int32 × hb_Mem) ⊕ hb_Mem)} (h : lb_X3_findPlaces_34 k r1 w2 σ = some x) (K : Sum.elim (fun s : (Int32 × hb_Mem) => hb_W Γ ΛC G 7 Q s.2 [some (.ref (G.2.2.2 k)), some (.ref (G.2.2.2 r1)), some (.int s.1), none, none, none, none] [] 34) (fun t : hb_Mem => hb_W Γ ΛC G 7 Q t [none, none, none, none, none, none, none] [] 124) x) : hb_W Γ ΛC G 7 Q σ [some (.ref (G.2.2.2 k)), some (.ref (G.2.2.2 r1)), some (.int w2), none, none, none, none] [] 34 := by
  unfold lb_X3_findPlaces_34 at h
  refine ww_iload_n 35 X dX3_findPlaces_34 rfl rfl ?_
  refine ww_aload_n 36 X dX3_findPlaces_35 rfl rfl ?_
  refine ww_geti (ci := 3) (j := 2) 39 X cf_3 tw_X3_19 (by decide) rfl hk dX3_findPlaces_36 rfl ?_
  refine ww_icmp_ge 124 42 X dX3_findPlaces_39 (by decide) rfl h (fun h => ?_) (fun h => ?_)
  · skip
    obtain rfl := Option.some.inj h
    refine ww_kill [0, 1, 2] (L' := [none, none, none, none, none, none, none]) rfl ?_
    exact K
  · skip
    refine ww_iload_n 43 X dX3_findPlaces_42 rfl rfl ?_
    refine ww_sipush (v := 1024) 46 X dX3_findPlaces_43 rfl (by decide) ?_
    refine ww_icmp_ge 124 49 X dX3_findPlaces_46 (by decide) rfl h (fun h => ?_) (fun h => ?_)
    · skip
      obtain rfl := Option.some.inj h
      refine ww_kill [0, 1, 2] (L' := [none, none, none, none, none, none, none]) rfl ?_
      exact K
    · skip
      refine ww_aload_n 50 X dX3_findPlaces_49 rfl rfl ?_
      refine ww_getr (ci := 3) (j := 3) 53 X cf_3 tw_X3_27 (by decide) rfl hk dX3_findPlaces_50 rfl ?_
      refine ww_iload_n 54 X dX3_findPlaces_53 rfl rfl ?_
      obtain ⟨x5, hx5, h⟩ := hb_bind_of h
      refine ww_callV (ci := 1) (rest := []) (st' := [.int x5]) 57 X (ct_X1_at (hb_l Γ) G (hc_rf k 3) (hc_kr_3_3 hk) w2 σ hx5) cw_X3_82 rfl (by decide) (hc_kr_3_3 hk) rfl ⟨by decide, by decide⟩ (Nat.le_of_ble_eq_true rfl) rfl rfl dX3_findPlaces_54 rfl ?_
      refine ww_istore_n 58 X (L' := [some (.ref (G.2.2.2 k)), some (.ref (G.2.2.2 r1)), some (.int w2), some (.int x5), none, none, none]) dX3_findPlaces_57 rfl (Nat.le_of_ble_eq_true rfl) rfl rfl ?_
      refine ww_aload_n 59 X dX3_findPlaces_58 rfl rfl ?_
      refine ww_iload_n 60 X dX3_findPlaces_59 rfl rfl ?_
      obtain ⟨x6, hx6, h⟩ := hb_bind_of h
      refine ww_callV (ci := 2) (rest := []) (st' := [.int x6]) 63 X (ct_X2_openChoices (hb_l Γ) G r1 hr1 x5 σ hx6) cw_X3_86 rfl (by decide) hr1 rfl ⟨by decide, by decide⟩ (Nat.le_of_ble_eq_true rfl) rfl rfl dX3_findPlaces_60 rfl ?_
      refine ww_istore 65 X (L' := [some (.ref (G.2.2.2 k)), some (.ref (G.2.2.2 r1)), some (.int w2), some (.int x5), some (.int x6), none, none]) dX3_findPlaces_63 rfl (Nat.le_of_ble_eq_true rfl) rfl rfl ?_
      refine ww_iconst (v := 0) 66 X dX3_findPlaces_65 rfl (by decide) ?_
      refine ww_istore 68 X (L' := [some (.ref (G.2.2.2 k)), some (.ref (G.2.2.2 r1)), some (.int w2), some (.int x5), some (.int x6), some (.int 0), none]) dX3_findPlaces_66 rfl (Nat.le_of_ble_eq_true rfl) rfl rfl ?_
      obtain ⟨t12, ht12, h⟩ := hb_bind_of h
      refine lw_X3_findPlaces_68 X k hk r1 hr1 w2 x5 x6 (0, σ) t12 ht12 ?_
      obtain ⟨v13, ev13, h⟩ := hb_nm_of h
      refine ww_iinc 121 X (L' := [some (.ref (G.2.2.2 k)), some (.ref (G.2.2.2 r1)), some (.int v13), none, none, none, none]) dX3_findPlaces_118 rfl rfl ev13.symm rfl ?_
      refine ww_goto 34 X dX3_findPlaces_121 (by decide) ?_
      obtain rfl := Option.some.inj h
      exact K
def ll_X3_findPlaces_34 (k : Nat) (r1 : Nat) : (Int32 × hb_Mem) → Option hb_Mem := hb_lp (fun s => lb_X3_findPlaces_34 k r1 s.1 s.2) hb_F
theorem lw_X3_findPlaces_34 {Γ : hb_Ctx} {G : hb_Gam} {Q : State → Prop} (X : hb_X Γ cX3_findPlaces 7 RX3 ΛC G 3 69)  (k : Nat) (hk : hb_is ΛC k 3) (r1 : Nat) (hr1 : hb_is ΛC r1 2) (s : (Int32 × hb_Mem)) (t : hb_Mem) (h : ll_X3_findPlaces_34 k r1 s = some t) (K : (fun t : hb_Mem => hb_W Γ ΛC G 7 Q t [none, none, none, none, none, none, none] [] 124) t) : hb_W Γ ΛC G 7 Q s.2 [some (.ref (G.2.2.2 k)), some (.ref (G.2.2.2 r1)), some (.int s.1), none, none, none, none] [] 34 :=
  hb_lp_w (P := fun s : (Int32 × hb_Mem) => hb_W Γ ΛC G 7 Q s.2 [some (.ref (G.2.2.2 k)), some (.ref (G.2.2.2 r1)), some (.int s.1), none, none, none, none] [] 34) (E := (fun t : hb_Mem => hb_W Γ ΛC G 7 Q t [none, none, none, none, none, none, none] [] 124)) (fun s x hx K => lk_X3_findPlaces_34 X k hk r1 hr1 s.1 s.2 hx K) _ s t h K
def fn_X3_findPlaces (k : Nat) (r1 : Nat) (σ : hb_Mem) : Option hb_Mem :=
hb_nm (hb_up σ k 2 0) fun σ1 =>
(fn_X1_fill (hc_rf k 4) (-1) σ1).bind fun x2 =>
if (x2 r1 0) = 0 then (
some x2)
else (
(fn_X2_firstPlace r1 x2).bind fun x3 =>
(fn_X3_addPlace k x3 0 (-1) (-1) x2).bind fun x4 =>
(ll_X3_findPlaces_34 k r1 (0, x4)).bind fun t14 =>
some t14)
set_option maxRecDepth 100000 in
set_option maxHeartbeats 4000000 in
theorem wk_X3_findPlaces {Γ : hb_Ctx} {G : hb_Gam} {Q : State → Prop} (X : hb_X Γ cX3_findPlaces 7 RX3 ΛC G 3 69) (hr : hb_ret Γ = none) (k : Nat) (hk : hb_is ΛC k 3) (r1 : Nat) (hr1 : hb_is ΛC r1 2) (σ : hb_Mem) {x : hb_Mem} (h : fn_X3_findPlaces k r1 σ = some x) (K : Q = hb_Q Γ ΛC G none x) : hb_W Γ ΛC G 7 Q σ [some (.ref (G.2.2.2 k)), some (.ref (G.2.2.2 r1)), none, none, none, none, none] [] 0 := by
  unfold fn_X3_findPlaces at h
  refine ww_aload_n 1 X dX3_findPlaces_0 rfl rfl ?_
  refine ww_iconst (v := 0) 2 X dX3_findPlaces_1 rfl (by decide) ?_
  obtain ⟨σ1, eσ1, h⟩ := hb_nm_of h
  refine ww_put (ci := 3) (j := 2) (ty := .int) 5 X cf_3 cg_3 tw_X3_19 (by decide) rfl rfl rfl rfl rfl hk eσ1.symm dX3_findPlaces_2 rfl ?_
  refine ww_aload_n 6 X dX3_findPlaces_5 rfl rfl ?_
  refine ww_getr (ci := 3) (j := 4) 9 X cf_3 tw_X3_31 (by decide) rfl hk dX3_findPlaces_6 rfl ?_
  refine ww_iconst (v := (-1)) 10 X dX3_findPlaces_9 rfl (by decide) ?_
  obtain ⟨x2, hx2, h⟩ := hb_bind_of h
  refine ww_callV (ci := 1) (rest := []) (st' := []) 13 X (ct_X1_fill (hb_l Γ) G (hc_rf k 4) (hc_kr_3_4 hk) (-1) σ1 hx2) cw_X3_71 rfl (by decide) (hc_kr_3_4 hk) rfl ⟨by decide, by decide⟩ (Nat.le_of_ble_eq_true rfl) rfl rfl dX3_findPlaces_10 rfl ?_
  refine ww_aload_n 14 X dX3_findPlaces_13 rfl rfl ?_
  refine ww_getiN (ci := 2) (j := 0) 17 X cf_2 tw_X3_55 (by decide) rfl hr1 dX3_findPlaces_14 rfl ?_
  refine ww_if_ne 21 20 X dX3_findPlaces_17 (by decide) rfl h (fun h => ?_) (fun h => ?_)
  · skip
    obtain rfl := Option.some.inj h
    exact ww_ret_v X hr K dX3_findPlaces_20
  · skip
    refine ww_aload_n 22 X dX3_findPlaces_21 rfl rfl ?_
    refine ww_aload_n 23 X dX3_findPlaces_22 rfl rfl ?_
    obtain ⟨x3, hx3, h⟩ := hb_bind_of h
    refine ww_callV (ci := 2) (rest := [.ref (G.2.2.2 k)]) (st' := [.int x3, .ref (G.2.2.2 k)]) 26 X (ct_X2_firstPlace (hb_l Γ) G r1 hr1 x2 hx3) cw_X3_74 rfl (by decide) hr1 rfl ⟨by decide, by decide⟩ (Nat.le_of_ble_eq_true rfl) rfl rfl dX3_findPlaces_23 rfl ?_
    refine ww_iconst (v := 0) 27 X dX3_findPlaces_26 rfl (by decide) ?_
    refine ww_iconst (v := (-1)) 28 X dX3_findPlaces_27 rfl (by decide) ?_
    refine ww_iconst (v := (-1)) 29 X dX3_findPlaces_28 rfl (by decide) ?_
    obtain ⟨x4, hx4, h⟩ := hb_bind_of h
    refine ww_callV (ci := 3) (rest := []) (st' := []) 32 X (ct_X3_addPlace (hb_l Γ) G k hk x3 0 (-1) (-1) x2 hx4) cw_X3_78 rfl (by decide) hk rfl ⟨by decide, by decide⟩ (Nat.le_of_ble_eq_true rfl) rfl rfl dX3_findPlaces_29 rfl ?_
    refine ww_iconst (v := 0) 33 X dX3_findPlaces_32 rfl (by decide) ?_
    refine ww_istore_n 34 X (L' := [some (.ref (G.2.2.2 k)), some (.ref (G.2.2.2 r1)), some (.int 0), none, none, none, none]) dX3_findPlaces_33 rfl (Nat.le_of_ble_eq_true rfl) rfl rfl ?_
    obtain ⟨t14, ht14, h⟩ := hb_bind_of h
    refine lw_X3_findPlaces_34 X k hk r1 hr1 (0, x4) t14 ht14 ?_
    obtain rfl := Option.some.inj h
    exact ww_ret_v X hr K dX3_findPlaces_124
theorem ct_X3_findPlaces (l : Launch) (G : hb_Gam) (k : Nat) (hk : hb_is ΛC k 3) (r1 : Nat) (hr1 : hb_is ΛC r1 2) (σ : hb_Mem) {x : hb_Mem} (h : fn_X3_findPlaces k r1 σ = some x) : hb_C l yX3_findPlaces cX3_findPlaces 7 none 3 69 ΛC G [.ref (G.2.2.2 k), .ref (G.2.2.2 r1)] σ none x :=
  hb_C.of [some (.ref (G.2.2.2 k)), some (.ref (G.2.2.2 r1)), none, none, none, none, none] (by decide +kernel) (Nat.le_of_ble_eq_true rfl) (by intro v hv; simp only [List.mem_cons, List.not_mem_nil, or_false] at hv; rcases hv with rfl | rfl <;> rfl) rfl (hb_pad [.ref (G.2.2.2 k), .ref (G.2.2.2 r1)] 5) (fun Γ X hr => wk_X3_findPlaces X hr k hk r1 hr1 σ h rfl)
def jn_X3_growAhead_93 (k : Nat) (r1 : Nat) (i2 : Int32) (i3 : Int32) (i4 : Int32) (i5 : Int32) (j6 : Int32) (j7 : Int32) (σ : hb_Mem) : Option ((Int32 × Int32) ⊕ Int32) :=
hb_nm (j7 + 1) fun v6 =>
some (.inl (j6, v6))
set_option maxRecDepth 100000 in
set_option maxHeartbeats 4000000 in
theorem jw_X3_growAhead_93 {Γ : hb_Ctx} {G : hb_Gam} {Q : State → Prop} (X : hb_X Γ cX3_growAhead 9 RX3 ΛC G 3 69)  (k : Nat) (hk : hb_is ΛC k 3) (r1 : Nat) (hr1 : hb_is ΛC r1 2) (i2 : Int32) (i3 : Int32) (i4 : Int32) (i5 : Int32) (j6 : Int32) (j7 : Int32) (σ : hb_Mem) {x : ((Int32 × Int32) ⊕ Int32)} (h : jn_X3_growAhead_93 k r1 i2 i3 i4 i5 j6 j7 σ = some x) (K : Sum.elim (fun s : (Int32 × Int32) => hb_W Γ ΛC G 9 Q σ [some (.ref (G.2.2.2 k)), some (.ref (G.2.2.2 r1)), some (.int i2), some (.int i3), some (.int i4), some (.int i5), some (.int s.1), some (.int s.2), none] [] 45) (fun t : Int32 => hb_W Γ ΛC G 9 Q σ [some (.ref (G.2.2.2 k)), some (.ref (G.2.2.2 r1)), some (.int i2), some (.int i3), some (.int i4), none, some (.int t), none, none] [] 99) x) : hb_W Γ ΛC G 9 Q σ [some (.ref (G.2.2.2 k)), some (.ref (G.2.2.2 r1)), some (.int i2), some (.int i3), some (.int i4), some (.int i5), some (.int j6), some (.int j7), none] [] 93 := by
  unfold jn_X3_growAhead_93 at h
  obtain ⟨v6, ev6, h⟩ := hb_nm_of h
  refine ww_iinc 96 X (L' := [some (.ref (G.2.2.2 k)), some (.ref (G.2.2.2 r1)), some (.int i2), some (.int i3), some (.int i4), some (.int i5), some (.int j6), some (.int v6), none]) dX3_growAhead_93 rfl rfl ev6.symm rfl ?_
  refine ww_goto 45 X dX3_growAhead_96 (by decide) ?_
  obtain rfl := Option.some.inj h
  exact K
def lb_X3_growAhead_45 (k : Nat) (r1 : Nat) (i2 : Int32) (i3 : Int32) (i4 : Int32) (i5 : Int32) (w6 : Int32) (w7 : Int32) (σ : hb_Mem) : Option ((Int32 × Int32) ⊕ Int32) :=
if 3 ≤ w7 then (
some (.inr w6))
else (
(fn_X3_isIn w7 i5).bind fun x5 =>
if x5 = 0 then (
jn_X3_growAhead_93 k r1 i2 i3 i4 i5 w6 w7 σ)
else (
(fn_X2_placeBehind r1 i4 w7 σ).bind fun x7 =>
(fn_X5_pageAt x7).bind fun x8 =>
(fn_X1_at (hc_rf k 7) x7 σ).bind fun x9 =>
hb_nm ((w6 ||| ((1 : Int32) <<< (x8 &&& 31))) ||| x9) fun v10 =>
jn_X3_growAhead_93 k r1 i2 i3 i4 i5 v10 w7 σ))
set_option maxRecDepth 100000 in
set_option maxHeartbeats 4000000 in
theorem lk_X3_growAhead_45 {Γ : hb_Ctx} {G : hb_Gam} {Q : State → Prop} (X : hb_X Γ cX3_growAhead 9 RX3 ΛC G 3 69)  (k : Nat) (hk : hb_is ΛC k 3) (r1 : Nat) (hr1 : hb_is ΛC r1 2) (i2 : Int32) (i3 : Int32) (i4 : Int32) (i5 : Int32) (w6 : Int32) (w7 : Int32) (σ : hb_Mem) {x : ((Int32 × Int32) ⊕ Int32)} (h : lb_X3_growAhead_45 k r1 i2 i3 i4 i5 w6 w7 σ = some x) (K : Sum.elim (fun s : (Int32 × Int32) => hb_W Γ ΛC G 9 Q σ [some (.ref (G.2.2.2 k)), some (.ref (G.2.2.2 r1)), some (.int i2), some (.int i3), some (.int i4), some (.int i5), some (.int s.1), some (.int s.2), none] [] 45) (fun t : Int32 => hb_W Γ ΛC G 9 Q σ [some (.ref (G.2.2.2 k)), some (.ref (G.2.2.2 r1)), some (.int i2), some (.int i3), some (.int i4), none, some (.int t), none, none] [] 99) x) : hb_W Γ ΛC G 9 Q σ [some (.ref (G.2.2.2 k)), some (.ref (G.2.2.2 r1)), some (.int i2), some (.int i3), some (.int i4), some (.int i5), some (.int w6), some (.int w7), none] [] 45 := by
  unfold lb_X3_growAhead_45 at h
  refine ww_iload 47 X dX3_growAhead_45 rfl rfl ?_
  refine ww_iconst (v := 3) 48 X dX3_growAhead_47 rfl (by decide) ?_
  refine ww_icmp_ge 99 51 X dX3_growAhead_48 (by decide) rfl h (fun h => ?_) (fun h => ?_)
  · skip
    obtain rfl := Option.some.inj h
    refine ww_kill [5, 7] (L' := [some (.ref (G.2.2.2 k)), some (.ref (G.2.2.2 r1)), some (.int i2), some (.int i3), some (.int i4), none, some (.int w6), none, none]) rfl ?_
    exact K
  · skip
    refine ww_iload 53 X dX3_growAhead_51 rfl rfl ?_
    refine ww_iload 55 X dX3_growAhead_53 rfl rfl ?_
    obtain ⟨x5, hx5, h⟩ := hb_bind_of h
    refine ww_callS (rest := []) (st' := [.int x5]) 58 X (ct_X3_isIn (hb_l Γ) G w7 i5 σ hx5) cw_X3_89 rfl ⟨by decide, by decide⟩ (Nat.le_of_ble_eq_true rfl) rfl rfl dX3_growAhead_55 rfl ?_
    refine ww_if_eq 93 61 X dX3_growAhead_58 (by decide) rfl h (fun h => ?_) (fun h => ?_)
    · skip
      exact jw_X3_growAhead_93 X k hk r1 hr1 i2 i3 i4 i5 w6 w7 σ h K
    · skip
      refine ww_aload_n 62 X dX3_growAhead_61 rfl rfl ?_
      refine ww_iload 64 X dX3_growAhead_62 rfl rfl ?_
      refine ww_iload 66 X dX3_growAhead_64 rfl rfl ?_
      obtain ⟨x7, hx7, h⟩ := hb_bind_of h
      refine ww_callV (ci := 2) (rest := []) (st' := [.int x7]) 69 X (ct_X2_placeBehind (hb_l Γ) G r1 hr1 i4 w7 σ hx7) cw_X3_93 rfl (by decide) hr1 rfl ⟨by decide, by decide⟩ (Nat.le_of_ble_eq_true rfl) rfl rfl dX3_growAhead_66 rfl ?_
      refine ww_istore 71 X (L' := [some (.ref (G.2.2.2 k)), some (.ref (G.2.2.2 r1)), some (.int i2), some (.int i3), some (.int i4), some (.int i5), some (.int w6), some (.int w7), some (.int x7)]) dX3_growAhead_69 rfl (Nat.le_of_ble_eq_true rfl) rfl rfl ?_
      refine ww_iload 73 X dX3_growAhead_71 rfl rfl ?_
      refine ww_iconst (v := 1) 74 X dX3_growAhead_73 rfl (by decide) ?_
      refine ww_iload 76 X dX3_growAhead_74 rfl rfl ?_
      obtain ⟨x8, hx8, h⟩ := hb_bind_of h
      refine ww_callSN (rest := [.int 1, .int w6]) (st' := [.int x8, .int 1, .int w6]) 79 X (ct_X5_pageAt (hb_l Γ) G x7 σ hx8) cw_X3_109 rfl ⟨by decide, by decide⟩ (Nat.le_of_ble_eq_true rfl) rfl rfl dX3_growAhead_76 rfl ?_
      refine ww_ishl 80 X dX3_growAhead_79 rfl ?_
      refine ww_ior 81 X dX3_growAhead_80 rfl ?_
      refine ww_aload_n 82 X dX3_growAhead_81 rfl rfl ?_
      refine ww_getr (ci := 3) (j := 7) 85 X cf_3 tw_X3_40 (by decide) rfl hk dX3_growAhead_82 rfl ?_
      refine ww_iload 87 X dX3_growAhead_85 rfl rfl ?_
      obtain ⟨x9, hx9, h⟩ := hb_bind_of h
      refine ww_callV (ci := 1) (rest := [.int (w6 ||| ((1 : Int32) <<< (x8 &&& 31)))]) (st' := [.int x9, .int (w6 ||| ((1 : Int32) <<< (x8 &&& 31)))]) 90 X (ct_X1_at (hb_l Γ) G (hc_rf k 7) (hc_kr_3_7 hk) x7 σ hx9) cw_X3_82 rfl (by decide) (hc_kr_3_7 hk) rfl ⟨by decide, by decide⟩ (Nat.le_of_ble_eq_true rfl) rfl rfl dX3_growAhead_87 rfl ?_
      refine ww_ior 91 X dX3_growAhead_90 rfl ?_
      obtain ⟨v10, ev10, h⟩ := hb_nm_of h
      rw [← ev10]
      refine ww_istore 93 X (L' := [some (.ref (G.2.2.2 k)), some (.ref (G.2.2.2 r1)), some (.int i2), some (.int i3), some (.int i4), some (.int i5), some (.int v10), some (.int w7), some (.int x7)]) dX3_growAhead_91 rfl (Nat.le_of_ble_eq_true rfl) rfl rfl ?_
      refine ww_kill [8] (L' := [some (.ref (G.2.2.2 k)), some (.ref (G.2.2.2 r1)), some (.int i2), some (.int i3), some (.int i4), some (.int i5), some (.int v10), some (.int w7), none]) rfl ?_
      exact jw_X3_growAhead_93 X k hk r1 hr1 i2 i3 i4 i5 v10 w7 σ h K
def ll_X3_growAhead_45 (k : Nat) (r1 : Nat) (i2 : Int32) (i3 : Int32) (i4 : Int32) (i5 : Int32) (σ : hb_Mem) : (Int32 × Int32) → Option Int32 := hb_lp (fun s => lb_X3_growAhead_45 k r1 i2 i3 i4 i5 s.1 s.2 σ) hb_F
theorem lw_X3_growAhead_45 {Γ : hb_Ctx} {G : hb_Gam} {Q : State → Prop} (X : hb_X Γ cX3_growAhead 9 RX3 ΛC G 3 69)  (k : Nat) (hk : hb_is ΛC k 3) (r1 : Nat) (hr1 : hb_is ΛC r1 2) (i2 : Int32) (i3 : Int32) (i4 : Int32) (i5 : Int32) (σ : hb_Mem) (s : (Int32 × Int32)) (t : Int32) (h : ll_X3_growAhead_45 k r1 i2 i3 i4 i5 σ s = some t) (K : (fun t : Int32 => hb_W Γ ΛC G 9 Q σ [some (.ref (G.2.2.2 k)), some (.ref (G.2.2.2 r1)), some (.int i2), some (.int i3), some (.int i4), none, some (.int t), none, none] [] 99) t) : hb_W Γ ΛC G 9 Q σ [some (.ref (G.2.2.2 k)), some (.ref (G.2.2.2 r1)), some (.int i2), some (.int i3), some (.int i4), some (.int i5), some (.int s.1), some (.int s.2), none] [] 45 :=
  hb_lp_w (P := fun s : (Int32 × Int32) => hb_W Γ ΛC G 9 Q σ [some (.ref (G.2.2.2 k)), some (.ref (G.2.2.2 r1)), some (.int i2), some (.int i3), some (.int i4), some (.int i5), some (.int s.1), some (.int s.2), none] [] 45) (E := (fun t : Int32 => hb_W Γ ΛC G 9 Q σ [some (.ref (G.2.2.2 k)), some (.ref (G.2.2.2 r1)), some (.int i2), some (.int i3), some (.int i4), none, some (.int t), none, none] [] 99)) (fun s x hx K => lk_X3_growAhead_45 X k hk r1 hr1 i2 i3 i4 i5 s.1 s.2 σ hx K) _ s t h K
def jn_X3_growAhead_122 (k : Nat) (r1 : Nat) (j3 : Int32) (j4 : Int32) (j6 : Int32) (s0 : Int32) (σ : hb_Mem) : Option ((Int32 × Int32 × hb_Mem) ⊕ (Int32 × hb_Mem)) :=
(fn_X1_put (hc_rf k 7) j4 j6 σ).bind fun x12 =>
hb_nm (j3 + (-1)) fun v13 =>
some (.inl (s0, v13, x12))
set_option maxRecDepth 100000 in
set_option maxHeartbeats 4000000 in
theorem jw_X3_growAhead_122 {Γ : hb_Ctx} {G : hb_Gam} {Q : State → Prop} (X : hb_X Γ cX3_growAhead 9 RX3 ΛC G 3 69)  (k : Nat) (hk : hb_is ΛC k 3) (r1 : Nat) (hr1 : hb_is ΛC r1 2) (j3 : Int32) (j4 : Int32) (j6 : Int32) (s0 : Int32) (σ : hb_Mem) {x : ((Int32 × Int32 × hb_Mem) ⊕ (Int32 × hb_Mem))} (h : jn_X3_growAhead_122 k r1 j3 j4 j6 s0 σ = some x) (K : Sum.elim (fun s : (Int32 × Int32 × hb_Mem) => hb_W Γ ΛC G 9 Q s.2.2 [some (.ref (G.2.2.2 k)), some (.ref (G.2.2.2 r1)), some (.int s.1), some (.int s.2.1), none, none, none, none, none] [] 9) (fun t : (Int32 × hb_Mem) => hb_W Γ ΛC G 9 Q t.2 [none, none, some (.int t.1), none, none, none, none, none, none] [] 140) x) : hb_W Γ ΛC G 9 Q σ [some (.ref (G.2.2.2 k)), some (.ref (G.2.2.2 r1)), none, some (.int j3), some (.int j4), none, some (.int j6), none, none] [.int s0] 122 := by
  unfold jn_X3_growAhead_122 at h
  refine ww_istore_n 123 X (L' := [some (.ref (G.2.2.2 k)), some (.ref (G.2.2.2 r1)), some (.int s0), some (.int j3), some (.int j4), none, some (.int j6), none, none]) dX3_growAhead_122 rfl (Nat.le_of_ble_eq_true rfl) rfl rfl ?_
  refine ww_aload_n 124 X dX3_growAhead_123 rfl rfl ?_
  refine ww_getr (ci := 3) (j := 7) 127 X cf_3 tw_X3_40 (by decide) rfl hk dX3_growAhead_124 rfl ?_
  refine ww_iload 129 X dX3_growAhead_127 rfl rfl ?_
  refine ww_iload 131 X dX3_growAhead_129 rfl rfl ?_
  obtain ⟨x12, hx12, h⟩ := hb_bind_of h
  refine ww_callV (ci := 1) (rest := []) (st' := []) 134 X (ct_X1_put (hb_l Γ) G (hc_rf k 7) (hc_kr_3_7 hk) j4 j6 σ hx12) cw_X3_101 rfl (by decide) (hc_kr_3_7 hk) rfl ⟨by decide, by decide⟩ (Nat.le_of_ble_eq_true rfl) rfl rfl dX3_growAhead_131 rfl ?_
  obtain ⟨v13, ev13, h⟩ := hb_nm_of h
  refine ww_iinc 137 X (L' := [some (.ref (G.2.2.2 k)), some (.ref (G.2.2.2 r1)), some (.int s0), some (.int v13), some (.int j4), none, some (.int j6), none, none]) dX3_growAhead_134 rfl rfl ev13.symm rfl ?_
  refine ww_goto 9 X dX3_growAhead_137 (by decide) ?_
  obtain rfl := Option.some.inj h
  refine ww_kill [4, 6] (L' := [some (.ref (G.2.2.2 k)), some (.ref (G.2.2.2 r1)), some (.int s0), some (.int v13), none, none, none, none, none]) rfl ?_
  exact K
def jn_X3_growAhead_117 (k : Nat) (r1 : Nat) (j3 : Int32) (j4 : Int32) (j6 : Int32) (σ : hb_Mem) : Option ((Int32 × Int32 × hb_Mem) ⊕ (Int32 × hb_Mem)) :=
jn_X3_growAhead_122 k r1 j3 j4 j6 1 σ
set_option maxRecDepth 100000 in
set_option maxHeartbeats 4000000 in
theorem jw_X3_growAhead_117 {Γ : hb_Ctx} {G : hb_Gam} {Q : State → Prop} (X : hb_X Γ cX3_growAhead 9 RX3 ΛC G 3 69)  (k : Nat) (hk : hb_is ΛC k 3) (r1 : Nat) (hr1 : hb_is ΛC r1 2) (j3 : Int32) (j4 : Int32) (j6 : Int32) (σ : hb_Mem) {x : ((Int32 × Int32 × hb_Mem) ⊕ (Int32 × hb_Mem))} (h : jn_X3_growAhead_117 k r1 j3 j4 j6 σ = some x) (K : Sum.elim (fun s : (Int32 × Int32 × hb_Mem) => hb_W Γ ΛC G 9 Q s.2.2 [some (.ref (G.2.2.2 k)), some (.ref (G.2.2.2 r1)), some (.int s.1), some (.int s.2.1), none, none, none, none, none] [] 9) (fun t : (Int32 × hb_Mem) => hb_W Γ ΛC G 9 Q t.2 [none, none, some (.int t.1), none, none, none, none, none, none] [] 140) x) : hb_W Γ ΛC G 9 Q σ [some (.ref (G.2.2.2 k)), some (.ref (G.2.2.2 r1)), none, some (.int j3), some (.int j4), none, some (.int j6), none, none] [] 117 := by
  unfold jn_X3_growAhead_117 at h
  refine ww_iconst (v := 1) 118 X dX3_growAhead_117 rfl (by decide) ?_
  refine ww_goto 122 X dX3_growAhead_118 (by decide) ?_
  exact jw_X3_growAhead_122 X k hk r1 hr1 j3 j4 j6 1 σ h K
def lb_X3_growAhead_9 (k : Nat) (r1 : Nat) (w2 : Int32) (w3 : Int32) (σ : hb_Mem) : Option ((Int32 × Int32 × hb_Mem) ⊕ (Int32 × hb_Mem)) :=
if w3 < 0 then (
some (.inr (w2, σ)))
else (
(fn_X1_at (hc_rf k 3) w3 σ).bind fun x2 =>
(fn_X2_openChoices r1 x2 σ).bind fun x3 =>
(fn_X1_at (hc_rf k 7) x2 σ).bind fun x4 =>
(ll_X3_growAhead_45 k r1 w2 w3 x2 x3 σ (x4, 0)).bind fun t11 =>
if w2 = 0 then (
(fn_X1_at (hc_rf k 7) x2 σ).bind fun x14 =>
if t11 = x14 then (
jn_X3_growAhead_122 k r1 w3 x2 t11 0 σ)
else (
jn_X3_growAhead_117 k r1 w3 x2 t11 σ))
else (
jn_X3_growAhead_117 k r1 w3 x2 t11 σ))
set_option maxRecDepth 100000 in
set_option maxHeartbeats 4000000 in
theorem lk_X3_growAhead_9 {Γ : hb_Ctx} {G : hb_Gam} {Q : State → Prop} (X : hb_X Γ cX3_growAhead 9 RX3 ΛC G 3 69)  (k : Nat) (hk : hb_is ΛC k 3) (r1 : Nat) (hr1 : hb_is ΛC r1 2) (w2 : Int32) (w3 : Int32) (σ : hb_Mem) {x : ((Int32 × Int32 × hb_Mem) ⊕ (Int32 × hb_Mem))} (h : lb_X3_growAhead_9 k r1 w2 w3 σ = some x) (K : Sum.elim (fun s : (Int32 × Int32 × hb_Mem) => hb_W Γ ΛC G 9 Q s.2.2 [some (.ref (G.2.2.2 k)), some (.ref (G.2.2.2 r1)), some (.int s.1), some (.int s.2.1), none, none, none, none, none] [] 9) (fun t : (Int32 × hb_Mem) => hb_W Γ ΛC G 9 Q t.2 [none, none, some (.int t.1), none, none, none, none, none, none] [] 140) x) : hb_W Γ ΛC G 9 Q σ [some (.ref (G.2.2.2 k)), some (.ref (G.2.2.2 r1)), some (.int w2), some (.int w3), none, none, none, none, none] [] 9 := by
  unfold lb_X3_growAhead_9 at h
  refine ww_iload_n 10 X dX3_growAhead_9 rfl rfl ?_
  refine ww_if_lt 140 13 X dX3_growAhead_10 (by decide) rfl h (fun h => ?_) (fun h => ?_)
  · skip
    obtain rfl := Option.some.inj h
    refine ww_kill [0, 1, 3] (L' := [none, none, some (.int w2), none, none, none, none, none, none]) rfl ?_
    exact K
  · skip
    refine ww_aload_n 14 X dX3_growAhead_13 rfl rfl ?_
    refine ww_getr (ci := 3) (j := 3) 17 X cf_3 tw_X3_27 (by decide) rfl hk dX3_growAhead_14 rfl ?_
    refine ww_iload_n 18 X dX3_growAhead_17 rfl rfl ?_
    obtain ⟨x2, hx2, h⟩ := hb_bind_of h
    refine ww_callV (ci := 1) (rest := []) (st' := [.int x2]) 21 X (ct_X1_at (hb_l Γ) G (hc_rf k 3) (hc_kr_3_3 hk) w3 σ hx2) cw_X3_82 rfl (by decide) (hc_kr_3_3 hk) rfl ⟨by decide, by decide⟩ (Nat.le_of_ble_eq_true rfl) rfl rfl dX3_growAhead_18 rfl ?_
    refine ww_istore 23 X (L' := [some (.ref (G.2.2.2 k)), some (.ref (G.2.2.2 r1)), some (.int w2), some (.int w3), some (.int x2), none, none, none, none]) dX3_growAhead_21 rfl (Nat.le_of_ble_eq_true rfl) rfl rfl ?_
    refine ww_aload_n 24 X dX3_growAhead_23 rfl rfl ?_
    refine ww_iload 26 X dX3_growAhead_24 rfl rfl ?_
    obtain ⟨x3, hx3, h⟩ := hb_bind_of h
    refine ww_callV (ci := 2) (rest := []) (st' := [.int x3]) 29 X (ct_X2_openChoices (hb_l Γ) G r1 hr1 x2 σ hx3) cw_X3_86 rfl (by decide) hr1 rfl ⟨by decide, by decide⟩ (Nat.le_of_ble_eq_true rfl) rfl rfl dX3_growAhead_26 rfl ?_
    refine ww_istore 31 X (L' := [some (.ref (G.2.2.2 k)), some (.ref (G.2.2.2 r1)), some (.int w2), some (.int w3), some (.int x2), some (.int x3), none, none, none]) dX3_growAhead_29 rfl (Nat.le_of_ble_eq_true rfl) rfl rfl ?_
    refine ww_aload_n 32 X dX3_growAhead_31 rfl rfl ?_
    refine ww_getr (ci := 3) (j := 7) 35 X cf_3 tw_X3_40 (by decide) rfl hk dX3_growAhead_32 rfl ?_
    refine ww_iload 37 X dX3_growAhead_35 rfl rfl ?_
    obtain ⟨x4, hx4, h⟩ := hb_bind_of h
    refine ww_callV (ci := 1) (rest := []) (st' := [.int x4]) 40 X (ct_X1_at (hb_l Γ) G (hc_rf k 7) (hc_kr_3_7 hk) x2 σ hx4) cw_X3_82 rfl (by decide) (hc_kr_3_7 hk) rfl ⟨by decide, by decide⟩ (Nat.le_of_ble_eq_true rfl) rfl rfl dX3_growAhead_37 rfl ?_
    refine ww_istore 42 X (L' := [some (.ref (G.2.2.2 k)), some (.ref (G.2.2.2 r1)), some (.int w2), some (.int w3), some (.int x2), some (.int x3), some (.int x4), none, none]) dX3_growAhead_40 rfl (Nat.le_of_ble_eq_true rfl) rfl rfl ?_
    refine ww_iconst (v := 0) 43 X dX3_growAhead_42 rfl (by decide) ?_
    refine ww_istore 45 X (L' := [some (.ref (G.2.2.2 k)), some (.ref (G.2.2.2 r1)), some (.int w2), some (.int w3), some (.int x2), some (.int x3), some (.int x4), some (.int 0), none]) dX3_growAhead_43 rfl (Nat.le_of_ble_eq_true rfl) rfl rfl ?_
    obtain ⟨t11, ht11, h⟩ := hb_bind_of h
    refine lw_X3_growAhead_45 X k hk r1 hr1 w2 w3 x2 x3 σ (x4, 0) t11 ht11 ?_
    refine ww_iload_n 100 X dX3_growAhead_99 rfl rfl ?_
    refine ww_if_ne 117 103 X dX3_growAhead_100 (by decide) rfl h (fun h => ?_) (fun h => ?_)
    · skip
      refine ww_iload 105 X dX3_growAhead_103 rfl rfl ?_
      refine ww_aload_n 106 X dX3_growAhead_105 rfl rfl ?_
      refine ww_getr (ci := 3) (j := 7) 109 X cf_3 tw_X3_40 (by decide) rfl hk dX3_growAhead_106 rfl ?_
      refine ww_iload 111 X dX3_growAhead_109 rfl rfl ?_
      obtain ⟨x14, hx14, h⟩ := hb_bind_of h
      refine ww_callV (ci := 1) (rest := [.int t11]) (st' := [.int x14, .int t11]) 114 X (ct_X1_at (hb_l Γ) G (hc_rf k 7) (hc_kr_3_7 hk) x2 σ hx14) cw_X3_82 rfl (by decide) (hc_kr_3_7 hk) rfl ⟨by decide, by decide⟩ (Nat.le_of_ble_eq_true rfl) rfl rfl dX3_growAhead_111 rfl ?_
      refine ww_icmp_eq 121 117 X dX3_growAhead_114 (by decide) rfl h (fun h => ?_) (fun h => ?_)
      · skip
        refine ww_iconst (v := 0) 122 X dX3_growAhead_121 rfl (by decide) ?_
        refine ww_kill [2] (L' := [some (.ref (G.2.2.2 k)), some (.ref (G.2.2.2 r1)), none, some (.int w3), some (.int x2), none, some (.int t11), none, none]) rfl ?_
        exact jw_X3_growAhead_122 X k hk r1 hr1 w3 x2 t11 0 σ h K
      · skip
        refine ww_kill [2] (L' := [some (.ref (G.2.2.2 k)), some (.ref (G.2.2.2 r1)), none, some (.int w3), some (.int x2), none, some (.int t11), none, none]) rfl ?_
        exact jw_X3_growAhead_117 X k hk r1 hr1 w3 x2 t11 σ h K
    · skip
      refine ww_kill [2] (L' := [some (.ref (G.2.2.2 k)), some (.ref (G.2.2.2 r1)), none, some (.int w3), some (.int x2), none, some (.int t11), none, none]) rfl ?_
      exact jw_X3_growAhead_117 X k hk r1 hr1 w3 x2 t11 σ h K
def ll_X3_growAhead_9 (k : Nat) (r1 : Nat) : (Int32 × Int32 × hb_Mem) → Option (Int32 × hb_Mem) := hb_lp (fun s => lb_X3_growAhead_9 k r1 s.1 s.2.1 s.2.2) hb_F
theorem lw_X3_growAhead_9 {Γ : hb_Ctx} {G : hb_Gam} {Q : State → Prop} (X : hb_X Γ cX3_growAhead 9 RX3 ΛC G 3 69)  (k : Nat) (hk : hb_is ΛC k 3) (r1 : Nat) (hr1 : hb_is ΛC r1 2) (s : (Int32 × Int32 × hb_Mem)) (t : (Int32 × hb_Mem)) (h : ll_X3_growAhead_9 k r1 s = some t) (K : (fun t : (Int32 × hb_Mem) => hb_W Γ ΛC G 9 Q t.2 [none, none, some (.int t.1), none, none, none, none, none, none] [] 140) t) : hb_W Γ ΛC G 9 Q s.2.2 [some (.ref (G.2.2.2 k)), some (.ref (G.2.2.2 r1)), some (.int s.1), some (.int s.2.1), none, none, none, none, none] [] 9 :=
  hb_lp_w (P := fun s : (Int32 × Int32 × hb_Mem) => hb_W Γ ΛC G 9 Q s.2.2 [some (.ref (G.2.2.2 k)), some (.ref (G.2.2.2 r1)), some (.int s.1), some (.int s.2.1), none, none, none, none, none] [] 9) (E := (fun t : (Int32 × hb_Mem) => hb_W Γ ΛC G 9 Q t.2 [none, none, some (.int t.1), none, none, none, none, none, none] [] 140)) (fun s x hx K => lk_X3_growAhead_9 X k hk r1 hr1 s.1 s.2.1 s.2.2 hx K) _ s t h K
def fn_X3_growAhead (k : Nat) (r1 : Nat) (σ : hb_Mem) : Option (Int32 × hb_Mem) :=
hb_nm ((σ k 2) - 1) fun v1 =>
(ll_X3_growAhead_9 k r1 (0, v1, σ)).bind fun t15 =>
(hb_bz t15.1).bind fun z16 =>
some (t15.1, t15.2)
set_option maxRecDepth 100000 in
set_option maxHeartbeats 4000000 in
theorem wk_X3_growAhead {Γ : hb_Ctx} {G : hb_Gam} {Q : State → Prop} (X : hb_X Γ cX3_growAhead 9 RX3 ΛC G 3 69) (hr : hb_ret Γ = (some .boolean)) (k : Nat) (hk : hb_is ΛC k 3) (r1 : Nat) (hr1 : hb_is ΛC r1 2) (σ : hb_Mem) {x : (Int32 × hb_Mem)} (h : fn_X3_growAhead k r1 σ = some x) (K : Q = hb_Q Γ ΛC G (some (.int x.1)) x.2) : hb_W Γ ΛC G 9 Q σ [some (.ref (G.2.2.2 k)), some (.ref (G.2.2.2 r1)), none, none, none, none, none, none, none] [] 0 := by
  unfold fn_X3_growAhead at h
  refine ww_iconst (v := 0) 1 X dX3_growAhead_0 rfl (by decide) ?_
  refine ww_istore_n 2 X (L' := [some (.ref (G.2.2.2 k)), some (.ref (G.2.2.2 r1)), some (.int 0), none, none, none, none, none, none]) dX3_growAhead_1 rfl (Nat.le_of_ble_eq_true rfl) rfl rfl ?_
  refine ww_aload_n 3 X dX3_growAhead_2 rfl rfl ?_
  refine ww_geti (ci := 3) (j := 2) 6 X cf_3 tw_X3_19 (by decide) rfl hk dX3_growAhead_3 rfl ?_
  refine ww_iconst (v := 1) 7 X dX3_growAhead_6 rfl (by decide) ?_
  refine ww_isub 8 X dX3_growAhead_7 rfl ?_
  obtain ⟨v1, ev1, h⟩ := hb_nm_of h
  rw [← ev1]
  refine ww_istore_n 9 X (L' := [some (.ref (G.2.2.2 k)), some (.ref (G.2.2.2 r1)), some (.int 0), some (.int v1), none, none, none, none, none]) dX3_growAhead_8 rfl (Nat.le_of_ble_eq_true rfl) rfl rfl ?_
  obtain ⟨t15, ht15, h⟩ := hb_bind_of h
  refine lw_X3_growAhead_9 X k hk r1 hr1 (0, v1, σ) t15 ht15 ?_
  refine ww_iload_n 141 X dX3_growAhead_140 rfl rfl ?_
  obtain ⟨z16, hz16, h⟩ := hb_bind_of h
  replace hz16 := (hb_bz_of hz16).1
  obtain rfl := Option.some.inj h
  exact ww_ret_z X hr hz16 K dX3_growAhead_141
theorem ct_X3_growAhead (l : Launch) (G : hb_Gam) (k : Nat) (hk : hb_is ΛC k 3) (r1 : Nat) (hr1 : hb_is ΛC r1 2) (σ : hb_Mem) {x : (Int32 × hb_Mem)} (h : fn_X3_growAhead k r1 σ = some x) : hb_C l yX3_growAhead cX3_growAhead 9 (some .boolean) 3 69 ΛC G [.ref (G.2.2.2 k), .ref (G.2.2.2 r1)] σ (some (.int x.1)) x.2 :=
  hb_C.of [some (.ref (G.2.2.2 k)), some (.ref (G.2.2.2 r1)), none, none, none, none, none, none, none] (by decide +kernel) (Nat.le_of_ble_eq_true rfl) (by intro v hv; simp only [List.mem_cons, List.not_mem_nil, or_false] at hv; rcases hv with rfl | rfl <;> rfl) rfl (hb_pad [.ref (G.2.2.2 k), .ref (G.2.2.2 r1)] 7) (fun Γ X hr => wk_X3_growAhead X hr k hk r1 hr1 σ h rfl)
def lb_X3_findAhead_4 (k : Nat) (r1 : Nat) (w2 : Int32) (w3 : Int32) (σ : hb_Mem) : Option ((Int32 × Int32 × hb_Mem) ⊕ hb_Mem) :=
if w2 = 0 then (
some (.inr σ))
else (
if 1024 < w3 then (
some (.inr σ))
else (
(fn_X3_growAhead k r1 σ).bind fun x1 =>
hb_nm (w3 + 1) fun v2 =>
some (.inl (x1.1, v2, x1.2))))
set_option maxRecDepth 100000 in
set_option maxHeartbeats 4000000 in
theorem lk_X3_findAhead_4 {Γ : hb_Ctx} {G : hb_Gam} {Q : State → Prop} (X : hb_X Γ cX3_findAhead 4 RX3 ΛC G 4 97)  (k : Nat) (hk : hb_is ΛC k 3) (r1 : Nat) (hr1 : hb_is ΛC r1 2) (w2 : Int32) (w3 : Int32) (σ : hb_Mem) {x : ((Int32 × Int32 × hb_Mem) ⊕ hb_Mem)} (h : lb_X3_findAhead_4 k r1 w2 w3 σ = some x) (K : Sum.elim (fun s : (Int32 × Int32 × hb_Mem) => hb_W Γ ΛC G 4 Q s.2.2 [some (.ref (G.2.2.2 k)), some (.ref (G.2.2.2 r1)), some (.int s.1), some (.int s.2.1)] [] 4) (fun t : hb_Mem => hb_W Γ ΛC G 4 Q t [none, none, none, none] [] 27) x) : hb_W Γ ΛC G 4 Q σ [some (.ref (G.2.2.2 k)), some (.ref (G.2.2.2 r1)), some (.int w2), some (.int w3)] [] 4 := by
  unfold lb_X3_findAhead_4 at h
  refine ww_iload_n 5 X dX3_findAhead_4 rfl rfl ?_
  refine ww_if_eq 27 8 X dX3_findAhead_5 (by decide) rfl h (fun h => ?_) (fun h => ?_)
  · skip
    obtain rfl := Option.some.inj h
    refine ww_kill [0, 1, 2, 3] (L' := [none, none, none, none]) rfl ?_
    exact K
  · skip
    refine ww_iload_n 9 X dX3_findAhead_8 rfl rfl ?_
    refine ww_sipush (v := 1024) 12 X dX3_findAhead_9 rfl (by decide) ?_
    refine ww_icmp_gt 27 15 X dX3_findAhead_12 (by decide) rfl h (fun h => ?_) (fun h => ?_)
    · skip
      obtain rfl := Option.some.inj h
      refine ww_kill [0, 1, 2, 3] (L' := [none, none, none, none]) rfl ?_
      exact K
    · skip
      refine ww_aload_n 16 X dX3_findAhead_15 rfl rfl ?_
      refine ww_aload_n 17 X dX3_findAhead_16 rfl rfl ?_
      obtain ⟨x1, hx1, h⟩ := hb_bind_of h
      refine ww_callV (ci := 3) (rest := []) (st' := [.int x1.1]) 20 X (ct_X3_growAhead (hb_l Γ) G k hk r1 hr1 σ hx1) cw_X3_105 rfl (by decide) hk rfl ⟨by decide, by decide⟩ (Nat.le_of_ble_eq_true rfl) rfl rfl dX3_findAhead_17 rfl ?_
      refine ww_istore_n 21 X (L' := [some (.ref (G.2.2.2 k)), some (.ref (G.2.2.2 r1)), some (.int x1.1), some (.int w3)]) dX3_findAhead_20 rfl (Nat.le_of_ble_eq_true rfl) rfl rfl ?_
      obtain ⟨v2, ev2, h⟩ := hb_nm_of h
      refine ww_iinc 24 X (L' := [some (.ref (G.2.2.2 k)), some (.ref (G.2.2.2 r1)), some (.int x1.1), some (.int v2)]) dX3_findAhead_21 rfl rfl ev2.symm rfl ?_
      refine ww_goto 4 X dX3_findAhead_24 (by decide) ?_
      obtain rfl := Option.some.inj h
      exact K
def ll_X3_findAhead_4 (k : Nat) (r1 : Nat) : (Int32 × Int32 × hb_Mem) → Option hb_Mem := hb_lp (fun s => lb_X3_findAhead_4 k r1 s.1 s.2.1 s.2.2) hb_F
theorem lw_X3_findAhead_4 {Γ : hb_Ctx} {G : hb_Gam} {Q : State → Prop} (X : hb_X Γ cX3_findAhead 4 RX3 ΛC G 4 97)  (k : Nat) (hk : hb_is ΛC k 3) (r1 : Nat) (hr1 : hb_is ΛC r1 2) (s : (Int32 × Int32 × hb_Mem)) (t : hb_Mem) (h : ll_X3_findAhead_4 k r1 s = some t) (K : (fun t : hb_Mem => hb_W Γ ΛC G 4 Q t [none, none, none, none] [] 27) t) : hb_W Γ ΛC G 4 Q s.2.2 [some (.ref (G.2.2.2 k)), some (.ref (G.2.2.2 r1)), some (.int s.1), some (.int s.2.1)] [] 4 :=
  hb_lp_w (P := fun s : (Int32 × Int32 × hb_Mem) => hb_W Γ ΛC G 4 Q s.2.2 [some (.ref (G.2.2.2 k)), some (.ref (G.2.2.2 r1)), some (.int s.1), some (.int s.2.1)] [] 4) (E := (fun t : hb_Mem => hb_W Γ ΛC G 4 Q t [none, none, none, none] [] 27)) (fun s x hx K => lk_X3_findAhead_4 X k hk r1 hr1 s.1 s.2.1 s.2.2 hx K) _ s t h K
def fn_X3_findAhead (k : Nat) (r1 : Nat) (σ : hb_Mem) : Option hb_Mem :=
(ll_X3_findAhead_4 k r1 (1, 0, σ)).bind fun t3 =>
some t3
set_option maxRecDepth 100000 in
set_option maxHeartbeats 4000000 in
theorem wk_X3_findAhead {Γ : hb_Ctx} {G : hb_Gam} {Q : State → Prop} (X : hb_X Γ cX3_findAhead 4 RX3 ΛC G 4 97) (hr : hb_ret Γ = none) (k : Nat) (hk : hb_is ΛC k 3) (r1 : Nat) (hr1 : hb_is ΛC r1 2) (σ : hb_Mem) {x : hb_Mem} (h : fn_X3_findAhead k r1 σ = some x) (K : Q = hb_Q Γ ΛC G none x) : hb_W Γ ΛC G 4 Q σ [some (.ref (G.2.2.2 k)), some (.ref (G.2.2.2 r1)), none, none] [] 0 := by
  unfold fn_X3_findAhead at h
  refine ww_iconst (v := 1) 1 X dX3_findAhead_0 rfl (by decide) ?_
  refine ww_istore_n 2 X (L' := [some (.ref (G.2.2.2 k)), some (.ref (G.2.2.2 r1)), some (.int 1), none]) dX3_findAhead_1 rfl (Nat.le_of_ble_eq_true rfl) rfl rfl ?_
  refine ww_iconst (v := 0) 3 X dX3_findAhead_2 rfl (by decide) ?_
  refine ww_istore_n 4 X (L' := [some (.ref (G.2.2.2 k)), some (.ref (G.2.2.2 r1)), some (.int 1), some (.int 0)]) dX3_findAhead_3 rfl (Nat.le_of_ble_eq_true rfl) rfl rfl ?_
  obtain ⟨t3, ht3, h⟩ := hb_bind_of h
  refine lw_X3_findAhead_4 X k hk r1 hr1 (1, 0, σ) t3 ht3 ?_
  obtain rfl := Option.some.inj h
  exact ww_ret_v X hr K dX3_findAhead_27
theorem ct_X3_findAhead (l : Launch) (G : hb_Gam) (k : Nat) (hk : hb_is ΛC k 3) (r1 : Nat) (hr1 : hb_is ΛC r1 2) (σ : hb_Mem) {x : hb_Mem} (h : fn_X3_findAhead k r1 σ = some x) : hb_C l yX3_findAhead cX3_findAhead 4 none 4 97 ΛC G [.ref (G.2.2.2 k), .ref (G.2.2.2 r1)] σ none x :=
  hb_C.of [some (.ref (G.2.2.2 k)), some (.ref (G.2.2.2 r1)), none, none] (by decide +kernel) (Nat.le_of_ble_eq_true rfl) (by intro v hv; simp only [List.mem_cons, List.not_mem_nil, or_false] at hv; rcases hv with rfl | rfl <;> rfl) rfl (hb_pad [.ref (G.2.2.2 k), .ref (G.2.2.2 r1)] 2) (fun Γ X hr => wk_X3_findAhead X hr k hk r1 hr1 σ h rfl)
def jn_X3_findEnds_64 (k : Nat) (r1 : Nat) (j2 : Int32) (s1 : Int32) (s2 : Int32) (σ : hb_Mem) : Option ((Int32 × hb_Mem) ⊕ hb_Mem) :=
(fn_X5_oneIf s2).bind fun x6 =>
hb_nm (hb_up σ k 9 (s1 ||| (x6 <<< (j2 &&& 31)))) fun σ7 =>
hb_nm (j2 + 1) fun v8 =>
some (.inl (v8, σ7))
set_option maxRecDepth 100000 in
set_option maxHeartbeats 4000000 in
theorem jw_X3_findEnds_64 {Γ : hb_Ctx} {G : hb_Gam} {Q : State → Prop} (X : hb_X Γ cX3_findEnds 4 RX3 ΛC G 3 63)  (k : Nat) (hk : hb_is ΛC k 3) (r1 : Nat) (hr1 : hb_is ΛC r1 2) (j2 : Int32) (s1 : Int32) (s2 : Int32) (σ : hb_Mem) {x : ((Int32 × hb_Mem) ⊕ hb_Mem)} (h : jn_X3_findEnds_64 k r1 j2 s1 s2 σ = some x) (K : Sum.elim (fun s : (Int32 × hb_Mem) => hb_W Γ ΛC G 4 Q s.2 [some (.ref (G.2.2.2 k)), some (.ref (G.2.2.2 r1)), some (.int s.1), none] [] 12) (fun t : hb_Mem => hb_W Γ ΛC G 4 Q t [none, none, none, none] [] 79) x) : hb_W Γ ΛC G 4 Q σ [some (.ref (G.2.2.2 k)), some (.ref (G.2.2.2 r1)), some (.int j2), none] [.int s2, .int s1, .ref (G.2.2.2 k)] 64 := by
  unfold jn_X3_findEnds_64 at h
  obtain ⟨x6, hx6, h⟩ := hb_bind_of h
  refine ww_callSN (rest := [.int s1, .ref (G.2.2.2 k)]) (st' := [.int x6, .int s1, .ref (G.2.2.2 k)]) 67 X (ct_X5_oneIf (hb_l Γ) G s2 σ hx6) cw_X3_115 rfl ⟨by decide, by decide⟩ (Nat.le_of_ble_eq_true rfl) rfl rfl dX3_findEnds_64 rfl ?_
  refine ww_iload_n 68 X dX3_findEnds_67 rfl rfl ?_
  refine ww_ishl 69 X dX3_findEnds_68 rfl ?_
  refine ww_ior 70 X dX3_findEnds_69 rfl ?_
  obtain ⟨σ7, eσ7, h⟩ := hb_nm_of h
  refine ww_put (ci := 3) (j := 9) (ty := .int) 73 X cf_3 cg_3 tw_X3_46 (by decide) rfl rfl rfl rfl rfl hk eσ7.symm dX3_findEnds_70 rfl ?_
  obtain ⟨v8, ev8, h⟩ := hb_nm_of h
  refine ww_iinc 76 X (L' := [some (.ref (G.2.2.2 k)), some (.ref (G.2.2.2 r1)), some (.int v8), none]) dX3_findEnds_73 rfl rfl ev8.symm rfl ?_
  refine ww_goto 12 X dX3_findEnds_76 (by decide) ?_
  obtain rfl := Option.some.inj h
  exact K
def jn_X3_findEnds_40 (k : Nat) (r1 : Nat) (j2 : Int32) (j3 : Int32) (s1 : Int32) (s2 : Int32) (σ : hb_Mem) : Option ((Int32 × hb_Mem) ⊕ hb_Mem) :=
(fn_X5_oneIf s2).bind fun x4 =>
hb_nm (hb_up σ k 8 (s1 ||| (x4 <<< (j2 &&& 31)))) fun σ5 =>
if j3 = 1 then (
jn_X3_findEnds_64 k r1 j2 (σ5 k 9) 1 σ5)
else (
jn_X3_findEnds_64 k r1 j2 (σ5 k 9) 0 σ5)
set_option maxRecDepth 100000 in
set_option maxHeartbeats 4000000 in
theorem jw_X3_findEnds_40 {Γ : hb_Ctx} {G : hb_Gam} {Q : State → Prop} (X : hb_X Γ cX3_findEnds 4 RX3 ΛC G 3 63)  (k : Nat) (hk : hb_is ΛC k 3) (r1 : Nat) (hr1 : hb_is ΛC r1 2) (j2 : Int32) (j3 : Int32) (s1 : Int32) (s2 : Int32) (σ : hb_Mem) {x : ((Int32 × hb_Mem) ⊕ hb_Mem)} (h : jn_X3_findEnds_40 k r1 j2 j3 s1 s2 σ = some x) (K : Sum.elim (fun s : (Int32 × hb_Mem) => hb_W Γ ΛC G 4 Q s.2 [some (.ref (G.2.2.2 k)), some (.ref (G.2.2.2 r1)), some (.int s.1), none] [] 12) (fun t : hb_Mem => hb_W Γ ΛC G 4 Q t [none, none, none, none] [] 79) x) : hb_W Γ ΛC G 4 Q σ [some (.ref (G.2.2.2 k)), some (.ref (G.2.2.2 r1)), some (.int j2), some (.int j3)] [.int s2, .int s1, .ref (G.2.2.2 k)] 40 := by
  unfold jn_X3_findEnds_40 at h
  obtain ⟨x4, hx4, h⟩ := hb_bind_of h
  refine ww_callSN (rest := [.int s1, .ref (G.2.2.2 k)]) (st' := [.int x4, .int s1, .ref (G.2.2.2 k)]) 43 X (ct_X5_oneIf (hb_l Γ) G s2 σ hx4) cw_X3_115 rfl ⟨by decide, by decide⟩ (Nat.le_of_ble_eq_true rfl) rfl rfl dX3_findEnds_40 rfl ?_
  refine ww_iload_n 44 X dX3_findEnds_43 rfl rfl ?_
  refine ww_ishl 45 X dX3_findEnds_44 rfl ?_
  refine ww_ior 46 X dX3_findEnds_45 rfl ?_
  obtain ⟨σ5, eσ5, h⟩ := hb_nm_of h
  refine ww_put (ci := 3) (j := 8) (ty := .int) 49 X cf_3 cg_3 tw_X3_43 (by decide) rfl rfl rfl rfl rfl hk eσ5.symm dX3_findEnds_46 rfl ?_
  refine ww_aload_n 50 X dX3_findEnds_49 rfl rfl ?_
  refine ww_aload_n 51 X dX3_findEnds_50 rfl rfl ?_
  refine ww_geti (ci := 3) (j := 9) 54 X cf_3 tw_X3_46 (by decide) rfl hk dX3_findEnds_51 rfl ?_
  refine ww_iload_n 55 X dX3_findEnds_54 rfl rfl ?_
  refine ww_iconst (v := 1) 56 X dX3_findEnds_55 rfl (by decide) ?_
  refine ww_icmp_ne 63 59 X dX3_findEnds_56 (by decide) rfl h (fun h => ?_) (fun h => ?_)
  · skip
    refine ww_iconst (v := 1) 60 X dX3_findEnds_59 rfl (by decide) ?_
    refine ww_goto 64 X dX3_findEnds_60 (by decide) ?_
    refine ww_kill [3] (L' := [some (.ref (G.2.2.2 k)), some (.ref (G.2.2.2 r1)), some (.int j2), none]) rfl ?_
    exact jw_X3_findEnds_64 X k hk r1 hr1 j2 (σ5 k 9) 1 σ5 h K
  · skip
    refine ww_iconst (v := 0) 64 X dX3_findEnds_63 rfl (by decide) ?_
    refine ww_kill [3] (L' := [some (.ref (G.2.2.2 k)), some (.ref (G.2.2.2 r1)), some (.int j2), none]) rfl ?_
    exact jw_X3_findEnds_64 X k hk r1 hr1 j2 (σ5 k 9) 0 σ5 h K
def lb_X3_findEnds_12 (k : Nat) (r1 : Nat) (w2 : Int32) (σ : hb_Mem) : Option ((Int32 × hb_Mem) ⊕ hb_Mem) :=
if (σ k 1) ≤ w2 then (
some (.inr σ))
else (
(fn_X2_kindOf r1 w2 σ).bind fun x3 =>
if x3 = 0 then (
jn_X3_findEnds_40 k r1 w2 x3 (σ k 8) 0 σ)
else (
jn_X3_findEnds_40 k r1 w2 x3 (σ k 8) 1 σ))
set_option maxRecDepth 100000 in
set_option maxHeartbeats 4000000 in
theorem lk_X3_findEnds_12 {Γ : hb_Ctx} {G : hb_Gam} {Q : State → Prop} (X : hb_X Γ cX3_findEnds 4 RX3 ΛC G 3 63)  (k : Nat) (hk : hb_is ΛC k 3) (r1 : Nat) (hr1 : hb_is ΛC r1 2) (w2 : Int32) (σ : hb_Mem) {x : ((Int32 × hb_Mem) ⊕ hb_Mem)} (h : lb_X3_findEnds_12 k r1 w2 σ = some x) (K : Sum.elim (fun s : (Int32 × hb_Mem) => hb_W Γ ΛC G 4 Q s.2 [some (.ref (G.2.2.2 k)), some (.ref (G.2.2.2 r1)), some (.int s.1), none] [] 12) (fun t : hb_Mem => hb_W Γ ΛC G 4 Q t [none, none, none, none] [] 79) x) : hb_W Γ ΛC G 4 Q σ [some (.ref (G.2.2.2 k)), some (.ref (G.2.2.2 r1)), some (.int w2), none] [] 12 := by
  unfold lb_X3_findEnds_12 at h
  refine ww_iload_n 13 X dX3_findEnds_12 rfl rfl ?_
  refine ww_aload_n 14 X dX3_findEnds_13 rfl rfl ?_
  refine ww_geti (ci := 3) (j := 1) 17 X cf_3 tw_X3_15 (by decide) rfl hk dX3_findEnds_14 rfl ?_
  refine ww_icmp_ge 79 20 X dX3_findEnds_17 (by decide) rfl h (fun h => ?_) (fun h => ?_)
  · skip
    obtain rfl := Option.some.inj h
    refine ww_kill [0, 1, 2] (L' := [none, none, none, none]) rfl ?_
    exact K
  · skip
    refine ww_aload_n 21 X dX3_findEnds_20 rfl rfl ?_
    refine ww_iload_n 22 X dX3_findEnds_21 rfl rfl ?_
    obtain ⟨x3, hx3, h⟩ := hb_bind_of h
    refine ww_callV (ci := 2) (rest := []) (st' := [.int x3]) 25 X (ct_X2_kindOf (hb_l Γ) G r1 hr1 w2 σ hx3) cw_X3_112 rfl (by decide) hr1 rfl ⟨by decide, by decide⟩ (Nat.le_of_ble_eq_true rfl) rfl rfl dX3_findEnds_22 rfl ?_
    refine ww_istore_n 26 X (L' := [some (.ref (G.2.2.2 k)), some (.ref (G.2.2.2 r1)), some (.int w2), some (.int x3)]) dX3_findEnds_25 rfl (Nat.le_of_ble_eq_true rfl) rfl rfl ?_
    refine ww_aload_n 27 X dX3_findEnds_26 rfl rfl ?_
    refine ww_aload_n 28 X dX3_findEnds_27 rfl rfl ?_
    refine ww_geti (ci := 3) (j := 8) 31 X cf_3 tw_X3_43 (by decide) rfl hk dX3_findEnds_28 rfl ?_
    refine ww_iload_n 32 X dX3_findEnds_31 rfl rfl ?_
    refine ww_if_eq 39 35 X dX3_findEnds_32 (by decide) rfl h (fun h => ?_) (fun h => ?_)
    · skip
      refine ww_iconst (v := 0) 40 X dX3_findEnds_39 rfl (by decide) ?_
      exact jw_X3_findEnds_40 X k hk r1 hr1 w2 x3 (σ k 8) 0 σ h K
    · skip
      refine ww_iconst (v := 1) 36 X dX3_findEnds_35 rfl (by decide) ?_
      refine ww_goto 40 X dX3_findEnds_36 (by decide) ?_
      exact jw_X3_findEnds_40 X k hk r1 hr1 w2 x3 (σ k 8) 1 σ h K
def ll_X3_findEnds_12 (k : Nat) (r1 : Nat) : (Int32 × hb_Mem) → Option hb_Mem := hb_lp (fun s => lb_X3_findEnds_12 k r1 s.1 s.2) hb_F
theorem lw_X3_findEnds_12 {Γ : hb_Ctx} {G : hb_Gam} {Q : State → Prop} (X : hb_X Γ cX3_findEnds 4 RX3 ΛC G 3 63)  (k : Nat) (hk : hb_is ΛC k 3) (r1 : Nat) (hr1 : hb_is ΛC r1 2) (s : (Int32 × hb_Mem)) (t : hb_Mem) (h : ll_X3_findEnds_12 k r1 s = some t) (K : (fun t : hb_Mem => hb_W Γ ΛC G 4 Q t [none, none, none, none] [] 79) t) : hb_W Γ ΛC G 4 Q s.2 [some (.ref (G.2.2.2 k)), some (.ref (G.2.2.2 r1)), some (.int s.1), none] [] 12 :=
  hb_lp_w (P := fun s : (Int32 × hb_Mem) => hb_W Γ ΛC G 4 Q s.2 [some (.ref (G.2.2.2 k)), some (.ref (G.2.2.2 r1)), some (.int s.1), none] [] 12) (E := (fun t : hb_Mem => hb_W Γ ΛC G 4 Q t [none, none, none, none] [] 79)) (fun s x hx K => lk_X3_findEnds_12 X k hk r1 hr1 s.1 s.2 hx K) _ s t h K
def fn_X3_findEnds (k : Nat) (r1 : Nat) (σ : hb_Mem) : Option hb_Mem :=
hb_nm (hb_up σ k 8 0) fun σ1 =>
hb_nm (hb_up σ1 k 9 0) fun σ2 =>
(ll_X3_findEnds_12 k r1 (0, σ2)).bind fun t9 =>
some t9
set_option maxRecDepth 100000 in
set_option maxHeartbeats 4000000 in
theorem wk_X3_findEnds {Γ : hb_Ctx} {G : hb_Gam} {Q : State → Prop} (X : hb_X Γ cX3_findEnds 4 RX3 ΛC G 3 63) (hr : hb_ret Γ = none) (k : Nat) (hk : hb_is ΛC k 3) (r1 : Nat) (hr1 : hb_is ΛC r1 2) (σ : hb_Mem) {x : hb_Mem} (h : fn_X3_findEnds k r1 σ = some x) (K : Q = hb_Q Γ ΛC G none x) : hb_W Γ ΛC G 4 Q σ [some (.ref (G.2.2.2 k)), some (.ref (G.2.2.2 r1)), none, none] [] 0 := by
  unfold fn_X3_findEnds at h
  refine ww_aload_n 1 X dX3_findEnds_0 rfl rfl ?_
  refine ww_iconst (v := 0) 2 X dX3_findEnds_1 rfl (by decide) ?_
  obtain ⟨σ1, eσ1, h⟩ := hb_nm_of h
  refine ww_put (ci := 3) (j := 8) (ty := .int) 5 X cf_3 cg_3 tw_X3_43 (by decide) rfl rfl rfl rfl rfl hk eσ1.symm dX3_findEnds_2 rfl ?_
  refine ww_aload_n 6 X dX3_findEnds_5 rfl rfl ?_
  refine ww_iconst (v := 0) 7 X dX3_findEnds_6 rfl (by decide) ?_
  obtain ⟨σ2, eσ2, h⟩ := hb_nm_of h
  refine ww_put (ci := 3) (j := 9) (ty := .int) 10 X cf_3 cg_3 tw_X3_46 (by decide) rfl rfl rfl rfl rfl hk eσ2.symm dX3_findEnds_7 rfl ?_
  refine ww_iconst (v := 0) 11 X dX3_findEnds_10 rfl (by decide) ?_
  refine ww_istore_n 12 X (L' := [some (.ref (G.2.2.2 k)), some (.ref (G.2.2.2 r1)), some (.int 0), none]) dX3_findEnds_11 rfl (Nat.le_of_ble_eq_true rfl) rfl rfl ?_
  obtain ⟨t9, ht9, h⟩ := hb_bind_of h
  refine lw_X3_findEnds_12 X k hk r1 hr1 (0, σ2) t9 ht9 ?_
  obtain rfl := Option.some.inj h
  exact ww_ret_v X hr K dX3_findEnds_79
theorem ct_X3_findEnds (l : Launch) (G : hb_Gam) (k : Nat) (hk : hb_is ΛC k 3) (r1 : Nat) (hr1 : hb_is ΛC r1 2) (σ : hb_Mem) {x : hb_Mem} (h : fn_X3_findEnds k r1 σ = some x) : hb_C l yX3_findEnds cX3_findEnds 4 none 3 63 ΛC G [.ref (G.2.2.2 k), .ref (G.2.2.2 r1)] σ none x :=
  hb_C.of [some (.ref (G.2.2.2 k)), some (.ref (G.2.2.2 r1)), none, none] (by decide +kernel) (Nat.le_of_ble_eq_true rfl) (by intro v hv; simp only [List.mem_cons, List.not_mem_nil, or_false] at hv; rcases hv with rfl | rfl <;> rfl) rfl (hb_pad [.ref (G.2.2.2 k), .ref (G.2.2.2 r1)] 2) (fun Γ X hr => wk_X3_findEnds X hr k hk r1 hr1 σ h rfl)
def lb_X3_layWay_19 (k : Nat) (p1 : Int32) (w2 : Int32) (w3 : Int32) (σ : hb_Mem) : Option ((Int32 × Int32 × hb_Mem) ⊕ hb_Mem) :=
if w3 < 0 then (
some (.inr σ))
else (
(fn_X1_put (hc_rf k 11) w3 w2 σ).bind fun x4 =>
(fn_X1_at (hc_rf k 5) w2 x4).bind fun x5 =>
hb_nm (w3 + (-1)) fun v6 =>
some (.inl (x5, v6, x4)))
set_option maxRecDepth 100000 in
set_option maxHeartbeats 4000000 in
theorem lk_X3_layWay_19 {Γ : hb_Ctx} {G : hb_Gam} {Q : State → Prop} (X : hb_X Γ cX3_layWay 4 RX3 ΛC G 1 22)  (k : Nat) (hk : hb_is ΛC k 3) (p1 : Int32) (w2 : Int32) (w3 : Int32) (σ : hb_Mem) {x : ((Int32 × Int32 × hb_Mem) ⊕ hb_Mem)} (h : lb_X3_layWay_19 k p1 w2 w3 σ = some x) (K : Sum.elim (fun s : (Int32 × Int32 × hb_Mem) => hb_W Γ ΛC G 4 Q s.2.2 [some (.ref (G.2.2.2 k)), none, some (.int s.1), some (.int s.2.1)] [] 19) (fun t : hb_Mem => hb_W Γ ΛC G 4 Q t [none, none, none, none] [] 47) x) : hb_W Γ ΛC G 4 Q σ [some (.ref (G.2.2.2 k)), none, some (.int w2), some (.int w3)] [] 19 := by
  unfold lb_X3_layWay_19 at h
  refine ww_iload_n 20 X dX3_layWay_19 rfl rfl ?_
  refine ww_if_lt 47 23 X dX3_layWay_20 (by decide) rfl h (fun h => ?_) (fun h => ?_)
  · skip
    obtain rfl := Option.some.inj h
    refine ww_kill [0, 2, 3] (L' := [none, none, none, none]) rfl ?_
    exact K
  · skip
    refine ww_aload_n 24 X dX3_layWay_23 rfl rfl ?_
    refine ww_getr (ci := 3) (j := 11) 27 X cf_3 tw_X3_52 (by decide) rfl hk dX3_layWay_24 rfl ?_
    refine ww_iload_n 28 X dX3_layWay_27 rfl rfl ?_
    refine ww_iload_n 29 X dX3_layWay_28 rfl rfl ?_
    obtain ⟨x4, hx4, h⟩ := hb_bind_of h
    refine ww_callV (ci := 1) (rest := []) (st' := []) 32 X (ct_X1_put (hb_l Γ) G (hc_rf k 11) (hc_kr_3_11 hk) w3 w2 σ hx4) cw_X3_101 rfl (by decide) (hc_kr_3_11 hk) rfl ⟨by decide, by decide⟩ (Nat.le_of_ble_eq_true rfl) rfl rfl dX3_layWay_29 rfl ?_
    refine ww_aload_n 33 X dX3_layWay_32 rfl rfl ?_
    refine ww_getr (ci := 3) (j := 5) 36 X cf_3 tw_X3_34 (by decide) rfl hk dX3_layWay_33 rfl ?_
    refine ww_iload_n 37 X dX3_layWay_36 rfl rfl ?_
    obtain ⟨x5, hx5, h⟩ := hb_bind_of h
    refine ww_callV (ci := 1) (rest := []) (st' := [.int x5]) 40 X (ct_X1_at (hb_l Γ) G (hc_rf k 5) (hc_kr_3_5 hk) w2 x4 hx5) cw_X3_82 rfl (by decide) (hc_kr_3_5 hk) rfl ⟨by decide, by decide⟩ (Nat.le_of_ble_eq_true rfl) rfl rfl dX3_layWay_37 rfl ?_
    refine ww_istore_n 41 X (L' := [some (.ref (G.2.2.2 k)), none, some (.int x5), some (.int w3)]) dX3_layWay_40 rfl (Nat.le_of_ble_eq_true rfl) rfl rfl ?_
    obtain ⟨v6, ev6, h⟩ := hb_nm_of h
    refine ww_iinc 44 X (L' := [some (.ref (G.2.2.2 k)), none, some (.int x5), some (.int v6)]) dX3_layWay_41 rfl rfl ev6.symm rfl ?_
    refine ww_goto 19 X dX3_layWay_44 (by decide) ?_
    obtain rfl := Option.some.inj h
    exact K
def ll_X3_layWay_19 (k : Nat) (p1 : Int32) : (Int32 × Int32 × hb_Mem) → Option hb_Mem := hb_lp (fun s => lb_X3_layWay_19 k p1 s.1 s.2.1 s.2.2) hb_F
theorem lw_X3_layWay_19 {Γ : hb_Ctx} {G : hb_Gam} {Q : State → Prop} (X : hb_X Γ cX3_layWay 4 RX3 ΛC G 1 22)  (k : Nat) (hk : hb_is ΛC k 3) (p1 : Int32) (s : (Int32 × Int32 × hb_Mem)) (t : hb_Mem) (h : ll_X3_layWay_19 k p1 s = some t) (K : (fun t : hb_Mem => hb_W Γ ΛC G 4 Q t [none, none, none, none] [] 47) t) : hb_W Γ ΛC G 4 Q s.2.2 [some (.ref (G.2.2.2 k)), none, some (.int s.1), some (.int s.2.1)] [] 19 :=
  hb_lp_w (P := fun s : (Int32 × Int32 × hb_Mem) => hb_W Γ ΛC G 4 Q s.2.2 [some (.ref (G.2.2.2 k)), none, some (.int s.1), some (.int s.2.1)] [] 19) (E := (fun t : hb_Mem => hb_W Γ ΛC G 4 Q t [none, none, none, none] [] 47)) (fun s x hx K => lk_X3_layWay_19 X k hk p1 s.1 s.2.1 s.2.2 hx K) _ s t h K
def fn_X3_layWay (k : Nat) (p1 : Int32) (σ : hb_Mem) : Option hb_Mem :=
(fn_X1_at (hc_rf k 4) p1 σ).bind fun x1 =>
hb_nm (hb_up σ k 10 x1) fun σ2 =>
hb_nm (σ2 k 10) fun v3 =>
(ll_X3_layWay_19 k p1 (p1, v3, σ2)).bind fun t7 =>
some t7
set_option maxRecDepth 100000 in
set_option maxHeartbeats 4000000 in
theorem wk_X3_layWay {Γ : hb_Ctx} {G : hb_Gam} {Q : State → Prop} (X : hb_X Γ cX3_layWay 4 RX3 ΛC G 1 22) (hr : hb_ret Γ = none) (k : Nat) (hk : hb_is ΛC k 3) (p1 : Int32) (σ : hb_Mem) {x : hb_Mem} (h : fn_X3_layWay k p1 σ = some x) (K : Q = hb_Q Γ ΛC G none x) : hb_W Γ ΛC G 4 Q σ [some (.ref (G.2.2.2 k)), some (.int p1), none, none] [] 0 := by
  unfold fn_X3_layWay at h
  refine ww_aload_n 1 X dX3_layWay_0 rfl rfl ?_
  refine ww_aload_n 2 X dX3_layWay_1 rfl rfl ?_
  refine ww_getr (ci := 3) (j := 4) 5 X cf_3 tw_X3_31 (by decide) rfl hk dX3_layWay_2 rfl ?_
  refine ww_iload_n 6 X dX3_layWay_5 rfl rfl ?_
  obtain ⟨x1, hx1, h⟩ := hb_bind_of h
  refine ww_callV (ci := 1) (rest := [.ref (G.2.2.2 k)]) (st' := [.int x1, .ref (G.2.2.2 k)]) 9 X (ct_X1_at (hb_l Γ) G (hc_rf k 4) (hc_kr_3_4 hk) p1 σ hx1) cw_X3_82 rfl (by decide) (hc_kr_3_4 hk) rfl ⟨by decide, by decide⟩ (Nat.le_of_ble_eq_true rfl) rfl rfl dX3_layWay_6 rfl ?_
  obtain ⟨σ2, eσ2, h⟩ := hb_nm_of h
  refine ww_put (ci := 3) (j := 10) (ty := .int) 12 X cf_3 cg_3 tw_X3_49 (by decide) rfl rfl rfl rfl rfl hk eσ2.symm dX3_layWay_9 rfl ?_
  refine ww_iload_n 13 X dX3_layWay_12 rfl rfl ?_
  refine ww_istore_n 14 X (L' := [some (.ref (G.2.2.2 k)), some (.int p1), some (.int p1), none]) dX3_layWay_13 rfl (Nat.le_of_ble_eq_true rfl) rfl rfl ?_
  refine ww_aload_n 15 X dX3_layWay_14 rfl rfl ?_
  refine ww_geti (ci := 3) (j := 10) 18 X cf_3 tw_X3_49 (by decide) rfl hk dX3_layWay_15 rfl ?_
  obtain ⟨v3, ev3, h⟩ := hb_nm_of h
  rw [← ev3]
  refine ww_istore_n 19 X (L' := [some (.ref (G.2.2.2 k)), some (.int p1), some (.int p1), some (.int v3)]) dX3_layWay_18 rfl (Nat.le_of_ble_eq_true rfl) rfl rfl ?_
  obtain ⟨t7, ht7, h⟩ := hb_bind_of h
  refine ww_kill [1] (L' := [some (.ref (G.2.2.2 k)), none, some (.int p1), some (.int v3)]) rfl ?_
  refine lw_X3_layWay_19 X k hk p1 (p1, v3, σ2) t7 ht7 ?_
  obtain rfl := Option.some.inj h
  exact ww_ret_v X hr K dX3_layWay_47
theorem ct_X3_layWay (l : Launch) (G : hb_Gam) (k : Nat) (hk : hb_is ΛC k 3) (p1 : Int32) (σ : hb_Mem) {x : hb_Mem} (h : fn_X3_layWay k p1 σ = some x) : hb_C l yX3_layWay cX3_layWay 4 none 1 22 ΛC G [.ref (G.2.2.2 k), .int p1] σ none x :=
  hb_C.of [some (.ref (G.2.2.2 k)), some (.int p1), none, none] (by decide +kernel) (Nat.le_of_ble_eq_true rfl) (by intro v hv; simp only [List.mem_cons, List.not_mem_nil, or_false] at hv; rcases hv with rfl | rfl <;> rfl) rfl (hb_pad [.ref (G.2.2.2 k), .int p1] 2) (fun Γ X hr => wk_X3_layWay X hr k hk p1 σ h rfl)
def jn_X3_findWay_56 (k : Nat) (j1 : Int32) (σ : hb_Mem) : Option ((Int32 × hb_Mem) ⊕ hb_Mem) :=
hb_nm (j1 + 1) fun v5 =>
some (.inl (v5, σ))
set_option maxRecDepth 100000 in
set_option maxHeartbeats 4000000 in
theorem jw_X3_findWay_56 {Γ : hb_Ctx} {G : hb_Gam} {Q : State → Prop} (X : hb_X Γ cX3_findWay 2 RX3 ΛC G 2 45)  (k : Nat) (hk : hb_is ΛC k 3) (j1 : Int32) (σ : hb_Mem) {x : ((Int32 × hb_Mem) ⊕ hb_Mem)} (h : jn_X3_findWay_56 k j1 σ = some x) (K : Sum.elim (fun s : (Int32 × hb_Mem) => hb_W Γ ΛC G 2 Q s.2 [some (.ref (G.2.2.2 k)), some (.int s.1)] [] 7) (fun t : hb_Mem => hb_W Γ ΛC G 2 Q t [none, none] [] 62) x) : hb_W Γ ΛC G 2 Q σ [some (.ref (G.2.2.2 k)), some (.int j1)] [] 56 := by
  unfold jn_X3_findWay_56 at h
  obtain ⟨v5, ev5, h⟩ := hb_nm_of h
  refine ww_iinc 59 X (L' := [some (.ref (G.2.2.2 k)), some (.int v5)]) dX3_findWay_56 rfl rfl ev5.symm rfl ?_
  refine ww_goto 7 X dX3_findWay_59 (by decide) ?_
  obtain rfl := Option.some.inj h
  exact K
def lb_X3_findWay_7 (k : Nat) (w1 : Int32) (σ : hb_Mem) : Option ((Int32 × hb_Mem) ⊕ hb_Mem) :=
if (σ k 2) ≤ w1 then (
some (.inr σ))
else (
if (σ k 10) = (-1) then (
(fn_X1_at (hc_rf k 3) w1 σ).bind fun x2 =>
(fn_X5_pageAt x2).bind fun x3 =>
(fn_X3_isIn x3 (σ k 9)).bind fun x4 =>
if x4 = 0 then (
jn_X3_findWay_56 k w1 σ)
else (
(fn_X1_at (hc_rf k 3) w1 σ).bind fun x6 =>
(fn_X3_layWay k x6 σ).bind fun x7 =>
jn_X3_findWay_56 k w1 x7))
else (
some (.inr σ)))
set_option maxRecDepth 100000 in
set_option maxHeartbeats 4000000 in
theorem lk_X3_findWay_7 {Γ : hb_Ctx} {G : hb_Gam} {Q : State → Prop} (X : hb_X Γ cX3_findWay 2 RX3 ΛC G 2 45)  (k : Nat) (hk : hb_is ΛC k 3) (w1 : Int32) (σ : hb_Mem) {x : ((Int32 × hb_Mem) ⊕ hb_Mem)} (h : lb_X3_findWay_7 k w1 σ = some x) (K : Sum.elim (fun s : (Int32 × hb_Mem) => hb_W Γ ΛC G 2 Q s.2 [some (.ref (G.2.2.2 k)), some (.int s.1)] [] 7) (fun t : hb_Mem => hb_W Γ ΛC G 2 Q t [none, none] [] 62) x) : hb_W Γ ΛC G 2 Q σ [some (.ref (G.2.2.2 k)), some (.int w1)] [] 7 := by
  unfold lb_X3_findWay_7 at h
  refine ww_iload_n 8 X dX3_findWay_7 rfl rfl ?_
  refine ww_aload_n 9 X dX3_findWay_8 rfl rfl ?_
  refine ww_geti (ci := 3) (j := 2) 12 X cf_3 tw_X3_19 (by decide) rfl hk dX3_findWay_9 rfl ?_
  refine ww_icmp_ge 62 15 X dX3_findWay_12 (by decide) rfl h (fun h => ?_) (fun h => ?_)
  · skip
    obtain rfl := Option.some.inj h
    refine ww_kill [0, 1] (L' := [none, none]) rfl ?_
    exact K
  · skip
    refine ww_aload_n 16 X dX3_findWay_15 rfl rfl ?_
    refine ww_geti (ci := 3) (j := 10) 19 X cf_3 tw_X3_49 (by decide) rfl hk dX3_findWay_16 rfl ?_
    refine ww_iconst (v := (-1)) 20 X dX3_findWay_19 rfl (by decide) ?_
    refine ww_icmp_ne 62 23 X dX3_findWay_20 (by decide) rfl h (fun h => ?_) (fun h => ?_)
    · skip
      refine ww_aload_n 24 X dX3_findWay_23 rfl rfl ?_
      refine ww_getr (ci := 3) (j := 3) 27 X cf_3 tw_X3_27 (by decide) rfl hk dX3_findWay_24 rfl ?_
      refine ww_iload_n 28 X dX3_findWay_27 rfl rfl ?_
      obtain ⟨x2, hx2, h⟩ := hb_bind_of h
      refine ww_callV (ci := 1) (rest := []) (st' := [.int x2]) 31 X (ct_X1_at (hb_l Γ) G (hc_rf k 3) (hc_kr_3_3 hk) w1 σ hx2) cw_X3_82 rfl (by decide) (hc_kr_3_3 hk) rfl ⟨by decide, by decide⟩ (Nat.le_of_ble_eq_true rfl) rfl rfl dX3_findWay_28 rfl ?_
      obtain ⟨x3, hx3, h⟩ := hb_bind_of h
      refine ww_callSN (rest := []) (st' := [.int x3]) 34 X (ct_X5_pageAt (hb_l Γ) G x2 σ hx3) cw_X3_109 rfl ⟨by decide, by decide⟩ (Nat.le_of_ble_eq_true rfl) rfl rfl dX3_findWay_31 rfl ?_
      refine ww_aload_n 35 X dX3_findWay_34 rfl rfl ?_
      refine ww_geti (ci := 3) (j := 9) 38 X cf_3 tw_X3_46 (by decide) rfl hk dX3_findWay_35 rfl ?_
      obtain ⟨x4, hx4, h⟩ := hb_bind_of h
      refine ww_callS (rest := []) (st' := [.int x4]) 41 X (ct_X3_isIn (hb_l Γ) G x3 (σ k 9) σ hx4) cw_X3_89 rfl ⟨by decide, by decide⟩ (Nat.le_of_ble_eq_true rfl) rfl rfl dX3_findWay_38 rfl ?_
      refine ww_if_eq 56 44 X dX3_findWay_41 (by decide) rfl h (fun h => ?_) (fun h => ?_)
      · skip
        exact jw_X3_findWay_56 X k hk w1 σ h K
      · skip
        refine ww_aload_n 45 X dX3_findWay_44 rfl rfl ?_
        refine ww_aload_n 46 X dX3_findWay_45 rfl rfl ?_
        refine ww_getr (ci := 3) (j := 3) 49 X cf_3 tw_X3_27 (by decide) rfl hk dX3_findWay_46 rfl ?_
        refine ww_iload_n 50 X dX3_findWay_49 rfl rfl ?_
        obtain ⟨x6, hx6, h⟩ := hb_bind_of h
        refine ww_callV (ci := 1) (rest := [.ref (G.2.2.2 k)]) (st' := [.int x6, .ref (G.2.2.2 k)]) 53 X (ct_X1_at (hb_l Γ) G (hc_rf k 3) (hc_kr_3_3 hk) w1 σ hx6) cw_X3_82 rfl (by decide) (hc_kr_3_3 hk) rfl ⟨by decide, by decide⟩ (Nat.le_of_ble_eq_true rfl) rfl rfl dX3_findWay_50 rfl ?_
        obtain ⟨x7, hx7, h⟩ := hb_bind_of h
        refine ww_callV (ci := 3) (rest := []) (st' := []) 56 X (ct_X3_layWay (hb_l Γ) G k hk x6 σ hx7) cw_X3_119 rfl (by decide) hk rfl ⟨by decide, by decide⟩ (Nat.le_of_ble_eq_true rfl) rfl rfl dX3_findWay_53 rfl ?_
        exact jw_X3_findWay_56 X k hk w1 x7 h K
    · skip
      obtain rfl := Option.some.inj h
      refine ww_kill [0, 1] (L' := [none, none]) rfl ?_
      exact K
def ll_X3_findWay_7 (k : Nat) : (Int32 × hb_Mem) → Option hb_Mem := hb_lp (fun s => lb_X3_findWay_7 k s.1 s.2) hb_F
theorem lw_X3_findWay_7 {Γ : hb_Ctx} {G : hb_Gam} {Q : State → Prop} (X : hb_X Γ cX3_findWay 2 RX3 ΛC G 2 45)  (k : Nat) (hk : hb_is ΛC k 3) (s : (Int32 × hb_Mem)) (t : hb_Mem) (h : ll_X3_findWay_7 k s = some t) (K : (fun t : hb_Mem => hb_W Γ ΛC G 2 Q t [none, none] [] 62) t) : hb_W Γ ΛC G 2 Q s.2 [some (.ref (G.2.2.2 k)), some (.int s.1)] [] 7 :=
  hb_lp_w (P := fun s : (Int32 × hb_Mem) => hb_W Γ ΛC G 2 Q s.2 [some (.ref (G.2.2.2 k)), some (.int s.1)] [] 7) (E := (fun t : hb_Mem => hb_W Γ ΛC G 2 Q t [none, none] [] 62)) (fun s x hx K => lk_X3_findWay_7 X k hk s.1 s.2 hx K) _ s t h K
def fn_X3_findWay (k : Nat) (σ : hb_Mem) : Option hb_Mem :=
hb_nm (hb_up σ k 10 (-1)) fun σ1 =>
(ll_X3_findWay_7 k (0, σ1)).bind fun t8 =>
some t8
set_option maxRecDepth 100000 in
set_option maxHeartbeats 4000000 in
theorem wk_X3_findWay {Γ : hb_Ctx} {G : hb_Gam} {Q : State → Prop} (X : hb_X Γ cX3_findWay 2 RX3 ΛC G 2 45) (hr : hb_ret Γ = none) (k : Nat) (hk : hb_is ΛC k 3) (σ : hb_Mem) {x : hb_Mem} (h : fn_X3_findWay k σ = some x) (K : Q = hb_Q Γ ΛC G none x) : hb_W Γ ΛC G 2 Q σ [some (.ref (G.2.2.2 k)), none] [] 0 := by
  unfold fn_X3_findWay at h
  refine ww_aload_n 1 X dX3_findWay_0 rfl rfl ?_
  refine ww_iconst (v := (-1)) 2 X dX3_findWay_1 rfl (by decide) ?_
  obtain ⟨σ1, eσ1, h⟩ := hb_nm_of h
  refine ww_put (ci := 3) (j := 10) (ty := .int) 5 X cf_3 cg_3 tw_X3_49 (by decide) rfl rfl rfl rfl rfl hk eσ1.symm dX3_findWay_2 rfl ?_
  refine ww_iconst (v := 0) 6 X dX3_findWay_5 rfl (by decide) ?_
  refine ww_istore_n 7 X (L' := [some (.ref (G.2.2.2 k)), some (.int 0)]) dX3_findWay_6 rfl (Nat.le_of_ble_eq_true rfl) rfl rfl ?_
  obtain ⟨t8, ht8, h⟩ := hb_bind_of h
  refine lw_X3_findWay_7 X k hk (0, σ1) t8 ht8 ?_
  obtain rfl := Option.some.inj h
  exact ww_ret_v X hr K dX3_findWay_62
theorem ct_X3_findWay (l : Launch) (G : hb_Gam) (k : Nat) (hk : hb_is ΛC k 3) (σ : hb_Mem) {x : hb_Mem} (h : fn_X3_findWay k σ = some x) : hb_C l yX3_findWay cX3_findWay 2 none 2 45 ΛC G [.ref (G.2.2.2 k)] σ none x :=
  hb_C.of [some (.ref (G.2.2.2 k)), none] (by decide +kernel) (Nat.le_of_ble_eq_true rfl) (by intro v hv; simp only [List.mem_cons, List.not_mem_nil, or_false] at hv; subst hv; rfl) rfl (hb_pad [.ref (G.2.2.2 k)] 1) (fun Γ X hr => wk_X3_findWay X hr k hk σ h rfl)
def fn_X3_make (k : Nat) (r1 : Nat) (σ : hb_Mem) : Option hb_Mem :=
hb_nm (hb_up σ k 1 (σ r1 0)) fun σ1 =>
(fn_X3_findPlaces k r1 σ1).bind fun x2 =>
(fn_X3_findAhead k r1 x2).bind fun x3 =>
(fn_X3_findEnds k r1 x3).bind fun x4 =>
(fn_X3_findWay k x4).bind fun x5 =>
hb_nm (hb_up x5 k 0 1) fun σ6 =>
some σ6
set_option maxRecDepth 100000 in
set_option maxHeartbeats 4000000 in
theorem wk_X3_make {Γ : hb_Ctx} {G : hb_Gam} {Q : State → Prop} (X : hb_X Γ cX3_make 2 RX3 ΛC G 5 120) (hr : hb_ret Γ = none) (k : Nat) (hk : hb_is ΛC k 3) (r1 : Nat) (hr1 : hb_is ΛC r1 2) (σ : hb_Mem) {x : hb_Mem} (h : fn_X3_make k r1 σ = some x) (K : Q = hb_Q Γ ΛC G none x) : hb_W Γ ΛC G 2 Q σ [some (.ref (G.2.2.2 k)), some (.ref (G.2.2.2 r1))] [] 0 := by
  unfold fn_X3_make at h
  refine ww_aload_n 1 X dX3_make_0 rfl rfl ?_
  refine ww_aload_n 2 X dX3_make_1 rfl rfl ?_
  refine ww_getiN (ci := 2) (j := 0) 5 X cf_2 tw_X3_55 (by decide) rfl hr1 dX3_make_2 rfl ?_
  obtain ⟨σ1, eσ1, h⟩ := hb_nm_of h
  refine ww_put (ci := 3) (j := 1) (ty := .int) 8 X cf_3 cg_3 tw_X3_15 (by decide) rfl rfl rfl rfl rfl hk eσ1.symm dX3_make_5 rfl ?_
  refine ww_aload_n 9 X dX3_make_8 rfl rfl ?_
  refine ww_aload_n 10 X dX3_make_9 rfl rfl ?_
  obtain ⟨x2, hx2, h⟩ := hb_bind_of h
  refine ww_callV (ci := 3) (rest := []) (st' := []) 13 X (ct_X3_findPlaces (hb_l Γ) G k hk r1 hr1 σ1 hx2) cw_X3_58 rfl (by decide) hk rfl ⟨by decide, by decide⟩ (Nat.le_of_ble_eq_true rfl) rfl rfl dX3_make_10 rfl ?_
  refine ww_aload_n 14 X dX3_make_13 rfl rfl ?_
  refine ww_aload_n 15 X dX3_make_14 rfl rfl ?_
  obtain ⟨x3, hx3, h⟩ := hb_bind_of h
  refine ww_callV (ci := 3) (rest := []) (st' := []) 18 X (ct_X3_findAhead (hb_l Γ) G k hk r1 hr1 x2 hx3) cw_X3_62 rfl (by decide) hk rfl ⟨by decide, by decide⟩ (Nat.le_of_ble_eq_true rfl) rfl rfl dX3_make_15 rfl ?_
  refine ww_aload_n 19 X dX3_make_18 rfl rfl ?_
  refine ww_aload_n 20 X dX3_make_19 rfl rfl ?_
  obtain ⟨x4, hx4, h⟩ := hb_bind_of h
  refine ww_callV (ci := 3) (rest := []) (st' := []) 23 X (ct_X3_findEnds (hb_l Γ) G k hk r1 hr1 x3 hx4) cw_X3_65 rfl (by decide) hk rfl ⟨by decide, by decide⟩ (Nat.le_of_ble_eq_true rfl) rfl rfl dX3_make_20 rfl ?_
  refine ww_aload_n 24 X dX3_make_23 rfl rfl ?_
  obtain ⟨x5, hx5, h⟩ := hb_bind_of h
  refine ww_callV (ci := 3) (rest := []) (st' := []) 27 X (ct_X3_findWay (hb_l Γ) G k hk x4 hx5) cw_X3_68 rfl (by decide) hk rfl ⟨by decide, by decide⟩ (Nat.le_of_ble_eq_true rfl) rfl rfl dX3_make_24 rfl ?_
  refine ww_aload_n 28 X dX3_make_27 rfl rfl ?_
  refine ww_iconst (v := 1) 29 X dX3_make_28 rfl (by decide) ?_
  obtain ⟨σ6, eσ6, h⟩ := hb_nm_of h
  refine ww_put (ci := 3) (j := 0) (ty := .boolean) 32 X cf_3 cg_3 tw_X3_9 (by decide) rfl rfl rfl rfl rfl hk eσ6.symm dX3_make_29 rfl ?_
  obtain rfl := Option.some.inj h
  exact ww_ret_v X hr K dX3_make_32
theorem ct_X3_make (l : Launch) (G : hb_Gam) (k : Nat) (hk : hb_is ΛC k 3) (r1 : Nat) (hr1 : hb_is ΛC r1 2) (σ : hb_Mem) {x : hb_Mem} (h : fn_X3_make k r1 σ = some x) : hb_C l yX3_make cX3_make 2 none 5 120 ΛC G [.ref (G.2.2.2 k), .ref (G.2.2.2 r1)] σ none x :=
  hb_C.of [some (.ref (G.2.2.2 k)), some (.ref (G.2.2.2 r1))] (by decide +kernel) (Nat.le_of_ble_eq_true rfl) (by intro v hv; simp only [List.mem_cons, List.not_mem_nil, or_false] at hv; rcases hv with rfl | rfl <;> rfl) rfl (hb_pad [.ref (G.2.2.2 k), .ref (G.2.2.2 r1)] 0) (fun Γ X hr => wk_X3_make X hr k hk r1 hr1 σ h rfl)
def fn_X3_choiceOnWay (k : Nat) (p1 : Int32) (σ : hb_Mem) : Option Int32 :=
if (σ k 10) ≤ p1 then (
some (-5))
else (
(fn_X1_at (hc_rf k 11) (p1 + 1) σ).bind fun x1 =>
(fn_X1_at (hc_rf k 6) x1 σ).bind fun x2 =>
some x2)
set_option maxRecDepth 100000 in
set_option maxHeartbeats 4000000 in
theorem wk_X3_choiceOnWay {Γ : hb_Ctx} {G : hb_Gam} {Q : State → Prop} (X : hb_X Γ cX3_choiceOnWay 2 RX3 ΛC G 1 21) (hr : hb_ret Γ = (some .int)) (k : Nat) (hk : hb_is ΛC k 3) (p1 : Int32) (σ : hb_Mem) {x : Int32} (h : fn_X3_choiceOnWay k p1 σ = some x) (K : Q = hb_Q Γ ΛC G (some (.int x)) σ) : hb_W Γ ΛC G 2 Q σ [some (.ref (G.2.2.2 k)), some (.int p1)] [] 0 := by
  unfold fn_X3_choiceOnWay at h
  refine ww_iload_n 1 X dX3_choiceOnWay_0 rfl rfl ?_
  refine ww_aload_n 2 X dX3_choiceOnWay_1 rfl rfl ?_
  refine ww_geti (ci := 3) (j := 10) 5 X cf_3 tw_X3_49 (by decide) rfl hk dX3_choiceOnWay_2 rfl ?_
  refine ww_icmp_ge 28 8 X dX3_choiceOnWay_5 (by decide) rfl h (fun h => ?_) (fun h => ?_)
  · skip
    refine ww_bipush (v := (-5)) 30 X dX3_choiceOnWay_28 rfl (by decide) ?_
    obtain rfl := Option.some.inj h
    exact ww_ret_i X hr K dX3_choiceOnWay_30
  · skip
    refine ww_aload_n 9 X dX3_choiceOnWay_8 rfl rfl ?_
    refine ww_getr (ci := 3) (j := 6) 12 X cf_3 tw_X3_37 (by decide) rfl hk dX3_choiceOnWay_9 rfl ?_
    refine ww_aload_n 13 X dX3_choiceOnWay_12 rfl rfl ?_
    refine ww_getr (ci := 3) (j := 11) 16 X cf_3 tw_X3_52 (by decide) rfl hk dX3_choiceOnWay_13 rfl ?_
    refine ww_iload_n 17 X dX3_choiceOnWay_16 rfl rfl ?_
    refine ww_iconst (v := 1) 18 X dX3_choiceOnWay_17 rfl (by decide) ?_
    refine ww_iadd 19 X dX3_choiceOnWay_18 rfl ?_
    obtain ⟨x1, hx1, h⟩ := hb_bind_of h
    refine ww_callV (ci := 1) (rest := [.ref (G.2.2.2 (hc_rf k 6))]) (st' := [.int x1, .ref (G.2.2.2 (hc_rf k 6))]) 22 X (ct_X1_at (hb_l Γ) G (hc_rf k 11) (hc_kr_3_11 hk) (p1 + 1) σ hx1) cw_X3_82 rfl (by decide) (hc_kr_3_11 hk) rfl ⟨by decide, by decide⟩ (Nat.le_of_ble_eq_true rfl) rfl rfl dX3_choiceOnWay_19 rfl ?_
    obtain ⟨x2, hx2, h⟩ := hb_bind_of h
    refine ww_callV (ci := 1) (rest := []) (st' := [.int x2]) 25 X (ct_X1_at (hb_l Γ) G (hc_rf k 6) (hc_kr_3_6 hk) x1 σ hx2) cw_X3_82 rfl (by decide) (hc_kr_3_6 hk) rfl ⟨by decide, by decide⟩ (Nat.le_of_ble_eq_true rfl) rfl rfl dX3_choiceOnWay_22 rfl ?_
    refine ww_goto 30 X dX3_choiceOnWay_25 (by decide) ?_
    obtain rfl := Option.some.inj h
    exact ww_ret_i X hr K dX3_choiceOnWay_30
theorem ct_X3_choiceOnWay (l : Launch) (G : hb_Gam) (k : Nat) (hk : hb_is ΛC k 3) (p1 : Int32) (σ : hb_Mem) {x : Int32} (h : fn_X3_choiceOnWay k p1 σ = some x) : hb_C l yX3_choiceOnWay cX3_choiceOnWay 2 (some .int) 1 21 ΛC G [.ref (G.2.2.2 k), .int p1] σ (some (.int x)) σ :=
  hb_C.of [some (.ref (G.2.2.2 k)), some (.int p1)] (by decide +kernel) (Nat.le_of_ble_eq_true rfl) (by intro v hv; simp only [List.mem_cons, List.not_mem_nil, or_false] at hv; rcases hv with rfl | rfl <;> rfl) rfl (hb_pad [.ref (G.2.2.2 k), .int p1] 0) (fun Γ X hr => wk_X3_choiceOnWay X hr k hk p1 σ h rfl)
def fn_X3_isStuck (k : Nat) (p1 : Int32) (σ : hb_Mem) : Option Int32 :=
(fn_X3_isReached k p1 σ).bind fun x1 =>
if x1 = 0 then (
some 0)
else (
(fn_X5_pageAt p1).bind fun x2 =>
(fn_X3_isIn x2 (σ k 8)).bind fun x3 =>
if x3 = 0 then (
(fn_X1_at (hc_rf k 7) p1 σ).bind fun x4 =>
if (x4 &&& (σ k 8)) = 0 then (
some 1)
else (
some 0))
else (
some 0))
set_option maxRecDepth 100000 in
set_option maxHeartbeats 4000000 in
theorem wk_X3_isStuck {Γ : hb_Ctx} {G : hb_Gam} {Q : State → Prop} (X : hb_X Γ cX3_isStuck 2 RX3 ΛC G 2 42) (hr : hb_ret Γ = (some .boolean)) (k : Nat) (hk : hb_is ΛC k 3) (p1 : Int32) (σ : hb_Mem) {x : Int32} (h : fn_X3_isStuck k p1 σ = some x) (K : Q = hb_Q Γ ΛC G (some (.int x)) σ) : hb_W Γ ΛC G 2 Q σ [some (.ref (G.2.2.2 k)), some (.int p1)] [] 0 := by
  unfold fn_X3_isStuck at h
  refine ww_aload_n 1 X dX3_isStuck_0 rfl rfl ?_
  refine ww_iload_n 2 X dX3_isStuck_1 rfl rfl ?_
  obtain ⟨x1, hx1, h⟩ := hb_bind_of h
  refine ww_callV (ci := 3) (rest := []) (st' := [.int x1]) 5 X (ct_X3_isReached (hb_l Γ) G k hk p1 σ hx1) cw_X3_97 rfl (by decide) hk rfl ⟨by decide, by decide⟩ (Nat.le_of_ble_eq_true rfl) rfl rfl dX3_isStuck_2 rfl ?_
  refine ww_if_eq 42 8 X dX3_isStuck_5 (by decide) rfl h (fun h => ?_) (fun h => ?_)
  · skip
    refine ww_iconst (v := 0) 43 X dX3_isStuck_42 rfl (by decide) ?_
    obtain rfl := Option.some.inj h
    exact ww_ret_z X hr (by decide) K dX3_isStuck_43
  · skip
    refine ww_iload_n 9 X dX3_isStuck_8 rfl rfl ?_
    obtain ⟨x2, hx2, h⟩ := hb_bind_of h
    refine ww_callSN (rest := []) (st' := [.int x2]) 12 X (ct_X5_pageAt (hb_l Γ) G p1 σ hx2) cw_X3_109 rfl ⟨by decide, by decide⟩ (Nat.le_of_ble_eq_true rfl) rfl rfl dX3_isStuck_9 rfl ?_
    refine ww_aload_n 13 X dX3_isStuck_12 rfl rfl ?_
    refine ww_geti (ci := 3) (j := 8) 16 X cf_3 tw_X3_43 (by decide) rfl hk dX3_isStuck_13 rfl ?_
    obtain ⟨x3, hx3, h⟩ := hb_bind_of h
    refine ww_callS (rest := []) (st' := [.int x3]) 19 X (ct_X3_isIn (hb_l Γ) G x2 (σ k 8) σ hx3) cw_X3_89 rfl ⟨by decide, by decide⟩ (Nat.le_of_ble_eq_true rfl) rfl rfl dX3_isStuck_16 rfl ?_
    refine ww_if_ne 42 22 X dX3_isStuck_19 (by decide) rfl h (fun h => ?_) (fun h => ?_)
    · skip
      refine ww_aload_n 23 X dX3_isStuck_22 rfl rfl ?_
      refine ww_getr (ci := 3) (j := 7) 26 X cf_3 tw_X3_40 (by decide) rfl hk dX3_isStuck_23 rfl ?_
      refine ww_iload_n 27 X dX3_isStuck_26 rfl rfl ?_
      obtain ⟨x4, hx4, h⟩ := hb_bind_of h
      refine ww_callV (ci := 1) (rest := []) (st' := [.int x4]) 30 X (ct_X1_at (hb_l Γ) G (hc_rf k 7) (hc_kr_3_7 hk) p1 σ hx4) cw_X3_82 rfl (by decide) (hc_kr_3_7 hk) rfl ⟨by decide, by decide⟩ (Nat.le_of_ble_eq_true rfl) rfl rfl dX3_isStuck_27 rfl ?_
      refine ww_aload_n 31 X dX3_isStuck_30 rfl rfl ?_
      refine ww_geti (ci := 3) (j := 8) 34 X cf_3 tw_X3_43 (by decide) rfl hk dX3_isStuck_31 rfl ?_
      refine ww_iand 35 X dX3_isStuck_34 rfl ?_
      refine ww_if_ne 42 38 X dX3_isStuck_35 (by decide) rfl h (fun h => ?_) (fun h => ?_)
      · skip
        refine ww_iconst (v := 1) 39 X dX3_isStuck_38 rfl (by decide) ?_
        refine ww_goto 43 X dX3_isStuck_39 (by decide) ?_
        obtain rfl := Option.some.inj h
        exact ww_ret_z X hr (by decide) K dX3_isStuck_43
      · skip
        refine ww_iconst (v := 0) 43 X dX3_isStuck_42 rfl (by decide) ?_
        obtain rfl := Option.some.inj h
        exact ww_ret_z X hr (by decide) K dX3_isStuck_43
    · skip
      refine ww_iconst (v := 0) 43 X dX3_isStuck_42 rfl (by decide) ?_
      obtain rfl := Option.some.inj h
      exact ww_ret_z X hr (by decide) K dX3_isStuck_43
theorem ct_X3_isStuck (l : Launch) (G : hb_Gam) (k : Nat) (hk : hb_is ΛC k 3) (p1 : Int32) (σ : hb_Mem) {x : Int32} (h : fn_X3_isStuck k p1 σ = some x) : hb_C l yX3_isStuck cX3_isStuck 2 (some .boolean) 2 42 ΛC G [.ref (G.2.2.2 k), .int p1] σ (some (.int x)) σ :=
  hb_C.of [some (.ref (G.2.2.2 k)), some (.int p1)] (by decide +kernel) (Nat.le_of_ble_eq_true rfl) (by intro v hv; simp only [List.mem_cons, List.not_mem_nil, or_false] at hv; rcases hv with rfl | rfl <;> rfl) rfl (hb_pad [.ref (G.2.2.2 k), .int p1] 0) (fun Γ X hr => wk_X3_isStuck X hr k hk p1 σ h rfl)
def lb_X3_placesWith_4 (k : Nat) (p1 : Int32) (w2 : Int32) (w3 : Int32) (σ : hb_Mem) : Option ((Int32 × Int32) ⊕ Int32) :=
if 32 ≤ w3 then (
some (.inr w2))
else (
(fn_X5_placeOf p1 w3).bind fun x1 =>
(fn_X3_isReached k x1 σ).bind fun x2 =>
(fn_X5_oneIf x2).bind fun x3 =>
hb_nm (w2 + x3) fun v4 =>
hb_nm (w3 + 1) fun v5 =>
some (.inl (v4, v5)))
set_option maxRecDepth 100000 in
set_option maxHeartbeats 4000000 in
theorem lk_X3_placesWith_4 {Γ : hb_Ctx} {G : hb_Gam} {Q : State → Prop} (X : hb_X Γ cX3_placesWith 4 RX3 ΛC G 2 42)  (k : Nat) (hk : hb_is ΛC k 3) (p1 : Int32) (w2 : Int32) (w3 : Int32) (σ : hb_Mem) {x : ((Int32 × Int32) ⊕ Int32)} (h : lb_X3_placesWith_4 k p1 w2 w3 σ = some x) (K : Sum.elim (fun s : (Int32 × Int32) => hb_W Γ ΛC G 4 Q σ [some (.ref (G.2.2.2 k)), some (.int p1), some (.int s.1), some (.int s.2)] [] 4) (fun t : Int32 => hb_W Γ ΛC G 4 Q σ [none, none, some (.int t), none] [] 31) x) : hb_W Γ ΛC G 4 Q σ [some (.ref (G.2.2.2 k)), some (.int p1), some (.int w2), some (.int w3)] [] 4 := by
  unfold lb_X3_placesWith_4 at h
  refine ww_iload_n 5 X dX3_placesWith_4 rfl rfl ?_
  refine ww_bipush (v := 32) 7 X dX3_placesWith_5 rfl (by decide) ?_
  refine ww_icmp_ge 31 10 X dX3_placesWith_7 (by decide) rfl h (fun h => ?_) (fun h => ?_)
  · skip
    obtain rfl := Option.some.inj h
    refine ww_kill [0, 1, 3] (L' := [none, none, some (.int w2), none]) rfl ?_
    exact K
  · skip
    refine ww_iload_n 11 X dX3_placesWith_10 rfl rfl ?_
    refine ww_aload_n 12 X dX3_placesWith_11 rfl rfl ?_
    refine ww_iload_n 13 X dX3_placesWith_12 rfl rfl ?_
    refine ww_iload_n 14 X dX3_placesWith_13 rfl rfl ?_
    obtain ⟨x1, hx1, h⟩ := hb_bind_of h
    refine ww_callSN (rest := [.ref (G.2.2.2 k), .int w2]) (st' := [.int x1, .ref (G.2.2.2 k), .int w2]) 17 X (ct_X5_placeOf (hb_l Γ) G p1 w3 σ hx1) cw_X3_122 rfl ⟨by decide, by decide⟩ (Nat.le_of_ble_eq_true rfl) rfl rfl dX3_placesWith_14 rfl ?_
    obtain ⟨x2, hx2, h⟩ := hb_bind_of h
    refine ww_callV (ci := 3) (rest := [.int w2]) (st' := [.int x2, .int w2]) 20 X (ct_X3_isReached (hb_l Γ) G k hk x1 σ hx2) cw_X3_97 rfl (by decide) hk rfl ⟨by decide, by decide⟩ (Nat.le_of_ble_eq_true rfl) rfl rfl dX3_placesWith_17 rfl ?_
    obtain ⟨x3, hx3, h⟩ := hb_bind_of h
    refine ww_callSN (rest := [.int w2]) (st' := [.int x3, .int w2]) 23 X (ct_X5_oneIf (hb_l Γ) G x2 σ hx3) cw_X3_115 rfl ⟨by decide, by decide⟩ (Nat.le_of_ble_eq_true rfl) rfl rfl dX3_placesWith_20 rfl ?_
    refine ww_iadd 24 X dX3_placesWith_23 rfl ?_
    obtain ⟨v4, ev4, h⟩ := hb_nm_of h
    rw [← ev4]
    refine ww_istore_n 25 X (L' := [some (.ref (G.2.2.2 k)), some (.int p1), some (.int v4), some (.int w3)]) dX3_placesWith_24 rfl (Nat.le_of_ble_eq_true rfl) rfl rfl ?_
    obtain ⟨v5, ev5, h⟩ := hb_nm_of h
    refine ww_iinc 28 X (L' := [some (.ref (G.2.2.2 k)), some (.int p1), some (.int v4), some (.int v5)]) dX3_placesWith_25 rfl rfl ev5.symm rfl ?_
    refine ww_goto 4 X dX3_placesWith_28 (by decide) ?_
    obtain rfl := Option.some.inj h
    exact K
def ll_X3_placesWith_4 (k : Nat) (p1 : Int32) (σ : hb_Mem) : (Int32 × Int32) → Option Int32 := hb_lp (fun s => lb_X3_placesWith_4 k p1 s.1 s.2 σ) hb_F
theorem lw_X3_placesWith_4 {Γ : hb_Ctx} {G : hb_Gam} {Q : State → Prop} (X : hb_X Γ cX3_placesWith 4 RX3 ΛC G 2 42)  (k : Nat) (hk : hb_is ΛC k 3) (p1 : Int32) (σ : hb_Mem) (s : (Int32 × Int32)) (t : Int32) (h : ll_X3_placesWith_4 k p1 σ s = some t) (K : (fun t : Int32 => hb_W Γ ΛC G 4 Q σ [none, none, some (.int t), none] [] 31) t) : hb_W Γ ΛC G 4 Q σ [some (.ref (G.2.2.2 k)), some (.int p1), some (.int s.1), some (.int s.2)] [] 4 :=
  hb_lp_w (P := fun s : (Int32 × Int32) => hb_W Γ ΛC G 4 Q σ [some (.ref (G.2.2.2 k)), some (.int p1), some (.int s.1), some (.int s.2)] [] 4) (E := (fun t : Int32 => hb_W Γ ΛC G 4 Q σ [none, none, some (.int t), none] [] 31)) (fun s x hx K => lk_X3_placesWith_4 X k hk p1 s.1 s.2 σ hx K) _ s t h K
def fn_X3_placesWith (k : Nat) (p1 : Int32) (σ : hb_Mem) : Option Int32 :=
(ll_X3_placesWith_4 k p1 σ (0, 0)).bind fun t6 =>
some t6
set_option maxRecDepth 100000 in
set_option maxHeartbeats 4000000 in
theorem wk_X3_placesWith {Γ : hb_Ctx} {G : hb_Gam} {Q : State → Prop} (X : hb_X Γ cX3_placesWith 4 RX3 ΛC G 2 42) (hr : hb_ret Γ = (some .int)) (k : Nat) (hk : hb_is ΛC k 3) (p1 : Int32) (σ : hb_Mem) {x : Int32} (h : fn_X3_placesWith k p1 σ = some x) (K : Q = hb_Q Γ ΛC G (some (.int x)) σ) : hb_W Γ ΛC G 4 Q σ [some (.ref (G.2.2.2 k)), some (.int p1), none, none] [] 0 := by
  unfold fn_X3_placesWith at h
  refine ww_iconst (v := 0) 1 X dX3_placesWith_0 rfl (by decide) ?_
  refine ww_istore_n 2 X (L' := [some (.ref (G.2.2.2 k)), some (.int p1), some (.int 0), none]) dX3_placesWith_1 rfl (Nat.le_of_ble_eq_true rfl) rfl rfl ?_
  refine ww_iconst (v := 0) 3 X dX3_placesWith_2 rfl (by decide) ?_
  refine ww_istore_n 4 X (L' := [some (.ref (G.2.2.2 k)), some (.int p1), some (.int 0), some (.int 0)]) dX3_placesWith_3 rfl (Nat.le_of_ble_eq_true rfl) rfl rfl ?_
  obtain ⟨t6, ht6, h⟩ := hb_bind_of h
  refine lw_X3_placesWith_4 X k hk p1 σ (0, 0) t6 ht6 ?_
  refine ww_iload_n 32 X dX3_placesWith_31 rfl rfl ?_
  obtain rfl := Option.some.inj h
  exact ww_ret_i X hr K dX3_placesWith_32
theorem ct_X3_placesWith (l : Launch) (G : hb_Gam) (k : Nat) (hk : hb_is ΛC k 3) (p1 : Int32) (σ : hb_Mem) {x : Int32} (h : fn_X3_placesWith k p1 σ = some x) : hb_C l yX3_placesWith cX3_placesWith 4 (some .int) 2 42 ΛC G [.ref (G.2.2.2 k), .int p1] σ (some (.int x)) σ :=
  hb_C.of [some (.ref (G.2.2.2 k)), some (.int p1), none, none] (by decide +kernel) (Nat.le_of_ble_eq_true rfl) (by intro v hv; simp only [List.mem_cons, List.not_mem_nil, or_false] at hv; rcases hv with rfl | rfl <;> rfl) rfl (hb_pad [.ref (G.2.2.2 k), .int p1] 2) (fun Γ X hr => wk_X3_placesWith X hr k hk p1 σ h rfl)
def fn_X3_isDead (k : Nat) (p1 : Int32) (σ : hb_Mem) : Option Int32 :=
(fn_X3_placesWith k p1 σ).bind fun x1 =>
if x1 = 0 then (
some 1)
else (
some 0)
set_option maxRecDepth 100000 in
set_option maxHeartbeats 4000000 in
theorem wk_X3_isDead {Γ : hb_Ctx} {G : hb_Gam} {Q : State → Prop} (X : hb_X Γ cX3_isDead 2 RX3 ΛC G 3 65) (hr : hb_ret Γ = (some .boolean)) (k : Nat) (hk : hb_is ΛC k 3) (p1 : Int32) (σ : hb_Mem) {x : Int32} (h : fn_X3_isDead k p1 σ = some x) (K : Q = hb_Q Γ ΛC G (some (.int x)) σ) : hb_W Γ ΛC G 2 Q σ [some (.ref (G.2.2.2 k)), some (.int p1)] [] 0 := by
  unfold fn_X3_isDead at h
  refine ww_aload_n 1 X dX3_isDead_0 rfl rfl ?_
  refine ww_iload_n 2 X dX3_isDead_1 rfl rfl ?_
  obtain ⟨x1, hx1, h⟩ := hb_bind_of h
  refine ww_callV (ci := 3) (rest := []) (st' := [.int x1]) 5 X (ct_X3_placesWith (hb_l Γ) G k hk p1 σ hx1) cw_X3_125 rfl (by decide) hk rfl ⟨by decide, by decide⟩ (Nat.le_of_ble_eq_true rfl) rfl rfl dX3_isDead_2 rfl ?_
  refine ww_if_ne 12 8 X dX3_isDead_5 (by decide) rfl h (fun h => ?_) (fun h => ?_)
  · skip
    refine ww_iconst (v := 1) 9 X dX3_isDead_8 rfl (by decide) ?_
    refine ww_goto 13 X dX3_isDead_9 (by decide) ?_
    obtain rfl := Option.some.inj h
    exact ww_ret_z X hr (by decide) K dX3_isDead_13
  · skip
    refine ww_iconst (v := 0) 13 X dX3_isDead_12 rfl (by decide) ?_
    obtain rfl := Option.some.inj h
    exact ww_ret_z X hr (by decide) K dX3_isDead_13
theorem ct_X3_isDead (l : Launch) (G : hb_Gam) (k : Nat) (hk : hb_is ΛC k 3) (p1 : Int32) (σ : hb_Mem) {x : Int32} (h : fn_X3_isDead k p1 σ = some x) : hb_C l yX3_isDead cX3_isDead 2 (some .boolean) 3 65 ΛC G [.ref (G.2.2.2 k), .int p1] σ (some (.int x)) σ :=
  hb_C.of [some (.ref (G.2.2.2 k)), some (.int p1)] (by decide +kernel) (Nat.le_of_ble_eq_true rfl) (by intro v hv; simp only [List.mem_cons, List.not_mem_nil, or_false] at hv; rcases hv with rfl | rfl <;> rfl) rfl (hb_pad [.ref (G.2.2.2 k), .int p1] 0) (fun Γ X hr => wk_X3_isDead X hr k hk p1 σ h rfl)
def jn_X3_comesAgain_39 (k : Nat) (p1 : Int32) (j2 : Int32) (σ : hb_Mem) : Option (Int32 ⊕ (Unit ⊕ Unit)) :=
hb_nm (j2 + 1) fun v3 =>
some (.inl v3)
set_option maxRecDepth 100000 in
set_option maxHeartbeats 4000000 in
theorem jw_X3_comesAgain_39 {Γ : hb_Ctx} {G : hb_Gam} {Q : State → Prop} (X : hb_X Γ cX3_comesAgain 4 RX3 ΛC G 2 42)  (k : Nat) (hk : hb_is ΛC k 3) (p1 : Int32) (j2 : Int32) (σ : hb_Mem) {x : (Int32 ⊕ (Unit ⊕ Unit))} (h : jn_X3_comesAgain_39 k p1 j2 σ = some x) (K : Sum.elim (fun s : Int32 => hb_W Γ ΛC G 4 Q σ [some (.ref (G.2.2.2 k)), some (.int p1), some (.int s), none] [] 2) (Sum.elim (fun t : Unit => hb_W Γ ΛC G 4 Q σ [none, none, none, none] [] 37) (fun t : Unit => hb_W Γ ΛC G 4 Q σ [none, none, none, none] [] 45)) x) : hb_W Γ ΛC G 4 Q σ [some (.ref (G.2.2.2 k)), some (.int p1), some (.int j2), none] [] 39 := by
  unfold jn_X3_comesAgain_39 at h
  obtain ⟨v3, ev3, h⟩ := hb_nm_of h
  refine ww_iinc 42 X (L' := [some (.ref (G.2.2.2 k)), some (.int p1), some (.int v3), none]) dX3_comesAgain_39 rfl rfl ev3.symm rfl ?_
  refine ww_goto 2 X dX3_comesAgain_42 (by decide) ?_
  obtain rfl := Option.some.inj h
  exact K
def lb_X3_comesAgain_2 (k : Nat) (p1 : Int32) (w2 : Int32) (σ : hb_Mem) : Option (Int32 ⊕ (Unit ⊕ Unit)) :=
if 32 ≤ w2 then (
some (.inr (.inr ())))
else (
(fn_X5_placeOf p1 w2).bind fun x1 =>
(fn_X3_isReached k x1 σ).bind fun x2 =>
if x2 = 0 then (
jn_X3_comesAgain_39 k p1 w2 σ)
else (
(fn_X1_at (hc_rf k 7) x1 σ).bind fun x4 =>
(fn_X3_isIn p1 x4).bind fun x5 =>
if x5 = 0 then (
jn_X3_comesAgain_39 k p1 w2 σ)
else (
some (.inr (.inl ())))))
set_option maxRecDepth 100000 in
set_option maxHeartbeats 4000000 in
theorem lk_X3_comesAgain_2 {Γ : hb_Ctx} {G : hb_Gam} {Q : State → Prop} (X : hb_X Γ cX3_comesAgain 4 RX3 ΛC G 2 42)  (k : Nat) (hk : hb_is ΛC k 3) (p1 : Int32) (w2 : Int32) (σ : hb_Mem) {x : (Int32 ⊕ (Unit ⊕ Unit))} (h : lb_X3_comesAgain_2 k p1 w2 σ = some x) (K : Sum.elim (fun s : Int32 => hb_W Γ ΛC G 4 Q σ [some (.ref (G.2.2.2 k)), some (.int p1), some (.int s), none] [] 2) (Sum.elim (fun t : Unit => hb_W Γ ΛC G 4 Q σ [none, none, none, none] [] 37) (fun t : Unit => hb_W Γ ΛC G 4 Q σ [none, none, none, none] [] 45)) x) : hb_W Γ ΛC G 4 Q σ [some (.ref (G.2.2.2 k)), some (.int p1), some (.int w2), none] [] 2 := by
  unfold lb_X3_comesAgain_2 at h
  refine ww_iload_n 3 X dX3_comesAgain_2 rfl rfl ?_
  refine ww_bipush (v := 32) 5 X dX3_comesAgain_3 rfl (by decide) ?_
  refine ww_icmp_ge 45 8 X dX3_comesAgain_5 (by decide) rfl h (fun h => ?_) (fun h => ?_)
  · skip
    obtain rfl := Option.some.inj h
    refine ww_kill [0, 1, 2] (L' := [none, none, none, none]) rfl ?_
    exact K
  · skip
    refine ww_iload_n 9 X dX3_comesAgain_8 rfl rfl ?_
    refine ww_iload_n 10 X dX3_comesAgain_9 rfl rfl ?_
    obtain ⟨x1, hx1, h⟩ := hb_bind_of h
    refine ww_callSN (rest := []) (st' := [.int x1]) 13 X (ct_X5_placeOf (hb_l Γ) G p1 w2 σ hx1) cw_X3_122 rfl ⟨by decide, by decide⟩ (Nat.le_of_ble_eq_true rfl) rfl rfl dX3_comesAgain_10 rfl ?_
    refine ww_istore_n 14 X (L' := [some (.ref (G.2.2.2 k)), some (.int p1), some (.int w2), some (.int x1)]) dX3_comesAgain_13 rfl (Nat.le_of_ble_eq_true rfl) rfl rfl ?_
    refine ww_aload_n 15 X dX3_comesAgain_14 rfl rfl ?_
    refine ww_iload_n 16 X dX3_comesAgain_15 rfl rfl ?_
    obtain ⟨x2, hx2, h⟩ := hb_bind_of h
    refine ww_callV (ci := 3) (rest := []) (st' := [.int x2]) 19 X (ct_X3_isReached (hb_l Γ) G k hk x1 σ hx2) cw_X3_97 rfl (by decide) hk rfl ⟨by decide, by decide⟩ (Nat.le_of_ble_eq_true rfl) rfl rfl dX3_comesAgain_16 rfl ?_
    refine ww_if_eq 39 22 X dX3_comesAgain_19 (by decide) rfl h (fun h => ?_) (fun h => ?_)
    · skip
      refine ww_kill [3] (L' := [some (.ref (G.2.2.2 k)), some (.int p1), some (.int w2), none]) rfl ?_
      exact jw_X3_comesAgain_39 X k hk p1 w2 σ h K
    · skip
      refine ww_iload_n 23 X dX3_comesAgain_22 rfl rfl ?_
      refine ww_aload_n 24 X dX3_comesAgain_23 rfl rfl ?_
      refine ww_getr (ci := 3) (j := 7) 27 X cf_3 tw_X3_40 (by decide) rfl hk dX3_comesAgain_24 rfl ?_
      refine ww_iload_n 28 X dX3_comesAgain_27 rfl rfl ?_
      obtain ⟨x4, hx4, h⟩ := hb_bind_of h
      refine ww_callV (ci := 1) (rest := [.int p1]) (st' := [.int x4, .int p1]) 31 X (ct_X1_at (hb_l Γ) G (hc_rf k 7) (hc_kr_3_7 hk) x1 σ hx4) cw_X3_82 rfl (by decide) (hc_kr_3_7 hk) rfl ⟨by decide, by decide⟩ (Nat.le_of_ble_eq_true rfl) rfl rfl dX3_comesAgain_28 rfl ?_
      obtain ⟨x5, hx5, h⟩ := hb_bind_of h
      refine ww_callS (rest := []) (st' := [.int x5]) 34 X (ct_X3_isIn (hb_l Γ) G p1 x4 σ hx5) cw_X3_89 rfl ⟨by decide, by decide⟩ (Nat.le_of_ble_eq_true rfl) rfl rfl dX3_comesAgain_31 rfl ?_
      refine ww_if_eq 39 37 X dX3_comesAgain_34 (by decide) rfl h (fun h => ?_) (fun h => ?_)
      · skip
        refine ww_kill [3] (L' := [some (.ref (G.2.2.2 k)), some (.int p1), some (.int w2), none]) rfl ?_
        exact jw_X3_comesAgain_39 X k hk p1 w2 σ h K
      · skip
        obtain rfl := Option.some.inj h
        refine ww_kill [0, 1, 2, 3] (L' := [none, none, none, none]) rfl ?_
        exact K
def ll_X3_comesAgain_2 (k : Nat) (p1 : Int32) (σ : hb_Mem) : Int32 → Option (Unit ⊕ Unit) := hb_lp (fun s => lb_X3_comesAgain_2 k p1 s σ) hb_F
theorem lw_X3_comesAgain_2 {Γ : hb_Ctx} {G : hb_Gam} {Q : State → Prop} (X : hb_X Γ cX3_comesAgain 4 RX3 ΛC G 2 42)  (k : Nat) (hk : hb_is ΛC k 3) (p1 : Int32) (σ : hb_Mem) (s : Int32) (t : (Unit ⊕ Unit)) (h : ll_X3_comesAgain_2 k p1 σ s = some t) (K : (Sum.elim (fun t : Unit => hb_W Γ ΛC G 4 Q σ [none, none, none, none] [] 37) (fun t : Unit => hb_W Γ ΛC G 4 Q σ [none, none, none, none] [] 45)) t) : hb_W Γ ΛC G 4 Q σ [some (.ref (G.2.2.2 k)), some (.int p1), some (.int s), none] [] 2 :=
  hb_lp_w (P := fun s : Int32 => hb_W Γ ΛC G 4 Q σ [some (.ref (G.2.2.2 k)), some (.int p1), some (.int s), none] [] 2) (E := (Sum.elim (fun t : Unit => hb_W Γ ΛC G 4 Q σ [none, none, none, none] [] 37) (fun t : Unit => hb_W Γ ΛC G 4 Q σ [none, none, none, none] [] 45))) (fun s x hx K => lk_X3_comesAgain_2 X k hk p1 s σ hx K) _ s t h K
def fn_X3_comesAgain (k : Nat) (p1 : Int32) (σ : hb_Mem) : Option Int32 :=
(ll_X3_comesAgain_2 k p1 σ 0).bind fun t6 =>
Sum.elim (fun t6 =>
some 1) (fun t6 =>
some 0) t6
set_option maxRecDepth 100000 in
set_option maxHeartbeats 4000000 in
theorem wk_X3_comesAgain {Γ : hb_Ctx} {G : hb_Gam} {Q : State → Prop} (X : hb_X Γ cX3_comesAgain 4 RX3 ΛC G 2 42) (hr : hb_ret Γ = (some .boolean)) (k : Nat) (hk : hb_is ΛC k 3) (p1 : Int32) (σ : hb_Mem) {x : Int32} (h : fn_X3_comesAgain k p1 σ = some x) (K : Q = hb_Q Γ ΛC G (some (.int x)) σ) : hb_W Γ ΛC G 4 Q σ [some (.ref (G.2.2.2 k)), some (.int p1), none, none] [] 0 := by
  unfold fn_X3_comesAgain at h
  refine ww_iconst (v := 0) 1 X dX3_comesAgain_0 rfl (by decide) ?_
  refine ww_istore_n 2 X (L' := [some (.ref (G.2.2.2 k)), some (.int p1), some (.int 0), none]) dX3_comesAgain_1 rfl (Nat.le_of_ble_eq_true rfl) rfl rfl ?_
  obtain ⟨t6, ht6, h⟩ := hb_bind_of h
  refine lw_X3_comesAgain_2 X k hk p1 σ 0 t6 ht6 ?_
  rcases t6 with t6 | t6
  · replace h := hb_inl_of h
    refine ww_iconst (v := 1) 38 X dX3_comesAgain_37 rfl (by decide) ?_
    obtain rfl := Option.some.inj h
    exact ww_ret_z X hr (by decide) K dX3_comesAgain_38
  · replace h := hb_inr_of h
    refine ww_iconst (v := 0) 46 X dX3_comesAgain_45 rfl (by decide) ?_
    obtain rfl := Option.some.inj h
    exact ww_ret_z X hr (by decide) K dX3_comesAgain_46
theorem ct_X3_comesAgain (l : Launch) (G : hb_Gam) (k : Nat) (hk : hb_is ΛC k 3) (p1 : Int32) (σ : hb_Mem) {x : Int32} (h : fn_X3_comesAgain k p1 σ = some x) : hb_C l yX3_comesAgain cX3_comesAgain 4 (some .boolean) 2 42 ΛC G [.ref (G.2.2.2 k), .int p1] σ (some (.int x)) σ :=
  hb_C.of [some (.ref (G.2.2.2 k)), some (.int p1), none, none] (by decide +kernel) (Nat.le_of_ble_eq_true rfl) (by intro v hv; simp only [List.mem_cons, List.not_mem_nil, or_false] at hv; rcases hv with rfl | rfl <;> rfl) rfl (hb_pad [.ref (G.2.2.2 k), .int p1] 2) (fun Γ X hr => wk_X3_comesAgain X hr k hk p1 σ h rfl)
def lb_X3_stuckPlacesWith_4 (k : Nat) (p1 : Int32) (w2 : Int32) (w3 : Int32) (σ : hb_Mem) : Option ((Int32 × Int32) ⊕ Int32) :=
if 32 ≤ w3 then (
some (.inr w2))
else (
(fn_X5_placeOf p1 w3).bind fun x1 =>
(fn_X3_isStuck k x1 σ).bind fun x2 =>
(fn_X5_oneIf x2).bind fun x3 =>
hb_nm (w2 + x3) fun v4 =>
hb_nm (w3 + 1) fun v5 =>
some (.inl (v4, v5)))
set_option maxRecDepth 100000 in
set_option maxHeartbeats 4000000 in
theorem lk_X3_stuckPlacesWith_4 {Γ : hb_Ctx} {G : hb_Gam} {Q : State → Prop} (X : hb_X Γ cX3_stuckPlacesWith 4 RX3 ΛC G 3 63)  (k : Nat) (hk : hb_is ΛC k 3) (p1 : Int32) (w2 : Int32) (w3 : Int32) (σ : hb_Mem) {x : ((Int32 × Int32) ⊕ Int32)} (h : lb_X3_stuckPlacesWith_4 k p1 w2 w3 σ = some x) (K : Sum.elim (fun s : (Int32 × Int32) => hb_W Γ ΛC G 4 Q σ [some (.ref (G.2.2.2 k)), some (.int p1), some (.int s.1), some (.int s.2)] [] 4) (fun t : Int32 => hb_W Γ ΛC G 4 Q σ [none, none, some (.int t), none] [] 31) x) : hb_W Γ ΛC G 4 Q σ [some (.ref (G.2.2.2 k)), some (.int p1), some (.int w2), some (.int w3)] [] 4 := by
  unfold lb_X3_stuckPlacesWith_4 at h
  refine ww_iload_n 5 X dX3_stuckPlacesWith_4 rfl rfl ?_
  refine ww_bipush (v := 32) 7 X dX3_stuckPlacesWith_5 rfl (by decide) ?_
  refine ww_icmp_ge 31 10 X dX3_stuckPlacesWith_7 (by decide) rfl h (fun h => ?_) (fun h => ?_)
  · skip
    obtain rfl := Option.some.inj h
    refine ww_kill [0, 1, 3] (L' := [none, none, some (.int w2), none]) rfl ?_
    exact K
  · skip
    refine ww_iload_n 11 X dX3_stuckPlacesWith_10 rfl rfl ?_
    refine ww_aload_n 12 X dX3_stuckPlacesWith_11 rfl rfl ?_
    refine ww_iload_n 13 X dX3_stuckPlacesWith_12 rfl rfl ?_
    refine ww_iload_n 14 X dX3_stuckPlacesWith_13 rfl rfl ?_
    obtain ⟨x1, hx1, h⟩ := hb_bind_of h
    refine ww_callSN (rest := [.ref (G.2.2.2 k), .int w2]) (st' := [.int x1, .ref (G.2.2.2 k), .int w2]) 17 X (ct_X5_placeOf (hb_l Γ) G p1 w3 σ hx1) cw_X3_122 rfl ⟨by decide, by decide⟩ (Nat.le_of_ble_eq_true rfl) rfl rfl dX3_stuckPlacesWith_14 rfl ?_
    obtain ⟨x2, hx2, h⟩ := hb_bind_of h
    refine ww_callV (ci := 3) (rest := [.int w2]) (st' := [.int x2, .int w2]) 20 X (ct_X3_isStuck (hb_l Γ) G k hk x1 σ hx2) cw_X3_128 rfl (by decide) hk rfl ⟨by decide, by decide⟩ (Nat.le_of_ble_eq_true rfl) rfl rfl dX3_stuckPlacesWith_17 rfl ?_
    obtain ⟨x3, hx3, h⟩ := hb_bind_of h
    refine ww_callSN (rest := [.int w2]) (st' := [.int x3, .int w2]) 23 X (ct_X5_oneIf (hb_l Γ) G x2 σ hx3) cw_X3_115 rfl ⟨by decide, by decide⟩ (Nat.le_of_ble_eq_true rfl) rfl rfl dX3_stuckPlacesWith_20 rfl ?_
    refine ww_iadd 24 X dX3_stuckPlacesWith_23 rfl ?_
    obtain ⟨v4, ev4, h⟩ := hb_nm_of h
    rw [← ev4]
    refine ww_istore_n 25 X (L' := [some (.ref (G.2.2.2 k)), some (.int p1), some (.int v4), some (.int w3)]) dX3_stuckPlacesWith_24 rfl (Nat.le_of_ble_eq_true rfl) rfl rfl ?_
    obtain ⟨v5, ev5, h⟩ := hb_nm_of h
    refine ww_iinc 28 X (L' := [some (.ref (G.2.2.2 k)), some (.int p1), some (.int v4), some (.int v5)]) dX3_stuckPlacesWith_25 rfl rfl ev5.symm rfl ?_
    refine ww_goto 4 X dX3_stuckPlacesWith_28 (by decide) ?_
    obtain rfl := Option.some.inj h
    exact K
def ll_X3_stuckPlacesWith_4 (k : Nat) (p1 : Int32) (σ : hb_Mem) : (Int32 × Int32) → Option Int32 := hb_lp (fun s => lb_X3_stuckPlacesWith_4 k p1 s.1 s.2 σ) hb_F
theorem lw_X3_stuckPlacesWith_4 {Γ : hb_Ctx} {G : hb_Gam} {Q : State → Prop} (X : hb_X Γ cX3_stuckPlacesWith 4 RX3 ΛC G 3 63)  (k : Nat) (hk : hb_is ΛC k 3) (p1 : Int32) (σ : hb_Mem) (s : (Int32 × Int32)) (t : Int32) (h : ll_X3_stuckPlacesWith_4 k p1 σ s = some t) (K : (fun t : Int32 => hb_W Γ ΛC G 4 Q σ [none, none, some (.int t), none] [] 31) t) : hb_W Γ ΛC G 4 Q σ [some (.ref (G.2.2.2 k)), some (.int p1), some (.int s.1), some (.int s.2)] [] 4 :=
  hb_lp_w (P := fun s : (Int32 × Int32) => hb_W Γ ΛC G 4 Q σ [some (.ref (G.2.2.2 k)), some (.int p1), some (.int s.1), some (.int s.2)] [] 4) (E := (fun t : Int32 => hb_W Γ ΛC G 4 Q σ [none, none, some (.int t), none] [] 31)) (fun s x hx K => lk_X3_stuckPlacesWith_4 X k hk p1 s.1 s.2 σ hx K) _ s t h K
def fn_X3_stuckPlacesWith (k : Nat) (p1 : Int32) (σ : hb_Mem) : Option Int32 :=
(ll_X3_stuckPlacesWith_4 k p1 σ (0, 0)).bind fun t6 =>
some t6
set_option maxRecDepth 100000 in
set_option maxHeartbeats 4000000 in
theorem wk_X3_stuckPlacesWith {Γ : hb_Ctx} {G : hb_Gam} {Q : State → Prop} (X : hb_X Γ cX3_stuckPlacesWith 4 RX3 ΛC G 3 63) (hr : hb_ret Γ = (some .int)) (k : Nat) (hk : hb_is ΛC k 3) (p1 : Int32) (σ : hb_Mem) {x : Int32} (h : fn_X3_stuckPlacesWith k p1 σ = some x) (K : Q = hb_Q Γ ΛC G (some (.int x)) σ) : hb_W Γ ΛC G 4 Q σ [some (.ref (G.2.2.2 k)), some (.int p1), none, none] [] 0 := by
  unfold fn_X3_stuckPlacesWith at h
  refine ww_iconst (v := 0) 1 X dX3_stuckPlacesWith_0 rfl (by decide) ?_
  refine ww_istore_n 2 X (L' := [some (.ref (G.2.2.2 k)), some (.int p1), some (.int 0), none]) dX3_stuckPlacesWith_1 rfl (Nat.le_of_ble_eq_true rfl) rfl rfl ?_
  refine ww_iconst (v := 0) 3 X dX3_stuckPlacesWith_2 rfl (by decide) ?_
  refine ww_istore_n 4 X (L' := [some (.ref (G.2.2.2 k)), some (.int p1), some (.int 0), some (.int 0)]) dX3_stuckPlacesWith_3 rfl (Nat.le_of_ble_eq_true rfl) rfl rfl ?_
  obtain ⟨t6, ht6, h⟩ := hb_bind_of h
  refine lw_X3_stuckPlacesWith_4 X k hk p1 σ (0, 0) t6 ht6 ?_
  refine ww_iload_n 32 X dX3_stuckPlacesWith_31 rfl rfl ?_
  obtain rfl := Option.some.inj h
  exact ww_ret_i X hr K dX3_stuckPlacesWith_32
theorem ct_X3_stuckPlacesWith (l : Launch) (G : hb_Gam) (k : Nat) (hk : hb_is ΛC k 3) (p1 : Int32) (σ : hb_Mem) {x : Int32} (h : fn_X3_stuckPlacesWith k p1 σ = some x) : hb_C l yX3_stuckPlacesWith cX3_stuckPlacesWith 4 (some .int) 3 63 ΛC G [.ref (G.2.2.2 k), .int p1] σ (some (.int x)) σ :=
  hb_C.of [some (.ref (G.2.2.2 k)), some (.int p1), none, none] (by decide +kernel) (Nat.le_of_ble_eq_true rfl) (by intro v hv; simp only [List.mem_cons, List.not_mem_nil, or_false] at hv; rcases hv with rfl | rfl <;> rfl) rfl (hb_pad [.ref (G.2.2.2 k), .int p1] 2) (fun Γ X hr => wk_X3_stuckPlacesWith X hr k hk p1 σ h rfl)
def lb_X3_fewestChoicesTo_2 (k : Nat) (p1 : Int32) (w2 : Int32) (σ : hb_Mem) : Option (Int32 ⊕ (Int32 ⊕ Unit)) :=
if (σ k 2) ≤ w2 then (
some (.inr (.inr ())))
else (
(fn_X1_at (hc_rf k 3) w2 σ).bind fun x1 =>
(fn_X5_pageAt x1).bind fun x2 =>
if x2 = p1 then (
some (.inr (.inl w2)))
else (
hb_nm (w2 + 1) fun v3 =>
some (.inl v3)))
set_option maxRecDepth 100000 in
set_option maxHeartbeats 4000000 in
theorem lk_X3_fewestChoicesTo_2 {Γ : hb_Ctx} {G : hb_Gam} {Q : State → Prop} (X : hb_X Γ cX3_fewestChoicesTo 3 RX3 ΛC G 1 21)  (k : Nat) (hk : hb_is ΛC k 3) (p1 : Int32) (w2 : Int32) (σ : hb_Mem) {x : (Int32 ⊕ (Int32 ⊕ Unit))} (h : lb_X3_fewestChoicesTo_2 k p1 w2 σ = some x) (K : Sum.elim (fun s : Int32 => hb_W Γ ΛC G 3 Q σ [some (.ref (G.2.2.2 k)), some (.int p1), some (.int s)] [] 2) (Sum.elim (fun t : Int32 => hb_W Γ ΛC G 3 Q σ [some (.ref (G.2.2.2 k)), none, some (.int t)] [] 25) (fun t : Unit => hb_W Γ ΛC G 3 Q σ [none, none, none] [] 47)) x) : hb_W Γ ΛC G 3 Q σ [some (.ref (G.2.2.2 k)), some (.int p1), some (.int w2)] [] 2 := by
  unfold lb_X3_fewestChoicesTo_2 at h
  refine ww_iload_n 3 X dX3_fewestChoicesTo_2 rfl rfl ?_
  refine ww_aload_n 4 X dX3_fewestChoicesTo_3 rfl rfl ?_
  refine ww_geti (ci := 3) (j := 2) 7 X cf_3 tw_X3_19 (by decide) rfl hk dX3_fewestChoicesTo_4 rfl ?_
  refine ww_icmp_ge 47 10 X dX3_fewestChoicesTo_7 (by decide) rfl h (fun h => ?_) (fun h => ?_)
  · skip
    obtain rfl := Option.some.inj h
    refine ww_kill [0, 1, 2] (L' := [none, none, none]) rfl ?_
    exact K
  · skip
    refine ww_aload_n 11 X dX3_fewestChoicesTo_10 rfl rfl ?_
    refine ww_getr (ci := 3) (j := 3) 14 X cf_3 tw_X3_27 (by decide) rfl hk dX3_fewestChoicesTo_11 rfl ?_
    refine ww_iload_n 15 X dX3_fewestChoicesTo_14 rfl rfl ?_
    obtain ⟨x1, hx1, h⟩ := hb_bind_of h
    refine ww_callV (ci := 1) (rest := []) (st' := [.int x1]) 18 X (ct_X1_at (hb_l Γ) G (hc_rf k 3) (hc_kr_3_3 hk) w2 σ hx1) cw_X3_82 rfl (by decide) (hc_kr_3_3 hk) rfl ⟨by decide, by decide⟩ (Nat.le_of_ble_eq_true rfl) rfl rfl dX3_fewestChoicesTo_15 rfl ?_
    obtain ⟨x2, hx2, h⟩ := hb_bind_of h
    refine ww_callSN (rest := []) (st' := [.int x2]) 21 X (ct_X5_pageAt (hb_l Γ) G x1 σ hx2) cw_X3_109 rfl ⟨by decide, by decide⟩ (Nat.le_of_ble_eq_true rfl) rfl rfl dX3_fewestChoicesTo_18 rfl ?_
    refine ww_iload_n 22 X dX3_fewestChoicesTo_21 rfl rfl ?_
    refine ww_icmp_ne 41 25 X dX3_fewestChoicesTo_22 (by decide) rfl h (fun h => ?_) (fun h => ?_)
    · skip
      obtain rfl := Option.some.inj h
      refine ww_kill [1] (L' := [some (.ref (G.2.2.2 k)), none, some (.int w2)]) rfl ?_
      exact K
    · skip
      obtain ⟨v3, ev3, h⟩ := hb_nm_of h
      refine ww_iinc 44 X (L' := [some (.ref (G.2.2.2 k)), some (.int p1), some (.int v3)]) dX3_fewestChoicesTo_41 rfl rfl ev3.symm rfl ?_
      refine ww_goto 2 X dX3_fewestChoicesTo_44 (by decide) ?_
      obtain rfl := Option.some.inj h
      exact K
def ll_X3_fewestChoicesTo_2 (k : Nat) (p1 : Int32) (σ : hb_Mem) : Int32 → Option (Int32 ⊕ Unit) := hb_lp (fun s => lb_X3_fewestChoicesTo_2 k p1 s σ) hb_F
theorem lw_X3_fewestChoicesTo_2 {Γ : hb_Ctx} {G : hb_Gam} {Q : State → Prop} (X : hb_X Γ cX3_fewestChoicesTo 3 RX3 ΛC G 1 21)  (k : Nat) (hk : hb_is ΛC k 3) (p1 : Int32) (σ : hb_Mem) (s : Int32) (t : (Int32 ⊕ Unit)) (h : ll_X3_fewestChoicesTo_2 k p1 σ s = some t) (K : (Sum.elim (fun t : Int32 => hb_W Γ ΛC G 3 Q σ [some (.ref (G.2.2.2 k)), none, some (.int t)] [] 25) (fun t : Unit => hb_W Γ ΛC G 3 Q σ [none, none, none] [] 47)) t) : hb_W Γ ΛC G 3 Q σ [some (.ref (G.2.2.2 k)), some (.int p1), some (.int s)] [] 2 :=
  hb_lp_w (P := fun s : Int32 => hb_W Γ ΛC G 3 Q σ [some (.ref (G.2.2.2 k)), some (.int p1), some (.int s)] [] 2) (E := (Sum.elim (fun t : Int32 => hb_W Γ ΛC G 3 Q σ [some (.ref (G.2.2.2 k)), none, some (.int t)] [] 25) (fun t : Unit => hb_W Γ ΛC G 3 Q σ [none, none, none] [] 47))) (fun s x hx K => lk_X3_fewestChoicesTo_2 X k hk p1 s σ hx K) _ s t h K
def fn_X3_fewestChoicesTo (k : Nat) (p1 : Int32) (σ : hb_Mem) : Option Int32 :=
(ll_X3_fewestChoicesTo_2 k p1 σ 0).bind fun t4 =>
Sum.elim (fun t4 =>
(fn_X1_at (hc_rf k 3) t4 σ).bind fun x5 =>
(fn_X1_at (hc_rf k 4) x5 σ).bind fun x6 =>
some x6) (fun t4 =>
some (-5)) t4
set_option maxRecDepth 100000 in
set_option maxHeartbeats 4000000 in
theorem wk_X3_fewestChoicesTo {Γ : hb_Ctx} {G : hb_Gam} {Q : State → Prop} (X : hb_X Γ cX3_fewestChoicesTo 3 RX3 ΛC G 1 21) (hr : hb_ret Γ = (some .int)) (k : Nat) (hk : hb_is ΛC k 3) (p1 : Int32) (σ : hb_Mem) {x : Int32} (h : fn_X3_fewestChoicesTo k p1 σ = some x) (K : Q = hb_Q Γ ΛC G (some (.int x)) σ) : hb_W Γ ΛC G 3 Q σ [some (.ref (G.2.2.2 k)), some (.int p1), none] [] 0 := by
  unfold fn_X3_fewestChoicesTo at h
  refine ww_iconst (v := 0) 1 X dX3_fewestChoicesTo_0 rfl (by decide) ?_
  refine ww_istore_n 2 X (L' := [some (.ref (G.2.2.2 k)), some (.int p1), some (.int 0)]) dX3_fewestChoicesTo_1 rfl (Nat.le_of_ble_eq_true rfl) rfl rfl ?_
  obtain ⟨t4, ht4, h⟩ := hb_bind_of h
  refine lw_X3_fewestChoicesTo_2 X k hk p1 σ 0 t4 ht4 ?_
  rcases t4 with t4 | t4
  · replace h := hb_inl_of h
    refine ww_aload_n 26 X dX3_fewestChoicesTo_25 rfl rfl ?_
    refine ww_getr (ci := 3) (j := 4) 29 X cf_3 tw_X3_31 (by decide) rfl hk dX3_fewestChoicesTo_26 rfl ?_
    refine ww_aload_n 30 X dX3_fewestChoicesTo_29 rfl rfl ?_
    refine ww_getr (ci := 3) (j := 3) 33 X cf_3 tw_X3_27 (by decide) rfl hk dX3_fewestChoicesTo_30 rfl ?_
    refine ww_iload_n 34 X dX3_fewestChoicesTo_33 rfl rfl ?_
    obtain ⟨x5, hx5, h⟩ := hb_bind_of h
    refine ww_callV (ci := 1) (rest := [.ref (G.2.2.2 (hc_rf k 4))]) (st' := [.int x5, .ref (G.2.2.2 (hc_rf k 4))]) 37 X (ct_X1_at (hb_l Γ) G (hc_rf k 3) (hc_kr_3_3 hk) t4 σ hx5) cw_X3_82 rfl (by decide) (hc_kr_3_3 hk) rfl ⟨by decide, by decide⟩ (Nat.le_of_ble_eq_true rfl) rfl rfl dX3_fewestChoicesTo_34 rfl ?_
    obtain ⟨x6, hx6, h⟩ := hb_bind_of h
    refine ww_callV (ci := 1) (rest := []) (st' := [.int x6]) 40 X (ct_X1_at (hb_l Γ) G (hc_rf k 4) (hc_kr_3_4 hk) x5 σ hx6) cw_X3_82 rfl (by decide) (hc_kr_3_4 hk) rfl ⟨by decide, by decide⟩ (Nat.le_of_ble_eq_true rfl) rfl rfl dX3_fewestChoicesTo_37 rfl ?_
    obtain rfl := Option.some.inj h
    exact ww_ret_i X hr K dX3_fewestChoicesTo_40
  · replace h := hb_inr_of h
    refine ww_bipush (v := (-5)) 49 X dX3_fewestChoicesTo_47 rfl (by decide) ?_
    obtain rfl := Option.some.inj h
    exact ww_ret_i X hr K dX3_fewestChoicesTo_49
theorem ct_X3_fewestChoicesTo (l : Launch) (G : hb_Gam) (k : Nat) (hk : hb_is ΛC k 3) (p1 : Int32) (σ : hb_Mem) {x : Int32} (h : fn_X3_fewestChoicesTo k p1 σ = some x) : hb_C l yX3_fewestChoicesTo cX3_fewestChoicesTo 3 (some .int) 1 21 ΛC G [.ref (G.2.2.2 k), .int p1] σ (some (.int x)) σ :=
  hb_C.of [some (.ref (G.2.2.2 k)), some (.int p1), none] (by decide +kernel) (Nat.le_of_ble_eq_true rfl) (by intro v hv; simp only [List.mem_cons, List.not_mem_nil, or_false] at hv; rcases hv with rfl | rfl <;> rfl) rfl (hb_pad [.ref (G.2.2.2 k), .int p1] 1) (fun Γ X hr => wk_X3_fewestChoicesTo X hr k hk p1 σ h rfl)
def lb_X3_deadPages_4 (k : Nat) (w1 : Int32) (w2 : Int32) (σ : hb_Mem) : Option ((Int32 × Int32) ⊕ Int32) :=
if (σ k 1) ≤ w2 then (
some (.inr w1))
else (
(fn_X3_isDead k w2 σ).bind fun x1 =>
(fn_X5_oneIf x1).bind fun x2 =>
hb_nm (w1 + x2) fun v3 =>
hb_nm (w2 + 1) fun v4 =>
some (.inl (v3, v4)))
set_option maxRecDepth 100000 in
set_option maxHeartbeats 4000000 in
theorem lk_X3_deadPages_4 {Γ : hb_Ctx} {G : hb_Gam} {Q : State → Prop} (X : hb_X Γ cX3_deadPages 3 RX3 ΛC G 4 86)  (k : Nat) (hk : hb_is ΛC k 3) (w1 : Int32) (w2 : Int32) (σ : hb_Mem) {x : ((Int32 × Int32) ⊕ Int32)} (h : lb_X3_deadPages_4 k w1 w2 σ = some x) (K : Sum.elim (fun s : (Int32 × Int32) => hb_W Γ ΛC G 3 Q σ [some (.ref (G.2.2.2 k)), some (.int s.1), some (.int s.2)] [] 4) (fun t : Int32 => hb_W Γ ΛC G 3 Q σ [none, some (.int t), none] [] 29) x) : hb_W Γ ΛC G 3 Q σ [some (.ref (G.2.2.2 k)), some (.int w1), some (.int w2)] [] 4 := by
  unfold lb_X3_deadPages_4 at h
  refine ww_iload_n 5 X dX3_deadPages_4 rfl rfl ?_
  refine ww_aload_n 6 X dX3_deadPages_5 rfl rfl ?_
  refine ww_geti (ci := 3) (j := 1) 9 X cf_3 tw_X3_15 (by decide) rfl hk dX3_deadPages_6 rfl ?_
  refine ww_icmp_ge 29 12 X dX3_deadPages_9 (by decide) rfl h (fun h => ?_) (fun h => ?_)
  · skip
    obtain rfl := Option.some.inj h
    refine ww_kill [0, 2] (L' := [none, some (.int w1), none]) rfl ?_
    exact K
  · skip
    refine ww_iload_n 13 X dX3_deadPages_12 rfl rfl ?_
    refine ww_aload_n 14 X dX3_deadPages_13 rfl rfl ?_
    refine ww_iload_n 15 X dX3_deadPages_14 rfl rfl ?_
    obtain ⟨x1, hx1, h⟩ := hb_bind_of h
    refine ww_callV (ci := 3) (rest := [.int w1]) (st' := [.int x1, .int w1]) 18 X (ct_X3_isDead (hb_l Γ) G k hk w2 σ hx1) cw_X3_131 rfl (by decide) hk rfl ⟨by decide, by decide⟩ (Nat.le_of_ble_eq_true rfl) rfl rfl dX3_deadPages_15 rfl ?_
    obtain ⟨x2, hx2, h⟩ := hb_bind_of h
    refine ww_callSN (rest := [.int w1]) (st' := [.int x2, .int w1]) 21 X (ct_X5_oneIf (hb_l Γ) G x1 σ hx2) cw_X3_115 rfl ⟨by decide, by decide⟩ (Nat.le_of_ble_eq_true rfl) rfl rfl dX3_deadPages_18 rfl ?_
    refine ww_iadd 22 X dX3_deadPages_21 rfl ?_
    obtain ⟨v3, ev3, h⟩ := hb_nm_of h
    rw [← ev3]
    refine ww_istore_n 23 X (L' := [some (.ref (G.2.2.2 k)), some (.int v3), some (.int w2)]) dX3_deadPages_22 rfl (Nat.le_of_ble_eq_true rfl) rfl rfl ?_
    obtain ⟨v4, ev4, h⟩ := hb_nm_of h
    refine ww_iinc 26 X (L' := [some (.ref (G.2.2.2 k)), some (.int v3), some (.int v4)]) dX3_deadPages_23 rfl rfl ev4.symm rfl ?_
    refine ww_goto 4 X dX3_deadPages_26 (by decide) ?_
    obtain rfl := Option.some.inj h
    exact K
def ll_X3_deadPages_4 (k : Nat) (σ : hb_Mem) : (Int32 × Int32) → Option Int32 := hb_lp (fun s => lb_X3_deadPages_4 k s.1 s.2 σ) hb_F
theorem lw_X3_deadPages_4 {Γ : hb_Ctx} {G : hb_Gam} {Q : State → Prop} (X : hb_X Γ cX3_deadPages 3 RX3 ΛC G 4 86)  (k : Nat) (hk : hb_is ΛC k 3) (σ : hb_Mem) (s : (Int32 × Int32)) (t : Int32) (h : ll_X3_deadPages_4 k σ s = some t) (K : (fun t : Int32 => hb_W Γ ΛC G 3 Q σ [none, some (.int t), none] [] 29) t) : hb_W Γ ΛC G 3 Q σ [some (.ref (G.2.2.2 k)), some (.int s.1), some (.int s.2)] [] 4 :=
  hb_lp_w (P := fun s : (Int32 × Int32) => hb_W Γ ΛC G 3 Q σ [some (.ref (G.2.2.2 k)), some (.int s.1), some (.int s.2)] [] 4) (E := (fun t : Int32 => hb_W Γ ΛC G 3 Q σ [none, some (.int t), none] [] 29)) (fun s x hx K => lk_X3_deadPages_4 X k hk s.1 s.2 σ hx K) _ s t h K
def fn_X3_deadPages (k : Nat) (σ : hb_Mem) : Option Int32 :=
(ll_X3_deadPages_4 k σ (0, 0)).bind fun t5 =>
some t5
set_option maxRecDepth 100000 in
set_option maxHeartbeats 4000000 in
theorem wk_X3_deadPages {Γ : hb_Ctx} {G : hb_Gam} {Q : State → Prop} (X : hb_X Γ cX3_deadPages 3 RX3 ΛC G 4 86) (hr : hb_ret Γ = (some .int)) (k : Nat) (hk : hb_is ΛC k 3) (σ : hb_Mem) {x : Int32} (h : fn_X3_deadPages k σ = some x) (K : Q = hb_Q Γ ΛC G (some (.int x)) σ) : hb_W Γ ΛC G 3 Q σ [some (.ref (G.2.2.2 k)), none, none] [] 0 := by
  unfold fn_X3_deadPages at h
  refine ww_iconst (v := 0) 1 X dX3_deadPages_0 rfl (by decide) ?_
  refine ww_istore_n 2 X (L' := [some (.ref (G.2.2.2 k)), some (.int 0), none]) dX3_deadPages_1 rfl (Nat.le_of_ble_eq_true rfl) rfl rfl ?_
  refine ww_iconst (v := 0) 3 X dX3_deadPages_2 rfl (by decide) ?_
  refine ww_istore_n 4 X (L' := [some (.ref (G.2.2.2 k)), some (.int 0), some (.int 0)]) dX3_deadPages_3 rfl (Nat.le_of_ble_eq_true rfl) rfl rfl ?_
  obtain ⟨t5, ht5, h⟩ := hb_bind_of h
  refine lw_X3_deadPages_4 X k hk σ (0, 0) t5 ht5 ?_
  refine ww_iload_n 30 X dX3_deadPages_29 rfl rfl ?_
  obtain rfl := Option.some.inj h
  exact ww_ret_i X hr K dX3_deadPages_30
theorem ct_X3_deadPages (l : Launch) (G : hb_Gam) (k : Nat) (hk : hb_is ΛC k 3) (σ : hb_Mem) {x : Int32} (h : fn_X3_deadPages k σ = some x) : hb_C l yX3_deadPages cX3_deadPages 3 (some .int) 4 86 ΛC G [.ref (G.2.2.2 k)] σ (some (.int x)) σ :=
  hb_C.of [some (.ref (G.2.2.2 k)), none, none] (by decide +kernel) (Nat.le_of_ble_eq_true rfl) (by intro v hv; simp only [List.mem_cons, List.not_mem_nil, or_false] at hv; subst hv; rfl) rfl (hb_pad [.ref (G.2.2.2 k)] 2) (fun Γ X hr => wk_X3_deadPages X hr k hk σ h rfl)
def lb_X3_pagesThatComeAgain_4 (k : Nat) (w1 : Int32) (w2 : Int32) (σ : hb_Mem) : Option ((Int32 × Int32) ⊕ Int32) :=
if (σ k 1) ≤ w2 then (
some (.inr w1))
else (
(fn_X3_comesAgain k w2 σ).bind fun x1 =>
(fn_X5_oneIf x1).bind fun x2 =>
hb_nm (w1 + x2) fun v3 =>
hb_nm (w2 + 1) fun v4 =>
some (.inl (v3, v4)))
set_option maxRecDepth 100000 in
set_option maxHeartbeats 4000000 in
theorem lk_X3_pagesThatComeAgain_4 {Γ : hb_Ctx} {G : hb_Gam} {Q : State → Prop} (X : hb_X Γ cX3_pagesThatComeAgain 3 RX3 ΛC G 3 65)  (k : Nat) (hk : hb_is ΛC k 3) (w1 : Int32) (w2 : Int32) (σ : hb_Mem) {x : ((Int32 × Int32) ⊕ Int32)} (h : lb_X3_pagesThatComeAgain_4 k w1 w2 σ = some x) (K : Sum.elim (fun s : (Int32 × Int32) => hb_W Γ ΛC G 3 Q σ [some (.ref (G.2.2.2 k)), some (.int s.1), some (.int s.2)] [] 4) (fun t : Int32 => hb_W Γ ΛC G 3 Q σ [none, some (.int t), none] [] 29) x) : hb_W Γ ΛC G 3 Q σ [some (.ref (G.2.2.2 k)), some (.int w1), some (.int w2)] [] 4 := by
  unfold lb_X3_pagesThatComeAgain_4 at h
  refine ww_iload_n 5 X dX3_pagesThatComeAgain_4 rfl rfl ?_
  refine ww_aload_n 6 X dX3_pagesThatComeAgain_5 rfl rfl ?_
  refine ww_geti (ci := 3) (j := 1) 9 X cf_3 tw_X3_15 (by decide) rfl hk dX3_pagesThatComeAgain_6 rfl ?_
  refine ww_icmp_ge 29 12 X dX3_pagesThatComeAgain_9 (by decide) rfl h (fun h => ?_) (fun h => ?_)
  · skip
    obtain rfl := Option.some.inj h
    refine ww_kill [0, 2] (L' := [none, some (.int w1), none]) rfl ?_
    exact K
  · skip
    refine ww_iload_n 13 X dX3_pagesThatComeAgain_12 rfl rfl ?_
    refine ww_aload_n 14 X dX3_pagesThatComeAgain_13 rfl rfl ?_
    refine ww_iload_n 15 X dX3_pagesThatComeAgain_14 rfl rfl ?_
    obtain ⟨x1, hx1, h⟩ := hb_bind_of h
    refine ww_callV (ci := 3) (rest := [.int w1]) (st' := [.int x1, .int w1]) 18 X (ct_X3_comesAgain (hb_l Γ) G k hk w2 σ hx1) cw_X3_134 rfl (by decide) hk rfl ⟨by decide, by decide⟩ (Nat.le_of_ble_eq_true rfl) rfl rfl dX3_pagesThatComeAgain_15 rfl ?_
    obtain ⟨x2, hx2, h⟩ := hb_bind_of h
    refine ww_callSN (rest := [.int w1]) (st' := [.int x2, .int w1]) 21 X (ct_X5_oneIf (hb_l Γ) G x1 σ hx2) cw_X3_115 rfl ⟨by decide, by decide⟩ (Nat.le_of_ble_eq_true rfl) rfl rfl dX3_pagesThatComeAgain_18 rfl ?_
    refine ww_iadd 22 X dX3_pagesThatComeAgain_21 rfl ?_
    obtain ⟨v3, ev3, h⟩ := hb_nm_of h
    rw [← ev3]
    refine ww_istore_n 23 X (L' := [some (.ref (G.2.2.2 k)), some (.int v3), some (.int w2)]) dX3_pagesThatComeAgain_22 rfl (Nat.le_of_ble_eq_true rfl) rfl rfl ?_
    obtain ⟨v4, ev4, h⟩ := hb_nm_of h
    refine ww_iinc 26 X (L' := [some (.ref (G.2.2.2 k)), some (.int v3), some (.int v4)]) dX3_pagesThatComeAgain_23 rfl rfl ev4.symm rfl ?_
    refine ww_goto 4 X dX3_pagesThatComeAgain_26 (by decide) ?_
    obtain rfl := Option.some.inj h
    exact K
def ll_X3_pagesThatComeAgain_4 (k : Nat) (σ : hb_Mem) : (Int32 × Int32) → Option Int32 := hb_lp (fun s => lb_X3_pagesThatComeAgain_4 k s.1 s.2 σ) hb_F
theorem lw_X3_pagesThatComeAgain_4 {Γ : hb_Ctx} {G : hb_Gam} {Q : State → Prop} (X : hb_X Γ cX3_pagesThatComeAgain 3 RX3 ΛC G 3 65)  (k : Nat) (hk : hb_is ΛC k 3) (σ : hb_Mem) (s : (Int32 × Int32)) (t : Int32) (h : ll_X3_pagesThatComeAgain_4 k σ s = some t) (K : (fun t : Int32 => hb_W Γ ΛC G 3 Q σ [none, some (.int t), none] [] 29) t) : hb_W Γ ΛC G 3 Q σ [some (.ref (G.2.2.2 k)), some (.int s.1), some (.int s.2)] [] 4 :=
  hb_lp_w (P := fun s : (Int32 × Int32) => hb_W Γ ΛC G 3 Q σ [some (.ref (G.2.2.2 k)), some (.int s.1), some (.int s.2)] [] 4) (E := (fun t : Int32 => hb_W Γ ΛC G 3 Q σ [none, some (.int t), none] [] 29)) (fun s x hx K => lk_X3_pagesThatComeAgain_4 X k hk s.1 s.2 σ hx K) _ s t h K
def fn_X3_pagesThatComeAgain (k : Nat) (σ : hb_Mem) : Option Int32 :=
(ll_X3_pagesThatComeAgain_4 k σ (0, 0)).bind fun t5 =>
some t5
set_option maxRecDepth 100000 in
set_option maxHeartbeats 4000000 in
theorem wk_X3_pagesThatComeAgain {Γ : hb_Ctx} {G : hb_Gam} {Q : State → Prop} (X : hb_X Γ cX3_pagesThatComeAgain 3 RX3 ΛC G 3 65) (hr : hb_ret Γ = (some .int)) (k : Nat) (hk : hb_is ΛC k 3) (σ : hb_Mem) {x : Int32} (h : fn_X3_pagesThatComeAgain k σ = some x) (K : Q = hb_Q Γ ΛC G (some (.int x)) σ) : hb_W Γ ΛC G 3 Q σ [some (.ref (G.2.2.2 k)), none, none] [] 0 := by
  unfold fn_X3_pagesThatComeAgain at h
  refine ww_iconst (v := 0) 1 X dX3_pagesThatComeAgain_0 rfl (by decide) ?_
  refine ww_istore_n 2 X (L' := [some (.ref (G.2.2.2 k)), some (.int 0), none]) dX3_pagesThatComeAgain_1 rfl (Nat.le_of_ble_eq_true rfl) rfl rfl ?_
  refine ww_iconst (v := 0) 3 X dX3_pagesThatComeAgain_2 rfl (by decide) ?_
  refine ww_istore_n 4 X (L' := [some (.ref (G.2.2.2 k)), some (.int 0), some (.int 0)]) dX3_pagesThatComeAgain_3 rfl (Nat.le_of_ble_eq_true rfl) rfl rfl ?_
  obtain ⟨t5, ht5, h⟩ := hb_bind_of h
  refine lw_X3_pagesThatComeAgain_4 X k hk σ (0, 0) t5 ht5 ?_
  refine ww_iload_n 30 X dX3_pagesThatComeAgain_29 rfl rfl ?_
  obtain rfl := Option.some.inj h
  exact ww_ret_i X hr K dX3_pagesThatComeAgain_30
theorem ct_X3_pagesThatComeAgain (l : Launch) (G : hb_Gam) (k : Nat) (hk : hb_is ΛC k 3) (σ : hb_Mem) {x : Int32} (h : fn_X3_pagesThatComeAgain k σ = some x) : hb_C l yX3_pagesThatComeAgain cX3_pagesThatComeAgain 3 (some .int) 3 65 ΛC G [.ref (G.2.2.2 k)] σ (some (.int x)) σ :=
  hb_C.of [some (.ref (G.2.2.2 k)), none, none] (by decide +kernel) (Nat.le_of_ble_eq_true rfl) (by intro v hv; simp only [List.mem_cons, List.not_mem_nil, or_false] at hv; subst hv; rfl) rfl (hb_pad [.ref (G.2.2.2 k)] 2) (fun Γ X hr => wk_X3_pagesThatComeAgain X hr k hk σ h rfl)
def lb_X3_stuckPlaces_4 (k : Nat) (w1 : Int32) (w2 : Int32) (σ : hb_Mem) : Option ((Int32 × Int32) ⊕ Int32) :=
if (σ k 1) ≤ w2 then (
some (.inr w1))
else (
(fn_X3_stuckPlacesWith k w2 σ).bind fun x1 =>
hb_nm (w1 + x1) fun v2 =>
hb_nm (w2 + 1) fun v3 =>
some (.inl (v2, v3)))
set_option maxRecDepth 100000 in
set_option maxHeartbeats 4000000 in
theorem lk_X3_stuckPlaces_4 {Γ : hb_Ctx} {G : hb_Gam} {Q : State → Prop} (X : hb_X Γ cX3_stuckPlaces 3 RX3 ΛC G 4 86)  (k : Nat) (hk : hb_is ΛC k 3) (w1 : Int32) (w2 : Int32) (σ : hb_Mem) {x : ((Int32 × Int32) ⊕ Int32)} (h : lb_X3_stuckPlaces_4 k w1 w2 σ = some x) (K : Sum.elim (fun s : (Int32 × Int32) => hb_W Γ ΛC G 3 Q σ [some (.ref (G.2.2.2 k)), some (.int s.1), some (.int s.2)] [] 4) (fun t : Int32 => hb_W Γ ΛC G 3 Q σ [none, some (.int t), none] [] 26) x) : hb_W Γ ΛC G 3 Q σ [some (.ref (G.2.2.2 k)), some (.int w1), some (.int w2)] [] 4 := by
  unfold lb_X3_stuckPlaces_4 at h
  refine ww_iload_n 5 X dX3_stuckPlaces_4 rfl rfl ?_
  refine ww_aload_n 6 X dX3_stuckPlaces_5 rfl rfl ?_
  refine ww_geti (ci := 3) (j := 1) 9 X cf_3 tw_X3_15 (by decide) rfl hk dX3_stuckPlaces_6 rfl ?_
  refine ww_icmp_ge 26 12 X dX3_stuckPlaces_9 (by decide) rfl h (fun h => ?_) (fun h => ?_)
  · skip
    obtain rfl := Option.some.inj h
    refine ww_kill [0, 2] (L' := [none, some (.int w1), none]) rfl ?_
    exact K
  · skip
    refine ww_iload_n 13 X dX3_stuckPlaces_12 rfl rfl ?_
    refine ww_aload_n 14 X dX3_stuckPlaces_13 rfl rfl ?_
    refine ww_iload_n 15 X dX3_stuckPlaces_14 rfl rfl ?_
    obtain ⟨x1, hx1, h⟩ := hb_bind_of h
    refine ww_callV (ci := 3) (rest := [.int w1]) (st' := [.int x1, .int w1]) 18 X (ct_X3_stuckPlacesWith (hb_l Γ) G k hk w2 σ hx1) cw_X3_137 rfl (by decide) hk rfl ⟨by decide, by decide⟩ (Nat.le_of_ble_eq_true rfl) rfl rfl dX3_stuckPlaces_15 rfl ?_
    refine ww_iadd 19 X dX3_stuckPlaces_18 rfl ?_
    obtain ⟨v2, ev2, h⟩ := hb_nm_of h
    rw [← ev2]
    refine ww_istore_n 20 X (L' := [some (.ref (G.2.2.2 k)), some (.int v2), some (.int w2)]) dX3_stuckPlaces_19 rfl (Nat.le_of_ble_eq_true rfl) rfl rfl ?_
    obtain ⟨v3, ev3, h⟩ := hb_nm_of h
    refine ww_iinc 23 X (L' := [some (.ref (G.2.2.2 k)), some (.int v2), some (.int v3)]) dX3_stuckPlaces_20 rfl rfl ev3.symm rfl ?_
    refine ww_goto 4 X dX3_stuckPlaces_23 (by decide) ?_
    obtain rfl := Option.some.inj h
    exact K
def ll_X3_stuckPlaces_4 (k : Nat) (σ : hb_Mem) : (Int32 × Int32) → Option Int32 := hb_lp (fun s => lb_X3_stuckPlaces_4 k s.1 s.2 σ) hb_F
theorem lw_X3_stuckPlaces_4 {Γ : hb_Ctx} {G : hb_Gam} {Q : State → Prop} (X : hb_X Γ cX3_stuckPlaces 3 RX3 ΛC G 4 86)  (k : Nat) (hk : hb_is ΛC k 3) (σ : hb_Mem) (s : (Int32 × Int32)) (t : Int32) (h : ll_X3_stuckPlaces_4 k σ s = some t) (K : (fun t : Int32 => hb_W Γ ΛC G 3 Q σ [none, some (.int t), none] [] 26) t) : hb_W Γ ΛC G 3 Q σ [some (.ref (G.2.2.2 k)), some (.int s.1), some (.int s.2)] [] 4 :=
  hb_lp_w (P := fun s : (Int32 × Int32) => hb_W Γ ΛC G 3 Q σ [some (.ref (G.2.2.2 k)), some (.int s.1), some (.int s.2)] [] 4) (E := (fun t : Int32 => hb_W Γ ΛC G 3 Q σ [none, some (.int t), none] [] 26)) (fun s x hx K => lk_X3_stuckPlaces_4 X k hk s.1 s.2 σ hx K) _ s t h K
def fn_X3_stuckPlaces (k : Nat) (σ : hb_Mem) : Option Int32 :=
(ll_X3_stuckPlaces_4 k σ (0, 0)).bind fun t4 =>
some t4
set_option maxRecDepth 100000 in
set_option maxHeartbeats 4000000 in
theorem wk_X3_stuckPlaces {Γ : hb_Ctx} {G : hb_Gam} {Q : State → Prop} (X : hb_X Γ cX3_stuckPlaces 3 RX3 ΛC G 4 86) (hr : hb_ret Γ = (some .int)) (k : Nat) (hk : hb_is ΛC k 3) (σ : hb_Mem) {x : Int32} (h : fn_X3_stuckPlaces k σ = some x) (K : Q = hb_Q Γ ΛC G (some (.int x)) σ) : hb_W Γ ΛC G 3 Q σ [some (.ref (G.2.2.2 k)), none, none] [] 0 := by
  unfold fn_X3_stuckPlaces at h
  refine ww_iconst (v := 0) 1 X dX3_stuckPlaces_0 rfl (by decide) ?_
  refine ww_istore_n 2 X (L' := [some (.ref (G.2.2.2 k)), some (.int 0), none]) dX3_stuckPlaces_1 rfl (Nat.le_of_ble_eq_true rfl) rfl rfl ?_
  refine ww_iconst (v := 0) 3 X dX3_stuckPlaces_2 rfl (by decide) ?_
  refine ww_istore_n 4 X (L' := [some (.ref (G.2.2.2 k)), some (.int 0), some (.int 0)]) dX3_stuckPlaces_3 rfl (Nat.le_of_ble_eq_true rfl) rfl rfl ?_
  obtain ⟨t4, ht4, h⟩ := hb_bind_of h
  refine lw_X3_stuckPlaces_4 X k hk σ (0, 0) t4 ht4 ?_
  refine ww_iload_n 27 X dX3_stuckPlaces_26 rfl rfl ?_
  obtain rfl := Option.some.inj h
  exact ww_ret_i X hr K dX3_stuckPlaces_27
theorem ct_X3_stuckPlaces (l : Launch) (G : hb_Gam) (k : Nat) (hk : hb_is ΛC k 3) (σ : hb_Mem) {x : Int32} (h : fn_X3_stuckPlaces k σ = some x) : hb_C l yX3_stuckPlaces cX3_stuckPlaces 3 (some .int) 4 86 ΛC G [.ref (G.2.2.2 k)] σ (some (.int x)) σ :=
  hb_C.of [some (.ref (G.2.2.2 k)), none, none] (by decide +kernel) (Nat.le_of_ble_eq_true rfl) (by intro v hv; simp only [List.mem_cons, List.not_mem_nil, or_false] at hv; subst hv; rfl) rfl (hb_pad [.ref (G.2.2.2 k)] 2) (fun Γ X hr => wk_X3_stuckPlaces X hr k hk σ h rfl)
def jn_X3_livePagesOf_34 (k : Nat) (p1 : Int32) (j3 : Int32) (s0 : Int32) (s1 : Int32) (σ : hb_Mem) : Option ((Int32 × Int32) ⊕ Int32) :=
(fn_X5_oneIf s1).bind fun x2 =>
hb_nm (s0 + x2) fun v3 =>
hb_nm (j3 + 1) fun v4 =>
some (.inl (v3, v4))
set_option maxRecDepth 100000 in
set_option maxHeartbeats 4000000 in
theorem jw_X3_livePagesOf_34 {Γ : hb_Ctx} {G : hb_Gam} {Q : State → Prop} (X : hb_X Γ cX3_livePagesOf 4 RX3 ΛC G 4 86)  (k : Nat) (hk : hb_is ΛC k 3) (p1 : Int32) (j3 : Int32) (s0 : Int32) (s1 : Int32) (σ : hb_Mem) {x : ((Int32 × Int32) ⊕ Int32)} (h : jn_X3_livePagesOf_34 k p1 j3 s0 s1 σ = some x) (K : Sum.elim (fun s : (Int32 × Int32) => hb_W Γ ΛC G 4 Q σ [some (.ref (G.2.2.2 k)), some (.int p1), some (.int s.1), some (.int s.2)] [] 4) (fun t : Int32 => hb_W Γ ΛC G 4 Q σ [none, none, some (.int t), none] [] 45) x) : hb_W Γ ΛC G 4 Q σ [some (.ref (G.2.2.2 k)), some (.int p1), none, some (.int j3)] [.int s1, .int s0] 34 := by
  unfold jn_X3_livePagesOf_34 at h
  obtain ⟨x2, hx2, h⟩ := hb_bind_of h
  refine ww_callSN (rest := [.int s0]) (st' := [.int x2, .int s0]) 37 X (ct_X5_oneIf (hb_l Γ) G s1 σ hx2) cw_X3_115 rfl ⟨by decide, by decide⟩ (Nat.le_of_ble_eq_true rfl) rfl rfl dX3_livePagesOf_34 rfl ?_
  refine ww_iadd 38 X dX3_livePagesOf_37 rfl ?_
  obtain ⟨v3, ev3, h⟩ := hb_nm_of h
  rw [← ev3]
  refine ww_istore_n 39 X (L' := [some (.ref (G.2.2.2 k)), some (.int p1), some (.int v3), some (.int j3)]) dX3_livePagesOf_38 rfl (Nat.le_of_ble_eq_true rfl) rfl rfl ?_
  obtain ⟨v4, ev4, h⟩ := hb_nm_of h
  refine ww_iinc 42 X (L' := [some (.ref (G.2.2.2 k)), some (.int p1), some (.int v3), some (.int v4)]) dX3_livePagesOf_39 rfl rfl ev4.symm rfl ?_
  refine ww_goto 4 X dX3_livePagesOf_42 (by decide) ?_
  obtain rfl := Option.some.inj h
  exact K
def jn_X3_livePagesOf_33 (k : Nat) (p1 : Int32) (j3 : Int32) (s0 : Int32) (σ : hb_Mem) : Option ((Int32 × Int32) ⊕ Int32) :=
jn_X3_livePagesOf_34 k p1 j3 s0 0 σ
set_option maxRecDepth 100000 in
set_option maxHeartbeats 4000000 in
theorem jw_X3_livePagesOf_33 {Γ : hb_Ctx} {G : hb_Gam} {Q : State → Prop} (X : hb_X Γ cX3_livePagesOf 4 RX3 ΛC G 4 86)  (k : Nat) (hk : hb_is ΛC k 3) (p1 : Int32) (j3 : Int32) (s0 : Int32) (σ : hb_Mem) {x : ((Int32 × Int32) ⊕ Int32)} (h : jn_X3_livePagesOf_33 k p1 j3 s0 σ = some x) (K : Sum.elim (fun s : (Int32 × Int32) => hb_W Γ ΛC G 4 Q σ [some (.ref (G.2.2.2 k)), some (.int p1), some (.int s.1), some (.int s.2)] [] 4) (fun t : Int32 => hb_W Γ ΛC G 4 Q σ [none, none, some (.int t), none] [] 45) x) : hb_W Γ ΛC G 4 Q σ [some (.ref (G.2.2.2 k)), some (.int p1), none, some (.int j3)] [.int s0] 33 := by
  unfold jn_X3_livePagesOf_33 at h
  refine ww_iconst (v := 0) 34 X dX3_livePagesOf_33 rfl (by decide) ?_
  exact jw_X3_livePagesOf_34 X k hk p1 j3 s0 0 σ h K
def lb_X3_livePagesOf_4 (k : Nat) (p1 : Int32) (w2 : Int32) (w3 : Int32) (σ : hb_Mem) : Option ((Int32 × Int32) ⊕ Int32) :=
if (σ k 1) ≤ w3 then (
some (.inr w2))
else (
(fn_X3_isIn w3 p1).bind fun x1 =>
if x1 = 0 then (
jn_X3_livePagesOf_33 k p1 w3 w2 σ)
else (
(fn_X3_isDead k w3 σ).bind fun x5 =>
if x5 = 0 then (
jn_X3_livePagesOf_34 k p1 w3 w2 1 σ)
else (
jn_X3_livePagesOf_33 k p1 w3 w2 σ)))
set_option maxRecDepth 100000 in
set_option maxHeartbeats 4000000 in
theorem lk_X3_livePagesOf_4 {Γ : hb_Ctx} {G : hb_Gam} {Q : State → Prop} (X : hb_X Γ cX3_livePagesOf 4 RX3 ΛC G 4 86)  (k : Nat) (hk : hb_is ΛC k 3) (p1 : Int32) (w2 : Int32) (w3 : Int32) (σ : hb_Mem) {x : ((Int32 × Int32) ⊕ Int32)} (h : lb_X3_livePagesOf_4 k p1 w2 w3 σ = some x) (K : Sum.elim (fun s : (Int32 × Int32) => hb_W Γ ΛC G 4 Q σ [some (.ref (G.2.2.2 k)), some (.int p1), some (.int s.1), some (.int s.2)] [] 4) (fun t : Int32 => hb_W Γ ΛC G 4 Q σ [none, none, some (.int t), none] [] 45) x) : hb_W Γ ΛC G 4 Q σ [some (.ref (G.2.2.2 k)), some (.int p1), some (.int w2), some (.int w3)] [] 4 := by
  unfold lb_X3_livePagesOf_4 at h
  refine ww_iload_n 5 X dX3_livePagesOf_4 rfl rfl ?_
  refine ww_aload_n 6 X dX3_livePagesOf_5 rfl rfl ?_
  refine ww_geti (ci := 3) (j := 1) 9 X cf_3 tw_X3_15 (by decide) rfl hk dX3_livePagesOf_6 rfl ?_
  refine ww_icmp_ge 45 12 X dX3_livePagesOf_9 (by decide) rfl h (fun h => ?_) (fun h => ?_)
  · skip
    obtain rfl := Option.some.inj h
    refine ww_kill [0, 1, 3] (L' := [none, none, some (.int w2), none]) rfl ?_
    exact K
  · skip
    refine ww_iload_n 13 X dX3_livePagesOf_12 rfl rfl ?_
    refine ww_iload_n 14 X dX3_livePagesOf_13 rfl rfl ?_
    refine ww_iload_n 15 X dX3_livePagesOf_14 rfl rfl ?_
    obtain ⟨x1, hx1, h⟩ := hb_bind_of h
    refine ww_callS (rest := [.int w2]) (st' := [.int x1, .int w2]) 18 X (ct_X3_isIn (hb_l Γ) G w3 p1 σ hx1) cw_X3_89 rfl ⟨by decide, by decide⟩ (Nat.le_of_ble_eq_true rfl) rfl rfl dX3_livePagesOf_15 rfl ?_
    refine ww_if_eq 33 21 X dX3_livePagesOf_18 (by decide) rfl h (fun h => ?_) (fun h => ?_)
    · skip
      refine ww_kill [2] (L' := [some (.ref (G.2.2.2 k)), some (.int p1), none, some (.int w3)]) rfl ?_
      exact jw_X3_livePagesOf_33 X k hk p1 w3 w2 σ h K
    · skip
      refine ww_aload_n 22 X dX3_livePagesOf_21 rfl rfl ?_
      refine ww_iload_n 23 X dX3_livePagesOf_22 rfl rfl ?_
      obtain ⟨x5, hx5, h⟩ := hb_bind_of h
      refine ww_callV (ci := 3) (rest := [.int w2]) (st' := [.int x5, .int w2]) 26 X (ct_X3_isDead (hb_l Γ) G k hk w3 σ hx5) cw_X3_131 rfl (by decide) hk rfl ⟨by decide, by decide⟩ (Nat.le_of_ble_eq_true rfl) rfl rfl dX3_livePagesOf_23 rfl ?_
      refine ww_if_ne 33 29 X dX3_livePagesOf_26 (by decide) rfl h (fun h => ?_) (fun h => ?_)
      · skip
        refine ww_iconst (v := 1) 30 X dX3_livePagesOf_29 rfl (by decide) ?_
        refine ww_goto 34 X dX3_livePagesOf_30 (by decide) ?_
        refine ww_kill [2] (L' := [some (.ref (G.2.2.2 k)), some (.int p1), none, some (.int w3)]) rfl ?_
        exact jw_X3_livePagesOf_34 X k hk p1 w3 w2 1 σ h K
      · skip
        refine ww_kill [2] (L' := [some (.ref (G.2.2.2 k)), some (.int p1), none, some (.int w3)]) rfl ?_
        exact jw_X3_livePagesOf_33 X k hk p1 w3 w2 σ h K
def ll_X3_livePagesOf_4 (k : Nat) (p1 : Int32) (σ : hb_Mem) : (Int32 × Int32) → Option Int32 := hb_lp (fun s => lb_X3_livePagesOf_4 k p1 s.1 s.2 σ) hb_F
theorem lw_X3_livePagesOf_4 {Γ : hb_Ctx} {G : hb_Gam} {Q : State → Prop} (X : hb_X Γ cX3_livePagesOf 4 RX3 ΛC G 4 86)  (k : Nat) (hk : hb_is ΛC k 3) (p1 : Int32) (σ : hb_Mem) (s : (Int32 × Int32)) (t : Int32) (h : ll_X3_livePagesOf_4 k p1 σ s = some t) (K : (fun t : Int32 => hb_W Γ ΛC G 4 Q σ [none, none, some (.int t), none] [] 45) t) : hb_W Γ ΛC G 4 Q σ [some (.ref (G.2.2.2 k)), some (.int p1), some (.int s.1), some (.int s.2)] [] 4 :=
  hb_lp_w (P := fun s : (Int32 × Int32) => hb_W Γ ΛC G 4 Q σ [some (.ref (G.2.2.2 k)), some (.int p1), some (.int s.1), some (.int s.2)] [] 4) (E := (fun t : Int32 => hb_W Γ ΛC G 4 Q σ [none, none, some (.int t), none] [] 45)) (fun s x hx K => lk_X3_livePagesOf_4 X k hk p1 s.1 s.2 σ hx K) _ s t h K
def fn_X3_livePagesOf (k : Nat) (p1 : Int32) (σ : hb_Mem) : Option Int32 :=
(ll_X3_livePagesOf_4 k p1 σ (0, 0)).bind fun t6 =>
some t6
set_option maxRecDepth 100000 in
set_option maxHeartbeats 4000000 in
theorem wk_X3_livePagesOf {Γ : hb_Ctx} {G : hb_Gam} {Q : State → Prop} (X : hb_X Γ cX3_livePagesOf 4 RX3 ΛC G 4 86) (hr : hb_ret Γ = (some .int)) (k : Nat) (hk : hb_is ΛC k 3) (p1 : Int32) (σ : hb_Mem) {x : Int32} (h : fn_X3_livePagesOf k p1 σ = some x) (K : Q = hb_Q Γ ΛC G (some (.int x)) σ) : hb_W Γ ΛC G 4 Q σ [some (.ref (G.2.2.2 k)), some (.int p1), none, none] [] 0 := by
  unfold fn_X3_livePagesOf at h
  refine ww_iconst (v := 0) 1 X dX3_livePagesOf_0 rfl (by decide) ?_
  refine ww_istore_n 2 X (L' := [some (.ref (G.2.2.2 k)), some (.int p1), some (.int 0), none]) dX3_livePagesOf_1 rfl (Nat.le_of_ble_eq_true rfl) rfl rfl ?_
  refine ww_iconst (v := 0) 3 X dX3_livePagesOf_2 rfl (by decide) ?_
  refine ww_istore_n 4 X (L' := [some (.ref (G.2.2.2 k)), some (.int p1), some (.int 0), some (.int 0)]) dX3_livePagesOf_3 rfl (Nat.le_of_ble_eq_true rfl) rfl rfl ?_
  obtain ⟨t6, ht6, h⟩ := hb_bind_of h
  refine lw_X3_livePagesOf_4 X k hk p1 σ (0, 0) t6 ht6 ?_
  refine ww_iload_n 46 X dX3_livePagesOf_45 rfl rfl ?_
  obtain rfl := Option.some.inj h
  exact ww_ret_i X hr K dX3_livePagesOf_46
theorem ct_X3_livePagesOf (l : Launch) (G : hb_Gam) (k : Nat) (hk : hb_is ΛC k 3) (p1 : Int32) (σ : hb_Mem) {x : Int32} (h : fn_X3_livePagesOf k p1 σ = some x) : hb_C l yX3_livePagesOf cX3_livePagesOf 4 (some .int) 4 86 ΛC G [.ref (G.2.2.2 k), .int p1] σ (some (.int x)) σ :=
  hb_C.of [some (.ref (G.2.2.2 k)), some (.int p1), none, none] (by decide +kernel) (Nat.le_of_ble_eq_true rfl) (by intro v hv; simp only [List.mem_cons, List.not_mem_nil, or_false] at hv; rcases hv with rfl | rfl <;> rfl) rfl (hb_pad [.ref (G.2.2.2 k), .int p1] 2) (fun Γ X hr => wk_X3_livePagesOf X hr k hk p1 σ h rfl)
def jn_X3_isEverOpen_39 (k : Nat) (r1 : Nat) (p2 : Int32) (p3 : Int32) (j4 : Int32) (σ : hb_Mem) : Option (Int32 ⊕ (Unit ⊕ Unit)) :=
hb_nm (j4 + 1) fun v3 =>
some (.inl v3)
set_option maxRecDepth 100000 in
set_option maxHeartbeats 4000000 in
theorem jw_X3_isEverOpen_39 {Γ : hb_Ctx} {G : hb_Gam} {Q : State → Prop} (X : hb_X Γ cX3_isEverOpen 6 RX3 ΛC G 2 46)  (k : Nat) (hk : hb_is ΛC k 3) (r1 : Nat) (hr1 : hb_is ΛC r1 2) (p2 : Int32) (p3 : Int32) (j4 : Int32) (σ : hb_Mem) {x : (Int32 ⊕ (Unit ⊕ Unit))} (h : jn_X3_isEverOpen_39 k r1 p2 p3 j4 σ = some x) (K : Sum.elim (fun s : Int32 => hb_W Γ ΛC G 6 Q σ [some (.ref (G.2.2.2 k)), some (.ref (G.2.2.2 r1)), some (.int p2), some (.int p3), some (.int s), none] [] 3) (Sum.elim (fun t : Unit => hb_W Γ ΛC G 6 Q σ [none, none, none, none, none, none] [] 37) (fun t : Unit => hb_W Γ ΛC G 6 Q σ [none, none, none, none, none, none] [] 45)) x) : hb_W Γ ΛC G 6 Q σ [some (.ref (G.2.2.2 k)), some (.ref (G.2.2.2 r1)), some (.int p2), some (.int p3), some (.int j4), none] [] 39 := by
  unfold jn_X3_isEverOpen_39 at h
  obtain ⟨v3, ev3, h⟩ := hb_nm_of h
  refine ww_iinc 42 X (L' := [some (.ref (G.2.2.2 k)), some (.ref (G.2.2.2 r1)), some (.int p2), some (.int p3), some (.int v3), none]) dX3_isEverOpen_39 rfl rfl ev3.symm rfl ?_
  refine ww_goto 3 X dX3_isEverOpen_42 (by decide) ?_
  obtain rfl := Option.some.inj h
  exact K
def lb_X3_isEverOpen_3 (k : Nat) (r1 : Nat) (p2 : Int32) (p3 : Int32) (w4 : Int32) (σ : hb_Mem) : Option (Int32 ⊕ (Unit ⊕ Unit)) :=
if 32 ≤ w4 then (
some (.inr (.inr ())))
else (
(fn_X5_placeOf p2 w4).bind fun x1 =>
(fn_X3_isReached k x1 σ).bind fun x2 =>
if x2 = 0 then (
jn_X3_isEverOpen_39 k r1 p2 p3 w4 σ)
else (
(fn_X2_reasonAt r1 x1 p3 σ).bind fun x4 =>
if x4 = 0 then (
some (.inr (.inl ())))
else (
jn_X3_isEverOpen_39 k r1 p2 p3 w4 σ)))
set_option maxRecDepth 100000 in
set_option maxHeartbeats 4000000 in
theorem lk_X3_isEverOpen_3 {Γ : hb_Ctx} {G : hb_Gam} {Q : State → Prop} (X : hb_X Γ cX3_isEverOpen 6 RX3 ΛC G 2 46)  (k : Nat) (hk : hb_is ΛC k 3) (r1 : Nat) (hr1 : hb_is ΛC r1 2) (p2 : Int32) (p3 : Int32) (w4 : Int32) (σ : hb_Mem) {x : (Int32 ⊕ (Unit ⊕ Unit))} (h : lb_X3_isEverOpen_3 k r1 p2 p3 w4 σ = some x) (K : Sum.elim (fun s : Int32 => hb_W Γ ΛC G 6 Q σ [some (.ref (G.2.2.2 k)), some (.ref (G.2.2.2 r1)), some (.int p2), some (.int p3), some (.int s), none] [] 3) (Sum.elim (fun t : Unit => hb_W Γ ΛC G 6 Q σ [none, none, none, none, none, none] [] 37) (fun t : Unit => hb_W Γ ΛC G 6 Q σ [none, none, none, none, none, none] [] 45)) x) : hb_W Γ ΛC G 6 Q σ [some (.ref (G.2.2.2 k)), some (.ref (G.2.2.2 r1)), some (.int p2), some (.int p3), some (.int w4), none] [] 3 := by
  unfold lb_X3_isEverOpen_3 at h
  refine ww_iload 5 X dX3_isEverOpen_3 rfl rfl ?_
  refine ww_bipush (v := 32) 7 X dX3_isEverOpen_5 rfl (by decide) ?_
  refine ww_icmp_ge 45 10 X dX3_isEverOpen_7 (by decide) rfl h (fun h => ?_) (fun h => ?_)
  · skip
    obtain rfl := Option.some.inj h
    refine ww_kill [0, 1, 2, 3, 4] (L' := [none, none, none, none, none, none]) rfl ?_
    exact K
  · skip
    refine ww_iload_n 11 X dX3_isEverOpen_10 rfl rfl ?_
    refine ww_iload 13 X dX3_isEverOpen_11 rfl rfl ?_
    obtain ⟨x1, hx1, h⟩ := hb_bind_of h
    refine ww_callSN (rest := []) (st' := [.int x1]) 16 X (ct_X5_placeOf (hb_l Γ) G p2 w4 σ hx1) cw_X3_122 rfl ⟨by decide, by decide⟩ (Nat.le_of_ble_eq_true rfl) rfl rfl dX3_isEverOpen_13 rfl ?_
    refine ww_istore 18 X (L' := [some (.ref (G.2.2.2 k)), some (.ref (G.2.2.2 r1)), some (.int p2), some (.int p3), some (.int w4), some (.int x1)]) dX3_isEverOpen_16 rfl (Nat.le_of_ble_eq_true rfl) rfl rfl ?_
    refine ww_aload_n 19 X dX3_isEverOpen_18 rfl rfl ?_
    refine ww_iload 21 X dX3_isEverOpen_19 rfl rfl ?_
    obtain ⟨x2, hx2, h⟩ := hb_bind_of h
    refine ww_callV (ci := 3) (rest := []) (st' := [.int x2]) 24 X (ct_X3_isReached (hb_l Γ) G k hk x1 σ hx2) cw_X3_97 rfl (by decide) hk rfl ⟨by decide, by decide⟩ (Nat.le_of_ble_eq_true rfl) rfl rfl dX3_isEverOpen_21 rfl ?_
    refine ww_if_eq 39 27 X dX3_isEverOpen_24 (by decide) rfl h (fun h => ?_) (fun h => ?_)
    · skip
      refine ww_kill [5] (L' := [some (.ref (G.2.2.2 k)), some (.ref (G.2.2.2 r1)), some (.int p2), some (.int p3), some (.int w4), none]) rfl ?_
      exact jw_X3_isEverOpen_39 X k hk r1 hr1 p2 p3 w4 σ h K
    · skip
      refine ww_aload_n 28 X dX3_isEverOpen_27 rfl rfl ?_
      refine ww_iload 30 X dX3_isEverOpen_28 rfl rfl ?_
      refine ww_iload_n 31 X dX3_isEverOpen_30 rfl rfl ?_
      obtain ⟨x4, hx4, h⟩ := hb_bind_of h
      refine ww_callV (ci := 2) (rest := []) (st' := [.int x4]) 34 X (ct_X2_reasonAt (hb_l Γ) G r1 hr1 x1 p3 σ hx4) cw_X3_140 rfl (by decide) hr1 rfl ⟨by decide, by decide⟩ (Nat.le_of_ble_eq_true rfl) rfl rfl dX3_isEverOpen_31 rfl ?_
      refine ww_if_ne 39 37 X dX3_isEverOpen_34 (by decide) rfl h (fun h => ?_) (fun h => ?_)
      · skip
        obtain rfl := Option.some.inj h
        refine ww_kill [0, 1, 2, 3, 4, 5] (L' := [none, none, none, none, none, none]) rfl ?_
        exact K
      · skip
        refine ww_kill [5] (L' := [some (.ref (G.2.2.2 k)), some (.ref (G.2.2.2 r1)), some (.int p2), some (.int p3), some (.int w4), none]) rfl ?_
        exact jw_X3_isEverOpen_39 X k hk r1 hr1 p2 p3 w4 σ h K
def ll_X3_isEverOpen_3 (k : Nat) (r1 : Nat) (p2 : Int32) (p3 : Int32) (σ : hb_Mem) : Int32 → Option (Unit ⊕ Unit) := hb_lp (fun s => lb_X3_isEverOpen_3 k r1 p2 p3 s σ) hb_F
theorem lw_X3_isEverOpen_3 {Γ : hb_Ctx} {G : hb_Gam} {Q : State → Prop} (X : hb_X Γ cX3_isEverOpen 6 RX3 ΛC G 2 46)  (k : Nat) (hk : hb_is ΛC k 3) (r1 : Nat) (hr1 : hb_is ΛC r1 2) (p2 : Int32) (p3 : Int32) (σ : hb_Mem) (s : Int32) (t : (Unit ⊕ Unit)) (h : ll_X3_isEverOpen_3 k r1 p2 p3 σ s = some t) (K : (Sum.elim (fun t : Unit => hb_W Γ ΛC G 6 Q σ [none, none, none, none, none, none] [] 37) (fun t : Unit => hb_W Γ ΛC G 6 Q σ [none, none, none, none, none, none] [] 45)) t) : hb_W Γ ΛC G 6 Q σ [some (.ref (G.2.2.2 k)), some (.ref (G.2.2.2 r1)), some (.int p2), some (.int p3), some (.int s), none] [] 3 :=
  hb_lp_w (P := fun s : Int32 => hb_W Γ ΛC G 6 Q σ [some (.ref (G.2.2.2 k)), some (.ref (G.2.2.2 r1)), some (.int p2), some (.int p3), some (.int s), none] [] 3) (E := (Sum.elim (fun t : Unit => hb_W Γ ΛC G 6 Q σ [none, none, none, none, none, none] [] 37) (fun t : Unit => hb_W Γ ΛC G 6 Q σ [none, none, none, none, none, none] [] 45))) (fun s x hx K => lk_X3_isEverOpen_3 X k hk r1 hr1 p2 p3 s σ hx K) _ s t h K
def fn_X3_isEverOpen (k : Nat) (r1 : Nat) (p2 : Int32) (p3 : Int32) (σ : hb_Mem) : Option Int32 :=
(ll_X3_isEverOpen_3 k r1 p2 p3 σ 0).bind fun t5 =>
Sum.elim (fun t5 =>
some 1) (fun t5 =>
some 0) t5
set_option maxRecDepth 100000 in
set_option maxHeartbeats 4000000 in
theorem wk_X3_isEverOpen {Γ : hb_Ctx} {G : hb_Gam} {Q : State → Prop} (X : hb_X Γ cX3_isEverOpen 6 RX3 ΛC G 2 46) (hr : hb_ret Γ = (some .boolean)) (k : Nat) (hk : hb_is ΛC k 3) (r1 : Nat) (hr1 : hb_is ΛC r1 2) (p2 : Int32) (p3 : Int32) (σ : hb_Mem) {x : Int32} (h : fn_X3_isEverOpen k r1 p2 p3 σ = some x) (K : Q = hb_Q Γ ΛC G (some (.int x)) σ) : hb_W Γ ΛC G 6 Q σ [some (.ref (G.2.2.2 k)), some (.ref (G.2.2.2 r1)), some (.int p2), some (.int p3), none, none] [] 0 := by
  unfold fn_X3_isEverOpen at h
  refine ww_iconst (v := 0) 1 X dX3_isEverOpen_0 rfl (by decide) ?_
  refine ww_istore 3 X (L' := [some (.ref (G.2.2.2 k)), some (.ref (G.2.2.2 r1)), some (.int p2), some (.int p3), some (.int 0), none]) dX3_isEverOpen_1 rfl (Nat.le_of_ble_eq_true rfl) rfl rfl ?_
  obtain ⟨t5, ht5, h⟩ := hb_bind_of h
  refine lw_X3_isEverOpen_3 X k hk r1 hr1 p2 p3 σ 0 t5 ht5 ?_
  rcases t5 with t5 | t5
  · replace h := hb_inl_of h
    refine ww_iconst (v := 1) 38 X dX3_isEverOpen_37 rfl (by decide) ?_
    obtain rfl := Option.some.inj h
    exact ww_ret_z X hr (by decide) K dX3_isEverOpen_38
  · replace h := hb_inr_of h
    refine ww_iconst (v := 0) 46 X dX3_isEverOpen_45 rfl (by decide) ?_
    obtain rfl := Option.some.inj h
    exact ww_ret_z X hr (by decide) K dX3_isEverOpen_46
theorem ct_X3_isEverOpen (l : Launch) (G : hb_Gam) (k : Nat) (hk : hb_is ΛC k 3) (r1 : Nat) (hr1 : hb_is ΛC r1 2) (p2 : Int32) (p3 : Int32) (σ : hb_Mem) {x : Int32} (h : fn_X3_isEverOpen k r1 p2 p3 σ = some x) : hb_C l yX3_isEverOpen cX3_isEverOpen 6 (some .boolean) 2 46 ΛC G [.ref (G.2.2.2 k), .ref (G.2.2.2 r1), .int p2, .int p3] σ (some (.int x)) σ :=
  hb_C.of [some (.ref (G.2.2.2 k)), some (.ref (G.2.2.2 r1)), some (.int p2), some (.int p3), none, none] (by decide +kernel) (Nat.le_of_ble_eq_true rfl) (by intro v hv; simp only [List.mem_cons, List.not_mem_nil, or_false] at hv; rcases hv with rfl | rfl | rfl | rfl <;> rfl) rfl (hb_pad [.ref (G.2.2.2 k), .ref (G.2.2.2 r1), .int p2, .int p3] 2) (fun Γ X hr => wk_X3_isEverOpen X hr k hk r1 hr1 p2 p3 σ h rfl)
