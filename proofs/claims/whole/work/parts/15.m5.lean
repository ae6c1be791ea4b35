/-! methods (laid by wip/whole/gen.py) -/
def jn_X6_mark_28 (k : Nat) (p1 : Int32) (σ : hb_Mem) : Option (Int32 × hb_Mem) :=
(fn_X6_ofReader k p1 0 σ).bind fun x3 =>
if x3 = (-5) then (
some ((-4), σ))
else (
some ((-5), σ))
set_option maxRecDepth 100000 in
set_option maxHeartbeats 4000000 in
theorem jw_X6_mark_28 {Γ : hb_Ctx} {G : hb_Gam} {Q : State → Prop} (X : hb_X Γ cX6_mark 2 RX6 ΛM G 2 43) (hr : hb_ret Γ = (some .int)) (k : Nat) (hk : hb_is ΛM k 6) (p1 : Int32) (σ : hb_Mem) {x : (Int32 × hb_Mem)} (h : jn_X6_mark_28 k p1 σ = some x) (K : Q = hb_Q Γ ΛM G (some (.int x.1)) x.2) : hb_W Γ ΛM G 2 Q σ [some (.ref (G.2.2.2 k)), some (.int p1)] [] 28 := by
  unfold jn_X6_mark_28 at h
  refine ww_aload_n 29 X dX6_mark_28 rfl rfl ?_
  refine ww_iload_n 30 X dX6_mark_29 rfl rfl ?_
  refine ww_iconst (v := 0) 31 X dX6_mark_30 rfl (by decide) ?_
  obtain ⟨x3, hx3, h⟩ := hb_bind_of h
  refine ww_callV (ci := 6) (rest := []) (st' := [.int x3]) 34 X (ct_X6_ofReader (hb_l Γ) G k hk p1 0 σ hx3) cw_X6_141 rfl (by decide) hk rfl ⟨by decide, by decide⟩ (Nat.le_of_ble_eq_true rfl) rfl rfl dX6_mark_31 rfl ?_
  refine ww_bipush (v := (-5)) 36 X dX6_mark_34 rfl (by decide) ?_
  refine ww_icmp_ne 44 39 X dX6_mark_36 (by decide) rfl h (fun h => ?_) (fun h => ?_)
  · skip
    refine ww_bipush (v := (-4)) 41 X dX6_mark_39 rfl (by decide) ?_
    refine ww_goto 46 X dX6_mark_41 (by decide) ?_
    obtain rfl := Option.some.inj h
    exact ww_ret_i X hr K dX6_mark_46
  · skip
    refine ww_bipush (v := (-5)) 46 X dX6_mark_44 rfl (by decide) ?_
    obtain rfl := Option.some.inj h
    exact ww_ret_i X hr K dX6_mark_46
def fn_X6_mark (k : Nat) (p1 : Int32) (σ : hb_Mem) : Option (Int32 × hb_Mem) :=
(fn_X6_isReader p1).bind fun x1 =>
if x1 = 0 then (
some ((-1), σ))
else (
(fn_X6_ofReader k p1 0 σ).bind fun x2 =>
if x2 = (-5) then (
jn_X6_mark_28 k p1 σ)
else (
(fn_X6_isMarked k p1 σ).bind fun x4 =>
if x4 = 0 then (
(fn_X6_records k σ).bind fun x5 =>
(fn_X6_ofReader k p1 0 x5).bind fun x6 =>
(hb_st ΛM x5 (hm_rf k 0) 423 x6).bind fun σ7 =>
(fn_X6_ofReader k p1 1 σ7).bind fun x8 =>
(hb_st ΛM σ7 (hm_rf k 0) 424 x8).bind fun σ9 =>
(hb_ld ΛM σ9 (hm_rf k 0) 423).bind fun v10 =>
some (v10, σ9))
else (
jn_X6_mark_28 k p1 σ)))
set_option maxRecDepth 100000 in
set_option maxHeartbeats 4000000 in
theorem wk_X6_mark {Γ : hb_Ctx} {G : hb_Gam} {Q : State → Prop} (X : hb_X Γ cX6_mark 2 RX6 ΛM G 2 43) (hr : hb_ret Γ = (some .int)) (k : Nat) (hk : hb_is ΛM k 6) (p1 : Int32) (σ : hb_Mem) {x : (Int32 × hb_Mem)} (h : fn_X6_mark k p1 σ = some x) (K : Q = hb_Q Γ ΛM G (some (.int x.1)) x.2) : hb_W Γ ΛM G 2 Q σ [some (.ref (G.2.2.2 k)), some (.int p1)] [] 0 := by
  unfold fn_X6_mark at h
  refine ww_iload_n 1 X dX6_mark_0 rfl rfl ?_
  obtain ⟨x1, hx1, h⟩ := hb_bind_of h
  refine ww_callS (rest := []) (st' := [.int x1]) 4 X (ct_X6_isReader (hb_l Γ) G p1 σ hx1) cw_X6_135 rfl ⟨by decide, by decide⟩ (Nat.le_of_ble_eq_true rfl) rfl rfl dX6_mark_1 rfl ?_
  refine ww_if_ne 9 7 X dX6_mark_4 (by decide) rfl h (fun h => ?_) (fun h => ?_)
  · skip
    refine ww_iconst (v := (-1)) 8 X dX6_mark_7 rfl (by decide) ?_
    obtain rfl := Option.some.inj h
    exact ww_ret_i X hr K dX6_mark_8
  · skip
    refine ww_aload_n 10 X dX6_mark_9 rfl rfl ?_
    refine ww_iload_n 11 X dX6_mark_10 rfl rfl ?_
    refine ww_iconst (v := 0) 12 X dX6_mark_11 rfl (by decide) ?_
    obtain ⟨x2, hx2, h⟩ := hb_bind_of h
    refine ww_callV (ci := 6) (rest := []) (st' := [.int x2]) 15 X (ct_X6_ofReader (hb_l Γ) G k hk p1 0 σ hx2) cw_X6_141 rfl (by decide) hk rfl ⟨by decide, by decide⟩ (Nat.le_of_ble_eq_true rfl) rfl rfl dX6_mark_12 rfl ?_
    refine ww_bipush (v := (-5)) 17 X dX6_mark_15 rfl (by decide) ?_
    refine ww_icmp_eq 28 20 X dX6_mark_17 (by decide) rfl h (fun h => ?_) (fun h => ?_)
    · skip
      exact jw_X6_mark_28 X hr k hk p1 σ h K
    · skip
      refine ww_aload_n 21 X dX6_mark_20 rfl rfl ?_
      refine ww_iload_n 22 X dX6_mark_21 rfl rfl ?_
      obtain ⟨x4, hx4, h⟩ := hb_bind_of h
      refine ww_callV (ci := 6) (rest := []) (st' := [.int x4]) 25 X (ct_X6_isMarked (hb_l Γ) G k hk p1 σ hx4) cw_X6_150 rfl (by decide) hk rfl ⟨by decide, by decide⟩ (Nat.le_of_ble_eq_true rfl) rfl rfl dX6_mark_22 rfl ?_
      refine ww_if_eq 47 28 X dX6_mark_25 (by decide) rfl h (fun h => ?_) (fun h => ?_)
      · skip
        refine ww_aload_n 48 X dX6_mark_47 rfl rfl ?_
        obtain ⟨x5, hx5, h⟩ := hb_bind_of h
        refine ww_callV (ci := 6) (rest := []) (st' := []) 51 X (ct_X6_records (hb_l Γ) G k hk σ hx5) cw_X6_114 rfl (by decide) hk rfl ⟨by decide, by decide⟩ (Nat.le_of_ble_eq_true rfl) rfl rfl dX6_mark_48 rfl ?_
        refine ww_aload_n 52 X dX6_mark_51 rfl rfl ?_
        refine ww_getr (ci := 6) (j := 0) 55 X cf_6 tw_X6_7 (by decide) rfl hk dX6_mark_52 rfl ?_
        refine ww_sipush (v := 423) 58 X dX6_mark_55 rfl (by decide) ?_
        refine ww_aload_n 59 X dX6_mark_58 rfl rfl ?_
        refine ww_iload_n 60 X dX6_mark_59 rfl rfl ?_
        refine ww_iconst (v := 0) 61 X dX6_mark_60 rfl (by decide) ?_
        obtain ⟨x6, hx6, h⟩ := hb_bind_of h
        refine ww_callV (ci := 6) (rest := [.int 423, .ref (G.2.2.2 (hm_rf k 0))]) (st' := [.int x6, .int 423, .ref (G.2.2.2 (hm_rf k 0))]) 64 X (ct_X6_ofReader (hb_l Γ) G k hk p1 0 x5 hx6) cw_X6_141 rfl (by decide) hk rfl ⟨by decide, by decide⟩ (Nat.le_of_ble_eq_true rfl) rfl rfl dX6_mark_61 rfl ?_
        obtain ⟨σ7, hσ7, h⟩ := hb_bind_of h
        refine ww_iast 65 X (hm_kr_6_0 hk) hσ7 dX6_mark_64 rfl ?_
        refine ww_aload_n 66 X dX6_mark_65 rfl rfl ?_
        refine ww_getr (ci := 6) (j := 0) 69 X cf_6 tw_X6_7 (by decide) rfl hk dX6_mark_66 rfl ?_
        refine ww_sipush (v := 424) 72 X dX6_mark_69 rfl (by decide) ?_
        refine ww_aload_n 73 X dX6_mark_72 rfl rfl ?_
        refine ww_iload_n 74 X dX6_mark_73 rfl rfl ?_
        refine ww_iconst (v := 1) 75 X dX6_mark_74 rfl (by decide) ?_
        obtain ⟨x8, hx8, h⟩ := hb_bind_of h
        refine ww_callV (ci := 6) (rest := [.int 424, .ref (G.2.2.2 (hm_rf k 0))]) (st' := [.int x8, .int 424, .ref (G.2.2.2 (hm_rf k 0))]) 78 X (ct_X6_ofReader (hb_l Γ) G k hk p1 1 σ7 hx8) cw_X6_141 rfl (by decide) hk rfl ⟨by decide, by decide⟩ (Nat.le_of_ble_eq_true rfl) rfl rfl dX6_mark_75 rfl ?_
        obtain ⟨σ9, hσ9, h⟩ := hb_bind_of h
        refine ww_iast 79 X (hm_kr_6_0 hk) hσ9 dX6_mark_78 rfl ?_
        refine ww_aload_n 80 X dX6_mark_79 rfl rfl ?_
        refine ww_getr (ci := 6) (j := 0) 83 X cf_6 tw_X6_7 (by decide) rfl hk dX6_mark_80 rfl ?_
        refine ww_sipush (v := 423) 86 X dX6_mark_83 rfl (by decide) ?_
        obtain ⟨v10, hv10, h⟩ := hb_bind_of h
        refine ww_iald 87 X (hm_kr_6_0 hk) hv10 dX6_mark_86 rfl ?_
        obtain rfl := Option.some.inj h
        exact ww_ret_i X hr K dX6_mark_87
      · skip
        exact jw_X6_mark_28 X hr k hk p1 σ h K
theorem ct_X6_mark (l : Launch) (G : hb_Gam) (k : Nat) (hk : hb_is ΛM k 6) (p1 : Int32) (σ : hb_Mem) {x : (Int32 × hb_Mem)} (h : fn_X6_mark k p1 σ = some x) : hb_C l yX6_mark cX6_mark 2 (some .int) 2 43 ΛM G [.ref (G.2.2.2 k), .int p1] σ (some (.int x.1)) x.2 :=
  hb_C.of [some (.ref (G.2.2.2 k)), some (.int p1)] (by decide +kernel) (Nat.le_of_ble_eq_true rfl) (by intro v hv; simp only [List.mem_cons, List.not_mem_nil, or_false] at hv; rcases hv with rfl | rfl <;> rfl) rfl (hb_pad [.ref (G.2.2.2 k), .int p1] 0) (fun Γ X hr => wk_X6_mark X hr k hk p1 σ h rfl)
def jn_X6_goToMark_30 (k : Nat) (p1 : Int32) (σ : hb_Mem) : Option (Int32 × hb_Mem) :=
(hb_ld ΛM σ (hm_rf k 0) 423).bind fun v3 =>
if v3 = (-5) then (
some ((-4), σ))
else (
some ((-5), σ))
set_option maxRecDepth 100000 in
set_option maxHeartbeats 4000000 in
theorem jw_X6_goToMark_30 {Γ : hb_Ctx} {G : hb_Gam} {Q : State → Prop} (X : hb_X Γ cX6_goToMark 2 RX6 ΛM G 2 43) (hr : hb_ret Γ = (some .int)) (k : Nat) (hk : hb_is ΛM k 6) (p1 : Int32) (σ : hb_Mem) {x : (Int32 × hb_Mem)} (h : jn_X6_goToMark_30 k p1 σ = some x) (K : Q = hb_Q Γ ΛM G (some (.int x.1)) x.2) : hb_W Γ ΛM G 2 Q σ [some (.ref (G.2.2.2 k)), none] [] 30 := by
  unfold jn_X6_goToMark_30 at h
  refine ww_aload_n 31 X dX6_goToMark_30 rfl rfl ?_
  refine ww_getr (ci := 6) (j := 0) 34 X cf_6 tw_X6_7 (by decide) rfl hk dX6_goToMark_31 rfl ?_
  refine ww_sipush (v := 423) 37 X dX6_goToMark_34 rfl (by decide) ?_
  obtain ⟨v3, hv3, h⟩ := hb_bind_of h
  refine ww_iald 38 X (hm_kr_6_0 hk) hv3 dX6_goToMark_37 rfl ?_
  refine ww_bipush (v := (-5)) 40 X dX6_goToMark_38 rfl (by decide) ?_
  refine ww_icmp_ne 48 43 X dX6_goToMark_40 (by decide) rfl h (fun h => ?_) (fun h => ?_)
  · skip
    refine ww_bipush (v := (-4)) 45 X dX6_goToMark_43 rfl (by decide) ?_
    refine ww_goto 50 X dX6_goToMark_45 (by decide) ?_
    obtain rfl := Option.some.inj h
    exact ww_ret_i X hr K dX6_goToMark_50
  · skip
    refine ww_bipush (v := (-5)) 50 X dX6_goToMark_48 rfl (by decide) ?_
    obtain rfl := Option.some.inj h
    exact ww_ret_i X hr K dX6_goToMark_50
def fn_X6_goToMark (k : Nat) (p1 : Int32) (σ : hb_Mem) : Option (Int32 × hb_Mem) :=
(fn_X6_isReader p1).bind fun x1 =>
if x1 = 0 then (
some ((-1), σ))
else (
(hb_ld ΛM σ (hm_rf k 0) 423).bind fun v2 =>
if v2 = (-5) then (
jn_X6_goToMark_30 k p1 σ)
else (
(fn_X6_isMarked k p1 σ).bind fun x4 =>
if x4 = 0 then (
(fn_X6_records k σ).bind fun x5 =>
(hb_ld ΛM x5 (hm_rf k 0) 423).bind fun v6 =>
(hb_ld ΛM x5 (hm_rf k 0) 424).bind fun v7 =>
(fn_X6_goes k p1 v6 v7 0 x5).bind fun x8 =>
(hb_ld ΛM x8 (hm_rf k 0) 423).bind fun v9 =>
some (v9, x8))
else (
jn_X6_goToMark_30 k p1 σ)))
set_option maxRecDepth 100000 in
set_option maxHeartbeats 4000000 in
theorem wk_X6_goToMark {Γ : hb_Ctx} {G : hb_Gam} {Q : State → Prop} (X : hb_X Γ cX6_goToMark 2 RX6 ΛM G 2 43) (hr : hb_ret Γ = (some .int)) (k : Nat) (hk : hb_is ΛM k 6) (p1 : Int32) (σ : hb_Mem) {x : (Int32 × hb_Mem)} (h : fn_X6_goToMark k p1 σ = some x) (K : Q = hb_Q Γ ΛM G (some (.int x.1)) x.2) : hb_W Γ ΛM G 2 Q σ [some (.ref (G.2.2.2 k)), some (.int p1)] [] 0 := by
  unfold fn_X6_goToMark at h
  refine ww_iload_n 1 X dX6_goToMark_0 rfl rfl ?_
  obtain ⟨x1, hx1, h⟩ := hb_bind_of h
  refine ww_callS (rest := []) (st' := [.int x1]) 4 X (ct_X6_isReader (hb_l Γ) G p1 σ hx1) cw_X6_135 rfl ⟨by decide, by decide⟩ (Nat.le_of_ble_eq_true rfl) rfl rfl dX6_goToMark_1 rfl ?_
  refine ww_if_ne 9 7 X dX6_goToMark_4 (by decide) rfl h (fun h => ?_) (fun h => ?_)
  · skip
    refine ww_iconst (v := (-1)) 8 X dX6_goToMark_7 rfl (by decide) ?_
    obtain rfl := Option.some.inj h
    exact ww_ret_i X hr K dX6_goToMark_8
  · skip
    refine ww_aload_n 10 X dX6_goToMark_9 rfl rfl ?_
    refine ww_getr (ci := 6) (j := 0) 13 X cf_6 tw_X6_7 (by decide) rfl hk dX6_goToMark_10 rfl ?_
    refine ww_sipush (v := 423) 16 X dX6_goToMark_13 rfl (by decide) ?_
    obtain ⟨v2, hv2, h⟩ := hb_bind_of h
    refine ww_iald 17 X (hm_kr_6_0 hk) hv2 dX6_goToMark_16 rfl ?_
    refine ww_bipush (v := (-5)) 19 X dX6_goToMark_17 rfl (by decide) ?_
    refine ww_icmp_eq 30 22 X dX6_goToMark_19 (by decide) rfl h (fun h => ?_) (fun h => ?_)
    · skip
      refine ww_kill [1] (L' := [some (.ref (G.2.2.2 k)), none]) rfl ?_
      exact jw_X6_goToMark_30 X hr k hk p1 σ h K
    · skip
      refine ww_aload_n 23 X dX6_goToMark_22 rfl rfl ?_
      refine ww_iload_n 24 X dX6_goToMark_23 rfl rfl ?_
      obtain ⟨x4, hx4, h⟩ := hb_bind_of h
      refine ww_callV (ci := 6) (rest := []) (st' := [.int x4]) 27 X (ct_X6_isMarked (hb_l Γ) G k hk p1 σ hx4) cw_X6_150 rfl (by decide) hk rfl ⟨by decide, by decide⟩ (Nat.le_of_ble_eq_true rfl) rfl rfl dX6_goToMark_24 rfl ?_
      refine ww_if_eq 51 30 X dX6_goToMark_27 (by decide) rfl h (fun h => ?_) (fun h => ?_)
      · skip
        refine ww_aload_n 52 X dX6_goToMark_51 rfl rfl ?_
        obtain ⟨x5, hx5, h⟩ := hb_bind_of h
        refine ww_callV (ci := 6) (rest := []) (st' := []) 55 X (ct_X6_records (hb_l Γ) G k hk σ hx5) cw_X6_114 rfl (by decide) hk rfl ⟨by decide, by decide⟩ (Nat.le_of_ble_eq_true rfl) rfl rfl dX6_goToMark_52 rfl ?_
        refine ww_aload_n 56 X dX6_goToMark_55 rfl rfl ?_
        refine ww_iload_n 57 X dX6_goToMark_56 rfl rfl ?_
        refine ww_aload_n 58 X dX6_goToMark_57 rfl rfl ?_
        refine ww_getr (ci := 6) (j := 0) 61 X cf_6 tw_X6_7 (by decide) rfl hk dX6_goToMark_58 rfl ?_
        refine ww_sipush (v := 423) 64 X dX6_goToMark_61 rfl (by decide) ?_
        obtain ⟨v6, hv6, h⟩ := hb_bind_of h
        refine ww_iald 65 X (hm_kr_6_0 hk) hv6 dX6_goToMark_64 rfl ?_
        refine ww_aload_n 66 X dX6_goToMark_65 rfl rfl ?_
        refine ww_getr (ci := 6) (j := 0) 69 X cf_6 tw_X6_7 (by decide) rfl hk dX6_goToMark_66 rfl ?_
        refine ww_sipush (v := 424) 72 X dX6_goToMark_69 rfl (by decide) ?_
        obtain ⟨v7, hv7, h⟩ := hb_bind_of h
        refine ww_iald 73 X (hm_kr_6_0 hk) hv7 dX6_goToMark_72 rfl ?_
        refine ww_iconst (v := 0) 74 X dX6_goToMark_73 rfl (by decide) ?_
        obtain ⟨x8, hx8, h⟩ := hb_bind_of h
        refine ww_callV (ci := 6) (rest := []) (st' := []) 77 X (ct_X6_goes (hb_l Γ) G k hk p1 v6 v7 0 x5 hx8) cw_X6_138 rfl (by decide) hk rfl ⟨by decide, by decide⟩ (Nat.le_of_ble_eq_true rfl) rfl rfl dX6_goToMark_74 rfl ?_
        refine ww_aload_n 78 X dX6_goToMark_77 rfl rfl ?_
        refine ww_getr (ci := 6) (j := 0) 81 X cf_6 tw_X6_7 (by decide) rfl hk dX6_goToMark_78 rfl ?_
        refine ww_sipush (v := 423) 84 X dX6_goToMark_81 rfl (by decide) ?_
        obtain ⟨v9, hv9, h⟩ := hb_bind_of h
        refine ww_iald 85 X (hm_kr_6_0 hk) hv9 dX6_goToMark_84 rfl ?_
        obtain rfl := Option.some.inj h
        exact ww_ret_i X hr K dX6_goToMark_85
      · skip
        refine ww_kill [1] (L' := [some (.ref (G.2.2.2 k)), none]) rfl ?_
        exact jw_X6_goToMark_30 X hr k hk p1 σ h K
theorem ct_X6_goToMark (l : Launch) (G : hb_Gam) (k : Nat) (hk : hb_is ΛM k 6) (p1 : Int32) (σ : hb_Mem) {x : (Int32 × hb_Mem)} (h : fn_X6_goToMark k p1 σ = some x) : hb_C l yX6_goToMark cX6_goToMark 2 (some .int) 2 43 ΛM G [.ref (G.2.2.2 k), .int p1] σ (some (.int x.1)) x.2 :=
  hb_C.of [some (.ref (G.2.2.2 k)), some (.int p1)] (by decide +kernel) (Nat.le_of_ble_eq_true rfl) (by intro v hv; simp only [List.mem_cons, List.not_mem_nil, or_false] at hv; rcases hv with rfl | rfl <;> rfl) rfl (hb_pad [.ref (G.2.2.2 k), .int p1] 0) (fun Γ X hr => wk_X6_goToMark X hr k hk p1 σ h rfl)
def jn_X6_choicesNow_26 (k : Nat) (p1 : Int32) (j3 : Int32) (s0 : Int32) (s1 : Int32) (σ : hb_Mem) : Option ((Int32 × Int32) ⊕ Int32) :=
hb_nm (s0 ||| s1) fun v2 =>
hb_nm (j3 + 1) fun v3 =>
some (.inl (v2, v3))
set_option maxRecDepth 100000 in
set_option maxHeartbeats 4000000 in
theorem jw_X6_choicesNow_26 {Γ : hb_Ctx} {G : hb_Gam} {Q : State → Prop} (X : hb_X Γ cX6_choicesNow 4 RX6 ΛM G 2 47)  (k : Nat) (hk : hb_is ΛM k 6) (p1 : Int32) (j3 : Int32) (s0 : Int32) (s1 : Int32) (σ : hb_Mem) {x : ((Int32 × Int32) ⊕ Int32)} (h : jn_X6_choicesNow_26 k p1 j3 s0 s1 σ = some x) (K : Sum.elim (fun s : (Int32 × Int32) => hb_W Γ ΛM G 4 Q σ [some (.ref (G.2.2.2 k)), some (.int p1), some (.int s.1), some (.int s.2)] [] 4) (fun t : Int32 => hb_W Γ ΛM G 4 Q σ [none, none, some (.int t), none] [] 34) x) : hb_W Γ ΛM G 4 Q σ [some (.ref (G.2.2.2 k)), some (.int p1), none, some (.int j3)] [.int s1, .int s0] 26 := by
  unfold jn_X6_choicesNow_26 at h
  refine ww_ior 27 X dX6_choicesNow_26 rfl ?_
  obtain ⟨v2, ev2, h⟩ := hb_nm_of h
  rw [← ev2]
  refine ww_istore_n 28 X (L' := [some (.ref (G.2.2.2 k)), some (.int p1), some (.int v2), some (.int j3)]) dX6_choicesNow_27 rfl (Nat.le_of_ble_eq_true rfl) rfl ?_
  obtain ⟨v3, ev3, h⟩ := hb_nm_of h
  refine ww_iinc 31 X (L' := [some (.ref (G.2.2.2 k)), some (.int p1), some (.int v2), some (.int v3)]) dX6_choicesNow_28 rfl rfl ev3.symm rfl ?_
  refine ww_goto 4 X dX6_choicesNow_31 (by decide) ?_
  obtain rfl := Option.some.inj h
  exact K
def lb_X6_choicesNow_4 (k : Nat) (p1 : Int32) (w2 : Int32) (w3 : Int32) (σ : hb_Mem) : Option ((Int32 × Int32) ⊕ Int32) :=
if 3 ≤ w3 then (
some (.inr w2))
else (
(fn_X6_reason k p1 w3 σ).bind fun x1 =>
if x1 = 0 then (
jn_X6_choicesNow_26 k p1 w3 w2 ((1 : Int32) <<< (w3 &&& 31)) σ)
else (
jn_X6_choicesNow_26 k p1 w3 w2 0 σ))
set_option maxRecDepth 100000 in
set_option maxHeartbeats 4000000 in
theorem lk_X6_choicesNow_4 {Γ : hb_Ctx} {G : hb_Gam} {Q : State → Prop} (X : hb_X Γ cX6_choicesNow 4 RX6 ΛM G 2 47)  (k : Nat) (hk : hb_is ΛM k 6) (p1 : Int32) (w2 : Int32) (w3 : Int32) (σ : hb_Mem) {x : ((Int32 × Int32) ⊕ Int32)} (h : lb_X6_choicesNow_4 k p1 w2 w3 σ = some x) (K : Sum.elim (fun s : (Int32 × Int32) => hb_W Γ ΛM G 4 Q σ [some (.ref (G.2.2.2 k)), some (.int p1), some (.int s.1), some (.int s.2)] [] 4) (fun t : Int32 => hb_W Γ ΛM G 4 Q σ [none, none, some (.int t), none] [] 34) x) : hb_W Γ ΛM G 4 Q σ [some (.ref (G.2.2.2 k)), some (.int p1), some (.int w2), some (.int w3)] [] 4 := by
  unfold lb_X6_choicesNow_4 at h
  refine ww_iload_n 5 X dX6_choicesNow_4 rfl rfl ?_
  refine ww_iconst (v := 3) 6 X dX6_choicesNow_5 rfl (by decide) ?_
  refine ww_icmp_ge 34 9 X dX6_choicesNow_6 (by decide) rfl h (fun h => ?_) (fun h => ?_)
  · skip
    obtain rfl := Option.some.inj h
    refine ww_kill [0, 1, 3] (L' := [none, none, some (.int w2), none]) rfl ?_
    exact K
  · skip
    refine ww_iload_n 10 X dX6_choicesNow_9 rfl rfl ?_
    refine ww_aload_n 11 X dX6_choicesNow_10 rfl rfl ?_
    refine ww_iload_n 12 X dX6_choicesNow_11 rfl rfl ?_
    refine ww_iload_n 13 X dX6_choicesNow_12 rfl rfl ?_
    obtain ⟨x1, hx1, h⟩ := hb_bind_of h
    refine ww_callV (ci := 6) (rest := [.int w2]) (st' := [.int x1, .int w2]) 16 X (ct_X6_reason (hb_l Γ) G k hk p1 w3 σ hx1) cw_X6_144 rfl (by decide) hk rfl ⟨by decide, by decide⟩ (Nat.le_of_ble_eq_true rfl) rfl rfl dX6_choicesNow_13 rfl ?_
    refine ww_if_ne 25 19 X dX6_choicesNow_16 (by decide) rfl h (fun h => ?_) (fun h => ?_)
    · skip
      refine ww_iconst (v := 1) 20 X dX6_choicesNow_19 rfl (by decide) ?_
      refine ww_iload_n 21 X dX6_choicesNow_20 rfl rfl ?_
      refine ww_ishl 22 X dX6_choicesNow_21 rfl ?_
      refine ww_goto 26 X dX6_choicesNow_22 (by decide) ?_
      refine ww_kill [2] (L' := [some (.ref (G.2.2.2 k)), some (.int p1), none, some (.int w3)]) rfl ?_
      exact jw_X6_choicesNow_26 X k hk p1 w3 w2 ((1 : Int32) <<< (w3 &&& 31)) σ h K
    · skip
      refine ww_iconst (v := 0) 26 X dX6_choicesNow_25 rfl (by decide) ?_
      refine ww_kill [2] (L' := [some (.ref (G.2.2.2 k)), some (.int p1), none, some (.int w3)]) rfl ?_
      exact jw_X6_choicesNow_26 X k hk p1 w3 w2 0 σ h K
def ll_X6_choicesNow_4 (k : Nat) (p1 : Int32) (σ : hb_Mem) : (Int32 × Int32) → Option Int32 := hb_lp (fun s => lb_X6_choicesNow_4 k p1 s.1 s.2 σ) hb_F
theorem lw_X6_choicesNow_4 {Γ : hb_Ctx} {G : hb_Gam} {Q : State → Prop} (X : hb_X Γ cX6_choicesNow 4 RX6 ΛM G 2 47)  (k : Nat) (hk : hb_is ΛM k 6) (p1 : Int32) (σ : hb_Mem) (s : (Int32 × Int32)) (t : Int32) (h : ll_X6_choicesNow_4 k p1 σ s = some t) (K : (fun t : Int32 => hb_W Γ ΛM G 4 Q σ [none, none, some (.int t), none] [] 34) t) : hb_W Γ ΛM G 4 Q σ [some (.ref (G.2.2.2 k)), some (.int p1), some (.int s.1), some (.int s.2)] [] 4 :=
  hb_lp_w (P := fun s : (Int32 × Int32) => hb_W Γ ΛM G 4 Q σ [some (.ref (G.2.2.2 k)), some (.int p1), some (.int s.1), some (.int s.2)] [] 4) (E := (fun t : Int32 => hb_W Γ ΛM G 4 Q σ [none, none, some (.int t), none] [] 34)) (fun s x hx K => lk_X6_choicesNow_4 X k hk p1 s.1 s.2 σ hx K) _ s t h K
def fn_X6_choicesNow (k : Nat) (p1 : Int32) (σ : hb_Mem) : Option Int32 :=
(ll_X6_choicesNow_4 k p1 σ (0, 0)).bind fun t4 =>
some t4
set_option maxRecDepth 100000 in
set_option maxHeartbeats 4000000 in
theorem wk_X6_choicesNow {Γ : hb_Ctx} {G : hb_Gam} {Q : State → Prop} (X : hb_X Γ cX6_choicesNow 4 RX6 ΛM G 2 47) (hr : hb_ret Γ = (some .int)) (k : Nat) (hk : hb_is ΛM k 6) (p1 : Int32) (σ : hb_Mem) {x : Int32} (h : fn_X6_choicesNow k p1 σ = some x) (K : Q = hb_Q Γ ΛM G (some (.int x)) σ) : hb_W Γ ΛM G 4 Q σ [some (.ref (G.2.2.2 k)), some (.int p1), none, none] [] 0 := by
  unfold fn_X6_choicesNow at h
  refine ww_iconst (v := 0) 1 X dX6_choicesNow_0 rfl (by decide) ?_
  refine ww_istore_n 2 X (L' := [some (.ref (G.2.2.2 k)), some (.int p1), some (.int 0), none]) dX6_choicesNow_1 rfl (Nat.le_of_ble_eq_true rfl) rfl ?_
  refine ww_iconst (v := 0) 3 X dX6_choicesNow_2 rfl (by decide) ?_
  refine ww_istore_n 4 X (L' := [some (.ref (G.2.2.2 k)), some (.int p1), some (.int 0), some (.int 0)]) dX6_choicesNow_3 rfl (Nat.le_of_ble_eq_true rfl) rfl ?_
  obtain ⟨t4, ht4, h⟩ := hb_bind_of h
  refine lw_X6_choicesNow_4 X k hk p1 σ (0, 0) t4 ht4 ?_
  refine ww_iload_n 35 X dX6_choicesNow_34 rfl rfl ?_
  obtain rfl := Option.some.inj h
  exact ww_ret_i X hr K dX6_choicesNow_35
theorem ct_X6_choicesNow (l : Launch) (G : hb_Gam) (k : Nat) (hk : hb_is ΛM k 6) (p1 : Int32) (σ : hb_Mem) {x : Int32} (h : fn_X6_choicesNow k p1 σ = some x) : hb_C l yX6_choicesNow cX6_choicesNow 4 (some .int) 2 47 ΛM G [.ref (G.2.2.2 k), .int p1] σ (some (.int x)) σ :=
  hb_C.of [some (.ref (G.2.2.2 k)), some (.int p1), none, none] (by decide +kernel) (Nat.le_of_ble_eq_true rfl) (by intro v hv; simp only [List.mem_cons, List.not_mem_nil, or_false] at hv; rcases hv with rfl | rfl <;> rfl) rfl (hb_pad [.ref (G.2.2.2 k), .int p1] 2) (fun Γ X hr => wk_X6_choicesNow X hr k hk p1 σ h rfl)
def jn_X6_reader_60 (k : Nat) (p1 : Int32) (p2 : Int32) (s1 : Int32) (s2 : Int32) (σ : hb_Mem) : Option Int32 :=
(fn_X6_ofReader k s1 s2 σ).bind fun x4 =>
some x4
set_option maxRecDepth 100000 in
set_option maxHeartbeats 4000000 in
theorem jw_X6_reader_60 {Γ : hb_Ctx} {G : hb_Gam} {Q : State → Prop} (X : hb_X Γ cX6_reader 3 RX6 ΛM G 3 70) (hr : hb_ret Γ = (some .int)) (k : Nat) (hk : hb_is ΛM k 6) (p1 : Int32) (p2 : Int32) (s1 : Int32) (s2 : Int32) (σ : hb_Mem) {x : Int32} (h : jn_X6_reader_60 k p1 p2 s1 s2 σ = some x) (K : Q = hb_Q Γ ΛM G (some (.int x)) σ) : hb_W Γ ΛM G 3 Q σ [none, none, none] [.int s2, .int s1, .ref (G.2.2.2 k)] 60 := by
  unfold jn_X6_reader_60 at h
  obtain ⟨x4, hx4, h⟩ := hb_bind_of h
  refine ww_callV (ci := 6) (rest := []) (st' := [.int x4]) 63 X (ct_X6_ofReader (hb_l Γ) G k hk s1 s2 σ hx4) cw_X6_141 rfl (by decide) hk rfl ⟨by decide, by decide⟩ (Nat.le_of_ble_eq_true rfl) rfl rfl dX6_reader_60 rfl ?_
  obtain rfl := Option.some.inj h
  exact ww_ret_i X hr K dX6_reader_63
def fn_X6_reader (k : Nat) (p1 : Int32) (p2 : Int32) (σ : hb_Mem) : Option Int32 :=
(fn_X6_isReader p1).bind fun x1 =>
if x1 = 0 then (
some (-1))
else (
(fn_X6_in p2 0 3).bind fun x2 =>
if x2 = 0 then (
some (-2))
else (
(fn_X6_ofReader k p1 0 σ).bind fun x3 =>
if x3 = (-5) then (
some (-5))
else (
if p2 = 2 then (
(fn_X6_choicesNow k p1 σ).bind fun x5 =>
some x5)
else (
if p2 = 3 then (
jn_X6_reader_60 k p1 p2 p1 2 σ)
else (
jn_X6_reader_60 k p1 p2 p1 p2 σ)))))
set_option maxRecDepth 100000 in
set_option maxHeartbeats 4000000 in
theorem wk_X6_reader {Γ : hb_Ctx} {G : hb_Gam} {Q : State → Prop} (X : hb_X Γ cX6_reader 3 RX6 ΛM G 3 70) (hr : hb_ret Γ = (some .int)) (k : Nat) (hk : hb_is ΛM k 6) (p1 : Int32) (p2 : Int32) (σ : hb_Mem) {x : Int32} (h : fn_X6_reader k p1 p2 σ = some x) (K : Q = hb_Q Γ ΛM G (some (.int x)) σ) : hb_W Γ ΛM G 3 Q σ [some (.ref (G.2.2.2 k)), some (.int p1), some (.int p2)] [] 0 := by
  unfold fn_X6_reader at h
  refine ww_iload_n 1 X dX6_reader_0 rfl rfl ?_
  obtain ⟨x1, hx1, h⟩ := hb_bind_of h
  refine ww_callS (rest := []) (st' := [.int x1]) 4 X (ct_X6_isReader (hb_l Γ) G p1 σ hx1) cw_X6_135 rfl ⟨by decide, by decide⟩ (Nat.le_of_ble_eq_true rfl) rfl rfl dX6_reader_1 rfl ?_
  refine ww_if_ne 9 7 X dX6_reader_4 (by decide) rfl h (fun h => ?_) (fun h => ?_)
  · skip
    refine ww_iconst (v := (-1)) 8 X dX6_reader_7 rfl (by decide) ?_
    obtain rfl := Option.some.inj h
    exact ww_ret_i X hr K dX6_reader_8
  · skip
    refine ww_iload_n 10 X dX6_reader_9 rfl rfl ?_
    refine ww_iconst (v := 0) 11 X dX6_reader_10 rfl (by decide) ?_
    refine ww_iconst (v := 3) 12 X dX6_reader_11 rfl (by decide) ?_
    obtain ⟨x2, hx2, h⟩ := hb_bind_of h
    refine ww_callS (rest := []) (st' := [.int x2]) 15 X (ct_X6_in (hb_l Γ) G p2 0 3 σ hx2) cw_X6_50 rfl ⟨by decide, by decide⟩ (Nat.le_of_ble_eq_true rfl) rfl rfl dX6_reader_12 rfl ?_
    refine ww_if_ne 21 18 X dX6_reader_15 (by decide) rfl h (fun h => ?_) (fun h => ?_)
    · skip
      refine ww_bipush (v := (-2)) 20 X dX6_reader_18 rfl (by decide) ?_
      obtain rfl := Option.some.inj h
      exact ww_ret_i X hr K dX6_reader_20
    · skip
      refine ww_aload_n 22 X dX6_reader_21 rfl rfl ?_
      refine ww_iload_n 23 X dX6_reader_22 rfl rfl ?_
      refine ww_iconst (v := 0) 24 X dX6_reader_23 rfl (by decide) ?_
      obtain ⟨x3, hx3, h⟩ := hb_bind_of h
      refine ww_callV (ci := 6) (rest := []) (st' := [.int x3]) 27 X (ct_X6_ofReader (hb_l Γ) G k hk p1 0 σ hx3) cw_X6_141 rfl (by decide) hk rfl ⟨by decide, by decide⟩ (Nat.le_of_ble_eq_true rfl) rfl rfl dX6_reader_24 rfl ?_
      refine ww_bipush (v := (-5)) 29 X dX6_reader_27 rfl (by decide) ?_
      refine ww_icmp_ne 35 32 X dX6_reader_29 (by decide) rfl h (fun h => ?_) (fun h => ?_)
      · skip
        refine ww_bipush (v := (-5)) 34 X dX6_reader_32 rfl (by decide) ?_
        obtain rfl := Option.some.inj h
        exact ww_ret_i X hr K dX6_reader_34
      · skip
        refine ww_iload_n 36 X dX6_reader_35 rfl rfl ?_
        refine ww_iconst (v := 2) 37 X dX6_reader_36 rfl (by decide) ?_
        refine ww_icmp_ne 48 40 X dX6_reader_37 (by decide) rfl h (fun h => ?_) (fun h => ?_)
        · skip
          refine ww_aload_n 41 X dX6_reader_40 rfl rfl ?_
          refine ww_iload_n 42 X dX6_reader_41 rfl rfl ?_
          obtain ⟨x5, hx5, h⟩ := hb_bind_of h
          refine ww_callV (ci := 6) (rest := []) (st' := [.int x5]) 45 X (ct_X6_choicesNow (hb_l Γ) G k hk p1 σ hx5) cw_X6_153 rfl (by decide) hk rfl ⟨by decide, by decide⟩ (Nat.le_of_ble_eq_true rfl) rfl rfl dX6_reader_42 rfl ?_
          refine ww_goto 63 X dX6_reader_45 (by decide) ?_
          obtain rfl := Option.some.inj h
          exact ww_ret_i X hr K dX6_reader_63
        · skip
          refine ww_aload_n 49 X dX6_reader_48 rfl rfl ?_
          refine ww_iload_n 50 X dX6_reader_49 rfl rfl ?_
          refine ww_iload_n 51 X dX6_reader_50 rfl rfl ?_
          refine ww_iconst (v := 3) 52 X dX6_reader_51 rfl (by decide) ?_
          refine ww_icmp_ne 59 55 X dX6_reader_52 (by decide) rfl h (fun h => ?_) (fun h => ?_)
          · skip
            refine ww_iconst (v := 2) 56 X dX6_reader_55 rfl (by decide) ?_
            refine ww_goto 60 X dX6_reader_56 (by decide) ?_
            refine ww_kill [0, 1, 2] (L' := [none, none, none]) rfl ?_
            exact jw_X6_reader_60 X hr k hk p1 p2 p1 2 σ h K
          · skip
            refine ww_iload_n 60 X dX6_reader_59 rfl rfl ?_
            refine ww_kill [0, 1, 2] (L' := [none, none, none]) rfl ?_
            exact jw_X6_reader_60 X hr k hk p1 p2 p1 p2 σ h K
theorem ct_X6_reader (l : Launch) (G : hb_Gam) (k : Nat) (hk : hb_is ΛM k 6) (p1 : Int32) (p2 : Int32) (σ : hb_Mem) {x : Int32} (h : fn_X6_reader k p1 p2 σ = some x) : hb_C l yX6_reader cX6_reader 3 (some .int) 3 70 ΛM G [.ref (G.2.2.2 k), .int p1, .int p2] σ (some (.int x)) σ :=
  hb_C.of [some (.ref (G.2.2.2 k)), some (.int p1), some (.int p2)] (by decide +kernel) (Nat.le_of_ble_eq_true rfl) (by intro v hv; simp only [List.mem_cons, List.not_mem_nil, or_false] at hv; rcases hv with rfl | rfl | rfl <;> rfl) rfl (hb_pad [.ref (G.2.2.2 k), .int p1, .int p2] 0) (fun Γ X hr => wk_X6_reader X hr k hk p1 p2 σ h rfl)
def fn_Jxf58ca_isNaN_12338 (p0 : UInt32) : Option Int32 :=
if (Op.cmpValue (FP.fcmp p0 p0) .l) = 0 then (
some 0)
else (
some 1)
set_option maxRecDepth 100000 in
set_option maxHeartbeats 4000000 in
theorem wk_Jxf58ca_isNaN_12338 {Λ : hb_Lay} {Γ : hb_Ctx} {G : hb_Gam} {Q : State → Prop} (X : hb_X Γ cJxf58ca_isNaN_12338 1 RJxf58ca Λ G 0 0) (hr : hb_ret Γ = (some .boolean)) (p0 : UInt32) (σ : hb_Mem) {x : Int32} (h : fn_Jxf58ca_isNaN_12338 p0 = some x) (K : Q = hb_Q Γ Λ G (some (.int x)) σ) : hb_W Γ Λ G 1 Q σ [some (.float p0)] [] 0 := by
  unfold fn_Jxf58ca_isNaN_12338 at h
  refine ww_fload_n 1 X dJxf58ca_isNaN_12338_0 rfl rfl ?_
  refine ww_fload_n 2 X dJxf58ca_isNaN_12338_1 rfl rfl ?_
  refine ww_fcmp 3 X dJxf58ca_isNaN_12338_2 rfl ?_
  refine ww_if_eq 10 6 X dJxf58ca_isNaN_12338_3 (by decide) rfl h (fun h => ?_) (fun h => ?_)
  · skip
    refine ww_iconst (v := 0) 11 X dJxf58ca_isNaN_12338_10 rfl (by decide) ?_
    obtain rfl := Option.some.inj h
    exact ww_ret_z X hr (by decide) K dJxf58ca_isNaN_12338_11
  · skip
    refine ww_iconst (v := 1) 7 X dJxf58ca_isNaN_12338_6 rfl (by decide) ?_
    refine ww_goto 11 X dJxf58ca_isNaN_12338_7 (by decide) ?_
    obtain rfl := Option.some.inj h
    exact ww_ret_z X hr (by decide) K dJxf58ca_isNaN_12338_11
theorem ct_Jxf58ca_isNaN_12338 (l : Launch) {Λ : hb_Lay} (G : hb_Gam) (p0 : UInt32) (σ : hb_Mem) {x : Int32} (h : fn_Jxf58ca_isNaN_12338 p0 = some x) : hb_C l yJxf58ca_isNaN_12338 cJxf58ca_isNaN_12338 1 (some .boolean) 0 0 Λ G [.float p0] σ (some (.int x)) σ :=
  hb_C.of [some (.float p0)] (by decide +kernel) (Nat.le_of_ble_eq_true rfl) (by intro v hv; simp only [List.mem_cons, List.not_mem_nil, or_false] at hv; subst hv; rfl) rfl (hb_pad [.float p0] 0) (fun Γ X hr => wk_Jxf58ca_isNaN_12338 X hr p0 σ h rfl)
def fn_Jxf58ca_floatToIntBits_5c35a (p0 : UInt32) : Option Int32 :=
(fn_Jxf58ca_isNaN_12338 p0).bind fun x1 =>
if x1 = 0 then (
some ((p0).toInt32))
else (
some 2143289344)
set_option maxRecDepth 100000 in
set_option maxHeartbeats 4000000 in
theorem wk_Jxf58ca_floatToIntBits_5c35a {Λ : hb_Lay} {Γ : hb_Ctx} {G : hb_Gam} {Q : State → Prop} (X : hb_X Γ cJxf58ca_floatToIntBits_5c35a 1 RJxf58ca Λ G 1 23) (hr : hb_ret Γ = (some .int)) (p0 : UInt32) (σ : hb_Mem) {x : Int32} (h : fn_Jxf58ca_floatToIntBits_5c35a p0 = some x) (K : Q = hb_Q Γ Λ G (some (.int x)) σ) : hb_W Γ Λ G 1 Q σ [some (.float p0)] [] 0 := by
  unfold fn_Jxf58ca_floatToIntBits_5c35a at h
  refine ww_fload_n 1 X dJxf58ca_floatToIntBits_5c35a_0 rfl rfl ?_
  obtain ⟨x1, hx1, h⟩ := hb_bind_of h
  refine ww_callS (rest := []) (st' := [.int x1]) 4 X (ct_Jxf58ca_isNaN_12338 (hb_l Γ) G p0 σ hx1) cw_Jxf58ca_59 rfl ⟨by decide, by decide⟩ (Nat.le_of_ble_eq_true rfl) rfl rfl dJxf58ca_floatToIntBits_5c35a_1 rfl ?_
  refine ww_if_ne 12 7 X dJxf58ca_floatToIntBits_5c35a_4 (by decide) rfl h (fun h => ?_) (fun h => ?_)
  · skip
    refine ww_fload_n 8 X dJxf58ca_floatToIntBits_5c35a_7 rfl rfl ?_
    refine ww_f2raw 11 X (by decide +kernel) (by decide +kernel) (by decide +kernel) (by decide +kernel) (by decide) (by decide) (Nat.le_of_ble_eq_true rfl) dJxf58ca_floatToIntBits_5c35a_8 rfl ?_
    obtain rfl := Option.some.inj h
    exact ww_ret_i X hr K dJxf58ca_floatToIntBits_5c35a_11
  · skip
    refine ww_ldc (v := 2143289344) 14 X dJxf58ca_floatToIntBits_5c35a_12 rfl (by decide +kernel) ?_
    obtain rfl := Option.some.inj h
    exact ww_ret_i X hr K dJxf58ca_floatToIntBits_5c35a_14
theorem ct_Jxf58ca_floatToIntBits_5c35a (l : Launch) {Λ : hb_Lay} (G : hb_Gam) (p0 : UInt32) (σ : hb_Mem) {x : Int32} (h : fn_Jxf58ca_floatToIntBits_5c35a p0 = some x) : hb_C l yJxf58ca_floatToIntBits_5c35a cJxf58ca_floatToIntBits_5c35a 1 (some .int) 1 23 Λ G [.float p0] σ (some (.int x)) σ :=
  hb_C.of [some (.float p0)] (by decide +kernel) (Nat.le_of_ble_eq_true rfl) (by intro v hv; simp only [List.mem_cons, List.not_mem_nil, or_false] at hv; subst hv; rfl) rfl (hb_pad [.float p0] 0) (fun Γ X hr => wk_Jxf58ca_floatToIntBits_5c35a X hr p0 σ h rfl)
def fn_X6_page (k : Nat) (p1 : Int32) (p2 : Int32) (σ : hb_Mem) : Option (Int32 × hb_Mem) :=
(fn_X6_isPage k p1 σ).bind fun x1 =>
if x1 = 0 then (
some ((-1), σ))
else (
if p2 = 0 then (
(fn_X6_of k p1 3 σ).bind fun x2 =>
some (x2, σ))
else if p2 = 1 then (
(fn_X6_of k p1 1 σ).bind fun x3 =>
some (x3, σ))
else if p2 = 2 then (
(fn_X6_of k p1 2 σ).bind fun x4 =>
some (x4, σ))
else if p2 = 3 then (
(fn_X6_mood k p1 σ).bind fun x5 =>
(fn_Jxf58ca_floatToIntBits_5c35a x5).bind fun x6 =>
some (x6, σ))
else if p2 = 4 then (
(fn_X6_isEnd k p1 σ).bind fun x7 =>
if x7 = 0 then (
some (0, σ))
else (
(fn_X6_isHappy k p1 σ).bind fun x8 =>
if x8 = 0 then (
some (2, σ))
else (
some (1, σ))))
else if p2 = 5 then (
(fn_X6_placesOf k p1 σ).bind fun x9 =>
if x9.1 = 0 then (
some (1, x9.2))
else (
some (0, x9.2)))
else if p2 = 6 then (
(fn_X6_keepsPlaces k σ).bind fun x10 =>
(fn_X6_comesAgain k p1 x10).bind fun x11 =>
if x11.1 = 0 then (
some (0, x11.2))
else (
some (1, x11.2)))
else if p2 = 7 then (
(fn_X6_stuckIn k ((32 : Int32) * p1) (((32 : Int32) * p1) + 31) σ).bind fun x12 =>
if x12.1 ≤ 0 then (
some (0, x12.2))
else (
some (1, x12.2)))
else if p2 = 8 then (
(fn_X6_placesOf k p1 σ).bind fun x13 =>
some (x13.1, x13.2))
else if p2 = 9 then (
(fn_X6_fewest k p1 σ).bind fun x14 =>
some (x14.1, x14.2))
else if p2 = 10 then (
(fn_X6_leadingTo k p1 σ).bind fun x15 =>
some (x15, σ))
else (
some ((-2), σ)))
set_option maxRecDepth 100000 in
set_option maxHeartbeats 4000000 in
theorem wk_X6_page {Γ : hb_Ctx} {G : hb_Gam} {Q : State → Prop} (X : hb_X Γ cX6_page 3 RX6 ΛM G 8 182) (hr : hb_ret Γ = (some .int)) (k : Nat) (hk : hb_is ΛM k 6) (p1 : Int32) (p2 : Int32) (σ : hb_Mem) {x : (Int32 × hb_Mem)} (h : fn_X6_page k p1 p2 σ = some x) (K : Q = hb_Q Γ ΛM G (some (.int x.1)) x.2) : hb_W Γ ΛM G 3 Q σ [some (.ref (G.2.2.2 k)), some (.int p1), some (.int p2)] [] 0 := by
  unfold fn_X6_page at h
  refine ww_aload_n 1 X dX6_page_0 rfl rfl ?_
  refine ww_iload_n 2 X dX6_page_1 rfl rfl ?_
  obtain ⟨x1, hx1, h⟩ := hb_bind_of h
  refine ww_callV (ci := 6) (rest := []) (st' := [.int x1]) 5 X (ct_X6_isPage (hb_l Γ) G k hk p1 σ hx1) cw_X6_54 rfl (by decide) hk rfl ⟨by decide, by decide⟩ (Nat.le_of_ble_eq_true rfl) rfl rfl dX6_page_2 rfl ?_
  refine ww_if_ne 10 8 X dX6_page_5 (by decide) rfl h (fun h => ?_) (fun h => ?_)
  · skip
    refine ww_iconst (v := (-1)) 9 X dX6_page_8 rfl (by decide) ?_
    obtain rfl := Option.some.inj h
    exact ww_ret_i X hr K dX6_page_9
  · skip
    refine ww_iload_n 11 X dX6_page_10 rfl rfl ?_
    by_cases c0 : p2 = 0
    · rw [if_pos c0] at h
      refine ww_tabIn (57) 68 X dX6_page_11 (by rw [c0]; decide) (by rw [c0]; decide) (by rw [c0]; rfl) (by decide) ?_
      refine ww_aload_n 69 X dX6_page_68 rfl rfl ?_
      refine ww_iload_n 70 X dX6_page_69 rfl rfl ?_
      refine ww_iconst (v := 3) 71 X dX6_page_70 rfl (by decide) ?_
      obtain ⟨x2, hx2, h⟩ := hb_bind_of h
      refine ww_callV (ci := 6) (rest := []) (st' := [.int x2]) 74 X (ct_X6_of (hb_l Γ) G k hk p1 3 σ hx2) cw_X6_62 rfl (by decide) hk rfl ⟨by decide, by decide⟩ (Nat.le_of_ble_eq_true rfl) rfl rfl dX6_page_71 rfl ?_
      obtain rfl := Option.some.inj h
      exact ww_ret_i X hr K dX6_page_74
    rw [if_neg c0] at h
    by_cases c1 : p2 = 1
    · rw [if_pos c1] at h
      refine ww_tabIn (64) 75 X dX6_page_11 (by rw [c1]; decide) (by rw [c1]; decide) (by rw [c1]; rfl) (by decide) ?_
      refine ww_aload_n 76 X dX6_page_75 rfl rfl ?_
      refine ww_iload_n 77 X dX6_page_76 rfl rfl ?_
      refine ww_iconst (v := 1) 78 X dX6_page_77 rfl (by decide) ?_
      obtain ⟨x3, hx3, h⟩ := hb_bind_of h
      refine ww_callV (ci := 6) (rest := []) (st' := [.int x3]) 81 X (ct_X6_of (hb_l Γ) G k hk p1 1 σ hx3) cw_X6_62 rfl (by decide) hk rfl ⟨by decide, by decide⟩ (Nat.le_of_ble_eq_true rfl) rfl rfl dX6_page_78 rfl ?_
      obtain rfl := Option.some.inj h
      exact ww_ret_i X hr K dX6_page_81
    rw [if_neg c1] at h
    by_cases c2 : p2 = 2
    · rw [if_pos c2] at h
      refine ww_tabIn (71) 82 X dX6_page_11 (by rw [c2]; decide) (by rw [c2]; decide) (by rw [c2]; rfl) (by decide) ?_
      refine ww_aload_n 83 X dX6_page_82 rfl rfl ?_
      refine ww_iload_n 84 X dX6_page_83 rfl rfl ?_
      refine ww_iconst (v := 2) 85 X dX6_page_84 rfl (by decide) ?_
      obtain ⟨x4, hx4, h⟩ := hb_bind_of h
      refine ww_callV (ci := 6) (rest := []) (st' := [.int x4]) 88 X (ct_X6_of (hb_l Γ) G k hk p1 2 σ hx4) cw_X6_62 rfl (by decide) hk rfl ⟨by decide, by decide⟩ (Nat.le_of_ble_eq_true rfl) rfl rfl dX6_page_85 rfl ?_
      obtain rfl := Option.some.inj h
      exact ww_ret_i X hr K dX6_page_88
    rw [if_neg c2] at h
    by_cases c3 : p2 = 3
    · rw [if_pos c3] at h
      refine ww_tabIn (78) 89 X dX6_page_11 (by rw [c3]; decide) (by rw [c3]; decide) (by rw [c3]; rfl) (by decide) ?_
      refine ww_aload_n 90 X dX6_page_89 rfl rfl ?_
      refine ww_iload_n 91 X dX6_page_90 rfl rfl ?_
      obtain ⟨x5, hx5, h⟩ := hb_bind_of h
      refine ww_callV (ci := 6) (rest := []) (st' := [.float x5]) 94 X (ct_X6_mood (hb_l Γ) G k hk p1 σ hx5) cw_X6_156 rfl (by decide) hk rfl ⟨by decide, by decide⟩ (Nat.le_of_ble_eq_true rfl) rfl rfl dX6_page_91 rfl ?_
      obtain ⟨x6, hx6, h⟩ := hb_bind_of h
      refine ww_callS (rest := []) (st' := [.int x6]) 97 X (ct_Jxf58ca_floatToIntBits_5c35a (hb_l Γ) G x5 σ hx6) cw_X6_160 rfl ⟨by decide, by decide⟩ (Nat.le_of_ble_eq_true rfl) rfl rfl dX6_page_94 rfl ?_
      obtain rfl := Option.some.inj h
      exact ww_ret_i X hr K dX6_page_97
    rw [if_neg c3] at h
    by_cases c4 : p2 = 4
    · rw [if_pos c4] at h
      refine ww_tabIn (87) 98 X dX6_page_11 (by rw [c4]; decide) (by rw [c4]; decide) (by rw [c4]; rfl) (by decide) ?_
      refine ww_aload_n 99 X dX6_page_98 rfl rfl ?_
      refine ww_iload_n 100 X dX6_page_99 rfl rfl ?_
      obtain ⟨x7, hx7, h⟩ := hb_bind_of h
      refine ww_callV (ci := 6) (rest := []) (st' := [.int x7]) 103 X (ct_X6_isEnd (hb_l Γ) G k hk p1 σ hx7) cw_X6_66 rfl (by decide) hk rfl ⟨by decide, by decide⟩ (Nat.le_of_ble_eq_true rfl) rfl rfl dX6_page_100 rfl ?_
      refine ww_if_ne 110 106 X dX6_page_103 (by decide) rfl h (fun h => ?_) (fun h => ?_)
      · skip
        refine ww_iconst (v := 0) 107 X dX6_page_106 rfl (by decide) ?_
        refine ww_goto 123 X dX6_page_107 (by decide) ?_
        obtain rfl := Option.some.inj h
        exact ww_ret_i X hr K dX6_page_123
      · skip
        refine ww_aload_n 111 X dX6_page_110 rfl rfl ?_
        refine ww_iload_n 112 X dX6_page_111 rfl rfl ?_
        obtain ⟨x8, hx8, h⟩ := hb_bind_of h
        refine ww_callV (ci := 6) (rest := []) (st' := [.int x8]) 115 X (ct_X6_isHappy (hb_l Γ) G k hk p1 σ hx8) cw_X6_166 rfl (by decide) hk rfl ⟨by decide, by decide⟩ (Nat.le_of_ble_eq_true rfl) rfl rfl dX6_page_112 rfl ?_
        refine ww_if_eq 122 118 X dX6_page_115 (by decide) rfl h (fun h => ?_) (fun h => ?_)
        · skip
          refine ww_iconst (v := 2) 123 X dX6_page_122 rfl (by decide) ?_
          obtain rfl := Option.some.inj h
          exact ww_ret_i X hr K dX6_page_123
        · skip
          refine ww_iconst (v := 1) 119 X dX6_page_118 rfl (by decide) ?_
          refine ww_goto 123 X dX6_page_119 (by decide) ?_
          obtain rfl := Option.some.inj h
          exact ww_ret_i X hr K dX6_page_123
    rw [if_neg c4] at h
    by_cases c5 : p2 = 5
    · rw [if_pos c5] at h
      refine ww_tabIn (113) 124 X dX6_page_11 (by rw [c5]; decide) (by rw [c5]; decide) (by rw [c5]; rfl) (by decide) ?_
      refine ww_aload_n 125 X dX6_page_124 rfl rfl ?_
      refine ww_iload_n 126 X dX6_page_125 rfl rfl ?_
      obtain ⟨x9, hx9, h⟩ := hb_bind_of h
      refine ww_callV (ci := 6) (rest := []) (st' := [.int x9.1]) 129 X (ct_X6_placesOf (hb_l Γ) G k hk p1 σ hx9) cw_X6_169 rfl (by decide) hk rfl ⟨by decide, by decide⟩ (Nat.le_of_ble_eq_true rfl) rfl rfl dX6_page_126 rfl ?_
      refine ww_if_ne 136 132 X dX6_page_129 (by decide) rfl h (fun h => ?_) (fun h => ?_)
      · skip
        refine ww_iconst (v := 1) 133 X dX6_page_132 rfl (by decide) ?_
        refine ww_goto 137 X dX6_page_133 (by decide) ?_
        obtain rfl := Option.some.inj h
        exact ww_ret_i X hr K dX6_page_137
      · skip
        refine ww_iconst (v := 0) 137 X dX6_page_136 rfl (by decide) ?_
        obtain rfl := Option.some.inj h
        exact ww_ret_i X hr K dX6_page_137
    rw [if_neg c5] at h
    by_cases c6 : p2 = 6
    · rw [if_pos c6] at h
      refine ww_tabIn (127) 138 X dX6_page_11 (by rw [c6]; decide) (by rw [c6]; decide) (by rw [c6]; rfl) (by decide) ?_
      refine ww_aload_n 139 X dX6_page_138 rfl rfl ?_
      obtain ⟨x10, hx10, h⟩ := hb_bind_of h
      refine ww_callV (ci := 6) (rest := []) (st' := []) 142 X (ct_X6_keepsPlaces (hb_l Γ) G k hk σ hx10) cw_X6_99 rfl (by decide) hk rfl ⟨by decide, by decide⟩ (Nat.le_of_ble_eq_true rfl) rfl rfl dX6_page_139 rfl ?_
      refine ww_aload_n 143 X dX6_page_142 rfl rfl ?_
      refine ww_iload_n 144 X dX6_page_143 rfl rfl ?_
      obtain ⟨x11, hx11, h⟩ := hb_bind_of h
      refine ww_callV (ci := 6) (rest := []) (st' := [.int x11.1]) 147 X (ct_X6_comesAgain (hb_l Γ) G k hk p1 x10 hx11) cw_X6_172 rfl (by decide) hk rfl ⟨by decide, by decide⟩ (Nat.le_of_ble_eq_true rfl) rfl rfl dX6_page_144 rfl ?_
      refine ww_if_eq 154 150 X dX6_page_147 (by decide) rfl h (fun h => ?_) (fun h => ?_)
      · skip
        refine ww_iconst (v := 0) 155 X dX6_page_154 rfl (by decide) ?_
        obtain rfl := Option.some.inj h
        exact ww_ret_i X hr K dX6_page_155
      · skip
        refine ww_iconst (v := 1) 151 X dX6_page_150 rfl (by decide) ?_
        refine ww_goto 155 X dX6_page_151 (by decide) ?_
        obtain rfl := Option.some.inj h
        exact ww_ret_i X hr K dX6_page_155
    rw [if_neg c6] at h
    by_cases c7 : p2 = 7
    · rw [if_pos c7] at h
      refine ww_tabIn (145) 156 X dX6_page_11 (by rw [c7]; decide) (by rw [c7]; decide) (by rw [c7]; rfl) (by decide) ?_
      refine ww_aload_n 157 X dX6_page_156 rfl rfl ?_
      refine ww_bipush (v := 32) 159 X dX6_page_157 rfl (by decide) ?_
      refine ww_iload_n 160 X dX6_page_159 rfl rfl ?_
      refine ww_imul 161 X dX6_page_160 rfl ?_
      refine ww_bipush (v := 32) 163 X dX6_page_161 rfl (by decide) ?_
      refine ww_iload_n 164 X dX6_page_163 rfl rfl ?_
      refine ww_imul 165 X dX6_page_164 rfl ?_
      refine ww_bipush (v := 31) 167 X dX6_page_165 rfl (by decide) ?_
      refine ww_iadd 168 X dX6_page_167 rfl ?_
      obtain ⟨x12, hx12, h⟩ := hb_bind_of h
      refine ww_callV (ci := 6) (rest := []) (st' := [.int x12.1]) 171 X (ct_X6_stuckIn (hb_l Γ) G k hk ((32 : Int32) * p1) (((32 : Int32) * p1) + 31) σ hx12) cw_X6_175 rfl (by decide) hk rfl ⟨by decide, by decide⟩ (Nat.le_of_ble_eq_true rfl) rfl rfl dX6_page_168 rfl ?_
      refine ww_if_le 178 174 X dX6_page_171 (by decide) rfl h (fun h => ?_) (fun h => ?_)
      · skip
        refine ww_iconst (v := 0) 179 X dX6_page_178 rfl (by decide) ?_
        obtain rfl := Option.some.inj h
        exact ww_ret_i X hr K dX6_page_179
      · skip
        refine ww_iconst (v := 1) 175 X dX6_page_174 rfl (by decide) ?_
        refine ww_goto 179 X dX6_page_175 (by decide) ?_
        obtain rfl := Option.some.inj h
        exact ww_ret_i X hr K dX6_page_179
    rw [if_neg c7] at h
    by_cases c8 : p2 = 8
    · rw [if_pos c8] at h
      refine ww_tabIn (169) 180 X dX6_page_11 (by rw [c8]; decide) (by rw [c8]; decide) (by rw [c8]; rfl) (by decide) ?_
      refine ww_aload_n 181 X dX6_page_180 rfl rfl ?_
      refine ww_iload_n 182 X dX6_page_181 rfl rfl ?_
      obtain ⟨x13, hx13, h⟩ := hb_bind_of h
      refine ww_callV (ci := 6) (rest := []) (st' := [.int x13.1]) 185 X (ct_X6_placesOf (hb_l Γ) G k hk p1 σ hx13) cw_X6_169 rfl (by decide) hk rfl ⟨by decide, by decide⟩ (Nat.le_of_ble_eq_true rfl) rfl rfl dX6_page_182 rfl ?_
      obtain rfl := Option.some.inj h
      exact ww_ret_i X hr K dX6_page_185
    rw [if_neg c8] at h
    by_cases c9 : p2 = 9
    · rw [if_pos c9] at h
      refine ww_tabIn (175) 186 X dX6_page_11 (by rw [c9]; decide) (by rw [c9]; decide) (by rw [c9]; rfl) (by decide) ?_
      refine ww_aload_n 187 X dX6_page_186 rfl rfl ?_
      refine ww_iload_n 188 X dX6_page_187 rfl rfl ?_
      obtain ⟨x14, hx14, h⟩ := hb_bind_of h
      refine ww_callV (ci := 6) (rest := []) (st' := [.int x14.1]) 191 X (ct_X6_fewest (hb_l Γ) G k hk p1 σ hx14) cw_X6_178 rfl (by decide) hk rfl ⟨by decide, by decide⟩ (Nat.le_of_ble_eq_true rfl) rfl rfl dX6_page_188 rfl ?_
      obtain rfl := Option.some.inj h
      exact ww_ret_i X hr K dX6_page_191
    rw [if_neg c9] at h
    by_cases c10 : p2 = 10
    · rw [if_pos c10] at h
      refine ww_tabIn (181) 192 X dX6_page_11 (by rw [c10]; decide) (by rw [c10]; decide) (by rw [c10]; rfl) (by decide) ?_
      refine ww_aload_n 193 X dX6_page_192 rfl rfl ?_
      refine ww_iload_n 194 X dX6_page_193 rfl rfl ?_
      obtain ⟨x15, hx15, h⟩ := hb_bind_of h
      refine ww_callV (ci := 6) (rest := []) (st' := [.int x15]) 197 X (ct_X6_leadingTo (hb_l Γ) G k hk p1 σ hx15) cw_X6_128 rfl (by decide) hk rfl ⟨by decide, by decide⟩ (Nat.le_of_ble_eq_true rfl) rfl rfl dX6_page_194 rfl ?_
      obtain rfl := Option.some.inj h
      exact ww_ret_i X hr K dX6_page_197
    rw [if_neg c10] at h
    refine ww_tabOut 198 X dX6_page_11 (by have := hb_ne_toInt c0 (c := 0) rfl; have := hb_ne_toInt c1 (c := 1) rfl; have := hb_ne_toInt c2 (c := 2) rfl; have := hb_ne_toInt c3 (c := 3) rfl; have := hb_ne_toInt c4 (c := 4) rfl; have := hb_ne_toInt c5 (c := 5) rfl; have := hb_ne_toInt c6 (c := 6) rfl; have := hb_ne_toInt c7 (c := 7) rfl; have := hb_ne_toInt c8 (c := 8) rfl; have := hb_ne_toInt c9 (c := 9) rfl; have := hb_ne_toInt c10 (c := 10) rfl; omega) (by decide) ?_
    refine ww_bipush (v := (-2)) 200 X dX6_page_198 rfl (by decide) ?_
    obtain rfl := Option.some.inj h
    exact ww_ret_i X hr K dX6_page_200
theorem ct_X6_page (l : Launch) (G : hb_Gam) (k : Nat) (hk : hb_is ΛM k 6) (p1 : Int32) (p2 : Int32) (σ : hb_Mem) {x : (Int32 × hb_Mem)} (h : fn_X6_page k p1 p2 σ = some x) : hb_C l yX6_page cX6_page 3 (some .int) 8 182 ΛM G [.ref (G.2.2.2 k), .int p1, .int p2] σ (some (.int x.1)) x.2 :=
  hb_C.of [some (.ref (G.2.2.2 k)), some (.int p1), some (.int p2)] (by decide +kernel) (Nat.le_of_ble_eq_true rfl) (by intro v hv; simp only [List.mem_cons, List.not_mem_nil, or_false] at hv; rcases hv with rfl | rfl | rfl <;> rfl) rfl (hb_pad [.ref (G.2.2.2 k), .int p1, .int p2] 0) (fun Γ X hr => wk_X6_page X hr k hk p1 p2 σ h rfl)
def jn_X6_canBeTaken_50 (k : Nat) (p1 : Int32) (p2 : Int32) (j4 : Int32) (s0 : Int32) (σ : hb_Mem) : Option ((Int32 × Int32) ⊕ Int32) :=
hb_nm (j4 + 1) fun v3 =>
some (.inl (s0, v3))
set_option maxRecDepth 100000 in
set_option maxHeartbeats 4000000 in
theorem jw_X6_canBeTaken_50 {Γ : hb_Ctx} {G : hb_Gam} {Q : State → Prop} (X : hb_X Γ cX6_canBeTaken 5 RX6 ΛM G 5 115)  (k : Nat) (hk : hb_is ΛM k 6) (p1 : Int32) (p2 : Int32) (j4 : Int32) (s0 : Int32) (σ : hb_Mem) {x : ((Int32 × Int32) ⊕ Int32)} (h : jn_X6_canBeTaken_50 k p1 p2 j4 s0 σ = some x) (K : Sum.elim (fun s : (Int32 × Int32) => hb_W Γ ΛM G 5 Q σ [some (.ref (G.2.2.2 k)), some (.int p1), some (.int p2), some (.int s.1), some (.int s.2)] [] 9) (fun t : Int32 => hb_W Γ ΛM G 5 Q σ [none, none, none, some (.int t), none] [] 57) x) : hb_W Γ ΛM G 5 Q σ [some (.ref (G.2.2.2 k)), some (.int p1), some (.int p2), none, some (.int j4)] [.int s0] 50 := by
  unfold jn_X6_canBeTaken_50 at h
  refine ww_istore_n 51 X (L' := [some (.ref (G.2.2.2 k)), some (.int p1), some (.int p2), some (.int s0), some (.int j4)]) dX6_canBeTaken_50 rfl (Nat.le_of_ble_eq_true rfl) rfl ?_
  obtain ⟨v3, ev3, h⟩ := hb_nm_of h
  refine ww_iinc 54 X (L' := [some (.ref (G.2.2.2 k)), some (.int p1), some (.int p2), some (.int s0), some (.int v3)]) dX6_canBeTaken_51 rfl rfl ev3.symm rfl ?_
  refine ww_goto 9 X dX6_canBeTaken_54 (by decide) ?_
  obtain rfl := Option.some.inj h
  exact K
def jn_X6_canBeTaken_49 (k : Nat) (p1 : Int32) (p2 : Int32) (j3 : Int32) (j4 : Int32) (σ : hb_Mem) : Option ((Int32 × Int32) ⊕ Int32) :=
jn_X6_canBeTaken_50 k p1 p2 j4 j3 σ
set_option maxRecDepth 100000 in
set_option maxHeartbeats 4000000 in
theorem jw_X6_canBeTaken_49 {Γ : hb_Ctx} {G : hb_Gam} {Q : State → Prop} (X : hb_X Γ cX6_canBeTaken 5 RX6 ΛM G 5 115)  (k : Nat) (hk : hb_is ΛM k 6) (p1 : Int32) (p2 : Int32) (j3 : Int32) (j4 : Int32) (σ : hb_Mem) {x : ((Int32 × Int32) ⊕ Int32)} (h : jn_X6_canBeTaken_49 k p1 p2 j3 j4 σ = some x) (K : Sum.elim (fun s : (Int32 × Int32) => hb_W Γ ΛM G 5 Q σ [some (.ref (G.2.2.2 k)), some (.int p1), some (.int p2), some (.int s.1), some (.int s.2)] [] 9) (fun t : Int32 => hb_W Γ ΛM G 5 Q σ [none, none, none, some (.int t), none] [] 57) x) : hb_W Γ ΛM G 5 Q σ [some (.ref (G.2.2.2 k)), some (.int p1), some (.int p2), some (.int j3), some (.int j4)] [] 49 := by
  unfold jn_X6_canBeTaken_49 at h
  refine ww_iload_n 50 X dX6_canBeTaken_49 rfl rfl ?_
  refine ww_kill [3] (L' := [some (.ref (G.2.2.2 k)), some (.int p1), some (.int p2), none, some (.int j4)]) rfl ?_
  exact jw_X6_canBeTaken_50 X k hk p1 p2 j4 j3 σ h K
def lb_X6_canBeTaken_9 (k : Nat) (p1 : Int32) (p2 : Int32) (w3 : Int32) (w4 : Int32) (σ : hb_Mem) : Option ((Int32 × Int32) ⊕ Int32) :=
if 31 < w4 then (
some (.inr w3))
else (
(hb_ld ΛM σ (hm_rf k 7) (((32 : Int32) * p1) + w4)).bind fun v2 =>
if 9999 ≤ v2 then (
jn_X6_canBeTaken_49 k p1 p2 w3 w4 σ)
else (
(fn_X6_canTake k p1 p2 w4 σ).bind fun x4 =>
if x4 = 0 then (
jn_X6_canBeTaken_49 k p1 p2 w3 w4 σ)
else (
jn_X6_canBeTaken_50 k p1 p2 w4 1 σ)))
set_option maxRecDepth 100000 in
set_option maxHeartbeats 4000000 in
theorem lk_X6_canBeTaken_9 {Γ : hb_Ctx} {G : hb_Gam} {Q : State → Prop} (X : hb_X Γ cX6_canBeTaken 5 RX6 ΛM G 5 115)  (k : Nat) (hk : hb_is ΛM k 6) (p1 : Int32) (p2 : Int32) (w3 : Int32) (w4 : Int32) (σ : hb_Mem) {x : ((Int32 × Int32) ⊕ Int32)} (h : lb_X6_canBeTaken_9 k p1 p2 w3 w4 σ = some x) (K : Sum.elim (fun s : (Int32 × Int32) => hb_W Γ ΛM G 5 Q σ [some (.ref (G.2.2.2 k)), some (.int p1), some (.int p2), some (.int s.1), some (.int s.2)] [] 9) (fun t : Int32 => hb_W Γ ΛM G 5 Q σ [none, none, none, some (.int t), none] [] 57) x) : hb_W Γ ΛM G 5 Q σ [some (.ref (G.2.2.2 k)), some (.int p1), some (.int p2), some (.int w3), some (.int w4)] [] 9 := by
  unfold lb_X6_canBeTaken_9 at h
  refine ww_iload 11 X dX6_canBeTaken_9 rfl rfl ?_
  refine ww_bipush (v := 31) 13 X dX6_canBeTaken_11 rfl (by decide) ?_
  refine ww_icmp_gt 57 16 X dX6_canBeTaken_13 (by decide) rfl h (fun h => ?_) (fun h => ?_)
  · skip
    obtain rfl := Option.some.inj h
    refine ww_kill [0, 1, 2, 4] (L' := [none, none, none, some (.int w3), none]) rfl ?_
    exact K
  · skip
    refine ww_aload_n 17 X dX6_canBeTaken_16 rfl rfl ?_
    refine ww_getr (ci := 6) (j := 7) 20 X cf_6 tw_X6_22 (by decide) rfl hk dX6_canBeTaken_17 rfl ?_
    refine ww_bipush (v := 32) 22 X dX6_canBeTaken_20 rfl (by decide) ?_
    refine ww_iload_n 23 X dX6_canBeTaken_22 rfl rfl ?_
    refine ww_imul 24 X dX6_canBeTaken_23 rfl ?_
    refine ww_iload 26 X dX6_canBeTaken_24 rfl rfl ?_
    refine ww_iadd 27 X dX6_canBeTaken_26 rfl ?_
    obtain ⟨v2, hv2, h⟩ := hb_bind_of h
    refine ww_iald 28 X (hm_kr_6_7 hk) hv2 dX6_canBeTaken_27 rfl ?_
    refine ww_sipush (v := 9999) 31 X dX6_canBeTaken_28 rfl (by decide) ?_
    refine ww_icmp_ge 49 34 X dX6_canBeTaken_31 (by decide) rfl h (fun h => ?_) (fun h => ?_)
    · skip
      exact jw_X6_canBeTaken_49 X k hk p1 p2 w3 w4 σ h K
    · skip
      refine ww_aload_n 35 X dX6_canBeTaken_34 rfl rfl ?_
      refine ww_iload_n 36 X dX6_canBeTaken_35 rfl rfl ?_
      refine ww_iload_n 37 X dX6_canBeTaken_36 rfl rfl ?_
      refine ww_iload 39 X dX6_canBeTaken_37 rfl rfl ?_
      obtain ⟨x4, hx4, h⟩ := hb_bind_of h
      refine ww_callV (ci := 6) (rest := []) (st' := [.int x4]) 42 X (ct_X6_canTake (hb_l Γ) G k hk p1 p2 w4 σ hx4) cw_X6_70 rfl (by decide) hk rfl ⟨by decide, by decide⟩ (Nat.le_of_ble_eq_true rfl) rfl rfl dX6_canBeTaken_39 rfl ?_
      refine ww_if_eq 49 45 X dX6_canBeTaken_42 (by decide) rfl h (fun h => ?_) (fun h => ?_)
      · skip
        exact jw_X6_canBeTaken_49 X k hk p1 p2 w3 w4 σ h K
      · skip
        refine ww_iconst (v := 1) 46 X dX6_canBeTaken_45 rfl (by decide) ?_
        refine ww_goto 50 X dX6_canBeTaken_46 (by decide) ?_
        refine ww_kill [3] (L' := [some (.ref (G.2.2.2 k)), some (.int p1), some (.int p2), none, some (.int w4)]) rfl ?_
        exact jw_X6_canBeTaken_50 X k hk p1 p2 w4 1 σ h K
def ll_X6_canBeTaken_9 (k : Nat) (p1 : Int32) (p2 : Int32) (σ : hb_Mem) : (Int32 × Int32) → Option Int32 := hb_lp (fun s => lb_X6_canBeTaken_9 k p1 p2 s.1 s.2 σ) hb_F
theorem lw_X6_canBeTaken_9 {Γ : hb_Ctx} {G : hb_Gam} {Q : State → Prop} (X : hb_X Γ cX6_canBeTaken 5 RX6 ΛM G 5 115)  (k : Nat) (hk : hb_is ΛM k 6) (p1 : Int32) (p2 : Int32) (σ : hb_Mem) (s : (Int32 × Int32)) (t : Int32) (h : ll_X6_canBeTaken_9 k p1 p2 σ s = some t) (K : (fun t : Int32 => hb_W Γ ΛM G 5 Q σ [none, none, none, some (.int t), none] [] 57) t) : hb_W Γ ΛM G 5 Q σ [some (.ref (G.2.2.2 k)), some (.int p1), some (.int p2), some (.int s.1), some (.int s.2)] [] 9 :=
  hb_lp_w (P := fun s : (Int32 × Int32) => hb_W Γ ΛM G 5 Q σ [some (.ref (G.2.2.2 k)), some (.int p1), some (.int p2), some (.int s.1), some (.int s.2)] [] 9) (E := (fun t : Int32 => hb_W Γ ΛM G 5 Q σ [none, none, none, some (.int t), none] [] 57)) (fun s x hx K => lk_X6_canBeTaken_9 X k hk p1 p2 s.1 s.2 σ hx K) _ s t h K
def fn_X6_canBeTaken (k : Nat) (p1 : Int32) (p2 : Int32) (σ : hb_Mem) : Option (Int32 × hb_Mem) :=
(fn_X6_reaches k σ).bind fun x1 =>
(ll_X6_canBeTaken_9 k p1 p2 x1 (0, 0)).bind fun t5 =>
some (t5, x1)
set_option maxRecDepth 100000 in
set_option maxHeartbeats 4000000 in
theorem wk_X6_canBeTaken {Γ : hb_Ctx} {G : hb_Gam} {Q : State → Prop} (X : hb_X Γ cX6_canBeTaken 5 RX6 ΛM G 5 115) (hr : hb_ret Γ = (some .int)) (k : Nat) (hk : hb_is ΛM k 6) (p1 : Int32) (p2 : Int32) (σ : hb_Mem) {x : (Int32 × hb_Mem)} (h : fn_X6_canBeTaken k p1 p2 σ = some x) (K : Q = hb_Q Γ ΛM G (some (.int x.1)) x.2) : hb_W Γ ΛM G 5 Q σ [some (.ref (G.2.2.2 k)), some (.int p1), some (.int p2), none, none] [] 0 := by
  unfold fn_X6_canBeTaken at h
  refine ww_aload_n 1 X dX6_canBeTaken_0 rfl rfl ?_
  obtain ⟨x1, hx1, h⟩ := hb_bind_of h
  refine ww_callV (ci := 6) (rest := []) (st' := []) 4 X (ct_X6_reaches (hb_l Γ) G k hk σ hx1) cw_X6_96 rfl (by decide) hk rfl ⟨by decide, by decide⟩ (Nat.le_of_ble_eq_true rfl) rfl rfl dX6_canBeTaken_1 rfl ?_
  refine ww_iconst (v := 0) 5 X dX6_canBeTaken_4 rfl (by decide) ?_
  refine ww_istore_n 6 X (L' := [some (.ref (G.2.2.2 k)), some (.int p1), some (.int p2), some (.int 0), none]) dX6_canBeTaken_5 rfl (Nat.le_of_ble_eq_true rfl) rfl ?_
  refine ww_iconst (v := 0) 7 X dX6_canBeTaken_6 rfl (by decide) ?_
  refine ww_istore 9 X (L' := [some (.ref (G.2.2.2 k)), some (.int p1), some (.int p2), some (.int 0), some (.int 0)]) dX6_canBeTaken_7 rfl (Nat.le_of_ble_eq_true rfl) rfl ?_
  obtain ⟨t5, ht5, h⟩ := hb_bind_of h
  refine lw_X6_canBeTaken_9 X k hk p1 p2 x1 (0, 0) t5 ht5 ?_
  refine ww_iload_n 58 X dX6_canBeTaken_57 rfl rfl ?_
  obtain rfl := Option.some.inj h
  exact ww_ret_i X hr K dX6_canBeTaken_58
theorem ct_X6_canBeTaken (l : Launch) (G : hb_Gam) (k : Nat) (hk : hb_is ΛM k 6) (p1 : Int32) (p2 : Int32) (σ : hb_Mem) {x : (Int32 × hb_Mem)} (h : fn_X6_canBeTaken k p1 p2 σ = some x) : hb_C l yX6_canBeTaken cX6_canBeTaken 5 (some .int) 5 115 ΛM G [.ref (G.2.2.2 k), .int p1, .int p2] σ (some (.int x.1)) x.2 :=
  hb_C.of [some (.ref (G.2.2.2 k)), some (.int p1), some (.int p2), none, none] (by decide +kernel) (Nat.le_of_ble_eq_true rfl) (by intro v hv; simp only [List.mem_cons, List.not_mem_nil, or_false] at hv; rcases hv with rfl | rfl | rfl <;> rfl) rfl (hb_pad [.ref (G.2.2.2 k), .int p1, .int p2] 2) (fun Γ X hr => wk_X6_canBeTaken X hr k hk p1 p2 σ h rfl)
def fn_X6_choice (k : Nat) (p1 : Int32) (p2 : Int32) (p3 : Int32) (σ : hb_Mem) : Option (Int32 × hb_Mem) :=
(fn_X6_isChoice k p1 p2 σ).bind fun x1 =>
if x1 = 0 then (
some ((-1), σ))
else (
if p3 = 0 then (
(fn_X6_ofChoice k p1 p2 p3 σ).bind fun x2 =>
some (x2, σ))
else if p3 = 1 then (
(fn_X6_ofChoice k p1 p2 p3 σ).bind fun x3 =>
some (x3, σ))
else if p3 = 2 then (
(fn_X6_ofChoice k p1 p2 p3 σ).bind fun x4 =>
some (x4, σ))
else if p3 = 3 then (
(fn_X6_canBeTaken k p1 p2 σ).bind fun x5 =>
some (x5.1, x5.2))
else (
some ((-2), σ)))
set_option maxRecDepth 100000 in
set_option maxHeartbeats 4000000 in
theorem wk_X6_choice {Γ : hb_Ctx} {G : hb_Gam} {Q : State → Prop} (X : hb_X Γ cX6_choice 4 RX6 ΛM G 6 139) (hr : hb_ret Γ = (some .int)) (k : Nat) (hk : hb_is ΛM k 6) (p1 : Int32) (p2 : Int32) (p3 : Int32) (σ : hb_Mem) {x : (Int32 × hb_Mem)} (h : fn_X6_choice k p1 p2 p3 σ = some x) (K : Q = hb_Q Γ ΛM G (some (.int x.1)) x.2) : hb_W Γ ΛM G 4 Q σ [some (.ref (G.2.2.2 k)), some (.int p1), some (.int p2), some (.int p3)] [] 0 := by
  unfold fn_X6_choice at h
  refine ww_aload_n 1 X dX6_choice_0 rfl rfl ?_
  refine ww_iload_n 2 X dX6_choice_1 rfl rfl ?_
  refine ww_iload_n 3 X dX6_choice_2 rfl rfl ?_
  obtain ⟨x1, hx1, h⟩ := hb_bind_of h
  refine ww_callV (ci := 6) (rest := []) (st' := [.int x1]) 6 X (ct_X6_isChoice (hb_l Γ) G k hk p1 p2 σ hx1) cw_X6_124 rfl (by decide) hk rfl ⟨by decide, by decide⟩ (Nat.le_of_ble_eq_true rfl) rfl rfl dX6_choice_3 rfl ?_
  refine ww_if_ne 11 9 X dX6_choice_6 (by decide) rfl h (fun h => ?_) (fun h => ?_)
  · skip
    refine ww_iconst (v := (-1)) 10 X dX6_choice_9 rfl (by decide) ?_
    obtain rfl := Option.some.inj h
    exact ww_ret_i X hr K dX6_choice_10
  · skip
    refine ww_iload_n 12 X dX6_choice_11 rfl rfl ?_
    by_cases c0 : p3 = 0
    · rw [if_pos c0] at h
      refine ww_tabIn (32) 44 X dX6_choice_12 (by rw [c0]; decide) (by rw [c0]; decide) (by rw [c0]; rfl) (by decide) ?_
      refine ww_aload_n 45 X dX6_choice_44 rfl rfl ?_
      refine ww_iload_n 46 X dX6_choice_45 rfl rfl ?_
      refine ww_iload_n 47 X dX6_choice_46 rfl rfl ?_
      refine ww_iload_n 48 X dX6_choice_47 rfl rfl ?_
      obtain ⟨x2, hx2, h⟩ := hb_bind_of h
      refine ww_callV (ci := 6) (rest := []) (st' := [.int x2]) 51 X (ct_X6_ofChoice (hb_l Γ) G k hk p1 p2 p3 σ hx2) cw_X6_58 rfl (by decide) hk rfl ⟨by decide, by decide⟩ (Nat.le_of_ble_eq_true rfl) rfl rfl dX6_choice_48 rfl ?_
      obtain rfl := Option.some.inj h
      exact ww_ret_i X hr K dX6_choice_51
    rw [if_neg c0] at h
    by_cases c1 : p3 = 1
    · rw [if_pos c1] at h
      refine ww_tabIn (32) 44 X dX6_choice_12 (by rw [c1]; decide) (by rw [c1]; decide) (by rw [c1]; rfl) (by decide) ?_
      refine ww_aload_n 45 X dX6_choice_44 rfl rfl ?_
      refine ww_iload_n 46 X dX6_choice_45 rfl rfl ?_
      refine ww_iload_n 47 X dX6_choice_46 rfl rfl ?_
      refine ww_iload_n 48 X dX6_choice_47 rfl rfl ?_
      obtain ⟨x3, hx3, h⟩ := hb_bind_of h
      refine ww_callV (ci := 6) (rest := []) (st' := [.int x3]) 51 X (ct_X6_ofChoice (hb_l Γ) G k hk p1 p2 p3 σ hx3) cw_X6_58 rfl (by decide) hk rfl ⟨by decide, by decide⟩ (Nat.le_of_ble_eq_true rfl) rfl rfl dX6_choice_48 rfl ?_
      obtain rfl := Option.some.inj h
      exact ww_ret_i X hr K dX6_choice_51
    rw [if_neg c1] at h
    by_cases c2 : p3 = 2
    · rw [if_pos c2] at h
      refine ww_tabIn (32) 44 X dX6_choice_12 (by rw [c2]; decide) (by rw [c2]; decide) (by rw [c2]; rfl) (by decide) ?_
      refine ww_aload_n 45 X dX6_choice_44 rfl rfl ?_
      refine ww_iload_n 46 X dX6_choice_45 rfl rfl ?_
      refine ww_iload_n 47 X dX6_choice_46 rfl rfl ?_
      refine ww_iload_n 48 X dX6_choice_47 rfl rfl ?_
      obtain ⟨x4, hx4, h⟩ := hb_bind_of h
      refine ww_callV (ci := 6) (rest := []) (st' := [.int x4]) 51 X (ct_X6_ofChoice (hb_l Γ) G k hk p1 p2 p3 σ hx4) cw_X6_58 rfl (by decide) hk rfl ⟨by decide, by decide⟩ (Nat.le_of_ble_eq_true rfl) rfl rfl dX6_choice_48 rfl ?_
      obtain rfl := Option.some.inj h
      exact ww_ret_i X hr K dX6_choice_51
    rw [if_neg c2] at h
    by_cases c3 : p3 = 3
    · rw [if_pos c3] at h
      refine ww_tabIn (40) 52 X dX6_choice_12 (by rw [c3]; decide) (by rw [c3]; decide) (by rw [c3]; rfl) (by decide) ?_
      refine ww_aload_n 53 X dX6_choice_52 rfl rfl ?_
      refine ww_iload_n 54 X dX6_choice_53 rfl rfl ?_
      refine ww_iload_n 55 X dX6_choice_54 rfl rfl ?_
      obtain ⟨x5, hx5, h⟩ := hb_bind_of h
      refine ww_callV (ci := 6) (rest := []) (st' := [.int x5.1]) 58 X (ct_X6_canBeTaken (hb_l Γ) G k hk p1 p2 σ hx5) cw_X6_181 rfl (by decide) hk rfl ⟨by decide, by decide⟩ (Nat.le_of_ble_eq_true rfl) rfl rfl dX6_choice_55 rfl ?_
      obtain rfl := Option.some.inj h
      exact ww_ret_i X hr K dX6_choice_58
    rw [if_neg c3] at h
    refine ww_tabOut 59 X dX6_choice_12 (by have := hb_ne_toInt c0 (c := 0) rfl; have := hb_ne_toInt c1 (c := 1) rfl; have := hb_ne_toInt c2 (c := 2) rfl; have := hb_ne_toInt c3 (c := 3) rfl; omega) (by decide) ?_
    refine ww_bipush (v := (-2)) 61 X dX6_choice_59 rfl (by decide) ?_
    obtain rfl := Option.some.inj h
    exact ww_ret_i X hr K dX6_choice_61
theorem ct_X6_choice (l : Launch) (G : hb_Gam) (k : Nat) (hk : hb_is ΛM k 6) (p1 : Int32) (p2 : Int32) (p3 : Int32) (σ : hb_Mem) {x : (Int32 × hb_Mem)} (h : fn_X6_choice k p1 p2 p3 σ = some x) : hb_C l yX6_choice cX6_choice 4 (some .int) 6 139 ΛM G [.ref (G.2.2.2 k), .int p1, .int p2, .int p3] σ (some (.int x.1)) x.2 :=
  hb_C.of [some (.ref (G.2.2.2 k)), some (.int p1), some (.int p2), some (.int p3)] (by decide +kernel) (Nat.le_of_ble_eq_true rfl) (by intro v hv; simp only [List.mem_cons, List.not_mem_nil, or_false] at hv; rcases hv with rfl | rfl | rfl | rfl <;> rfl) rfl (hb_pad [.ref (G.2.2.2 k), .int p1, .int p2, .int p3] 0) (fun Γ X hr => wk_X6_choice X hr k hk p1 p2 p3 σ h rfl)
def jn_X6_findsWay_44 (k : Nat) (j2 : Int32) (s0 : Int32) (σ : hb_Mem) : Option ((Int32 × Int32) ⊕ Int32) :=
hb_nm (j2 + (-1)) fun v5 =>
some (.inl (s0, v5))
set_option maxRecDepth 100000 in
set_option maxHeartbeats 4000000 in
theorem jw_X6_findsWay_44 {Γ : hb_Ctx} {G : hb_Gam} {Q : State → Prop} (X : hb_X Γ cX6_findsWay 3 RX6 ΛM G 5 115)  (k : Nat) (hk : hb_is ΛM k 6) (j2 : Int32) (s0 : Int32) (σ : hb_Mem) {x : ((Int32 × Int32) ⊕ Int32)} (h : jn_X6_findsWay_44 k j2 s0 σ = some x) (K : Sum.elim (fun s : (Int32 × Int32) => hb_W Γ ΛM G 3 Q σ [some (.ref (G.2.2.2 k)), some (.int s.1), some (.int s.2)] [] 14) (fun t : Int32 => hb_W Γ ΛM G 3 Q σ [some (.ref (G.2.2.2 k)), some (.int t), none] [] 51) x) : hb_W Γ ΛM G 3 Q σ [some (.ref (G.2.2.2 k)), none, some (.int j2)] [.int s0] 44 := by
  unfold jn_X6_findsWay_44 at h
  refine ww_istore_n 45 X (L' := [some (.ref (G.2.2.2 k)), some (.int s0), some (.int j2)]) dX6_findsWay_44 rfl (Nat.le_of_ble_eq_true rfl) rfl ?_
  obtain ⟨v5, ev5, h⟩ := hb_nm_of h
  refine ww_iinc 48 X (L' := [some (.ref (G.2.2.2 k)), some (.int s0), some (.int v5)]) dX6_findsWay_45 rfl rfl ev5.symm rfl ?_
  refine ww_goto 14 X dX6_findsWay_48 (by decide) ?_
  obtain rfl := Option.some.inj h
  exact K
def lb_X6_findsWay_14 (k : Nat) (w1 : Int32) (w2 : Int32) (σ : hb_Mem) : Option ((Int32 × Int32) ⊕ Int32) :=
if w2 < 0 then (
some (.inr w1))
else (
(hb_ld ΛM σ (hm_rf k 10) w2).bind fun v3 =>
(fn_X6_isHappy k (v3 / 32) σ).bind fun x4 =>
if x4 = 0 then (
jn_X6_findsWay_44 k w2 w1 σ)
else (
(hb_ld ΛM σ (hm_rf k 10) w2).bind fun v6 =>
jn_X6_findsWay_44 k w2 v6 σ))
set_option maxRecDepth 100000 in
set_option maxHeartbeats 4000000 in
theorem lk_X6_findsWay_14 {Γ : hb_Ctx} {G : hb_Gam} {Q : State → Prop} (X : hb_X Γ cX6_findsWay 3 RX6 ΛM G 5 115)  (k : Nat) (hk : hb_is ΛM k 6) (w1 : Int32) (w2 : Int32) (σ : hb_Mem) {x : ((Int32 × Int32) ⊕ Int32)} (h : lb_X6_findsWay_14 k w1 w2 σ = some x) (K : Sum.elim (fun s : (Int32 × Int32) => hb_W Γ ΛM G 3 Q σ [some (.ref (G.2.2.2 k)), some (.int s.1), some (.int s.2)] [] 14) (fun t : Int32 => hb_W Γ ΛM G 3 Q σ [some (.ref (G.2.2.2 k)), some (.int t), none] [] 51) x) : hb_W Γ ΛM G 3 Q σ [some (.ref (G.2.2.2 k)), some (.int w1), some (.int w2)] [] 14 := by
  unfold lb_X6_findsWay_14 at h
  refine ww_iload_n 15 X dX6_findsWay_14 rfl rfl ?_
  refine ww_if_lt 51 18 X dX6_findsWay_15 (by decide) rfl h (fun h => ?_) (fun h => ?_)
  · skip
    obtain rfl := Option.some.inj h
    refine ww_kill [2] (L' := [some (.ref (G.2.2.2 k)), some (.int w1), none]) rfl ?_
    exact K
  · skip
    refine ww_aload_n 19 X dX6_findsWay_18 rfl rfl ?_
    refine ww_aload_n 20 X dX6_findsWay_19 rfl rfl ?_
    refine ww_getr (ci := 6) (j := 10) 23 X cf_6 tw_X6_31 (by decide) rfl hk dX6_findsWay_20 rfl ?_
    refine ww_iload_n 24 X dX6_findsWay_23 rfl rfl ?_
    obtain ⟨v3, hv3, h⟩ := hb_bind_of h
    refine ww_iald 25 X (hm_kr_6_10 hk) hv3 dX6_findsWay_24 rfl ?_
    refine ww_bipush (v := 32) 27 X dX6_findsWay_25 rfl (by decide) ?_
    refine ww_idiv 28 X dX6_findsWay_27 rfl (by decide) ?_
    obtain ⟨x4, hx4, h⟩ := hb_bind_of h
    refine ww_callV (ci := 6) (rest := []) (st' := [.int x4]) 31 X (ct_X6_isHappy (hb_l Γ) G k hk (v3 / 32) σ hx4) cw_X6_166 rfl (by decide) hk rfl ⟨by decide, by decide⟩ (Nat.le_of_ble_eq_true rfl) rfl rfl dX6_findsWay_28 rfl ?_
    refine ww_if_eq 43 34 X dX6_findsWay_31 (by decide) rfl h (fun h => ?_) (fun h => ?_)
    · skip
      refine ww_iload_n 44 X dX6_findsWay_43 rfl rfl ?_
      refine ww_kill [1] (L' := [some (.ref (G.2.2.2 k)), none, some (.int w2)]) rfl ?_
      exact jw_X6_findsWay_44 X k hk w2 w1 σ h K
    · skip
      refine ww_aload_n 35 X dX6_findsWay_34 rfl rfl ?_
      refine ww_getr (ci := 6) (j := 10) 38 X cf_6 tw_X6_31 (by decide) rfl hk dX6_findsWay_35 rfl ?_
      refine ww_iload_n 39 X dX6_findsWay_38 rfl rfl ?_
      obtain ⟨v6, hv6, h⟩ := hb_bind_of h
      refine ww_iald 40 X (hm_kr_6_10 hk) hv6 dX6_findsWay_39 rfl ?_
      refine ww_goto 44 X dX6_findsWay_40 (by decide) ?_
      refine ww_kill [1] (L' := [some (.ref (G.2.2.2 k)), none, some (.int w2)]) rfl ?_
      exact jw_X6_findsWay_44 X k hk w2 v6 σ h K
def ll_X6_findsWay_14 (k : Nat) (σ : hb_Mem) : (Int32 × Int32) → Option Int32 := hb_lp (fun s => lb_X6_findsWay_14 k s.1 s.2 σ) hb_F
theorem lw_X6_findsWay_14 {Γ : hb_Ctx} {G : hb_Gam} {Q : State → Prop} (X : hb_X Γ cX6_findsWay 3 RX6 ΛM G 5 115)  (k : Nat) (hk : hb_is ΛM k 6) (σ : hb_Mem) (s : (Int32 × Int32)) (t : Int32) (h : ll_X6_findsWay_14 k σ s = some t) (K : (fun t : Int32 => hb_W Γ ΛM G 3 Q σ [some (.ref (G.2.2.2 k)), some (.int t), none] [] 51) t) : hb_W Γ ΛM G 3 Q σ [some (.ref (G.2.2.2 k)), some (.int s.1), some (.int s.2)] [] 14 :=
  hb_lp_w (P := fun s : (Int32 × Int32) => hb_W Γ ΛM G 3 Q σ [some (.ref (G.2.2.2 k)), some (.int s.1), some (.int s.2)] [] 14) (E := (fun t : Int32 => hb_W Γ ΛM G 3 Q σ [some (.ref (G.2.2.2 k)), some (.int t), none] [] 51)) (fun s x hx K => lk_X6_findsWay_14 X k hk s.1 s.2 σ hx K) _ s t h K
def lb_X6_findsWay_74 (k : Nat) (w1 : Int32) (w2 : Int32) (σ : hb_Mem) : Option ((Int32 × Int32 × hb_Mem) ⊕ hb_Mem) :=
if w2 < 0 then (
some (.inr σ))
else (
(hb_st ΛM σ (hm_rf k 14) w2 w1).bind fun σ11 =>
(hb_ld ΛM σ11 (hm_rf k 8) w1).bind fun v12 =>
hb_nm (w2 + (-1)) fun v13 =>
some (.inl (v12, v13, σ11)))
set_option maxRecDepth 100000 in
set_option maxHeartbeats 4000000 in
theorem lk_X6_findsWay_74 {Γ : hb_Ctx} {G : hb_Gam} {Q : State → Prop} (X : hb_X Γ cX6_findsWay 3 RX6 ΛM G 5 115)  (k : Nat) (hk : hb_is ΛM k 6) (w1 : Int32) (w2 : Int32) (σ : hb_Mem) {x : ((Int32 × Int32 × hb_Mem) ⊕ hb_Mem)} (h : lb_X6_findsWay_74 k w1 w2 σ = some x) (K : Sum.elim (fun s : (Int32 × Int32 × hb_Mem) => hb_W Γ ΛM G 3 Q s.2.2 [some (.ref (G.2.2.2 k)), some (.int s.1), some (.int s.2.1)] [] 74) (fun t : hb_Mem => hb_W Γ ΛM G 3 Q t [none, none, none] [] 98) x) : hb_W Γ ΛM G 3 Q σ [some (.ref (G.2.2.2 k)), some (.int w1), some (.int w2)] [] 74 := by
  unfold lb_X6_findsWay_74 at h
  refine ww_iload_n 75 X dX6_findsWay_74 rfl rfl ?_
  refine ww_if_lt 98 78 X dX6_findsWay_75 (by decide) rfl h (fun h => ?_) (fun h => ?_)
  · skip
    obtain rfl := Option.some.inj h
    refine ww_kill [0, 1, 2] (L' := [none, none, none]) rfl ?_
    exact K
  · skip
    refine ww_aload_n 79 X dX6_findsWay_78 rfl rfl ?_
    refine ww_getr (ci := 6) (j := 14) 82 X cf_6 tw_X6_40 (by decide) rfl hk dX6_findsWay_79 rfl ?_
    refine ww_iload_n 83 X dX6_findsWay_82 rfl rfl ?_
    refine ww_iload_n 84 X dX6_findsWay_83 rfl rfl ?_
    obtain ⟨σ11, hσ11, h⟩ := hb_bind_of h
    refine ww_iast 85 X (hm_kr_6_14 hk) hσ11 dX6_findsWay_84 rfl ?_
    refine ww_aload_n 86 X dX6_findsWay_85 rfl rfl ?_
    refine ww_getr (ci := 6) (j := 8) 89 X cf_6 tw_X6_25 (by decide) rfl hk dX6_findsWay_86 rfl ?_
    refine ww_iload_n 90 X dX6_findsWay_89 rfl rfl ?_
    obtain ⟨v12, hv12, h⟩ := hb_bind_of h
    refine ww_iald 91 X (hm_kr_6_8 hk) hv12 dX6_findsWay_90 rfl ?_
    refine ww_istore_n 92 X (L' := [some (.ref (G.2.2.2 k)), some (.int v12), some (.int w2)]) dX6_findsWay_91 rfl (Nat.le_of_ble_eq_true rfl) rfl ?_
    obtain ⟨v13, ev13, h⟩ := hb_nm_of h
    refine ww_iinc 95 X (L' := [some (.ref (G.2.2.2 k)), some (.int v12), some (.int v13)]) dX6_findsWay_92 rfl rfl ev13.symm rfl ?_
    refine ww_goto 74 X dX6_findsWay_95 (by decide) ?_
    obtain rfl := Option.some.inj h
    exact K
def ll_X6_findsWay_74 (k : Nat) : (Int32 × Int32 × hb_Mem) → Option hb_Mem := hb_lp (fun s => lb_X6_findsWay_74 k s.1 s.2.1 s.2.2) hb_F
theorem lw_X6_findsWay_74 {Γ : hb_Ctx} {G : hb_Gam} {Q : State → Prop} (X : hb_X Γ cX6_findsWay 3 RX6 ΛM G 5 115)  (k : Nat) (hk : hb_is ΛM k 6) (s : (Int32 × Int32 × hb_Mem)) (t : hb_Mem) (h : ll_X6_findsWay_74 k s = some t) (K : (fun t : hb_Mem => hb_W Γ ΛM G 3 Q t [none, none, none] [] 98) t) : hb_W Γ ΛM G 3 Q s.2.2 [some (.ref (G.2.2.2 k)), some (.int s.1), some (.int s.2.1)] [] 74 :=
  hb_lp_w (P := fun s : (Int32 × Int32 × hb_Mem) => hb_W Γ ΛM G 3 Q s.2.2 [some (.ref (G.2.2.2 k)), some (.int s.1), some (.int s.2.1)] [] 74) (E := (fun t : hb_Mem => hb_W Γ ΛM G 3 Q t [none, none, none] [] 98)) (fun s x hx K => lk_X6_findsWay_74 X k hk s.1 s.2.1 s.2.2 hx K) _ s t h K
def fn_X6_findsWay (k : Nat) (σ : hb_Mem) : Option (Int32 × hb_Mem) :=
(fn_X6_reaches k σ).bind fun x1 =>
hb_nm ((x1 k 11) - 1) fun v2 =>
(ll_X6_findsWay_14 k x1 ((-5), v2)).bind fun t7 =>
if t7 = (-5) then (
some (0, x1))
else (
(hb_ld ΛM x1 (hm_rf k 7) t7).bind fun v8 =>
hb_nm (hb_up x1 k 15 v8) fun σ9 =>
hb_nm (σ9 k 15) fun v10 =>
(ll_X6_findsWay_74 k (t7, v10, σ9)).bind fun t14 =>
some (1, t14))
set_option maxRecDepth 100000 in
set_option maxHeartbeats 4000000 in
theorem wk_X6_findsWay {Γ : hb_Ctx} {G : hb_Gam} {Q : State → Prop} (X : hb_X Γ cX6_findsWay 3 RX6 ΛM G 5 115) (hr : hb_ret Γ = (some .boolean)) (k : Nat) (hk : hb_is ΛM k 6) (σ : hb_Mem) {x : (Int32 × hb_Mem)} (h : fn_X6_findsWay k σ = some x) (K : Q = hb_Q Γ ΛM G (some (.int x.1)) x.2) : hb_W Γ ΛM G 3 Q σ [some (.ref (G.2.2.2 k)), none, none] [] 0 := by
  unfold fn_X6_findsWay at h
  refine ww_aload_n 1 X dX6_findsWay_0 rfl rfl ?_
  obtain ⟨x1, hx1, h⟩ := hb_bind_of h
  refine ww_callV (ci := 6) (rest := []) (st' := []) 4 X (ct_X6_reaches (hb_l Γ) G k hk σ hx1) cw_X6_96 rfl (by decide) hk rfl ⟨by decide, by decide⟩ (Nat.le_of_ble_eq_true rfl) rfl rfl dX6_findsWay_1 rfl ?_
  refine ww_bipush (v := (-5)) 6 X dX6_findsWay_4 rfl (by decide) ?_
  refine ww_istore_n 7 X (L' := [some (.ref (G.2.2.2 k)), some (.int (-5)), none]) dX6_findsWay_6 rfl (Nat.le_of_ble_eq_true rfl) rfl ?_
  refine ww_aload_n 8 X dX6_findsWay_7 rfl rfl ?_
  refine ww_geti (ci := 6) (j := 11) 11 X cf_6 tw_X6_76 (by decide) rfl hk dX6_findsWay_8 rfl ?_
  refine ww_iconst (v := 1) 12 X dX6_findsWay_11 rfl (by decide) ?_
  refine ww_isub 13 X dX6_findsWay_12 rfl ?_
  obtain ⟨v2, ev2, h⟩ := hb_nm_of h
  rw [← ev2]
  refine ww_istore_n 14 X (L' := [some (.ref (G.2.2.2 k)), some (.int (-5)), some (.int v2)]) dX6_findsWay_13 rfl (Nat.le_of_ble_eq_true rfl) rfl ?_
  obtain ⟨t7, ht7, h⟩ := hb_bind_of h
  refine lw_X6_findsWay_14 X k hk x1 ((-5), v2) t7 ht7 ?_
  refine ww_iload_n 52 X dX6_findsWay_51 rfl rfl ?_
  refine ww_bipush (v := (-5)) 54 X dX6_findsWay_52 rfl (by decide) ?_
  refine ww_icmp_ne 59 57 X dX6_findsWay_54 (by decide) rfl h (fun h => ?_) (fun h => ?_)
  · skip
    refine ww_iconst (v := 0) 58 X dX6_findsWay_57 rfl (by decide) ?_
    obtain rfl := Option.some.inj h
    exact ww_ret_z X hr (by decide) K dX6_findsWay_58
  · skip
    refine ww_aload_n 60 X dX6_findsWay_59 rfl rfl ?_
    refine ww_aload_n 61 X dX6_findsWay_60 rfl rfl ?_
    refine ww_getr (ci := 6) (j := 7) 64 X cf_6 tw_X6_22 (by decide) rfl hk dX6_findsWay_61 rfl ?_
    refine ww_iload_n 65 X dX6_findsWay_64 rfl rfl ?_
    obtain ⟨v8, hv8, h⟩ := hb_bind_of h
    refine ww_iald 66 X (hm_kr_6_7 hk) hv8 dX6_findsWay_65 rfl ?_
    obtain ⟨σ9, eσ9, h⟩ := hb_nm_of h
    refine ww_put (ci := 6) (j := 15) (ty := .int) 69 X cf_6 cg_6 tw_X6_184 (by decide) rfl rfl rfl rfl rfl hk eσ9.symm dX6_findsWay_66 rfl ?_
    refine ww_aload_n 70 X dX6_findsWay_69 rfl rfl ?_
    refine ww_geti (ci := 6) (j := 15) 73 X cf_6 tw_X6_184 (by decide) rfl hk dX6_findsWay_70 rfl ?_
    obtain ⟨v10, ev10, h⟩ := hb_nm_of h
    rw [← ev10]
    refine ww_istore_n 74 X (L' := [some (.ref (G.2.2.2 k)), some (.int t7), some (.int v10)]) dX6_findsWay_73 rfl (Nat.le_of_ble_eq_true rfl) rfl ?_
    obtain ⟨t14, ht14, h⟩ := hb_bind_of h
    refine lw_X6_findsWay_74 X k hk (t7, v10, σ9) t14 ht14 ?_
    refine ww_iconst (v := 1) 99 X dX6_findsWay_98 rfl (by decide) ?_
    obtain rfl := Option.some.inj h
    exact ww_ret_z X hr (by decide) K dX6_findsWay_99
theorem ct_X6_findsWay (l : Launch) (G : hb_Gam) (k : Nat) (hk : hb_is ΛM k 6) (σ : hb_Mem) {x : (Int32 × hb_Mem)} (h : fn_X6_findsWay k σ = some x) : hb_C l yX6_findsWay cX6_findsWay 3 (some .boolean) 5 115 ΛM G [.ref (G.2.2.2 k)] σ (some (.int x.1)) x.2 :=
  hb_C.of [some (.ref (G.2.2.2 k)), none, none] (by decide +kernel) (Nat.le_of_ble_eq_true rfl) (by intro v hv; simp only [List.mem_cons, List.not_mem_nil, or_false] at hv; subst hv; rfl) rfl (hb_pad [.ref (G.2.2.2 k)] 2) (fun Γ X hr => wk_X6_findsWay X hr k hk σ h rfl)
def fn_X6_way (k : Nat) (p1 : Int32) (p2 : Int32) (σ : hb_Mem) : Option (Int32 × hb_Mem) :=
if p1 < 0 then (
some ((-2), σ))
else (
(fn_X6_in p2 0 2).bind fun x1 =>
if x1 = 0 then (
some ((-2), σ))
else (
(fn_X6_findsWay k σ).bind fun x2 =>
if x2.1 = 0 then (
some ((-5), x2.2))
else (
if p1 ≤ (x2.2 k 15) then (
if p2 = 0 then (
(hb_ld ΛM x2.2 (hm_rf k 14) p1).bind fun v6 =>
some (v6 / 32, x2.2))
else (
if p2 = 1 then (
(hb_ld ΛM x2.2 (hm_rf k 14) p1).bind fun v5 =>
some (v5 - v5 / 32 * 32, x2.2))
else (
if p1 = (x2.2 k 15) then (
some ((-5), x2.2))
else (
(hb_ld ΛM x2.2 (hm_rf k 14) (p1 + 1)).bind fun v3 =>
(hb_ld ΛM x2.2 (hm_rf k 9) v3).bind fun v4 =>
some (v4, x2.2)))))
else (
some ((-5), x2.2)))))
set_option maxRecDepth 100000 in
set_option maxHeartbeats 4000000 in
theorem wk_X6_way {Γ : hb_Ctx} {G : hb_Gam} {Q : State → Prop} (X : hb_X Γ cX6_way 3 RX6 ΛM G 6 137) (hr : hb_ret Γ = (some .int)) (k : Nat) (hk : hb_is ΛM k 6) (p1 : Int32) (p2 : Int32) (σ : hb_Mem) {x : (Int32 × hb_Mem)} (h : fn_X6_way k p1 p2 σ = some x) (K : Q = hb_Q Γ ΛM G (some (.int x.1)) x.2) : hb_W Γ ΛM G 3 Q σ [some (.ref (G.2.2.2 k)), some (.int p1), some (.int p2)] [] 0 := by
  unfold fn_X6_way at h
  refine ww_iload_n 1 X dX6_way_0 rfl rfl ?_
  refine ww_if_lt 13 4 X dX6_way_1 (by decide) rfl h (fun h => ?_) (fun h => ?_)
  · skip
    refine ww_bipush (v := (-2)) 15 X dX6_way_13 rfl (by decide) ?_
    obtain rfl := Option.some.inj h
    exact ww_ret_i X hr K dX6_way_15
  · skip
    refine ww_iload_n 5 X dX6_way_4 rfl rfl ?_
    refine ww_iconst (v := 0) 6 X dX6_way_5 rfl (by decide) ?_
    refine ww_iconst (v := 2) 7 X dX6_way_6 rfl (by decide) ?_
    obtain ⟨x1, hx1, h⟩ := hb_bind_of h
    refine ww_callS (rest := []) (st' := [.int x1]) 10 X (ct_X6_in (hb_l Γ) G p2 0 2 σ hx1) cw_X6_50 rfl ⟨by decide, by decide⟩ (Nat.le_of_ble_eq_true rfl) rfl rfl dX6_way_7 rfl ?_
    refine ww_if_ne 16 13 X dX6_way_10 (by decide) rfl h (fun h => ?_) (fun h => ?_)
    · skip
      refine ww_bipush (v := (-2)) 15 X dX6_way_13 rfl (by decide) ?_
      obtain rfl := Option.some.inj h
      exact ww_ret_i X hr K dX6_way_15
    · skip
      refine ww_aload_n 17 X dX6_way_16 rfl rfl ?_
      obtain ⟨x2, hx2, h⟩ := hb_bind_of h
      refine ww_callV (ci := 6) (rest := []) (st' := [.int x2.1]) 20 X (ct_X6_findsWay (hb_l Γ) G k hk σ hx2) cw_X6_187 rfl (by decide) hk rfl ⟨by decide, by decide⟩ (Nat.le_of_ble_eq_true rfl) rfl rfl dX6_way_17 rfl ?_
      refine ww_if_eq 31 23 X dX6_way_20 (by decide) rfl h (fun h => ?_) (fun h => ?_)
      · skip
        refine ww_bipush (v := (-5)) 33 X dX6_way_31 rfl (by decide) ?_
        obtain rfl := Option.some.inj h
        exact ww_ret_i X hr K dX6_way_33
      · skip
        refine ww_iload_n 24 X dX6_way_23 rfl rfl ?_
        refine ww_aload_n 25 X dX6_way_24 rfl rfl ?_
        refine ww_geti (ci := 6) (j := 15) 28 X cf_6 tw_X6_184 (by decide) rfl hk dX6_way_25 rfl ?_
        refine ww_icmp_le 34 31 X dX6_way_28 (by decide) rfl h (fun h => ?_) (fun h => ?_)
        · skip
          refine ww_iload_n 35 X dX6_way_34 rfl rfl ?_
          refine ww_if_ne 50 38 X dX6_way_35 (by decide) rfl h (fun h => ?_) (fun h => ?_)
          · skip
            refine ww_aload_n 39 X dX6_way_38 rfl rfl ?_
            refine ww_getr (ci := 6) (j := 14) 42 X cf_6 tw_X6_40 (by decide) rfl hk dX6_way_39 rfl ?_
            refine ww_iload_n 43 X dX6_way_42 rfl rfl ?_
            obtain ⟨v6, hv6, h⟩ := hb_bind_of h
            refine ww_iald 44 X (hm_kr_6_14 hk) hv6 dX6_way_43 rfl ?_
            refine ww_bipush (v := 32) 46 X dX6_way_44 rfl (by decide) ?_
            refine ww_idiv 47 X dX6_way_46 rfl (by decide) ?_
            refine ww_goto 93 X dX6_way_47 (by decide) ?_
            obtain rfl := Option.some.inj h
            exact ww_ret_i X hr K dX6_way_93
          · skip
            refine ww_iload_n 51 X dX6_way_50 rfl rfl ?_
            refine ww_iconst (v := 1) 52 X dX6_way_51 rfl (by decide) ?_
            refine ww_icmp_ne 67 55 X dX6_way_52 (by decide) rfl h (fun h => ?_) (fun h => ?_)
            · skip
              refine ww_aload_n 56 X dX6_way_55 rfl rfl ?_
              refine ww_getr (ci := 6) (j := 14) 59 X cf_6 tw_X6_40 (by decide) rfl hk dX6_way_56 rfl ?_
              refine ww_iload_n 60 X dX6_way_59 rfl rfl ?_
              obtain ⟨v5, hv5, h⟩ := hb_bind_of h
              refine ww_iald 61 X (hm_kr_6_14 hk) hv5 dX6_way_60 rfl ?_
              refine ww_bipush (v := 32) 63 X dX6_way_61 rfl (by decide) ?_
              refine ww_irem 64 X dX6_way_63 rfl (by decide) ?_
              refine ww_goto 93 X dX6_way_64 (by decide) ?_
              obtain rfl := Option.some.inj h
              exact ww_ret_i X hr K dX6_way_93
            · skip
              refine ww_iload_n 68 X dX6_way_67 rfl rfl ?_
              refine ww_aload_n 69 X dX6_way_68 rfl rfl ?_
              refine ww_geti (ci := 6) (j := 15) 72 X cf_6 tw_X6_184 (by decide) rfl hk dX6_way_69 rfl ?_
              refine ww_icmp_ne 80 75 X dX6_way_72 (by decide) rfl h (fun h => ?_) (fun h => ?_)
              · skip
                refine ww_bipush (v := (-5)) 77 X dX6_way_75 rfl (by decide) ?_
                refine ww_goto 93 X dX6_way_77 (by decide) ?_
                obtain rfl := Option.some.inj h
                exact ww_ret_i X hr K dX6_way_93
              · skip
                refine ww_aload_n 81 X dX6_way_80 rfl rfl ?_
                refine ww_getr (ci := 6) (j := 9) 84 X cf_6 tw_X6_28 (by decide) rfl hk dX6_way_81 rfl ?_
                refine ww_aload_n 85 X dX6_way_84 rfl rfl ?_
                refine ww_getr (ci := 6) (j := 14) 88 X cf_6 tw_X6_40 (by decide) rfl hk dX6_way_85 rfl ?_
                refine ww_iload_n 89 X dX6_way_88 rfl rfl ?_
                refine ww_iconst (v := 1) 90 X dX6_way_89 rfl (by decide) ?_
                refine ww_iadd 91 X dX6_way_90 rfl ?_
                obtain ⟨v3, hv3, h⟩ := hb_bind_of h
                refine ww_iald 92 X (hm_kr_6_14 hk) hv3 dX6_way_91 rfl ?_
                obtain ⟨v4, hv4, h⟩ := hb_bind_of h
                refine ww_iald 93 X (hm_kr_6_9 hk) hv4 dX6_way_92 rfl ?_
                obtain rfl := Option.some.inj h
                exact ww_ret_i X hr K dX6_way_93
        · skip
          refine ww_bipush (v := (-5)) 33 X dX6_way_31 rfl (by decide) ?_
          obtain rfl := Option.some.inj h
          exact ww_ret_i X hr K dX6_way_33
theorem ct_X6_way (l : Launch) (G : hb_Gam) (k : Nat) (hk : hb_is ΛM k 6) (p1 : Int32) (p2 : Int32) (σ : hb_Mem) {x : (Int32 × hb_Mem)} (h : fn_X6_way k p1 p2 σ = some x) : hb_C l yX6_way cX6_way 3 (some .int) 6 137 ΛM G [.ref (G.2.2.2 k), .int p1, .int p2] σ (some (.int x.1)) x.2 :=
  hb_C.of [some (.ref (G.2.2.2 k)), some (.int p1), some (.int p2)] (by decide +kernel) (Nat.le_of_ble_eq_true rfl) (by intro v hv; simp only [List.mem_cons, List.not_mem_nil, or_false] at hv; rcases hv with rfl | rfl | rfl <;> rfl) rfl (hb_pad [.ref (G.2.2.2 k), .int p1, .int p2] 0) (fun Γ X hr => wk_X6_way X hr k hk p1 p2 σ h rfl)
def lb_X6_wayMood_14 (k : Nat) (w1 : UInt32) (w2 : Int32) (σ : hb_Mem) : Option ((UInt32 × Int32) ⊕ UInt32) :=
if (σ k 15) < w2 then (
some (.inr w1))
else (
(hb_ld ΛM σ (hm_rf k 14) w2).bind fun v2 =>
(fn_X6_mood k (v2 / 32) σ).bind fun x3 =>
(hb_nn (FP.fadd w1 x3)).bind fun z4 =>
hb_nm (w2 + 1) fun v5 =>
some (.inl (z4, v5)))
set_option maxRecDepth 100000 in
set_option maxHeartbeats 4000000 in
theorem lk_X6_wayMood_14 {Γ : hb_Ctx} {G : hb_Gam} {Q : State → Prop} (X : hb_X Γ cX6_wayMood 3 RX6 ΛM G 6 137)  (k : Nat) (hk : hb_is ΛM k 6) (w1 : UInt32) (w2 : Int32) (σ : hb_Mem) {x : ((UInt32 × Int32) ⊕ UInt32)} (h : lb_X6_wayMood_14 k w1 w2 σ = some x) (K : Sum.elim (fun s : (UInt32 × Int32) => hb_W Γ ΛM G 3 Q σ [some (.ref (G.2.2.2 k)), some (.float s.1), some (.int s.2)] [] 14) (fun t : UInt32 => hb_W Γ ΛM G 3 Q σ [none, some (.float t), none] [] 44) x) : hb_W Γ ΛM G 3 Q σ [some (.ref (G.2.2.2 k)), some (.float w1), some (.int w2)] [] 14 := by
  unfold lb_X6_wayMood_14 at h
  refine ww_iload_n 15 X dX6_wayMood_14 rfl rfl ?_
  refine ww_aload_n 16 X dX6_wayMood_15 rfl rfl ?_
  refine ww_geti (ci := 6) (j := 15) 19 X cf_6 tw_X6_184 (by decide) rfl hk dX6_wayMood_16 rfl ?_
  refine ww_icmp_gt 44 22 X dX6_wayMood_19 (by decide) rfl h (fun h => ?_) (fun h => ?_)
  · skip
    obtain rfl := Option.some.inj h
    refine ww_kill [0, 2] (L' := [none, some (.float w1), none]) rfl ?_
    exact K
  · skip
    refine ww_fload_n 23 X dX6_wayMood_22 rfl rfl ?_
    refine ww_aload_n 24 X dX6_wayMood_23 rfl rfl ?_
    refine ww_aload_n 25 X dX6_wayMood_24 rfl rfl ?_
    refine ww_getr (ci := 6) (j := 14) 28 X cf_6 tw_X6_40 (by decide) rfl hk dX6_wayMood_25 rfl ?_
    refine ww_iload_n 29 X dX6_wayMood_28 rfl rfl ?_
    obtain ⟨v2, hv2, h⟩ := hb_bind_of h
    refine ww_iald 30 X (hm_kr_6_14 hk) hv2 dX6_wayMood_29 rfl ?_
    refine ww_bipush (v := 32) 32 X dX6_wayMood_30 rfl (by decide) ?_
    refine ww_idiv 33 X dX6_wayMood_32 rfl (by decide) ?_
    obtain ⟨x3, hx3, h⟩ := hb_bind_of h
    refine ww_callV (ci := 6) (rest := [.float w1]) (st' := [.float x3, .float w1]) 36 X (ct_X6_mood (hb_l Γ) G k hk (v2 / 32) σ hx3) cw_X6_156 rfl (by decide) hk rfl ⟨by decide, by decide⟩ (Nat.le_of_ble_eq_true rfl) rfl rfl dX6_wayMood_33 rfl ?_
    obtain ⟨z4, hz4, h⟩ := hb_bind_of h
    refine ww_fadd 37 X dX6_wayMood_36 rfl hz4 ?_
    refine ww_fstore_n 38 X (L' := [some (.ref (G.2.2.2 k)), some (.float z4), some (.int w2)]) dX6_wayMood_37 rfl (Nat.le_of_ble_eq_true rfl) rfl ?_
    obtain ⟨v5, ev5, h⟩ := hb_nm_of h
    refine ww_iinc 41 X (L' := [some (.ref (G.2.2.2 k)), some (.float z4), some (.int v5)]) dX6_wayMood_38 rfl rfl ev5.symm rfl ?_
    refine ww_goto 14 X dX6_wayMood_41 (by decide) ?_
    obtain rfl := Option.some.inj h
    exact K
def ll_X6_wayMood_14 (k : Nat) (σ : hb_Mem) : (UInt32 × Int32) → Option UInt32 := hb_lp (fun s => lb_X6_wayMood_14 k s.1 s.2 σ) hb_F
theorem lw_X6_wayMood_14 {Γ : hb_Ctx} {G : hb_Gam} {Q : State → Prop} (X : hb_X Γ cX6_wayMood 3 RX6 ΛM G 6 137)  (k : Nat) (hk : hb_is ΛM k 6) (σ : hb_Mem) (s : (UInt32 × Int32)) (t : UInt32) (h : ll_X6_wayMood_14 k σ s = some t) (K : (fun t : UInt32 => hb_W Γ ΛM G 3 Q σ [none, some (.float t), none] [] 44) t) : hb_W Γ ΛM G 3 Q σ [some (.ref (G.2.2.2 k)), some (.float s.1), some (.int s.2)] [] 14 :=
  hb_lp_w (P := fun s : (UInt32 × Int32) => hb_W Γ ΛM G 3 Q σ [some (.ref (G.2.2.2 k)), some (.float s.1), some (.int s.2)] [] 14) (E := (fun t : UInt32 => hb_W Γ ΛM G 3 Q σ [none, some (.float t), none] [] 44)) (fun s x hx K => lk_X6_wayMood_14 X k hk s.1 s.2 σ hx K) _ s t h K
def fn_X6_wayMood (k : Nat) (σ : hb_Mem) : Option (Int32 × hb_Mem) :=
(fn_X6_findsWay k σ).bind fun x1 =>
if x1.1 = 0 then (
some ((-5), x1.2))
else (
(ll_X6_wayMood_14 k x1.2 (FP.fconst0, 0)).bind fun t6 =>
(fn_Jxf58ca_floatToIntBits_5c35a t6).bind fun x7 =>
some (x7, x1.2))
set_option maxRecDepth 100000 in
set_option maxHeartbeats 4000000 in
theorem wk_X6_wayMood {Γ : hb_Ctx} {G : hb_Gam} {Q : State → Prop} (X : hb_X Γ cX6_wayMood 3 RX6 ΛM G 6 137) (hr : hb_ret Γ = (some .int)) (k : Nat) (hk : hb_is ΛM k 6) (σ : hb_Mem) {x : (Int32 × hb_Mem)} (h : fn_X6_wayMood k σ = some x) (K : Q = hb_Q Γ ΛM G (some (.int x.1)) x.2) : hb_W Γ ΛM G 3 Q σ [some (.ref (G.2.2.2 k)), none, none] [] 0 := by
  unfold fn_X6_wayMood at h
  refine ww_aload_n 1 X dX6_wayMood_0 rfl rfl ?_
  obtain ⟨x1, hx1, h⟩ := hb_bind_of h
  refine ww_callV (ci := 6) (rest := []) (st' := [.int x1.1]) 4 X (ct_X6_findsWay (hb_l Γ) G k hk σ hx1) cw_X6_187 rfl (by decide) hk rfl ⟨by decide, by decide⟩ (Nat.le_of_ble_eq_true rfl) rfl rfl dX6_wayMood_1 rfl ?_
  refine ww_if_ne 10 7 X dX6_wayMood_4 (by decide) rfl h (fun h => ?_) (fun h => ?_)
  · skip
    refine ww_bipush (v := (-5)) 9 X dX6_wayMood_7 rfl (by decide) ?_
    obtain rfl := Option.some.inj h
    exact ww_ret_i X hr K dX6_wayMood_9
  · skip
    refine ww_fconst0 11 X dX6_wayMood_10 rfl ?_
    refine ww_fstore_n 12 X (L' := [some (.ref (G.2.2.2 k)), some (.float FP.fconst0), none]) dX6_wayMood_11 rfl (Nat.le_of_ble_eq_true rfl) rfl ?_
    refine ww_iconst (v := 0) 13 X dX6_wayMood_12 rfl (by decide) ?_
    refine ww_istore_n 14 X (L' := [some (.ref (G.2.2.2 k)), some (.float FP.fconst0), some (.int 0)]) dX6_wayMood_13 rfl (Nat.le_of_ble_eq_true rfl) rfl ?_
    obtain ⟨t6, ht6, h⟩ := hb_bind_of h
    refine lw_X6_wayMood_14 X k hk x1.2 (FP.fconst0, 0) t6 ht6 ?_
    refine ww_fload_n 45 X dX6_wayMood_44 rfl rfl ?_
    obtain ⟨x7, hx7, h⟩ := hb_bind_of h
    refine ww_callS (rest := []) (st' := [.int x7]) 48 X (ct_Jxf58ca_floatToIntBits_5c35a (hb_l Γ) G t6 x1.2 hx7) cw_X6_160 rfl ⟨by decide, by decide⟩ (Nat.le_of_ble_eq_true rfl) rfl rfl dX6_wayMood_45 rfl ?_
    obtain rfl := Option.some.inj h
    exact ww_ret_i X hr K dX6_wayMood_48
theorem ct_X6_wayMood (l : Launch) (G : hb_Gam) (k : Nat) (hk : hb_is ΛM k 6) (σ : hb_Mem) {x : (Int32 × hb_Mem)} (h : fn_X6_wayMood k σ = some x) : hb_C l yX6_wayMood cX6_wayMood 3 (some .int) 6 137 ΛM G [.ref (G.2.2.2 k)] σ (some (.int x.1)) x.2 :=
  hb_C.of [some (.ref (G.2.2.2 k)), none, none] (by decide +kernel) (Nat.le_of_ble_eq_true rfl) (by intro v hv; simp only [List.mem_cons, List.not_mem_nil, or_false] at hv; subst hv; rfl) rfl (hb_pad [.ref (G.2.2.2 k)] 2) (fun Γ X hr => wk_X6_wayMood X hr k hk σ h rfl)
def lb_X6_choices_4 (k : Nat) (w1 : Int32) (w2 : Int32) (σ : hb_Mem) : Option ((Int32 × Int32) ⊕ Int32) :=
(hb_ld ΛM σ (hm_rf k 0) 0).bind fun v1 =>
if v1 ≤ w2 then (
some (.inr w1))
else (
(fn_X6_of k w2 3 σ).bind fun x2 =>
hb_nm (w1 + x2) fun v3 =>
hb_nm (w2 + 1) fun v4 =>
some (.inl (v3, v4)))
set_option maxRecDepth 100000 in
set_option maxHeartbeats 4000000 in
theorem lk_X6_choices_4 {Γ : hb_Ctx} {G : hb_Gam} {Q : State → Prop} (X : hb_X Γ cX6_choices 3 RX6 ΛM G 1 22)  (k : Nat) (hk : hb_is ΛM k 6) (w1 : Int32) (w2 : Int32) (σ : hb_Mem) {x : ((Int32 × Int32) ⊕ Int32)} (h : lb_X6_choices_4 k w1 w2 σ = some x) (K : Sum.elim (fun s : (Int32 × Int32) => hb_W Γ ΛM G 3 Q σ [some (.ref (G.2.2.2 k)), some (.int s.1), some (.int s.2)] [] 4) (fun t : Int32 => hb_W Γ ΛM G 3 Q σ [none, some (.int t), none] [] 29) x) : hb_W Γ ΛM G 3 Q σ [some (.ref (G.2.2.2 k)), some (.int w1), some (.int w2)] [] 4 := by
  unfold lb_X6_choices_4 at h
  refine ww_iload_n 5 X dX6_choices_4 rfl rfl ?_
  refine ww_aload_n 6 X dX6_choices_5 rfl rfl ?_
  refine ww_getr (ci := 6) (j := 0) 9 X cf_6 tw_X6_7 (by decide) rfl hk dX6_choices_6 rfl ?_
  refine ww_iconst (v := 0) 10 X dX6_choices_9 rfl (by decide) ?_
  obtain ⟨v1, hv1, h⟩ := hb_bind_of h
  refine ww_iald 11 X (hm_kr_6_0 hk) hv1 dX6_choices_10 rfl ?_
  refine ww_icmp_ge 29 14 X dX6_choices_11 (by decide) rfl h (fun h => ?_) (fun h => ?_)
  · skip
    obtain rfl := Option.some.inj h
    refine ww_kill [0, 2] (L' := [none, some (.int w1), none]) rfl ?_
    exact K
  · skip
    refine ww_iload_n 15 X dX6_choices_14 rfl rfl ?_
    refine ww_aload_n 16 X dX6_choices_15 rfl rfl ?_
    refine ww_iload_n 17 X dX6_choices_16 rfl rfl ?_
    refine ww_iconst (v := 3) 18 X dX6_choices_17 rfl (by decide) ?_
    obtain ⟨x2, hx2, h⟩ := hb_bind_of h
    refine ww_callV (ci := 6) (rest := [.int w1]) (st' := [.int x2, .int w1]) 21 X (ct_X6_of (hb_l Γ) G k hk w2 3 σ hx2) cw_X6_62 rfl (by decide) hk rfl ⟨by decide, by decide⟩ (Nat.le_of_ble_eq_true rfl) rfl rfl dX6_choices_18 rfl ?_
    refine ww_iadd 22 X dX6_choices_21 rfl ?_
    obtain ⟨v3, ev3, h⟩ := hb_nm_of h
    rw [← ev3]
    refine ww_istore_n 23 X (L' := [some (.ref (G.2.2.2 k)), some (.int v3), some (.int w2)]) dX6_choices_22 rfl (Nat.le_of_ble_eq_true rfl) rfl ?_
    obtain ⟨v4, ev4, h⟩ := hb_nm_of h
    refine ww_iinc 26 X (L' := [some (.ref (G.2.2.2 k)), some (.int v3), some (.int v4)]) dX6_choices_23 rfl rfl ev4.symm rfl ?_
    refine ww_goto 4 X dX6_choices_26 (by decide) ?_
    obtain rfl := Option.some.inj h
    exact K
def ll_X6_choices_4 (k : Nat) (σ : hb_Mem) : (Int32 × Int32) → Option Int32 := hb_lp (fun s => lb_X6_choices_4 k s.1 s.2 σ) hb_F
theorem lw_X6_choices_4 {Γ : hb_Ctx} {G : hb_Gam} {Q : State → Prop} (X : hb_X Γ cX6_choices 3 RX6 ΛM G 1 22)  (k : Nat) (hk : hb_is ΛM k 6) (σ : hb_Mem) (s : (Int32 × Int32)) (t : Int32) (h : ll_X6_choices_4 k σ s = some t) (K : (fun t : Int32 => hb_W Γ ΛM G 3 Q σ [none, some (.int t), none] [] 29) t) : hb_W Γ ΛM G 3 Q σ [some (.ref (G.2.2.2 k)), some (.int s.1), some (.int s.2)] [] 4 :=
  hb_lp_w (P := fun s : (Int32 × Int32) => hb_W Γ ΛM G 3 Q σ [some (.ref (G.2.2.2 k)), some (.int s.1), some (.int s.2)] [] 4) (E := (fun t : Int32 => hb_W Γ ΛM G 3 Q σ [none, some (.int t), none] [] 29)) (fun s x hx K => lk_X6_choices_4 X k hk s.1 s.2 σ hx K) _ s t h K
def fn_X6_choices (k : Nat) (σ : hb_Mem) : Option Int32 :=
(ll_X6_choices_4 k σ (0, 0)).bind fun t5 =>
some t5
set_option maxRecDepth 100000 in
set_option maxHeartbeats 4000000 in
theorem wk_X6_choices {Γ : hb_Ctx} {G : hb_Gam} {Q : State → Prop} (X : hb_X Γ cX6_choices 3 RX6 ΛM G 1 22) (hr : hb_ret Γ = (some .int)) (k : Nat) (hk : hb_is ΛM k 6) (σ : hb_Mem) {x : Int32} (h : fn_X6_choices k σ = some x) (K : Q = hb_Q Γ ΛM G (some (.int x)) σ) : hb_W Γ ΛM G 3 Q σ [some (.ref (G.2.2.2 k)), none, none] [] 0 := by
  unfold fn_X6_choices at h
  refine ww_iconst (v := 0) 1 X dX6_choices_0 rfl (by decide) ?_
  refine ww_istore_n 2 X (L' := [some (.ref (G.2.2.2 k)), some (.int 0), none]) dX6_choices_1 rfl (Nat.le_of_ble_eq_true rfl) rfl ?_
  refine ww_iconst (v := 0) 3 X dX6_choices_2 rfl (by decide) ?_
  refine ww_istore_n 4 X (L' := [some (.ref (G.2.2.2 k)), some (.int 0), some (.int 0)]) dX6_choices_3 rfl (Nat.le_of_ble_eq_true rfl) rfl ?_
  obtain ⟨t5, ht5, h⟩ := hb_bind_of h
  refine lw_X6_choices_4 X k hk σ (0, 0) t5 ht5 ?_
  refine ww_iload_n 30 X dX6_choices_29 rfl rfl ?_
  obtain rfl := Option.some.inj h
  exact ww_ret_i X hr K dX6_choices_30
theorem ct_X6_choices (l : Launch) (G : hb_Gam) (k : Nat) (hk : hb_is ΛM k 6) (σ : hb_Mem) {x : Int32} (h : fn_X6_choices k σ = some x) : hb_C l yX6_choices cX6_choices 3 (some .int) 1 22 ΛM G [.ref (G.2.2.2 k)] σ (some (.int x)) σ :=
  hb_C.of [some (.ref (G.2.2.2 k)), none, none] (by decide +kernel) (Nat.le_of_ble_eq_true rfl) (by intro v hv; simp only [List.mem_cons, List.not_mem_nil, or_false] at hv; subst hv; rfl) rfl (hb_pad [.ref (G.2.2.2 k)] 2) (fun Γ X hr => wk_X6_choices X hr k hk σ h rfl)
def jn_X6_again_32 (k : Nat) (j2 : Int32) (s0 : Int32) (s1 : Int32) (σ : hb_Mem) : Option ((Int32 × Int32 × hb_Mem) ⊕ (Int32 × hb_Mem)) :=
hb_nm (s0 + s1) fun v4 =>
hb_nm (j2 + 1) fun v5 =>
some (.inl (v4, v5, σ))
set_option maxRecDepth 100000 in
set_option maxHeartbeats 4000000 in
theorem jw_X6_again_32 {Γ : hb_Ctx} {G : hb_Gam} {Q : State → Prop} (X : hb_X Γ cX6_again 3 RX6 ΛM G 6 136)  (k : Nat) (hk : hb_is ΛM k 6) (j2 : Int32) (s0 : Int32) (s1 : Int32) (σ : hb_Mem) {x : ((Int32 × Int32 × hb_Mem) ⊕ (Int32 × hb_Mem))} (h : jn_X6_again_32 k j2 s0 s1 σ = some x) (K : Sum.elim (fun s : (Int32 × Int32 × hb_Mem) => hb_W Γ ΛM G 3 Q s.2.2 [some (.ref (G.2.2.2 k)), some (.int s.1), some (.int s.2.1)] [] 8) (fun t : (Int32 × hb_Mem) => hb_W Γ ΛM G 3 Q t.2 [none, some (.int t.1), none] [] 40) x) : hb_W Γ ΛM G 3 Q σ [some (.ref (G.2.2.2 k)), none, some (.int j2)] [.int s1, .int s0] 32 := by
  unfold jn_X6_again_32 at h
  refine ww_iadd 33 X dX6_again_32 rfl ?_
  obtain ⟨v4, ev4, h⟩ := hb_nm_of h
  rw [← ev4]
  refine ww_istore_n 34 X (L' := [some (.ref (G.2.2.2 k)), some (.int v4), some (.int j2)]) dX6_again_33 rfl (Nat.le_of_ble_eq_true rfl) rfl ?_
  obtain ⟨v5, ev5, h⟩ := hb_nm_of h
  refine ww_iinc 37 X (L' := [some (.ref (G.2.2.2 k)), some (.int v4), some (.int v5)]) dX6_again_34 rfl rfl ev5.symm rfl ?_
  refine ww_goto 8 X dX6_again_37 (by decide) ?_
  obtain rfl := Option.some.inj h
  exact K
def lb_X6_again_8 (k : Nat) (w1 : Int32) (w2 : Int32) (σ : hb_Mem) : Option ((Int32 × Int32 × hb_Mem) ⊕ (Int32 × hb_Mem)) :=
(hb_ld ΛM σ (hm_rf k 0) 0).bind fun v2 =>
if v2 ≤ w2 then (
some (.inr (w1, σ)))
else (
(fn_X6_comesAgain k w2 σ).bind fun x3 =>
if x3.1 = 0 then (
jn_X6_again_32 k w2 w1 0 x3.2)
else (
jn_X6_again_32 k w2 w1 1 x3.2))
set_option maxRecDepth 100000 in
set_option maxHeartbeats 4000000 in
theorem lk_X6_again_8 {Γ : hb_Ctx} {G : hb_Gam} {Q : State → Prop} (X : hb_X Γ cX6_again 3 RX6 ΛM G 6 136)  (k : Nat) (hk : hb_is ΛM k 6) (w1 : Int32) (w2 : Int32) (σ : hb_Mem) {x : ((Int32 × Int32 × hb_Mem) ⊕ (Int32 × hb_Mem))} (h : lb_X6_again_8 k w1 w2 σ = some x) (K : Sum.elim (fun s : (Int32 × Int32 × hb_Mem) => hb_W Γ ΛM G 3 Q s.2.2 [some (.ref (G.2.2.2 k)), some (.int s.1), some (.int s.2.1)] [] 8) (fun t : (Int32 × hb_Mem) => hb_W Γ ΛM G 3 Q t.2 [none, some (.int t.1), none] [] 40) x) : hb_W Γ ΛM G 3 Q σ [some (.ref (G.2.2.2 k)), some (.int w1), some (.int w2)] [] 8 := by
  unfold lb_X6_again_8 at h
  refine ww_iload_n 9 X dX6_again_8 rfl rfl ?_
  refine ww_aload_n 10 X dX6_again_9 rfl rfl ?_
  refine ww_getr (ci := 6) (j := 0) 13 X cf_6 tw_X6_7 (by decide) rfl hk dX6_again_10 rfl ?_
  refine ww_iconst (v := 0) 14 X dX6_again_13 rfl (by decide) ?_
  obtain ⟨v2, hv2, h⟩ := hb_bind_of h
  refine ww_iald 15 X (hm_kr_6_0 hk) hv2 dX6_again_14 rfl ?_
  refine ww_icmp_ge 40 18 X dX6_again_15 (by decide) rfl h (fun h => ?_) (fun h => ?_)
  · skip
    obtain rfl := Option.some.inj h
    refine ww_kill [0, 2] (L' := [none, some (.int w1), none]) rfl ?_
    exact K
  · skip
    refine ww_iload_n 19 X dX6_again_18 rfl rfl ?_
    refine ww_aload_n 20 X dX6_again_19 rfl rfl ?_
    refine ww_iload_n 21 X dX6_again_20 rfl rfl ?_
    obtain ⟨x3, hx3, h⟩ := hb_bind_of h
    refine ww_callV (ci := 6) (rest := [.int w1]) (st' := [.int x3.1, .int w1]) 24 X (ct_X6_comesAgain (hb_l Γ) G k hk w2 σ hx3) cw_X6_172 rfl (by decide) hk rfl ⟨by decide, by decide⟩ (Nat.le_of_ble_eq_true rfl) rfl rfl dX6_again_21 rfl ?_
    refine ww_if_eq 31 27 X dX6_again_24 (by decide) rfl h (fun h => ?_) (fun h => ?_)
    · skip
      refine ww_iconst (v := 0) 32 X dX6_again_31 rfl (by decide) ?_
      refine ww_kill [1] (L' := [some (.ref (G.2.2.2 k)), none, some (.int w2)]) rfl ?_
      exact jw_X6_again_32 X k hk w2 w1 0 x3.2 h K
    · skip
      refine ww_iconst (v := 1) 28 X dX6_again_27 rfl (by decide) ?_
      refine ww_goto 32 X dX6_again_28 (by decide) ?_
      refine ww_kill [1] (L' := [some (.ref (G.2.2.2 k)), none, some (.int w2)]) rfl ?_
      exact jw_X6_again_32 X k hk w2 w1 1 x3.2 h K
def ll_X6_again_8 (k : Nat) : (Int32 × Int32 × hb_Mem) → Option (Int32 × hb_Mem) := hb_lp (fun s => lb_X6_again_8 k s.1 s.2.1 s.2.2) hb_F
theorem lw_X6_again_8 {Γ : hb_Ctx} {G : hb_Gam} {Q : State → Prop} (X : hb_X Γ cX6_again 3 RX6 ΛM G 6 136)  (k : Nat) (hk : hb_is ΛM k 6) (s : (Int32 × Int32 × hb_Mem)) (t : (Int32 × hb_Mem)) (h : ll_X6_again_8 k s = some t) (K : (fun t : (Int32 × hb_Mem) => hb_W Γ ΛM G 3 Q t.2 [none, some (.int t.1), none] [] 40) t) : hb_W Γ ΛM G 3 Q s.2.2 [some (.ref (G.2.2.2 k)), some (.int s.1), some (.int s.2.1)] [] 8 :=
  hb_lp_w (P := fun s : (Int32 × Int32 × hb_Mem) => hb_W Γ ΛM G 3 Q s.2.2 [some (.ref (G.2.2.2 k)), some (.int s.1), some (.int s.2.1)] [] 8) (E := (fun t : (Int32 × hb_Mem) => hb_W Γ ΛM G 3 Q t.2 [none, some (.int t.1), none] [] 40)) (fun s x hx K => lk_X6_again_8 X k hk s.1 s.2.1 s.2.2 hx K) _ s t h K
def fn_X6_again (k : Nat) (σ : hb_Mem) : Option (Int32 × hb_Mem) :=
(fn_X6_keepsPlaces k σ).bind fun x1 =>
(ll_X6_again_8 k (0, 0, x1)).bind fun t6 =>
some (t6.1, t6.2)
set_option maxRecDepth 100000 in
set_option maxHeartbeats 4000000 in
theorem wk_X6_again {Γ : hb_Ctx} {G : hb_Gam} {Q : State → Prop} (X : hb_X Γ cX6_again 3 RX6 ΛM G 6 136) (hr : hb_ret Γ = (some .int)) (k : Nat) (hk : hb_is ΛM k 6) (σ : hb_Mem) {x : (Int32 × hb_Mem)} (h : fn_X6_again k σ = some x) (K : Q = hb_Q Γ ΛM G (some (.int x.1)) x.2) : hb_W Γ ΛM G 3 Q σ [some (.ref (G.2.2.2 k)), none, none] [] 0 := by
  unfold fn_X6_again at h
  refine ww_aload_n 1 X dX6_again_0 rfl rfl ?_
  obtain ⟨x1, hx1, h⟩ := hb_bind_of h
  refine ww_callV (ci := 6) (rest := []) (st' := []) 4 X (ct_X6_keepsPlaces (hb_l Γ) G k hk σ hx1) cw_X6_99 rfl (by decide) hk rfl ⟨by decide, by decide⟩ (Nat.le_of_ble_eq_true rfl) rfl rfl dX6_again_1 rfl ?_
  refine ww_iconst (v := 0) 5 X dX6_again_4 rfl (by decide) ?_
  refine ww_istore_n 6 X (L' := [some (.ref (G.2.2.2 k)), some (.int 0), none]) dX6_again_5 rfl (Nat.le_of_ble_eq_true rfl) rfl ?_
  refine ww_iconst (v := 0) 7 X dX6_again_6 rfl (by decide) ?_
  refine ww_istore_n 8 X (L' := [some (.ref (G.2.2.2 k)), some (.int 0), some (.int 0)]) dX6_again_7 rfl (Nat.le_of_ble_eq_true rfl) rfl ?_
  obtain ⟨t6, ht6, h⟩ := hb_bind_of h
  refine lw_X6_again_8 X k hk (0, 0, x1) t6 ht6 ?_
  refine ww_iload_n 41 X dX6_again_40 rfl rfl ?_
  obtain rfl := Option.some.inj h
  exact ww_ret_i X hr K dX6_again_41
theorem ct_X6_again (l : Launch) (G : hb_Gam) (k : Nat) (hk : hb_is ΛM k 6) (σ : hb_Mem) {x : (Int32 × hb_Mem)} (h : fn_X6_again k σ = some x) : hb_C l yX6_again cX6_again 3 (some .int) 6 136 ΛM G [.ref (G.2.2.2 k)] σ (some (.int x.1)) x.2 :=
  hb_C.of [some (.ref (G.2.2.2 k)), none, none] (by decide +kernel) (Nat.le_of_ble_eq_true rfl) (by intro v hv; simp only [List.mem_cons, List.not_mem_nil, or_false] at hv; subst hv; rfl) rfl (hb_pad [.ref (G.2.2.2 k)] 2) (fun Γ X hr => wk_X6_again X hr k hk σ h rfl)
def jn_X6_pagesThere_67 (k : Nat) (p1 : Int32) (i2 : Int32) (i3 : Int32) (j5 : Int32) (s0 : Int32) (σ : hb_Mem) : Option ((Int32 × Int32) ⊕ Int32) :=
hb_nm (j5 + 1) fun v4 =>
some (.inl (s0, v4))
set_option maxRecDepth 100000 in
set_option maxHeartbeats 4000000 in
theorem jw_X6_pagesThere_67 {Γ : hb_Ctx} {G : hb_Gam} {Q : State → Prop} (X : hb_X Γ cX6_pagesThere 6 RX6 ΛM G 5 115)  (k : Nat) (hk : hb_is ΛM k 6) (p1 : Int32) (i2 : Int32) (i3 : Int32) (j5 : Int32) (s0 : Int32) (σ : hb_Mem) {x : ((Int32 × Int32) ⊕ Int32)} (h : jn_X6_pagesThere_67 k p1 i2 i3 j5 s0 σ = some x) (K : Sum.elim (fun s : (Int32 × Int32) => hb_W Γ ΛM G 6 Q σ [some (.ref (G.2.2.2 k)), some (.int p1), some (.int i2), some (.int i3), some (.int s.1), some (.int s.2)] [] 26) (fun t : Int32 => hb_W Γ ΛM G 6 Q σ [some (.ref (G.2.2.2 k)), some (.int p1), some (.int i2), some (.int i3), some (.int t), none] [] 75) x) : hb_W Γ ΛM G 6 Q σ [some (.ref (G.2.2.2 k)), some (.int p1), some (.int i2), some (.int i3), none, some (.int j5)] [.int s0] 67 := by
  unfold jn_X6_pagesThere_67 at h
  refine ww_istore 69 X (L' := [some (.ref (G.2.2.2 k)), some (.int p1), some (.int i2), some (.int i3), some (.int s0), some (.int j5)]) dX6_pagesThere_67 rfl (Nat.le_of_ble_eq_true rfl) rfl ?_
  obtain ⟨v4, ev4, h⟩ := hb_nm_of h
  refine ww_iinc 72 X (L' := [some (.ref (G.2.2.2 k)), some (.int p1), some (.int i2), some (.int i3), some (.int s0), some (.int v4)]) dX6_pagesThere_69 rfl rfl ev4.symm rfl ?_
  refine ww_goto 26 X dX6_pagesThere_72 (by decide) ?_
  obtain rfl := Option.some.inj h
  exact K
def lb_X6_pagesThere_26 (k : Nat) (p1 : Int32) (i2 : Int32) (i3 : Int32) (w4 : Int32) (w5 : Int32) (σ : hb_Mem) : Option ((Int32 × Int32) ⊕ Int32) :=
if 31 < w5 then (
some (.inr w4))
else (
(hb_ld ΛM σ (hm_rf k 7) (((32 : Int32) * i3) + w5)).bind fun v3 =>
if w4 ≤ v3 then (
jn_X6_pagesThere_67 k p1 i2 i3 w5 w4 σ)
else (
(hb_ld ΛM σ (hm_rf k 7) (((32 : Int32) * i3) + w5)).bind fun v5 =>
jn_X6_pagesThere_67 k p1 i2 i3 w5 v5 σ))
set_option maxRecDepth 100000 in
set_option maxHeartbeats 4000000 in
theorem lk_X6_pagesThere_26 {Γ : hb_Ctx} {G : hb_Gam} {Q : State → Prop} (X : hb_X Γ cX6_pagesThere 6 RX6 ΛM G 5 115)  (k : Nat) (hk : hb_is ΛM k 6) (p1 : Int32) (i2 : Int32) (i3 : Int32) (w4 : Int32) (w5 : Int32) (σ : hb_Mem) {x : ((Int32 × Int32) ⊕ Int32)} (h : lb_X6_pagesThere_26 k p1 i2 i3 w4 w5 σ = some x) (K : Sum.elim (fun s : (Int32 × Int32) => hb_W Γ ΛM G 6 Q σ [some (.ref (G.2.2.2 k)), some (.int p1), some (.int i2), some (.int i3), some (.int s.1), some (.int s.2)] [] 26) (fun t : Int32 => hb_W Γ ΛM G 6 Q σ [some (.ref (G.2.2.2 k)), some (.int p1), some (.int i2), some (.int i3), some (.int t), none] [] 75) x) : hb_W Γ ΛM G 6 Q σ [some (.ref (G.2.2.2 k)), some (.int p1), some (.int i2), some (.int i3), some (.int w4), some (.int w5)] [] 26 := by
  unfold lb_X6_pagesThere_26 at h
  refine ww_iload 28 X dX6_pagesThere_26 rfl rfl ?_
  refine ww_bipush (v := 31) 30 X dX6_pagesThere_28 rfl (by decide) ?_
  refine ww_icmp_gt 75 33 X dX6_pagesThere_30 (by decide) rfl h (fun h => ?_) (fun h => ?_)
  · skip
    obtain rfl := Option.some.inj h
    refine ww_kill [5] (L' := [some (.ref (G.2.2.2 k)), some (.int p1), some (.int i2), some (.int i3), some (.int w4), none]) rfl ?_
    exact K
  · skip
    refine ww_aload_n 34 X dX6_pagesThere_33 rfl rfl ?_
    refine ww_getr (ci := 6) (j := 7) 37 X cf_6 tw_X6_22 (by decide) rfl hk dX6_pagesThere_34 rfl ?_
    refine ww_bipush (v := 32) 39 X dX6_pagesThere_37 rfl (by decide) ?_
    refine ww_iload_n 40 X dX6_pagesThere_39 rfl rfl ?_
    refine ww_imul 41 X dX6_pagesThere_40 rfl ?_
    refine ww_iload 43 X dX6_pagesThere_41 rfl rfl ?_
    refine ww_iadd 44 X dX6_pagesThere_43 rfl ?_
    obtain ⟨v3, hv3, h⟩ := hb_bind_of h
    refine ww_iald 45 X (hm_kr_6_7 hk) hv3 dX6_pagesThere_44 rfl ?_
    refine ww_iload 47 X dX6_pagesThere_45 rfl rfl ?_
    refine ww_icmp_ge 65 50 X dX6_pagesThere_47 (by decide) rfl h (fun h => ?_) (fun h => ?_)
    · skip
      refine ww_iload 67 X dX6_pagesThere_65 rfl rfl ?_
      refine ww_kill [4] (L' := [some (.ref (G.2.2.2 k)), some (.int p1), some (.int i2), some (.int i3), none, some (.int w5)]) rfl ?_
      exact jw_X6_pagesThere_67 X k hk p1 i2 i3 w5 w4 σ h K
    · skip
      refine ww_aload_n 51 X dX6_pagesThere_50 rfl rfl ?_
      refine ww_getr (ci := 6) (j := 7) 54 X cf_6 tw_X6_22 (by decide) rfl hk dX6_pagesThere_51 rfl ?_
      refine ww_bipush (v := 32) 56 X dX6_pagesThere_54 rfl (by decide) ?_
      refine ww_iload_n 57 X dX6_pagesThere_56 rfl rfl ?_
      refine ww_imul 58 X dX6_pagesThere_57 rfl ?_
      refine ww_iload 60 X dX6_pagesThere_58 rfl rfl ?_
      refine ww_iadd 61 X dX6_pagesThere_60 rfl ?_
      obtain ⟨v5, hv5, h⟩ := hb_bind_of h
      refine ww_iald 62 X (hm_kr_6_7 hk) hv5 dX6_pagesThere_61 rfl ?_
      refine ww_goto 67 X dX6_pagesThere_62 (by decide) ?_
      refine ww_kill [4] (L' := [some (.ref (G.2.2.2 k)), some (.int p1), some (.int i2), some (.int i3), none, some (.int w5)]) rfl ?_
      exact jw_X6_pagesThere_67 X k hk p1 i2 i3 w5 v5 σ h K
def ll_X6_pagesThere_26 (k : Nat) (p1 : Int32) (i2 : Int32) (i3 : Int32) (σ : hb_Mem) : (Int32 × Int32) → Option Int32 := hb_lp (fun s => lb_X6_pagesThere_26 k p1 i2 i3 s.1 s.2 σ) hb_F
theorem lw_X6_pagesThere_26 {Γ : hb_Ctx} {G : hb_Gam} {Q : State → Prop} (X : hb_X Γ cX6_pagesThere 6 RX6 ΛM G 5 115)  (k : Nat) (hk : hb_is ΛM k 6) (p1 : Int32) (i2 : Int32) (i3 : Int32) (σ : hb_Mem) (s : (Int32 × Int32)) (t : Int32) (h : ll_X6_pagesThere_26 k p1 i2 i3 σ s = some t) (K : (fun t : Int32 => hb_W Γ ΛM G 6 Q σ [some (.ref (G.2.2.2 k)), some (.int p1), some (.int i2), some (.int i3), some (.int t), none] [] 75) t) : hb_W Γ ΛM G 6 Q σ [some (.ref (G.2.2.2 k)), some (.int p1), some (.int i2), some (.int i3), some (.int s.1), some (.int s.2)] [] 26 :=
  hb_lp_w (P := fun s : (Int32 × Int32) => hb_W Γ ΛM G 6 Q σ [some (.ref (G.2.2.2 k)), some (.int p1), some (.int i2), some (.int i3), some (.int s.1), some (.int s.2)] [] 26) (E := (fun t : Int32 => hb_W Γ ΛM G 6 Q σ [some (.ref (G.2.2.2 k)), some (.int p1), some (.int i2), some (.int i3), some (.int t), none] [] 75)) (fun s x hx K => lk_X6_pagesThere_26 X k hk p1 i2 i3 s.1 s.2 σ hx K) _ s t h K
def jn_X6_pagesThere_126 (k : Nat) (p1 : Int32) (j3 : Int32) (s0 : Int32) (s1 : Int32) (σ : hb_Mem) : Option ((Int32 × Int32) ⊕ Int32) :=
hb_nm (s0 + s1) fun v7 =>
hb_nm (j3 + 1) fun v8 =>
some (.inl (v7, v8))
set_option maxRecDepth 100000 in
set_option maxHeartbeats 4000000 in
theorem jw_X6_pagesThere_126 {Γ : hb_Ctx} {G : hb_Gam} {Q : State → Prop} (X : hb_X Γ cX6_pagesThere 6 RX6 ΛM G 5 115)  (k : Nat) (hk : hb_is ΛM k 6) (p1 : Int32) (j3 : Int32) (s0 : Int32) (s1 : Int32) (σ : hb_Mem) {x : ((Int32 × Int32) ⊕ Int32)} (h : jn_X6_pagesThere_126 k p1 j3 s0 s1 σ = some x) (K : Sum.elim (fun s : (Int32 × Int32) => hb_W Γ ΛM G 6 Q σ [some (.ref (G.2.2.2 k)), some (.int p1), some (.int s.1), some (.int s.2), none, none] [] 8) (fun t : Int32 => hb_W Γ ΛM G 6 Q σ [none, none, some (.int t), none, none, none] [] 134) x) : hb_W Γ ΛM G 6 Q σ [some (.ref (G.2.2.2 k)), some (.int p1), none, some (.int j3), none, none] [.int s1, .int s0] 126 := by
  unfold jn_X6_pagesThere_126 at h
  refine ww_iadd 127 X dX6_pagesThere_126 rfl ?_
  obtain ⟨v7, ev7, h⟩ := hb_nm_of h
  rw [← ev7]
  refine ww_istore_n 128 X (L' := [some (.ref (G.2.2.2 k)), some (.int p1), some (.int v7), some (.int j3), none, none]) dX6_pagesThere_127 rfl (Nat.le_of_ble_eq_true rfl) rfl ?_
  obtain ⟨v8, ev8, h⟩ := hb_nm_of h
  refine ww_iinc 131 X (L' := [some (.ref (G.2.2.2 k)), some (.int p1), some (.int v7), some (.int v8), none, none]) dX6_pagesThere_128 rfl rfl ev8.symm rfl ?_
  refine ww_goto 8 X dX6_pagesThere_131 (by decide) ?_
  obtain rfl := Option.some.inj h
  exact K
def jn_X6_pagesThere_125 (k : Nat) (p1 : Int32) (j3 : Int32) (s0 : Int32) (σ : hb_Mem) : Option ((Int32 × Int32) ⊕ Int32) :=
jn_X6_pagesThere_126 k p1 j3 s0 0 σ
set_option maxRecDepth 100000 in
set_option maxHeartbeats 4000000 in
theorem jw_X6_pagesThere_125 {Γ : hb_Ctx} {G : hb_Gam} {Q : State → Prop} (X : hb_X Γ cX6_pagesThere 6 RX6 ΛM G 5 115)  (k : Nat) (hk : hb_is ΛM k 6) (p1 : Int32) (j3 : Int32) (s0 : Int32) (σ : hb_Mem) {x : ((Int32 × Int32) ⊕ Int32)} (h : jn_X6_pagesThere_125 k p1 j3 s0 σ = some x) (K : Sum.elim (fun s : (Int32 × Int32) => hb_W Γ ΛM G 6 Q σ [some (.ref (G.2.2.2 k)), some (.int p1), some (.int s.1), some (.int s.2), none, none] [] 8) (fun t : Int32 => hb_W Γ ΛM G 6 Q σ [none, none, some (.int t), none, none, none] [] 134) x) : hb_W Γ ΛM G 6 Q σ [some (.ref (G.2.2.2 k)), some (.int p1), none, some (.int j3), none, none] [.int s0] 125 := by
  unfold jn_X6_pagesThere_125 at h
  refine ww_iconst (v := 0) 126 X dX6_pagesThere_125 rfl (by decide) ?_
  exact jw_X6_pagesThere_126 X k hk p1 j3 s0 0 σ h K
def jn_X6_pagesThere_105 (k : Nat) (p1 : Int32) (j2 : Int32) (j3 : Int32) (j4 : Int32) (s0 : Int32) (σ : hb_Mem) : Option ((Int32 × Int32) ⊕ Int32) :=
if s0 = 0 then (
jn_X6_pagesThere_125 k p1 j3 j2 σ)
else (
if 9999 ≤ j4 then (
jn_X6_pagesThere_125 k p1 j3 j2 σ)
else (
jn_X6_pagesThere_126 k p1 j3 j2 1 σ))
set_option maxRecDepth 100000 in
set_option maxHeartbeats 4000000 in
theorem jw_X6_pagesThere_105 {Γ : hb_Ctx} {G : hb_Gam} {Q : State → Prop} (X : hb_X Γ cX6_pagesThere 6 RX6 ΛM G 5 115)  (k : Nat) (hk : hb_is ΛM k 6) (p1 : Int32) (j2 : Int32) (j3 : Int32) (j4 : Int32) (s0 : Int32) (σ : hb_Mem) {x : ((Int32 × Int32) ⊕ Int32)} (h : jn_X6_pagesThere_105 k p1 j2 j3 j4 s0 σ = some x) (K : Sum.elim (fun s : (Int32 × Int32) => hb_W Γ ΛM G 6 Q σ [some (.ref (G.2.2.2 k)), some (.int p1), some (.int s.1), some (.int s.2), none, none] [] 8) (fun t : Int32 => hb_W Γ ΛM G 6 Q σ [none, none, some (.int t), none, none, none] [] 134) x) : hb_W Γ ΛM G 6 Q σ [some (.ref (G.2.2.2 k)), some (.int p1), some (.int j2), some (.int j3), some (.int j4), none] [.int s0] 105 := by
  unfold jn_X6_pagesThere_105 at h
  refine ww_istore 107 X (L' := [some (.ref (G.2.2.2 k)), some (.int p1), some (.int j2), some (.int j3), some (.int j4), some (.int s0)]) dX6_pagesThere_105 rfl (Nat.le_of_ble_eq_true rfl) rfl ?_
  refine ww_iload_n 108 X dX6_pagesThere_107 rfl rfl ?_
  refine ww_iload 110 X dX6_pagesThere_108 rfl rfl ?_
  refine ww_if_eq 125 113 X dX6_pagesThere_110 (by decide) rfl h (fun h => ?_) (fun h => ?_)
  · skip
    refine ww_kill [2, 4, 5] (L' := [some (.ref (G.2.2.2 k)), some (.int p1), none, some (.int j3), none, none]) rfl ?_
    exact jw_X6_pagesThere_125 X k hk p1 j3 j2 σ h K
  · skip
    refine ww_iload 115 X dX6_pagesThere_113 rfl rfl ?_
    refine ww_sipush (v := 9999) 118 X dX6_pagesThere_115 rfl (by decide) ?_
    refine ww_icmp_ge 125 121 X dX6_pagesThere_118 (by decide) rfl h (fun h => ?_) (fun h => ?_)
    · skip
      refine ww_kill [2, 4, 5] (L' := [some (.ref (G.2.2.2 k)), some (.int p1), none, some (.int j3), none, none]) rfl ?_
      exact jw_X6_pagesThere_125 X k hk p1 j3 j2 σ h K
    · skip
      refine ww_iconst (v := 1) 122 X dX6_pagesThere_121 rfl (by decide) ?_
      refine ww_goto 126 X dX6_pagesThere_122 (by decide) ?_
      refine ww_kill [2, 4, 5] (L' := [some (.ref (G.2.2.2 k)), some (.int p1), none, some (.int j3), none, none]) rfl ?_
      exact jw_X6_pagesThere_126 X k hk p1 j3 j2 1 σ h K
def jn_X6_pagesThere_100 (k : Nat) (p1 : Int32) (j2 : Int32) (j3 : Int32) (j4 : Int32) (σ : hb_Mem) : Option ((Int32 × Int32) ⊕ Int32) :=
jn_X6_pagesThere_105 k p1 j2 j3 j4 1 σ
set_option maxRecDepth 100000 in
set_option maxHeartbeats 4000000 in
theorem jw_X6_pagesThere_100 {Γ : hb_Ctx} {G : hb_Gam} {Q : State → Prop} (X : hb_X Γ cX6_pagesThere 6 RX6 ΛM G 5 115)  (k : Nat) (hk : hb_is ΛM k 6) (p1 : Int32) (j2 : Int32) (j3 : Int32) (j4 : Int32) (σ : hb_Mem) {x : ((Int32 × Int32) ⊕ Int32)} (h : jn_X6_pagesThere_100 k p1 j2 j3 j4 σ = some x) (K : Sum.elim (fun s : (Int32 × Int32) => hb_W Γ ΛM G 6 Q σ [some (.ref (G.2.2.2 k)), some (.int p1), some (.int s.1), some (.int s.2), none, none] [] 8) (fun t : Int32 => hb_W Γ ΛM G 6 Q σ [none, none, some (.int t), none, none, none] [] 134) x) : hb_W Γ ΛM G 6 Q σ [some (.ref (G.2.2.2 k)), some (.int p1), some (.int j2), some (.int j3), some (.int j4), none] [] 100 := by
  unfold jn_X6_pagesThere_100 at h
  refine ww_iconst (v := 1) 101 X dX6_pagesThere_100 rfl (by decide) ?_
  refine ww_goto 105 X dX6_pagesThere_101 (by decide) ?_
  exact jw_X6_pagesThere_105 X k hk p1 j2 j3 j4 1 σ h K
def jn_X6_pagesThere_104 (k : Nat) (p1 : Int32) (j2 : Int32) (j3 : Int32) (j4 : Int32) (σ : hb_Mem) : Option ((Int32 × Int32) ⊕ Int32) :=
jn_X6_pagesThere_105 k p1 j2 j3 j4 0 σ
set_option maxRecDepth 100000 in
set_option maxHeartbeats 4000000 in
theorem jw_X6_pagesThere_104 {Γ : hb_Ctx} {G : hb_Gam} {Q : State → Prop} (X : hb_X Γ cX6_pagesThere 6 RX6 ΛM G 5 115)  (k : Nat) (hk : hb_is ΛM k 6) (p1 : Int32) (j2 : Int32) (j3 : Int32) (j4 : Int32) (σ : hb_Mem) {x : ((Int32 × Int32) ⊕ Int32)} (h : jn_X6_pagesThere_104 k p1 j2 j3 j4 σ = some x) (K : Sum.elim (fun s : (Int32 × Int32) => hb_W Γ ΛM G 6 Q σ [some (.ref (G.2.2.2 k)), some (.int p1), some (.int s.1), some (.int s.2), none, none] [] 8) (fun t : Int32 => hb_W Γ ΛM G 6 Q σ [none, none, some (.int t), none, none, none] [] 134) x) : hb_W Γ ΛM G 6 Q σ [some (.ref (G.2.2.2 k)), some (.int p1), some (.int j2), some (.int j3), some (.int j4), none] [] 104 := by
  unfold jn_X6_pagesThere_104 at h
  refine ww_iconst (v := 0) 105 X dX6_pagesThere_104 rfl (by decide) ?_
  exact jw_X6_pagesThere_105 X k hk p1 j2 j3 j4 0 σ h K
def lb_X6_pagesThere_8 (k : Nat) (p1 : Int32) (w2 : Int32) (w3 : Int32) (σ : hb_Mem) : Option ((Int32 × Int32) ⊕ Int32) :=
(hb_ld ΛM σ (hm_rf k 0) 0).bind fun v2 =>
if v2 ≤ w3 then (
some (.inr w2))
else (
(ll_X6_pagesThere_26 k p1 w2 w3 σ (9999, 0)).bind fun t6 =>
if p1 = 0 then (
jn_X6_pagesThere_100 k p1 w2 w3 t6 σ)
else (
(fn_X6_isEnd k w3 σ).bind fun x9 =>
if x9 = 0 then (
jn_X6_pagesThere_104 k p1 w2 w3 t6 σ)
else (
if p1 = 1 then (
jn_X6_pagesThere_100 k p1 w2 w3 t6 σ)
else (
(fn_X6_isHappy k w3 σ).bind fun x10 =>
if x10 = 0 then (
jn_X6_pagesThere_104 k p1 w2 w3 t6 σ)
else (
jn_X6_pagesThere_100 k p1 w2 w3 t6 σ)))))
set_option maxRecDepth 100000 in
set_option maxHeartbeats 4000000 in
theorem lk_X6_pagesThere_8 {Γ : hb_Ctx} {G : hb_Gam} {Q : State → Prop} (X : hb_X Γ cX6_pagesThere 6 RX6 ΛM G 5 115)  (k : Nat) (hk : hb_is ΛM k 6) (p1 : Int32) (w2 : Int32) (w3 : Int32) (σ : hb_Mem) {x : ((Int32 × Int32) ⊕ Int32)} (h : lb_X6_pagesThere_8 k p1 w2 w3 σ = some x) (K : Sum.elim (fun s : (Int32 × Int32) => hb_W Γ ΛM G 6 Q σ [some (.ref (G.2.2.2 k)), some (.int p1), some (.int s.1), some (.int s.2), none, none] [] 8) (fun t : Int32 => hb_W Γ ΛM G 6 Q σ [none, none, some (.int t), none, none, none] [] 134) x) : hb_W Γ ΛM G 6 Q σ [some (.ref (G.2.2.2 k)), some (.int p1), some (.int w2), some (.int w3), none, none] [] 8 := by
  unfold lb_X6_pagesThere_8 at h
  refine ww_iload_n 9 X dX6_pagesThere_8 rfl rfl ?_
  refine ww_aload_n 10 X dX6_pagesThere_9 rfl rfl ?_
  refine ww_getr (ci := 6) (j := 0) 13 X cf_6 tw_X6_7 (by decide) rfl hk dX6_pagesThere_10 rfl ?_
  refine ww_iconst (v := 0) 14 X dX6_pagesThere_13 rfl (by decide) ?_
  obtain ⟨v2, hv2, h⟩ := hb_bind_of h
  refine ww_iald 15 X (hm_kr_6_0 hk) hv2 dX6_pagesThere_14 rfl ?_
  refine ww_icmp_ge 134 18 X dX6_pagesThere_15 (by decide) rfl h (fun h => ?_) (fun h => ?_)
  · skip
    obtain rfl := Option.some.inj h
    refine ww_kill [0, 1, 3] (L' := [none, none, some (.int w2), none, none, none]) rfl ?_
    exact K
  · skip
    refine ww_sipush (v := 9999) 21 X dX6_pagesThere_18 rfl (by decide) ?_
    refine ww_istore 23 X (L' := [some (.ref (G.2.2.2 k)), some (.int p1), some (.int w2), some (.int w3), some (.int 9999), none]) dX6_pagesThere_21 rfl (Nat.le_of_ble_eq_true rfl) rfl ?_
    refine ww_iconst (v := 0) 24 X dX6_pagesThere_23 rfl (by decide) ?_
    refine ww_istore 26 X (L' := [some (.ref (G.2.2.2 k)), some (.int p1), some (.int w2), some (.int w3), some (.int 9999), some (.int 0)]) dX6_pagesThere_24 rfl (Nat.le_of_ble_eq_true rfl) rfl ?_
    obtain ⟨t6, ht6, h⟩ := hb_bind_of h
    refine lw_X6_pagesThere_26 X k hk p1 w2 w3 σ (9999, 0) t6 ht6 ?_
    refine ww_iload_n 76 X dX6_pagesThere_75 rfl rfl ?_
    refine ww_if_eq 100 79 X dX6_pagesThere_76 (by decide) rfl h (fun h => ?_) (fun h => ?_)
    · skip
      exact jw_X6_pagesThere_100 X k hk p1 w2 w3 t6 σ h K
    · skip
      refine ww_aload_n 80 X dX6_pagesThere_79 rfl rfl ?_
      refine ww_iload_n 81 X dX6_pagesThere_80 rfl rfl ?_
      obtain ⟨x9, hx9, h⟩ := hb_bind_of h
      refine ww_callV (ci := 6) (rest := []) (st' := [.int x9]) 84 X (ct_X6_isEnd (hb_l Γ) G k hk w3 σ hx9) cw_X6_66 rfl (by decide) hk rfl ⟨by decide, by decide⟩ (Nat.le_of_ble_eq_true rfl) rfl rfl dX6_pagesThere_81 rfl ?_
      refine ww_if_eq 104 87 X dX6_pagesThere_84 (by decide) rfl h (fun h => ?_) (fun h => ?_)
      · skip
        exact jw_X6_pagesThere_104 X k hk p1 w2 w3 t6 σ h K
      · skip
        refine ww_iload_n 88 X dX6_pagesThere_87 rfl rfl ?_
        refine ww_iconst (v := 1) 89 X dX6_pagesThere_88 rfl (by decide) ?_
        refine ww_icmp_eq 100 92 X dX6_pagesThere_89 (by decide) rfl h (fun h => ?_) (fun h => ?_)
        · skip
          exact jw_X6_pagesThere_100 X k hk p1 w2 w3 t6 σ h K
        · skip
          refine ww_aload_n 93 X dX6_pagesThere_92 rfl rfl ?_
          refine ww_iload_n 94 X dX6_pagesThere_93 rfl rfl ?_
          obtain ⟨x10, hx10, h⟩ := hb_bind_of h
          refine ww_callV (ci := 6) (rest := []) (st' := [.int x10]) 97 X (ct_X6_isHappy (hb_l Γ) G k hk w3 σ hx10) cw_X6_166 rfl (by decide) hk rfl ⟨by decide, by decide⟩ (Nat.le_of_ble_eq_true rfl) rfl rfl dX6_pagesThere_94 rfl ?_
          refine ww_if_eq 104 100 X dX6_pagesThere_97 (by decide) rfl h (fun h => ?_) (fun h => ?_)
          · skip
            exact jw_X6_pagesThere_104 X k hk p1 w2 w3 t6 σ h K
          · skip
            exact jw_X6_pagesThere_100 X k hk p1 w2 w3 t6 σ h K
def ll_X6_pagesThere_8 (k : Nat) (p1 : Int32) (σ : hb_Mem) : (Int32 × Int32) → Option Int32 := hb_lp (fun s => lb_X6_pagesThere_8 k p1 s.1 s.2 σ) hb_F
theorem lw_X6_pagesThere_8 {Γ : hb_Ctx} {G : hb_Gam} {Q : State → Prop} (X : hb_X Γ cX6_pagesThere 6 RX6 ΛM G 5 115)  (k : Nat) (hk : hb_is ΛM k 6) (p1 : Int32) (σ : hb_Mem) (s : (Int32 × Int32)) (t : Int32) (h : ll_X6_pagesThere_8 k p1 σ s = some t) (K : (fun t : Int32 => hb_W Γ ΛM G 6 Q σ [none, none, some (.int t), none, none, none] [] 134) t) : hb_W Γ ΛM G 6 Q σ [some (.ref (G.2.2.2 k)), some (.int p1), some (.int s.1), some (.int s.2), none, none] [] 8 :=
  hb_lp_w (P := fun s : (Int32 × Int32) => hb_W Γ ΛM G 6 Q σ [some (.ref (G.2.2.2 k)), some (.int p1), some (.int s.1), some (.int s.2), none, none] [] 8) (E := (fun t : Int32 => hb_W Γ ΛM G 6 Q σ [none, none, some (.int t), none, none, none] [] 134)) (fun s x hx K => lk_X6_pagesThere_8 X k hk p1 s.1 s.2 σ hx K) _ s t h K
def fn_X6_pagesThere (k : Nat) (p1 : Int32) (σ : hb_Mem) : Option (Int32 × hb_Mem) :=
(fn_X6_reaches k σ).bind fun x1 =>
(ll_X6_pagesThere_8 k p1 x1 (0, 0)).bind fun t11 =>
some (t11, x1)
set_option maxRecDepth 100000 in
set_option maxHeartbeats 4000000 in
theorem wk_X6_pagesThere {Γ : hb_Ctx} {G : hb_Gam} {Q : State → Prop} (X : hb_X Γ cX6_pagesThere 6 RX6 ΛM G 5 115) (hr : hb_ret Γ = (some .int)) (k : Nat) (hk : hb_is ΛM k 6) (p1 : Int32) (σ : hb_Mem) {x : (Int32 × hb_Mem)} (h : fn_X6_pagesThere k p1 σ = some x) (K : Q = hb_Q Γ ΛM G (some (.int x.1)) x.2) : hb_W Γ ΛM G 6 Q σ [some (.ref (G.2.2.2 k)), some (.int p1), none, none, none, none] [] 0 := by
  unfold fn_X6_pagesThere at h
  refine ww_aload_n 1 X dX6_pagesThere_0 rfl rfl ?_
  obtain ⟨x1, hx1, h⟩ := hb_bind_of h
  refine ww_callV (ci := 6) (rest := []) (st' := []) 4 X (ct_X6_reaches (hb_l Γ) G k hk σ hx1) cw_X6_96 rfl (by decide) hk rfl ⟨by decide, by decide⟩ (Nat.le_of_ble_eq_true rfl) rfl rfl dX6_pagesThere_1 rfl ?_
  refine ww_iconst (v := 0) 5 X dX6_pagesThere_4 rfl (by decide) ?_
  refine ww_istore_n 6 X (L' := [some (.ref (G.2.2.2 k)), some (.int p1), some (.int 0), none, none, none]) dX6_pagesThere_5 rfl (Nat.le_of_ble_eq_true rfl) rfl ?_
  refine ww_iconst (v := 0) 7 X dX6_pagesThere_6 rfl (by decide) ?_
  refine ww_istore_n 8 X (L' := [some (.ref (G.2.2.2 k)), some (.int p1), some (.int 0), some (.int 0), none, none]) dX6_pagesThere_7 rfl (Nat.le_of_ble_eq_true rfl) rfl ?_
  obtain ⟨t11, ht11, h⟩ := hb_bind_of h
  refine lw_X6_pagesThere_8 X k hk p1 x1 (0, 0) t11 ht11 ?_
  refine ww_iload_n 135 X dX6_pagesThere_134 rfl rfl ?_
  obtain rfl := Option.some.inj h
  exact ww_ret_i X hr K dX6_pagesThere_135
theorem ct_X6_pagesThere (l : Launch) (G : hb_Gam) (k : Nat) (hk : hb_is ΛM k 6) (p1 : Int32) (σ : hb_Mem) {x : (Int32 × hb_Mem)} (h : fn_X6_pagesThere k p1 σ = some x) : hb_C l yX6_pagesThere cX6_pagesThere 6 (some .int) 5 115 ΛM G [.ref (G.2.2.2 k), .int p1] σ (some (.int x.1)) x.2 :=
  hb_C.of [some (.ref (G.2.2.2 k)), some (.int p1), none, none, none, none] (by decide +kernel) (Nat.le_of_ble_eq_true rfl) (by intro v hv; simp only [List.mem_cons, List.not_mem_nil, or_false] at hv; rcases hv with rfl | rfl <;> rfl) rfl (hb_pad [.ref (G.2.2.2 k), .int p1] 4) (fun Γ X hr => wk_X6_pagesThere X hr k hk p1 σ h rfl)
def fn_X6_places (k : Nat) (σ : hb_Mem) : Option (Int32 × hb_Mem) :=
(fn_X6_reaches k σ).bind fun x1 =>
some (x1 k 11, x1)
set_option maxRecDepth 100000 in
set_option maxHeartbeats 4000000 in
theorem wk_X6_places {Γ : hb_Ctx} {G : hb_Gam} {Q : State → Prop} (X : hb_X Γ cX6_places 1 RX6 ΛM G 5 115) (hr : hb_ret Γ = (some .int)) (k : Nat) (hk : hb_is ΛM k 6) (σ : hb_Mem) {x : (Int32 × hb_Mem)} (h : fn_X6_places k σ = some x) (K : Q = hb_Q Γ ΛM G (some (.int x.1)) x.2) : hb_W Γ ΛM G 1 Q σ [some (.ref (G.2.2.2 k))] [] 0 := by
  unfold fn_X6_places at h
  refine ww_aload_n 1 X dX6_places_0 rfl rfl ?_
  obtain ⟨x1, hx1, h⟩ := hb_bind_of h
  refine ww_callV (ci := 6) (rest := []) (st' := []) 4 X (ct_X6_reaches (hb_l Γ) G k hk σ hx1) cw_X6_96 rfl (by decide) hk rfl ⟨by decide, by decide⟩ (Nat.le_of_ble_eq_true rfl) rfl rfl dX6_places_1 rfl ?_
  refine ww_aload_n 5 X dX6_places_4 rfl rfl ?_
  refine ww_geti (ci := 6) (j := 11) 8 X cf_6 tw_X6_76 (by decide) rfl hk dX6_places_5 rfl ?_
  obtain rfl := Option.some.inj h
  exact ww_ret_i X hr K dX6_places_8
theorem ct_X6_places (l : Launch) (G : hb_Gam) (k : Nat) (hk : hb_is ΛM k 6) (σ : hb_Mem) {x : (Int32 × hb_Mem)} (h : fn_X6_places k σ = some x) : hb_C l yX6_places cX6_places 1 (some .int) 5 115 ΛM G [.ref (G.2.2.2 k)] σ (some (.int x.1)) x.2 :=
  hb_C.of [some (.ref (G.2.2.2 k))] (by decide +kernel) (Nat.le_of_ble_eq_true rfl) (by intro v hv; simp only [List.mem_cons, List.not_mem_nil, or_false] at hv; subst hv; rfl) rfl (hb_pad [.ref (G.2.2.2 k)] 0) (fun Γ X hr => wk_X6_places X hr k hk σ h rfl)
def fn_X6_count (k : Nat) (p1 : Int32) (σ : hb_Mem) : Option (Int32 × hb_Mem) :=
if p1 = 0 then (
(hb_ld ΛM σ (hm_rf k 0) 0).bind fun v1 =>
some (v1, σ))
else if p1 = 1 then (
(fn_X6_choices k σ).bind fun x2 =>
some (x2, σ))
else if p1 = 2 then (
(hb_ld ΛM σ (hm_rf k 0) 0).bind fun v3 =>
(fn_X6_pagesThere k 0 σ).bind fun x4 =>
some (v3 - x4.1, x4.2))
else if p1 = 3 then (
(fn_X6_again k σ).bind fun x5 =>
some (x5.1, x5.2))
else if p1 = 4 then (
(fn_X6_stuckIn k 0 1023 σ).bind fun x6 =>
some (x6.1, x6.2))
else if p1 = 5 then (
(fn_X6_places k σ).bind fun x7 =>
some (x7.1, x7.2))
else if p1 = 6 then (
(fn_X6_pagesThere k (p1 - 5) σ).bind fun x8 =>
some (x8.1, x8.2))
else if p1 = 7 then (
(fn_X6_pagesThere k (p1 - 5) σ).bind fun x9 =>
some (x9.1, x9.2))
else if p1 = 8 then (
(fn_X6_findsWay k σ).bind fun x10 =>
if x10.1 = 0 then (
some ((-5), x10.2))
else (
some (x10.2 k 15, x10.2)))
else if p1 = 9 then (
(hb_ld ΛM σ (hm_rf k 0) 423).bind fun v11 =>
if v11 = (-5) then (
some (0, σ))
else (
some (1, σ)))
else if p1 = 10 then (
some (σ k 4, σ))
else if p1 = 11 then (
some (σ k 6, σ))
else (
some ((-2), σ))
set_option maxRecDepth 100000 in
set_option maxHeartbeats 4000000 in
theorem wk_X6_count {Γ : hb_Ctx} {G : hb_Gam} {Q : State → Prop} (X : hb_X Γ cX6_count 2 RX6 ΛM G 8 182) (hr : hb_ret Γ = (some .int)) (k : Nat) (hk : hb_is ΛM k 6) (p1 : Int32) (σ : hb_Mem) {x : (Int32 × hb_Mem)} (h : fn_X6_count k p1 σ = some x) (K : Q = hb_Q Γ ΛM G (some (.int x.1)) x.2) : hb_W Γ ΛM G 2 Q σ [some (.ref (G.2.2.2 k)), some (.int p1)] [] 0 := by
  unfold fn_X6_count at h
  refine ww_iload_n 1 X dX6_count_0 rfl rfl ?_
  by_cases c0 : p1 = 0
  · rw [if_pos c0] at h
    refine ww_tabIn (63) 64 X dX6_count_1 (by rw [c0]; decide) (by rw [c0]; decide) (by rw [c0]; rfl) (by decide) ?_
    refine ww_aload_n 65 X dX6_count_64 rfl rfl ?_
    refine ww_getr (ci := 6) (j := 0) 68 X cf_6 tw_X6_7 (by decide) rfl hk dX6_count_65 rfl ?_
    refine ww_iconst (v := 0) 69 X dX6_count_68 rfl (by decide) ?_
    obtain ⟨v1, hv1, h⟩ := hb_bind_of h
    refine ww_iald 70 X (hm_kr_6_0 hk) hv1 dX6_count_69 rfl ?_
    obtain rfl := Option.some.inj h
    exact ww_ret_i X hr K dX6_count_70
  rw [if_neg c0] at h
  by_cases c1 : p1 = 1
  · rw [if_pos c1] at h
    refine ww_tabIn (70) 71 X dX6_count_1 (by rw [c1]; decide) (by rw [c1]; decide) (by rw [c1]; rfl) (by decide) ?_
    refine ww_aload_n 72 X dX6_count_71 rfl rfl ?_
    obtain ⟨x2, hx2, h⟩ := hb_bind_of h
    refine ww_callV (ci := 6) (rest := []) (st' := [.int x2]) 75 X (ct_X6_choices (hb_l Γ) G k hk σ hx2) cw_X6_191 rfl (by decide) hk rfl ⟨by decide, by decide⟩ (Nat.le_of_ble_eq_true rfl) rfl rfl dX6_count_72 rfl ?_
    obtain rfl := Option.some.inj h
    exact ww_ret_i X hr K dX6_count_75
  rw [if_neg c1] at h
  by_cases c2 : p1 = 2
  · rw [if_pos c2] at h
    refine ww_tabIn (75) 76 X dX6_count_1 (by rw [c2]; decide) (by rw [c2]; decide) (by rw [c2]; rfl) (by decide) ?_
    refine ww_aload_n 77 X dX6_count_76 rfl rfl ?_
    refine ww_getr (ci := 6) (j := 0) 80 X cf_6 tw_X6_7 (by decide) rfl hk dX6_count_77 rfl ?_
    refine ww_iconst (v := 0) 81 X dX6_count_80 rfl (by decide) ?_
    obtain ⟨v3, hv3, h⟩ := hb_bind_of h
    refine ww_iald 82 X (hm_kr_6_0 hk) hv3 dX6_count_81 rfl ?_
    refine ww_aload_n 83 X dX6_count_82 rfl rfl ?_
    refine ww_iconst (v := 0) 84 X dX6_count_83 rfl (by decide) ?_
    obtain ⟨x4, hx4, h⟩ := hb_bind_of h
    refine ww_callV (ci := 6) (rest := [.int v3]) (st' := [.int x4.1, .int v3]) 87 X (ct_X6_pagesThere (hb_l Γ) G k hk 0 σ hx4) cw_X6_194 rfl (by decide) hk rfl ⟨by decide, by decide⟩ (Nat.le_of_ble_eq_true rfl) rfl rfl dX6_count_84 rfl ?_
    refine ww_isub 88 X dX6_count_87 rfl ?_
    obtain rfl := Option.some.inj h
    exact ww_ret_i X hr K dX6_count_88
  rw [if_neg c2] at h
  by_cases c3 : p1 = 3
  · rw [if_pos c3] at h
    refine ww_tabIn (88) 89 X dX6_count_1 (by rw [c3]; decide) (by rw [c3]; decide) (by rw [c3]; rfl) (by decide) ?_
    refine ww_aload_n 90 X dX6_count_89 rfl rfl ?_
    obtain ⟨x5, hx5, h⟩ := hb_bind_of h
    refine ww_callV (ci := 6) (rest := []) (st' := [.int x5.1]) 93 X (ct_X6_again (hb_l Γ) G k hk σ hx5) cw_X6_197 rfl (by decide) hk rfl ⟨by decide, by decide⟩ (Nat.le_of_ble_eq_true rfl) rfl rfl dX6_count_90 rfl ?_
    obtain rfl := Option.some.inj h
    exact ww_ret_i X hr K dX6_count_93
  rw [if_neg c3] at h
  by_cases c4 : p1 = 4
  · rw [if_pos c4] at h
    refine ww_tabIn (93) 94 X dX6_count_1 (by rw [c4]; decide) (by rw [c4]; decide) (by rw [c4]; rfl) (by decide) ?_
    refine ww_aload_n 95 X dX6_count_94 rfl rfl ?_
    refine ww_iconst (v := 0) 96 X dX6_count_95 rfl (by decide) ?_
    refine ww_sipush (v := 1023) 99 X dX6_count_96 rfl (by decide) ?_
    obtain ⟨x6, hx6, h⟩ := hb_bind_of h
    refine ww_callV (ci := 6) (rest := []) (st' := [.int x6.1]) 102 X (ct_X6_stuckIn (hb_l Γ) G k hk 0 1023 σ hx6) cw_X6_175 rfl (by decide) hk rfl ⟨by decide, by decide⟩ (Nat.le_of_ble_eq_true rfl) rfl rfl dX6_count_99 rfl ?_
    obtain rfl := Option.some.inj h
    exact ww_ret_i X hr K dX6_count_102
  rw [if_neg c4] at h
  by_cases c5 : p1 = 5
  · rw [if_pos c5] at h
    refine ww_tabIn (102) 103 X dX6_count_1 (by rw [c5]; decide) (by rw [c5]; decide) (by rw [c5]; rfl) (by decide) ?_
    refine ww_aload_n 104 X dX6_count_103 rfl rfl ?_
    obtain ⟨x7, hx7, h⟩ := hb_bind_of h
    refine ww_callV (ci := 6) (rest := []) (st' := [.int x7.1]) 107 X (ct_X6_places (hb_l Γ) G k hk σ hx7) cw_X6_200 rfl (by decide) hk rfl ⟨by decide, by decide⟩ (Nat.le_of_ble_eq_true rfl) rfl rfl dX6_count_104 rfl ?_
    obtain rfl := Option.some.inj h
    exact ww_ret_i X hr K dX6_count_107
  rw [if_neg c5] at h
  by_cases c6 : p1 = 6
  · rw [if_pos c6] at h
    refine ww_tabIn (107) 108 X dX6_count_1 (by rw [c6]; decide) (by rw [c6]; decide) (by rw [c6]; rfl) (by decide) ?_
    refine ww_aload_n 109 X dX6_count_108 rfl rfl ?_
    refine ww_iload_n 110 X dX6_count_109 rfl rfl ?_
    refine ww_iconst (v := 5) 111 X dX6_count_110 rfl (by decide) ?_
    refine ww_isub 112 X dX6_count_111 rfl ?_
    obtain ⟨x8, hx8, h⟩ := hb_bind_of h
    refine ww_callV (ci := 6) (rest := []) (st' := [.int x8.1]) 115 X (ct_X6_pagesThere (hb_l Γ) G k hk (p1 - 5) σ hx8) cw_X6_194 rfl (by decide) hk rfl ⟨by decide, by decide⟩ (Nat.le_of_ble_eq_true rfl) rfl rfl dX6_count_112 rfl ?_
    obtain rfl := Option.some.inj h
    exact ww_ret_i X hr K dX6_count_115
  rw [if_neg c6] at h
  by_cases c7 : p1 = 7
  · rw [if_pos c7] at h
    refine ww_tabIn (107) 108 X dX6_count_1 (by rw [c7]; decide) (by rw [c7]; decide) (by rw [c7]; rfl) (by decide) ?_
    refine ww_aload_n 109 X dX6_count_108 rfl rfl ?_
    refine ww_iload_n 110 X dX6_count_109 rfl rfl ?_
    refine ww_iconst (v := 5) 111 X dX6_count_110 rfl (by decide) ?_
    refine ww_isub 112 X dX6_count_111 rfl ?_
    obtain ⟨x9, hx9, h⟩ := hb_bind_of h
    refine ww_callV (ci := 6) (rest := []) (st' := [.int x9.1]) 115 X (ct_X6_pagesThere (hb_l Γ) G k hk (p1 - 5) σ hx9) cw_X6_194 rfl (by decide) hk rfl ⟨by decide, by decide⟩ (Nat.le_of_ble_eq_true rfl) rfl rfl dX6_count_112 rfl ?_
    obtain rfl := Option.some.inj h
    exact ww_ret_i X hr K dX6_count_115
  rw [if_neg c7] at h
  by_cases c8 : p1 = 8
  · rw [if_pos c8] at h
    refine ww_tabIn (115) 116 X dX6_count_1 (by rw [c8]; decide) (by rw [c8]; decide) (by rw [c8]; rfl) (by decide) ?_
    refine ww_aload_n 117 X dX6_count_116 rfl rfl ?_
    obtain ⟨x10, hx10, h⟩ := hb_bind_of h
    refine ww_callV (ci := 6) (rest := []) (st' := [.int x10.1]) 120 X (ct_X6_findsWay (hb_l Γ) G k hk σ hx10) cw_X6_187 rfl (by decide) hk rfl ⟨by decide, by decide⟩ (Nat.le_of_ble_eq_true rfl) rfl rfl dX6_count_117 rfl ?_
    refine ww_if_eq 130 123 X dX6_count_120 (by decide) rfl h (fun h => ?_) (fun h => ?_)
    · skip
      refine ww_bipush (v := (-5)) 132 X dX6_count_130 rfl (by decide) ?_
      obtain rfl := Option.some.inj h
      exact ww_ret_i X hr K dX6_count_132
    · skip
      refine ww_aload_n 124 X dX6_count_123 rfl rfl ?_
      refine ww_geti (ci := 6) (j := 15) 127 X cf_6 tw_X6_184 (by decide) rfl hk dX6_count_124 rfl ?_
      refine ww_goto 132 X dX6_count_127 (by decide) ?_
      obtain rfl := Option.some.inj h
      exact ww_ret_i X hr K dX6_count_132
  rw [if_neg c8] at h
  by_cases c9 : p1 = 9
  · rw [if_pos c9] at h
    refine ww_tabIn (132) 133 X dX6_count_1 (by rw [c9]; decide) (by rw [c9]; decide) (by rw [c9]; rfl) (by decide) ?_
    refine ww_aload_n 134 X dX6_count_133 rfl rfl ?_
    refine ww_getr (ci := 6) (j := 0) 137 X cf_6 tw_X6_7 (by decide) rfl hk dX6_count_134 rfl ?_
    refine ww_sipush (v := 423) 140 X dX6_count_137 rfl (by decide) ?_
    obtain ⟨v11, hv11, h⟩ := hb_bind_of h
    refine ww_iald 141 X (hm_kr_6_0 hk) hv11 dX6_count_140 rfl ?_
    refine ww_bipush (v := (-5)) 143 X dX6_count_141 rfl (by decide) ?_
    refine ww_icmp_ne 150 146 X dX6_count_143 (by decide) rfl h (fun h => ?_) (fun h => ?_)
    · skip
      refine ww_iconst (v := 0) 147 X dX6_count_146 rfl (by decide) ?_
      refine ww_goto 151 X dX6_count_147 (by decide) ?_
      obtain rfl := Option.some.inj h
      exact ww_ret_i X hr K dX6_count_151
    · skip
      refine ww_iconst (v := 1) 151 X dX6_count_150 rfl (by decide) ?_
      obtain rfl := Option.some.inj h
      exact ww_ret_i X hr K dX6_count_151
  rw [if_neg c9] at h
  by_cases c10 : p1 = 10
  · rw [if_pos c10] at h
    refine ww_tabIn (151) 152 X dX6_count_1 (by rw [c10]; decide) (by rw [c10]; decide) (by rw [c10]; rfl) (by decide) ?_
    refine ww_aload_n 153 X dX6_count_152 rfl rfl ?_
    refine ww_geti (ci := 6) (j := 4) 156 X cf_6 tw_X6_46 (by decide) rfl hk dX6_count_153 rfl ?_
    obtain rfl := Option.some.inj h
    exact ww_ret_i X hr K dX6_count_156
  rw [if_neg c10] at h
  by_cases c11 : p1 = 11
  · rw [if_pos c11] at h
    refine ww_tabIn (156) 157 X dX6_count_1 (by rw [c11]; decide) (by rw [c11]; decide) (by rw [c11]; rfl) (by decide) ?_
    refine ww_aload_n 158 X dX6_count_157 rfl rfl ?_
    refine ww_geti (ci := 6) (j := 6) 161 X cf_6 tw_X6_203 (by decide) rfl hk dX6_count_158 rfl ?_
    obtain rfl := Option.some.inj h
    exact ww_ret_i X hr K dX6_count_161
  rw [if_neg c11] at h
  refine ww_tabOut 162 X dX6_count_1 (by have := hb_ne_toInt c0 (c := 0) rfl; have := hb_ne_toInt c1 (c := 1) rfl; have := hb_ne_toInt c2 (c := 2) rfl; have := hb_ne_toInt c3 (c := 3) rfl; have := hb_ne_toInt c4 (c := 4) rfl; have := hb_ne_toInt c5 (c := 5) rfl; have := hb_ne_toInt c6 (c := 6) rfl; have := hb_ne_toInt c7 (c := 7) rfl; have := hb_ne_toInt c8 (c := 8) rfl; have := hb_ne_toInt c9 (c := 9) rfl; have := hb_ne_toInt c10 (c := 10) rfl; have := hb_ne_toInt c11 (c := 11) rfl; omega) (by decide) ?_
  refine ww_bipush (v := (-2)) 164 X dX6_count_162 rfl (by decide) ?_
  obtain rfl := Option.some.inj h
  exact ww_ret_i X hr K dX6_count_164
theorem ct_X6_count (l : Launch) (G : hb_Gam) (k : Nat) (hk : hb_is ΛM k 6) (p1 : Int32) (σ : hb_Mem) {x : (Int32 × hb_Mem)} (h : fn_X6_count k p1 σ = some x) : hb_C l yX6_count cX6_count 2 (some .int) 8 182 ΛM G [.ref (G.2.2.2 k), .int p1] σ (some (.int x.1)) x.2 :=
  hb_C.of [some (.ref (G.2.2.2 k)), some (.int p1)] (by decide +kernel) (Nat.le_of_ble_eq_true rfl) (by intro v hv; simp only [List.mem_cons, List.not_mem_nil, or_false] at hv; rcases hv with rfl | rfl <;> rfl) rfl (hb_pad [.ref (G.2.2.2 k), .int p1] 0) (fun Γ X hr => wk_X6_count X hr k hk p1 σ h rfl)
def lb_X6_undo_22 (k : Nat) (w1 : Int32) (σ : hb_Mem) : Option ((Int32 × hb_Mem) ⊕ hb_Mem) :=
if 425 ≤ w1 then (
some (.inr σ))
else (
(hb_ld ΛM σ (hm_rf k 3) (((425 : Int32) * (σ k 4)) + w1)).bind fun v2 =>
(hb_st ΛM σ (hm_rf k 0) w1 v2).bind fun σ3 =>
hb_nm (w1 + 1) fun v4 =>
some (.inl (v4, σ3)))
set_option maxRecDepth 100000 in
set_option maxHeartbeats 4000000 in
theorem lk_X6_undo_22 {Γ : hb_Ctx} {G : hb_Gam} {Q : State → Prop} (X : hb_X Γ cX6_undo 2 RX6 ΛM G 0 0)  (k : Nat) (hk : hb_is ΛM k 6) (w1 : Int32) (σ : hb_Mem) {x : ((Int32 × hb_Mem) ⊕ hb_Mem)} (h : lb_X6_undo_22 k w1 σ = some x) (K : Sum.elim (fun s : (Int32 × hb_Mem) => hb_W Γ ΛM G 2 Q s.2 [some (.ref (G.2.2.2 k)), some (.int s.1)] [] 22) (fun t : hb_Mem => hb_W Γ ΛM G 2 Q t [some (.ref (G.2.2.2 k)), none] [] 56) x) : hb_W Γ ΛM G 2 Q σ [some (.ref (G.2.2.2 k)), some (.int w1)] [] 22 := by
  unfold lb_X6_undo_22 at h
  refine ww_iload_n 23 X dX6_undo_22 rfl rfl ?_
  refine ww_sipush (v := 425) 26 X dX6_undo_23 rfl (by decide) ?_
  refine ww_icmp_ge 56 29 X dX6_undo_26 (by decide) rfl h (fun h => ?_) (fun h => ?_)
  · skip
    obtain rfl := Option.some.inj h
    refine ww_kill [1] (L' := [some (.ref (G.2.2.2 k)), none]) rfl ?_
    exact K
  · skip
    refine ww_aload_n 30 X dX6_undo_29 rfl rfl ?_
    refine ww_getr (ci := 6) (j := 0) 33 X cf_6 tw_X6_7 (by decide) rfl hk dX6_undo_30 rfl ?_
    refine ww_iload_n 34 X dX6_undo_33 rfl rfl ?_
    refine ww_aload_n 35 X dX6_undo_34 rfl rfl ?_
    refine ww_getr (ci := 6) (j := 3) 38 X cf_6 tw_X6_16 (by decide) rfl hk dX6_undo_35 rfl ?_
    refine ww_sipush (v := 425) 41 X dX6_undo_38 rfl (by decide) ?_
    refine ww_aload_n 42 X dX6_undo_41 rfl rfl ?_
    refine ww_geti (ci := 6) (j := 4) 45 X cf_6 tw_X6_46 (by decide) rfl hk dX6_undo_42 rfl ?_
    refine ww_imul 46 X dX6_undo_45 rfl ?_
    refine ww_iload_n 47 X dX6_undo_46 rfl rfl ?_
    refine ww_iadd 48 X dX6_undo_47 rfl ?_
    obtain ⟨v2, hv2, h⟩ := hb_bind_of h
    refine ww_iald 49 X (hm_kr_6_3 hk) hv2 dX6_undo_48 rfl ?_
    obtain ⟨σ3, hσ3, h⟩ := hb_bind_of h
    refine ww_iast 50 X (hm_kr_6_0 hk) hσ3 dX6_undo_49 rfl ?_
    obtain ⟨v4, ev4, h⟩ := hb_nm_of h
    refine ww_iinc 53 X (L' := [some (.ref (G.2.2.2 k)), some (.int v4)]) dX6_undo_50 rfl rfl ev4.symm rfl ?_
    refine ww_goto 22 X dX6_undo_53 (by decide) ?_
    obtain rfl := Option.some.inj h
    exact K
def ll_X6_undo_22 (k : Nat) : (Int32 × hb_Mem) → Option hb_Mem := hb_lp (fun s => lb_X6_undo_22 k s.1 s.2) hb_F
theorem lw_X6_undo_22 {Γ : hb_Ctx} {G : hb_Gam} {Q : State → Prop} (X : hb_X Γ cX6_undo 2 RX6 ΛM G 0 0)  (k : Nat) (hk : hb_is ΛM k 6) (s : (Int32 × hb_Mem)) (t : hb_Mem) (h : ll_X6_undo_22 k s = some t) (K : (fun t : hb_Mem => hb_W Γ ΛM G 2 Q t [some (.ref (G.2.2.2 k)), none] [] 56) t) : hb_W Γ ΛM G 2 Q s.2 [some (.ref (G.2.2.2 k)), some (.int s.1)] [] 22 :=
  hb_lp_w (P := fun s : (Int32 × hb_Mem) => hb_W Γ ΛM G 2 Q s.2 [some (.ref (G.2.2.2 k)), some (.int s.1)] [] 22) (E := (fun t : hb_Mem => hb_W Γ ΛM G 2 Q t [some (.ref (G.2.2.2 k)), none] [] 56)) (fun s x hx K => lk_X6_undo_22 X k hk s.1 s.2 hx K) _ s t h K
def fn_X6_undo (k : Nat) (σ : hb_Mem) : Option (Int32 × hb_Mem) :=
if (σ k 4) = 0 then (
some ((-5), σ))
else (
hb_nm (hb_up σ k 4 ((σ k 4) - 1)) fun σ1 =>
(ll_X6_undo_22 k (0, σ1)).bind fun t5 =>
some (t5 k 4, t5))
set_option maxRecDepth 100000 in
set_option maxHeartbeats 4000000 in
theorem wk_X6_undo {Γ : hb_Ctx} {G : hb_Gam} {Q : State → Prop} (X : hb_X Γ cX6_undo 2 RX6 ΛM G 0 0) (hr : hb_ret Γ = (some .int)) (k : Nat) (hk : hb_is ΛM k 6) (σ : hb_Mem) {x : (Int32 × hb_Mem)} (h : fn_X6_undo k σ = some x) (K : Q = hb_Q Γ ΛM G (some (.int x.1)) x.2) : hb_W Γ ΛM G 2 Q σ [some (.ref (G.2.2.2 k)), none] [] 0 := by
  unfold fn_X6_undo at h
  refine ww_aload_n 1 X dX6_undo_0 rfl rfl ?_
  refine ww_geti (ci := 6) (j := 4) 4 X cf_6 tw_X6_46 (by decide) rfl hk dX6_undo_1 rfl ?_
  refine ww_if_ne 10 7 X dX6_undo_4 (by decide) rfl h (fun h => ?_) (fun h => ?_)
  · skip
    refine ww_bipush (v := (-5)) 9 X dX6_undo_7 rfl (by decide) ?_
    obtain rfl := Option.some.inj h
    exact ww_ret_i X hr K dX6_undo_9
  · skip
    refine ww_aload_n 11 X dX6_undo_10 rfl rfl ?_
    refine ww_dup 12 X dX6_undo_11 rfl rfl ?_
    refine ww_geti (ci := 6) (j := 4) 15 X cf_6 tw_X6_46 (by decide) rfl hk dX6_undo_12 rfl ?_
    refine ww_iconst (v := 1) 16 X dX6_undo_15 rfl (by decide) ?_
    refine ww_isub 17 X dX6_undo_16 rfl ?_
    obtain ⟨σ1, eσ1, h⟩ := hb_nm_of h
    refine ww_put (ci := 6) (j := 4) (ty := .int) 20 X cf_6 cg_6 tw_X6_46 (by decide) rfl rfl rfl rfl rfl hk eσ1.symm dX6_undo_17 rfl ?_
    refine ww_iconst (v := 0) 21 X dX6_undo_20 rfl (by decide) ?_
    refine ww_istore_n 22 X (L' := [some (.ref (G.2.2.2 k)), some (.int 0)]) dX6_undo_21 rfl (Nat.le_of_ble_eq_true rfl) rfl ?_
    obtain ⟨t5, ht5, h⟩ := hb_bind_of h
    refine lw_X6_undo_22 X k hk (0, σ1) t5 ht5 ?_
    refine ww_aload_n 57 X dX6_undo_56 rfl rfl ?_
    refine ww_geti (ci := 6) (j := 4) 60 X cf_6 tw_X6_46 (by decide) rfl hk dX6_undo_57 rfl ?_
    obtain rfl := Option.some.inj h
    exact ww_ret_i X hr K dX6_undo_60
theorem ct_X6_undo (l : Launch) (G : hb_Gam) (k : Nat) (hk : hb_is ΛM k 6) (σ : hb_Mem) {x : (Int32 × hb_Mem)} (h : fn_X6_undo k σ = some x) : hb_C l yX6_undo cX6_undo 2 (some .int) 0 0 ΛM G [.ref (G.2.2.2 k)] σ (some (.int x.1)) x.2 :=
  hb_C.of [some (.ref (G.2.2.2 k)), none] (by decide +kernel) (Nat.le_of_ble_eq_true rfl) (by intro v hv; simp only [List.mem_cons, List.not_mem_nil, or_false] at hv; subst hv; rfl) rfl (hb_pad [.ref (G.2.2.2 k)] 1) (fun Γ X hr => wk_X6_undo X hr k hk σ h rfl)
def lb_X6_keep_2 (k : Nat) (w1 : Int32) (σ : hb_Mem) : Option ((Int32 × hb_Mem) ⊕ hb_Mem) :=
if 425 ≤ w1 then (
some (.inr σ))
else (
(hb_ld ΛM σ (hm_rf k 0) w1).bind fun v1 =>
(hb_st ΛM σ (hm_rf k 1) w1 v1).bind fun σ2 =>
hb_nm (w1 + 1) fun v3 =>
some (.inl (v3, σ2)))
set_option maxRecDepth 100000 in
set_option maxHeartbeats 4000000 in
theorem lk_X6_keep_2 {Γ : hb_Ctx} {G : hb_Gam} {Q : State → Prop} (X : hb_X Γ cX6_keep 2 RX6 ΛM G 0 0)  (k : Nat) (hk : hb_is ΛM k 6) (w1 : Int32) (σ : hb_Mem) {x : ((Int32 × hb_Mem) ⊕ hb_Mem)} (h : lb_X6_keep_2 k w1 σ = some x) (K : Sum.elim (fun s : (Int32 × hb_Mem) => hb_W Γ ΛM G 2 Q s.2 [some (.ref (G.2.2.2 k)), some (.int s.1)] [] 2) (fun t : hb_Mem => hb_W Γ ΛM G 2 Q t [some (.ref (G.2.2.2 k)), none] [] 27) x) : hb_W Γ ΛM G 2 Q σ [some (.ref (G.2.2.2 k)), some (.int w1)] [] 2 := by
  unfold lb_X6_keep_2 at h
  refine ww_iload_n 3 X dX6_keep_2 rfl rfl ?_
  refine ww_sipush (v := 425) 6 X dX6_keep_3 rfl (by decide) ?_
  refine ww_icmp_ge 27 9 X dX6_keep_6 (by decide) rfl h (fun h => ?_) (fun h => ?_)
  · skip
    obtain rfl := Option.some.inj h
    refine ww_kill [1] (L' := [some (.ref (G.2.2.2 k)), none]) rfl ?_
    exact K
  · skip
    refine ww_aload_n 10 X dX6_keep_9 rfl rfl ?_
    refine ww_getr (ci := 6) (j := 1) 13 X cf_6 tw_X6_13 (by decide) rfl hk dX6_keep_10 rfl ?_
    refine ww_iload_n 14 X dX6_keep_13 rfl rfl ?_
    refine ww_aload_n 15 X dX6_keep_14 rfl rfl ?_
    refine ww_getr (ci := 6) (j := 0) 18 X cf_6 tw_X6_7 (by decide) rfl hk dX6_keep_15 rfl ?_
    refine ww_iload_n 19 X dX6_keep_18 rfl rfl ?_
    obtain ⟨v1, hv1, h⟩ := hb_bind_of h
    refine ww_iald 20 X (hm_kr_6_0 hk) hv1 dX6_keep_19 rfl ?_
    obtain ⟨σ2, hσ2, h⟩ := hb_bind_of h
    refine ww_iast 21 X (hm_kr_6_1 hk) hσ2 dX6_keep_20 rfl ?_
    obtain ⟨v3, ev3, h⟩ := hb_nm_of h
    refine ww_iinc 24 X (L' := [some (.ref (G.2.2.2 k)), some (.int v3)]) dX6_keep_21 rfl rfl ev3.symm rfl ?_
    refine ww_goto 2 X dX6_keep_24 (by decide) ?_
    obtain rfl := Option.some.inj h
    exact K
def ll_X6_keep_2 (k : Nat) : (Int32 × hb_Mem) → Option hb_Mem := hb_lp (fun s => lb_X6_keep_2 k s.1 s.2) hb_F
theorem lw_X6_keep_2 {Γ : hb_Ctx} {G : hb_Gam} {Q : State → Prop} (X : hb_X Γ cX6_keep 2 RX6 ΛM G 0 0)  (k : Nat) (hk : hb_is ΛM k 6) (s : (Int32 × hb_Mem)) (t : hb_Mem) (h : ll_X6_keep_2 k s = some t) (K : (fun t : hb_Mem => hb_W Γ ΛM G 2 Q t [some (.ref (G.2.2.2 k)), none] [] 27) t) : hb_W Γ ΛM G 2 Q s.2 [some (.ref (G.2.2.2 k)), some (.int s.1)] [] 2 :=
  hb_lp_w (P := fun s : (Int32 × hb_Mem) => hb_W Γ ΛM G 2 Q s.2 [some (.ref (G.2.2.2 k)), some (.int s.1)] [] 2) (E := (fun t : hb_Mem => hb_W Γ ΛM G 2 Q t [some (.ref (G.2.2.2 k)), none] [] 27)) (fun s x hx K => lk_X6_keep_2 X k hk s.1 s.2 hx K) _ s t h K
def fn_X6_keep (k : Nat) (σ : hb_Mem) : Option (Int32 × hb_Mem) :=
(ll_X6_keep_2 k (0, σ)).bind fun t4 =>
hb_nm (hb_up t4 k 2 1) fun σ5 =>
(hb_ld ΛM σ5 (hm_rf k 0) 0).bind fun v6 =>
some (v6, σ5)
set_option maxRecDepth 100000 in
set_option maxHeartbeats 4000000 in
theorem wk_X6_keep {Γ : hb_Ctx} {G : hb_Gam} {Q : State → Prop} (X : hb_X Γ cX6_keep 2 RX6 ΛM G 0 0) (hr : hb_ret Γ = (some .int)) (k : Nat) (hk : hb_is ΛM k 6) (σ : hb_Mem) {x : (Int32 × hb_Mem)} (h : fn_X6_keep k σ = some x) (K : Q = hb_Q Γ ΛM G (some (.int x.1)) x.2) : hb_W Γ ΛM G 2 Q σ [some (.ref (G.2.2.2 k)), none] [] 0 := by
  unfold fn_X6_keep at h
  refine ww_iconst (v := 0) 1 X dX6_keep_0 rfl (by decide) ?_
  refine ww_istore_n 2 X (L' := [some (.ref (G.2.2.2 k)), some (.int 0)]) dX6_keep_1 rfl (Nat.le_of_ble_eq_true rfl) rfl ?_
  obtain ⟨t4, ht4, h⟩ := hb_bind_of h
  refine lw_X6_keep_2 X k hk (0, σ) t4 ht4 ?_
  refine ww_aload_n 28 X dX6_keep_27 rfl rfl ?_
  refine ww_iconst (v := 1) 29 X dX6_keep_28 rfl (by decide) ?_
  obtain ⟨σ5, eσ5, h⟩ := hb_nm_of h
  refine ww_put (ci := 6) (j := 2) (ty := .boolean) 32 X cf_6 cg_6 tw_X6_206 (by decide) rfl rfl rfl rfl rfl hk eσ5.symm dX6_keep_29 rfl ?_
  refine ww_aload_n 33 X dX6_keep_32 rfl rfl ?_
  refine ww_getr (ci := 6) (j := 0) 36 X cf_6 tw_X6_7 (by decide) rfl hk dX6_keep_33 rfl ?_
  refine ww_iconst (v := 0) 37 X dX6_keep_36 rfl (by decide) ?_
  obtain ⟨v6, hv6, h⟩ := hb_bind_of h
  refine ww_iald 38 X (hm_kr_6_0 hk) hv6 dX6_keep_37 rfl ?_
  obtain rfl := Option.some.inj h
  exact ww_ret_i X hr K dX6_keep_38
theorem ct_X6_keep (l : Launch) (G : hb_Gam) (k : Nat) (hk : hb_is ΛM k 6) (σ : hb_Mem) {x : (Int32 × hb_Mem)} (h : fn_X6_keep k σ = some x) : hb_C l yX6_keep cX6_keep 2 (some .int) 0 0 ΛM G [.ref (G.2.2.2 k)] σ (some (.int x.1)) x.2 :=
  hb_C.of [some (.ref (G.2.2.2 k)), none] (by decide +kernel) (Nat.le_of_ble_eq_true rfl) (by intro v hv; simp only [List.mem_cons, List.not_mem_nil, or_false] at hv; subst hv; rfl) rfl (hb_pad [.ref (G.2.2.2 k)] 1) (fun Γ X hr => wk_X6_keep X hr k hk σ h rfl)
def lb_X6_restore_16 (k : Nat) (w1 : Int32) (σ : hb_Mem) : Option ((Int32 × hb_Mem) ⊕ hb_Mem) :=
if 425 ≤ w1 then (
some (.inr σ))
else (
(hb_ld ΛM σ (hm_rf k 1) w1).bind fun v2 =>
(hb_st ΛM σ (hm_rf k 0) w1 v2).bind fun σ3 =>
hb_nm (w1 + 1) fun v4 =>
some (.inl (v4, σ3)))
set_option maxRecDepth 100000 in
set_option maxHeartbeats 4000000 in
theorem lk_X6_restore_16 {Γ : hb_Ctx} {G : hb_Gam} {Q : State → Prop} (X : hb_X Γ cX6_restore 2 RX6 ΛM G 1 21)  (k : Nat) (hk : hb_is ΛM k 6) (w1 : Int32) (σ : hb_Mem) {x : ((Int32 × hb_Mem) ⊕ hb_Mem)} (h : lb_X6_restore_16 k w1 σ = some x) (K : Sum.elim (fun s : (Int32 × hb_Mem) => hb_W Γ ΛM G 2 Q s.2 [some (.ref (G.2.2.2 k)), some (.int s.1)] [] 16) (fun t : hb_Mem => hb_W Γ ΛM G 2 Q t [some (.ref (G.2.2.2 k)), none] [] 41) x) : hb_W Γ ΛM G 2 Q σ [some (.ref (G.2.2.2 k)), some (.int w1)] [] 16 := by
  unfold lb_X6_restore_16 at h
  refine ww_iload_n 17 X dX6_restore_16 rfl rfl ?_
  refine ww_sipush (v := 425) 20 X dX6_restore_17 rfl (by decide) ?_
  refine ww_icmp_ge 41 23 X dX6_restore_20 (by decide) rfl h (fun h => ?_) (fun h => ?_)
  · skip
    obtain rfl := Option.some.inj h
    refine ww_kill [1] (L' := [some (.ref (G.2.2.2 k)), none]) rfl ?_
    exact K
  · skip
    refine ww_aload_n 24 X dX6_restore_23 rfl rfl ?_
    refine ww_getr (ci := 6) (j := 0) 27 X cf_6 tw_X6_7 (by decide) rfl hk dX6_restore_24 rfl ?_
    refine ww_iload_n 28 X dX6_restore_27 rfl rfl ?_
    refine ww_aload_n 29 X dX6_restore_28 rfl rfl ?_
    refine ww_getr (ci := 6) (j := 1) 32 X cf_6 tw_X6_13 (by decide) rfl hk dX6_restore_29 rfl ?_
    refine ww_iload_n 33 X dX6_restore_32 rfl rfl ?_
    obtain ⟨v2, hv2, h⟩ := hb_bind_of h
    refine ww_iald 34 X (hm_kr_6_1 hk) hv2 dX6_restore_33 rfl ?_
    obtain ⟨σ3, hσ3, h⟩ := hb_bind_of h
    refine ww_iast 35 X (hm_kr_6_0 hk) hσ3 dX6_restore_34 rfl ?_
    obtain ⟨v4, ev4, h⟩ := hb_nm_of h
    refine ww_iinc 38 X (L' := [some (.ref (G.2.2.2 k)), some (.int v4)]) dX6_restore_35 rfl rfl ev4.symm rfl ?_
    refine ww_goto 16 X dX6_restore_38 (by decide) ?_
    obtain rfl := Option.some.inj h
    exact K
def ll_X6_restore_16 (k : Nat) : (Int32 × hb_Mem) → Option hb_Mem := hb_lp (fun s => lb_X6_restore_16 k s.1 s.2) hb_F
theorem lw_X6_restore_16 {Γ : hb_Ctx} {G : hb_Gam} {Q : State → Prop} (X : hb_X Γ cX6_restore 2 RX6 ΛM G 1 21)  (k : Nat) (hk : hb_is ΛM k 6) (s : (Int32 × hb_Mem)) (t : hb_Mem) (h : ll_X6_restore_16 k s = some t) (K : (fun t : hb_Mem => hb_W Γ ΛM G 2 Q t [some (.ref (G.2.2.2 k)), none] [] 41) t) : hb_W Γ ΛM G 2 Q s.2 [some (.ref (G.2.2.2 k)), some (.int s.1)] [] 16 :=
  hb_lp_w (P := fun s : (Int32 × hb_Mem) => hb_W Γ ΛM G 2 Q s.2 [some (.ref (G.2.2.2 k)), some (.int s.1)] [] 16) (E := (fun t : hb_Mem => hb_W Γ ΛM G 2 Q t [some (.ref (G.2.2.2 k)), none] [] 41)) (fun s x hx K => lk_X6_restore_16 X k hk s.1 s.2 hx K) _ s t h K
def fn_X6_restore (k : Nat) (σ : hb_Mem) : Option (Int32 × hb_Mem) :=
if (σ k 2) = 0 then (
some ((-5), σ))
else (
(fn_X6_records k σ).bind fun x1 =>
(ll_X6_restore_16 k (0, x1)).bind fun t5 =>
(hb_ld ΛM t5 (hm_rf k 0) 0).bind fun v6 =>
some (v6, t5))
set_option maxRecDepth 100000 in
set_option maxHeartbeats 4000000 in
theorem wk_X6_restore {Γ : hb_Ctx} {G : hb_Gam} {Q : State → Prop} (X : hb_X Γ cX6_restore 2 RX6 ΛM G 1 21) (hr : hb_ret Γ = (some .int)) (k : Nat) (hk : hb_is ΛM k 6) (σ : hb_Mem) {x : (Int32 × hb_Mem)} (h : fn_X6_restore k σ = some x) (K : Q = hb_Q Γ ΛM G (some (.int x.1)) x.2) : hb_W Γ ΛM G 2 Q σ [some (.ref (G.2.2.2 k)), none] [] 0 := by
  unfold fn_X6_restore at h
  refine ww_aload_n 1 X dX6_restore_0 rfl rfl ?_
  refine ww_geti (ci := 6) (j := 2) 4 X cf_6 tw_X6_206 (by decide) rfl hk dX6_restore_1 rfl ?_
  refine ww_if_ne 10 7 X dX6_restore_4 (by decide) rfl h (fun h => ?_) (fun h => ?_)
  · skip
    refine ww_bipush (v := (-5)) 9 X dX6_restore_7 rfl (by decide) ?_
    obtain rfl := Option.some.inj h
    exact ww_ret_i X hr K dX6_restore_9
  · skip
    refine ww_aload_n 11 X dX6_restore_10 rfl rfl ?_
    obtain ⟨x1, hx1, h⟩ := hb_bind_of h
    refine ww_callV (ci := 6) (rest := []) (st' := []) 14 X (ct_X6_records (hb_l Γ) G k hk σ hx1) cw_X6_114 rfl (by decide) hk rfl ⟨by decide, by decide⟩ (Nat.le_of_ble_eq_true rfl) rfl rfl dX6_restore_11 rfl ?_
    refine ww_iconst (v := 0) 15 X dX6_restore_14 rfl (by decide) ?_
    refine ww_istore_n 16 X (L' := [some (.ref (G.2.2.2 k)), some (.int 0)]) dX6_restore_15 rfl (Nat.le_of_ble_eq_true rfl) rfl ?_
    obtain ⟨t5, ht5, h⟩ := hb_bind_of h
    refine lw_X6_restore_16 X k hk (0, x1) t5 ht5 ?_
    refine ww_aload_n 42 X dX6_restore_41 rfl rfl ?_
    refine ww_getr (ci := 6) (j := 0) 45 X cf_6 tw_X6_7 (by decide) rfl hk dX6_restore_42 rfl ?_
    refine ww_iconst (v := 0) 46 X dX6_restore_45 rfl (by decide) ?_
    obtain ⟨v6, hv6, h⟩ := hb_bind_of h
    refine ww_iald 47 X (hm_kr_6_0 hk) hv6 dX6_restore_46 rfl ?_
    obtain rfl := Option.some.inj h
    exact ww_ret_i X hr K dX6_restore_47
theorem ct_X6_restore (l : Launch) (G : hb_Gam) (k : Nat) (hk : hb_is ΛM k 6) (σ : hb_Mem) {x : (Int32 × hb_Mem)} (h : fn_X6_restore k σ = some x) : hb_C l yX6_restore cX6_restore 2 (some .int) 1 21 ΛM G [.ref (G.2.2.2 k)] σ (some (.int x.1)) x.2 :=
  hb_C.of [some (.ref (G.2.2.2 k)), none] (by decide +kernel) (Nat.le_of_ble_eq_true rfl) (by intro v hv; simp only [List.mem_cons, List.not_mem_nil, or_false] at hv; subst hv; rfl) rfl (hb_pad [.ref (G.2.2.2 k)] 1) (fun Γ X hr => wk_X6_restore X hr k hk σ h rfl)
def fn_X6_type (k : Nat) (p1 : Int32) (σ : hb_Mem) : Option (Int32 × hb_Mem) :=
if (σ k 6) = 60 then (
some ((-3), σ))
else (
(hb_st ΛM σ (hm_rf k 5) (σ k 6) p1).bind fun σ1 =>
hb_nm (hb_up σ1 k 6 ((σ1 k 6) + 1)) fun σ2 =>
some (σ2 k 6, σ2))
set_option maxRecDepth 100000 in
set_option maxHeartbeats 4000000 in
theorem wk_X6_type {Γ : hb_Ctx} {G : hb_Gam} {Q : State → Prop} (X : hb_X Γ cX6_type 2 RX6 ΛM G 0 0) (hr : hb_ret Γ = (some .int)) (k : Nat) (hk : hb_is ΛM k 6) (p1 : Int32) (σ : hb_Mem) {x : (Int32 × hb_Mem)} (h : fn_X6_type k p1 σ = some x) (K : Q = hb_Q Γ ΛM G (some (.int x.1)) x.2) : hb_W Γ ΛM G 2 Q σ [some (.ref (G.2.2.2 k)), some (.int p1)] [] 0 := by
  unfold fn_X6_type at h
  refine ww_aload_n 1 X dX6_type_0 rfl rfl ?_
  refine ww_geti (ci := 6) (j := 6) 4 X cf_6 tw_X6_203 (by decide) rfl hk dX6_type_1 rfl ?_
  refine ww_bipush (v := 60) 6 X dX6_type_4 rfl (by decide) ?_
  refine ww_icmp_ne 12 9 X dX6_type_6 (by decide) rfl h (fun h => ?_) (fun h => ?_)
  · skip
    refine ww_bipush (v := (-3)) 11 X dX6_type_9 rfl (by decide) ?_
    obtain rfl := Option.some.inj h
    exact ww_ret_i X hr K dX6_type_11
  · skip
    refine ww_aload_n 13 X dX6_type_12 rfl rfl ?_
    refine ww_getr (ci := 6) (j := 5) 16 X cf_6 tw_X6_19 (by decide) rfl hk dX6_type_13 rfl ?_
    refine ww_aload_n 17 X dX6_type_16 rfl rfl ?_
    refine ww_geti (ci := 6) (j := 6) 20 X cf_6 tw_X6_203 (by decide) rfl hk dX6_type_17 rfl ?_
    refine ww_iload_n 21 X dX6_type_20 rfl rfl ?_
    obtain ⟨σ1, hσ1, h⟩ := hb_bind_of h
    refine ww_iast 22 X (hm_kr_6_5 hk) hσ1 dX6_type_21 rfl ?_
    refine ww_aload_n 23 X dX6_type_22 rfl rfl ?_
    refine ww_dup 24 X dX6_type_23 rfl rfl ?_
    refine ww_geti (ci := 6) (j := 6) 27 X cf_6 tw_X6_203 (by decide) rfl hk dX6_type_24 rfl ?_
    refine ww_iconst (v := 1) 28 X dX6_type_27 rfl (by decide) ?_
    refine ww_iadd 29 X dX6_type_28 rfl ?_
    obtain ⟨σ2, eσ2, h⟩ := hb_nm_of h
    refine ww_put (ci := 6) (j := 6) (ty := .int) 32 X cf_6 cg_6 tw_X6_203 (by decide) rfl rfl rfl rfl rfl hk eσ2.symm dX6_type_29 rfl ?_
    refine ww_aload_n 33 X dX6_type_32 rfl rfl ?_
    refine ww_geti (ci := 6) (j := 6) 36 X cf_6 tw_X6_203 (by decide) rfl hk dX6_type_33 rfl ?_
    obtain rfl := Option.some.inj h
    exact ww_ret_i X hr K dX6_type_36
theorem ct_X6_type (l : Launch) (G : hb_Gam) (k : Nat) (hk : hb_is ΛM k 6) (p1 : Int32) (σ : hb_Mem) {x : (Int32 × hb_Mem)} (h : fn_X6_type k p1 σ = some x) : hb_C l yX6_type cX6_type 2 (some .int) 0 0 ΛM G [.ref (G.2.2.2 k), .int p1] σ (some (.int x.1)) x.2 :=
  hb_C.of [some (.ref (G.2.2.2 k)), some (.int p1)] (by decide +kernel) (Nat.le_of_ble_eq_true rfl) (by intro v hv; simp only [List.mem_cons, List.not_mem_nil, or_false] at hv; rcases hv with rfl | rfl <;> rfl) rfl (hb_pad [.ref (G.2.2.2 k), .int p1] 0) (fun Γ X hr => wk_X6_type X hr k hk p1 σ h rfl)
