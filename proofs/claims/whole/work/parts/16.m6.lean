/-! methods (laid by wip/whole/gen.py) -/
def fn_X6_clearText (k : Nat) (σ : hb_Mem) : Option (Int32 × hb_Mem) :=
hb_nm (σ k 6) fun v1 =>
hb_nm (hb_up σ k 6 0) fun σ2 =>
some (v1, σ2)
set_option maxRecDepth 100000 in
set_option maxHeartbeats 4000000 in
theorem wk_X6_clearText {Γ : hb_Ctx} {G : hb_Gam} {Q : State → Prop} (X : hb_X Γ cX6_clearText 2 RX6 ΛM G 0 0) (hr : hb_ret Γ = (some .int)) (k : Nat) (hk : hb_is ΛM k 6) (σ : hb_Mem) {x : (Int32 × hb_Mem)} (h : fn_X6_clearText k σ = some x) (K : Q = hb_Q Γ ΛM G (some (.int x.1)) x.2) : hb_W Γ ΛM G 2 Q σ [some (.ref (G.2.2.2 k)), none] [] 0 := by
  unfold fn_X6_clearText at h
  refine ww_aload_n 1 X dX6_clearText_0 rfl rfl ?_
  refine ww_geti (ci := 6) (j := 6) 4 X cf_6 tw_X6_203 (by decide) rfl hk dX6_clearText_1 rfl ?_
  obtain ⟨v1, ev1, h⟩ := hb_nm_of h
  rw [← ev1]
  refine ww_istore_n 5 X (L' := [some (.ref (G.2.2.2 k)), some (.int v1)]) dX6_clearText_4 rfl (Nat.le_of_ble_eq_true rfl) rfl ?_
  refine ww_aload_n 6 X dX6_clearText_5 rfl rfl ?_
  refine ww_iconst (v := 0) 7 X dX6_clearText_6 rfl (by decide) ?_
  obtain ⟨σ2, eσ2, h⟩ := hb_nm_of h
  refine ww_put (ci := 6) (j := 6) (ty := .int) 10 X cf_6 cg_6 tw_X6_203 (by decide) rfl rfl rfl rfl rfl hk eσ2.symm dX6_clearText_7 rfl ?_
  refine ww_iload_n 11 X dX6_clearText_10 rfl rfl ?_
  obtain rfl := Option.some.inj h
  exact ww_ret_i X hr K dX6_clearText_11
theorem ct_X6_clearText (l : Launch) (G : hb_Gam) (k : Nat) (hk : hb_is ΛM k 6) (σ : hb_Mem) {x : (Int32 × hb_Mem)} (h : fn_X6_clearText k σ = some x) : hb_C l yX6_clearText cX6_clearText 2 (some .int) 0 0 ΛM G [.ref (G.2.2.2 k)] σ (some (.int x.1)) x.2 :=
  hb_C.of [some (.ref (G.2.2.2 k)), none] (by decide +kernel) (Nat.le_of_ble_eq_true rfl) (by intro v hv; simp only [List.mem_cons, List.not_mem_nil, or_false] at hv; subst hv; rfl) rfl (hb_pad [.ref (G.2.2.2 k)] 1) (fun Γ X hr => wk_X6_clearText X hr k hk σ h rfl)
def fn_X6_here (k : Nat) (σ : hb_Mem) : Option Int32 :=
if (σ k 6) ≤ (σ k 16) then (
some (-5))
else (
(hb_ld ΛM σ (hm_rf k 5) (σ k 16)).bind fun v1 =>
some v1)
set_option maxRecDepth 100000 in
set_option maxHeartbeats 4000000 in
theorem wk_X6_here {Γ : hb_Ctx} {G : hb_Gam} {Q : State → Prop} (X : hb_X Γ cX6_here 1 RX6 ΛM G 0 0) (hr : hb_ret Γ = (some .int)) (k : Nat) (hk : hb_is ΛM k 6) (σ : hb_Mem) {x : Int32} (h : fn_X6_here k σ = some x) (K : Q = hb_Q Γ ΛM G (some (.int x)) σ) : hb_W Γ ΛM G 1 Q σ [some (.ref (G.2.2.2 k))] [] 0 := by
  unfold fn_X6_here at h
  refine ww_aload_n 1 X dX6_here_0 rfl rfl ?_
  refine ww_geti (ci := 6) (j := 16) 4 X cf_6 tw_X6_210 (by decide) rfl hk dX6_here_1 rfl ?_
  refine ww_aload_n 5 X dX6_here_4 rfl rfl ?_
  refine ww_geti (ci := 6) (j := 6) 8 X cf_6 tw_X6_203 (by decide) rfl hk dX6_here_5 rfl ?_
  refine ww_icmp_ge 23 11 X dX6_here_8 (by decide) rfl h (fun h => ?_) (fun h => ?_)
  · skip
    refine ww_bipush (v := (-5)) 25 X dX6_here_23 rfl (by decide) ?_
    obtain rfl := Option.some.inj h
    exact ww_ret_i X hr K dX6_here_25
  · skip
    refine ww_aload_n 12 X dX6_here_11 rfl rfl ?_
    refine ww_getr (ci := 6) (j := 5) 15 X cf_6 tw_X6_19 (by decide) rfl hk dX6_here_12 rfl ?_
    refine ww_aload_n 16 X dX6_here_15 rfl rfl ?_
    refine ww_geti (ci := 6) (j := 16) 19 X cf_6 tw_X6_210 (by decide) rfl hk dX6_here_16 rfl ?_
    obtain ⟨v1, hv1, h⟩ := hb_bind_of h
    refine ww_iald 20 X (hm_kr_6_5 hk) hv1 dX6_here_19 rfl ?_
    refine ww_goto 25 X dX6_here_20 (by decide) ?_
    obtain rfl := Option.some.inj h
    exact ww_ret_i X hr K dX6_here_25
theorem ct_X6_here (l : Launch) (G : hb_Gam) (k : Nat) (hk : hb_is ΛM k 6) (σ : hb_Mem) {x : Int32} (h : fn_X6_here k σ = some x) : hb_C l yX6_here cX6_here 1 (some .int) 0 0 ΛM G [.ref (G.2.2.2 k)] σ (some (.int x)) σ :=
  hb_C.of [some (.ref (G.2.2.2 k))] (by decide +kernel) (Nat.le_of_ble_eq_true rfl) (by intro v hv; simp only [List.mem_cons, List.not_mem_nil, or_false] at hv; subst hv; rfl) rfl (hb_pad [.ref (G.2.2.2 k)] 0) (fun Γ X hr => wk_X6_here X hr k hk σ h rfl)
def jn_X6_takes_37 (k : Nat) (p1 : Int32) (s1 : Int32) (s2 : Int32) (σ : hb_Mem) : Option hb_Mem :=
hb_nm (hb_up σ k 16 (s1 + s2)) fun σ3 =>
some σ3
set_option maxRecDepth 100000 in
set_option maxHeartbeats 4000000 in
theorem jw_X6_takes_37 {Γ : hb_Ctx} {G : hb_Gam} {Q : State → Prop} (X : hb_X Γ cX6_takes 2 RX6 ΛM G 0 0) (hr : hb_ret Γ = none) (k : Nat) (hk : hb_is ΛM k 6) (p1 : Int32) (s1 : Int32) (s2 : Int32) (σ : hb_Mem) {x : hb_Mem} (h : jn_X6_takes_37 k p1 s1 s2 σ = some x) (K : Q = hb_Q Γ ΛM G none x) : hb_W Γ ΛM G 2 Q σ [none, none] [.int s2, .int s1, .ref (G.2.2.2 k)] 37 := by
  unfold jn_X6_takes_37 at h
  refine ww_iadd 38 X dX6_takes_37 rfl ?_
  obtain ⟨σ3, eσ3, h⟩ := hb_nm_of h
  refine ww_put (ci := 6) (j := 16) (ty := .int) 41 X cf_6 cg_6 tw_X6_210 (by decide) rfl rfl rfl rfl rfl hk eσ3.symm dX6_takes_38 rfl ?_
  obtain rfl := Option.some.inj h
  exact ww_ret_v X hr K dX6_takes_41
def jn_X6_takes_17 (k : Nat) (p1 : Int32) (s1 : Int32) (σ : hb_Mem) : Option hb_Mem :=
(hb_bz s1).bind fun z1 =>
hb_nm (hb_up σ k 17 s1) fun σ2 =>
if (σ2 k 17) = 0 then (
jn_X6_takes_37 k p1 (σ2 k 16) 0 σ2)
else (
jn_X6_takes_37 k p1 (σ2 k 16) 1 σ2)
set_option maxRecDepth 100000 in
set_option maxHeartbeats 4000000 in
theorem jw_X6_takes_17 {Γ : hb_Ctx} {G : hb_Gam} {Q : State → Prop} (X : hb_X Γ cX6_takes 2 RX6 ΛM G 0 0) (hr : hb_ret Γ = none) (k : Nat) (hk : hb_is ΛM k 6) (p1 : Int32) (s1 : Int32) (σ : hb_Mem) {x : hb_Mem} (h : jn_X6_takes_17 k p1 s1 σ = some x) (K : Q = hb_Q Γ ΛM G none x) : hb_W Γ ΛM G 2 Q σ [some (.ref (G.2.2.2 k)), none] [.int s1, .ref (G.2.2.2 k)] 17 := by
  unfold jn_X6_takes_17 at h
  obtain ⟨z1, hz1, h⟩ := hb_bind_of h
  replace hz1 := (hb_bz_of hz1).1
  obtain ⟨σ2, eσ2, h⟩ := hb_nm_of h
  refine ww_put (ci := 6) (j := 17) (ty := .boolean) 20 X cf_6 cg_6 tw_X6_213 (by decide) rfl rfl rfl (hb_bz_n hz1) (hb_bz_f hz1) hk eσ2.symm dX6_takes_17 rfl ?_
  refine ww_aload_n 21 X dX6_takes_20 rfl rfl ?_
  refine ww_dup 22 X dX6_takes_21 rfl rfl ?_
  refine ww_geti (ci := 6) (j := 16) 25 X cf_6 tw_X6_210 (by decide) rfl hk dX6_takes_22 rfl ?_
  refine ww_aload_n 26 X dX6_takes_25 rfl rfl ?_
  refine ww_geti (ci := 6) (j := 17) 29 X cf_6 tw_X6_213 (by decide) rfl hk dX6_takes_26 rfl ?_
  refine ww_if_eq 36 32 X dX6_takes_29 (by decide) rfl h (fun h => ?_) (fun h => ?_)
  · skip
    refine ww_iconst (v := 0) 37 X dX6_takes_36 rfl (by decide) ?_
    refine ww_kill [0] (L' := [none, none]) rfl ?_
    exact jw_X6_takes_37 X hr k hk p1 (σ2 k 16) 0 σ2 h K
  · skip
    refine ww_iconst (v := 1) 33 X dX6_takes_32 rfl (by decide) ?_
    refine ww_goto 37 X dX6_takes_33 (by decide) ?_
    refine ww_kill [0] (L' := [none, none]) rfl ?_
    exact jw_X6_takes_37 X hr k hk p1 (σ2 k 16) 1 σ2 h K
def jn_X6_takes_16 (k : Nat) (p1 : Int32) (σ : hb_Mem) : Option hb_Mem :=
jn_X6_takes_17 k p1 0 σ
set_option maxRecDepth 100000 in
set_option maxHeartbeats 4000000 in
theorem jw_X6_takes_16 {Γ : hb_Ctx} {G : hb_Gam} {Q : State → Prop} (X : hb_X Γ cX6_takes 2 RX6 ΛM G 0 0) (hr : hb_ret Γ = none) (k : Nat) (hk : hb_is ΛM k 6) (p1 : Int32) (σ : hb_Mem) {x : hb_Mem} (h : jn_X6_takes_16 k p1 σ = some x) (K : Q = hb_Q Γ ΛM G none x) : hb_W Γ ΛM G 2 Q σ [some (.ref (G.2.2.2 k)), none] [.ref (G.2.2.2 k)] 16 := by
  unfold jn_X6_takes_16 at h
  refine ww_iconst (v := 0) 17 X dX6_takes_16 rfl (by decide) ?_
  exact jw_X6_takes_17 X hr k hk p1 0 σ h K
def fn_X6_takes (k : Nat) (p1 : Int32) (σ : hb_Mem) : Option hb_Mem :=
if (σ k 17) = 0 then (
jn_X6_takes_16 k p1 σ)
else (
if p1 = 0 then (
jn_X6_takes_16 k p1 σ)
else (
jn_X6_takes_17 k p1 1 σ))
set_option maxRecDepth 100000 in
set_option maxHeartbeats 4000000 in
theorem wk_X6_takes {Γ : hb_Ctx} {G : hb_Gam} {Q : State → Prop} (X : hb_X Γ cX6_takes 2 RX6 ΛM G 0 0) (hr : hb_ret Γ = none) (k : Nat) (hk : hb_is ΛM k 6) (p1 : Int32) (σ : hb_Mem) {x : hb_Mem} (h : fn_X6_takes k p1 σ = some x) (K : Q = hb_Q Γ ΛM G none x) : hb_W Γ ΛM G 2 Q σ [some (.ref (G.2.2.2 k)), some (.int p1)] [] 0 := by
  unfold fn_X6_takes at h
  refine ww_aload_n 1 X dX6_takes_0 rfl rfl ?_
  refine ww_aload_n 2 X dX6_takes_1 rfl rfl ?_
  refine ww_geti (ci := 6) (j := 17) 5 X cf_6 tw_X6_213 (by decide) rfl hk dX6_takes_2 rfl ?_
  refine ww_if_eq 16 8 X dX6_takes_5 (by decide) rfl h (fun h => ?_) (fun h => ?_)
  · skip
    refine ww_kill [1] (L' := [some (.ref (G.2.2.2 k)), none]) rfl ?_
    exact jw_X6_takes_16 X hr k hk p1 σ h K
  · skip
    refine ww_iload_n 9 X dX6_takes_8 rfl rfl ?_
    refine ww_if_eq 16 12 X dX6_takes_9 (by decide) rfl h (fun h => ?_) (fun h => ?_)
    · skip
      refine ww_kill [1] (L' := [some (.ref (G.2.2.2 k)), none]) rfl ?_
      exact jw_X6_takes_16 X hr k hk p1 σ h K
    · skip
      refine ww_iconst (v := 1) 13 X dX6_takes_12 rfl (by decide) ?_
      refine ww_goto 17 X dX6_takes_13 (by decide) ?_
      refine ww_kill [1] (L' := [some (.ref (G.2.2.2 k)), none]) rfl ?_
      exact jw_X6_takes_17 X hr k hk p1 1 σ h K
theorem ct_X6_takes (l : Launch) (G : hb_Gam) (k : Nat) (hk : hb_is ΛM k 6) (p1 : Int32) (σ : hb_Mem) {x : hb_Mem} (h : fn_X6_takes k p1 σ = some x) : hb_C l yX6_takes cX6_takes 2 none 0 0 ΛM G [.ref (G.2.2.2 k), .int p1] σ none x :=
  hb_C.of [some (.ref (G.2.2.2 k)), some (.int p1)] (by decide +kernel) (Nat.le_of_ble_eq_true rfl) (by intro v hv; simp only [List.mem_cons, List.not_mem_nil, or_false] at hv; rcases hv with rfl | rfl <;> rfl) rfl (hb_pad [.ref (G.2.2.2 k), .int p1] 0) (fun Γ X hr => wk_X6_takes X hr k hk p1 σ h rfl)
def fn_X6_number (k : Nat) (σ : hb_Mem) : Option (Int32 × hb_Mem) :=
(fn_X6_here k σ).bind fun x1 =>
hb_nm (x1 - 48) fun v2 =>
(fn_X6_here k σ).bind fun x3 =>
(fn_X6_in x3 48 57).bind fun x4 =>
(fn_X6_takes k x4 σ).bind fun x5 =>
if (x5 k 17) = 0 then (
some (v2, x5))
else (
if v2 ≤ 0 then (
some (v2, x5))
else (
(fn_X6_here k x5).bind fun x6 =>
(fn_X6_in x6 48 57).bind fun x7 =>
if x7 = 0 then (
some (v2, x5))
else (
(fn_X6_here k x5).bind fun x8 =>
if 31 < ((((10 : Int32) * v2) + x8) - 48) then (
some (v2, x5))
else (
(fn_X6_here k x5).bind fun x9 =>
hb_nm ((((10 : Int32) * v2) + x9) - 48) fun v10 =>
hb_nm (hb_up x5 k 16 ((x5 k 16) + 1)) fun σ11 =>
some (v10, σ11)))))
set_option maxRecDepth 100000 in
set_option maxHeartbeats 4000000 in
theorem wk_X6_number {Γ : hb_Ctx} {G : hb_Gam} {Q : State → Prop} (X : hb_X Γ cX6_number 2 RX6 ΛM G 1 22) (hr : hb_ret Γ = (some .int)) (k : Nat) (hk : hb_is ΛM k 6) (σ : hb_Mem) {x : (Int32 × hb_Mem)} (h : fn_X6_number k σ = some x) (K : Q = hb_Q Γ ΛM G (some (.int x.1)) x.2) : hb_W Γ ΛM G 2 Q σ [some (.ref (G.2.2.2 k)), none] [] 0 := by
  unfold fn_X6_number at h
  refine ww_aload_n 1 X dX6_number_0 rfl rfl ?_
  obtain ⟨x1, hx1, h⟩ := hb_bind_of h
  refine ww_callV (ci := 6) (rest := []) (st' := [.int x1]) 4 X (ct_X6_here (hb_l Γ) G k hk σ hx1) cw_X6_216 rfl (by decide) hk rfl ⟨by decide, by decide⟩ (Nat.le_of_ble_eq_true rfl) rfl rfl dX6_number_1 rfl ?_
  refine ww_bipush (v := 48) 6 X dX6_number_4 rfl (by decide) ?_
  refine ww_isub 7 X dX6_number_6 rfl ?_
  obtain ⟨v2, ev2, h⟩ := hb_nm_of h
  rw [← ev2]
  refine ww_istore_n 8 X (L' := [some (.ref (G.2.2.2 k)), some (.int v2)]) dX6_number_7 rfl (Nat.le_of_ble_eq_true rfl) rfl ?_
  refine ww_aload_n 9 X dX6_number_8 rfl rfl ?_
  refine ww_aload_n 10 X dX6_number_9 rfl rfl ?_
  obtain ⟨x3, hx3, h⟩ := hb_bind_of h
  refine ww_callV (ci := 6) (rest := [.ref (G.2.2.2 k)]) (st' := [.int x3, .ref (G.2.2.2 k)]) 13 X (ct_X6_here (hb_l Γ) G k hk σ hx3) cw_X6_216 rfl (by decide) hk rfl ⟨by decide, by decide⟩ (Nat.le_of_ble_eq_true rfl) rfl rfl dX6_number_10 rfl ?_
  refine ww_bipush (v := 48) 15 X dX6_number_13 rfl (by decide) ?_
  refine ww_bipush (v := 57) 17 X dX6_number_15 rfl (by decide) ?_
  obtain ⟨x4, hx4, h⟩ := hb_bind_of h
  refine ww_callS (rest := [.ref (G.2.2.2 k)]) (st' := [.int x4, .ref (G.2.2.2 k)]) 20 X (ct_X6_in (hb_l Γ) G x3 48 57 σ hx4) cw_X6_50 rfl ⟨by decide, by decide⟩ (Nat.le_of_ble_eq_true rfl) rfl rfl dX6_number_17 rfl ?_
  obtain ⟨x5, hx5, h⟩ := hb_bind_of h
  refine ww_callV (ci := 6) (rest := []) (st' := []) 23 X (ct_X6_takes (hb_l Γ) G k hk x4 σ hx5) cw_X6_219 rfl (by decide) hk rfl ⟨by decide, by decide⟩ (Nat.le_of_ble_eq_true rfl) rfl rfl dX6_number_20 rfl ?_
  refine ww_aload_n 24 X dX6_number_23 rfl rfl ?_
  refine ww_geti (ci := 6) (j := 17) 27 X cf_6 tw_X6_213 (by decide) rfl hk dX6_number_24 rfl ?_
  refine ww_if_eq 88 30 X dX6_number_27 (by decide) rfl h (fun h => ?_) (fun h => ?_)
  · skip
    refine ww_iload_n 89 X dX6_number_88 rfl rfl ?_
    obtain rfl := Option.some.inj h
    exact ww_ret_i X hr K dX6_number_89
  · skip
    refine ww_iload_n 31 X dX6_number_30 rfl rfl ?_
    refine ww_if_le 88 34 X dX6_number_31 (by decide) rfl h (fun h => ?_) (fun h => ?_)
    · skip
      refine ww_iload_n 89 X dX6_number_88 rfl rfl ?_
      obtain rfl := Option.some.inj h
      exact ww_ret_i X hr K dX6_number_89
    · skip
      refine ww_aload_n 35 X dX6_number_34 rfl rfl ?_
      obtain ⟨x6, hx6, h⟩ := hb_bind_of h
      refine ww_callV (ci := 6) (rest := []) (st' := [.int x6]) 38 X (ct_X6_here (hb_l Γ) G k hk x5 hx6) cw_X6_216 rfl (by decide) hk rfl ⟨by decide, by decide⟩ (Nat.le_of_ble_eq_true rfl) rfl rfl dX6_number_35 rfl ?_
      refine ww_bipush (v := 48) 40 X dX6_number_38 rfl (by decide) ?_
      refine ww_bipush (v := 57) 42 X dX6_number_40 rfl (by decide) ?_
      obtain ⟨x7, hx7, h⟩ := hb_bind_of h
      refine ww_callS (rest := []) (st' := [.int x7]) 45 X (ct_X6_in (hb_l Γ) G x6 48 57 x5 hx7) cw_X6_50 rfl ⟨by decide, by decide⟩ (Nat.le_of_ble_eq_true rfl) rfl rfl dX6_number_42 rfl ?_
      refine ww_if_eq 88 48 X dX6_number_45 (by decide) rfl h (fun h => ?_) (fun h => ?_)
      · skip
        refine ww_iload_n 89 X dX6_number_88 rfl rfl ?_
        obtain rfl := Option.some.inj h
        exact ww_ret_i X hr K dX6_number_89
      · skip
        refine ww_bipush (v := 10) 50 X dX6_number_48 rfl (by decide) ?_
        refine ww_iload_n 51 X dX6_number_50 rfl rfl ?_
        refine ww_imul 52 X dX6_number_51 rfl ?_
        refine ww_aload_n 53 X dX6_number_52 rfl rfl ?_
        obtain ⟨x8, hx8, h⟩ := hb_bind_of h
        refine ww_callV (ci := 6) (rest := [.int ((10 : Int32) * v2)]) (st' := [.int x8, .int ((10 : Int32) * v2)]) 56 X (ct_X6_here (hb_l Γ) G k hk x5 hx8) cw_X6_216 rfl (by decide) hk rfl ⟨by decide, by decide⟩ (Nat.le_of_ble_eq_true rfl) rfl rfl dX6_number_53 rfl ?_
        refine ww_iadd 57 X dX6_number_56 rfl ?_
        refine ww_bipush (v := 48) 59 X dX6_number_57 rfl (by decide) ?_
        refine ww_isub 60 X dX6_number_59 rfl ?_
        refine ww_bipush (v := 31) 62 X dX6_number_60 rfl (by decide) ?_
        refine ww_icmp_gt 88 65 X dX6_number_62 (by decide) rfl h (fun h => ?_) (fun h => ?_)
        · skip
          refine ww_iload_n 89 X dX6_number_88 rfl rfl ?_
          obtain rfl := Option.some.inj h
          exact ww_ret_i X hr K dX6_number_89
        · skip
          refine ww_bipush (v := 10) 67 X dX6_number_65 rfl (by decide) ?_
          refine ww_iload_n 68 X dX6_number_67 rfl rfl ?_
          refine ww_imul 69 X dX6_number_68 rfl ?_
          refine ww_aload_n 70 X dX6_number_69 rfl rfl ?_
          obtain ⟨x9, hx9, h⟩ := hb_bind_of h
          refine ww_callV (ci := 6) (rest := [.int ((10 : Int32) * v2)]) (st' := [.int x9, .int ((10 : Int32) * v2)]) 73 X (ct_X6_here (hb_l Γ) G k hk x5 hx9) cw_X6_216 rfl (by decide) hk rfl ⟨by decide, by decide⟩ (Nat.le_of_ble_eq_true rfl) rfl rfl dX6_number_70 rfl ?_
          refine ww_iadd 74 X dX6_number_73 rfl ?_
          refine ww_bipush (v := 48) 76 X dX6_number_74 rfl (by decide) ?_
          refine ww_isub 77 X dX6_number_76 rfl ?_
          obtain ⟨v10, ev10, h⟩ := hb_nm_of h
          rw [← ev10]
          refine ww_istore_n 78 X (L' := [some (.ref (G.2.2.2 k)), some (.int v10)]) dX6_number_77 rfl (Nat.le_of_ble_eq_true rfl) rfl ?_
          refine ww_aload_n 79 X dX6_number_78 rfl rfl ?_
          refine ww_dup 80 X dX6_number_79 rfl rfl ?_
          refine ww_geti (ci := 6) (j := 16) 83 X cf_6 tw_X6_210 (by decide) rfl hk dX6_number_80 rfl ?_
          refine ww_iconst (v := 1) 84 X dX6_number_83 rfl (by decide) ?_
          refine ww_iadd 85 X dX6_number_84 rfl ?_
          obtain ⟨σ11, eσ11, h⟩ := hb_nm_of h
          refine ww_put (ci := 6) (j := 16) (ty := .int) 88 X cf_6 cg_6 tw_X6_210 (by decide) rfl rfl rfl rfl rfl hk eσ11.symm dX6_number_85 rfl ?_
          refine ww_iload_n 89 X dX6_number_88 rfl rfl ?_
          obtain rfl := Option.some.inj h
          exact ww_ret_i X hr K dX6_number_89
theorem ct_X6_number (l : Launch) (G : hb_Gam) (k : Nat) (hk : hb_is ΛM k 6) (σ : hb_Mem) {x : (Int32 × hb_Mem)} (h : fn_X6_number k σ = some x) : hb_C l yX6_number cX6_number 2 (some .int) 1 22 ΛM G [.ref (G.2.2.2 k)] σ (some (.int x.1)) x.2 :=
  hb_C.of [some (.ref (G.2.2.2 k)), none] (by decide +kernel) (Nat.le_of_ble_eq_true rfl) (by intro v hv; simp only [List.mem_cons, List.not_mem_nil, or_false] at hv; subst hv; rfl) rfl (hb_pad [.ref (G.2.2.2 k)] 1) (fun Γ X hr => wk_X6_number X hr k hk σ h rfl)
def lb_X6_flags_56 (k : Nat) (p1 : Int32) (w2 : Int32) (w3 : Int32) (σ : hb_Mem) : Option ((Int32 × Int32 × hb_Mem) ⊕ (Int32 × hb_Mem)) :=
if (σ k 17) = 0 then (
some (.inr (w2, σ)))
else (
(fn_X6_here k σ).bind fun x7 =>
(fn_X6_in x7 (w3 + 1) 101).bind fun x8 =>
if x8 = 0 then (
some (.inr (w2, σ)))
else (
(fn_X6_here k σ).bind fun x9 =>
hb_nm (w2 ||| ((1 : Int32) <<< ((x9 - 97) &&& 31))) fun v10 =>
hb_nm (hb_up σ k 16 ((σ k 16) + 1)) fun σ11 =>
some (.inl (v10, x9, σ11))))
set_option maxRecDepth 100000 in
set_option maxHeartbeats 4000000 in
theorem lk_X6_flags_56 {Γ : hb_Ctx} {G : hb_Gam} {Q : State → Prop} (X : hb_X Γ cX6_flags 4 RX6 ΛM G 1 22)  (k : Nat) (hk : hb_is ΛM k 6) (p1 : Int32) (w2 : Int32) (w3 : Int32) (σ : hb_Mem) {x : ((Int32 × Int32 × hb_Mem) ⊕ (Int32 × hb_Mem))} (h : lb_X6_flags_56 k p1 w2 w3 σ = some x) (K : Sum.elim (fun s : (Int32 × Int32 × hb_Mem) => hb_W Γ ΛM G 4 Q s.2.2 [some (.ref (G.2.2.2 k)), none, some (.int s.1), some (.int s.2.1)] [] 56) (fun t : (Int32 × hb_Mem) => hb_W Γ ΛM G 4 Q t.2 [none, none, some (.int t.1), none] [] 105) x) : hb_W Γ ΛM G 4 Q σ [some (.ref (G.2.2.2 k)), none, some (.int w2), some (.int w3)] [] 56 := by
  unfold lb_X6_flags_56 at h
  refine ww_aload_n 57 X dX6_flags_56 rfl rfl ?_
  refine ww_geti (ci := 6) (j := 17) 60 X cf_6 tw_X6_213 (by decide) rfl hk dX6_flags_57 rfl ?_
  refine ww_if_eq 105 63 X dX6_flags_60 (by decide) rfl h (fun h => ?_) (fun h => ?_)
  · skip
    obtain rfl := Option.some.inj h
    refine ww_kill [0, 3] (L' := [none, none, some (.int w2), none]) rfl ?_
    exact K
  · skip
    refine ww_aload_n 64 X dX6_flags_63 rfl rfl ?_
    obtain ⟨x7, hx7, h⟩ := hb_bind_of h
    refine ww_callV (ci := 6) (rest := []) (st' := [.int x7]) 67 X (ct_X6_here (hb_l Γ) G k hk σ hx7) cw_X6_216 rfl (by decide) hk rfl ⟨by decide, by decide⟩ (Nat.le_of_ble_eq_true rfl) rfl rfl dX6_flags_64 rfl ?_
    refine ww_iload_n 68 X dX6_flags_67 rfl rfl ?_
    refine ww_iconst (v := 1) 69 X dX6_flags_68 rfl (by decide) ?_
    refine ww_iadd 70 X dX6_flags_69 rfl ?_
    refine ww_bipush (v := 101) 72 X dX6_flags_70 rfl (by decide) ?_
    obtain ⟨x8, hx8, h⟩ := hb_bind_of h
    refine ww_callS (rest := []) (st' := [.int x8]) 75 X (ct_X6_in (hb_l Γ) G x7 (w3 + 1) 101 σ hx8) cw_X6_50 rfl ⟨by decide, by decide⟩ (Nat.le_of_ble_eq_true rfl) rfl rfl dX6_flags_72 rfl ?_
    refine ww_if_eq 105 78 X dX6_flags_75 (by decide) rfl h (fun h => ?_) (fun h => ?_)
    · skip
      obtain rfl := Option.some.inj h
      refine ww_kill [0, 3] (L' := [none, none, some (.int w2), none]) rfl ?_
      exact K
    · skip
      refine ww_aload_n 79 X dX6_flags_78 rfl rfl ?_
      obtain ⟨x9, hx9, h⟩ := hb_bind_of h
      refine ww_callV (ci := 6) (rest := []) (st' := [.int x9]) 82 X (ct_X6_here (hb_l Γ) G k hk σ hx9) cw_X6_216 rfl (by decide) hk rfl ⟨by decide, by decide⟩ (Nat.le_of_ble_eq_true rfl) rfl rfl dX6_flags_79 rfl ?_
      refine ww_istore_n 83 X (L' := [some (.ref (G.2.2.2 k)), none, some (.int w2), some (.int x9)]) dX6_flags_82 rfl (Nat.le_of_ble_eq_true rfl) rfl ?_
      refine ww_iload_n 84 X dX6_flags_83 rfl rfl ?_
      refine ww_iconst (v := 1) 85 X dX6_flags_84 rfl (by decide) ?_
      refine ww_iload_n 86 X dX6_flags_85 rfl rfl ?_
      refine ww_bipush (v := 97) 88 X dX6_flags_86 rfl (by decide) ?_
      refine ww_isub 89 X dX6_flags_88 rfl ?_
      refine ww_ishl 90 X dX6_flags_89 rfl ?_
      refine ww_ior 91 X dX6_flags_90 rfl ?_
      obtain ⟨v10, ev10, h⟩ := hb_nm_of h
      rw [← ev10]
      refine ww_istore_n 92 X (L' := [some (.ref (G.2.2.2 k)), none, some (.int v10), some (.int x9)]) dX6_flags_91 rfl (Nat.le_of_ble_eq_true rfl) rfl ?_
      refine ww_aload_n 93 X dX6_flags_92 rfl rfl ?_
      refine ww_dup 94 X dX6_flags_93 rfl rfl ?_
      refine ww_geti (ci := 6) (j := 16) 97 X cf_6 tw_X6_210 (by decide) rfl hk dX6_flags_94 rfl ?_
      refine ww_iconst (v := 1) 98 X dX6_flags_97 rfl (by decide) ?_
      refine ww_iadd 99 X dX6_flags_98 rfl ?_
      obtain ⟨σ11, eσ11, h⟩ := hb_nm_of h
      refine ww_put (ci := 6) (j := 16) (ty := .int) 102 X cf_6 cg_6 tw_X6_210 (by decide) rfl rfl rfl rfl rfl hk eσ11.symm dX6_flags_99 rfl ?_
      refine ww_goto 56 X dX6_flags_102 (by decide) ?_
      obtain rfl := Option.some.inj h
      exact K
def ll_X6_flags_56 (k : Nat) (p1 : Int32) : (Int32 × Int32 × hb_Mem) → Option (Int32 × hb_Mem) := hb_lp (fun s => lb_X6_flags_56 k p1 s.1 s.2.1 s.2.2) hb_F
theorem lw_X6_flags_56 {Γ : hb_Ctx} {G : hb_Gam} {Q : State → Prop} (X : hb_X Γ cX6_flags 4 RX6 ΛM G 1 22)  (k : Nat) (hk : hb_is ΛM k 6) (p1 : Int32) (s : (Int32 × Int32 × hb_Mem)) (t : (Int32 × hb_Mem)) (h : ll_X6_flags_56 k p1 s = some t) (K : (fun t : (Int32 × hb_Mem) => hb_W Γ ΛM G 4 Q t.2 [none, none, some (.int t.1), none] [] 105) t) : hb_W Γ ΛM G 4 Q s.2.2 [some (.ref (G.2.2.2 k)), none, some (.int s.1), some (.int s.2.1)] [] 56 :=
  hb_lp_w (P := fun s : (Int32 × Int32 × hb_Mem) => hb_W Γ ΛM G 4 Q s.2.2 [some (.ref (G.2.2.2 k)), none, some (.int s.1), some (.int s.2.1)] [] 56) (E := (fun t : (Int32 × hb_Mem) => hb_W Γ ΛM G 4 Q t.2 [none, none, some (.int t.1), none] [] 105)) (fun s x hx K => lk_X6_flags_56 X k hk p1 s.1 s.2.1 s.2.2 hx K) _ s t h K
def fn_X6_flags (k : Nat) (p1 : Int32) (σ : hb_Mem) : Option (Int32 × hb_Mem) :=
(fn_X6_here k σ).bind fun x1 =>
if x1 = p1 then (
hb_nm (hb_up σ k 16 ((σ k 16) + 1)) fun σ2 =>
(fn_X6_here k σ2).bind fun x3 =>
(fn_X6_here k σ2).bind fun x4 =>
(fn_X6_in x4 97 101).bind fun x5 =>
(fn_X6_takes k x5 σ2).bind fun x6 =>
if (x6 k 17) = 0 then (
(ll_X6_flags_56 k p1 (0, x3, x6)).bind fun t12 =>
some (t12.1, t12.2))
else (
hb_nm ((1 : Int32) <<< ((x3 - 97) &&& 31)) fun v13 =>
(ll_X6_flags_56 k p1 (v13, x3, x6)).bind fun t14 =>
some (t14.1, t14.2)))
else (
some (0, σ))
set_option maxRecDepth 100000 in
set_option maxHeartbeats 4000000 in
theorem wk_X6_flags {Γ : hb_Ctx} {G : hb_Gam} {Q : State → Prop} (X : hb_X Γ cX6_flags 4 RX6 ΛM G 1 22) (hr : hb_ret Γ = (some .int)) (k : Nat) (hk : hb_is ΛM k 6) (p1 : Int32) (σ : hb_Mem) {x : (Int32 × hb_Mem)} (h : fn_X6_flags k p1 σ = some x) (K : Q = hb_Q Γ ΛM G (some (.int x.1)) x.2) : hb_W Γ ΛM G 4 Q σ [some (.ref (G.2.2.2 k)), some (.int p1), none, none] [] 0 := by
  unfold fn_X6_flags at h
  refine ww_aload_n 1 X dX6_flags_0 rfl rfl ?_
  obtain ⟨x1, hx1, h⟩ := hb_bind_of h
  refine ww_callV (ci := 6) (rest := []) (st' := [.int x1]) 4 X (ct_X6_here (hb_l Γ) G k hk σ hx1) cw_X6_216 rfl (by decide) hk rfl ⟨by decide, by decide⟩ (Nat.le_of_ble_eq_true rfl) rfl rfl dX6_flags_1 rfl ?_
  refine ww_iload_n 5 X dX6_flags_4 rfl rfl ?_
  refine ww_icmp_eq 10 8 X dX6_flags_5 (by decide) rfl h (fun h => ?_) (fun h => ?_)
  · skip
    refine ww_aload_n 11 X dX6_flags_10 rfl rfl ?_
    refine ww_dup 12 X dX6_flags_11 rfl rfl ?_
    refine ww_geti (ci := 6) (j := 16) 15 X cf_6 tw_X6_210 (by decide) rfl hk dX6_flags_12 rfl ?_
    refine ww_iconst (v := 1) 16 X dX6_flags_15 rfl (by decide) ?_
    refine ww_iadd 17 X dX6_flags_16 rfl ?_
    obtain ⟨σ2, eσ2, h⟩ := hb_nm_of h
    refine ww_put (ci := 6) (j := 16) (ty := .int) 20 X cf_6 cg_6 tw_X6_210 (by decide) rfl rfl rfl rfl rfl hk eσ2.symm dX6_flags_17 rfl ?_
    refine ww_iconst (v := 0) 21 X dX6_flags_20 rfl (by decide) ?_
    refine ww_istore_n 22 X (L' := [some (.ref (G.2.2.2 k)), some (.int p1), some (.int 0), none]) dX6_flags_21 rfl (Nat.le_of_ble_eq_true rfl) rfl ?_
    refine ww_aload_n 23 X dX6_flags_22 rfl rfl ?_
    obtain ⟨x3, hx3, h⟩ := hb_bind_of h
    refine ww_callV (ci := 6) (rest := []) (st' := [.int x3]) 26 X (ct_X6_here (hb_l Γ) G k hk σ2 hx3) cw_X6_216 rfl (by decide) hk rfl ⟨by decide, by decide⟩ (Nat.le_of_ble_eq_true rfl) rfl rfl dX6_flags_23 rfl ?_
    refine ww_istore_n 27 X (L' := [some (.ref (G.2.2.2 k)), some (.int p1), some (.int 0), some (.int x3)]) dX6_flags_26 rfl (Nat.le_of_ble_eq_true rfl) rfl ?_
    refine ww_aload_n 28 X dX6_flags_27 rfl rfl ?_
    refine ww_aload_n 29 X dX6_flags_28 rfl rfl ?_
    obtain ⟨x4, hx4, h⟩ := hb_bind_of h
    refine ww_callV (ci := 6) (rest := [.ref (G.2.2.2 k)]) (st' := [.int x4, .ref (G.2.2.2 k)]) 32 X (ct_X6_here (hb_l Γ) G k hk σ2 hx4) cw_X6_216 rfl (by decide) hk rfl ⟨by decide, by decide⟩ (Nat.le_of_ble_eq_true rfl) rfl rfl dX6_flags_29 rfl ?_
    refine ww_bipush (v := 97) 34 X dX6_flags_32 rfl (by decide) ?_
    refine ww_bipush (v := 101) 36 X dX6_flags_34 rfl (by decide) ?_
    obtain ⟨x5, hx5, h⟩ := hb_bind_of h
    refine ww_callS (rest := [.ref (G.2.2.2 k)]) (st' := [.int x5, .ref (G.2.2.2 k)]) 39 X (ct_X6_in (hb_l Γ) G x4 97 101 σ2 hx5) cw_X6_50 rfl ⟨by decide, by decide⟩ (Nat.le_of_ble_eq_true rfl) rfl rfl dX6_flags_36 rfl ?_
    obtain ⟨x6, hx6, h⟩ := hb_bind_of h
    refine ww_callV (ci := 6) (rest := []) (st' := []) 42 X (ct_X6_takes (hb_l Γ) G k hk x5 σ2 hx6) cw_X6_219 rfl (by decide) hk rfl ⟨by decide, by decide⟩ (Nat.le_of_ble_eq_true rfl) rfl rfl dX6_flags_39 rfl ?_
    refine ww_aload_n 43 X dX6_flags_42 rfl rfl ?_
    refine ww_geti (ci := 6) (j := 17) 46 X cf_6 tw_X6_213 (by decide) rfl hk dX6_flags_43 rfl ?_
    refine ww_if_eq 56 49 X dX6_flags_46 (by decide) rfl h (fun h => ?_) (fun h => ?_)
    · skip
      obtain ⟨t12, ht12, h⟩ := hb_bind_of h
      refine ww_kill [1] (L' := [some (.ref (G.2.2.2 k)), none, some (.int 0), some (.int x3)]) rfl ?_
      refine lw_X6_flags_56 X k hk p1 (0, x3, x6) t12 ht12 ?_
      refine ww_iload_n 106 X dX6_flags_105 rfl rfl ?_
      obtain rfl := Option.some.inj h
      exact ww_ret_i X hr K dX6_flags_106
    · skip
      refine ww_iconst (v := 1) 50 X dX6_flags_49 rfl (by decide) ?_
      refine ww_iload_n 51 X dX6_flags_50 rfl rfl ?_
      refine ww_bipush (v := 97) 53 X dX6_flags_51 rfl (by decide) ?_
      refine ww_isub 54 X dX6_flags_53 rfl ?_
      refine ww_ishl 55 X dX6_flags_54 rfl ?_
      obtain ⟨v13, ev13, h⟩ := hb_nm_of h
      rw [← ev13]
      refine ww_istore_n 56 X (L' := [some (.ref (G.2.2.2 k)), some (.int p1), some (.int v13), some (.int x3)]) dX6_flags_55 rfl (Nat.le_of_ble_eq_true rfl) rfl ?_
      obtain ⟨t14, ht14, h⟩ := hb_bind_of h
      refine ww_kill [1] (L' := [some (.ref (G.2.2.2 k)), none, some (.int v13), some (.int x3)]) rfl ?_
      refine lw_X6_flags_56 X k hk p1 (v13, x3, x6) t14 ht14 ?_
      refine ww_iload_n 106 X dX6_flags_105 rfl rfl ?_
      obtain rfl := Option.some.inj h
      exact ww_ret_i X hr K dX6_flags_106
  · skip
    refine ww_iconst (v := 0) 9 X dX6_flags_8 rfl (by decide) ?_
    obtain rfl := Option.some.inj h
    exact ww_ret_i X hr K dX6_flags_9
theorem ct_X6_flags (l : Launch) (G : hb_Gam) (k : Nat) (hk : hb_is ΛM k 6) (p1 : Int32) (σ : hb_Mem) {x : (Int32 × hb_Mem)} (h : fn_X6_flags k p1 σ = some x) : hb_C l yX6_flags cX6_flags 4 (some .int) 1 22 ΛM G [.ref (G.2.2.2 k), .int p1] σ (some (.int x.1)) x.2 :=
  hb_C.of [some (.ref (G.2.2.2 k)), some (.int p1), none, none] (by decide +kernel) (Nat.le_of_ble_eq_true rfl) (by intro v hv; simp only [List.mem_cons, List.not_mem_nil, or_false] at hv; rcases hv with rfl | rfl <;> rfl) rfl (hb_pad [.ref (G.2.2.2 k), .int p1] 2) (fun Γ X hr => wk_X6_flags X hr k hk p1 σ h rfl)
def jn_X6_takesChoice_96 (k : Nat) (s1 : Int32) (s2 : Int32) (σ : hb_Mem) : Option hb_Mem :=
(hb_st ΛM σ (hm_rf k 18) s1 s2).bind fun σ9 =>
hb_nm (hb_up σ9 k 19 ((σ9 k 19) + 1)) fun σ10 =>
some σ10
set_option maxRecDepth 100000 in
set_option maxHeartbeats 4000000 in
theorem jw_X6_takesChoice_96 {Γ : hb_Ctx} {G : hb_Gam} {Q : State → Prop} (X : hb_X Γ cX6_takesChoice 2 RX6 ΛM G 2 45) (hr : hb_ret Γ = none) (k : Nat) (hk : hb_is ΛM k 6) (s1 : Int32) (s2 : Int32) (σ : hb_Mem) {x : hb_Mem} (h : jn_X6_takesChoice_96 k s1 s2 σ = some x) (K : Q = hb_Q Γ ΛM G none x) : hb_W Γ ΛM G 2 Q σ [some (.ref (G.2.2.2 k)), none] [.int s2, .int s1, .ref (G.2.2.2 (hm_rf k 18))] 96 := by
  unfold jn_X6_takesChoice_96 at h
  obtain ⟨σ9, hσ9, h⟩ := hb_bind_of h
  refine ww_iast 97 X (hm_kr_6_18 hk) hσ9 dX6_takesChoice_96 rfl ?_
  refine ww_aload_n 98 X dX6_takesChoice_97 rfl rfl ?_
  refine ww_dup 99 X dX6_takesChoice_98 rfl rfl ?_
  refine ww_geti (ci := 6) (j := 19) 102 X cf_6 tw_X6_223 (by decide) rfl hk dX6_takesChoice_99 rfl ?_
  refine ww_iconst (v := 1) 103 X dX6_takesChoice_102 rfl (by decide) ?_
  refine ww_iadd 104 X dX6_takesChoice_103 rfl ?_
  obtain ⟨σ10, eσ10, h⟩ := hb_nm_of h
  refine ww_put (ci := 6) (j := 19) (ty := .int) 107 X cf_6 cg_6 tw_X6_223 (by decide) rfl rfl rfl rfl rfl hk eσ10.symm dX6_takesChoice_104 rfl ?_
  obtain rfl := Option.some.inj h
  exact ww_ret_v X hr K dX6_takesChoice_107
def jn_X6_takesChoice_71 (k : Nat) (j1 : Int32) (s1 : Int32) (s2 : Int32) (σ : hb_Mem) : Option hb_Mem :=
(hb_st ΛM σ (hm_rf k 18) s1 s2).bind fun σ8 =>
if (σ8 k 17) = 0 then (
jn_X6_takesChoice_96 k (j1 + 3) 0 σ8)
else (
(fn_X6_flags k 45 σ8).bind fun x11 =>
jn_X6_takesChoice_96 k (j1 + 3) x11.1 x11.2)
set_option maxRecDepth 100000 in
set_option maxHeartbeats 4000000 in
theorem jw_X6_takesChoice_71 {Γ : hb_Ctx} {G : hb_Gam} {Q : State → Prop} (X : hb_X Γ cX6_takesChoice 2 RX6 ΛM G 2 45) (hr : hb_ret Γ = none) (k : Nat) (hk : hb_is ΛM k 6) (j1 : Int32) (s1 : Int32) (s2 : Int32) (σ : hb_Mem) {x : hb_Mem} (h : jn_X6_takesChoice_71 k j1 s1 s2 σ = some x) (K : Q = hb_Q Γ ΛM G none x) : hb_W Γ ΛM G 2 Q σ [some (.ref (G.2.2.2 k)), some (.int j1)] [.int s2, .int s1, .ref (G.2.2.2 (hm_rf k 18))] 71 := by
  unfold jn_X6_takesChoice_71 at h
  obtain ⟨σ8, hσ8, h⟩ := hb_bind_of h
  refine ww_iast 72 X (hm_kr_6_18 hk) hσ8 dX6_takesChoice_71 rfl ?_
  refine ww_aload_n 73 X dX6_takesChoice_72 rfl rfl ?_
  refine ww_getr (ci := 6) (j := 18) 76 X cf_6 tw_X6_43 (by decide) rfl hk dX6_takesChoice_73 rfl ?_
  refine ww_iload_n 77 X dX6_takesChoice_76 rfl rfl ?_
  refine ww_iconst (v := 3) 78 X dX6_takesChoice_77 rfl (by decide) ?_
  refine ww_iadd 79 X dX6_takesChoice_78 rfl ?_
  refine ww_aload_n 80 X dX6_takesChoice_79 rfl rfl ?_
  refine ww_geti (ci := 6) (j := 17) 83 X cf_6 tw_X6_213 (by decide) rfl hk dX6_takesChoice_80 rfl ?_
  refine ww_if_eq 95 86 X dX6_takesChoice_83 (by decide) rfl h (fun h => ?_) (fun h => ?_)
  · skip
    refine ww_iconst (v := 0) 96 X dX6_takesChoice_95 rfl (by decide) ?_
    refine ww_kill [1] (L' := [some (.ref (G.2.2.2 k)), none]) rfl ?_
    exact jw_X6_takesChoice_96 X hr k hk (j1 + 3) 0 σ8 h K
  · skip
    refine ww_aload_n 87 X dX6_takesChoice_86 rfl rfl ?_
    refine ww_bipush (v := 45) 89 X dX6_takesChoice_87 rfl (by decide) ?_
    obtain ⟨x11, hx11, h⟩ := hb_bind_of h
    refine ww_callV (ci := 6) (rest := [.int (j1 + 3), .ref (G.2.2.2 (hm_rf k 18))]) (st' := [.int x11.1, .int (j1 + 3), .ref (G.2.2.2 (hm_rf k 18))]) 92 X (ct_X6_flags (hb_l Γ) G k hk 45 σ8 hx11) cw_X6_229 rfl (by decide) hk rfl ⟨by decide, by decide⟩ (Nat.le_of_ble_eq_true rfl) rfl rfl dX6_takesChoice_89 rfl ?_
    refine ww_goto 96 X dX6_takesChoice_92 (by decide) ?_
    refine ww_kill [1] (L' := [some (.ref (G.2.2.2 k)), none]) rfl ?_
    exact jw_X6_takesChoice_96 X hr k hk (j1 + 3) x11.1 x11.2 h K
def jn_X6_takesChoice_32 (k : Nat) (j1 : Int32) (s1 : Int32) (σ : hb_Mem) : Option hb_Mem :=
(fn_X6_takes k s1 σ).bind fun x5 =>
(fn_X6_number k x5).bind fun x6 =>
(hb_st ΛM x6.2 (hm_rf k 18) (j1 + 1) x6.1).bind fun σ7 =>
if (σ7 k 17) = 0 then (
jn_X6_takesChoice_71 k j1 (j1 + 2) 0 σ7)
else (
(fn_X6_flags k 43 σ7).bind fun x12 =>
jn_X6_takesChoice_71 k j1 (j1 + 2) x12.1 x12.2)
set_option maxRecDepth 100000 in
set_option maxHeartbeats 4000000 in
theorem jw_X6_takesChoice_32 {Γ : hb_Ctx} {G : hb_Gam} {Q : State → Prop} (X : hb_X Γ cX6_takesChoice 2 RX6 ΛM G 2 45) (hr : hb_ret Γ = none) (k : Nat) (hk : hb_is ΛM k 6) (j1 : Int32) (s1 : Int32) (σ : hb_Mem) {x : hb_Mem} (h : jn_X6_takesChoice_32 k j1 s1 σ = some x) (K : Q = hb_Q Γ ΛM G none x) : hb_W Γ ΛM G 2 Q σ [some (.ref (G.2.2.2 k)), some (.int j1)] [.int s1, .ref (G.2.2.2 k)] 32 := by
  unfold jn_X6_takesChoice_32 at h
  obtain ⟨x5, hx5, h⟩ := hb_bind_of h
  refine ww_callV (ci := 6) (rest := []) (st' := []) 35 X (ct_X6_takes (hb_l Γ) G k hk s1 σ hx5) cw_X6_219 rfl (by decide) hk rfl ⟨by decide, by decide⟩ (Nat.le_of_ble_eq_true rfl) rfl rfl dX6_takesChoice_32 rfl ?_
  refine ww_aload_n 36 X dX6_takesChoice_35 rfl rfl ?_
  refine ww_getr (ci := 6) (j := 18) 39 X cf_6 tw_X6_43 (by decide) rfl hk dX6_takesChoice_36 rfl ?_
  refine ww_iload_n 40 X dX6_takesChoice_39 rfl rfl ?_
  refine ww_iconst (v := 1) 41 X dX6_takesChoice_40 rfl (by decide) ?_
  refine ww_iadd 42 X dX6_takesChoice_41 rfl ?_
  refine ww_aload_n 43 X dX6_takesChoice_42 rfl rfl ?_
  obtain ⟨x6, hx6, h⟩ := hb_bind_of h
  refine ww_callV (ci := 6) (rest := [.int (j1 + 1), .ref (G.2.2.2 (hm_rf k 18))]) (st' := [.int x6.1, .int (j1 + 1), .ref (G.2.2.2 (hm_rf k 18))]) 46 X (ct_X6_number (hb_l Γ) G k hk x5 hx6) cw_X6_226 rfl (by decide) hk rfl ⟨by decide, by decide⟩ (Nat.le_of_ble_eq_true rfl) rfl rfl dX6_takesChoice_43 rfl ?_
  obtain ⟨σ7, hσ7, h⟩ := hb_bind_of h
  refine ww_iast 47 X (hm_kr_6_18 hk) hσ7 dX6_takesChoice_46 rfl ?_
  refine ww_aload_n 48 X dX6_takesChoice_47 rfl rfl ?_
  refine ww_getr (ci := 6) (j := 18) 51 X cf_6 tw_X6_43 (by decide) rfl hk dX6_takesChoice_48 rfl ?_
  refine ww_iload_n 52 X dX6_takesChoice_51 rfl rfl ?_
  refine ww_iconst (v := 2) 53 X dX6_takesChoice_52 rfl (by decide) ?_
  refine ww_iadd 54 X dX6_takesChoice_53 rfl ?_
  refine ww_aload_n 55 X dX6_takesChoice_54 rfl rfl ?_
  refine ww_geti (ci := 6) (j := 17) 58 X cf_6 tw_X6_213 (by decide) rfl hk dX6_takesChoice_55 rfl ?_
  refine ww_if_eq 70 61 X dX6_takesChoice_58 (by decide) rfl h (fun h => ?_) (fun h => ?_)
  · skip
    refine ww_iconst (v := 0) 71 X dX6_takesChoice_70 rfl (by decide) ?_
    exact jw_X6_takesChoice_71 X hr k hk j1 (j1 + 2) 0 σ7 h K
  · skip
    refine ww_aload_n 62 X dX6_takesChoice_61 rfl rfl ?_
    refine ww_bipush (v := 43) 64 X dX6_takesChoice_62 rfl (by decide) ?_
    obtain ⟨x12, hx12, h⟩ := hb_bind_of h
    refine ww_callV (ci := 6) (rest := [.int (j1 + 2), .ref (G.2.2.2 (hm_rf k 18))]) (st' := [.int x12.1, .int (j1 + 2), .ref (G.2.2.2 (hm_rf k 18))]) 67 X (ct_X6_flags (hb_l Γ) G k hk 43 σ7 hx12) cw_X6_229 rfl (by decide) hk rfl ⟨by decide, by decide⟩ (Nat.le_of_ble_eq_true rfl) rfl rfl dX6_takesChoice_64 rfl ?_
    refine ww_goto 71 X dX6_takesChoice_67 (by decide) ?_
    exact jw_X6_takesChoice_71 X hr k hk j1 (j1 + 2) x12.1 x12.2 h K
def fn_X6_takesChoice (k : Nat) (σ : hb_Mem) : Option hb_Mem :=
hb_nm ((4 : Int32) * (σ k 19)) fun v1 =>
(fn_X6_number k σ).bind fun x2 =>
(hb_st ΛM x2.2 (hm_rf k 18) v1 x2.1).bind fun σ3 =>
(fn_X6_here k σ3).bind fun x4 =>
if x4 = 62 then (
jn_X6_takesChoice_32 k v1 1 σ3)
else (
jn_X6_takesChoice_32 k v1 0 σ3)
set_option maxRecDepth 100000 in
set_option maxHeartbeats 4000000 in
theorem wk_X6_takesChoice {Γ : hb_Ctx} {G : hb_Gam} {Q : State → Prop} (X : hb_X Γ cX6_takesChoice 2 RX6 ΛM G 2 45) (hr : hb_ret Γ = none) (k : Nat) (hk : hb_is ΛM k 6) (σ : hb_Mem) {x : hb_Mem} (h : fn_X6_takesChoice k σ = some x) (K : Q = hb_Q Γ ΛM G none x) : hb_W Γ ΛM G 2 Q σ [some (.ref (G.2.2.2 k)), none] [] 0 := by
  unfold fn_X6_takesChoice at h
  refine ww_iconst (v := 4) 1 X dX6_takesChoice_0 rfl (by decide) ?_
  refine ww_aload_n 2 X dX6_takesChoice_1 rfl rfl ?_
  refine ww_geti (ci := 6) (j := 19) 5 X cf_6 tw_X6_223 (by decide) rfl hk dX6_takesChoice_2 rfl ?_
  refine ww_imul 6 X dX6_takesChoice_5 rfl ?_
  obtain ⟨v1, ev1, h⟩ := hb_nm_of h
  rw [← ev1]
  refine ww_istore_n 7 X (L' := [some (.ref (G.2.2.2 k)), some (.int v1)]) dX6_takesChoice_6 rfl (Nat.le_of_ble_eq_true rfl) rfl ?_
  refine ww_aload_n 8 X dX6_takesChoice_7 rfl rfl ?_
  refine ww_getr (ci := 6) (j := 18) 11 X cf_6 tw_X6_43 (by decide) rfl hk dX6_takesChoice_8 rfl ?_
  refine ww_iload_n 12 X dX6_takesChoice_11 rfl rfl ?_
  refine ww_aload_n 13 X dX6_takesChoice_12 rfl rfl ?_
  obtain ⟨x2, hx2, h⟩ := hb_bind_of h
  refine ww_callV (ci := 6) (rest := [.int v1, .ref (G.2.2.2 (hm_rf k 18))]) (st' := [.int x2.1, .int v1, .ref (G.2.2.2 (hm_rf k 18))]) 16 X (ct_X6_number (hb_l Γ) G k hk σ hx2) cw_X6_226 rfl (by decide) hk rfl ⟨by decide, by decide⟩ (Nat.le_of_ble_eq_true rfl) rfl rfl dX6_takesChoice_13 rfl ?_
  obtain ⟨σ3, hσ3, h⟩ := hb_bind_of h
  refine ww_iast 17 X (hm_kr_6_18 hk) hσ3 dX6_takesChoice_16 rfl ?_
  refine ww_aload_n 18 X dX6_takesChoice_17 rfl rfl ?_
  refine ww_aload_n 19 X dX6_takesChoice_18 rfl rfl ?_
  obtain ⟨x4, hx4, h⟩ := hb_bind_of h
  refine ww_callV (ci := 6) (rest := [.ref (G.2.2.2 k)]) (st' := [.int x4, .ref (G.2.2.2 k)]) 22 X (ct_X6_here (hb_l Γ) G k hk σ3 hx4) cw_X6_216 rfl (by decide) hk rfl ⟨by decide, by decide⟩ (Nat.le_of_ble_eq_true rfl) rfl rfl dX6_takesChoice_19 rfl ?_
  refine ww_bipush (v := 62) 24 X dX6_takesChoice_22 rfl (by decide) ?_
  refine ww_icmp_ne 31 27 X dX6_takesChoice_24 (by decide) rfl h (fun h => ?_) (fun h => ?_)
  · skip
    refine ww_iconst (v := 1) 28 X dX6_takesChoice_27 rfl (by decide) ?_
    refine ww_goto 32 X dX6_takesChoice_28 (by decide) ?_
    exact jw_X6_takesChoice_32 X hr k hk v1 1 σ3 h K
  · skip
    refine ww_iconst (v := 0) 32 X dX6_takesChoice_31 rfl (by decide) ?_
    exact jw_X6_takesChoice_32 X hr k hk v1 0 σ3 h K
theorem ct_X6_takesChoice (l : Launch) (G : hb_Gam) (k : Nat) (hk : hb_is ΛM k 6) (σ : hb_Mem) {x : hb_Mem} (h : fn_X6_takesChoice k σ = some x) : hb_C l yX6_takesChoice cX6_takesChoice 2 none 2 45 ΛM G [.ref (G.2.2.2 k)] σ none x :=
  hb_C.of [some (.ref (G.2.2.2 k)), none] (by decide +kernel) (Nat.le_of_ble_eq_true rfl) (by intro v hv; simp only [List.mem_cons, List.not_mem_nil, or_false] at hv; subst hv; rfl) rfl (hb_pad [.ref (G.2.2.2 k)] 1) (fun Γ X hr => wk_X6_takesChoice X hr k hk σ h rfl)
def jn_X6_isRight_52 (k : Nat) (s1 : Int32) (σ : hb_Mem) : Option (hb_Mem ⊕ hb_Mem) :=
(fn_X6_takes k s1 σ).bind fun x6 =>
if (x6 k 17) = 0 then (
some (.inl x6))
else (
(fn_X6_takesChoice k x6).bind fun x7 =>
some (.inl x7))
set_option maxRecDepth 100000 in
set_option maxHeartbeats 4000000 in
theorem jw_X6_isRight_52 {Γ : hb_Ctx} {G : hb_Gam} {Q : State → Prop} (X : hb_X Γ cX6_isRight 1 RX6 ΛM G 3 66)  (k : Nat) (hk : hb_is ΛM k 6) (s1 : Int32) (σ : hb_Mem) {x : (hb_Mem ⊕ hb_Mem)} (h : jn_X6_isRight_52 k s1 σ = some x) (K : Sum.elim (fun s : hb_Mem => hb_W Γ ΛM G 1 Q s [some (.ref (G.2.2.2 k))] [] 19) (fun t : hb_Mem => hb_W Γ ΛM G 1 Q t [some (.ref (G.2.2.2 k))] [] 69) x) : hb_W Γ ΛM G 1 Q σ [some (.ref (G.2.2.2 k))] [.int s1, .ref (G.2.2.2 k)] 52 := by
  unfold jn_X6_isRight_52 at h
  obtain ⟨x6, hx6, h⟩ := hb_bind_of h
  refine ww_callV (ci := 6) (rest := []) (st' := []) 55 X (ct_X6_takes (hb_l Γ) G k hk s1 σ hx6) cw_X6_219 rfl (by decide) hk rfl ⟨by decide, by decide⟩ (Nat.le_of_ble_eq_true rfl) rfl rfl dX6_isRight_52 rfl ?_
  refine ww_aload_n 56 X dX6_isRight_55 rfl rfl ?_
  refine ww_geti (ci := 6) (j := 17) 59 X cf_6 tw_X6_213 (by decide) rfl hk dX6_isRight_56 rfl ?_
  refine ww_if_eq 19 62 X dX6_isRight_59 (by decide) rfl h (fun h => ?_) (fun h => ?_)
  · skip
    obtain rfl := Option.some.inj h
    exact K
  · skip
    refine ww_aload_n 63 X dX6_isRight_62 rfl rfl ?_
    obtain ⟨x7, hx7, h⟩ := hb_bind_of h
    refine ww_callV (ci := 6) (rest := []) (st' := []) 66 X (ct_X6_takesChoice (hb_l Γ) G k hk x6 hx7) cw_X6_232 rfl (by decide) hk rfl ⟨by decide, by decide⟩ (Nat.le_of_ble_eq_true rfl) rfl rfl dX6_isRight_63 rfl ?_
    refine ww_goto 19 X dX6_isRight_66 (by decide) ?_
    obtain rfl := Option.some.inj h
    exact K
def lb_X6_isRight_19 (k : Nat) (σ : hb_Mem) : Option (hb_Mem ⊕ hb_Mem) :=
if (σ k 17) = 0 then (
some (.inr σ))
else (
if (σ k 6) ≤ (σ k 16) then (
some (.inr σ))
else (
(fn_X6_here k σ).bind fun x5 =>
if x5 = 59 then (
jn_X6_isRight_52 k 1 σ)
else (
jn_X6_isRight_52 k 0 σ)))
set_option maxRecDepth 100000 in
set_option maxHeartbeats 4000000 in
theorem lk_X6_isRight_19 {Γ : hb_Ctx} {G : hb_Gam} {Q : State → Prop} (X : hb_X Γ cX6_isRight 1 RX6 ΛM G 3 66)  (k : Nat) (hk : hb_is ΛM k 6) (σ : hb_Mem) {x : (hb_Mem ⊕ hb_Mem)} (h : lb_X6_isRight_19 k σ = some x) (K : Sum.elim (fun s : hb_Mem => hb_W Γ ΛM G 1 Q s [some (.ref (G.2.2.2 k))] [] 19) (fun t : hb_Mem => hb_W Γ ΛM G 1 Q t [some (.ref (G.2.2.2 k))] [] 69) x) : hb_W Γ ΛM G 1 Q σ [some (.ref (G.2.2.2 k))] [] 19 := by
  unfold lb_X6_isRight_19 at h
  refine ww_aload_n 20 X dX6_isRight_19 rfl rfl ?_
  refine ww_geti (ci := 6) (j := 17) 23 X cf_6 tw_X6_213 (by decide) rfl hk dX6_isRight_20 rfl ?_
  refine ww_if_eq 69 26 X dX6_isRight_23 (by decide) rfl h (fun h => ?_) (fun h => ?_)
  · skip
    obtain rfl := Option.some.inj h
    exact K
  · skip
    refine ww_aload_n 27 X dX6_isRight_26 rfl rfl ?_
    refine ww_geti (ci := 6) (j := 16) 30 X cf_6 tw_X6_210 (by decide) rfl hk dX6_isRight_27 rfl ?_
    refine ww_aload_n 31 X dX6_isRight_30 rfl rfl ?_
    refine ww_geti (ci := 6) (j := 6) 34 X cf_6 tw_X6_203 (by decide) rfl hk dX6_isRight_31 rfl ?_
    refine ww_icmp_ge 69 37 X dX6_isRight_34 (by decide) rfl h (fun h => ?_) (fun h => ?_)
    · skip
      obtain rfl := Option.some.inj h
      exact K
    · skip
      refine ww_aload_n 38 X dX6_isRight_37 rfl rfl ?_
      refine ww_aload_n 39 X dX6_isRight_38 rfl rfl ?_
      obtain ⟨x5, hx5, h⟩ := hb_bind_of h
      refine ww_callV (ci := 6) (rest := [.ref (G.2.2.2 k)]) (st' := [.int x5, .ref (G.2.2.2 k)]) 42 X (ct_X6_here (hb_l Γ) G k hk σ hx5) cw_X6_216 rfl (by decide) hk rfl ⟨by decide, by decide⟩ (Nat.le_of_ble_eq_true rfl) rfl rfl dX6_isRight_39 rfl ?_
      refine ww_bipush (v := 59) 44 X dX6_isRight_42 rfl (by decide) ?_
      refine ww_icmp_ne 51 47 X dX6_isRight_44 (by decide) rfl h (fun h => ?_) (fun h => ?_)
      · skip
        refine ww_iconst (v := 1) 48 X dX6_isRight_47 rfl (by decide) ?_
        refine ww_goto 52 X dX6_isRight_48 (by decide) ?_
        exact jw_X6_isRight_52 X k hk 1 σ h K
      · skip
        refine ww_iconst (v := 0) 52 X dX6_isRight_51 rfl (by decide) ?_
        exact jw_X6_isRight_52 X k hk 0 σ h K
def ll_X6_isRight_19 (k : Nat) : hb_Mem → Option hb_Mem := hb_lp (fun s => lb_X6_isRight_19 k s) hb_F
theorem lw_X6_isRight_19 {Γ : hb_Ctx} {G : hb_Gam} {Q : State → Prop} (X : hb_X Γ cX6_isRight 1 RX6 ΛM G 3 66)  (k : Nat) (hk : hb_is ΛM k 6) (s : hb_Mem) (t : hb_Mem) (h : ll_X6_isRight_19 k s = some t) (K : (fun t : hb_Mem => hb_W Γ ΛM G 1 Q t [some (.ref (G.2.2.2 k))] [] 69) t) : hb_W Γ ΛM G 1 Q s [some (.ref (G.2.2.2 k))] [] 19 :=
  hb_lp_w (P := fun s : hb_Mem => hb_W Γ ΛM G 1 Q s [some (.ref (G.2.2.2 k))] [] 19) (E := (fun t : hb_Mem => hb_W Γ ΛM G 1 Q t [some (.ref (G.2.2.2 k))] [] 69)) (fun s x hx K => lk_X6_isRight_19 X k hk s hx K) _ s t h K
def jn_X6_isRight_69 (k : Nat) (σ : hb_Mem) : Option (Int32 × hb_Mem) :=
hb_nm (σ k 17) fun v9 =>
(hb_bz v9).bind fun z10 =>
some (v9, σ)
set_option maxRecDepth 100000 in
set_option maxHeartbeats 4000000 in
theorem jw_X6_isRight_69 {Γ : hb_Ctx} {G : hb_Gam} {Q : State → Prop} (X : hb_X Γ cX6_isRight 1 RX6 ΛM G 3 66) (hr : hb_ret Γ = (some .boolean)) (k : Nat) (hk : hb_is ΛM k 6) (σ : hb_Mem) {x : (Int32 × hb_Mem)} (h : jn_X6_isRight_69 k σ = some x) (K : Q = hb_Q Γ ΛM G (some (.int x.1)) x.2) : hb_W Γ ΛM G 1 Q σ [some (.ref (G.2.2.2 k))] [] 69 := by
  unfold jn_X6_isRight_69 at h
  refine ww_aload_n 70 X dX6_isRight_69 rfl rfl ?_
  refine ww_geti (ci := 6) (j := 17) 73 X cf_6 tw_X6_213 (by decide) rfl hk dX6_isRight_70 rfl ?_
  obtain ⟨v9, ev9, h⟩ := hb_nm_of h
  rw [← ev9]
  obtain ⟨z10, hz10, h⟩ := hb_bind_of h
  replace hz10 := (hb_bz_of hz10).1
  obtain rfl := Option.some.inj h
  exact ww_ret_z X hr hz10 K dX6_isRight_73
def fn_X6_isRight (k : Nat) (σ : hb_Mem) : Option (Int32 × hb_Mem) :=
hb_nm (hb_up σ k 16 0) fun σ1 =>
hb_nm (hb_up σ1 k 19 0) fun σ2 =>
hb_nm (hb_up σ2 k 17 1) fun σ3 =>
(fn_X6_takesChoice k σ3).bind fun x4 =>
(ll_X6_isRight_19 k x4).bind fun t8 =>
jn_X6_isRight_69 k t8
set_option maxRecDepth 100000 in
set_option maxHeartbeats 4000000 in
theorem wk_X6_isRight {Γ : hb_Ctx} {G : hb_Gam} {Q : State → Prop} (X : hb_X Γ cX6_isRight 1 RX6 ΛM G 3 66) (hr : hb_ret Γ = (some .boolean)) (k : Nat) (hk : hb_is ΛM k 6) (σ : hb_Mem) {x : (Int32 × hb_Mem)} (h : fn_X6_isRight k σ = some x) (K : Q = hb_Q Γ ΛM G (some (.int x.1)) x.2) : hb_W Γ ΛM G 1 Q σ [some (.ref (G.2.2.2 k))] [] 0 := by
  unfold fn_X6_isRight at h
  refine ww_aload_n 1 X dX6_isRight_0 rfl rfl ?_
  refine ww_iconst (v := 0) 2 X dX6_isRight_1 rfl (by decide) ?_
  obtain ⟨σ1, eσ1, h⟩ := hb_nm_of h
  refine ww_put (ci := 6) (j := 16) (ty := .int) 5 X cf_6 cg_6 tw_X6_210 (by decide) rfl rfl rfl rfl rfl hk eσ1.symm dX6_isRight_2 rfl ?_
  refine ww_aload_n 6 X dX6_isRight_5 rfl rfl ?_
  refine ww_iconst (v := 0) 7 X dX6_isRight_6 rfl (by decide) ?_
  obtain ⟨σ2, eσ2, h⟩ := hb_nm_of h
  refine ww_put (ci := 6) (j := 19) (ty := .int) 10 X cf_6 cg_6 tw_X6_223 (by decide) rfl rfl rfl rfl rfl hk eσ2.symm dX6_isRight_7 rfl ?_
  refine ww_aload_n 11 X dX6_isRight_10 rfl rfl ?_
  refine ww_iconst (v := 1) 12 X dX6_isRight_11 rfl (by decide) ?_
  obtain ⟨σ3, eσ3, h⟩ := hb_nm_of h
  refine ww_put (ci := 6) (j := 17) (ty := .boolean) 15 X cf_6 cg_6 tw_X6_213 (by decide) rfl rfl rfl rfl rfl hk eσ3.symm dX6_isRight_12 rfl ?_
  refine ww_aload_n 16 X dX6_isRight_15 rfl rfl ?_
  obtain ⟨x4, hx4, h⟩ := hb_bind_of h
  refine ww_callV (ci := 6) (rest := []) (st' := []) 19 X (ct_X6_takesChoice (hb_l Γ) G k hk σ3 hx4) cw_X6_232 rfl (by decide) hk rfl ⟨by decide, by decide⟩ (Nat.le_of_ble_eq_true rfl) rfl rfl dX6_isRight_16 rfl ?_
  obtain ⟨t8, ht8, h⟩ := hb_bind_of h
  refine lw_X6_isRight_19 X k hk x4 t8 ht8 ?_
  exact jw_X6_isRight_69 X hr k hk t8 h K
theorem ct_X6_isRight (l : Launch) (G : hb_Gam) (k : Nat) (hk : hb_is ΛM k 6) (σ : hb_Mem) {x : (Int32 × hb_Mem)} (h : fn_X6_isRight k σ = some x) : hb_C l yX6_isRight cX6_isRight 1 (some .boolean) 3 66 ΛM G [.ref (G.2.2.2 k)] σ (some (.int x.1)) x.2 :=
  hb_C.of [some (.ref (G.2.2.2 k))] (by decide +kernel) (Nat.le_of_ble_eq_true rfl) (by intro v hv; simp only [List.mem_cons, List.not_mem_nil, or_false] at hv; subst hv; rfl) rfl (hb_pad [.ref (G.2.2.2 k)] 0) (fun Γ X hr => wk_X6_isRight X hr k hk σ h rfl)
def jn_X6_whyNotAll_81 (k : Nat) (i1 : Int32) (i2 : Int32) (j4 : Int32) (s0 : Int32) (s1 : Int32) (σ : hb_Mem) : Option ((Int32 × Int32) ⊕ Int32) :=
hb_nm (s0 + s1) fun v7 =>
hb_nm (j4 + 1) fun v8 =>
some (.inl (v7, v8))
set_option maxRecDepth 100000 in
set_option maxHeartbeats 4000000 in
theorem jw_X6_whyNotAll_81 {Γ : hb_Ctx} {G : hb_Gam} {Q : State → Prop} (X : hb_X Γ cX6_whyNotAll 5 RX6 ΛM G 2 43)  (k : Nat) (hk : hb_is ΛM k 6) (i1 : Int32) (i2 : Int32) (j4 : Int32) (s0 : Int32) (s1 : Int32) (σ : hb_Mem) {x : ((Int32 × Int32) ⊕ Int32)} (h : jn_X6_whyNotAll_81 k i1 i2 j4 s0 s1 σ = some x) (K : Sum.elim (fun s : (Int32 × Int32) => hb_W Γ ΛM G 5 Q σ [some (.ref (G.2.2.2 k)), some (.int i1), some (.int i2), some (.int s.1), some (.int s.2)] [] 56) (fun t : Int32 => hb_W Γ ΛM G 5 Q σ [some (.ref (G.2.2.2 k)), some (.int i1), none, some (.int t), none] [] 89) x) : hb_W Γ ΛM G 5 Q σ [some (.ref (G.2.2.2 k)), some (.int i1), some (.int i2), none, some (.int j4)] [.int s1, .int s0] 81 := by
  unfold jn_X6_whyNotAll_81 at h
  refine ww_iadd 82 X dX6_whyNotAll_81 rfl ?_
  obtain ⟨v7, ev7, h⟩ := hb_nm_of h
  rw [← ev7]
  refine ww_istore_n 83 X (L' := [some (.ref (G.2.2.2 k)), some (.int i1), some (.int i2), some (.int v7), some (.int j4)]) dX6_whyNotAll_82 rfl (Nat.le_of_ble_eq_true rfl) rfl ?_
  obtain ⟨v8, ev8, h⟩ := hb_nm_of h
  refine ww_iinc 86 X (L' := [some (.ref (G.2.2.2 k)), some (.int i1), some (.int i2), some (.int v7), some (.int v8)]) dX6_whyNotAll_83 rfl rfl ev8.symm rfl ?_
  refine ww_goto 56 X dX6_whyNotAll_86 (by decide) ?_
  obtain rfl := Option.some.inj h
  exact K
def lb_X6_whyNotAll_56 (k : Nat) (i1 : Int32) (i2 : Int32) (w3 : Int32) (w4 : Int32) (σ : hb_Mem) : Option ((Int32 × Int32) ⊕ Int32) :=
if i1 ≤ w4 then (
some (.inr w3))
else (
(hb_ld ΛM σ (hm_rf k 18) ((4 : Int32) * w4)).bind fun v6 =>
if v6 = i2 then (
jn_X6_whyNotAll_81 k i1 i2 w4 w3 1 σ)
else (
jn_X6_whyNotAll_81 k i1 i2 w4 w3 0 σ))
set_option maxRecDepth 100000 in
set_option maxHeartbeats 4000000 in
theorem lk_X6_whyNotAll_56 {Γ : hb_Ctx} {G : hb_Gam} {Q : State → Prop} (X : hb_X Γ cX6_whyNotAll 5 RX6 ΛM G 2 43)  (k : Nat) (hk : hb_is ΛM k 6) (i1 : Int32) (i2 : Int32) (w3 : Int32) (w4 : Int32) (σ : hb_Mem) {x : ((Int32 × Int32) ⊕ Int32)} (h : lb_X6_whyNotAll_56 k i1 i2 w3 w4 σ = some x) (K : Sum.elim (fun s : (Int32 × Int32) => hb_W Γ ΛM G 5 Q σ [some (.ref (G.2.2.2 k)), some (.int i1), some (.int i2), some (.int s.1), some (.int s.2)] [] 56) (fun t : Int32 => hb_W Γ ΛM G 5 Q σ [some (.ref (G.2.2.2 k)), some (.int i1), none, some (.int t), none] [] 89) x) : hb_W Γ ΛM G 5 Q σ [some (.ref (G.2.2.2 k)), some (.int i1), some (.int i2), some (.int w3), some (.int w4)] [] 56 := by
  unfold lb_X6_whyNotAll_56 at h
  refine ww_iload 58 X dX6_whyNotAll_56 rfl rfl ?_
  refine ww_iload_n 59 X dX6_whyNotAll_58 rfl rfl ?_
  refine ww_icmp_ge 89 62 X dX6_whyNotAll_59 (by decide) rfl h (fun h => ?_) (fun h => ?_)
  · skip
    obtain rfl := Option.some.inj h
    refine ww_kill [2, 4] (L' := [some (.ref (G.2.2.2 k)), some (.int i1), none, some (.int w3), none]) rfl ?_
    exact K
  · skip
    refine ww_iload_n 63 X dX6_whyNotAll_62 rfl rfl ?_
    refine ww_aload_n 64 X dX6_whyNotAll_63 rfl rfl ?_
    refine ww_getr (ci := 6) (j := 18) 67 X cf_6 tw_X6_43 (by decide) rfl hk dX6_whyNotAll_64 rfl ?_
    refine ww_iconst (v := 4) 68 X dX6_whyNotAll_67 rfl (by decide) ?_
    refine ww_iload 70 X dX6_whyNotAll_68 rfl rfl ?_
    refine ww_imul 71 X dX6_whyNotAll_70 rfl ?_
    obtain ⟨v6, hv6, h⟩ := hb_bind_of h
    refine ww_iald 72 X (hm_kr_6_18 hk) hv6 dX6_whyNotAll_71 rfl ?_
    refine ww_iload_n 73 X dX6_whyNotAll_72 rfl rfl ?_
    refine ww_icmp_ne 80 76 X dX6_whyNotAll_73 (by decide) rfl h (fun h => ?_) (fun h => ?_)
    · skip
      refine ww_iconst (v := 1) 77 X dX6_whyNotAll_76 rfl (by decide) ?_
      refine ww_goto 81 X dX6_whyNotAll_77 (by decide) ?_
      refine ww_kill [3] (L' := [some (.ref (G.2.2.2 k)), some (.int i1), some (.int i2), none, some (.int w4)]) rfl ?_
      exact jw_X6_whyNotAll_81 X k hk i1 i2 w4 w3 1 σ h K
    · skip
      refine ww_iconst (v := 0) 81 X dX6_whyNotAll_80 rfl (by decide) ?_
      refine ww_kill [3] (L' := [some (.ref (G.2.2.2 k)), some (.int i1), some (.int i2), none, some (.int w4)]) rfl ?_
      exact jw_X6_whyNotAll_81 X k hk i1 i2 w4 w3 0 σ h K
def ll_X6_whyNotAll_56 (k : Nat) (i1 : Int32) (i2 : Int32) (σ : hb_Mem) : (Int32 × Int32) → Option Int32 := hb_lp (fun s => lb_X6_whyNotAll_56 k i1 i2 s.1 s.2 σ) hb_F
theorem lw_X6_whyNotAll_56 {Γ : hb_Ctx} {G : hb_Gam} {Q : State → Prop} (X : hb_X Γ cX6_whyNotAll 5 RX6 ΛM G 2 43)  (k : Nat) (hk : hb_is ΛM k 6) (i1 : Int32) (i2 : Int32) (σ : hb_Mem) (s : (Int32 × Int32)) (t : Int32) (h : ll_X6_whyNotAll_56 k i1 i2 σ s = some t) (K : (fun t : Int32 => hb_W Γ ΛM G 5 Q σ [some (.ref (G.2.2.2 k)), some (.int i1), none, some (.int t), none] [] 89) t) : hb_W Γ ΛM G 5 Q σ [some (.ref (G.2.2.2 k)), some (.int i1), some (.int i2), some (.int s.1), some (.int s.2)] [] 56 :=
  hb_lp_w (P := fun s : (Int32 × Int32) => hb_W Γ ΛM G 5 Q σ [some (.ref (G.2.2.2 k)), some (.int i1), some (.int i2), some (.int s.1), some (.int s.2)] [] 56) (E := (fun t : Int32 => hb_W Γ ΛM G 5 Q σ [some (.ref (G.2.2.2 k)), some (.int i1), none, some (.int t), none] [] 89)) (fun s x hx K => lk_X6_whyNotAll_56 X k hk i1 i2 s.1 s.2 σ hx K) _ s t h K
def lb_X6_whyNotAll_2 (k : Nat) (w1 : Int32) (σ : hb_Mem) : Option (Int32 ⊕ (Unit ⊕ (Unit ⊕ Unit))) :=
if (σ k 19) ≤ w1 then (
some (.inr (.inr (.inr ()))))
else (
(hb_ld ΛM σ (hm_rf k 18) ((4 : Int32) * w1)).bind fun v1 =>
(fn_X6_isPage k v1 σ).bind fun x2 =>
if x2 = 0 then (
some (.inr (.inl ())))
else (
(hb_ld ΛM σ (hm_rf k 18) (((4 : Int32) * w1) + 1)).bind fun v3 =>
(fn_X6_isPage k v3 σ).bind fun x4 =>
if x4 = 0 then (
some (.inr (.inl ())))
else (
(fn_X6_of k v1 3 σ).bind fun x5 =>
(ll_X6_whyNotAll_56 k w1 v1 σ (x5, 0)).bind fun t9 =>
if t9 < 3 then (
hb_nm (w1 + 1) fun v10 =>
some (.inl v10))
else (
some (.inr (.inr (.inl ())))))))
set_option maxRecDepth 100000 in
set_option maxHeartbeats 4000000 in
theorem lk_X6_whyNotAll_2 {Γ : hb_Ctx} {G : hb_Gam} {Q : State → Prop} (X : hb_X Γ cX6_whyNotAll 5 RX6 ΛM G 2 43)  (k : Nat) (hk : hb_is ΛM k 6) (w1 : Int32) (σ : hb_Mem) {x : (Int32 ⊕ (Unit ⊕ (Unit ⊕ Unit)))} (h : lb_X6_whyNotAll_2 k w1 σ = some x) (K : Sum.elim (fun s : Int32 => hb_W Γ ΛM G 5 Q σ [some (.ref (G.2.2.2 k)), some (.int s), none, none, none] [] 2) (Sum.elim (fun t : Unit => hb_W Γ ΛM G 5 Q σ [none, none, none, none, none] [] 44) (Sum.elim (fun t : Unit => hb_W Γ ΛM G 5 Q σ [none, none, none, none, none] [] 94) (fun t : Unit => hb_W Γ ΛM G 5 Q σ [none, none, none, none, none] [] 103))) x) : hb_W Γ ΛM G 5 Q σ [some (.ref (G.2.2.2 k)), some (.int w1), none, none, none] [] 2 := by
  unfold lb_X6_whyNotAll_2 at h
  refine ww_iload_n 3 X dX6_whyNotAll_2 rfl rfl ?_
  refine ww_aload_n 4 X dX6_whyNotAll_3 rfl rfl ?_
  refine ww_geti (ci := 6) (j := 19) 7 X cf_6 tw_X6_223 (by decide) rfl hk dX6_whyNotAll_4 rfl ?_
  refine ww_icmp_ge 103 10 X dX6_whyNotAll_7 (by decide) rfl h (fun h => ?_) (fun h => ?_)
  · skip
    obtain rfl := Option.some.inj h
    refine ww_kill [0, 1] (L' := [none, none, none, none, none]) rfl ?_
    exact K
  · skip
    refine ww_aload_n 11 X dX6_whyNotAll_10 rfl rfl ?_
    refine ww_getr (ci := 6) (j := 18) 14 X cf_6 tw_X6_43 (by decide) rfl hk dX6_whyNotAll_11 rfl ?_
    refine ww_iconst (v := 4) 15 X dX6_whyNotAll_14 rfl (by decide) ?_
    refine ww_iload_n 16 X dX6_whyNotAll_15 rfl rfl ?_
    refine ww_imul 17 X dX6_whyNotAll_16 rfl ?_
    obtain ⟨v1, hv1, h⟩ := hb_bind_of h
    refine ww_iald 18 X (hm_kr_6_18 hk) hv1 dX6_whyNotAll_17 rfl ?_
    refine ww_istore_n 19 X (L' := [some (.ref (G.2.2.2 k)), some (.int w1), some (.int v1), none, none]) dX6_whyNotAll_18 rfl (Nat.le_of_ble_eq_true rfl) rfl ?_
    refine ww_aload_n 20 X dX6_whyNotAll_19 rfl rfl ?_
    refine ww_iload_n 21 X dX6_whyNotAll_20 rfl rfl ?_
    obtain ⟨x2, hx2, h⟩ := hb_bind_of h
    refine ww_callV (ci := 6) (rest := []) (st' := [.int x2]) 24 X (ct_X6_isPage (hb_l Γ) G k hk v1 σ hx2) cw_X6_54 rfl (by decide) hk rfl ⟨by decide, by decide⟩ (Nat.le_of_ble_eq_true rfl) rfl rfl dX6_whyNotAll_21 rfl ?_
    refine ww_if_eq 44 27 X dX6_whyNotAll_24 (by decide) rfl h (fun h => ?_) (fun h => ?_)
    · skip
      obtain rfl := Option.some.inj h
      refine ww_kill [0, 1, 2] (L' := [none, none, none, none, none]) rfl ?_
      exact K
    · skip
      refine ww_aload_n 28 X dX6_whyNotAll_27 rfl rfl ?_
      refine ww_aload_n 29 X dX6_whyNotAll_28 rfl rfl ?_
      refine ww_getr (ci := 6) (j := 18) 32 X cf_6 tw_X6_43 (by decide) rfl hk dX6_whyNotAll_29 rfl ?_
      refine ww_iconst (v := 4) 33 X dX6_whyNotAll_32 rfl (by decide) ?_
      refine ww_iload_n 34 X dX6_whyNotAll_33 rfl rfl ?_
      refine ww_imul 35 X dX6_whyNotAll_34 rfl ?_
      refine ww_iconst (v := 1) 36 X dX6_whyNotAll_35 rfl (by decide) ?_
      refine ww_iadd 37 X dX6_whyNotAll_36 rfl ?_
      obtain ⟨v3, hv3, h⟩ := hb_bind_of h
      refine ww_iald 38 X (hm_kr_6_18 hk) hv3 dX6_whyNotAll_37 rfl ?_
      obtain ⟨x4, hx4, h⟩ := hb_bind_of h
      refine ww_callV (ci := 6) (rest := []) (st' := [.int x4]) 41 X (ct_X6_isPage (hb_l Γ) G k hk v3 σ hx4) cw_X6_54 rfl (by decide) hk rfl ⟨by decide, by decide⟩ (Nat.le_of_ble_eq_true rfl) rfl rfl dX6_whyNotAll_38 rfl ?_
      refine ww_if_ne 46 44 X dX6_whyNotAll_41 (by decide) rfl h (fun h => ?_) (fun h => ?_)
      · skip
        obtain rfl := Option.some.inj h
        refine ww_kill [0, 1, 2] (L' := [none, none, none, none, none]) rfl ?_
        exact K
      · skip
        refine ww_aload_n 47 X dX6_whyNotAll_46 rfl rfl ?_
        refine ww_iload_n 48 X dX6_whyNotAll_47 rfl rfl ?_
        refine ww_iconst (v := 3) 49 X dX6_whyNotAll_48 rfl (by decide) ?_
        obtain ⟨x5, hx5, h⟩ := hb_bind_of h
        refine ww_callV (ci := 6) (rest := []) (st' := [.int x5]) 52 X (ct_X6_of (hb_l Γ) G k hk v1 3 σ hx5) cw_X6_62 rfl (by decide) hk rfl ⟨by decide, by decide⟩ (Nat.le_of_ble_eq_true rfl) rfl rfl dX6_whyNotAll_49 rfl ?_
        refine ww_istore_n 53 X (L' := [some (.ref (G.2.2.2 k)), some (.int w1), some (.int v1), some (.int x5), none]) dX6_whyNotAll_52 rfl (Nat.le_of_ble_eq_true rfl) rfl ?_
        refine ww_iconst (v := 0) 54 X dX6_whyNotAll_53 rfl (by decide) ?_
        refine ww_istore 56 X (L' := [some (.ref (G.2.2.2 k)), some (.int w1), some (.int v1), some (.int x5), some (.int 0)]) dX6_whyNotAll_54 rfl (Nat.le_of_ble_eq_true rfl) rfl ?_
        obtain ⟨t9, ht9, h⟩ := hb_bind_of h
        refine lw_X6_whyNotAll_56 X k hk w1 v1 σ (x5, 0) t9 ht9 ?_
        refine ww_iload_n 90 X dX6_whyNotAll_89 rfl rfl ?_
        refine ww_iconst (v := 3) 91 X dX6_whyNotAll_90 rfl (by decide) ?_
        refine ww_icmp_lt 97 94 X dX6_whyNotAll_91 (by decide) rfl h (fun h => ?_) (fun h => ?_)
        · skip
          obtain ⟨v10, ev10, h⟩ := hb_nm_of h
          refine ww_iinc 100 X (L' := [some (.ref (G.2.2.2 k)), some (.int v10), none, some (.int t9), none]) dX6_whyNotAll_97 rfl rfl ev10.symm rfl ?_
          refine ww_goto 2 X dX6_whyNotAll_100 (by decide) ?_
          obtain rfl := Option.some.inj h
          refine ww_kill [3] (L' := [some (.ref (G.2.2.2 k)), some (.int v10), none, none, none]) rfl ?_
          exact K
        · skip
          obtain rfl := Option.some.inj h
          refine ww_kill [0, 1, 3] (L' := [none, none, none, none, none]) rfl ?_
          exact K
def ll_X6_whyNotAll_2 (k : Nat) (σ : hb_Mem) : Int32 → Option (Unit ⊕ (Unit ⊕ Unit)) := hb_lp (fun s => lb_X6_whyNotAll_2 k s σ) hb_F
theorem lw_X6_whyNotAll_2 {Γ : hb_Ctx} {G : hb_Gam} {Q : State → Prop} (X : hb_X Γ cX6_whyNotAll 5 RX6 ΛM G 2 43)  (k : Nat) (hk : hb_is ΛM k 6) (σ : hb_Mem) (s : Int32) (t : (Unit ⊕ (Unit ⊕ Unit))) (h : ll_X6_whyNotAll_2 k σ s = some t) (K : (Sum.elim (fun t : Unit => hb_W Γ ΛM G 5 Q σ [none, none, none, none, none] [] 44) (Sum.elim (fun t : Unit => hb_W Γ ΛM G 5 Q σ [none, none, none, none, none] [] 94) (fun t : Unit => hb_W Γ ΛM G 5 Q σ [none, none, none, none, none] [] 103))) t) : hb_W Γ ΛM G 5 Q σ [some (.ref (G.2.2.2 k)), some (.int s), none, none, none] [] 2 :=
  hb_lp_w (P := fun s : Int32 => hb_W Γ ΛM G 5 Q σ [some (.ref (G.2.2.2 k)), some (.int s), none, none, none] [] 2) (E := (Sum.elim (fun t : Unit => hb_W Γ ΛM G 5 Q σ [none, none, none, none, none] [] 44) (Sum.elim (fun t : Unit => hb_W Γ ΛM G 5 Q σ [none, none, none, none, none] [] 94) (fun t : Unit => hb_W Γ ΛM G 5 Q σ [none, none, none, none, none] [] 103)))) (fun s x hx K => lk_X6_whyNotAll_2 X k hk s σ hx K) _ s t h K
def fn_X6_whyNotAll (k : Nat) (σ : hb_Mem) : Option Int32 :=
(ll_X6_whyNotAll_2 k σ 0).bind fun t11 =>
Sum.elim (fun t11 =>
some (-1)) (fun t11 =>
Sum.elim (fun t11 =>
some (-3)) (fun t11 =>
some 0) t11) t11
set_option maxRecDepth 100000 in
set_option maxHeartbeats 4000000 in
theorem wk_X6_whyNotAll {Γ : hb_Ctx} {G : hb_Gam} {Q : State → Prop} (X : hb_X Γ cX6_whyNotAll 5 RX6 ΛM G 2 43) (hr : hb_ret Γ = (some .int)) (k : Nat) (hk : hb_is ΛM k 6) (σ : hb_Mem) {x : Int32} (h : fn_X6_whyNotAll k σ = some x) (K : Q = hb_Q Γ ΛM G (some (.int x)) σ) : hb_W Γ ΛM G 5 Q σ [some (.ref (G.2.2.2 k)), none, none, none, none] [] 0 := by
  unfold fn_X6_whyNotAll at h
  refine ww_iconst (v := 0) 1 X dX6_whyNotAll_0 rfl (by decide) ?_
  refine ww_istore_n 2 X (L' := [some (.ref (G.2.2.2 k)), some (.int 0), none, none, none]) dX6_whyNotAll_1 rfl (Nat.le_of_ble_eq_true rfl) rfl ?_
  obtain ⟨t11, ht11, h⟩ := hb_bind_of h
  refine lw_X6_whyNotAll_2 X k hk σ 0 t11 ht11 ?_
  rcases t11 with t11 | t11
  · replace h := hb_inl_of h
    refine ww_iconst (v := (-1)) 45 X dX6_whyNotAll_44 rfl (by decide) ?_
    obtain rfl := Option.some.inj h
    exact ww_ret_i X hr K dX6_whyNotAll_45
  · replace h := hb_inr_of h
    rcases t11 with t11 | t11
    · replace h := hb_inl_of h
      refine ww_bipush (v := (-3)) 96 X dX6_whyNotAll_94 rfl (by decide) ?_
      obtain rfl := Option.some.inj h
      exact ww_ret_i X hr K dX6_whyNotAll_96
    · replace h := hb_inr_of h
      refine ww_iconst (v := 0) 104 X dX6_whyNotAll_103 rfl (by decide) ?_
      obtain rfl := Option.some.inj h
      exact ww_ret_i X hr K dX6_whyNotAll_104
theorem ct_X6_whyNotAll (l : Launch) (G : hb_Gam) (k : Nat) (hk : hb_is ΛM k 6) (σ : hb_Mem) {x : Int32} (h : fn_X6_whyNotAll k σ = some x) : hb_C l yX6_whyNotAll cX6_whyNotAll 5 (some .int) 2 43 ΛM G [.ref (G.2.2.2 k)] σ (some (.int x)) σ :=
  hb_C.of [some (.ref (G.2.2.2 k)), none, none, none, none] (by decide +kernel) (Nat.le_of_ble_eq_true rfl) (by intro v hv; simp only [List.mem_cons, List.not_mem_nil, or_false] at hv; subst hv; rfl) rfl (hb_pad [.ref (G.2.2.2 k)] 4) (fun Γ X hr => wk_X6_whyNotAll X hr k hk σ h rfl)
def lb_X6_addChoices_32 (k : Nat) (w2 : Int32) (σ : hb_Mem) : Option ((Int32 × hb_Mem) ⊕ hb_Mem) :=
if (σ k 19) ≤ w2 then (
some (.inr σ))
else (
(hb_ld ΛM σ (hm_rf k 18) ((4 : Int32) * w2)).bind fun v4 =>
(hb_ld ΛM σ (hm_rf k 18) (((4 : Int32) * w2) + 1)).bind fun v5 =>
(hb_ld ΛM σ (hm_rf k 18) (((4 : Int32) * w2) + 2)).bind fun v6 =>
(hb_ld ΛM σ (hm_rf k 18) (((4 : Int32) * w2) + 3)).bind fun v7 =>
(fn_X6_adds k v4 v5 v6 v7 σ).bind fun x8 =>
hb_nm (w2 + 1) fun v9 =>
some (.inl (v9, x8.2)))
set_option maxRecDepth 100000 in
set_option maxHeartbeats 4000000 in
theorem lk_X6_addChoices_32 {Γ : hb_Ctx} {G : hb_Gam} {Q : State → Prop} (X : hb_X Γ cX6_addChoices 4 RX6 ΛM G 4 86)  (k : Nat) (hk : hb_is ΛM k 6) (w2 : Int32) (σ : hb_Mem) {x : ((Int32 × hb_Mem) ⊕ hb_Mem)} (h : lb_X6_addChoices_32 k w2 σ = some x) (K : Sum.elim (fun s : (Int32 × hb_Mem) => hb_W Γ ΛM G 4 Q s.2 [some (.ref (G.2.2.2 k)), none, some (.int s.1), none] [] 32) (fun t : hb_Mem => hb_W Γ ΛM G 4 Q t [some (.ref (G.2.2.2 k)), none, none, none] [] 89) x) : hb_W Γ ΛM G 4 Q σ [some (.ref (G.2.2.2 k)), none, some (.int w2), none] [] 32 := by
  unfold lb_X6_addChoices_32 at h
  refine ww_iload_n 33 X dX6_addChoices_32 rfl rfl ?_
  refine ww_aload_n 34 X dX6_addChoices_33 rfl rfl ?_
  refine ww_geti (ci := 6) (j := 19) 37 X cf_6 tw_X6_223 (by decide) rfl hk dX6_addChoices_34 rfl ?_
  refine ww_icmp_ge 89 40 X dX6_addChoices_37 (by decide) rfl h (fun h => ?_) (fun h => ?_)
  · skip
    obtain rfl := Option.some.inj h
    refine ww_kill [2] (L' := [some (.ref (G.2.2.2 k)), none, none, none]) rfl ?_
    exact K
  · skip
    refine ww_aload_n 41 X dX6_addChoices_40 rfl rfl ?_
    refine ww_aload_n 42 X dX6_addChoices_41 rfl rfl ?_
    refine ww_getr (ci := 6) (j := 18) 45 X cf_6 tw_X6_43 (by decide) rfl hk dX6_addChoices_42 rfl ?_
    refine ww_iconst (v := 4) 46 X dX6_addChoices_45 rfl (by decide) ?_
    refine ww_iload_n 47 X dX6_addChoices_46 rfl rfl ?_
    refine ww_imul 48 X dX6_addChoices_47 rfl ?_
    obtain ⟨v4, hv4, h⟩ := hb_bind_of h
    refine ww_iald 49 X (hm_kr_6_18 hk) hv4 dX6_addChoices_48 rfl ?_
    refine ww_aload_n 50 X dX6_addChoices_49 rfl rfl ?_
    refine ww_getr (ci := 6) (j := 18) 53 X cf_6 tw_X6_43 (by decide) rfl hk dX6_addChoices_50 rfl ?_
    refine ww_iconst (v := 4) 54 X dX6_addChoices_53 rfl (by decide) ?_
    refine ww_iload_n 55 X dX6_addChoices_54 rfl rfl ?_
    refine ww_imul 56 X dX6_addChoices_55 rfl ?_
    refine ww_iconst (v := 1) 57 X dX6_addChoices_56 rfl (by decide) ?_
    refine ww_iadd 58 X dX6_addChoices_57 rfl ?_
    obtain ⟨v5, hv5, h⟩ := hb_bind_of h
    refine ww_iald 59 X (hm_kr_6_18 hk) hv5 dX6_addChoices_58 rfl ?_
    refine ww_aload_n 60 X dX6_addChoices_59 rfl rfl ?_
    refine ww_getr (ci := 6) (j := 18) 63 X cf_6 tw_X6_43 (by decide) rfl hk dX6_addChoices_60 rfl ?_
    refine ww_iconst (v := 4) 64 X dX6_addChoices_63 rfl (by decide) ?_
    refine ww_iload_n 65 X dX6_addChoices_64 rfl rfl ?_
    refine ww_imul 66 X dX6_addChoices_65 rfl ?_
    refine ww_iconst (v := 2) 67 X dX6_addChoices_66 rfl (by decide) ?_
    refine ww_iadd 68 X dX6_addChoices_67 rfl ?_
    obtain ⟨v6, hv6, h⟩ := hb_bind_of h
    refine ww_iald 69 X (hm_kr_6_18 hk) hv6 dX6_addChoices_68 rfl ?_
    refine ww_aload_n 70 X dX6_addChoices_69 rfl rfl ?_
    refine ww_getr (ci := 6) (j := 18) 73 X cf_6 tw_X6_43 (by decide) rfl hk dX6_addChoices_70 rfl ?_
    refine ww_iconst (v := 4) 74 X dX6_addChoices_73 rfl (by decide) ?_
    refine ww_iload_n 75 X dX6_addChoices_74 rfl rfl ?_
    refine ww_imul 76 X dX6_addChoices_75 rfl ?_
    refine ww_iconst (v := 3) 77 X dX6_addChoices_76 rfl (by decide) ?_
    refine ww_iadd 78 X dX6_addChoices_77 rfl ?_
    obtain ⟨v7, hv7, h⟩ := hb_bind_of h
    refine ww_iald 79 X (hm_kr_6_18 hk) hv7 dX6_addChoices_78 rfl ?_
    obtain ⟨x8, hx8, h⟩ := hb_bind_of h
    refine ww_callV (ci := 6) (rest := []) (st' := [.int x8.1]) 82 X (ct_X6_adds (hb_l Γ) G k hk v4 v5 v6 v7 σ hx8) cw_X6_120 rfl (by decide) hk rfl ⟨by decide, by decide⟩ (Nat.le_of_ble_eq_true rfl) rfl rfl dX6_addChoices_79 rfl ?_
    refine ww_istore_n 83 X (L' := [some (.ref (G.2.2.2 k)), none, some (.int w2), some (.int x8.1)]) dX6_addChoices_82 rfl (Nat.le_of_ble_eq_true rfl) rfl ?_
    obtain ⟨v9, ev9, h⟩ := hb_nm_of h
    refine ww_iinc 86 X (L' := [some (.ref (G.2.2.2 k)), none, some (.int v9), some (.int x8.1)]) dX6_addChoices_83 rfl rfl ev9.symm rfl ?_
    refine ww_goto 32 X dX6_addChoices_86 (by decide) ?_
    obtain rfl := Option.some.inj h
    refine ww_kill [3] (L' := [some (.ref (G.2.2.2 k)), none, some (.int v9), none]) rfl ?_
    exact K
def ll_X6_addChoices_32 (k : Nat) : (Int32 × hb_Mem) → Option hb_Mem := hb_lp (fun s => lb_X6_addChoices_32 k s.1 s.2) hb_F
theorem lw_X6_addChoices_32 {Γ : hb_Ctx} {G : hb_Gam} {Q : State → Prop} (X : hb_X Γ cX6_addChoices 4 RX6 ΛM G 4 86)  (k : Nat) (hk : hb_is ΛM k 6) (s : (Int32 × hb_Mem)) (t : hb_Mem) (h : ll_X6_addChoices_32 k s = some t) (K : (fun t : hb_Mem => hb_W Γ ΛM G 4 Q t [some (.ref (G.2.2.2 k)), none, none, none] [] 89) t) : hb_W Γ ΛM G 4 Q s.2 [some (.ref (G.2.2.2 k)), none, some (.int s.1), none] [] 32 :=
  hb_lp_w (P := fun s : (Int32 × hb_Mem) => hb_W Γ ΛM G 4 Q s.2 [some (.ref (G.2.2.2 k)), none, some (.int s.1), none] [] 32) (E := (fun t : hb_Mem => hb_W Γ ΛM G 4 Q t [some (.ref (G.2.2.2 k)), none, none, none] [] 89)) (fun s x hx K => lk_X6_addChoices_32 X k hk s.1 s.2 hx K) _ s t h K
def fn_X6_addChoices (k : Nat) (σ : hb_Mem) : Option (Int32 × hb_Mem) :=
(fn_X6_isRight k σ).bind fun x1 =>
if x1.1 = 0 then (
some (((-100) : Int32) - (x1.2 k 16), x1.2))
else (
(fn_X6_whyNotAll k x1.2).bind fun x2 =>
if 0 ≤ x2 then (
(fn_X6_records k x1.2).bind fun x3 =>
(ll_X6_addChoices_32 k (0, x3)).bind fun t10 =>
some (t10 k 19, t10))
else (
some (x2, x1.2)))
set_option maxRecDepth 100000 in
set_option maxHeartbeats 4000000 in
theorem wk_X6_addChoices {Γ : hb_Ctx} {G : hb_Gam} {Q : State → Prop} (X : hb_X Γ cX6_addChoices 4 RX6 ΛM G 4 86) (hr : hb_ret Γ = (some .int)) (k : Nat) (hk : hb_is ΛM k 6) (σ : hb_Mem) {x : (Int32 × hb_Mem)} (h : fn_X6_addChoices k σ = some x) (K : Q = hb_Q Γ ΛM G (some (.int x.1)) x.2) : hb_W Γ ΛM G 4 Q σ [some (.ref (G.2.2.2 k)), none, none, none] [] 0 := by
  unfold fn_X6_addChoices at h
  refine ww_aload_n 1 X dX6_addChoices_0 rfl rfl ?_
  obtain ⟨x1, hx1, h⟩ := hb_bind_of h
  refine ww_callV (ci := 6) (rest := []) (st' := [.int x1.1]) 4 X (ct_X6_isRight (hb_l Γ) G k hk σ hx1) cw_X6_235 rfl (by decide) hk rfl ⟨by decide, by decide⟩ (Nat.le_of_ble_eq_true rfl) rfl rfl dX6_addChoices_1 rfl ?_
  refine ww_if_ne 15 7 X dX6_addChoices_4 (by decide) rfl h (fun h => ?_) (fun h => ?_)
  · skip
    refine ww_bipush (v := (-100)) 9 X dX6_addChoices_7 rfl (by decide) ?_
    refine ww_aload_n 10 X dX6_addChoices_9 rfl rfl ?_
    refine ww_geti (ci := 6) (j := 16) 13 X cf_6 tw_X6_210 (by decide) rfl hk dX6_addChoices_10 rfl ?_
    refine ww_isub 14 X dX6_addChoices_13 rfl ?_
    obtain rfl := Option.some.inj h
    exact ww_ret_i X hr K dX6_addChoices_14
  · skip
    refine ww_aload_n 16 X dX6_addChoices_15 rfl rfl ?_
    obtain ⟨x2, hx2, h⟩ := hb_bind_of h
    refine ww_callV (ci := 6) (rest := []) (st' := [.int x2]) 19 X (ct_X6_whyNotAll (hb_l Γ) G k hk x1.2 hx2) cw_X6_238 rfl (by decide) hk rfl ⟨by decide, by decide⟩ (Nat.le_of_ble_eq_true rfl) rfl rfl dX6_addChoices_16 rfl ?_
    refine ww_istore_n 20 X (L' := [some (.ref (G.2.2.2 k)), some (.int x2), none, none]) dX6_addChoices_19 rfl (Nat.le_of_ble_eq_true rfl) rfl ?_
    refine ww_iload_n 21 X dX6_addChoices_20 rfl rfl ?_
    refine ww_if_ge 26 24 X dX6_addChoices_21 (by decide) rfl h (fun h => ?_) (fun h => ?_)
    · skip
      refine ww_aload_n 27 X dX6_addChoices_26 rfl rfl ?_
      obtain ⟨x3, hx3, h⟩ := hb_bind_of h
      refine ww_callV (ci := 6) (rest := []) (st' := []) 30 X (ct_X6_records (hb_l Γ) G k hk x1.2 hx3) cw_X6_114 rfl (by decide) hk rfl ⟨by decide, by decide⟩ (Nat.le_of_ble_eq_true rfl) rfl rfl dX6_addChoices_27 rfl ?_
      refine ww_iconst (v := 0) 31 X dX6_addChoices_30 rfl (by decide) ?_
      refine ww_istore_n 32 X (L' := [some (.ref (G.2.2.2 k)), some (.int x2), some (.int 0), none]) dX6_addChoices_31 rfl (Nat.le_of_ble_eq_true rfl) rfl ?_
      obtain ⟨t10, ht10, h⟩ := hb_bind_of h
      refine ww_kill [1] (L' := [some (.ref (G.2.2.2 k)), none, some (.int 0), none]) rfl ?_
      refine lw_X6_addChoices_32 X k hk (0, x3) t10 ht10 ?_
      refine ww_aload_n 90 X dX6_addChoices_89 rfl rfl ?_
      refine ww_geti (ci := 6) (j := 19) 93 X cf_6 tw_X6_223 (by decide) rfl hk dX6_addChoices_90 rfl ?_
      obtain rfl := Option.some.inj h
      exact ww_ret_i X hr K dX6_addChoices_93
    · skip
      refine ww_iload_n 25 X dX6_addChoices_24 rfl rfl ?_
      obtain rfl := Option.some.inj h
      exact ww_ret_i X hr K dX6_addChoices_25
theorem ct_X6_addChoices (l : Launch) (G : hb_Gam) (k : Nat) (hk : hb_is ΛM k 6) (σ : hb_Mem) {x : (Int32 × hb_Mem)} (h : fn_X6_addChoices k σ = some x) : hb_C l yX6_addChoices cX6_addChoices 4 (some .int) 4 86 ΛM G [.ref (G.2.2.2 k)] σ (some (.int x.1)) x.2 :=
  hb_C.of [some (.ref (G.2.2.2 k)), none, none, none] (by decide +kernel) (Nat.le_of_ble_eq_true rfl) (by intro v hv; simp only [List.mem_cons, List.not_mem_nil, or_false] at hv; subst hv; rfl) rfl (hb_pad [.ref (G.2.2.2 k)] 3) (fun Γ X hr => wk_X6_addChoices X hr k hk σ h rfl)
