/-! methods (laid by wip/p25/gen.py) -/
def fn_X4_append (k : Nat) (p1 : Int32) (σ : hb_Mem) : Option (Int32 × hb_Mem) :=
(fn_X1_put (hc_rf k 0) (σ k 1) p1 σ).bind fun x1 =>
hb_nm (hb_up x1 k 1 ((x1 k 1) + 1)) fun σ2 =>
some (σ2 k 1, σ2)
set_option maxRecDepth 100000 in
set_option maxHeartbeats 4000000 in
theorem wk_X4_append {Γ : hb_Ctx} {G : hb_Gam} {Q : State → Prop} (X : hb_X Γ cX4_append 2 RX4 ΛC G 1 22) (hr : hb_ret Γ = (some .int)) (k : Nat) (hk : hb_is ΛC k 4) (p1 : Int32) (σ : hb_Mem) {x : (Int32 × hb_Mem)} (h : fn_X4_append k p1 σ = some x) (K : Q = hb_Q Γ ΛC G (some (.int x.1)) x.2) : hb_W Γ ΛC G 2 Q σ [some (.ref (G.2.2.2 k)), some (.int p1)] [] 0 := by
  unfold fn_X4_append at h
  refine ww_aload_n 1 X dX4_append_0 rfl rfl ?_
  refine ww_getr (ci := 4) (j := 0) 4 X cf_4 tw_X4_14 (by decide) rfl hk dX4_append_1 rfl ?_
  refine ww_aload_n 5 X dX4_append_4 rfl rfl ?_
  refine ww_geti (ci := 4) (j := 1) 8 X cf_4 tw_X4_20 (by decide) rfl hk dX4_append_5 rfl ?_
  refine ww_iload_n 9 X dX4_append_8 rfl rfl ?_
  obtain ⟨x1, hx1, h⟩ := hb_bind_of h
  refine ww_callV (ci := 1) (rest := []) (st' := []) 12 X (ct_X1_put (hb_l Γ) G (hc_rf k 0) (hc_kr_4_0 hk) (σ k 1) p1 σ hx1) cw_X4_46 rfl (by decide) (hc_kr_4_0 hk) rfl ⟨by decide, by decide⟩ (Nat.le_of_ble_eq_true rfl) rfl rfl dX4_append_9 rfl ?_
  refine ww_aload_n 13 X dX4_append_12 rfl rfl ?_
  refine ww_aload_n 14 X dX4_append_13 rfl rfl ?_
  refine ww_geti (ci := 4) (j := 1) 17 X cf_4 tw_X4_20 (by decide) rfl hk dX4_append_14 rfl ?_
  refine ww_iconst (v := 1) 18 X dX4_append_17 rfl (by decide) ?_
  refine ww_iadd 19 X dX4_append_18 rfl ?_
  obtain ⟨σ2, eσ2, h⟩ := hb_nm_of h
  refine ww_put (ci := 4) (j := 1) (ty := .int) 22 X cf_4 cg_4 tw_X4_20 (by decide) rfl rfl rfl rfl rfl hk eσ2.symm dX4_append_19 rfl ?_
  refine ww_aload_n 23 X dX4_append_22 rfl rfl ?_
  refine ww_geti (ci := 4) (j := 1) 26 X cf_4 tw_X4_20 (by decide) rfl hk dX4_append_23 rfl ?_
  obtain rfl := Option.some.inj h
  exact ww_ret_i X hr K dX4_append_26
theorem ct_X4_append (l : Launch) (G : hb_Gam) (k : Nat) (hk : hb_is ΛC k 4) (p1 : Int32) (σ : hb_Mem) {x : (Int32 × hb_Mem)} (h : fn_X4_append k p1 σ = some x) : hb_C l yX4_append cX4_append 2 (some .int) 1 22 ΛC G [.ref (G.2.2.2 k), .int p1] σ (some (.int x.1)) x.2 :=
  hb_C.of [some (.ref (G.2.2.2 k)), some (.int p1)] (by decide +kernel) (Nat.le_of_ble_eq_true rfl) (by intro v hv; simp only [List.mem_cons, List.not_mem_nil, or_false] at hv; rcases hv with rfl | rfl <;> rfl) rfl (hb_pad [.ref (G.2.2.2 k), .int p1] 0) (fun Γ X hr => wk_X4_append X hr k hk p1 σ h rfl)
def fn_X4_sign (k : Nat) (σ : hb_Mem) : Option Int32 :=
if (σ k 1) ≤ (σ k 2) then (
some (-1))
else (
(fn_X1_at (hc_rf k 0) (σ k 2) σ).bind fun x1 =>
some x1)
set_option maxRecDepth 100000 in
set_option maxHeartbeats 4000000 in
theorem wk_X4_sign {Γ : hb_Ctx} {G : hb_Gam} {Q : State → Prop} (X : hb_X Γ cX4_sign 1 RX4 ΛC G 1 21) (hr : hb_ret Γ = (some .int)) (k : Nat) (hk : hb_is ΛC k 4) (σ : hb_Mem) {x : Int32} (h : fn_X4_sign k σ = some x) (K : Q = hb_Q Γ ΛC G (some (.int x)) σ) : hb_W Γ ΛC G 1 Q σ [some (.ref (G.2.2.2 k))] [] 0 := by
  unfold fn_X4_sign at h
  refine ww_aload_n 1 X dX4_sign_0 rfl rfl ?_
  refine ww_geti (ci := 4) (j := 2) 4 X cf_4 tw_X4_24 (by decide) rfl hk dX4_sign_1 rfl ?_
  refine ww_aload_n 5 X dX4_sign_4 rfl rfl ?_
  refine ww_geti (ci := 4) (j := 1) 8 X cf_4 tw_X4_20 (by decide) rfl hk dX4_sign_5 rfl ?_
  refine ww_icmp_ge 25 11 X dX4_sign_8 (by decide) rfl h (fun h => ?_) (fun h => ?_)
  · skip
    refine ww_iconst (v := (-1)) 26 X dX4_sign_25 rfl (by decide) ?_
    obtain rfl := Option.some.inj h
    exact ww_ret_i X hr K dX4_sign_26
  · skip
    refine ww_aload_n 12 X dX4_sign_11 rfl rfl ?_
    refine ww_getr (ci := 4) (j := 0) 15 X cf_4 tw_X4_14 (by decide) rfl hk dX4_sign_12 rfl ?_
    refine ww_aload_n 16 X dX4_sign_15 rfl rfl ?_
    refine ww_geti (ci := 4) (j := 2) 19 X cf_4 tw_X4_24 (by decide) rfl hk dX4_sign_16 rfl ?_
    obtain ⟨x1, hx1, h⟩ := hb_bind_of h
    refine ww_callV (ci := 1) (rest := []) (st' := [.int x1]) 22 X (ct_X1_at (hb_l Γ) G (hc_rf k 0) (hc_kr_4_0 hk) (σ k 2) σ hx1) cw_X4_57 rfl (by decide) (hc_kr_4_0 hk) rfl ⟨by decide, by decide⟩ (Nat.le_of_ble_eq_true rfl) rfl rfl dX4_sign_19 rfl ?_
    refine ww_goto 26 X dX4_sign_22 (by decide) ?_
    obtain rfl := Option.some.inj h
    exact ww_ret_i X hr K dX4_sign_26
theorem ct_X4_sign (l : Launch) (G : hb_Gam) (k : Nat) (hk : hb_is ΛC k 4) (σ : hb_Mem) {x : Int32} (h : fn_X4_sign k σ = some x) : hb_C l yX4_sign cX4_sign 1 (some .int) 1 21 ΛC G [.ref (G.2.2.2 k)] σ (some (.int x)) σ :=
  hb_C.of [some (.ref (G.2.2.2 k))] (by decide +kernel) (Nat.le_of_ble_eq_true rfl) (by intro v hv; simp only [List.mem_cons, List.not_mem_nil, or_false] at hv; subst hv; rfl) rfl (hb_pad [.ref (G.2.2.2 k)] 0) (fun Γ X hr => wk_X4_sign X hr k hk σ h rfl)
def fn_X4_isDigit (p0 : Int32) : Option Int32 :=
if p0 < 48 then (
some 0)
else (
if 57 < p0 then (
some 0)
else (
some 1))
set_option maxRecDepth 100000 in
set_option maxHeartbeats 4000000 in
theorem wk_X4_isDigit {Γ : hb_Ctx} {G : hb_Gam} {Q : State → Prop} (X : hb_X Γ cX4_isDigit 1 RX4 ΛC G 0 0) (hr : hb_ret Γ = (some .boolean)) (p0 : Int32) (σ : hb_Mem) {x : Int32} (h : fn_X4_isDigit p0 = some x) (K : Q = hb_Q Γ ΛC G (some (.int x)) σ) : hb_W Γ ΛC G 1 Q σ [some (.int p0)] [] 0 := by
  unfold fn_X4_isDigit at h
  refine ww_iload_n 1 X dX4_isDigit_0 rfl rfl ?_
  refine ww_bipush (v := 48) 3 X dX4_isDigit_1 rfl (by decide) ?_
  refine ww_icmp_lt 16 6 X dX4_isDigit_3 (by decide) rfl h (fun h => ?_) (fun h => ?_)
  · skip
    refine ww_iconst (v := 0) 17 X dX4_isDigit_16 rfl (by decide) ?_
    obtain rfl := Option.some.inj h
    exact ww_ret_z X hr (by decide) K dX4_isDigit_17
  · skip
    refine ww_iload_n 7 X dX4_isDigit_6 rfl rfl ?_
    refine ww_bipush (v := 57) 9 X dX4_isDigit_7 rfl (by decide) ?_
    refine ww_icmp_gt 16 12 X dX4_isDigit_9 (by decide) rfl h (fun h => ?_) (fun h => ?_)
    · skip
      refine ww_iconst (v := 0) 17 X dX4_isDigit_16 rfl (by decide) ?_
      obtain rfl := Option.some.inj h
      exact ww_ret_z X hr (by decide) K dX4_isDigit_17
    · skip
      refine ww_iconst (v := 1) 13 X dX4_isDigit_12 rfl (by decide) ?_
      refine ww_goto 17 X dX4_isDigit_13 (by decide) ?_
      obtain rfl := Option.some.inj h
      exact ww_ret_z X hr (by decide) K dX4_isDigit_17
theorem ct_X4_isDigit (l : Launch) (G : hb_Gam) (p0 : Int32) (σ : hb_Mem) {x : Int32} (h : fn_X4_isDigit p0 = some x) : hb_C l yX4_isDigit cX4_isDigit 1 (some .boolean) 0 0 ΛC G [.int p0] σ (some (.int x)) σ :=
  hb_C.of [some (.int p0)] (by decide +kernel) (Nat.le_of_ble_eq_true rfl) (by intro v hv; simp only [List.mem_cons, List.not_mem_nil, or_false] at hv; subst hv; rfl) rfl (hb_pad [.int p0] 0) (fun Γ X hr => wk_X4_isDigit X hr p0 σ h rfl)
def jn_X4_parseNumber_17 (k : Nat) (σ : hb_Mem) : Option (Int32 × hb_Mem) :=
hb_nm (hb_up σ k 3 0) fun σ1 =>
some (0, σ1)
set_option maxRecDepth 100000 in
set_option maxHeartbeats 4000000 in
theorem jw_X4_parseNumber_17 {Γ : hb_Ctx} {G : hb_Gam} {Q : State → Prop} (X : hb_X Γ cX4_parseNumber 3 RX4 ΛC G 2 41) (hr : hb_ret Γ = (some .int)) (k : Nat) (hk : hb_is ΛC k 4) (σ : hb_Mem) {x : (Int32 × hb_Mem)} (h : jn_X4_parseNumber_17 k σ = some x) (K : Q = hb_Q Γ ΛC G (some (.int x.1)) x.2) : hb_W Γ ΛC G 3 Q σ [some (.ref (G.2.2.2 k)), none, none] [] 17 := by
  unfold jn_X4_parseNumber_17 at h
  refine ww_aload_n 18 X dX4_parseNumber_17 rfl rfl ?_
  refine ww_iconst (v := 0) 19 X dX4_parseNumber_18 rfl (by decide) ?_
  obtain ⟨σ1, eσ1, h⟩ := hb_nm_of h
  refine ww_put (ci := 4) (j := 3) (ty := .boolean) 22 X cf_4 cg_4 tw_X4_27 (by decide) rfl rfl rfl rfl rfl hk eσ1.symm dX4_parseNumber_19 rfl ?_
  refine ww_iconst (v := 0) 23 X dX4_parseNumber_22 rfl (by decide) ?_
  obtain rfl := Option.some.inj h
  exact ww_ret_i X hr K dX4_parseNumber_23
def fn_X4_parseNumber (k : Nat) (σ : hb_Mem) : Option (Int32 × hb_Mem) :=
if (σ k 3) = 0 then (
jn_X4_parseNumber_17 k σ)
else (
(fn_X4_sign k σ).bind fun x2 =>
(fn_X4_isDigit x2).bind fun x3 =>
if x3 = 0 then (
jn_X4_parseNumber_17 k σ)
else (
(fn_X4_sign k σ).bind fun x4 =>
hb_nm (x4 - 48) fun v5 =>
hb_nm (hb_up σ k 2 ((σ k 2) + 1)) fun σ6 =>
if v5 = 0 then (
some (v5, σ6))
else (
(fn_X4_sign k σ6).bind fun x7 =>
(fn_X4_isDigit x7).bind fun x8 =>
if x8 = 0 then (
some (v5, σ6))
else (
(fn_X4_sign k σ6).bind fun x9 =>
hb_nm (((v5 * 10) + x9) - 48) fun v10 =>
if v10 < 32 then (
hb_nm (hb_up σ6 k 2 ((σ6 k 2) + 1)) fun σ11 =>
some (v10, σ11))
else (
some (v5, σ6))))))
set_option maxRecDepth 100000 in
set_option maxHeartbeats 4000000 in
theorem wk_X4_parseNumber {Γ : hb_Ctx} {G : hb_Gam} {Q : State → Prop} (X : hb_X Γ cX4_parseNumber 3 RX4 ΛC G 2 41) (hr : hb_ret Γ = (some .int)) (k : Nat) (hk : hb_is ΛC k 4) (σ : hb_Mem) {x : (Int32 × hb_Mem)} (h : fn_X4_parseNumber k σ = some x) (K : Q = hb_Q Γ ΛC G (some (.int x.1)) x.2) : hb_W Γ ΛC G 3 Q σ [some (.ref (G.2.2.2 k)), none, none] [] 0 := by
  unfold fn_X4_parseNumber at h
  refine ww_aload_n 1 X dX4_parseNumber_0 rfl rfl ?_
  refine ww_geti (ci := 4) (j := 3) 4 X cf_4 tw_X4_27 (by decide) rfl hk dX4_parseNumber_1 rfl ?_
  refine ww_if_eq 17 7 X dX4_parseNumber_4 (by decide) rfl h (fun h => ?_) (fun h => ?_)
  · skip
    exact jw_X4_parseNumber_17 X hr k hk σ h K
  · skip
    refine ww_aload_n 8 X dX4_parseNumber_7 rfl rfl ?_
    obtain ⟨x2, hx2, h⟩ := hb_bind_of h
    refine ww_callV (ci := 4) (rest := []) (st' := [.int x2]) 11 X (ct_X4_sign (hb_l Γ) G k hk σ hx2) cw_X4_53 rfl (by decide) hk rfl ⟨by decide, by decide⟩ (Nat.le_of_ble_eq_true rfl) rfl rfl dX4_parseNumber_8 rfl ?_
    obtain ⟨x3, hx3, h⟩ := hb_bind_of h
    refine ww_callS (rest := []) (st' := [.int x3]) 14 X (ct_X4_isDigit (hb_l Γ) G x2 σ hx3) cw_X4_70 rfl ⟨by decide, by decide⟩ (Nat.le_of_ble_eq_true rfl) rfl rfl dX4_parseNumber_11 rfl ?_
    refine ww_if_ne 24 17 X dX4_parseNumber_14 (by decide) rfl h (fun h => ?_) (fun h => ?_)
    · skip
      exact jw_X4_parseNumber_17 X hr k hk σ h K
    · skip
      refine ww_aload_n 25 X dX4_parseNumber_24 rfl rfl ?_
      obtain ⟨x4, hx4, h⟩ := hb_bind_of h
      refine ww_callV (ci := 4) (rest := []) (st' := [.int x4]) 28 X (ct_X4_sign (hb_l Γ) G k hk σ hx4) cw_X4_53 rfl (by decide) hk rfl ⟨by decide, by decide⟩ (Nat.le_of_ble_eq_true rfl) rfl rfl dX4_parseNumber_25 rfl ?_
      refine ww_bipush (v := 48) 30 X dX4_parseNumber_28 rfl (by decide) ?_
      refine ww_isub 31 X dX4_parseNumber_30 rfl ?_
      obtain ⟨v5, ev5, h⟩ := hb_nm_of h
      rw [← ev5]
      refine ww_istore_n 32 X (L' := [some (.ref (G.2.2.2 k)), some (.int v5), none]) dX4_parseNumber_31 rfl (Nat.le_of_ble_eq_true rfl) rfl rfl ?_
      refine ww_aload_n 33 X dX4_parseNumber_32 rfl rfl ?_
      refine ww_aload_n 34 X dX4_parseNumber_33 rfl rfl ?_
      refine ww_geti (ci := 4) (j := 2) 37 X cf_4 tw_X4_24 (by decide) rfl hk dX4_parseNumber_34 rfl ?_
      refine ww_iconst (v := 1) 38 X dX4_parseNumber_37 rfl (by decide) ?_
      refine ww_iadd 39 X dX4_parseNumber_38 rfl ?_
      obtain ⟨σ6, eσ6, h⟩ := hb_nm_of h
      refine ww_put (ci := 4) (j := 2) (ty := .int) 42 X cf_4 cg_4 tw_X4_24 (by decide) rfl rfl rfl rfl rfl hk eσ6.symm dX4_parseNumber_39 rfl ?_
      refine ww_iload_n 43 X dX4_parseNumber_42 rfl rfl ?_
      refine ww_if_eq 56 46 X dX4_parseNumber_43 (by decide) rfl h (fun h => ?_) (fun h => ?_)
      · skip
        refine ww_iload_n 57 X dX4_parseNumber_56 rfl rfl ?_
        obtain rfl := Option.some.inj h
        exact ww_ret_i X hr K dX4_parseNumber_57
      · skip
        refine ww_aload_n 47 X dX4_parseNumber_46 rfl rfl ?_
        obtain ⟨x7, hx7, h⟩ := hb_bind_of h
        refine ww_callV (ci := 4) (rest := []) (st' := [.int x7]) 50 X (ct_X4_sign (hb_l Γ) G k hk σ6 hx7) cw_X4_53 rfl (by decide) hk rfl ⟨by decide, by decide⟩ (Nat.le_of_ble_eq_true rfl) rfl rfl dX4_parseNumber_47 rfl ?_
        obtain ⟨x8, hx8, h⟩ := hb_bind_of h
        refine ww_callS (rest := []) (st' := [.int x8]) 53 X (ct_X4_isDigit (hb_l Γ) G x7 σ6 hx8) cw_X4_70 rfl ⟨by decide, by decide⟩ (Nat.le_of_ble_eq_true rfl) rfl rfl dX4_parseNumber_50 rfl ?_
        refine ww_if_ne 58 56 X dX4_parseNumber_53 (by decide) rfl h (fun h => ?_) (fun h => ?_)
        · skip
          refine ww_iload_n 57 X dX4_parseNumber_56 rfl rfl ?_
          obtain rfl := Option.some.inj h
          exact ww_ret_i X hr K dX4_parseNumber_57
        · skip
          refine ww_iload_n 59 X dX4_parseNumber_58 rfl rfl ?_
          refine ww_bipush (v := 10) 61 X dX4_parseNumber_59 rfl (by decide) ?_
          refine ww_imul 62 X dX4_parseNumber_61 rfl ?_
          refine ww_aload_n 63 X dX4_parseNumber_62 rfl rfl ?_
          obtain ⟨x9, hx9, h⟩ := hb_bind_of h
          refine ww_callV (ci := 4) (rest := [.int (v5 * 10)]) (st' := [.int x9, .int (v5 * 10)]) 66 X (ct_X4_sign (hb_l Γ) G k hk σ6 hx9) cw_X4_53 rfl (by decide) hk rfl ⟨by decide, by decide⟩ (Nat.le_of_ble_eq_true rfl) rfl rfl dX4_parseNumber_63 rfl ?_
          refine ww_iadd 67 X dX4_parseNumber_66 rfl ?_
          refine ww_bipush (v := 48) 69 X dX4_parseNumber_67 rfl (by decide) ?_
          refine ww_isub 70 X dX4_parseNumber_69 rfl ?_
          obtain ⟨v10, ev10, h⟩ := hb_nm_of h
          rw [← ev10]
          refine ww_istore_n 71 X (L' := [some (.ref (G.2.2.2 k)), some (.int v5), some (.int v10)]) dX4_parseNumber_70 rfl (Nat.le_of_ble_eq_true rfl) rfl rfl ?_
          refine ww_iload_n 72 X dX4_parseNumber_71 rfl rfl ?_
          refine ww_bipush (v := 32) 74 X dX4_parseNumber_72 rfl (by decide) ?_
          refine ww_icmp_lt 79 77 X dX4_parseNumber_74 (by decide) rfl h (fun h => ?_) (fun h => ?_)
          · skip
            refine ww_aload_n 80 X dX4_parseNumber_79 rfl rfl ?_
            refine ww_aload_n 81 X dX4_parseNumber_80 rfl rfl ?_
            refine ww_geti (ci := 4) (j := 2) 84 X cf_4 tw_X4_24 (by decide) rfl hk dX4_parseNumber_81 rfl ?_
            refine ww_iconst (v := 1) 85 X dX4_parseNumber_84 rfl (by decide) ?_
            refine ww_iadd 86 X dX4_parseNumber_85 rfl ?_
            obtain ⟨σ11, eσ11, h⟩ := hb_nm_of h
            refine ww_put (ci := 4) (j := 2) (ty := .int) 89 X cf_4 cg_4 tw_X4_24 (by decide) rfl rfl rfl rfl rfl hk eσ11.symm dX4_parseNumber_86 rfl ?_
            refine ww_iload_n 90 X dX4_parseNumber_89 rfl rfl ?_
            obtain rfl := Option.some.inj h
            exact ww_ret_i X hr K dX4_parseNumber_90
          · skip
            refine ww_iload_n 78 X dX4_parseNumber_77 rfl rfl ?_
            obtain rfl := Option.some.inj h
            exact ww_ret_i X hr K dX4_parseNumber_78
theorem ct_X4_parseNumber (l : Launch) (G : hb_Gam) (k : Nat) (hk : hb_is ΛC k 4) (σ : hb_Mem) {x : (Int32 × hb_Mem)} (h : fn_X4_parseNumber k σ = some x) : hb_C l yX4_parseNumber cX4_parseNumber 3 (some .int) 2 41 ΛC G [.ref (G.2.2.2 k)] σ (some (.int x.1)) x.2 :=
  hb_C.of [some (.ref (G.2.2.2 k)), none, none] (by decide +kernel) (Nat.le_of_ble_eq_true rfl) (by intro v hv; simp only [List.mem_cons, List.not_mem_nil, or_false] at hv; subst hv; rfl) rfl (hb_pad [.ref (G.2.2.2 k)] 2) (fun Γ X hr => wk_X4_parseNumber X hr k hk σ h rfl)
def jn_X4_parseArrow_16 (k : Nat) (σ : hb_Mem) : Option hb_Mem :=
hb_nm (hb_up σ k 3 0) fun σ1 =>
some σ1
set_option maxRecDepth 100000 in
set_option maxHeartbeats 4000000 in
theorem jw_X4_parseArrow_16 {Γ : hb_Ctx} {G : hb_Gam} {Q : State → Prop} (X : hb_X Γ cX4_parseArrow 1 RX4 ΛC G 2 41) (hr : hb_ret Γ = none) (k : Nat) (hk : hb_is ΛC k 4) (σ : hb_Mem) {x : hb_Mem} (h : jn_X4_parseArrow_16 k σ = some x) (K : Q = hb_Q Γ ΛC G none x) : hb_W Γ ΛC G 1 Q σ [some (.ref (G.2.2.2 k))] [] 16 := by
  unfold jn_X4_parseArrow_16 at h
  refine ww_aload_n 17 X dX4_parseArrow_16 rfl rfl ?_
  refine ww_iconst (v := 0) 18 X dX4_parseArrow_17 rfl (by decide) ?_
  obtain ⟨σ1, eσ1, h⟩ := hb_nm_of h
  refine ww_put (ci := 4) (j := 3) (ty := .boolean) 21 X cf_4 cg_4 tw_X4_27 (by decide) rfl rfl rfl rfl rfl hk eσ1.symm dX4_parseArrow_18 rfl ?_
  obtain rfl := Option.some.inj h
  exact ww_ret_v X hr K dX4_parseArrow_21
def fn_X4_parseArrow (k : Nat) (σ : hb_Mem) : Option hb_Mem :=
if (σ k 3) = 0 then (
jn_X4_parseArrow_16 k σ)
else (
(fn_X4_sign k σ).bind fun x2 =>
if x2 = 62 then (
hb_nm (hb_up σ k 2 ((σ k 2) + 1)) fun σ3 =>
some σ3)
else (
jn_X4_parseArrow_16 k σ))
set_option maxRecDepth 100000 in
set_option maxHeartbeats 4000000 in
theorem wk_X4_parseArrow {Γ : hb_Ctx} {G : hb_Gam} {Q : State → Prop} (X : hb_X Γ cX4_parseArrow 1 RX4 ΛC G 2 41) (hr : hb_ret Γ = none) (k : Nat) (hk : hb_is ΛC k 4) (σ : hb_Mem) {x : hb_Mem} (h : fn_X4_parseArrow k σ = some x) (K : Q = hb_Q Γ ΛC G none x) : hb_W Γ ΛC G 1 Q σ [some (.ref (G.2.2.2 k))] [] 0 := by
  unfold fn_X4_parseArrow at h
  refine ww_aload_n 1 X dX4_parseArrow_0 rfl rfl ?_
  refine ww_geti (ci := 4) (j := 3) 4 X cf_4 tw_X4_27 (by decide) rfl hk dX4_parseArrow_1 rfl ?_
  refine ww_if_eq 16 7 X dX4_parseArrow_4 (by decide) rfl h (fun h => ?_) (fun h => ?_)
  · skip
    exact jw_X4_parseArrow_16 X hr k hk σ h K
  · skip
    refine ww_aload_n 8 X dX4_parseArrow_7 rfl rfl ?_
    obtain ⟨x2, hx2, h⟩ := hb_bind_of h
    refine ww_callV (ci := 4) (rest := []) (st' := [.int x2]) 11 X (ct_X4_sign (hb_l Γ) G k hk σ hx2) cw_X4_53 rfl (by decide) hk rfl ⟨by decide, by decide⟩ (Nat.le_of_ble_eq_true rfl) rfl rfl dX4_parseArrow_8 rfl ?_
    refine ww_bipush (v := 62) 13 X dX4_parseArrow_11 rfl (by decide) ?_
    refine ww_icmp_eq 22 16 X dX4_parseArrow_13 (by decide) rfl h (fun h => ?_) (fun h => ?_)
    · skip
      refine ww_aload_n 23 X dX4_parseArrow_22 rfl rfl ?_
      refine ww_aload_n 24 X dX4_parseArrow_23 rfl rfl ?_
      refine ww_geti (ci := 4) (j := 2) 27 X cf_4 tw_X4_24 (by decide) rfl hk dX4_parseArrow_24 rfl ?_
      refine ww_iconst (v := 1) 28 X dX4_parseArrow_27 rfl (by decide) ?_
      refine ww_iadd 29 X dX4_parseArrow_28 rfl ?_
      obtain ⟨σ3, eσ3, h⟩ := hb_nm_of h
      refine ww_put (ci := 4) (j := 2) (ty := .int) 32 X cf_4 cg_4 tw_X4_24 (by decide) rfl rfl rfl rfl rfl hk eσ3.symm dX4_parseArrow_29 rfl ?_
      obtain rfl := Option.some.inj h
      exact ww_ret_v X hr K dX4_parseArrow_32
    · skip
      exact jw_X4_parseArrow_16 X hr k hk σ h K
theorem ct_X4_parseArrow (l : Launch) (G : hb_Gam) (k : Nat) (hk : hb_is ΛC k 4) (σ : hb_Mem) {x : hb_Mem} (h : fn_X4_parseArrow k σ = some x) : hb_C l yX4_parseArrow cX4_parseArrow 1 none 2 41 ΛC G [.ref (G.2.2.2 k)] σ none x :=
  hb_C.of [some (.ref (G.2.2.2 k))] (by decide +kernel) (Nat.le_of_ble_eq_true rfl) (by intro v hv; simp only [List.mem_cons, List.not_mem_nil, or_false] at hv; subst hv; rfl) rfl (hb_pad [.ref (G.2.2.2 k)] 0) (fun Γ X hr => wk_X4_parseArrow X hr k hk σ h rfl)
def jn_X4_parseFlags_63 (k : Nat) (p1 : Int32) (j2 : Int32) (j3 : Int32) (σ : hb_Mem) : Option ((Int32 × Int32 × hb_Mem) ⊕ (Int32 × hb_Mem)) :=
hb_nm (j3 + 1) fun v4 =>
some (.inl (j2, v4, σ))
set_option maxRecDepth 100000 in
set_option maxHeartbeats 4000000 in
theorem jw_X4_parseFlags_63 {Γ : hb_Ctx} {G : hb_Gam} {Q : State → Prop} (X : hb_X Γ cX4_parseFlags 4 RX4 ΛC G 2 41)  (k : Nat) (hk : hb_is ΛC k 4) (p1 : Int32) (j2 : Int32) (j3 : Int32) (σ : hb_Mem) {x : ((Int32 × Int32 × hb_Mem) ⊕ (Int32 × hb_Mem))} (h : jn_X4_parseFlags_63 k p1 j2 j3 σ = some x) (K : Sum.elim (fun s : (Int32 × Int32 × hb_Mem) => hb_W Γ ΛC G 4 Q s.2.2 [some (.ref (G.2.2.2 k)), none, some (.int s.1), some (.int s.2.1)] [] 31) (fun t : (Int32 × hb_Mem) => hb_W Γ ΛC G 4 Q t.2 [some (.ref (G.2.2.2 k)), none, some (.int t.1), none] [] 69) x) : hb_W Γ ΛC G 4 Q σ [some (.ref (G.2.2.2 k)), none, some (.int j2), some (.int j3)] [] 63 := by
  unfold jn_X4_parseFlags_63 at h
  obtain ⟨v4, ev4, h⟩ := hb_nm_of h
  refine ww_iinc 66 X (L' := [some (.ref (G.2.2.2 k)), none, some (.int j2), some (.int v4)]) dX4_parseFlags_63 rfl rfl ev4.symm rfl ?_
  refine ww_goto 31 X dX4_parseFlags_66 (by decide) ?_
  obtain rfl := Option.some.inj h
  exact K
def lb_X4_parseFlags_31 (k : Nat) (p1 : Int32) (w2 : Int32) (w3 : Int32) (σ : hb_Mem) : Option ((Int32 × Int32 × hb_Mem) ⊕ (Int32 × hb_Mem)) :=
if 5 ≤ w3 then (
some (.inr (w2, σ)))
else (
(fn_X4_sign k σ).bind fun x3 =>
if x3 = ((97 : Int32) + w3) then (
hb_nm (w2 ||| ((1 : Int32) <<< (w3 &&& 31))) fun v5 =>
hb_nm (hb_up σ k 2 ((σ k 2) + 1)) fun σ6 =>
jn_X4_parseFlags_63 k p1 v5 w3 σ6)
else (
jn_X4_parseFlags_63 k p1 w2 w3 σ))
set_option maxRecDepth 100000 in
set_option maxHeartbeats 4000000 in
theorem lk_X4_parseFlags_31 {Γ : hb_Ctx} {G : hb_Gam} {Q : State → Prop} (X : hb_X Γ cX4_parseFlags 4 RX4 ΛC G 2 41)  (k : Nat) (hk : hb_is ΛC k 4) (p1 : Int32) (w2 : Int32) (w3 : Int32) (σ : hb_Mem) {x : ((Int32 × Int32 × hb_Mem) ⊕ (Int32 × hb_Mem))} (h : lb_X4_parseFlags_31 k p1 w2 w3 σ = some x) (K : Sum.elim (fun s : (Int32 × Int32 × hb_Mem) => hb_W Γ ΛC G 4 Q s.2.2 [some (.ref (G.2.2.2 k)), none, some (.int s.1), some (.int s.2.1)] [] 31) (fun t : (Int32 × hb_Mem) => hb_W Γ ΛC G 4 Q t.2 [some (.ref (G.2.2.2 k)), none, some (.int t.1), none] [] 69) x) : hb_W Γ ΛC G 4 Q σ [some (.ref (G.2.2.2 k)), none, some (.int w2), some (.int w3)] [] 31 := by
  unfold lb_X4_parseFlags_31 at h
  refine ww_iload_n 32 X dX4_parseFlags_31 rfl rfl ?_
  refine ww_iconst (v := 5) 33 X dX4_parseFlags_32 rfl (by decide) ?_
  refine ww_icmp_ge 69 36 X dX4_parseFlags_33 (by decide) rfl h (fun h => ?_) (fun h => ?_)
  · skip
    obtain rfl := Option.some.inj h
    refine ww_kill [3] (L' := [some (.ref (G.2.2.2 k)), none, some (.int w2), none]) rfl ?_
    exact K
  · skip
    refine ww_aload_n 37 X dX4_parseFlags_36 rfl rfl ?_
    obtain ⟨x3, hx3, h⟩ := hb_bind_of h
    refine ww_callV (ci := 4) (rest := []) (st' := [.int x3]) 40 X (ct_X4_sign (hb_l Γ) G k hk σ hx3) cw_X4_53 rfl (by decide) hk rfl ⟨by decide, by decide⟩ (Nat.le_of_ble_eq_true rfl) rfl rfl dX4_parseFlags_37 rfl ?_
    refine ww_bipush (v := 97) 42 X dX4_parseFlags_40 rfl (by decide) ?_
    refine ww_iload_n 43 X dX4_parseFlags_42 rfl rfl ?_
    refine ww_iadd 44 X dX4_parseFlags_43 rfl ?_
    refine ww_icmp_ne 63 47 X dX4_parseFlags_44 (by decide) rfl h (fun h => ?_) (fun h => ?_)
    · skip
      refine ww_iload_n 48 X dX4_parseFlags_47 rfl rfl ?_
      refine ww_iconst (v := 1) 49 X dX4_parseFlags_48 rfl (by decide) ?_
      refine ww_iload_n 50 X dX4_parseFlags_49 rfl rfl ?_
      refine ww_ishl 51 X dX4_parseFlags_50 rfl ?_
      refine ww_ior 52 X dX4_parseFlags_51 rfl ?_
      obtain ⟨v5, ev5, h⟩ := hb_nm_of h
      rw [← ev5]
      refine ww_istore_n 53 X (L' := [some (.ref (G.2.2.2 k)), none, some (.int v5), some (.int w3)]) dX4_parseFlags_52 rfl (Nat.le_of_ble_eq_true rfl) rfl rfl ?_
      refine ww_aload_n 54 X dX4_parseFlags_53 rfl rfl ?_
      refine ww_aload_n 55 X dX4_parseFlags_54 rfl rfl ?_
      refine ww_geti (ci := 4) (j := 2) 58 X cf_4 tw_X4_24 (by decide) rfl hk dX4_parseFlags_55 rfl ?_
      refine ww_iconst (v := 1) 59 X dX4_parseFlags_58 rfl (by decide) ?_
      refine ww_iadd 60 X dX4_parseFlags_59 rfl ?_
      obtain ⟨σ6, eσ6, h⟩ := hb_nm_of h
      refine ww_put (ci := 4) (j := 2) (ty := .int) 63 X cf_4 cg_4 tw_X4_24 (by decide) rfl rfl rfl rfl rfl hk eσ6.symm dX4_parseFlags_60 rfl ?_
      exact jw_X4_parseFlags_63 X k hk p1 v5 w3 σ6 h K
    · skip
      exact jw_X4_parseFlags_63 X k hk p1 w2 w3 σ h K
def ll_X4_parseFlags_31 (k : Nat) (p1 : Int32) : (Int32 × Int32 × hb_Mem) → Option (Int32 × hb_Mem) := hb_lp (fun s => lb_X4_parseFlags_31 k p1 s.1 s.2.1 s.2.2) hb_F
theorem lw_X4_parseFlags_31 {Γ : hb_Ctx} {G : hb_Gam} {Q : State → Prop} (X : hb_X Γ cX4_parseFlags 4 RX4 ΛC G 2 41)  (k : Nat) (hk : hb_is ΛC k 4) (p1 : Int32) (s : (Int32 × Int32 × hb_Mem)) (t : (Int32 × hb_Mem)) (h : ll_X4_parseFlags_31 k p1 s = some t) (K : (fun t : (Int32 × hb_Mem) => hb_W Γ ΛC G 4 Q t.2 [some (.ref (G.2.2.2 k)), none, some (.int t.1), none] [] 69) t) : hb_W Γ ΛC G 4 Q s.2.2 [some (.ref (G.2.2.2 k)), none, some (.int s.1), some (.int s.2.1)] [] 31 :=
  hb_lp_w (P := fun s : (Int32 × Int32 × hb_Mem) => hb_W Γ ΛC G 4 Q s.2.2 [some (.ref (G.2.2.2 k)), none, some (.int s.1), some (.int s.2.1)] [] 31) (E := (fun t : (Int32 × hb_Mem) => hb_W Γ ΛC G 4 Q t.2 [some (.ref (G.2.2.2 k)), none, some (.int t.1), none] [] 69)) (fun s x hx K => lk_X4_parseFlags_31 X k hk p1 s.1 s.2.1 s.2.2 hx K) _ s t h K
def jn_X4_parseFlags_79 (k : Nat) (p1 : Int32) (j2 : Int32) (s1 : Int32) (σ : hb_Mem) : Option (Int32 × hb_Mem) :=
(hb_bz s1).bind fun z8 =>
hb_nm (hb_up σ k 3 s1) fun σ9 =>
some (j2, σ9)
set_option maxRecDepth 100000 in
set_option maxHeartbeats 4000000 in
theorem jw_X4_parseFlags_79 {Γ : hb_Ctx} {G : hb_Gam} {Q : State → Prop} (X : hb_X Γ cX4_parseFlags 4 RX4 ΛC G 2 41) (hr : hb_ret Γ = (some .int)) (k : Nat) (hk : hb_is ΛC k 4) (p1 : Int32) (j2 : Int32) (s1 : Int32) (σ : hb_Mem) {x : (Int32 × hb_Mem)} (h : jn_X4_parseFlags_79 k p1 j2 s1 σ = some x) (K : Q = hb_Q Γ ΛC G (some (.int x.1)) x.2) : hb_W Γ ΛC G 4 Q σ [none, none, some (.int j2), none] [.int s1, .ref (G.2.2.2 k)] 79 := by
  unfold jn_X4_parseFlags_79 at h
  obtain ⟨z8, hz8, h⟩ := hb_bind_of h
  replace hz8 := (hb_bz_of hz8).1
  obtain ⟨σ9, eσ9, h⟩ := hb_nm_of h
  refine ww_put (ci := 4) (j := 3) (ty := .boolean) 82 X cf_4 cg_4 tw_X4_27 (by decide) rfl rfl rfl (hb_bz_n hz8) (hb_bz_f hz8) hk eσ9.symm dX4_parseFlags_79 rfl ?_
  refine ww_iload_n 83 X dX4_parseFlags_82 rfl rfl ?_
  obtain rfl := Option.some.inj h
  exact ww_ret_i X hr K dX4_parseFlags_83
def fn_X4_parseFlags (k : Nat) (p1 : Int32) (σ : hb_Mem) : Option (Int32 × hb_Mem) :=
if (σ k 3) = 0 then (
some (0, σ))
else (
(fn_X4_sign k σ).bind fun x1 =>
if x1 = p1 then (
hb_nm (hb_up σ k 2 ((σ k 2) + 1)) fun σ2 =>
(ll_X4_parseFlags_31 k p1 (0, 0, σ2)).bind fun t7 =>
if t7.1 = 0 then (
jn_X4_parseFlags_79 k p1 t7.1 0 t7.2)
else (
jn_X4_parseFlags_79 k p1 t7.1 1 t7.2))
else (
some (0, σ)))
set_option maxRecDepth 100000 in
set_option maxHeartbeats 4000000 in
theorem wk_X4_parseFlags {Γ : hb_Ctx} {G : hb_Gam} {Q : State → Prop} (X : hb_X Γ cX4_parseFlags 4 RX4 ΛC G 2 41) (hr : hb_ret Γ = (some .int)) (k : Nat) (hk : hb_is ΛC k 4) (p1 : Int32) (σ : hb_Mem) {x : (Int32 × hb_Mem)} (h : fn_X4_parseFlags k p1 σ = some x) (K : Q = hb_Q Γ ΛC G (some (.int x.1)) x.2) : hb_W Γ ΛC G 4 Q σ [some (.ref (G.2.2.2 k)), some (.int p1), none, none] [] 0 := by
  unfold fn_X4_parseFlags at h
  refine ww_aload_n 1 X dX4_parseFlags_0 rfl rfl ?_
  refine ww_geti (ci := 4) (j := 3) 4 X cf_4 tw_X4_27 (by decide) rfl hk dX4_parseFlags_1 rfl ?_
  refine ww_if_eq 15 7 X dX4_parseFlags_4 (by decide) rfl h (fun h => ?_) (fun h => ?_)
  · skip
    refine ww_iconst (v := 0) 16 X dX4_parseFlags_15 rfl (by decide) ?_
    obtain rfl := Option.some.inj h
    exact ww_ret_i X hr K dX4_parseFlags_16
  · skip
    refine ww_aload_n 8 X dX4_parseFlags_7 rfl rfl ?_
    obtain ⟨x1, hx1, h⟩ := hb_bind_of h
    refine ww_callV (ci := 4) (rest := []) (st' := [.int x1]) 11 X (ct_X4_sign (hb_l Γ) G k hk σ hx1) cw_X4_53 rfl (by decide) hk rfl ⟨by decide, by decide⟩ (Nat.le_of_ble_eq_true rfl) rfl rfl dX4_parseFlags_8 rfl ?_
    refine ww_iload_n 12 X dX4_parseFlags_11 rfl rfl ?_
    refine ww_icmp_eq 17 15 X dX4_parseFlags_12 (by decide) rfl h (fun h => ?_) (fun h => ?_)
    · skip
      refine ww_aload_n 18 X dX4_parseFlags_17 rfl rfl ?_
      refine ww_aload_n 19 X dX4_parseFlags_18 rfl rfl ?_
      refine ww_geti (ci := 4) (j := 2) 22 X cf_4 tw_X4_24 (by decide) rfl hk dX4_parseFlags_19 rfl ?_
      refine ww_iconst (v := 1) 23 X dX4_parseFlags_22 rfl (by decide) ?_
      refine ww_iadd 24 X dX4_parseFlags_23 rfl ?_
      obtain ⟨σ2, eσ2, h⟩ := hb_nm_of h
      refine ww_put (ci := 4) (j := 2) (ty := .int) 27 X cf_4 cg_4 tw_X4_24 (by decide) rfl rfl rfl rfl rfl hk eσ2.symm dX4_parseFlags_24 rfl ?_
      refine ww_iconst (v := 0) 28 X dX4_parseFlags_27 rfl (by decide) ?_
      refine ww_istore_n 29 X (L' := [some (.ref (G.2.2.2 k)), some (.int p1), some (.int 0), none]) dX4_parseFlags_28 rfl (Nat.le_of_ble_eq_true rfl) rfl rfl ?_
      refine ww_iconst (v := 0) 30 X dX4_parseFlags_29 rfl (by decide) ?_
      refine ww_istore_n 31 X (L' := [some (.ref (G.2.2.2 k)), some (.int p1), some (.int 0), some (.int 0)]) dX4_parseFlags_30 rfl (Nat.le_of_ble_eq_true rfl) rfl rfl ?_
      obtain ⟨t7, ht7, h⟩ := hb_bind_of h
      refine ww_kill [1] (L' := [some (.ref (G.2.2.2 k)), none, some (.int 0), some (.int 0)]) rfl ?_
      refine lw_X4_parseFlags_31 X k hk p1 (0, 0, σ2) t7 ht7 ?_
      refine ww_aload_n 70 X dX4_parseFlags_69 rfl rfl ?_
      refine ww_iload_n 71 X dX4_parseFlags_70 rfl rfl ?_
      refine ww_if_eq 78 74 X dX4_parseFlags_71 (by decide) rfl h (fun h => ?_) (fun h => ?_)
      · skip
        refine ww_iconst (v := 0) 79 X dX4_parseFlags_78 rfl (by decide) ?_
        refine ww_kill [0] (L' := [none, none, some (.int t7.1), none]) rfl ?_
        exact jw_X4_parseFlags_79 X hr k hk p1 t7.1 0 t7.2 h K
      · skip
        refine ww_iconst (v := 1) 75 X dX4_parseFlags_74 rfl (by decide) ?_
        refine ww_goto 79 X dX4_parseFlags_75 (by decide) ?_
        refine ww_kill [0] (L' := [none, none, some (.int t7.1), none]) rfl ?_
        exact jw_X4_parseFlags_79 X hr k hk p1 t7.1 1 t7.2 h K
    · skip
      refine ww_iconst (v := 0) 16 X dX4_parseFlags_15 rfl (by decide) ?_
      obtain rfl := Option.some.inj h
      exact ww_ret_i X hr K dX4_parseFlags_16
theorem ct_X4_parseFlags (l : Launch) (G : hb_Gam) (k : Nat) (hk : hb_is ΛC k 4) (p1 : Int32) (σ : hb_Mem) {x : (Int32 × hb_Mem)} (h : fn_X4_parseFlags k p1 σ = some x) : hb_C l yX4_parseFlags cX4_parseFlags 4 (some .int) 2 41 ΛC G [.ref (G.2.2.2 k), .int p1] σ (some (.int x.1)) x.2 :=
  hb_C.of [some (.ref (G.2.2.2 k)), some (.int p1), none, none] (by decide +kernel) (Nat.le_of_ble_eq_true rfl) (by intro v hv; simp only [List.mem_cons, List.not_mem_nil, or_false] at hv; rcases hv with rfl | rfl <;> rfl) rfl (hb_pad [.ref (G.2.2.2 k), .int p1] 2) (fun Γ X hr => wk_X4_parseFlags X hr k hk p1 σ h rfl)
def fn_X4_parseChoice (k : Nat) (σ : hb_Mem) : Option hb_Mem :=
(fn_X4_parseNumber k σ).bind fun x1 =>
(fn_X4_parseArrow k x1.2).bind fun x2 =>
(fn_X4_parseNumber k x2).bind fun x3 =>
(fn_X4_parseFlags k 43 x3.2).bind fun x4 =>
(fn_X4_parseFlags k 45 x4.2).bind fun x5 =>
if (x5.2 k 3) = 0 then (
some x5.2)
else (
(fn_X1_put (hc_rf k 5) (x5.2 k 4) x1.1 x5.2).bind fun x6 =>
(fn_X1_put (hc_rf k 6) (x6 k 4) x3.1 x6).bind fun x7 =>
(fn_X1_put (hc_rf k 7) (x7 k 4) x4.1 x7).bind fun x8 =>
(fn_X1_put (hc_rf k 8) (x8 k 4) x5.1 x8).bind fun x9 =>
hb_nm (hb_up x9 k 4 ((x9 k 4) + 1)) fun σ10 =>
some σ10)
set_option maxRecDepth 100000 in
set_option maxHeartbeats 4000000 in
theorem wk_X4_parseChoice {Γ : hb_Ctx} {G : hb_Gam} {Q : State → Prop} (X : hb_X Γ cX4_parseChoice 5 RX4 ΛC G 3 64) (hr : hb_ret Γ = none) (k : Nat) (hk : hb_is ΛC k 4) (σ : hb_Mem) {x : hb_Mem} (h : fn_X4_parseChoice k σ = some x) (K : Q = hb_Q Γ ΛC G none x) : hb_W Γ ΛC G 5 Q σ [some (.ref (G.2.2.2 k)), none, none, none, none] [] 0 := by
  unfold fn_X4_parseChoice at h
  refine ww_aload_n 1 X dX4_parseChoice_0 rfl rfl ?_
  obtain ⟨x1, hx1, h⟩ := hb_bind_of h
  refine ww_callV (ci := 4) (rest := []) (st' := [.int x1.1]) 4 X (ct_X4_parseNumber (hb_l Γ) G k hk σ hx1) cw_X4_60 rfl (by decide) hk rfl ⟨by decide, by decide⟩ (Nat.le_of_ble_eq_true rfl) rfl rfl dX4_parseChoice_1 rfl ?_
  refine ww_istore_n 5 X (L' := [some (.ref (G.2.2.2 k)), some (.int x1.1), none, none, none]) dX4_parseChoice_4 rfl (Nat.le_of_ble_eq_true rfl) rfl rfl ?_
  refine ww_aload_n 6 X dX4_parseChoice_5 rfl rfl ?_
  obtain ⟨x2, hx2, h⟩ := hb_bind_of h
  refine ww_callV (ci := 4) (rest := []) (st' := []) 9 X (ct_X4_parseArrow (hb_l Γ) G k hk x1.2 hx2) cw_X4_63 rfl (by decide) hk rfl ⟨by decide, by decide⟩ (Nat.le_of_ble_eq_true rfl) rfl rfl dX4_parseChoice_6 rfl ?_
  refine ww_aload_n 10 X dX4_parseChoice_9 rfl rfl ?_
  obtain ⟨x3, hx3, h⟩ := hb_bind_of h
  refine ww_callV (ci := 4) (rest := []) (st' := [.int x3.1]) 13 X (ct_X4_parseNumber (hb_l Γ) G k hk x2 hx3) cw_X4_60 rfl (by decide) hk rfl ⟨by decide, by decide⟩ (Nat.le_of_ble_eq_true rfl) rfl rfl dX4_parseChoice_10 rfl ?_
  refine ww_istore_n 14 X (L' := [some (.ref (G.2.2.2 k)), some (.int x1.1), some (.int x3.1), none, none]) dX4_parseChoice_13 rfl (Nat.le_of_ble_eq_true rfl) rfl rfl ?_
  refine ww_aload_n 15 X dX4_parseChoice_14 rfl rfl ?_
  refine ww_bipush (v := 43) 17 X dX4_parseChoice_15 rfl (by decide) ?_
  obtain ⟨x4, hx4, h⟩ := hb_bind_of h
  refine ww_callV (ci := 4) (rest := []) (st' := [.int x4.1]) 20 X (ct_X4_parseFlags (hb_l Γ) G k hk 43 x3.2 hx4) cw_X4_66 rfl (by decide) hk rfl ⟨by decide, by decide⟩ (Nat.le_of_ble_eq_true rfl) rfl rfl dX4_parseChoice_17 rfl ?_
  refine ww_istore_n 21 X (L' := [some (.ref (G.2.2.2 k)), some (.int x1.1), some (.int x3.1), some (.int x4.1), none]) dX4_parseChoice_20 rfl (Nat.le_of_ble_eq_true rfl) rfl rfl ?_
  refine ww_aload_n 22 X dX4_parseChoice_21 rfl rfl ?_
  refine ww_bipush (v := 45) 24 X dX4_parseChoice_22 rfl (by decide) ?_
  obtain ⟨x5, hx5, h⟩ := hb_bind_of h
  refine ww_callV (ci := 4) (rest := []) (st' := [.int x5.1]) 27 X (ct_X4_parseFlags (hb_l Γ) G k hk 45 x4.2 hx5) cw_X4_66 rfl (by decide) hk rfl ⟨by decide, by decide⟩ (Nat.le_of_ble_eq_true rfl) rfl rfl dX4_parseChoice_24 rfl ?_
  refine ww_istore 29 X (L' := [some (.ref (G.2.2.2 k)), some (.int x1.1), some (.int x3.1), some (.int x4.1), some (.int x5.1)]) dX4_parseChoice_27 rfl (Nat.le_of_ble_eq_true rfl) rfl rfl ?_
  refine ww_aload_n 30 X dX4_parseChoice_29 rfl rfl ?_
  refine ww_geti (ci := 4) (j := 3) 33 X cf_4 tw_X4_27 (by decide) rfl hk dX4_parseChoice_30 rfl ?_
  refine ww_if_eq 95 36 X dX4_parseChoice_33 (by decide) rfl h (fun h => ?_) (fun h => ?_)
  · skip
    obtain rfl := Option.some.inj h
    exact ww_ret_v X hr K dX4_parseChoice_95
  · skip
    refine ww_aload_n 37 X dX4_parseChoice_36 rfl rfl ?_
    refine ww_getr (ci := 4) (j := 5) 40 X cf_4 tw_X4_34 (by decide) rfl hk dX4_parseChoice_37 rfl ?_
    refine ww_aload_n 41 X dX4_parseChoice_40 rfl rfl ?_
    refine ww_geti (ci := 4) (j := 4) 44 X cf_4 tw_X4_31 (by decide) rfl hk dX4_parseChoice_41 rfl ?_
    refine ww_iload_n 45 X dX4_parseChoice_44 rfl rfl ?_
    obtain ⟨x6, hx6, h⟩ := hb_bind_of h
    refine ww_callV (ci := 1) (rest := []) (st' := []) 48 X (ct_X1_put (hb_l Γ) G (hc_rf k 5) (hc_kr_4_5 hk) (x5.2 k 4) x1.1 x5.2 hx6) cw_X4_46 rfl (by decide) (hc_kr_4_5 hk) rfl ⟨by decide, by decide⟩ (Nat.le_of_ble_eq_true rfl) rfl rfl dX4_parseChoice_45 rfl ?_
    refine ww_aload_n 49 X dX4_parseChoice_48 rfl rfl ?_
    refine ww_getr (ci := 4) (j := 6) 52 X cf_4 tw_X4_37 (by decide) rfl hk dX4_parseChoice_49 rfl ?_
    refine ww_aload_n 53 X dX4_parseChoice_52 rfl rfl ?_
    refine ww_geti (ci := 4) (j := 4) 56 X cf_4 tw_X4_31 (by decide) rfl hk dX4_parseChoice_53 rfl ?_
    refine ww_iload_n 57 X dX4_parseChoice_56 rfl rfl ?_
    obtain ⟨x7, hx7, h⟩ := hb_bind_of h
    refine ww_callV (ci := 1) (rest := []) (st' := []) 60 X (ct_X1_put (hb_l Γ) G (hc_rf k 6) (hc_kr_4_6 hk) (x6 k 4) x3.1 x6 hx7) cw_X4_46 rfl (by decide) (hc_kr_4_6 hk) rfl ⟨by decide, by decide⟩ (Nat.le_of_ble_eq_true rfl) rfl rfl dX4_parseChoice_57 rfl ?_
    refine ww_aload_n 61 X dX4_parseChoice_60 rfl rfl ?_
    refine ww_getr (ci := 4) (j := 7) 64 X cf_4 tw_X4_40 (by decide) rfl hk dX4_parseChoice_61 rfl ?_
    refine ww_aload_n 65 X dX4_parseChoice_64 rfl rfl ?_
    refine ww_geti (ci := 4) (j := 4) 68 X cf_4 tw_X4_31 (by decide) rfl hk dX4_parseChoice_65 rfl ?_
    refine ww_iload_n 69 X dX4_parseChoice_68 rfl rfl ?_
    obtain ⟨x8, hx8, h⟩ := hb_bind_of h
    refine ww_callV (ci := 1) (rest := []) (st' := []) 72 X (ct_X1_put (hb_l Γ) G (hc_rf k 7) (hc_kr_4_7 hk) (x7 k 4) x4.1 x7 hx8) cw_X4_46 rfl (by decide) (hc_kr_4_7 hk) rfl ⟨by decide, by decide⟩ (Nat.le_of_ble_eq_true rfl) rfl rfl dX4_parseChoice_69 rfl ?_
    refine ww_aload_n 73 X dX4_parseChoice_72 rfl rfl ?_
    refine ww_getr (ci := 4) (j := 8) 76 X cf_4 tw_X4_43 (by decide) rfl hk dX4_parseChoice_73 rfl ?_
    refine ww_aload_n 77 X dX4_parseChoice_76 rfl rfl ?_
    refine ww_geti (ci := 4) (j := 4) 80 X cf_4 tw_X4_31 (by decide) rfl hk dX4_parseChoice_77 rfl ?_
    refine ww_iload 82 X dX4_parseChoice_80 rfl rfl ?_
    obtain ⟨x9, hx9, h⟩ := hb_bind_of h
    refine ww_callV (ci := 1) (rest := []) (st' := []) 85 X (ct_X1_put (hb_l Γ) G (hc_rf k 8) (hc_kr_4_8 hk) (x8 k 4) x5.1 x8 hx9) cw_X4_46 rfl (by decide) (hc_kr_4_8 hk) rfl ⟨by decide, by decide⟩ (Nat.le_of_ble_eq_true rfl) rfl rfl dX4_parseChoice_82 rfl ?_
    refine ww_aload_n 86 X dX4_parseChoice_85 rfl rfl ?_
    refine ww_aload_n 87 X dX4_parseChoice_86 rfl rfl ?_
    refine ww_geti (ci := 4) (j := 4) 90 X cf_4 tw_X4_31 (by decide) rfl hk dX4_parseChoice_87 rfl ?_
    refine ww_iconst (v := 1) 91 X dX4_parseChoice_90 rfl (by decide) ?_
    refine ww_iadd 92 X dX4_parseChoice_91 rfl ?_
    obtain ⟨σ10, eσ10, h⟩ := hb_nm_of h
    refine ww_put (ci := 4) (j := 4) (ty := .int) 95 X cf_4 cg_4 tw_X4_31 (by decide) rfl rfl rfl rfl rfl hk eσ10.symm dX4_parseChoice_92 rfl ?_
    obtain rfl := Option.some.inj h
    exact ww_ret_v X hr K dX4_parseChoice_95
theorem ct_X4_parseChoice (l : Launch) (G : hb_Gam) (k : Nat) (hk : hb_is ΛC k 4) (σ : hb_Mem) {x : hb_Mem} (h : fn_X4_parseChoice k σ = some x) : hb_C l yX4_parseChoice cX4_parseChoice 5 none 3 64 ΛC G [.ref (G.2.2.2 k)] σ none x :=
  hb_C.of [some (.ref (G.2.2.2 k)), none, none, none, none] (by decide +kernel) (Nat.le_of_ble_eq_true rfl) (by intro v hv; simp only [List.mem_cons, List.not_mem_nil, or_false] at hv; subst hv; rfl) rfl (hb_pad [.ref (G.2.2.2 k)] 4) (fun Γ X hr => wk_X4_parseChoice X hr k hk σ h rfl)
def lb_X4_parse_21 (k : Nat) (w1 : Int32) (σ : hb_Mem) : Option ((Int32 × hb_Mem) ⊕ hb_Mem) :=
if 16 ≤ w1 then (
some (.inr σ))
else (
if (σ k 3) = 0 then (
some (.inr σ))
else (
(fn_X4_sign k σ).bind fun x5 =>
if x5 = 59 then (
hb_nm (hb_up σ k 2 ((σ k 2) + 1)) fun σ6 =>
(fn_X4_parseChoice k σ6).bind fun x7 =>
hb_nm (w1 + 1) fun v8 =>
some (.inl (v8, x7)))
else (
some (.inr σ))))
set_option maxRecDepth 100000 in
set_option maxHeartbeats 4000000 in
theorem lk_X4_parse_21 {Γ : hb_Ctx} {G : hb_Gam} {Q : State → Prop} (X : hb_X Γ cX4_parse 2 RX4 ΛC G 4 88)  (k : Nat) (hk : hb_is ΛC k 4) (w1 : Int32) (σ : hb_Mem) {x : ((Int32 × hb_Mem) ⊕ hb_Mem)} (h : lb_X4_parse_21 k w1 σ = some x) (K : Sum.elim (fun s : (Int32 × hb_Mem) => hb_W Γ ΛC G 2 Q s.2 [some (.ref (G.2.2.2 k)), some (.int s.1)] [] 21) (fun t : hb_Mem => hb_W Γ ΛC G 2 Q t [some (.ref (G.2.2.2 k)), none] [] 63) x) : hb_W Γ ΛC G 2 Q σ [some (.ref (G.2.2.2 k)), some (.int w1)] [] 21 := by
  unfold lb_X4_parse_21 at h
  refine ww_iload_n 22 X dX4_parse_21 rfl rfl ?_
  refine ww_bipush (v := 16) 24 X dX4_parse_22 rfl (by decide) ?_
  refine ww_icmp_ge 63 27 X dX4_parse_24 (by decide) rfl h (fun h => ?_) (fun h => ?_)
  · skip
    obtain rfl := Option.some.inj h
    refine ww_kill [1] (L' := [some (.ref (G.2.2.2 k)), none]) rfl ?_
    exact K
  · skip
    refine ww_aload_n 28 X dX4_parse_27 rfl rfl ?_
    refine ww_geti (ci := 4) (j := 3) 31 X cf_4 tw_X4_27 (by decide) rfl hk dX4_parse_28 rfl ?_
    refine ww_if_eq 63 34 X dX4_parse_31 (by decide) rfl h (fun h => ?_) (fun h => ?_)
    · skip
      obtain rfl := Option.some.inj h
      refine ww_kill [1] (L' := [some (.ref (G.2.2.2 k)), none]) rfl ?_
      exact K
    · skip
      refine ww_aload_n 35 X dX4_parse_34 rfl rfl ?_
      obtain ⟨x5, hx5, h⟩ := hb_bind_of h
      refine ww_callV (ci := 4) (rest := []) (st' := [.int x5]) 38 X (ct_X4_sign (hb_l Γ) G k hk σ hx5) cw_X4_53 rfl (by decide) hk rfl ⟨by decide, by decide⟩ (Nat.le_of_ble_eq_true rfl) rfl rfl dX4_parse_35 rfl ?_
      refine ww_bipush (v := 59) 40 X dX4_parse_38 rfl (by decide) ?_
      refine ww_icmp_ne 63 43 X dX4_parse_40 (by decide) rfl h (fun h => ?_) (fun h => ?_)
      · skip
        refine ww_aload_n 44 X dX4_parse_43 rfl rfl ?_
        refine ww_aload_n 45 X dX4_parse_44 rfl rfl ?_
        refine ww_geti (ci := 4) (j := 2) 48 X cf_4 tw_X4_24 (by decide) rfl hk dX4_parse_45 rfl ?_
        refine ww_iconst (v := 1) 49 X dX4_parse_48 rfl (by decide) ?_
        refine ww_iadd 50 X dX4_parse_49 rfl ?_
        obtain ⟨σ6, eσ6, h⟩ := hb_nm_of h
        refine ww_put (ci := 4) (j := 2) (ty := .int) 53 X cf_4 cg_4 tw_X4_24 (by decide) rfl rfl rfl rfl rfl hk eσ6.symm dX4_parse_50 rfl ?_
        refine ww_aload_n 54 X dX4_parse_53 rfl rfl ?_
        obtain ⟨x7, hx7, h⟩ := hb_bind_of h
        refine ww_callV (ci := 4) (rest := []) (st' := []) 57 X (ct_X4_parseChoice (hb_l Γ) G k hk σ6 hx7) cw_X4_50 rfl (by decide) hk rfl ⟨by decide, by decide⟩ (Nat.le_of_ble_eq_true rfl) rfl rfl dX4_parse_54 rfl ?_
        obtain ⟨v8, ev8, h⟩ := hb_nm_of h
        refine ww_iinc 60 X (L' := [some (.ref (G.2.2.2 k)), some (.int v8)]) dX4_parse_57 rfl rfl ev8.symm rfl ?_
        refine ww_goto 21 X dX4_parse_60 (by decide) ?_
        obtain rfl := Option.some.inj h
        exact K
      · skip
        obtain rfl := Option.some.inj h
        refine ww_kill [1] (L' := [some (.ref (G.2.2.2 k)), none]) rfl ?_
        exact K
def ll_X4_parse_21 (k : Nat) : (Int32 × hb_Mem) → Option hb_Mem := hb_lp (fun s => lb_X4_parse_21 k s.1 s.2) hb_F
theorem lw_X4_parse_21 {Γ : hb_Ctx} {G : hb_Gam} {Q : State → Prop} (X : hb_X Γ cX4_parse 2 RX4 ΛC G 4 88)  (k : Nat) (hk : hb_is ΛC k 4) (s : (Int32 × hb_Mem)) (t : hb_Mem) (h : ll_X4_parse_21 k s = some t) (K : (fun t : hb_Mem => hb_W Γ ΛC G 2 Q t [some (.ref (G.2.2.2 k)), none] [] 63) t) : hb_W Γ ΛC G 2 Q s.2 [some (.ref (G.2.2.2 k)), some (.int s.1)] [] 21 :=
  hb_lp_w (P := fun s : (Int32 × hb_Mem) => hb_W Γ ΛC G 2 Q s.2 [some (.ref (G.2.2.2 k)), some (.int s.1)] [] 21) (E := (fun t : hb_Mem => hb_W Γ ΛC G 2 Q t [some (.ref (G.2.2.2 k)), none] [] 63)) (fun s x hx K => lk_X4_parse_21 X k hk s.1 s.2 hx K) _ s t h K
def jn_X4_parse_63 (k : Nat) (σ : hb_Mem) : Option (Int32 × hb_Mem) :=
if (σ k 3) = 0 then (
some (0, σ))
else (
if (σ k 2) = (σ k 1) then (
some (1, σ))
else (
some (0, σ)))
set_option maxRecDepth 100000 in
set_option maxHeartbeats 4000000 in
theorem jw_X4_parse_63 {Γ : hb_Ctx} {G : hb_Gam} {Q : State → Prop} (X : hb_X Γ cX4_parse 2 RX4 ΛC G 4 88) (hr : hb_ret Γ = (some .boolean)) (k : Nat) (hk : hb_is ΛC k 4) (σ : hb_Mem) {x : (Int32 × hb_Mem)} (h : jn_X4_parse_63 k σ = some x) (K : Q = hb_Q Γ ΛC G (some (.int x.1)) x.2) : hb_W Γ ΛC G 2 Q σ [some (.ref (G.2.2.2 k)), none] [] 63 := by
  unfold jn_X4_parse_63 at h
  refine ww_aload_n 64 X dX4_parse_63 rfl rfl ?_
  refine ww_geti (ci := 4) (j := 3) 67 X cf_4 tw_X4_27 (by decide) rfl hk dX4_parse_64 rfl ?_
  refine ww_if_eq 85 70 X dX4_parse_67 (by decide) rfl h (fun h => ?_) (fun h => ?_)
  · skip
    refine ww_iconst (v := 0) 86 X dX4_parse_85 rfl (by decide) ?_
    obtain rfl := Option.some.inj h
    exact ww_ret_z X hr (by decide) K dX4_parse_86
  · skip
    refine ww_aload_n 71 X dX4_parse_70 rfl rfl ?_
    refine ww_geti (ci := 4) (j := 2) 74 X cf_4 tw_X4_24 (by decide) rfl hk dX4_parse_71 rfl ?_
    refine ww_aload_n 75 X dX4_parse_74 rfl rfl ?_
    refine ww_geti (ci := 4) (j := 1) 78 X cf_4 tw_X4_20 (by decide) rfl hk dX4_parse_75 rfl ?_
    refine ww_icmp_ne 85 81 X dX4_parse_78 (by decide) rfl h (fun h => ?_) (fun h => ?_)
    · skip
      refine ww_iconst (v := 1) 82 X dX4_parse_81 rfl (by decide) ?_
      refine ww_goto 86 X dX4_parse_82 (by decide) ?_
      obtain rfl := Option.some.inj h
      exact ww_ret_z X hr (by decide) K dX4_parse_86
    · skip
      refine ww_iconst (v := 0) 86 X dX4_parse_85 rfl (by decide) ?_
      obtain rfl := Option.some.inj h
      exact ww_ret_z X hr (by decide) K dX4_parse_86
def fn_X4_parse (k : Nat) (σ : hb_Mem) : Option (Int32 × hb_Mem) :=
hb_nm (hb_up σ k 2 0) fun σ1 =>
hb_nm (hb_up σ1 k 3 1) fun σ2 =>
hb_nm (hb_up σ2 k 4 0) fun σ3 =>
(fn_X4_parseChoice k σ3).bind fun x4 =>
(ll_X4_parse_21 k (1, x4)).bind fun t9 =>
jn_X4_parse_63 k t9
set_option maxRecDepth 100000 in
set_option maxHeartbeats 4000000 in
theorem wk_X4_parse {Γ : hb_Ctx} {G : hb_Gam} {Q : State → Prop} (X : hb_X Γ cX4_parse 2 RX4 ΛC G 4 88) (hr : hb_ret Γ = (some .boolean)) (k : Nat) (hk : hb_is ΛC k 4) (σ : hb_Mem) {x : (Int32 × hb_Mem)} (h : fn_X4_parse k σ = some x) (K : Q = hb_Q Γ ΛC G (some (.int x.1)) x.2) : hb_W Γ ΛC G 2 Q σ [some (.ref (G.2.2.2 k)), none] [] 0 := by
  unfold fn_X4_parse at h
  refine ww_aload_n 1 X dX4_parse_0 rfl rfl ?_
  refine ww_iconst (v := 0) 2 X dX4_parse_1 rfl (by decide) ?_
  obtain ⟨σ1, eσ1, h⟩ := hb_nm_of h
  refine ww_put (ci := 4) (j := 2) (ty := .int) 5 X cf_4 cg_4 tw_X4_24 (by decide) rfl rfl rfl rfl rfl hk eσ1.symm dX4_parse_2 rfl ?_
  refine ww_aload_n 6 X dX4_parse_5 rfl rfl ?_
  refine ww_iconst (v := 1) 7 X dX4_parse_6 rfl (by decide) ?_
  obtain ⟨σ2, eσ2, h⟩ := hb_nm_of h
  refine ww_put (ci := 4) (j := 3) (ty := .boolean) 10 X cf_4 cg_4 tw_X4_27 (by decide) rfl rfl rfl rfl rfl hk eσ2.symm dX4_parse_7 rfl ?_
  refine ww_aload_n 11 X dX4_parse_10 rfl rfl ?_
  refine ww_iconst (v := 0) 12 X dX4_parse_11 rfl (by decide) ?_
  obtain ⟨σ3, eσ3, h⟩ := hb_nm_of h
  refine ww_put (ci := 4) (j := 4) (ty := .int) 15 X cf_4 cg_4 tw_X4_31 (by decide) rfl rfl rfl rfl rfl hk eσ3.symm dX4_parse_12 rfl ?_
  refine ww_aload_n 16 X dX4_parse_15 rfl rfl ?_
  obtain ⟨x4, hx4, h⟩ := hb_bind_of h
  refine ww_callV (ci := 4) (rest := []) (st' := []) 19 X (ct_X4_parseChoice (hb_l Γ) G k hk σ3 hx4) cw_X4_50 rfl (by decide) hk rfl ⟨by decide, by decide⟩ (Nat.le_of_ble_eq_true rfl) rfl rfl dX4_parse_16 rfl ?_
  refine ww_iconst (v := 1) 20 X dX4_parse_19 rfl (by decide) ?_
  refine ww_istore_n 21 X (L' := [some (.ref (G.2.2.2 k)), some (.int 1)]) dX4_parse_20 rfl (Nat.le_of_ble_eq_true rfl) rfl rfl ?_
  obtain ⟨t9, ht9, h⟩ := hb_bind_of h
  refine lw_X4_parse_21 X k hk (1, x4) t9 ht9 ?_
  exact jw_X4_parse_63 X hr k hk t9 h K
theorem ct_X4_parse (l : Launch) (G : hb_Gam) (k : Nat) (hk : hb_is ΛC k 4) (σ : hb_Mem) {x : (Int32 × hb_Mem)} (h : fn_X4_parse k σ = some x) : hb_C l yX4_parse cX4_parse 2 (some .boolean) 4 88 ΛC G [.ref (G.2.2.2 k)] σ (some (.int x.1)) x.2 :=
  hb_C.of [some (.ref (G.2.2.2 k)), none] (by decide +kernel) (Nat.le_of_ble_eq_true rfl) (by intro v hv; simp only [List.mem_cons, List.not_mem_nil, or_false] at hv; subst hv; rfl) rfl (hb_pad [.ref (G.2.2.2 k)] 1) (fun Γ X hr => wk_X4_parse X hr k hk σ h rfl)
def fn_X5_isMood (p0 : Int32) : Option Int32 :=
if p0 < (-99) then (
some 0)
else (
if 99 < p0 then (
some 0)
else (
some 1))
set_option maxRecDepth 100000 in
set_option maxHeartbeats 4000000 in
theorem wk_X5_isMood {Γ : hb_Ctx} {G : hb_Gam} {Q : State → Prop} (X : hb_X Γ cX5_isMood 1 RX5 ΛC G 0 0) (hr : hb_ret Γ = (some .boolean)) (p0 : Int32) (σ : hb_Mem) {x : Int32} (h : fn_X5_isMood p0 = some x) (K : Q = hb_Q Γ ΛC G (some (.int x)) σ) : hb_W Γ ΛC G 1 Q σ [some (.int p0)] [] 0 := by
  unfold fn_X5_isMood at h
  refine ww_iload_n 1 X dX5_isMood_0 rfl rfl ?_
  refine ww_bipush (v := (-99)) 3 X dX5_isMood_1 rfl (by decide) ?_
  refine ww_icmp_lt 16 6 X dX5_isMood_3 (by decide) rfl h (fun h => ?_) (fun h => ?_)
  · skip
    refine ww_iconst (v := 0) 17 X dX5_isMood_16 rfl (by decide) ?_
    obtain rfl := Option.some.inj h
    exact ww_ret_z X hr (by decide) K dX5_isMood_17
  · skip
    refine ww_iload_n 7 X dX5_isMood_6 rfl rfl ?_
    refine ww_bipush (v := 99) 9 X dX5_isMood_7 rfl (by decide) ?_
    refine ww_icmp_gt 16 12 X dX5_isMood_9 (by decide) rfl h (fun h => ?_) (fun h => ?_)
    · skip
      refine ww_iconst (v := 0) 17 X dX5_isMood_16 rfl (by decide) ?_
      obtain rfl := Option.some.inj h
      exact ww_ret_z X hr (by decide) K dX5_isMood_17
    · skip
      refine ww_iconst (v := 1) 13 X dX5_isMood_12 rfl (by decide) ?_
      refine ww_goto 17 X dX5_isMood_13 (by decide) ?_
      obtain rfl := Option.some.inj h
      exact ww_ret_z X hr (by decide) K dX5_isMood_17
theorem ct_X5_isMood (l : Launch) (G : hb_Gam) (p0 : Int32) (σ : hb_Mem) {x : Int32} (h : fn_X5_isMood p0 = some x) : hb_C l yX5_isMood cX5_isMood 1 (some .boolean) 0 0 ΛC G [.int p0] σ (some (.int x)) σ :=
  hb_C.of [some (.int p0)] (by decide +kernel) (Nat.le_of_ble_eq_true rfl) (by intro v hv; simp only [List.mem_cons, List.not_mem_nil, or_false] at hv; subst hv; rfl) rfl (hb_pad [.int p0] 0) (fun Γ X hr => wk_X5_isMood X hr p0 σ h rfl)
def fn_X5_record (k : Nat) (σ : hb_Mem) : Option hb_Mem :=
(fn_X0_push (hc_rf k 4) (hc_rf k 0) σ).bind fun x1 =>
hb_nm (hb_up x1 (hc_rf k 6) 0 0) fun σ2 =>
some σ2
set_option maxRecDepth 100000 in
set_option maxHeartbeats 4000000 in
theorem wk_X5_record {Γ : hb_Ctx} {G : hb_Gam} {Q : State → Prop} (X : hb_X Γ cX5_record 1 RX5 ΛC G 4 86) (hr : hb_ret Γ = none) (k : Nat) (hk : hb_is ΛC k 5) (σ : hb_Mem) {x : hb_Mem} (h : fn_X5_record k σ = some x) (K : Q = hb_Q Γ ΛC G none x) : hb_W Γ ΛC G 1 Q σ [some (.ref (G.2.2.2 k))] [] 0 := by
  unfold fn_X5_record at h
  refine ww_aload_n 1 X dX5_record_0 rfl rfl ?_
  refine ww_getr (ci := 5) (j := 4) 4 X cf_5 tw_X5_29 (by decide) rfl hk dX5_record_1 rfl ?_
  refine ww_aload_n 5 X dX5_record_4 rfl rfl ?_
  refine ww_getr (ci := 5) (j := 0) 8 X cf_5 tw_X5_12 (by decide) rfl hk dX5_record_5 rfl ?_
  obtain ⟨x1, hx1, h⟩ := hb_bind_of h
  refine ww_callV (ci := 0) (rest := []) (st' := []) 11 X (ct_X0_push (hb_l Γ) G (hc_rf k 4) (hc_kr_5_4 hk) (hc_rf k 0) (hc_kr_5_0 hk) σ hx1) cw_X5_268 rfl (by decide) (hc_kr_5_4 hk) rfl ⟨by decide, by decide⟩ (Nat.le_of_ble_eq_true rfl) rfl rfl dX5_record_8 rfl ?_
  refine ww_aload_n 12 X dX5_record_11 rfl rfl ?_
  refine ww_getr (ci := 5) (j := 6) 15 X cf_5 tw_X5_43 (by decide) rfl hk dX5_record_12 rfl ?_
  refine ww_iconst (v := 0) 16 X dX5_record_15 rfl (by decide) ?_
  obtain ⟨σ2, eσ2, h⟩ := hb_nm_of h
  refine ww_putN (ci := 3) (j := 0) (ty := .boolean) 19 X cf_3 cg_3 tw_X5_179 (by decide) rfl rfl rfl rfl rfl (hc_kr_5_6 hk) eσ2.symm dX5_record_16 rfl ?_
  obtain rfl := Option.some.inj h
  exact ww_ret_v X hr K dX5_record_19
theorem ct_X5_record (l : Launch) (G : hb_Gam) (k : Nat) (hk : hb_is ΛC k 5) (σ : hb_Mem) {x : hb_Mem} (h : fn_X5_record k σ = some x) : hb_C l yX5_record cX5_record 1 none 4 86 ΛC G [.ref (G.2.2.2 k)] σ none x :=
  hb_C.of [some (.ref (G.2.2.2 k))] (by decide +kernel) (Nat.le_of_ble_eq_true rfl) (by intro v hv; simp only [List.mem_cons, List.not_mem_nil, or_false] at hv; subst hv; rfl) rfl (hb_pad [.ref (G.2.2.2 k)] 0) (fun Γ X hr => wk_X5_record X hr k hk σ h rfl)
def fn_X5_addPage (k : Nat) (p1 : Int32) (p2 : Int32) (p3 : Int32) (σ : hb_Mem) : Option (Int32 × hb_Mem) :=
(fn_X5_isMood p1).bind fun x1 =>
if x1 = 0 then (
some ((-2), σ))
else (
(fn_X5_isFlagSet p2).bind fun x2 =>
if x2 = 0 then (
some ((-2), σ))
else (
(fn_X5_isFlagSet p3).bind fun x3 =>
if x3 = 0 then (
some ((-2), σ))
else (
if (σ (hc_rf k 0) 0) < 32 then (
(fn_X5_record k σ).bind fun x4 =>
(fn_X2_bindPage (hc_rf k 0) p1 p2 p3 x4).bind fun x5 =>
some (x5.1, x5.2))
else (
some ((-3), σ)))))
set_option maxRecDepth 100000 in
set_option maxHeartbeats 4000000 in
theorem wk_X5_addPage {Γ : hb_Ctx} {G : hb_Gam} {Q : State → Prop} (X : hb_X Γ cX5_addPage 4 RX5 ΛC G 5 106) (hr : hb_ret Γ = (some .int)) (k : Nat) (hk : hb_is ΛC k 5) (p1 : Int32) (p2 : Int32) (p3 : Int32) (σ : hb_Mem) {x : (Int32 × hb_Mem)} (h : fn_X5_addPage k p1 p2 p3 σ = some x) (K : Q = hb_Q Γ ΛC G (some (.int x.1)) x.2) : hb_W Γ ΛC G 4 Q σ [some (.ref (G.2.2.2 k)), some (.int p1), some (.int p2), some (.int p3)] [] 0 := by
  unfold fn_X5_addPage at h
  refine ww_iload_n 1 X dX5_addPage_0 rfl rfl ?_
  obtain ⟨x1, hx1, h⟩ := hb_bind_of h
  refine ww_callS (rest := []) (st' := [.int x1]) 4 X (ct_X5_isMood (hb_l Γ) G p1 σ hx1) cw_X5_47 rfl ⟨by decide, by decide⟩ (Nat.le_of_ble_eq_true rfl) rfl rfl dX5_addPage_1 rfl ?_
  refine ww_if_eq 21 7 X dX5_addPage_4 (by decide) rfl h (fun h => ?_) (fun h => ?_)
  · skip
    refine ww_bipush (v := (-2)) 23 X dX5_addPage_21 rfl (by decide) ?_
    obtain rfl := Option.some.inj h
    exact ww_ret_i X hr K dX5_addPage_23
  · skip
    refine ww_iload_n 8 X dX5_addPage_7 rfl rfl ?_
    obtain ⟨x2, hx2, h⟩ := hb_bind_of h
    refine ww_callS (rest := []) (st' := [.int x2]) 11 X (ct_X5_isFlagSet (hb_l Γ) G p2 σ hx2) cw_X5_51 rfl ⟨by decide, by decide⟩ (Nat.le_of_ble_eq_true rfl) rfl rfl dX5_addPage_8 rfl ?_
    refine ww_if_eq 21 14 X dX5_addPage_11 (by decide) rfl h (fun h => ?_) (fun h => ?_)
    · skip
      refine ww_bipush (v := (-2)) 23 X dX5_addPage_21 rfl (by decide) ?_
      obtain rfl := Option.some.inj h
      exact ww_ret_i X hr K dX5_addPage_23
    · skip
      refine ww_iload_n 15 X dX5_addPage_14 rfl rfl ?_
      obtain ⟨x3, hx3, h⟩ := hb_bind_of h
      refine ww_callS (rest := []) (st' := [.int x3]) 18 X (ct_X5_isFlagSet (hb_l Γ) G p3 σ hx3) cw_X5_51 rfl ⟨by decide, by decide⟩ (Nat.le_of_ble_eq_true rfl) rfl rfl dX5_addPage_15 rfl ?_
      refine ww_if_ne 24 21 X dX5_addPage_18 (by decide) rfl h (fun h => ?_) (fun h => ?_)
      · skip
        refine ww_bipush (v := (-2)) 23 X dX5_addPage_21 rfl (by decide) ?_
        obtain rfl := Option.some.inj h
        exact ww_ret_i X hr K dX5_addPage_23
      · skip
        refine ww_aload_n 25 X dX5_addPage_24 rfl rfl ?_
        refine ww_getr (ci := 5) (j := 0) 28 X cf_5 tw_X5_12 (by decide) rfl hk dX5_addPage_25 rfl ?_
        refine ww_getiN (ci := 2) (j := 0) 31 X cf_2 tw_X5_54 (by decide) rfl (hc_kr_5_0 hk) dX5_addPage_28 rfl ?_
        refine ww_bipush (v := 32) 33 X dX5_addPage_31 rfl (by decide) ?_
        refine ww_icmp_lt 39 36 X dX5_addPage_33 (by decide) rfl h (fun h => ?_) (fun h => ?_)
        · skip
          refine ww_aload_n 40 X dX5_addPage_39 rfl rfl ?_
          obtain ⟨x4, hx4, h⟩ := hb_bind_of h
          refine ww_callV (ci := 5) (rest := []) (st' := []) 43 X (ct_X5_record (hb_l Γ) G k hk σ hx4) cw_X5_58 rfl (by decide) hk rfl ⟨by decide, by decide⟩ (Nat.le_of_ble_eq_true rfl) rfl rfl dX5_addPage_40 rfl ?_
          refine ww_aload_n 44 X dX5_addPage_43 rfl rfl ?_
          refine ww_getr (ci := 5) (j := 0) 47 X cf_5 tw_X5_12 (by decide) rfl hk dX5_addPage_44 rfl ?_
          refine ww_iload_n 48 X dX5_addPage_47 rfl rfl ?_
          refine ww_iload_n 49 X dX5_addPage_48 rfl rfl ?_
          refine ww_iload_n 50 X dX5_addPage_49 rfl rfl ?_
          obtain ⟨x5, hx5, h⟩ := hb_bind_of h
          refine ww_callV (ci := 2) (rest := []) (st' := [.int x5.1]) 53 X (ct_X2_bindPage (hb_l Γ) G (hc_rf k 0) (hc_kr_5_0 hk) p1 p2 p3 x4 hx5) cw_X5_61 rfl (by decide) (hc_kr_5_0 hk) rfl ⟨by decide, by decide⟩ (Nat.le_of_ble_eq_true rfl) rfl rfl dX5_addPage_50 rfl ?_
          obtain rfl := Option.some.inj h
          exact ww_ret_i X hr K dX5_addPage_53
        · skip
          refine ww_bipush (v := (-3)) 38 X dX5_addPage_36 rfl (by decide) ?_
          obtain rfl := Option.some.inj h
          exact ww_ret_i X hr K dX5_addPage_38
theorem ct_X5_addPage (l : Launch) (G : hb_Gam) (k : Nat) (hk : hb_is ΛC k 5) (p1 : Int32) (p2 : Int32) (p3 : Int32) (σ : hb_Mem) {x : (Int32 × hb_Mem)} (h : fn_X5_addPage k p1 p2 p3 σ = some x) : hb_C l yX5_addPage cX5_addPage 4 (some .int) 5 106 ΛC G [.ref (G.2.2.2 k), .int p1, .int p2, .int p3] σ (some (.int x.1)) x.2 :=
  hb_C.of [some (.ref (G.2.2.2 k)), some (.int p1), some (.int p2), some (.int p3)] (by decide +kernel) (Nat.le_of_ble_eq_true rfl) (by intro v hv; simp only [List.mem_cons, List.not_mem_nil, or_false] at hv; rcases hv with rfl | rfl | rfl | rfl <;> rfl) rfl (hb_pad [.ref (G.2.2.2 k), .int p1, .int p2, .int p3] 0) (fun Γ X hr => wk_X5_addPage X hr k hk p1 p2 p3 σ h rfl)
def fn_X5_setMood (k : Nat) (p1 : Int32) (p2 : Int32) (σ : hb_Mem) : Option (Int32 × hb_Mem) :=
(fn_X2_hasPage (hc_rf k 0) p1 σ).bind fun x1 =>
if x1 = 0 then (
some ((-1), σ))
else (
(fn_X5_isMood p2).bind fun x2 =>
if x2 = 0 then (
some ((-2), σ))
else (
(fn_X1_at (hc_rf (hc_rf k 0) 1) p1 σ).bind fun x3 =>
if x3 = p2 then (
some ((-5), σ))
else (
(fn_X5_record k σ).bind fun x4 =>
(fn_X1_put (hc_rf (hc_rf k 0) 1) p1 p2 x4).bind fun x5 =>
(fn_X1_at (hc_rf (hc_rf k 0) 4) p1 x5).bind fun x6 =>
some (x6, x5))))
set_option maxRecDepth 100000 in
set_option maxHeartbeats 4000000 in
theorem wk_X5_setMood {Γ : hb_Ctx} {G : hb_Gam} {Q : State → Prop} (X : hb_X Γ cX5_setMood 3 RX5 ΛC G 5 106) (hr : hb_ret Γ = (some .int)) (k : Nat) (hk : hb_is ΛC k 5) (p1 : Int32) (p2 : Int32) (σ : hb_Mem) {x : (Int32 × hb_Mem)} (h : fn_X5_setMood k p1 p2 σ = some x) (K : Q = hb_Q Γ ΛC G (some (.int x.1)) x.2) : hb_W Γ ΛC G 3 Q σ [some (.ref (G.2.2.2 k)), some (.int p1), some (.int p2)] [] 0 := by
  unfold fn_X5_setMood at h
  refine ww_aload_n 1 X dX5_setMood_0 rfl rfl ?_
  refine ww_getr (ci := 5) (j := 0) 4 X cf_5 tw_X5_12 (by decide) rfl hk dX5_setMood_1 rfl ?_
  refine ww_iload_n 5 X dX5_setMood_4 rfl rfl ?_
  obtain ⟨x1, hx1, h⟩ := hb_bind_of h
  refine ww_callV (ci := 2) (rest := []) (st' := [.int x1]) 8 X (ct_X2_hasPage (hb_l Γ) G (hc_rf k 0) (hc_kr_5_0 hk) p1 σ hx1) cw_X5_65 rfl (by decide) (hc_kr_5_0 hk) rfl ⟨by decide, by decide⟩ (Nat.le_of_ble_eq_true rfl) rfl rfl dX5_setMood_5 rfl ?_
  refine ww_if_ne 13 11 X dX5_setMood_8 (by decide) rfl h (fun h => ?_) (fun h => ?_)
  · skip
    refine ww_iconst (v := (-1)) 12 X dX5_setMood_11 rfl (by decide) ?_
    obtain rfl := Option.some.inj h
    exact ww_ret_i X hr K dX5_setMood_12
  · skip
    refine ww_iload_n 14 X dX5_setMood_13 rfl rfl ?_
    obtain ⟨x2, hx2, h⟩ := hb_bind_of h
    refine ww_callS (rest := []) (st' := [.int x2]) 17 X (ct_X5_isMood (hb_l Γ) G p2 σ hx2) cw_X5_47 rfl ⟨by decide, by decide⟩ (Nat.le_of_ble_eq_true rfl) rfl rfl dX5_setMood_14 rfl ?_
    refine ww_if_ne 23 20 X dX5_setMood_17 (by decide) rfl h (fun h => ?_) (fun h => ?_)
    · skip
      refine ww_bipush (v := (-2)) 22 X dX5_setMood_20 rfl (by decide) ?_
      obtain rfl := Option.some.inj h
      exact ww_ret_i X hr K dX5_setMood_22
    · skip
      refine ww_aload_n 24 X dX5_setMood_23 rfl rfl ?_
      refine ww_getr (ci := 5) (j := 0) 27 X cf_5 tw_X5_12 (by decide) rfl hk dX5_setMood_24 rfl ?_
      refine ww_getrN (ci := 2) (j := 1) 30 X cf_2 tw_X5_68 (by decide) rfl (hc_kr_5_0 hk) dX5_setMood_27 rfl ?_
      refine ww_iload_n 31 X dX5_setMood_30 rfl rfl ?_
      obtain ⟨x3, hx3, h⟩ := hb_bind_of h
      refine ww_callV (ci := 1) (rest := []) (st' := [.int x3]) 34 X (ct_X1_at (hb_l Γ) G (hc_rf (hc_rf k 0) 1) (hc_kr_2_1 (hc_kr_5_0 hk)) p1 σ hx3) cw_X5_72 rfl (by decide) (hc_kr_2_1 (hc_kr_5_0 hk)) rfl ⟨by decide, by decide⟩ (Nat.le_of_ble_eq_true rfl) rfl rfl dX5_setMood_31 rfl ?_
      refine ww_iload_n 35 X dX5_setMood_34 rfl rfl ?_
      refine ww_icmp_ne 41 38 X dX5_setMood_35 (by decide) rfl h (fun h => ?_) (fun h => ?_)
      · skip
        refine ww_bipush (v := (-5)) 40 X dX5_setMood_38 rfl (by decide) ?_
        obtain rfl := Option.some.inj h
        exact ww_ret_i X hr K dX5_setMood_40
      · skip
        refine ww_aload_n 42 X dX5_setMood_41 rfl rfl ?_
        obtain ⟨x4, hx4, h⟩ := hb_bind_of h
        refine ww_callV (ci := 5) (rest := []) (st' := []) 45 X (ct_X5_record (hb_l Γ) G k hk σ hx4) cw_X5_58 rfl (by decide) hk rfl ⟨by decide, by decide⟩ (Nat.le_of_ble_eq_true rfl) rfl rfl dX5_setMood_42 rfl ?_
        refine ww_aload_n 46 X dX5_setMood_45 rfl rfl ?_
        refine ww_getr (ci := 5) (j := 0) 49 X cf_5 tw_X5_12 (by decide) rfl hk dX5_setMood_46 rfl ?_
        refine ww_getrN (ci := 2) (j := 1) 52 X cf_2 tw_X5_68 (by decide) rfl (hc_kr_5_0 hk) dX5_setMood_49 rfl ?_
        refine ww_iload_n 53 X dX5_setMood_52 rfl rfl ?_
        refine ww_iload_n 54 X dX5_setMood_53 rfl rfl ?_
        obtain ⟨x5, hx5, h⟩ := hb_bind_of h
        refine ww_callV (ci := 1) (rest := []) (st' := []) 57 X (ct_X1_put (hb_l Γ) G (hc_rf (hc_rf k 0) 1) (hc_kr_2_1 (hc_kr_5_0 hk)) p1 p2 x4 hx5) cw_X5_78 rfl (by decide) (hc_kr_2_1 (hc_kr_5_0 hk)) rfl ⟨by decide, by decide⟩ (Nat.le_of_ble_eq_true rfl) rfl rfl dX5_setMood_54 rfl ?_
        refine ww_aload_n 58 X dX5_setMood_57 rfl rfl ?_
        refine ww_getr (ci := 5) (j := 0) 61 X cf_5 tw_X5_12 (by decide) rfl hk dX5_setMood_58 rfl ?_
        refine ww_getrN (ci := 2) (j := 4) 64 X cf_2 tw_X5_82 (by decide) rfl (hc_kr_5_0 hk) dX5_setMood_61 rfl ?_
        refine ww_iload_n 65 X dX5_setMood_64 rfl rfl ?_
        obtain ⟨x6, hx6, h⟩ := hb_bind_of h
        refine ww_callV (ci := 1) (rest := []) (st' := [.int x6]) 68 X (ct_X1_at (hb_l Γ) G (hc_rf (hc_rf k 0) 4) (hc_kr_2_4 (hc_kr_5_0 hk)) p1 x5 hx6) cw_X5_72 rfl (by decide) (hc_kr_2_4 (hc_kr_5_0 hk)) rfl ⟨by decide, by decide⟩ (Nat.le_of_ble_eq_true rfl) rfl rfl dX5_setMood_65 rfl ?_
        obtain rfl := Option.some.inj h
        exact ww_ret_i X hr K dX5_setMood_68
theorem ct_X5_setMood (l : Launch) (G : hb_Gam) (k : Nat) (hk : hb_is ΛC k 5) (p1 : Int32) (p2 : Int32) (σ : hb_Mem) {x : (Int32 × hb_Mem)} (h : fn_X5_setMood k p1 p2 σ = some x) : hb_C l yX5_setMood cX5_setMood 3 (some .int) 5 106 ΛC G [.ref (G.2.2.2 k), .int p1, .int p2] σ (some (.int x.1)) x.2 :=
  hb_C.of [some (.ref (G.2.2.2 k)), some (.int p1), some (.int p2)] (by decide +kernel) (Nat.le_of_ble_eq_true rfl) (by intro v hv; simp only [List.mem_cons, List.not_mem_nil, or_false] at hv; rcases hv with rfl | rfl | rfl <;> rfl) rfl (hb_pad [.ref (G.2.2.2 k), .int p1, .int p2] 0) (fun Γ X hr => wk_X5_setMood X hr k hk p1 p2 σ h rfl)
def fn_X5_addChoice (k : Nat) (p1 : Int32) (p2 : Int32) (p3 : Int32) (p4 : Int32) (σ : hb_Mem) : Option (Int32 × hb_Mem) :=
(fn_X2_errorOfChoice (hc_rf k 0) p1 p2 p3 p4 σ).bind fun x1 =>
if x1 = 0 then (
(fn_X5_record k σ).bind fun x2 =>
(fn_X2_appendChoice (hc_rf k 0) p1 p2 p3 p4 x2).bind fun x3 =>
some (x3.1, x3.2))
else (
some (x1, σ))
set_option maxRecDepth 100000 in
set_option maxHeartbeats 4000000 in
theorem wk_X5_addChoice {Γ : hb_Ctx} {G : hb_Gam} {Q : State → Prop} (X : hb_X Γ cX5_addChoice 6 RX5 ΛC G 5 106) (hr : hb_ret Γ = (some .int)) (k : Nat) (hk : hb_is ΛC k 5) (p1 : Int32) (p2 : Int32) (p3 : Int32) (p4 : Int32) (σ : hb_Mem) {x : (Int32 × hb_Mem)} (h : fn_X5_addChoice k p1 p2 p3 p4 σ = some x) (K : Q = hb_Q Γ ΛC G (some (.int x.1)) x.2) : hb_W Γ ΛC G 6 Q σ [some (.ref (G.2.2.2 k)), some (.int p1), some (.int p2), some (.int p3), some (.int p4), none] [] 0 := by
  unfold fn_X5_addChoice at h
  refine ww_aload_n 1 X dX5_addChoice_0 rfl rfl ?_
  refine ww_getr (ci := 5) (j := 0) 4 X cf_5 tw_X5_12 (by decide) rfl hk dX5_addChoice_1 rfl ?_
  refine ww_iload_n 5 X dX5_addChoice_4 rfl rfl ?_
  refine ww_iload_n 6 X dX5_addChoice_5 rfl rfl ?_
  refine ww_iload_n 7 X dX5_addChoice_6 rfl rfl ?_
  refine ww_iload 9 X dX5_addChoice_7 rfl rfl ?_
  obtain ⟨x1, hx1, h⟩ := hb_bind_of h
  refine ww_callV (ci := 2) (rest := []) (st' := [.int x1]) 12 X (ct_X2_errorOfChoice (hb_l Γ) G (hc_rf k 0) (hc_kr_5_0 hk) p1 p2 p3 p4 σ hx1) cw_X5_85 rfl (by decide) (hc_kr_5_0 hk) rfl ⟨by decide, by decide⟩ (Nat.le_of_ble_eq_true rfl) rfl rfl dX5_addChoice_9 rfl ?_
  refine ww_istore 14 X (L' := [some (.ref (G.2.2.2 k)), some (.int p1), some (.int p2), some (.int p3), some (.int p4), some (.int x1)]) dX5_addChoice_12 rfl (Nat.le_of_ble_eq_true rfl) rfl rfl ?_
  refine ww_iload 16 X dX5_addChoice_14 rfl rfl ?_
  refine ww_if_eq 22 19 X dX5_addChoice_16 (by decide) rfl h (fun h => ?_) (fun h => ?_)
  · skip
    refine ww_aload_n 23 X dX5_addChoice_22 rfl rfl ?_
    obtain ⟨x2, hx2, h⟩ := hb_bind_of h
    refine ww_callV (ci := 5) (rest := []) (st' := []) 26 X (ct_X5_record (hb_l Γ) G k hk σ hx2) cw_X5_58 rfl (by decide) hk rfl ⟨by decide, by decide⟩ (Nat.le_of_ble_eq_true rfl) rfl rfl dX5_addChoice_23 rfl ?_
    refine ww_aload_n 27 X dX5_addChoice_26 rfl rfl ?_
    refine ww_getr (ci := 5) (j := 0) 30 X cf_5 tw_X5_12 (by decide) rfl hk dX5_addChoice_27 rfl ?_
    refine ww_iload_n 31 X dX5_addChoice_30 rfl rfl ?_
    refine ww_iload_n 32 X dX5_addChoice_31 rfl rfl ?_
    refine ww_iload_n 33 X dX5_addChoice_32 rfl rfl ?_
    refine ww_iload 35 X dX5_addChoice_33 rfl rfl ?_
    obtain ⟨x3, hx3, h⟩ := hb_bind_of h
    refine ww_callV (ci := 2) (rest := []) (st' := [.int x3.1]) 38 X (ct_X2_appendChoice (hb_l Γ) G (hc_rf k 0) (hc_kr_5_0 hk) p1 p2 p3 p4 x2 hx3) cw_X5_89 rfl (by decide) (hc_kr_5_0 hk) rfl ⟨by decide, by decide⟩ (Nat.le_of_ble_eq_true rfl) rfl rfl dX5_addChoice_35 rfl ?_
    obtain rfl := Option.some.inj h
    exact ww_ret_i X hr K dX5_addChoice_38
  · skip
    refine ww_iload 21 X dX5_addChoice_19 rfl rfl ?_
    obtain rfl := Option.some.inj h
    exact ww_ret_i X hr K dX5_addChoice_21
theorem ct_X5_addChoice (l : Launch) (G : hb_Gam) (k : Nat) (hk : hb_is ΛC k 5) (p1 : Int32) (p2 : Int32) (p3 : Int32) (p4 : Int32) (σ : hb_Mem) {x : (Int32 × hb_Mem)} (h : fn_X5_addChoice k p1 p2 p3 p4 σ = some x) : hb_C l yX5_addChoice cX5_addChoice 6 (some .int) 5 106 ΛC G [.ref (G.2.2.2 k), .int p1, .int p2, .int p3, .int p4] σ (some (.int x.1)) x.2 :=
  hb_C.of [some (.ref (G.2.2.2 k)), some (.int p1), some (.int p2), some (.int p3), some (.int p4), none] (by decide +kernel) (Nat.le_of_ble_eq_true rfl) (by intro v hv; simp only [List.mem_cons, List.not_mem_nil, or_false] at hv; rcases hv with rfl | rfl | rfl | rfl | rfl <;> rfl) rfl (hb_pad [.ref (G.2.2.2 k), .int p1, .int p2, .int p3, .int p4] 1) (fun Γ X hr => wk_X5_addChoice X hr k hk p1 p2 p3 p4 σ h rfl)
def lb_X5_addChoices_34 (k : Nat) (w1 : Int32) (σ : hb_Mem) : Option ((Int32 × hb_Mem) ⊕ ((Int32 × hb_Mem) ⊕ hb_Mem)) :=
if (σ (hc_rf k 5) 4) ≤ w1 then (
some (.inr (.inr σ)))
else (
if 16 ≤ w1 then (
some (.inr (.inr σ)))
else (
(fn_X1_at (hc_rf (hc_rf k 5) 5) w1 σ).bind fun x3 =>
(fn_X1_at (hc_rf (hc_rf k 5) 6) w1 σ).bind fun x4 =>
(fn_X1_at (hc_rf (hc_rf k 5) 7) w1 σ).bind fun x5 =>
(fn_X1_at (hc_rf (hc_rf k 5) 8) w1 σ).bind fun x6 =>
(fn_X2_errorOfChoice (hc_rf k 1) x3 x4 x5 x6 σ).bind fun x7 =>
if x7 = 0 then (
(fn_X2_appendChoice (hc_rf k 1) x3 x4 x5 x6 σ).bind fun x8 =>
hb_nm (w1 + 1) fun v9 =>
some (.inl (v9, x8.2)))
else (
some (.inr (.inl (x7, σ))))))
set_option maxRecDepth 100000 in
set_option maxHeartbeats 4000000 in
theorem lk_X5_addChoices_34 {Γ : hb_Ctx} {G : hb_Gam} {Q : State → Prop} (X : hb_X Γ cX5_addChoices 7 RX5 ΛC G 5 109)  (k : Nat) (hk : hb_is ΛC k 5) (w1 : Int32) (σ : hb_Mem) {x : ((Int32 × hb_Mem) ⊕ ((Int32 × hb_Mem) ⊕ hb_Mem))} (h : lb_X5_addChoices_34 k w1 σ = some x) (K : Sum.elim (fun s : (Int32 × hb_Mem) => hb_W Γ ΛC G 7 Q s.2 [some (.ref (G.2.2.2 k)), some (.int s.1), none, none, none, none, none] [] 34) (Sum.elim (fun t : (Int32 × hb_Mem) => hb_W Γ ΛC G 7 Q t.2 [none, none, none, none, none, none, some (.int t.1)] [] 121) (fun t : hb_Mem => hb_W Γ ΛC G 7 Q t [some (.ref (G.2.2.2 k)), none, none, none, none, none, none] [] 144)) x) : hb_W Γ ΛC G 7 Q σ [some (.ref (G.2.2.2 k)), some (.int w1), none, none, none, none, none] [] 34 := by
  unfold lb_X5_addChoices_34 at h
  refine ww_iload_n 35 X dX5_addChoices_34 rfl rfl ?_
  refine ww_aload_n 36 X dX5_addChoices_35 rfl rfl ?_
  refine ww_getr (ci := 5) (j := 5) 39 X cf_5 tw_X5_36 (by decide) rfl hk dX5_addChoices_36 rfl ?_
  refine ww_getiN (ci := 4) (j := 4) 42 X cf_4 tw_X5_102 (by decide) rfl (hc_kr_5_5 hk) dX5_addChoices_39 rfl ?_
  refine ww_icmp_ge 144 45 X dX5_addChoices_42 (by decide) rfl h (fun h => ?_) (fun h => ?_)
  · skip
    obtain rfl := Option.some.inj h
    refine ww_kill [1] (L' := [some (.ref (G.2.2.2 k)), none, none, none, none, none, none]) rfl ?_
    exact K
  · skip
    refine ww_iload_n 46 X dX5_addChoices_45 rfl rfl ?_
    refine ww_bipush (v := 16) 48 X dX5_addChoices_46 rfl (by decide) ?_
    refine ww_icmp_ge 144 51 X dX5_addChoices_48 (by decide) rfl h (fun h => ?_) (fun h => ?_)
    · skip
      obtain rfl := Option.some.inj h
      refine ww_kill [1] (L' := [some (.ref (G.2.2.2 k)), none, none, none, none, none, none]) rfl ?_
      exact K
    · skip
      refine ww_aload_n 52 X dX5_addChoices_51 rfl rfl ?_
      refine ww_getr (ci := 5) (j := 5) 55 X cf_5 tw_X5_36 (by decide) rfl hk dX5_addChoices_52 rfl ?_
      refine ww_getrN (ci := 4) (j := 5) 58 X cf_4 tw_X5_105 (by decide) rfl (hc_kr_5_5 hk) dX5_addChoices_55 rfl ?_
      refine ww_iload_n 59 X dX5_addChoices_58 rfl rfl ?_
      obtain ⟨x3, hx3, h⟩ := hb_bind_of h
      refine ww_callV (ci := 1) (rest := []) (st' := [.int x3]) 62 X (ct_X1_at (hb_l Γ) G (hc_rf (hc_rf k 5) 5) (hc_kr_4_5 (hc_kr_5_5 hk)) w1 σ hx3) cw_X5_72 rfl (by decide) (hc_kr_4_5 (hc_kr_5_5 hk)) rfl ⟨by decide, by decide⟩ (Nat.le_of_ble_eq_true rfl) rfl rfl dX5_addChoices_59 rfl ?_
      refine ww_istore_n 63 X (L' := [some (.ref (G.2.2.2 k)), some (.int w1), some (.int x3), none, none, none, none]) dX5_addChoices_62 rfl (Nat.le_of_ble_eq_true rfl) rfl rfl ?_
      refine ww_aload_n 64 X dX5_addChoices_63 rfl rfl ?_
      refine ww_getr (ci := 5) (j := 5) 67 X cf_5 tw_X5_36 (by decide) rfl hk dX5_addChoices_64 rfl ?_
      refine ww_getrN (ci := 4) (j := 6) 70 X cf_4 tw_X5_108 (by decide) rfl (hc_kr_5_5 hk) dX5_addChoices_67 rfl ?_
      refine ww_iload_n 71 X dX5_addChoices_70 rfl rfl ?_
      obtain ⟨x4, hx4, h⟩ := hb_bind_of h
      refine ww_callV (ci := 1) (rest := []) (st' := [.int x4]) 74 X (ct_X1_at (hb_l Γ) G (hc_rf (hc_rf k 5) 6) (hc_kr_4_6 (hc_kr_5_5 hk)) w1 σ hx4) cw_X5_72 rfl (by decide) (hc_kr_4_6 (hc_kr_5_5 hk)) rfl ⟨by decide, by decide⟩ (Nat.le_of_ble_eq_true rfl) rfl rfl dX5_addChoices_71 rfl ?_
      refine ww_istore_n 75 X (L' := [some (.ref (G.2.2.2 k)), some (.int w1), some (.int x3), some (.int x4), none, none, none]) dX5_addChoices_74 rfl (Nat.le_of_ble_eq_true rfl) rfl rfl ?_
      refine ww_aload_n 76 X dX5_addChoices_75 rfl rfl ?_
      refine ww_getr (ci := 5) (j := 5) 79 X cf_5 tw_X5_36 (by decide) rfl hk dX5_addChoices_76 rfl ?_
      refine ww_getrN (ci := 4) (j := 7) 82 X cf_4 tw_X5_111 (by decide) rfl (hc_kr_5_5 hk) dX5_addChoices_79 rfl ?_
      refine ww_iload_n 83 X dX5_addChoices_82 rfl rfl ?_
      obtain ⟨x5, hx5, h⟩ := hb_bind_of h
      refine ww_callV (ci := 1) (rest := []) (st' := [.int x5]) 86 X (ct_X1_at (hb_l Γ) G (hc_rf (hc_rf k 5) 7) (hc_kr_4_7 (hc_kr_5_5 hk)) w1 σ hx5) cw_X5_72 rfl (by decide) (hc_kr_4_7 (hc_kr_5_5 hk)) rfl ⟨by decide, by decide⟩ (Nat.le_of_ble_eq_true rfl) rfl rfl dX5_addChoices_83 rfl ?_
      refine ww_istore 88 X (L' := [some (.ref (G.2.2.2 k)), some (.int w1), some (.int x3), some (.int x4), some (.int x5), none, none]) dX5_addChoices_86 rfl (Nat.le_of_ble_eq_true rfl) rfl rfl ?_
      refine ww_aload_n 89 X dX5_addChoices_88 rfl rfl ?_
      refine ww_getr (ci := 5) (j := 5) 92 X cf_5 tw_X5_36 (by decide) rfl hk dX5_addChoices_89 rfl ?_
      refine ww_getrN (ci := 4) (j := 8) 95 X cf_4 tw_X5_114 (by decide) rfl (hc_kr_5_5 hk) dX5_addChoices_92 rfl ?_
      refine ww_iload_n 96 X dX5_addChoices_95 rfl rfl ?_
      obtain ⟨x6, hx6, h⟩ := hb_bind_of h
      refine ww_callV (ci := 1) (rest := []) (st' := [.int x6]) 99 X (ct_X1_at (hb_l Γ) G (hc_rf (hc_rf k 5) 8) (hc_kr_4_8 (hc_kr_5_5 hk)) w1 σ hx6) cw_X5_72 rfl (by decide) (hc_kr_4_8 (hc_kr_5_5 hk)) rfl ⟨by decide, by decide⟩ (Nat.le_of_ble_eq_true rfl) rfl rfl dX5_addChoices_96 rfl ?_
      refine ww_istore 101 X (L' := [some (.ref (G.2.2.2 k)), some (.int w1), some (.int x3), some (.int x4), some (.int x5), some (.int x6), none]) dX5_addChoices_99 rfl (Nat.le_of_ble_eq_true rfl) rfl rfl ?_
      refine ww_aload_n 102 X dX5_addChoices_101 rfl rfl ?_
      refine ww_getr (ci := 5) (j := 1) 105 X cf_5 tw_X5_16 (by decide) rfl hk dX5_addChoices_102 rfl ?_
      refine ww_iload_n 106 X dX5_addChoices_105 rfl rfl ?_
      refine ww_iload_n 107 X dX5_addChoices_106 rfl rfl ?_
      refine ww_iload 109 X dX5_addChoices_107 rfl rfl ?_
      refine ww_iload 111 X dX5_addChoices_109 rfl rfl ?_
      obtain ⟨x7, hx7, h⟩ := hb_bind_of h
      refine ww_callV (ci := 2) (rest := []) (st' := [.int x7]) 114 X (ct_X2_errorOfChoice (hb_l Γ) G (hc_rf k 1) (hc_kr_5_1 hk) x3 x4 x5 x6 σ hx7) cw_X5_85 rfl (by decide) (hc_kr_5_1 hk) rfl ⟨by decide, by decide⟩ (Nat.le_of_ble_eq_true rfl) rfl rfl dX5_addChoices_111 rfl ?_
      refine ww_istore 116 X (L' := [some (.ref (G.2.2.2 k)), some (.int w1), some (.int x3), some (.int x4), some (.int x5), some (.int x6), some (.int x7)]) dX5_addChoices_114 rfl (Nat.le_of_ble_eq_true rfl) rfl rfl ?_
      refine ww_iload 118 X dX5_addChoices_116 rfl rfl ?_
      refine ww_if_eq 124 121 X dX5_addChoices_118 (by decide) rfl h (fun h => ?_) (fun h => ?_)
      · skip
        refine ww_aload_n 125 X dX5_addChoices_124 rfl rfl ?_
        refine ww_getr (ci := 5) (j := 1) 128 X cf_5 tw_X5_16 (by decide) rfl hk dX5_addChoices_125 rfl ?_
        refine ww_iload_n 129 X dX5_addChoices_128 rfl rfl ?_
        refine ww_iload_n 130 X dX5_addChoices_129 rfl rfl ?_
        refine ww_iload 132 X dX5_addChoices_130 rfl rfl ?_
        refine ww_iload 134 X dX5_addChoices_132 rfl rfl ?_
        obtain ⟨x8, hx8, h⟩ := hb_bind_of h
        refine ww_callV (ci := 2) (rest := []) (st' := [.int x8.1]) 137 X (ct_X2_appendChoice (hb_l Γ) G (hc_rf k 1) (hc_kr_5_1 hk) x3 x4 x5 x6 σ hx8) cw_X5_89 rfl (by decide) (hc_kr_5_1 hk) rfl ⟨by decide, by decide⟩ (Nat.le_of_ble_eq_true rfl) rfl rfl dX5_addChoices_134 rfl ?_
        refine ww_pop 138 X dX5_addChoices_137 rfl rfl ?_
        obtain ⟨v9, ev9, h⟩ := hb_nm_of h
        refine ww_iinc 141 X (L' := [some (.ref (G.2.2.2 k)), some (.int v9), some (.int x3), some (.int x4), some (.int x5), some (.int x6), some (.int x7)]) dX5_addChoices_138 rfl rfl ev9.symm rfl ?_
        refine ww_goto 34 X dX5_addChoices_141 (by decide) ?_
        obtain rfl := Option.some.inj h
        refine ww_kill [2, 3, 4, 5, 6] (L' := [some (.ref (G.2.2.2 k)), some (.int v9), none, none, none, none, none]) rfl ?_
        exact K
      · skip
        obtain rfl := Option.some.inj h
        refine ww_kill [0, 1, 2, 3, 4, 5] (L' := [none, none, none, none, none, none, some (.int x7)]) rfl ?_
        exact K
def ll_X5_addChoices_34 (k : Nat) : (Int32 × hb_Mem) → Option ((Int32 × hb_Mem) ⊕ hb_Mem) := hb_lp (fun s => lb_X5_addChoices_34 k s.1 s.2) hb_F
theorem lw_X5_addChoices_34 {Γ : hb_Ctx} {G : hb_Gam} {Q : State → Prop} (X : hb_X Γ cX5_addChoices 7 RX5 ΛC G 5 109)  (k : Nat) (hk : hb_is ΛC k 5) (s : (Int32 × hb_Mem)) (t : ((Int32 × hb_Mem) ⊕ hb_Mem)) (h : ll_X5_addChoices_34 k s = some t) (K : (Sum.elim (fun t : (Int32 × hb_Mem) => hb_W Γ ΛC G 7 Q t.2 [none, none, none, none, none, none, some (.int t.1)] [] 121) (fun t : hb_Mem => hb_W Γ ΛC G 7 Q t [some (.ref (G.2.2.2 k)), none, none, none, none, none, none] [] 144)) t) : hb_W Γ ΛC G 7 Q s.2 [some (.ref (G.2.2.2 k)), some (.int s.1), none, none, none, none, none] [] 34 :=
  hb_lp_w (P := fun s : (Int32 × hb_Mem) => hb_W Γ ΛC G 7 Q s.2 [some (.ref (G.2.2.2 k)), some (.int s.1), none, none, none, none, none] [] 34) (E := (Sum.elim (fun t : (Int32 × hb_Mem) => hb_W Γ ΛC G 7 Q t.2 [none, none, none, none, none, none, some (.int t.1)] [] 121) (fun t : hb_Mem => hb_W Γ ΛC G 7 Q t [some (.ref (G.2.2.2 k)), none, none, none, none, none, none] [] 144))) (fun s x hx K => lk_X5_addChoices_34 X k hk s.1 s.2 hx K) _ s t h K
def jn_X5_addChoices_144 (k : Nat) (σ : hb_Mem) : Option (Int32 × hb_Mem) :=
(fn_X5_record k σ).bind fun x11 =>
(fn_X2_copyFrom (hc_rf k 0) (hc_rf k 1) x11).bind fun x12 =>
some (x12 (hc_rf k 5) 4, x12)
set_option maxRecDepth 100000 in
set_option maxHeartbeats 4000000 in
theorem jw_X5_addChoices_144 {Γ : hb_Ctx} {G : hb_Gam} {Q : State → Prop} (X : hb_X Γ cX5_addChoices 7 RX5 ΛC G 5 109) (hr : hb_ret Γ = (some .int)) (k : Nat) (hk : hb_is ΛC k 5) (σ : hb_Mem) {x : (Int32 × hb_Mem)} (h : jn_X5_addChoices_144 k σ = some x) (K : Q = hb_Q Γ ΛC G (some (.int x.1)) x.2) : hb_W Γ ΛC G 7 Q σ [some (.ref (G.2.2.2 k)), none, none, none, none, none, none] [] 144 := by
  unfold jn_X5_addChoices_144 at h
  refine ww_aload_n 145 X dX5_addChoices_144 rfl rfl ?_
  obtain ⟨x11, hx11, h⟩ := hb_bind_of h
  refine ww_callV (ci := 5) (rest := []) (st' := []) 148 X (ct_X5_record (hb_l Γ) G k hk σ hx11) cw_X5_58 rfl (by decide) hk rfl ⟨by decide, by decide⟩ (Nat.le_of_ble_eq_true rfl) rfl rfl dX5_addChoices_145 rfl ?_
  refine ww_aload_n 149 X dX5_addChoices_148 rfl rfl ?_
  refine ww_getr (ci := 5) (j := 0) 152 X cf_5 tw_X5_12 (by decide) rfl hk dX5_addChoices_149 rfl ?_
  refine ww_aload_n 153 X dX5_addChoices_152 rfl rfl ?_
  refine ww_getr (ci := 5) (j := 1) 156 X cf_5 tw_X5_16 (by decide) rfl hk dX5_addChoices_153 rfl ?_
  obtain ⟨x12, hx12, h⟩ := hb_bind_of h
  refine ww_callV (ci := 2) (rest := []) (st' := []) 159 X (ct_X2_copyFrom (hb_l Γ) G (hc_rf k 0) (hc_kr_5_0 hk) (hc_rf k 1) (hc_kr_5_1 hk) x11 hx12) cw_X5_98 rfl (by decide) (hc_kr_5_0 hk) rfl ⟨by decide, by decide⟩ (Nat.le_of_ble_eq_true rfl) rfl rfl dX5_addChoices_156 rfl ?_
  refine ww_aload_n 160 X dX5_addChoices_159 rfl rfl ?_
  refine ww_getr (ci := 5) (j := 5) 163 X cf_5 tw_X5_36 (by decide) rfl hk dX5_addChoices_160 rfl ?_
  refine ww_getiN (ci := 4) (j := 4) 166 X cf_4 tw_X5_102 (by decide) rfl (hc_kr_5_5 hk) dX5_addChoices_163 rfl ?_
  obtain rfl := Option.some.inj h
  exact ww_ret_i X hr K dX5_addChoices_166
def fn_X5_addChoices (k : Nat) (σ : hb_Mem) : Option (Int32 × hb_Mem) :=
(fn_X4_parse (hc_rf k 5) σ).bind fun x1 =>
if x1.1 = 0 then (
some (((-100) : Int32) - (x1.2 (hc_rf k 5) 2), x1.2))
else (
(fn_X2_copyFrom (hc_rf k 1) (hc_rf k 0) x1.2).bind fun x2 =>
(ll_X5_addChoices_34 k (0, x2)).bind fun t10 =>
Sum.elim (fun t10 =>
some (t10.1, t10.2)) (fun t10 =>
jn_X5_addChoices_144 k t10) t10)
set_option maxRecDepth 100000 in
set_option maxHeartbeats 4000000 in
theorem wk_X5_addChoices {Γ : hb_Ctx} {G : hb_Gam} {Q : State → Prop} (X : hb_X Γ cX5_addChoices 7 RX5 ΛC G 5 109) (hr : hb_ret Γ = (some .int)) (k : Nat) (hk : hb_is ΛC k 5) (σ : hb_Mem) {x : (Int32 × hb_Mem)} (h : fn_X5_addChoices k σ = some x) (K : Q = hb_Q Γ ΛC G (some (.int x.1)) x.2) : hb_W Γ ΛC G 7 Q σ [some (.ref (G.2.2.2 k)), none, none, none, none, none, none] [] 0 := by
  unfold fn_X5_addChoices at h
  refine ww_aload_n 1 X dX5_addChoices_0 rfl rfl ?_
  refine ww_getr (ci := 5) (j := 5) 4 X cf_5 tw_X5_36 (by decide) rfl hk dX5_addChoices_1 rfl ?_
  obtain ⟨x1, hx1, h⟩ := hb_bind_of h
  refine ww_callV (ci := 4) (rest := []) (st' := [.int x1.1]) 7 X (ct_X4_parse (hb_l Γ) G (hc_rf k 5) (hc_kr_5_5 hk) σ hx1) cw_X5_92 rfl (by decide) (hc_kr_5_5 hk) rfl ⟨by decide, by decide⟩ (Nat.le_of_ble_eq_true rfl) rfl rfl dX5_addChoices_4 rfl ?_
  refine ww_if_ne 21 10 X dX5_addChoices_7 (by decide) rfl h (fun h => ?_) (fun h => ?_)
  · skip
    refine ww_bipush (v := (-100)) 12 X dX5_addChoices_10 rfl (by decide) ?_
    refine ww_aload_n 13 X dX5_addChoices_12 rfl rfl ?_
    refine ww_getr (ci := 5) (j := 5) 16 X cf_5 tw_X5_36 (by decide) rfl hk dX5_addChoices_13 rfl ?_
    refine ww_getiN (ci := 4) (j := 2) 19 X cf_4 tw_X5_96 (by decide) rfl (hc_kr_5_5 hk) dX5_addChoices_16 rfl ?_
    refine ww_isub 20 X dX5_addChoices_19 rfl ?_
    obtain rfl := Option.some.inj h
    exact ww_ret_i X hr K dX5_addChoices_20
  · skip
    refine ww_aload_n 22 X dX5_addChoices_21 rfl rfl ?_
    refine ww_getr (ci := 5) (j := 1) 25 X cf_5 tw_X5_16 (by decide) rfl hk dX5_addChoices_22 rfl ?_
    refine ww_aload_n 26 X dX5_addChoices_25 rfl rfl ?_
    refine ww_getr (ci := 5) (j := 0) 29 X cf_5 tw_X5_12 (by decide) rfl hk dX5_addChoices_26 rfl ?_
    obtain ⟨x2, hx2, h⟩ := hb_bind_of h
    refine ww_callV (ci := 2) (rest := []) (st' := []) 32 X (ct_X2_copyFrom (hb_l Γ) G (hc_rf k 1) (hc_kr_5_1 hk) (hc_rf k 0) (hc_kr_5_0 hk) x1.2 hx2) cw_X5_98 rfl (by decide) (hc_kr_5_1 hk) rfl ⟨by decide, by decide⟩ (Nat.le_of_ble_eq_true rfl) rfl rfl dX5_addChoices_29 rfl ?_
    refine ww_iconst (v := 0) 33 X dX5_addChoices_32 rfl (by decide) ?_
    refine ww_istore_n 34 X (L' := [some (.ref (G.2.2.2 k)), some (.int 0), none, none, none, none, none]) dX5_addChoices_33 rfl (Nat.le_of_ble_eq_true rfl) rfl rfl ?_
    obtain ⟨t10, ht10, h⟩ := hb_bind_of h
    refine lw_X5_addChoices_34 X k hk (0, x2) t10 ht10 ?_
    rcases t10 with t10 | t10
    · replace h := hb_inl_of h
      refine ww_iload 123 X dX5_addChoices_121 rfl rfl ?_
      obtain rfl := Option.some.inj h
      exact ww_ret_i X hr K dX5_addChoices_123
    · replace h := hb_inr_of h
      exact jw_X5_addChoices_144 X hr k hk t10 h K
theorem ct_X5_addChoices (l : Launch) (G : hb_Gam) (k : Nat) (hk : hb_is ΛC k 5) (σ : hb_Mem) {x : (Int32 × hb_Mem)} (h : fn_X5_addChoices k σ = some x) : hb_C l yX5_addChoices cX5_addChoices 7 (some .int) 5 109 ΛC G [.ref (G.2.2.2 k)] σ (some (.int x.1)) x.2 :=
  hb_C.of [some (.ref (G.2.2.2 k)), none, none, none, none, none, none] (by decide +kernel) (Nat.le_of_ble_eq_true rfl) (by intro v hv; simp only [List.mem_cons, List.not_mem_nil, or_false] at hv; subst hv; rfl) rfl (hb_pad [.ref (G.2.2.2 k)] 6) (fun Γ X hr => wk_X5_addChoices X hr k hk σ h rfl)
def fn_X5_takeChoice (k : Nat) (p1 : Int32) (p2 : Int32) (σ : hb_Mem) : Option (Int32 × hb_Mem) :=
(fn_X2_hasChoice (hc_rf k 0) p1 p2 σ).bind fun x1 =>
if x1 = 0 then (
some ((-1), σ))
else (
(fn_X5_record k σ).bind fun x2 =>
(fn_X2_removeChoice (hc_rf k 0) p1 p2 x2).bind fun x3 =>
some (x3.1, x3.2))
set_option maxRecDepth 100000 in
set_option maxHeartbeats 4000000 in
theorem wk_X5_takeChoice {Γ : hb_Ctx} {G : hb_Gam} {Q : State → Prop} (X : hb_X Γ cX5_takeChoice 3 RX5 ΛC G 5 106) (hr : hb_ret Γ = (some .int)) (k : Nat) (hk : hb_is ΛC k 5) (p1 : Int32) (p2 : Int32) (σ : hb_Mem) {x : (Int32 × hb_Mem)} (h : fn_X5_takeChoice k p1 p2 σ = some x) (K : Q = hb_Q Γ ΛC G (some (.int x.1)) x.2) : hb_W Γ ΛC G 3 Q σ [some (.ref (G.2.2.2 k)), some (.int p1), some (.int p2)] [] 0 := by
  unfold fn_X5_takeChoice at h
  refine ww_aload_n 1 X dX5_takeChoice_0 rfl rfl ?_
  refine ww_getr (ci := 5) (j := 0) 4 X cf_5 tw_X5_12 (by decide) rfl hk dX5_takeChoice_1 rfl ?_
  refine ww_iload_n 5 X dX5_takeChoice_4 rfl rfl ?_
  refine ww_iload_n 6 X dX5_takeChoice_5 rfl rfl ?_
  obtain ⟨x1, hx1, h⟩ := hb_bind_of h
  refine ww_callV (ci := 2) (rest := []) (st' := [.int x1]) 9 X (ct_X2_hasChoice (hb_l Γ) G (hc_rf k 0) (hc_kr_5_0 hk) p1 p2 σ hx1) cw_X5_117 rfl (by decide) (hc_kr_5_0 hk) rfl ⟨by decide, by decide⟩ (Nat.le_of_ble_eq_true rfl) rfl rfl dX5_takeChoice_6 rfl ?_
  refine ww_if_ne 14 12 X dX5_takeChoice_9 (by decide) rfl h (fun h => ?_) (fun h => ?_)
  · skip
    refine ww_iconst (v := (-1)) 13 X dX5_takeChoice_12 rfl (by decide) ?_
    obtain rfl := Option.some.inj h
    exact ww_ret_i X hr K dX5_takeChoice_13
  · skip
    refine ww_aload_n 15 X dX5_takeChoice_14 rfl rfl ?_
    obtain ⟨x2, hx2, h⟩ := hb_bind_of h
    refine ww_callV (ci := 5) (rest := []) (st' := []) 18 X (ct_X5_record (hb_l Γ) G k hk σ hx2) cw_X5_58 rfl (by decide) hk rfl ⟨by decide, by decide⟩ (Nat.le_of_ble_eq_true rfl) rfl rfl dX5_takeChoice_15 rfl ?_
    refine ww_aload_n 19 X dX5_takeChoice_18 rfl rfl ?_
    refine ww_getr (ci := 5) (j := 0) 22 X cf_5 tw_X5_12 (by decide) rfl hk dX5_takeChoice_19 rfl ?_
    refine ww_iload_n 23 X dX5_takeChoice_22 rfl rfl ?_
    refine ww_iload_n 24 X dX5_takeChoice_23 rfl rfl ?_
    obtain ⟨x3, hx3, h⟩ := hb_bind_of h
    refine ww_callV (ci := 2) (rest := []) (st' := [.int x3.1]) 27 X (ct_X2_removeChoice (hb_l Γ) G (hc_rf k 0) (hc_kr_5_0 hk) p1 p2 x2 hx3) cw_X5_121 rfl (by decide) (hc_kr_5_0 hk) rfl ⟨by decide, by decide⟩ (Nat.le_of_ble_eq_true rfl) rfl rfl dX5_takeChoice_24 rfl ?_
    obtain rfl := Option.some.inj h
    exact ww_ret_i X hr K dX5_takeChoice_27
theorem ct_X5_takeChoice (l : Launch) (G : hb_Gam) (k : Nat) (hk : hb_is ΛC k 5) (p1 : Int32) (p2 : Int32) (σ : hb_Mem) {x : (Int32 × hb_Mem)} (h : fn_X5_takeChoice k p1 p2 σ = some x) : hb_C l yX5_takeChoice cX5_takeChoice 3 (some .int) 5 106 ΛC G [.ref (G.2.2.2 k), .int p1, .int p2] σ (some (.int x.1)) x.2 :=
  hb_C.of [some (.ref (G.2.2.2 k)), some (.int p1), some (.int p2)] (by decide +kernel) (Nat.le_of_ble_eq_true rfl) (by intro v hv; simp only [List.mem_cons, List.not_mem_nil, or_false] at hv; rcases hv with rfl | rfl | rfl <;> rfl) rfl (hb_pad [.ref (G.2.2.2 k), .int p1, .int p2] 0) (fun Γ X hr => wk_X5_takeChoice X hr k hk p1 p2 σ h rfl)
def fn_X5_exchange (k : Nat) (p1 : Int32) (p2 : Int32) (σ : hb_Mem) : Option (Int32 × hb_Mem) :=
(fn_X2_hasPage (hc_rf k 0) p1 σ).bind fun x1 =>
if x1 = 0 then (
some ((-1), σ))
else (
(fn_X2_hasPage (hc_rf k 0) p2 σ).bind fun x2 =>
if x2 = 0 then (
some ((-1), σ))
else (
if p1 = p2 then (
some ((-5), σ))
else (
(fn_X5_record k σ).bind fun x3 =>
(fn_X2_swapPages (hc_rf k 0) p1 p2 x3).bind fun x4 =>
(fn_X2_choicesTo (hc_rf k 0) p1 x4).bind fun x5 =>
(fn_X2_choicesTo (hc_rf k 0) p2 x4).bind fun x6 =>
some (x5 + x6, x4))))
set_option maxRecDepth 100000 in
set_option maxHeartbeats 4000000 in
theorem wk_X5_exchange {Γ : hb_Ctx} {G : hb_Gam} {Q : State → Prop} (X : hb_X Γ cX5_exchange 3 RX5 ΛC G 5 106) (hr : hb_ret Γ = (some .int)) (k : Nat) (hk : hb_is ΛC k 5) (p1 : Int32) (p2 : Int32) (σ : hb_Mem) {x : (Int32 × hb_Mem)} (h : fn_X5_exchange k p1 p2 σ = some x) (K : Q = hb_Q Γ ΛC G (some (.int x.1)) x.2) : hb_W Γ ΛC G 3 Q σ [some (.ref (G.2.2.2 k)), some (.int p1), some (.int p2)] [] 0 := by
  unfold fn_X5_exchange at h
  refine ww_aload_n 1 X dX5_exchange_0 rfl rfl ?_
  refine ww_getr (ci := 5) (j := 0) 4 X cf_5 tw_X5_12 (by decide) rfl hk dX5_exchange_1 rfl ?_
  refine ww_iload_n 5 X dX5_exchange_4 rfl rfl ?_
  obtain ⟨x1, hx1, h⟩ := hb_bind_of h
  refine ww_callV (ci := 2) (rest := []) (st' := [.int x1]) 8 X (ct_X2_hasPage (hb_l Γ) G (hc_rf k 0) (hc_kr_5_0 hk) p1 σ hx1) cw_X5_65 rfl (by decide) (hc_kr_5_0 hk) rfl ⟨by decide, by decide⟩ (Nat.le_of_ble_eq_true rfl) rfl rfl dX5_exchange_5 rfl ?_
  refine ww_if_eq 22 11 X dX5_exchange_8 (by decide) rfl h (fun h => ?_) (fun h => ?_)
  · skip
    refine ww_iconst (v := (-1)) 23 X dX5_exchange_22 rfl (by decide) ?_
    obtain rfl := Option.some.inj h
    exact ww_ret_i X hr K dX5_exchange_23
  · skip
    refine ww_aload_n 12 X dX5_exchange_11 rfl rfl ?_
    refine ww_getr (ci := 5) (j := 0) 15 X cf_5 tw_X5_12 (by decide) rfl hk dX5_exchange_12 rfl ?_
    refine ww_iload_n 16 X dX5_exchange_15 rfl rfl ?_
    obtain ⟨x2, hx2, h⟩ := hb_bind_of h
    refine ww_callV (ci := 2) (rest := []) (st' := [.int x2]) 19 X (ct_X2_hasPage (hb_l Γ) G (hc_rf k 0) (hc_kr_5_0 hk) p2 σ hx2) cw_X5_65 rfl (by decide) (hc_kr_5_0 hk) rfl ⟨by decide, by decide⟩ (Nat.le_of_ble_eq_true rfl) rfl rfl dX5_exchange_16 rfl ?_
    refine ww_if_ne 24 22 X dX5_exchange_19 (by decide) rfl h (fun h => ?_) (fun h => ?_)
    · skip
      refine ww_iconst (v := (-1)) 23 X dX5_exchange_22 rfl (by decide) ?_
      obtain rfl := Option.some.inj h
      exact ww_ret_i X hr K dX5_exchange_23
    · skip
      refine ww_iload_n 25 X dX5_exchange_24 rfl rfl ?_
      refine ww_iload_n 26 X dX5_exchange_25 rfl rfl ?_
      refine ww_icmp_ne 32 29 X dX5_exchange_26 (by decide) rfl h (fun h => ?_) (fun h => ?_)
      · skip
        refine ww_bipush (v := (-5)) 31 X dX5_exchange_29 rfl (by decide) ?_
        obtain rfl := Option.some.inj h
        exact ww_ret_i X hr K dX5_exchange_31
      · skip
        refine ww_aload_n 33 X dX5_exchange_32 rfl rfl ?_
        obtain ⟨x3, hx3, h⟩ := hb_bind_of h
        refine ww_callV (ci := 5) (rest := []) (st' := []) 36 X (ct_X5_record (hb_l Γ) G k hk σ hx3) cw_X5_58 rfl (by decide) hk rfl ⟨by decide, by decide⟩ (Nat.le_of_ble_eq_true rfl) rfl rfl dX5_exchange_33 rfl ?_
        refine ww_aload_n 37 X dX5_exchange_36 rfl rfl ?_
        refine ww_getr (ci := 5) (j := 0) 40 X cf_5 tw_X5_12 (by decide) rfl hk dX5_exchange_37 rfl ?_
        refine ww_iload_n 41 X dX5_exchange_40 rfl rfl ?_
        refine ww_iload_n 42 X dX5_exchange_41 rfl rfl ?_
        obtain ⟨x4, hx4, h⟩ := hb_bind_of h
        refine ww_callV (ci := 2) (rest := []) (st' := []) 45 X (ct_X2_swapPages (hb_l Γ) G (hc_rf k 0) (hc_kr_5_0 hk) p1 p2 x3 hx4) cw_X5_125 rfl (by decide) (hc_kr_5_0 hk) rfl ⟨by decide, by decide⟩ (Nat.le_of_ble_eq_true rfl) rfl rfl dX5_exchange_42 rfl ?_
        refine ww_aload_n 46 X dX5_exchange_45 rfl rfl ?_
        refine ww_getr (ci := 5) (j := 0) 49 X cf_5 tw_X5_12 (by decide) rfl hk dX5_exchange_46 rfl ?_
        refine ww_iload_n 50 X dX5_exchange_49 rfl rfl ?_
        obtain ⟨x5, hx5, h⟩ := hb_bind_of h
        refine ww_callV (ci := 2) (rest := []) (st' := [.int x5]) 53 X (ct_X2_choicesTo (hb_l Γ) G (hc_rf k 0) (hc_kr_5_0 hk) p1 x4 hx5) cw_X5_128 rfl (by decide) (hc_kr_5_0 hk) rfl ⟨by decide, by decide⟩ (Nat.le_of_ble_eq_true rfl) rfl rfl dX5_exchange_50 rfl ?_
        refine ww_aload_n 54 X dX5_exchange_53 rfl rfl ?_
        refine ww_getr (ci := 5) (j := 0) 57 X cf_5 tw_X5_12 (by decide) rfl hk dX5_exchange_54 rfl ?_
        refine ww_iload_n 58 X dX5_exchange_57 rfl rfl ?_
        obtain ⟨x6, hx6, h⟩ := hb_bind_of h
        refine ww_callV (ci := 2) (rest := [.int x5]) (st' := [.int x6, .int x5]) 61 X (ct_X2_choicesTo (hb_l Γ) G (hc_rf k 0) (hc_kr_5_0 hk) p2 x4 hx6) cw_X5_128 rfl (by decide) (hc_kr_5_0 hk) rfl ⟨by decide, by decide⟩ (Nat.le_of_ble_eq_true rfl) rfl rfl dX5_exchange_58 rfl ?_
        refine ww_iadd 62 X dX5_exchange_61 rfl ?_
        obtain rfl := Option.some.inj h
        exact ww_ret_i X hr K dX5_exchange_62
theorem ct_X5_exchange (l : Launch) (G : hb_Gam) (k : Nat) (hk : hb_is ΛC k 5) (p1 : Int32) (p2 : Int32) (σ : hb_Mem) {x : (Int32 × hb_Mem)} (h : fn_X5_exchange k p1 p2 σ = some x) : hb_C l yX5_exchange cX5_exchange 3 (some .int) 5 106 ΛC G [.ref (G.2.2.2 k), .int p1, .int p2] σ (some (.int x.1)) x.2 :=
  hb_C.of [some (.ref (G.2.2.2 k)), some (.int p1), some (.int p2)] (by decide +kernel) (Nat.le_of_ble_eq_true rfl) (by intro v hv; simp only [List.mem_cons, List.not_mem_nil, or_false] at hv; rcases hv with rfl | rfl | rfl <;> rfl) rfl (hb_pad [.ref (G.2.2.2 k), .int p1, .int p2] 0) (fun Γ X hr => wk_X5_exchange X hr k hk p1 p2 σ h rfl)
def fn_X5_isReader (p0 : Int32) : Option Int32 :=
if p0 < 0 then (
some 0)
else (
if 2 ≤ p0 then (
some 0)
else (
some 1))
set_option maxRecDepth 100000 in
set_option maxHeartbeats 4000000 in
theorem wk_X5_isReader {Γ : hb_Ctx} {G : hb_Gam} {Q : State → Prop} (X : hb_X Γ cX5_isReader 1 RX5 ΛC G 0 0) (hr : hb_ret Γ = (some .boolean)) (p0 : Int32) (σ : hb_Mem) {x : Int32} (h : fn_X5_isReader p0 = some x) (K : Q = hb_Q Γ ΛC G (some (.int x)) σ) : hb_W Γ ΛC G 1 Q σ [some (.int p0)] [] 0 := by
  unfold fn_X5_isReader at h
  refine ww_iload_n 1 X dX5_isReader_0 rfl rfl ?_
  refine ww_if_lt 13 4 X dX5_isReader_1 (by decide) rfl h (fun h => ?_) (fun h => ?_)
  · skip
    refine ww_iconst (v := 0) 14 X dX5_isReader_13 rfl (by decide) ?_
    obtain rfl := Option.some.inj h
    exact ww_ret_z X hr (by decide) K dX5_isReader_14
  · skip
    refine ww_iload_n 5 X dX5_isReader_4 rfl rfl ?_
    refine ww_iconst (v := 2) 6 X dX5_isReader_5 rfl (by decide) ?_
    refine ww_icmp_ge 13 9 X dX5_isReader_6 (by decide) rfl h (fun h => ?_) (fun h => ?_)
    · skip
      refine ww_iconst (v := 0) 14 X dX5_isReader_13 rfl (by decide) ?_
      obtain rfl := Option.some.inj h
      exact ww_ret_z X hr (by decide) K dX5_isReader_14
    · skip
      refine ww_iconst (v := 1) 10 X dX5_isReader_9 rfl (by decide) ?_
      refine ww_goto 14 X dX5_isReader_10 (by decide) ?_
      obtain rfl := Option.some.inj h
      exact ww_ret_z X hr (by decide) K dX5_isReader_14
theorem ct_X5_isReader (l : Launch) (G : hb_Gam) (p0 : Int32) (σ : hb_Mem) {x : Int32} (h : fn_X5_isReader p0 = some x) : hb_C l yX5_isReader cX5_isReader 1 (some .boolean) 0 0 ΛC G [.int p0] σ (some (.int x)) σ :=
  hb_C.of [some (.int p0)] (by decide +kernel) (Nat.le_of_ble_eq_true rfl) (by intro v hv; simp only [List.mem_cons, List.not_mem_nil, or_false] at hv; subst hv; rfl) rfl (hb_pad [.int p0] 0) (fun Γ X hr => wk_X5_isReader X hr p0 σ h rfl)
def fn_X5_begin (k : Nat) (p1 : Int32) (σ : hb_Mem) : Option (Int32 × hb_Mem) :=
(fn_X5_isReader p1).bind fun x1 =>
if x1 = 0 then (
some ((-1), σ))
else (
if (σ (hc_rf k 0) 0) = 0 then (
some ((-4), σ))
else (
(fn_X5_record k σ).bind fun x2 =>
(fn_X2_firstPlace (hc_rf k 0) x2).bind fun x3 =>
(fn_X2_putReader (hc_rf k 0) p1 x3 0 x2).bind fun x4 =>
(fn_X5_flagsAt x3).bind fun x5 =>
some (x5, x4)))
set_option maxRecDepth 100000 in
set_option maxHeartbeats 4000000 in
theorem wk_X5_begin {Γ : hb_Ctx} {G : hb_Gam} {Q : State → Prop} (X : hb_X Γ cX5_begin 3 RX5 ΛC G 5 106) (hr : hb_ret Γ = (some .int)) (k : Nat) (hk : hb_is ΛC k 5) (p1 : Int32) (σ : hb_Mem) {x : (Int32 × hb_Mem)} (h : fn_X5_begin k p1 σ = some x) (K : Q = hb_Q Γ ΛC G (some (.int x.1)) x.2) : hb_W Γ ΛC G 3 Q σ [some (.ref (G.2.2.2 k)), some (.int p1), none] [] 0 := by
  unfold fn_X5_begin at h
  refine ww_iload_n 1 X dX5_begin_0 rfl rfl ?_
  obtain ⟨x1, hx1, h⟩ := hb_bind_of h
  refine ww_callS (rest := []) (st' := [.int x1]) 4 X (ct_X5_isReader (hb_l Γ) G p1 σ hx1) cw_X5_131 rfl ⟨by decide, by decide⟩ (Nat.le_of_ble_eq_true rfl) rfl rfl dX5_begin_1 rfl ?_
  refine ww_if_ne 9 7 X dX5_begin_4 (by decide) rfl h (fun h => ?_) (fun h => ?_)
  · skip
    refine ww_iconst (v := (-1)) 8 X dX5_begin_7 rfl (by decide) ?_
    obtain rfl := Option.some.inj h
    exact ww_ret_i X hr K dX5_begin_8
  · skip
    refine ww_aload_n 10 X dX5_begin_9 rfl rfl ?_
    refine ww_getr (ci := 5) (j := 0) 13 X cf_5 tw_X5_12 (by decide) rfl hk dX5_begin_10 rfl ?_
    refine ww_getiN (ci := 2) (j := 0) 16 X cf_2 tw_X5_54 (by decide) rfl (hc_kr_5_0 hk) dX5_begin_13 rfl ?_
    refine ww_if_ne 22 19 X dX5_begin_16 (by decide) rfl h (fun h => ?_) (fun h => ?_)
    · skip
      refine ww_bipush (v := (-4)) 21 X dX5_begin_19 rfl (by decide) ?_
      obtain rfl := Option.some.inj h
      exact ww_ret_i X hr K dX5_begin_21
    · skip
      refine ww_aload_n 23 X dX5_begin_22 rfl rfl ?_
      obtain ⟨x2, hx2, h⟩ := hb_bind_of h
      refine ww_callV (ci := 5) (rest := []) (st' := []) 26 X (ct_X5_record (hb_l Γ) G k hk σ hx2) cw_X5_58 rfl (by decide) hk rfl ⟨by decide, by decide⟩ (Nat.le_of_ble_eq_true rfl) rfl rfl dX5_begin_23 rfl ?_
      refine ww_aload_n 27 X dX5_begin_26 rfl rfl ?_
      refine ww_getr (ci := 5) (j := 0) 30 X cf_5 tw_X5_12 (by decide) rfl hk dX5_begin_27 rfl ?_
      obtain ⟨x3, hx3, h⟩ := hb_bind_of h
      refine ww_callV (ci := 2) (rest := []) (st' := [.int x3]) 33 X (ct_X2_firstPlace (hb_l Γ) G (hc_rf k 0) (hc_kr_5_0 hk) x2 hx3) cw_X5_134 rfl (by decide) (hc_kr_5_0 hk) rfl ⟨by decide, by decide⟩ (Nat.le_of_ble_eq_true rfl) rfl rfl dX5_begin_30 rfl ?_
      refine ww_istore_n 34 X (L' := [some (.ref (G.2.2.2 k)), some (.int p1), some (.int x3)]) dX5_begin_33 rfl (Nat.le_of_ble_eq_true rfl) rfl rfl ?_
      refine ww_aload_n 35 X dX5_begin_34 rfl rfl ?_
      refine ww_getr (ci := 5) (j := 0) 38 X cf_5 tw_X5_12 (by decide) rfl hk dX5_begin_35 rfl ?_
      refine ww_iload_n 39 X dX5_begin_38 rfl rfl ?_
      refine ww_iload_n 40 X dX5_begin_39 rfl rfl ?_
      refine ww_iconst (v := 0) 41 X dX5_begin_40 rfl (by decide) ?_
      obtain ⟨x4, hx4, h⟩ := hb_bind_of h
      refine ww_callV (ci := 2) (rest := []) (st' := []) 44 X (ct_X2_putReader (hb_l Γ) G (hc_rf k 0) (hc_kr_5_0 hk) p1 x3 0 x2 hx4) cw_X5_138 rfl (by decide) (hc_kr_5_0 hk) rfl ⟨by decide, by decide⟩ (Nat.le_of_ble_eq_true rfl) rfl rfl dX5_begin_41 rfl ?_
      refine ww_iload_n 45 X dX5_begin_44 rfl rfl ?_
      obtain ⟨x5, hx5, h⟩ := hb_bind_of h
      refine ww_callS (rest := []) (st' := [.int x5]) 48 X (ct_X5_flagsAt (hb_l Γ) G x3 x4 hx5) cw_X5_142 rfl ⟨by decide, by decide⟩ (Nat.le_of_ble_eq_true rfl) rfl rfl dX5_begin_45 rfl ?_
      obtain rfl := Option.some.inj h
      exact ww_ret_i X hr K dX5_begin_48
theorem ct_X5_begin (l : Launch) (G : hb_Gam) (k : Nat) (hk : hb_is ΛC k 5) (p1 : Int32) (σ : hb_Mem) {x : (Int32 × hb_Mem)} (h : fn_X5_begin k p1 σ = some x) : hb_C l yX5_begin cX5_begin 3 (some .int) 5 106 ΛC G [.ref (G.2.2.2 k), .int p1] σ (some (.int x.1)) x.2 :=
  hb_C.of [some (.ref (G.2.2.2 k)), some (.int p1), none] (by decide +kernel) (Nat.le_of_ble_eq_true rfl) (by intro v hv; simp only [List.mem_cons, List.not_mem_nil, or_false] at hv; rcases hv with rfl | rfl <;> rfl) rfl (hb_pad [.ref (G.2.2.2 k), .int p1] 1) (fun Γ X hr => wk_X5_begin X hr k hk p1 σ h rfl)
def fn_X5_isChoiceNumber (p0 : Int32) : Option Int32 :=
if p0 < 0 then (
some 0)
else (
if 3 ≤ p0 then (
some 0)
else (
some 1))
set_option maxRecDepth 100000 in
set_option maxHeartbeats 4000000 in
theorem wk_X5_isChoiceNumber {Γ : hb_Ctx} {G : hb_Gam} {Q : State → Prop} (X : hb_X Γ cX5_isChoiceNumber 1 RX5 ΛC G 0 0) (hr : hb_ret Γ = (some .boolean)) (p0 : Int32) (σ : hb_Mem) {x : Int32} (h : fn_X5_isChoiceNumber p0 = some x) (K : Q = hb_Q Γ ΛC G (some (.int x)) σ) : hb_W Γ ΛC G 1 Q σ [some (.int p0)] [] 0 := by
  unfold fn_X5_isChoiceNumber at h
  refine ww_iload_n 1 X dX5_isChoiceNumber_0 rfl rfl ?_
  refine ww_if_lt 13 4 X dX5_isChoiceNumber_1 (by decide) rfl h (fun h => ?_) (fun h => ?_)
  · skip
    refine ww_iconst (v := 0) 14 X dX5_isChoiceNumber_13 rfl (by decide) ?_
    obtain rfl := Option.some.inj h
    exact ww_ret_z X hr (by decide) K dX5_isChoiceNumber_14
  · skip
    refine ww_iload_n 5 X dX5_isChoiceNumber_4 rfl rfl ?_
    refine ww_iconst (v := 3) 6 X dX5_isChoiceNumber_5 rfl (by decide) ?_
    refine ww_icmp_ge 13 9 X dX5_isChoiceNumber_6 (by decide) rfl h (fun h => ?_) (fun h => ?_)
    · skip
      refine ww_iconst (v := 0) 14 X dX5_isChoiceNumber_13 rfl (by decide) ?_
      obtain rfl := Option.some.inj h
      exact ww_ret_z X hr (by decide) K dX5_isChoiceNumber_14
    · skip
      refine ww_iconst (v := 1) 10 X dX5_isChoiceNumber_9 rfl (by decide) ?_
      refine ww_goto 14 X dX5_isChoiceNumber_10 (by decide) ?_
      obtain rfl := Option.some.inj h
      exact ww_ret_z X hr (by decide) K dX5_isChoiceNumber_14
theorem ct_X5_isChoiceNumber (l : Launch) (G : hb_Gam) (p0 : Int32) (σ : hb_Mem) {x : Int32} (h : fn_X5_isChoiceNumber p0 = some x) : hb_C l yX5_isChoiceNumber cX5_isChoiceNumber 1 (some .boolean) 0 0 ΛC G [.int p0] σ (some (.int x)) σ :=
  hb_C.of [some (.int p0)] (by decide +kernel) (Nat.le_of_ble_eq_true rfl) (by intro v hv; simp only [List.mem_cons, List.not_mem_nil, or_false] at hv; subst hv; rfl) rfl (hb_pad [.int p0] 0) (fun Γ X hr => wk_X5_isChoiceNumber X hr p0 σ h rfl)
def fn_X5_choose (k : Nat) (p1 : Int32) (p2 : Int32) (σ : hb_Mem) : Option (Int32 × hb_Mem) :=
(fn_X5_isReader p1).bind fun x1 =>
if x1 = 0 then (
some ((-1), σ))
else (
(fn_X5_isChoiceNumber p2).bind fun x2 =>
if x2 = 0 then (
some ((-2), σ))
else (
(fn_X2_reasonAgainst (hc_rf k 0) p1 p2 σ).bind fun x3 =>
if x3 = 0 then (
(fn_X5_record k σ).bind fun x4 =>
(fn_X1_at (hc_rf (hc_rf k 0) 8) p1 x4).bind fun x5 =>
(fn_X2_placeBehind (hc_rf k 0) x5 p2 x4).bind fun x6 =>
(fn_X1_at (hc_rf (hc_rf k 0) 9) p1 x4).bind fun x7 =>
(fn_X2_putReader (hc_rf k 0) p1 x6 (x7 + 1) x4).bind fun x8 =>
(fn_X5_pageAt x6).bind fun x9 =>
some (x9, x8))
else (
some ((-4), σ))))
set_option maxRecDepth 100000 in
set_option maxHeartbeats 4000000 in
theorem wk_X5_choose {Γ : hb_Ctx} {G : hb_Gam} {Q : State → Prop} (X : hb_X Γ cX5_choose 4 RX5 ΛC G 5 106) (hr : hb_ret Γ = (some .int)) (k : Nat) (hk : hb_is ΛC k 5) (p1 : Int32) (p2 : Int32) (σ : hb_Mem) {x : (Int32 × hb_Mem)} (h : fn_X5_choose k p1 p2 σ = some x) (K : Q = hb_Q Γ ΛC G (some (.int x.1)) x.2) : hb_W Γ ΛC G 4 Q σ [some (.ref (G.2.2.2 k)), some (.int p1), some (.int p2), none] [] 0 := by
  unfold fn_X5_choose at h
  refine ww_iload_n 1 X dX5_choose_0 rfl rfl ?_
  obtain ⟨x1, hx1, h⟩ := hb_bind_of h
  refine ww_callS (rest := []) (st' := [.int x1]) 4 X (ct_X5_isReader (hb_l Γ) G p1 σ hx1) cw_X5_131 rfl ⟨by decide, by decide⟩ (Nat.le_of_ble_eq_true rfl) rfl rfl dX5_choose_1 rfl ?_
  refine ww_if_ne 9 7 X dX5_choose_4 (by decide) rfl h (fun h => ?_) (fun h => ?_)
  · skip
    refine ww_iconst (v := (-1)) 8 X dX5_choose_7 rfl (by decide) ?_
    obtain rfl := Option.some.inj h
    exact ww_ret_i X hr K dX5_choose_8
  · skip
    refine ww_iload_n 10 X dX5_choose_9 rfl rfl ?_
    obtain ⟨x2, hx2, h⟩ := hb_bind_of h
    refine ww_callS (rest := []) (st' := [.int x2]) 13 X (ct_X5_isChoiceNumber (hb_l Γ) G p2 σ hx2) cw_X5_145 rfl ⟨by decide, by decide⟩ (Nat.le_of_ble_eq_true rfl) rfl rfl dX5_choose_10 rfl ?_
    refine ww_if_ne 19 16 X dX5_choose_13 (by decide) rfl h (fun h => ?_) (fun h => ?_)
    · skip
      refine ww_bipush (v := (-2)) 18 X dX5_choose_16 rfl (by decide) ?_
      obtain rfl := Option.some.inj h
      exact ww_ret_i X hr K dX5_choose_18
    · skip
      refine ww_aload_n 20 X dX5_choose_19 rfl rfl ?_
      refine ww_getr (ci := 5) (j := 0) 23 X cf_5 tw_X5_12 (by decide) rfl hk dX5_choose_20 rfl ?_
      refine ww_iload_n 24 X dX5_choose_23 rfl rfl ?_
      refine ww_iload_n 25 X dX5_choose_24 rfl rfl ?_
      obtain ⟨x3, hx3, h⟩ := hb_bind_of h
      refine ww_callV (ci := 2) (rest := []) (st' := [.int x3]) 28 X (ct_X2_reasonAgainst (hb_l Γ) G (hc_rf k 0) (hc_kr_5_0 hk) p1 p2 σ hx3) cw_X5_148 rfl (by decide) (hc_kr_5_0 hk) rfl ⟨by decide, by decide⟩ (Nat.le_of_ble_eq_true rfl) rfl rfl dX5_choose_25 rfl ?_
      refine ww_if_eq 34 31 X dX5_choose_28 (by decide) rfl h (fun h => ?_) (fun h => ?_)
      · skip
        refine ww_aload_n 35 X dX5_choose_34 rfl rfl ?_
        obtain ⟨x4, hx4, h⟩ := hb_bind_of h
        refine ww_callV (ci := 5) (rest := []) (st' := []) 38 X (ct_X5_record (hb_l Γ) G k hk σ hx4) cw_X5_58 rfl (by decide) hk rfl ⟨by decide, by decide⟩ (Nat.le_of_ble_eq_true rfl) rfl rfl dX5_choose_35 rfl ?_
        refine ww_aload_n 39 X dX5_choose_38 rfl rfl ?_
        refine ww_getr (ci := 5) (j := 0) 42 X cf_5 tw_X5_12 (by decide) rfl hk dX5_choose_39 rfl ?_
        refine ww_aload_n 43 X dX5_choose_42 rfl rfl ?_
        refine ww_getr (ci := 5) (j := 0) 46 X cf_5 tw_X5_12 (by decide) rfl hk dX5_choose_43 rfl ?_
        refine ww_getrN (ci := 2) (j := 8) 49 X cf_2 tw_X5_151 (by decide) rfl (hc_kr_5_0 hk) dX5_choose_46 rfl ?_
        refine ww_iload_n 50 X dX5_choose_49 rfl rfl ?_
        obtain ⟨x5, hx5, h⟩ := hb_bind_of h
        refine ww_callV (ci := 1) (rest := [.ref (G.2.2.2 (hc_rf k 0))]) (st' := [.int x5, .ref (G.2.2.2 (hc_rf k 0))]) 53 X (ct_X1_at (hb_l Γ) G (hc_rf (hc_rf k 0) 8) (hc_kr_2_8 (hc_kr_5_0 hk)) p1 x4 hx5) cw_X5_72 rfl (by decide) (hc_kr_2_8 (hc_kr_5_0 hk)) rfl ⟨by decide, by decide⟩ (Nat.le_of_ble_eq_true rfl) rfl rfl dX5_choose_50 rfl ?_
        refine ww_iload_n 54 X dX5_choose_53 rfl rfl ?_
        obtain ⟨x6, hx6, h⟩ := hb_bind_of h
        refine ww_callV (ci := 2) (rest := []) (st' := [.int x6]) 57 X (ct_X2_placeBehind (hb_l Γ) G (hc_rf k 0) (hc_kr_5_0 hk) x5 p2 x4 hx6) cw_X5_154 rfl (by decide) (hc_kr_5_0 hk) rfl ⟨by decide, by decide⟩ (Nat.le_of_ble_eq_true rfl) rfl rfl dX5_choose_54 rfl ?_
        refine ww_istore_n 58 X (L' := [some (.ref (G.2.2.2 k)), some (.int p1), some (.int p2), some (.int x6)]) dX5_choose_57 rfl (Nat.le_of_ble_eq_true rfl) rfl rfl ?_
        refine ww_aload_n 59 X dX5_choose_58 rfl rfl ?_
        refine ww_getr (ci := 5) (j := 0) 62 X cf_5 tw_X5_12 (by decide) rfl hk dX5_choose_59 rfl ?_
        refine ww_iload_n 63 X dX5_choose_62 rfl rfl ?_
        refine ww_iload_n 64 X dX5_choose_63 rfl rfl ?_
        refine ww_aload_n 65 X dX5_choose_64 rfl rfl ?_
        refine ww_getr (ci := 5) (j := 0) 68 X cf_5 tw_X5_12 (by decide) rfl hk dX5_choose_65 rfl ?_
        refine ww_getrN (ci := 2) (j := 9) 71 X cf_2 tw_X5_157 (by decide) rfl (hc_kr_5_0 hk) dX5_choose_68 rfl ?_
        refine ww_iload_n 72 X dX5_choose_71 rfl rfl ?_
        obtain ⟨x7, hx7, h⟩ := hb_bind_of h
        refine ww_callV (ci := 1) (rest := [.int x6, .int p1, .ref (G.2.2.2 (hc_rf k 0))]) (st' := [.int x7, .int x6, .int p1, .ref (G.2.2.2 (hc_rf k 0))]) 75 X (ct_X1_at (hb_l Γ) G (hc_rf (hc_rf k 0) 9) (hc_kr_2_9 (hc_kr_5_0 hk)) p1 x4 hx7) cw_X5_72 rfl (by decide) (hc_kr_2_9 (hc_kr_5_0 hk)) rfl ⟨by decide, by decide⟩ (Nat.le_of_ble_eq_true rfl) rfl rfl dX5_choose_72 rfl ?_
        refine ww_iconst (v := 1) 76 X dX5_choose_75 rfl (by decide) ?_
        refine ww_iadd 77 X dX5_choose_76 rfl ?_
        obtain ⟨x8, hx8, h⟩ := hb_bind_of h
        refine ww_callV (ci := 2) (rest := []) (st' := []) 80 X (ct_X2_putReader (hb_l Γ) G (hc_rf k 0) (hc_kr_5_0 hk) p1 x6 (x7 + 1) x4 hx8) cw_X5_138 rfl (by decide) (hc_kr_5_0 hk) rfl ⟨by decide, by decide⟩ (Nat.le_of_ble_eq_true rfl) rfl rfl dX5_choose_77 rfl ?_
        refine ww_iload_n 81 X dX5_choose_80 rfl rfl ?_
        obtain ⟨x9, hx9, h⟩ := hb_bind_of h
        refine ww_callS (rest := []) (st' := [.int x9]) 84 X (ct_X5_pageAt (hb_l Γ) G x6 x8 hx9) cw_X5_160 rfl ⟨by decide, by decide⟩ (Nat.le_of_ble_eq_true rfl) rfl rfl dX5_choose_81 rfl ?_
        obtain rfl := Option.some.inj h
        exact ww_ret_i X hr K dX5_choose_84
      · skip
        refine ww_bipush (v := (-4)) 33 X dX5_choose_31 rfl (by decide) ?_
        obtain rfl := Option.some.inj h
        exact ww_ret_i X hr K dX5_choose_33
theorem ct_X5_choose (l : Launch) (G : hb_Gam) (k : Nat) (hk : hb_is ΛC k 5) (p1 : Int32) (p2 : Int32) (σ : hb_Mem) {x : (Int32 × hb_Mem)} (h : fn_X5_choose k p1 p2 σ = some x) : hb_C l yX5_choose cX5_choose 4 (some .int) 5 106 ΛC G [.ref (G.2.2.2 k), .int p1, .int p2] σ (some (.int x.1)) x.2 :=
  hb_C.of [some (.ref (G.2.2.2 k)), some (.int p1), some (.int p2), none] (by decide +kernel) (Nat.le_of_ble_eq_true rfl) (by intro v hv; simp only [List.mem_cons, List.not_mem_nil, or_false] at hv; rcases hv with rfl | rfl | rfl <;> rfl) rfl (hb_pad [.ref (G.2.2.2 k), .int p1, .int p2] 1) (fun Γ X hr => wk_X5_choose X hr k hk p1 p2 σ h rfl)
def fn_X5_mark (k : Nat) (p1 : Int32) (σ : hb_Mem) : Option (Int32 × hb_Mem) :=
(fn_X5_isReader p1).bind fun x1 =>
if x1 = 0 then (
some ((-1), σ))
else (
(fn_X1_at (hc_rf (hc_rf k 0) 8) p1 σ).bind fun x2 =>
if x2 = (-1) then (
some ((-4), σ))
else (
if (σ (hc_rf k 0) 10) = x2 then (
some ((-5), σ))
else (
(fn_X5_record k σ).bind fun x3 =>
hb_nm (hb_up x3 (hc_rf k 0) 10 x2) fun σ4 =>
(fn_X5_pageAt x2).bind fun x5 =>
some (x5, σ4))))
set_option maxRecDepth 100000 in
set_option maxHeartbeats 4000000 in
theorem wk_X5_mark {Γ : hb_Ctx} {G : hb_Gam} {Q : State → Prop} (X : hb_X Γ cX5_mark 3 RX5 ΛC G 5 106) (hr : hb_ret Γ = (some .int)) (k : Nat) (hk : hb_is ΛC k 5) (p1 : Int32) (σ : hb_Mem) {x : (Int32 × hb_Mem)} (h : fn_X5_mark k p1 σ = some x) (K : Q = hb_Q Γ ΛC G (some (.int x.1)) x.2) : hb_W Γ ΛC G 3 Q σ [some (.ref (G.2.2.2 k)), some (.int p1), none] [] 0 := by
  unfold fn_X5_mark at h
  refine ww_iload_n 1 X dX5_mark_0 rfl rfl ?_
  obtain ⟨x1, hx1, h⟩ := hb_bind_of h
  refine ww_callS (rest := []) (st' := [.int x1]) 4 X (ct_X5_isReader (hb_l Γ) G p1 σ hx1) cw_X5_131 rfl ⟨by decide, by decide⟩ (Nat.le_of_ble_eq_true rfl) rfl rfl dX5_mark_1 rfl ?_
  refine ww_if_ne 9 7 X dX5_mark_4 (by decide) rfl h (fun h => ?_) (fun h => ?_)
  · skip
    refine ww_iconst (v := (-1)) 8 X dX5_mark_7 rfl (by decide) ?_
    obtain rfl := Option.some.inj h
    exact ww_ret_i X hr K dX5_mark_8
  · skip
    refine ww_aload_n 10 X dX5_mark_9 rfl rfl ?_
    refine ww_getr (ci := 5) (j := 0) 13 X cf_5 tw_X5_12 (by decide) rfl hk dX5_mark_10 rfl ?_
    refine ww_getrN (ci := 2) (j := 8) 16 X cf_2 tw_X5_151 (by decide) rfl (hc_kr_5_0 hk) dX5_mark_13 rfl ?_
    refine ww_iload_n 17 X dX5_mark_16 rfl rfl ?_
    obtain ⟨x2, hx2, h⟩ := hb_bind_of h
    refine ww_callV (ci := 1) (rest := []) (st' := [.int x2]) 20 X (ct_X1_at (hb_l Γ) G (hc_rf (hc_rf k 0) 8) (hc_kr_2_8 (hc_kr_5_0 hk)) p1 σ hx2) cw_X5_72 rfl (by decide) (hc_kr_2_8 (hc_kr_5_0 hk)) rfl ⟨by decide, by decide⟩ (Nat.le_of_ble_eq_true rfl) rfl rfl dX5_mark_17 rfl ?_
    refine ww_istore_n 21 X (L' := [some (.ref (G.2.2.2 k)), some (.int p1), some (.int x2)]) dX5_mark_20 rfl (Nat.le_of_ble_eq_true rfl) rfl rfl ?_
    refine ww_iload_n 22 X dX5_mark_21 rfl rfl ?_
    refine ww_iconst (v := (-1)) 23 X dX5_mark_22 rfl (by decide) ?_
    refine ww_icmp_ne 29 26 X dX5_mark_23 (by decide) rfl h (fun h => ?_) (fun h => ?_)
    · skip
      refine ww_bipush (v := (-4)) 28 X dX5_mark_26 rfl (by decide) ?_
      obtain rfl := Option.some.inj h
      exact ww_ret_i X hr K dX5_mark_28
    · skip
      refine ww_aload_n 30 X dX5_mark_29 rfl rfl ?_
      refine ww_getr (ci := 5) (j := 0) 33 X cf_5 tw_X5_12 (by decide) rfl hk dX5_mark_30 rfl ?_
      refine ww_getiN (ci := 2) (j := 10) 36 X cf_2 tw_X5_163 (by decide) rfl (hc_kr_5_0 hk) dX5_mark_33 rfl ?_
      refine ww_iload_n 37 X dX5_mark_36 rfl rfl ?_
      refine ww_icmp_ne 43 40 X dX5_mark_37 (by decide) rfl h (fun h => ?_) (fun h => ?_)
      · skip
        refine ww_bipush (v := (-5)) 42 X dX5_mark_40 rfl (by decide) ?_
        obtain rfl := Option.some.inj h
        exact ww_ret_i X hr K dX5_mark_42
      · skip
        refine ww_aload_n 44 X dX5_mark_43 rfl rfl ?_
        obtain ⟨x3, hx3, h⟩ := hb_bind_of h
        refine ww_callV (ci := 5) (rest := []) (st' := []) 47 X (ct_X5_record (hb_l Γ) G k hk σ hx3) cw_X5_58 rfl (by decide) hk rfl ⟨by decide, by decide⟩ (Nat.le_of_ble_eq_true rfl) rfl rfl dX5_mark_44 rfl ?_
        refine ww_aload_n 48 X dX5_mark_47 rfl rfl ?_
        refine ww_getr (ci := 5) (j := 0) 51 X cf_5 tw_X5_12 (by decide) rfl hk dX5_mark_48 rfl ?_
        refine ww_iload_n 52 X dX5_mark_51 rfl rfl ?_
        obtain ⟨σ4, eσ4, h⟩ := hb_nm_of h
        refine ww_putN (ci := 2) (j := 10) (ty := .int) 55 X cf_2 cg_2 tw_X5_163 (by decide) rfl rfl rfl rfl rfl (hc_kr_5_0 hk) eσ4.symm dX5_mark_52 rfl ?_
        refine ww_iload_n 56 X dX5_mark_55 rfl rfl ?_
        obtain ⟨x5, hx5, h⟩ := hb_bind_of h
        refine ww_callS (rest := []) (st' := [.int x5]) 59 X (ct_X5_pageAt (hb_l Γ) G x2 σ4 hx5) cw_X5_160 rfl ⟨by decide, by decide⟩ (Nat.le_of_ble_eq_true rfl) rfl rfl dX5_mark_56 rfl ?_
        obtain rfl := Option.some.inj h
        exact ww_ret_i X hr K dX5_mark_59
theorem ct_X5_mark (l : Launch) (G : hb_Gam) (k : Nat) (hk : hb_is ΛC k 5) (p1 : Int32) (σ : hb_Mem) {x : (Int32 × hb_Mem)} (h : fn_X5_mark k p1 σ = some x) : hb_C l yX5_mark cX5_mark 3 (some .int) 5 106 ΛC G [.ref (G.2.2.2 k), .int p1] σ (some (.int x.1)) x.2 :=
  hb_C.of [some (.ref (G.2.2.2 k)), some (.int p1), none] (by decide +kernel) (Nat.le_of_ble_eq_true rfl) (by intro v hv; simp only [List.mem_cons, List.not_mem_nil, or_false] at hv; rcases hv with rfl | rfl <;> rfl) rfl (hb_pad [.ref (G.2.2.2 k), .int p1] 1) (fun Γ X hr => wk_X5_mark X hr k hk p1 σ h rfl)
def fn_X5_goToMark (k : Nat) (p1 : Int32) (σ : hb_Mem) : Option (Int32 × hb_Mem) :=
(fn_X5_isReader p1).bind fun x1 =>
if x1 = 0 then (
some ((-1), σ))
else (
if (σ (hc_rf k 0) 10) = (-1) then (
some ((-4), σ))
else (
(fn_X1_at (hc_rf (hc_rf k 0) 8) p1 σ).bind fun x2 =>
if x2 = (σ (hc_rf k 0) 10) then (
some ((-5), σ))
else (
(fn_X5_record k σ).bind fun x3 =>
(fn_X2_putReader (hc_rf k 0) p1 (x3 (hc_rf k 0) 10) 0 x3).bind fun x4 =>
(fn_X5_pageAt (x4 (hc_rf k 0) 10)).bind fun x5 =>
some (x5, x4))))
set_option maxRecDepth 100000 in
set_option maxHeartbeats 4000000 in
theorem wk_X5_goToMark {Γ : hb_Ctx} {G : hb_Gam} {Q : State → Prop} (X : hb_X Γ cX5_goToMark 2 RX5 ΛC G 5 106) (hr : hb_ret Γ = (some .int)) (k : Nat) (hk : hb_is ΛC k 5) (p1 : Int32) (σ : hb_Mem) {x : (Int32 × hb_Mem)} (h : fn_X5_goToMark k p1 σ = some x) (K : Q = hb_Q Γ ΛC G (some (.int x.1)) x.2) : hb_W Γ ΛC G 2 Q σ [some (.ref (G.2.2.2 k)), some (.int p1)] [] 0 := by
  unfold fn_X5_goToMark at h
  refine ww_iload_n 1 X dX5_goToMark_0 rfl rfl ?_
  obtain ⟨x1, hx1, h⟩ := hb_bind_of h
  refine ww_callS (rest := []) (st' := [.int x1]) 4 X (ct_X5_isReader (hb_l Γ) G p1 σ hx1) cw_X5_131 rfl ⟨by decide, by decide⟩ (Nat.le_of_ble_eq_true rfl) rfl rfl dX5_goToMark_1 rfl ?_
  refine ww_if_ne 9 7 X dX5_goToMark_4 (by decide) rfl h (fun h => ?_) (fun h => ?_)
  · skip
    refine ww_iconst (v := (-1)) 8 X dX5_goToMark_7 rfl (by decide) ?_
    obtain rfl := Option.some.inj h
    exact ww_ret_i X hr K dX5_goToMark_8
  · skip
    refine ww_aload_n 10 X dX5_goToMark_9 rfl rfl ?_
    refine ww_getr (ci := 5) (j := 0) 13 X cf_5 tw_X5_12 (by decide) rfl hk dX5_goToMark_10 rfl ?_
    refine ww_getiN (ci := 2) (j := 10) 16 X cf_2 tw_X5_163 (by decide) rfl (hc_kr_5_0 hk) dX5_goToMark_13 rfl ?_
    refine ww_iconst (v := (-1)) 17 X dX5_goToMark_16 rfl (by decide) ?_
    refine ww_icmp_ne 23 20 X dX5_goToMark_17 (by decide) rfl h (fun h => ?_) (fun h => ?_)
    · skip
      refine ww_bipush (v := (-4)) 22 X dX5_goToMark_20 rfl (by decide) ?_
      obtain rfl := Option.some.inj h
      exact ww_ret_i X hr K dX5_goToMark_22
    · skip
      refine ww_aload_n 24 X dX5_goToMark_23 rfl rfl ?_
      refine ww_getr (ci := 5) (j := 0) 27 X cf_5 tw_X5_12 (by decide) rfl hk dX5_goToMark_24 rfl ?_
      refine ww_getrN (ci := 2) (j := 8) 30 X cf_2 tw_X5_151 (by decide) rfl (hc_kr_5_0 hk) dX5_goToMark_27 rfl ?_
      refine ww_iload_n 31 X dX5_goToMark_30 rfl rfl ?_
      obtain ⟨x2, hx2, h⟩ := hb_bind_of h
      refine ww_callV (ci := 1) (rest := []) (st' := [.int x2]) 34 X (ct_X1_at (hb_l Γ) G (hc_rf (hc_rf k 0) 8) (hc_kr_2_8 (hc_kr_5_0 hk)) p1 σ hx2) cw_X5_72 rfl (by decide) (hc_kr_2_8 (hc_kr_5_0 hk)) rfl ⟨by decide, by decide⟩ (Nat.le_of_ble_eq_true rfl) rfl rfl dX5_goToMark_31 rfl ?_
      refine ww_aload_n 35 X dX5_goToMark_34 rfl rfl ?_
      refine ww_getr (ci := 5) (j := 0) 38 X cf_5 tw_X5_12 (by decide) rfl hk dX5_goToMark_35 rfl ?_
      refine ww_getiN (ci := 2) (j := 10) 41 X cf_2 tw_X5_163 (by decide) rfl (hc_kr_5_0 hk) dX5_goToMark_38 rfl ?_
      refine ww_icmp_ne 47 44 X dX5_goToMark_41 (by decide) rfl h (fun h => ?_) (fun h => ?_)
      · skip
        refine ww_bipush (v := (-5)) 46 X dX5_goToMark_44 rfl (by decide) ?_
        obtain rfl := Option.some.inj h
        exact ww_ret_i X hr K dX5_goToMark_46
      · skip
        refine ww_aload_n 48 X dX5_goToMark_47 rfl rfl ?_
        obtain ⟨x3, hx3, h⟩ := hb_bind_of h
        refine ww_callV (ci := 5) (rest := []) (st' := []) 51 X (ct_X5_record (hb_l Γ) G k hk σ hx3) cw_X5_58 rfl (by decide) hk rfl ⟨by decide, by decide⟩ (Nat.le_of_ble_eq_true rfl) rfl rfl dX5_goToMark_48 rfl ?_
        refine ww_aload_n 52 X dX5_goToMark_51 rfl rfl ?_
        refine ww_getr (ci := 5) (j := 0) 55 X cf_5 tw_X5_12 (by decide) rfl hk dX5_goToMark_52 rfl ?_
        refine ww_iload_n 56 X dX5_goToMark_55 rfl rfl ?_
        refine ww_aload_n 57 X dX5_goToMark_56 rfl rfl ?_
        refine ww_getr (ci := 5) (j := 0) 60 X cf_5 tw_X5_12 (by decide) rfl hk dX5_goToMark_57 rfl ?_
        refine ww_getiN (ci := 2) (j := 10) 63 X cf_2 tw_X5_163 (by decide) rfl (hc_kr_5_0 hk) dX5_goToMark_60 rfl ?_
        refine ww_iconst (v := 0) 64 X dX5_goToMark_63 rfl (by decide) ?_
        obtain ⟨x4, hx4, h⟩ := hb_bind_of h
        refine ww_callV (ci := 2) (rest := []) (st' := []) 67 X (ct_X2_putReader (hb_l Γ) G (hc_rf k 0) (hc_kr_5_0 hk) p1 (x3 (hc_rf k 0) 10) 0 x3 hx4) cw_X5_138 rfl (by decide) (hc_kr_5_0 hk) rfl ⟨by decide, by decide⟩ (Nat.le_of_ble_eq_true rfl) rfl rfl dX5_goToMark_64 rfl ?_
        refine ww_aload_n 68 X dX5_goToMark_67 rfl rfl ?_
        refine ww_getr (ci := 5) (j := 0) 71 X cf_5 tw_X5_12 (by decide) rfl hk dX5_goToMark_68 rfl ?_
        refine ww_getiN (ci := 2) (j := 10) 74 X cf_2 tw_X5_163 (by decide) rfl (hc_kr_5_0 hk) dX5_goToMark_71 rfl ?_
        obtain ⟨x5, hx5, h⟩ := hb_bind_of h
        refine ww_callS (rest := []) (st' := [.int x5]) 77 X (ct_X5_pageAt (hb_l Γ) G (x4 (hc_rf k 0) 10) x4 hx5) cw_X5_160 rfl ⟨by decide, by decide⟩ (Nat.le_of_ble_eq_true rfl) rfl rfl dX5_goToMark_74 rfl ?_
        obtain rfl := Option.some.inj h
        exact ww_ret_i X hr K dX5_goToMark_77
theorem ct_X5_goToMark (l : Launch) (G : hb_Gam) (k : Nat) (hk : hb_is ΛC k 5) (p1 : Int32) (σ : hb_Mem) {x : (Int32 × hb_Mem)} (h : fn_X5_goToMark k p1 σ = some x) : hb_C l yX5_goToMark cX5_goToMark 2 (some .int) 5 106 ΛC G [.ref (G.2.2.2 k), .int p1] σ (some (.int x.1)) x.2 :=
  hb_C.of [some (.ref (G.2.2.2 k)), some (.int p1)] (by decide +kernel) (Nat.le_of_ble_eq_true rfl) (by intro v hv; simp only [List.mem_cons, List.not_mem_nil, or_false] at hv; rcases hv with rfl | rfl <;> rfl) rfl (hb_pad [.ref (G.2.2.2 k), .int p1] 0) (fun Γ X hr => wk_X5_goToMark X hr k hk p1 σ h rfl)
def fn_X5_type (k : Nat) (p1 : Int32) (σ : hb_Mem) : Option (Int32 × hb_Mem) :=
if (σ (hc_rf k 5) 1) < 60 then (
(fn_X4_append (hc_rf k 5) p1 σ).bind fun x1 =>
some (x1.1, x1.2))
else (
some ((-3), σ))
set_option maxRecDepth 100000 in
set_option maxHeartbeats 4000000 in
theorem wk_X5_type {Γ : hb_Ctx} {G : hb_Gam} {Q : State → Prop} (X : hb_X Γ cX5_type 2 RX5 ΛC G 2 43) (hr : hb_ret Γ = (some .int)) (k : Nat) (hk : hb_is ΛC k 5) (p1 : Int32) (σ : hb_Mem) {x : (Int32 × hb_Mem)} (h : fn_X5_type k p1 σ = some x) (K : Q = hb_Q Γ ΛC G (some (.int x.1)) x.2) : hb_W Γ ΛC G 2 Q σ [some (.ref (G.2.2.2 k)), some (.int p1)] [] 0 := by
  unfold fn_X5_type at h
  refine ww_aload_n 1 X dX5_type_0 rfl rfl ?_
  refine ww_getr (ci := 5) (j := 5) 4 X cf_5 tw_X5_36 (by decide) rfl hk dX5_type_1 rfl ?_
  refine ww_getiN (ci := 4) (j := 1) 7 X cf_4 tw_X5_166 (by decide) rfl (hc_kr_5_5 hk) dX5_type_4 rfl ?_
  refine ww_bipush (v := 60) 9 X dX5_type_7 rfl (by decide) ?_
  refine ww_icmp_lt 15 12 X dX5_type_9 (by decide) rfl h (fun h => ?_) (fun h => ?_)
  · skip
    refine ww_aload_n 16 X dX5_type_15 rfl rfl ?_
    refine ww_getr (ci := 5) (j := 5) 19 X cf_5 tw_X5_36 (by decide) rfl hk dX5_type_16 rfl ?_
    refine ww_iload_n 20 X dX5_type_19 rfl rfl ?_
    obtain ⟨x1, hx1, h⟩ := hb_bind_of h
    refine ww_callV (ci := 4) (rest := []) (st' := [.int x1.1]) 23 X (ct_X4_append (hb_l Γ) G (hc_rf k 5) (hc_kr_5_5 hk) p1 σ hx1) cw_X5_169 rfl (by decide) (hc_kr_5_5 hk) rfl ⟨by decide, by decide⟩ (Nat.le_of_ble_eq_true rfl) rfl rfl dX5_type_20 rfl ?_
    obtain rfl := Option.some.inj h
    exact ww_ret_i X hr K dX5_type_23
  · skip
    refine ww_bipush (v := (-3)) 14 X dX5_type_12 rfl (by decide) ?_
    obtain rfl := Option.some.inj h
    exact ww_ret_i X hr K dX5_type_14
theorem ct_X5_type (l : Launch) (G : hb_Gam) (k : Nat) (hk : hb_is ΛC k 5) (p1 : Int32) (σ : hb_Mem) {x : (Int32 × hb_Mem)} (h : fn_X5_type k p1 σ = some x) : hb_C l yX5_type cX5_type 2 (some .int) 2 43 ΛC G [.ref (G.2.2.2 k), .int p1] σ (some (.int x.1)) x.2 :=
  hb_C.of [some (.ref (G.2.2.2 k)), some (.int p1)] (by decide +kernel) (Nat.le_of_ble_eq_true rfl) (by intro v hv; simp only [List.mem_cons, List.not_mem_nil, or_false] at hv; rcases hv with rfl | rfl <;> rfl) rfl (hb_pad [.ref (G.2.2.2 k), .int p1] 0) (fun Γ X hr => wk_X5_type X hr k hk p1 σ h rfl)
def fn_X5_clearText (k : Nat) (σ : hb_Mem) : Option (Int32 × hb_Mem) :=
hb_nm (σ (hc_rf k 5) 1) fun v1 =>
hb_nm (hb_up σ (hc_rf k 5) 1 0) fun σ2 =>
some (v1, σ2)
set_option maxRecDepth 100000 in
set_option maxHeartbeats 4000000 in
theorem wk_X5_clearText {Γ : hb_Ctx} {G : hb_Gam} {Q : State → Prop} (X : hb_X Γ cX5_clearText 2 RX5 ΛC G 0 0) (hr : hb_ret Γ = (some .int)) (k : Nat) (hk : hb_is ΛC k 5) (σ : hb_Mem) {x : (Int32 × hb_Mem)} (h : fn_X5_clearText k σ = some x) (K : Q = hb_Q Γ ΛC G (some (.int x.1)) x.2) : hb_W Γ ΛC G 2 Q σ [some (.ref (G.2.2.2 k)), none] [] 0 := by
  unfold fn_X5_clearText at h
  refine ww_aload_n 1 X dX5_clearText_0 rfl rfl ?_
  refine ww_getr (ci := 5) (j := 5) 4 X cf_5 tw_X5_36 (by decide) rfl hk dX5_clearText_1 rfl ?_
  refine ww_getiN (ci := 4) (j := 1) 7 X cf_4 tw_X5_166 (by decide) rfl (hc_kr_5_5 hk) dX5_clearText_4 rfl ?_
  obtain ⟨v1, ev1, h⟩ := hb_nm_of h
  rw [← ev1]
  refine ww_istore_n 8 X (L' := [some (.ref (G.2.2.2 k)), some (.int v1)]) dX5_clearText_7 rfl (Nat.le_of_ble_eq_true rfl) rfl rfl ?_
  refine ww_aload_n 9 X dX5_clearText_8 rfl rfl ?_
  refine ww_getr (ci := 5) (j := 5) 12 X cf_5 tw_X5_36 (by decide) rfl hk dX5_clearText_9 rfl ?_
  refine ww_iconst (v := 0) 13 X dX5_clearText_12 rfl (by decide) ?_
  obtain ⟨σ2, eσ2, h⟩ := hb_nm_of h
  refine ww_putN (ci := 4) (j := 1) (ty := .int) 16 X cf_4 cg_4 tw_X5_166 (by decide) rfl rfl rfl rfl rfl (hc_kr_5_5 hk) eσ2.symm dX5_clearText_13 rfl ?_
  refine ww_iload_n 17 X dX5_clearText_16 rfl rfl ?_
  obtain rfl := Option.some.inj h
  exact ww_ret_i X hr K dX5_clearText_17
theorem ct_X5_clearText (l : Launch) (G : hb_Gam) (k : Nat) (hk : hb_is ΛC k 5) (σ : hb_Mem) {x : (Int32 × hb_Mem)} (h : fn_X5_clearText k σ = some x) : hb_C l yX5_clearText cX5_clearText 2 (some .int) 0 0 ΛC G [.ref (G.2.2.2 k)] σ (some (.int x.1)) x.2 :=
  hb_C.of [some (.ref (G.2.2.2 k)), none] (by decide +kernel) (Nat.le_of_ble_eq_true rfl) (by intro v hv; simp only [List.mem_cons, List.not_mem_nil, or_false] at hv; subst hv; rfl) rfl (hb_pad [.ref (G.2.2.2 k)] 1) (fun Γ X hr => wk_X5_clearText X hr k hk σ h rfl)
def fn_X5_undo (k : Nat) (σ : hb_Mem) : Option (Int32 × hb_Mem) :=
if (σ (hc_rf k 4) 2) = 0 then (
some ((-5), σ))
else (
(fn_X0_pop (hc_rf k 4) (hc_rf k 0) σ).bind fun x1 =>
hb_nm (hb_up x1 (hc_rf k 6) 0 0) fun σ2 =>
some (σ2 (hc_rf k 4) 2, σ2))
set_option maxRecDepth 100000 in
set_option maxHeartbeats 4000000 in
theorem wk_X5_undo {Γ : hb_Ctx} {G : hb_Gam} {Q : State → Prop} (X : hb_X Γ cX5_undo 1 RX5 ΛC G 4 86) (hr : hb_ret Γ = (some .int)) (k : Nat) (hk : hb_is ΛC k 5) (σ : hb_Mem) {x : (Int32 × hb_Mem)} (h : fn_X5_undo k σ = some x) (K : Q = hb_Q Γ ΛC G (some (.int x.1)) x.2) : hb_W Γ ΛC G 1 Q σ [some (.ref (G.2.2.2 k))] [] 0 := by
  unfold fn_X5_undo at h
  refine ww_aload_n 1 X dX5_undo_0 rfl rfl ?_
  refine ww_getr (ci := 5) (j := 4) 4 X cf_5 tw_X5_29 (by decide) rfl hk dX5_undo_1 rfl ?_
  refine ww_getiN (ci := 0) (j := 2) 7 X cf_0 tw_X5_173 (by decide) rfl (hc_kr_5_4 hk) dX5_undo_4 rfl ?_
  refine ww_if_ne 13 10 X dX5_undo_7 (by decide) rfl h (fun h => ?_) (fun h => ?_)
  · skip
    refine ww_bipush (v := (-5)) 12 X dX5_undo_10 rfl (by decide) ?_
    obtain rfl := Option.some.inj h
    exact ww_ret_i X hr K dX5_undo_12
  · skip
    refine ww_aload_n 14 X dX5_undo_13 rfl rfl ?_
    refine ww_getr (ci := 5) (j := 4) 17 X cf_5 tw_X5_29 (by decide) rfl hk dX5_undo_14 rfl ?_
    refine ww_aload_n 18 X dX5_undo_17 rfl rfl ?_
    refine ww_getr (ci := 5) (j := 0) 21 X cf_5 tw_X5_12 (by decide) rfl hk dX5_undo_18 rfl ?_
    obtain ⟨x1, hx1, h⟩ := hb_bind_of h
    refine ww_callV (ci := 0) (rest := []) (st' := []) 24 X (ct_X0_pop (hb_l Γ) G (hc_rf k 4) (hc_kr_5_4 hk) (hc_rf k 0) (hc_kr_5_0 hk) σ hx1) cw_X5_176 rfl (by decide) (hc_kr_5_4 hk) rfl ⟨by decide, by decide⟩ (Nat.le_of_ble_eq_true rfl) rfl rfl dX5_undo_21 rfl ?_
    refine ww_aload_n 25 X dX5_undo_24 rfl rfl ?_
    refine ww_getr (ci := 5) (j := 6) 28 X cf_5 tw_X5_43 (by decide) rfl hk dX5_undo_25 rfl ?_
    refine ww_iconst (v := 0) 29 X dX5_undo_28 rfl (by decide) ?_
    obtain ⟨σ2, eσ2, h⟩ := hb_nm_of h
    refine ww_putN (ci := 3) (j := 0) (ty := .boolean) 32 X cf_3 cg_3 tw_X5_179 (by decide) rfl rfl rfl rfl rfl (hc_kr_5_6 hk) eσ2.symm dX5_undo_29 rfl ?_
    refine ww_aload_n 33 X dX5_undo_32 rfl rfl ?_
    refine ww_getr (ci := 5) (j := 4) 36 X cf_5 tw_X5_29 (by decide) rfl hk dX5_undo_33 rfl ?_
    refine ww_getiN (ci := 0) (j := 2) 39 X cf_0 tw_X5_173 (by decide) rfl (hc_kr_5_4 hk) dX5_undo_36 rfl ?_
    obtain rfl := Option.some.inj h
    exact ww_ret_i X hr K dX5_undo_39
theorem ct_X5_undo (l : Launch) (G : hb_Gam) (k : Nat) (hk : hb_is ΛC k 5) (σ : hb_Mem) {x : (Int32 × hb_Mem)} (h : fn_X5_undo k σ = some x) : hb_C l yX5_undo cX5_undo 1 (some .int) 4 86 ΛC G [.ref (G.2.2.2 k)] σ (some (.int x.1)) x.2 :=
  hb_C.of [some (.ref (G.2.2.2 k))] (by decide +kernel) (Nat.le_of_ble_eq_true rfl) (by intro v hv; simp only [List.mem_cons, List.not_mem_nil, or_false] at hv; subst hv; rfl) rfl (hb_pad [.ref (G.2.2.2 k)] 0) (fun Γ X hr => wk_X5_undo X hr k hk σ h rfl)
def fn_X5_keep (k : Nat) (σ : hb_Mem) : Option (Int32 × hb_Mem) :=
(fn_X2_copyFrom (hc_rf k 2) (hc_rf k 0) σ).bind fun x1 =>
hb_nm (hb_up x1 k 3 1) fun σ2 =>
some (σ2 (hc_rf k 0) 0, σ2)
set_option maxRecDepth 100000 in
set_option maxHeartbeats 4000000 in
theorem wk_X5_keep {Γ : hb_Ctx} {G : hb_Gam} {Q : State → Prop} (X : hb_X Γ cX5_keep 1 RX5 ΛC G 3 64) (hr : hb_ret Γ = (some .int)) (k : Nat) (hk : hb_is ΛC k 5) (σ : hb_Mem) {x : (Int32 × hb_Mem)} (h : fn_X5_keep k σ = some x) (K : Q = hb_Q Γ ΛC G (some (.int x.1)) x.2) : hb_W Γ ΛC G 1 Q σ [some (.ref (G.2.2.2 k))] [] 0 := by
  unfold fn_X5_keep at h
  refine ww_aload_n 1 X dX5_keep_0 rfl rfl ?_
  refine ww_getr (ci := 5) (j := 2) 4 X cf_5 tw_X5_19 (by decide) rfl hk dX5_keep_1 rfl ?_
  refine ww_aload_n 5 X dX5_keep_4 rfl rfl ?_
  refine ww_getr (ci := 5) (j := 0) 8 X cf_5 tw_X5_12 (by decide) rfl hk dX5_keep_5 rfl ?_
  obtain ⟨x1, hx1, h⟩ := hb_bind_of h
  refine ww_callV (ci := 2) (rest := []) (st' := []) 11 X (ct_X2_copyFrom (hb_l Γ) G (hc_rf k 2) (hc_kr_5_2 hk) (hc_rf k 0) (hc_kr_5_0 hk) σ hx1) cw_X5_98 rfl (by decide) (hc_kr_5_2 hk) rfl ⟨by decide, by decide⟩ (Nat.le_of_ble_eq_true rfl) rfl rfl dX5_keep_8 rfl ?_
  refine ww_aload_n 12 X dX5_keep_11 rfl rfl ?_
  refine ww_iconst (v := 1) 13 X dX5_keep_12 rfl (by decide) ?_
  obtain ⟨σ2, eσ2, h⟩ := hb_nm_of h
  refine ww_put (ci := 5) (j := 3) (ty := .boolean) 16 X cf_5 cg_5 tw_X5_22 (by decide) rfl rfl rfl rfl rfl hk eσ2.symm dX5_keep_13 rfl ?_
  refine ww_aload_n 17 X dX5_keep_16 rfl rfl ?_
  refine ww_getr (ci := 5) (j := 0) 20 X cf_5 tw_X5_12 (by decide) rfl hk dX5_keep_17 rfl ?_
  refine ww_getiN (ci := 2) (j := 0) 23 X cf_2 tw_X5_54 (by decide) rfl (hc_kr_5_0 hk) dX5_keep_20 rfl ?_
  obtain rfl := Option.some.inj h
  exact ww_ret_i X hr K dX5_keep_23
theorem ct_X5_keep (l : Launch) (G : hb_Gam) (k : Nat) (hk : hb_is ΛC k 5) (σ : hb_Mem) {x : (Int32 × hb_Mem)} (h : fn_X5_keep k σ = some x) : hb_C l yX5_keep cX5_keep 1 (some .int) 3 64 ΛC G [.ref (G.2.2.2 k)] σ (some (.int x.1)) x.2 :=
  hb_C.of [some (.ref (G.2.2.2 k))] (by decide +kernel) (Nat.le_of_ble_eq_true rfl) (by intro v hv; simp only [List.mem_cons, List.not_mem_nil, or_false] at hv; subst hv; rfl) rfl (hb_pad [.ref (G.2.2.2 k)] 0) (fun Γ X hr => wk_X5_keep X hr k hk σ h rfl)
def fn_X5_restore (k : Nat) (σ : hb_Mem) : Option (Int32 × hb_Mem) :=
if (σ k 3) = 0 then (
some ((-5), σ))
else (
(fn_X5_record k σ).bind fun x1 =>
(fn_X2_copyFrom (hc_rf k 0) (hc_rf k 2) x1).bind fun x2 =>
some (x2 (hc_rf k 0) 0, x2))
set_option maxRecDepth 100000 in
set_option maxHeartbeats 4000000 in
theorem wk_X5_restore {Γ : hb_Ctx} {G : hb_Gam} {Q : State → Prop} (X : hb_X Γ cX5_restore 1 RX5 ΛC G 5 106) (hr : hb_ret Γ = (some .int)) (k : Nat) (hk : hb_is ΛC k 5) (σ : hb_Mem) {x : (Int32 × hb_Mem)} (h : fn_X5_restore k σ = some x) (K : Q = hb_Q Γ ΛC G (some (.int x.1)) x.2) : hb_W Γ ΛC G 1 Q σ [some (.ref (G.2.2.2 k))] [] 0 := by
  unfold fn_X5_restore at h
  refine ww_aload_n 1 X dX5_restore_0 rfl rfl ?_
  refine ww_geti (ci := 5) (j := 3) 4 X cf_5 tw_X5_22 (by decide) rfl hk dX5_restore_1 rfl ?_
  refine ww_if_ne 10 7 X dX5_restore_4 (by decide) rfl h (fun h => ?_) (fun h => ?_)
  · skip
    refine ww_bipush (v := (-5)) 9 X dX5_restore_7 rfl (by decide) ?_
    obtain rfl := Option.some.inj h
    exact ww_ret_i X hr K dX5_restore_9
  · skip
    refine ww_aload_n 11 X dX5_restore_10 rfl rfl ?_
    obtain ⟨x1, hx1, h⟩ := hb_bind_of h
    refine ww_callV (ci := 5) (rest := []) (st' := []) 14 X (ct_X5_record (hb_l Γ) G k hk σ hx1) cw_X5_58 rfl (by decide) hk rfl ⟨by decide, by decide⟩ (Nat.le_of_ble_eq_true rfl) rfl rfl dX5_restore_11 rfl ?_
    refine ww_aload_n 15 X dX5_restore_14 rfl rfl ?_
    refine ww_getr (ci := 5) (j := 0) 18 X cf_5 tw_X5_12 (by decide) rfl hk dX5_restore_15 rfl ?_
    refine ww_aload_n 19 X dX5_restore_18 rfl rfl ?_
    refine ww_getr (ci := 5) (j := 2) 22 X cf_5 tw_X5_19 (by decide) rfl hk dX5_restore_19 rfl ?_
    obtain ⟨x2, hx2, h⟩ := hb_bind_of h
    refine ww_callV (ci := 2) (rest := []) (st' := []) 25 X (ct_X2_copyFrom (hb_l Γ) G (hc_rf k 0) (hc_kr_5_0 hk) (hc_rf k 2) (hc_kr_5_2 hk) x1 hx2) cw_X5_98 rfl (by decide) (hc_kr_5_0 hk) rfl ⟨by decide, by decide⟩ (Nat.le_of_ble_eq_true rfl) rfl rfl dX5_restore_22 rfl ?_
    refine ww_aload_n 26 X dX5_restore_25 rfl rfl ?_
    refine ww_getr (ci := 5) (j := 0) 29 X cf_5 tw_X5_12 (by decide) rfl hk dX5_restore_26 rfl ?_
    refine ww_getiN (ci := 2) (j := 0) 32 X cf_2 tw_X5_54 (by decide) rfl (hc_kr_5_0 hk) dX5_restore_29 rfl ?_
    obtain rfl := Option.some.inj h
    exact ww_ret_i X hr K dX5_restore_32
theorem ct_X5_restore (l : Launch) (G : hb_Gam) (k : Nat) (hk : hb_is ΛC k 5) (σ : hb_Mem) {x : (Int32 × hb_Mem)} (h : fn_X5_restore k σ = some x) : hb_C l yX5_restore cX5_restore 1 (some .int) 5 106 ΛC G [.ref (G.2.2.2 k)] σ (some (.int x.1)) x.2 :=
  hb_C.of [some (.ref (G.2.2.2 k))] (by decide +kernel) (Nat.le_of_ble_eq_true rfl) (by intro v hv; simp only [List.mem_cons, List.not_mem_nil, or_false] at hv; subst hv; rfl) rfl (hb_pad [.ref (G.2.2.2 k)] 0) (fun Γ X hr => wk_X5_restore X hr k hk σ h rfl)
def lb_X5_bitsOf_42 (p0 : UInt32) (i1 : Int32) (w2 : UInt32) (w3 : Int32) (w4 : Int32) : Option ((UInt32 × Int32 × Int32) ⊕ (UInt32 × Int32)) :=
if 150 ≤ w4 then (
some (.inr (w2, w3)))
else (
if 0 ≤ (Op.cmpValue (FP.fcmp w2 1258291200) .g) then (
some (.inr (w2, w3)))
else (
(hb_nn (FP.fmul w2 FP.fconst2)).bind fun z1 =>
hb_nm (w3 + (-1)) fun v2 =>
hb_nm (w4 + 1) fun v3 =>
some (.inl (z1, v2, v3))))
set_option maxRecDepth 100000 in
set_option maxHeartbeats 4000000 in
theorem lk_X5_bitsOf_42 {Γ : hb_Ctx} {G : hb_Gam} {Q : State → Prop} (X : hb_X Γ cX5_bitsOf 5 RX5 ΛC G 0 0)  (p0 : UInt32) (i1 : Int32) (w2 : UInt32) (w3 : Int32) (w4 : Int32) (σ : hb_Mem) {x : ((UInt32 × Int32 × Int32) ⊕ (UInt32 × Int32))} (h : lb_X5_bitsOf_42 p0 i1 w2 w3 w4 = some x) (K : Sum.elim (fun s : (UInt32 × Int32 × Int32) => hb_W Γ ΛC G 5 Q σ [none, some (.int i1), some (.float s.1), some (.int s.2.1), some (.int s.2.2)] [] 42) (fun t : (UInt32 × Int32) => hb_W Γ ΛC G 5 Q σ [none, some (.int i1), some (.float t.1), some (.int t.2), none] [] 71) x) : hb_W Γ ΛC G 5 Q σ [none, some (.int i1), some (.float w2), some (.int w3), some (.int w4)] [] 42 := by
  unfold lb_X5_bitsOf_42 at h
  refine ww_iload 44 X dX5_bitsOf_42 rfl rfl ?_
  refine ww_sipush (v := 150) 47 X dX5_bitsOf_44 rfl (by decide) ?_
  refine ww_icmp_ge 71 50 X dX5_bitsOf_47 (by decide) rfl h (fun h => ?_) (fun h => ?_)
  · skip
    obtain rfl := Option.some.inj h
    refine ww_kill [4] (L' := [none, some (.int i1), some (.float w2), some (.int w3), none]) rfl ?_
    exact K
  · skip
    refine ww_fload_n 51 X dX5_bitsOf_50 rfl rfl ?_
    refine ww_ldcfw (v := 1258291200) 54 X dX5_bitsOf_51 rfl (by decide +kernel) ?_
    refine ww_fcmp 55 X dX5_bitsOf_54 rfl ?_
    refine ww_if_ge 71 58 X dX5_bitsOf_55 (by decide) rfl h (fun h => ?_) (fun h => ?_)
    · skip
      obtain rfl := Option.some.inj h
      refine ww_kill [4] (L' := [none, some (.int i1), some (.float w2), some (.int w3), none]) rfl ?_
      exact K
    · skip
      refine ww_fload_n 59 X dX5_bitsOf_58 rfl rfl ?_
      refine ww_fconst2 60 X dX5_bitsOf_59 rfl ?_
      obtain ⟨z1, hz1, h⟩ := hb_bind_of h
      refine ww_fmul 61 X dX5_bitsOf_60 rfl hz1 ?_
      refine ww_fstore_n 62 X (L' := [none, some (.int i1), some (.float z1), some (.int w3), some (.int w4)]) dX5_bitsOf_61 rfl (Nat.le_of_ble_eq_true rfl) rfl rfl ?_
      obtain ⟨v2, ev2, h⟩ := hb_nm_of h
      refine ww_iinc 65 X (L' := [none, some (.int i1), some (.float z1), some (.int v2), some (.int w4)]) dX5_bitsOf_62 rfl rfl ev2.symm rfl ?_
      obtain ⟨v3, ev3, h⟩ := hb_nm_of h
      refine ww_iinc 68 X (L' := [none, some (.int i1), some (.float z1), some (.int v2), some (.int v3)]) dX5_bitsOf_65 rfl rfl ev3.symm rfl ?_
      refine ww_goto 42 X dX5_bitsOf_68 (by decide) ?_
      obtain rfl := Option.some.inj h
      exact K
def ll_X5_bitsOf_42 (p0 : UInt32) (i1 : Int32) : (UInt32 × Int32 × Int32) → Option (UInt32 × Int32) := hb_lp (fun s => lb_X5_bitsOf_42 p0 i1 s.1 s.2.1 s.2.2) hb_F
theorem lw_X5_bitsOf_42 {Γ : hb_Ctx} {G : hb_Gam} {Q : State → Prop} (X : hb_X Γ cX5_bitsOf 5 RX5 ΛC G 0 0)  (p0 : UInt32) (i1 : Int32) (σ : hb_Mem) (s : (UInt32 × Int32 × Int32)) (t : (UInt32 × Int32)) (h : ll_X5_bitsOf_42 p0 i1 s = some t) (K : (fun t : (UInt32 × Int32) => hb_W Γ ΛC G 5 Q σ [none, some (.int i1), some (.float t.1), some (.int t.2), none] [] 71) t) : hb_W Γ ΛC G 5 Q σ [none, some (.int i1), some (.float s.1), some (.int s.2.1), some (.int s.2.2)] [] 42 :=
  hb_lp_w (P := fun s : (UInt32 × Int32 × Int32) => hb_W Γ ΛC G 5 Q σ [none, some (.int i1), some (.float s.1), some (.int s.2.1), some (.int s.2.2)] [] 42) (E := (fun t : (UInt32 × Int32) => hb_W Γ ΛC G 5 Q σ [none, some (.int i1), some (.float t.1), some (.int t.2), none] [] 71)) (fun s x hx K => lk_X5_bitsOf_42 X p0 i1 s.1 s.2.1 s.2.2 σ hx K) _ s t h K
def jn_X5_bitsOf_71 (p0 : UInt32) (j1 : Int32) (j2 : UInt32) (j3 : Int32) : Option Int32 :=
some ((j1 ||| (j3 <<< (23 &&& 31))) ||| ((FP.f2i j2) - 8388608))
set_option maxRecDepth 100000 in
set_option maxHeartbeats 4000000 in
theorem jw_X5_bitsOf_71 {Γ : hb_Ctx} {G : hb_Gam} {Q : State → Prop} (X : hb_X Γ cX5_bitsOf 5 RX5 ΛC G 0 0) (hr : hb_ret Γ = (some .int)) (p0 : UInt32) (j1 : Int32) (j2 : UInt32) (j3 : Int32) (σ : hb_Mem) {x : Int32} (h : jn_X5_bitsOf_71 p0 j1 j2 j3 = some x) (K : Q = hb_Q Γ ΛC G (some (.int x)) σ) : hb_W Γ ΛC G 5 Q σ [none, some (.int j1), some (.float j2), some (.int j3), none] [] 71 := by
  unfold jn_X5_bitsOf_71 at h
  refine ww_iload_n 72 X dX5_bitsOf_71 rfl rfl ?_
  refine ww_iload_n 73 X dX5_bitsOf_72 rfl rfl ?_
  refine ww_bipush (v := 23) 75 X dX5_bitsOf_73 rfl (by decide) ?_
  refine ww_ishl 76 X dX5_bitsOf_75 rfl ?_
  refine ww_ior 77 X dX5_bitsOf_76 rfl ?_
  refine ww_fload_n 78 X dX5_bitsOf_77 rfl rfl ?_
  refine ww_f2i 79 X dX5_bitsOf_78 rfl ?_
  refine ww_ldcw (v := 8388608) 82 X dX5_bitsOf_79 rfl (by decide +kernel) ?_
  refine ww_isub 83 X dX5_bitsOf_82 rfl ?_
  refine ww_ior 84 X dX5_bitsOf_83 rfl ?_
  obtain rfl := Option.some.inj h
  exact ww_ret_i X hr K dX5_bitsOf_84
def jn_X5_bitsOf_34 (p0 : UInt32) (j1 : Int32) (s0 : UInt32) : Option Int32 :=
(ll_X5_bitsOf_42 p0 j1 (s0, 150, 0)).bind fun t4 =>
jn_X5_bitsOf_71 p0 j1 t4.1 t4.2
set_option maxRecDepth 100000 in
set_option maxHeartbeats 4000000 in
theorem jw_X5_bitsOf_34 {Γ : hb_Ctx} {G : hb_Gam} {Q : State → Prop} (X : hb_X Γ cX5_bitsOf 5 RX5 ΛC G 0 0) (hr : hb_ret Γ = (some .int)) (p0 : UInt32) (j1 : Int32) (s0 : UInt32) (σ : hb_Mem) {x : Int32} (h : jn_X5_bitsOf_34 p0 j1 s0 = some x) (K : Q = hb_Q Γ ΛC G (some (.int x)) σ) : hb_W Γ ΛC G 5 Q σ [none, some (.int j1), none, none, none] [.float s0] 34 := by
  unfold jn_X5_bitsOf_34 at h
  refine ww_fstore_n 35 X (L' := [none, some (.int j1), some (.float s0), none, none]) dX5_bitsOf_34 rfl (Nat.le_of_ble_eq_true rfl) rfl rfl ?_
  refine ww_sipush (v := 150) 38 X dX5_bitsOf_35 rfl (by decide) ?_
  refine ww_istore_n 39 X (L' := [none, some (.int j1), some (.float s0), some (.int 150), none]) dX5_bitsOf_38 rfl (Nat.le_of_ble_eq_true rfl) rfl rfl ?_
  refine ww_iconst (v := 0) 40 X dX5_bitsOf_39 rfl (by decide) ?_
  refine ww_istore 42 X (L' := [none, some (.int j1), some (.float s0), some (.int 150), some (.int 0)]) dX5_bitsOf_40 rfl (Nat.le_of_ble_eq_true rfl) rfl rfl ?_
  obtain ⟨t4, ht4, h⟩ := hb_bind_of h
  refine lw_X5_bitsOf_42 X p0 j1 σ (s0, 150, 0) t4 ht4 ?_
  exact jw_X5_bitsOf_71 X hr p0 j1 t4.1 t4.2 σ h K
def jn_X5_bitsOf_21 (p0 : UInt32) (s0 : Int32) : Option Int32 :=
if 0 ≤ (Op.cmpValue (FP.fcmp p0 FP.fconst0) .g) then (
jn_X5_bitsOf_34 p0 s0 p0)
else (
jn_X5_bitsOf_34 p0 s0 (FP.fneg p0))
set_option maxRecDepth 100000 in
set_option maxHeartbeats 4000000 in
theorem jw_X5_bitsOf_21 {Γ : hb_Ctx} {G : hb_Gam} {Q : State → Prop} (X : hb_X Γ cX5_bitsOf 5 RX5 ΛC G 0 0) (hr : hb_ret Γ = (some .int)) (p0 : UInt32) (s0 : Int32) (σ : hb_Mem) {x : Int32} (h : jn_X5_bitsOf_21 p0 s0 = some x) (K : Q = hb_Q Γ ΛC G (some (.int x)) σ) : hb_W Γ ΛC G 5 Q σ [some (.float p0), none, none, none, none] [.int s0] 21 := by
  unfold jn_X5_bitsOf_21 at h
  refine ww_istore_n 22 X (L' := [some (.float p0), some (.int s0), none, none, none]) dX5_bitsOf_21 rfl (Nat.le_of_ble_eq_true rfl) rfl rfl ?_
  refine ww_fload_n 23 X dX5_bitsOf_22 rfl rfl ?_
  refine ww_fconst0 24 X dX5_bitsOf_23 rfl ?_
  refine ww_fcmp 25 X dX5_bitsOf_24 rfl ?_
  refine ww_if_ge 33 28 X dX5_bitsOf_25 (by decide) rfl h (fun h => ?_) (fun h => ?_)
  · skip
    refine ww_fload_n 34 X dX5_bitsOf_33 rfl rfl ?_
    refine ww_kill [0] (L' := [none, some (.int s0), none, none, none]) rfl ?_
    exact jw_X5_bitsOf_34 X hr p0 s0 p0 σ h K
  · skip
    refine ww_fload_n 29 X dX5_bitsOf_28 rfl rfl ?_
    refine ww_fneg 30 X dX5_bitsOf_29 rfl ?_
    refine ww_goto 34 X dX5_bitsOf_30 (by decide) ?_
    refine ww_kill [0] (L' := [none, some (.int s0), none, none, none]) rfl ?_
    exact jw_X5_bitsOf_34 X hr p0 s0 (FP.fneg p0) σ h K
def fn_X5_bitsOf (p0 : UInt32) : Option Int32 :=
if (Op.cmpValue (FP.fcmp p0 FP.fconst0) .l) = 0 then (
some 0)
else (
if 0 ≤ (Op.cmpValue (FP.fcmp p0 FP.fconst0) .g) then (
jn_X5_bitsOf_21 p0 0)
else (
jn_X5_bitsOf_21 p0 (-2147483648)))
set_option maxRecDepth 100000 in
set_option maxHeartbeats 4000000 in
theorem wk_X5_bitsOf {Γ : hb_Ctx} {G : hb_Gam} {Q : State → Prop} (X : hb_X Γ cX5_bitsOf 5 RX5 ΛC G 0 0) (hr : hb_ret Γ = (some .int)) (p0 : UInt32) (σ : hb_Mem) {x : Int32} (h : fn_X5_bitsOf p0 = some x) (K : Q = hb_Q Γ ΛC G (some (.int x)) σ) : hb_W Γ ΛC G 5 Q σ [some (.float p0), none, none, none, none] [] 0 := by
  unfold fn_X5_bitsOf at h
  refine ww_fload_n 1 X dX5_bitsOf_0 rfl rfl ?_
  refine ww_fconst0 2 X dX5_bitsOf_1 rfl ?_
  refine ww_fcmp 3 X dX5_bitsOf_2 rfl ?_
  refine ww_if_ne 8 6 X dX5_bitsOf_3 (by decide) rfl h (fun h => ?_) (fun h => ?_)
  · skip
    refine ww_iconst (v := 0) 7 X dX5_bitsOf_6 rfl (by decide) ?_
    obtain rfl := Option.some.inj h
    exact ww_ret_i X hr K dX5_bitsOf_7
  · skip
    refine ww_fload_n 9 X dX5_bitsOf_8 rfl rfl ?_
    refine ww_fconst0 10 X dX5_bitsOf_9 rfl ?_
    refine ww_fcmp 11 X dX5_bitsOf_10 rfl ?_
    refine ww_if_ge 20 14 X dX5_bitsOf_11 (by decide) rfl h (fun h => ?_) (fun h => ?_)
    · skip
      refine ww_iconst (v := 0) 21 X dX5_bitsOf_20 rfl (by decide) ?_
      exact jw_X5_bitsOf_21 X hr p0 0 σ h K
    · skip
      refine ww_ldcw (v := (-2147483648)) 17 X dX5_bitsOf_14 rfl (by decide +kernel) ?_
      refine ww_goto 21 X dX5_bitsOf_17 (by decide) ?_
      exact jw_X5_bitsOf_21 X hr p0 (-2147483648) σ h K
theorem ct_X5_bitsOf (l : Launch) (G : hb_Gam) (p0 : UInt32) (σ : hb_Mem) {x : Int32} (h : fn_X5_bitsOf p0 = some x) : hb_C l yX5_bitsOf cX5_bitsOf 5 (some .int) 0 0 ΛC G [.float p0] σ (some (.int x)) σ :=
  hb_C.of [some (.float p0), none, none, none, none] (by decide +kernel) (Nat.le_of_ble_eq_true rfl) (by intro v hv; simp only [List.mem_cons, List.not_mem_nil, or_false] at hv; subst hv; rfl) rfl (hb_pad [.float p0] 4) (fun Γ X hr => wk_X5_bitsOf X hr p0 σ h rfl)
def jn_X5_surveyed_21 (k : Nat) (σ : hb_Mem) : Option hb_Mem :=
some σ
set_option maxRecDepth 100000 in
set_option maxHeartbeats 4000000 in
theorem jw_X5_surveyed_21 {Γ : hb_Ctx} {G : hb_Gam} {Q : State → Prop} (X : hb_X Γ cX5_surveyed 1 RX5 ΛC G 6 141) (hr : hb_ret Γ = (some (.object "PathBook$Survey"))) (k : Nat) (hk : hb_is ΛC k 5) (σ : hb_Mem) {x : hb_Mem} (h : jn_X5_surveyed_21 k σ = some x) (K : Q = hb_Q Γ ΛC G (some (.ref (G.2.2.2 (hc_rf k 6)))) x) : hb_W Γ ΛC G 1 Q σ [some (.ref (G.2.2.2 k))] [] 21 := by
  unfold jn_X5_surveyed_21 at h
  refine ww_aload_n 22 X dX5_surveyed_21 rfl rfl ?_
  refine ww_getr (ci := 5) (j := 6) 25 X cf_5 tw_X5_43 (by decide) rfl hk dX5_surveyed_22 rfl ?_
  obtain rfl := Option.some.inj h
  exact ww_ret_a X hr (.inr ⟨_, rfl⟩) K dX5_surveyed_25
def fn_X5_surveyed (k : Nat) (σ : hb_Mem) : Option hb_Mem :=
if (σ (hc_rf k 6) 0) = 0 then (
(fn_X3_make (hc_rf k 6) (hc_rf k 0) σ).bind fun x1 =>
jn_X5_surveyed_21 k x1)
else (
jn_X5_surveyed_21 k σ)
set_option maxRecDepth 100000 in
set_option maxHeartbeats 4000000 in
theorem wk_X5_surveyed {Γ : hb_Ctx} {G : hb_Gam} {Q : State → Prop} (X : hb_X Γ cX5_surveyed 1 RX5 ΛC G 6 141) (hr : hb_ret Γ = (some (.object "PathBook$Survey"))) (k : Nat) (hk : hb_is ΛC k 5) (σ : hb_Mem) {x : hb_Mem} (h : fn_X5_surveyed k σ = some x) (K : Q = hb_Q Γ ΛC G (some (.ref (G.2.2.2 (hc_rf k 6)))) x) : hb_W Γ ΛC G 1 Q σ [some (.ref (G.2.2.2 k))] [] 0 := by
  unfold fn_X5_surveyed at h
  refine ww_aload_n 1 X dX5_surveyed_0 rfl rfl ?_
  refine ww_getr (ci := 5) (j := 6) 4 X cf_5 tw_X5_43 (by decide) rfl hk dX5_surveyed_1 rfl ?_
  refine ww_getiN (ci := 3) (j := 0) 7 X cf_3 tw_X5_179 (by decide) rfl (hc_kr_5_6 hk) dX5_surveyed_4 rfl ?_
  refine ww_if_ne 21 10 X dX5_surveyed_7 (by decide) rfl h (fun h => ?_) (fun h => ?_)
  · skip
    refine ww_aload_n 11 X dX5_surveyed_10 rfl rfl ?_
    refine ww_getr (ci := 5) (j := 6) 14 X cf_5 tw_X5_43 (by decide) rfl hk dX5_surveyed_11 rfl ?_
    refine ww_aload_n 15 X dX5_surveyed_14 rfl rfl ?_
    refine ww_getr (ci := 5) (j := 0) 18 X cf_5 tw_X5_12 (by decide) rfl hk dX5_surveyed_15 rfl ?_
    obtain ⟨x1, hx1, h⟩ := hb_bind_of h
    refine ww_callV (ci := 3) (rest := []) (st' := []) 21 X (ct_X3_make (hb_l Γ) G (hc_rf k 6) (hc_kr_5_6 hk) (hc_rf k 0) (hc_kr_5_0 hk) σ hx1) cw_X5_271 rfl (by decide) (hc_kr_5_6 hk) rfl ⟨by decide, by decide⟩ (Nat.le_of_ble_eq_true rfl) rfl rfl dX5_surveyed_18 rfl ?_
    exact jw_X5_surveyed_21 X hr k hk x1 h K
  · skip
    exact jw_X5_surveyed_21 X hr k hk σ h K
theorem ct_X5_surveyed (l : Launch) (G : hb_Gam) (k : Nat) (hk : hb_is ΛC k 5) (σ : hb_Mem) {x : hb_Mem} (h : fn_X5_surveyed k σ = some x) : hb_C l yX5_surveyed cX5_surveyed 1 (some (.object "PathBook$Survey")) 6 141 ΛC G [.ref (G.2.2.2 k)] σ (some (.ref (G.2.2.2 (hc_rf k 6)))) x :=
  hb_C.of [some (.ref (G.2.2.2 k))] (by decide +kernel) (Nat.le_of_ble_eq_true rfl) (by intro v hv; simp only [List.mem_cons, List.not_mem_nil, or_false] at hv; subst hv; rfl) rfl (hb_pad [.ref (G.2.2.2 k)] 0) (fun Γ X hr => wk_X5_surveyed X hr k hk σ h rfl)
def jn_X5_page_169 (k : Nat) (p1 : Int32) (p2 : Int32) (s0 : Int32) (σ : hb_Mem) : Option (Int32 × hb_Mem) :=
(fn_X5_oneIf s0).bind fun x16 =>
some (x16, σ)
set_option maxRecDepth 100000 in
set_option maxHeartbeats 4000000 in
theorem jw_X5_page_169 {Γ : hb_Ctx} {G : hb_Gam} {Q : State → Prop} (X : hb_X Γ cX5_page 3 RX5 ΛC G 7 161) (hr : hb_ret Γ = (some .int)) (k : Nat) (hk : hb_is ΛC k 5) (p1 : Int32) (p2 : Int32) (s0 : Int32) (σ : hb_Mem) {x : (Int32 × hb_Mem)} (h : jn_X5_page_169 k p1 p2 s0 σ = some x) (K : Q = hb_Q Γ ΛC G (some (.int x.1)) x.2) : hb_W Γ ΛC G 3 Q σ [none, none, none] [.int s0] 169 := by
  unfold jn_X5_page_169 at h
  obtain ⟨x16, hx16, h⟩ := hb_bind_of h
  refine ww_callS (rest := []) (st' := [.int x16]) 172 X (ct_X5_oneIf (hb_l Γ) G s0 σ hx16) cw_X5_206 rfl ⟨by decide, by decide⟩ (Nat.le_of_ble_eq_true rfl) rfl rfl dX5_page_169 rfl ?_
  obtain rfl := Option.some.inj h
  exact ww_ret_i X hr K dX5_page_172
def fn_X5_page (k : Nat) (p1 : Int32) (p2 : Int32) (σ : hb_Mem) : Option (Int32 × hb_Mem) :=
(fn_X2_hasPage (hc_rf k 0) p1 σ).bind fun x1 =>
if x1 = 0 then (
some ((-1), σ))
else (
if p2 = 0 then (
(fn_X1_at (hc_rf (hc_rf k 0) 4) p1 σ).bind fun x2 =>
some (x2, σ))
else if p2 = 1 then (
(fn_X1_at (hc_rf (hc_rf k 0) 2) p1 σ).bind fun x3 =>
some (x3, σ))
else if p2 = 2 then (
(fn_X1_at (hc_rf (hc_rf k 0) 3) p1 σ).bind fun x4 =>
some (x4, σ))
else if p2 = 3 then (
(fn_X2_moodOf (hc_rf k 0) p1 σ).bind fun x5 =>
(fn_X5_bitsOf x5).bind fun x6 =>
some (x6, σ))
else if p2 = 4 then (
(fn_X2_kindOf (hc_rf k 0) p1 σ).bind fun x7 =>
some (x7, σ))
else if p2 = 5 then (
(fn_X5_surveyed k σ).bind fun x8 =>
(fn_X3_isDead (hc_rf k 6) p1 x8).bind fun x9 =>
(fn_X5_oneIf x9).bind fun x10 =>
some (x10, x8))
else if p2 = 6 then (
(fn_X5_surveyed k σ).bind fun x11 =>
(fn_X3_comesAgain (hc_rf k 6) p1 x11).bind fun x12 =>
(fn_X5_oneIf x12).bind fun x13 =>
some (x13, x11))
else if p2 = 7 then (
(fn_X5_surveyed k σ).bind fun x14 =>
(fn_X3_stuckPlacesWith (hc_rf k 6) p1 x14).bind fun x15 =>
if x15 ≤ 0 then (
jn_X5_page_169 k p1 p2 0 x14)
else (
jn_X5_page_169 k p1 p2 1 x14))
else if p2 = 8 then (
(fn_X5_surveyed k σ).bind fun x17 =>
(fn_X3_placesWith (hc_rf k 6) p1 x17).bind fun x18 =>
some (x18, x17))
else if p2 = 9 then (
(fn_X5_surveyed k σ).bind fun x19 =>
(fn_X3_fewestChoicesTo (hc_rf k 6) p1 x19).bind fun x20 =>
some (x20, x19))
else if p2 = 10 then (
(fn_X2_choicesTo (hc_rf k 0) p1 σ).bind fun x21 =>
some (x21, σ))
else (
some ((-2), σ)))
set_option maxRecDepth 100000 in
set_option maxHeartbeats 4000000 in
theorem wk_X5_page {Γ : hb_Ctx} {G : hb_Gam} {Q : State → Prop} (X : hb_X Γ cX5_page 3 RX5 ΛC G 7 161) (hr : hb_ret Γ = (some .int)) (k : Nat) (hk : hb_is ΛC k 5) (p1 : Int32) (p2 : Int32) (σ : hb_Mem) {x : (Int32 × hb_Mem)} (h : fn_X5_page k p1 p2 σ = some x) (K : Q = hb_Q Γ ΛC G (some (.int x.1)) x.2) : hb_W Γ ΛC G 3 Q σ [some (.ref (G.2.2.2 k)), some (.int p1), some (.int p2)] [] 0 := by
  unfold fn_X5_page at h
  refine ww_aload_n 1 X dX5_page_0 rfl rfl ?_
  refine ww_getr (ci := 5) (j := 0) 4 X cf_5 tw_X5_12 (by decide) rfl hk dX5_page_1 rfl ?_
  refine ww_iload_n 5 X dX5_page_4 rfl rfl ?_
  obtain ⟨x1, hx1, h⟩ := hb_bind_of h
  refine ww_callV (ci := 2) (rest := []) (st' := [.int x1]) 8 X (ct_X2_hasPage (hb_l Γ) G (hc_rf k 0) (hc_kr_5_0 hk) p1 σ hx1) cw_X5_65 rfl (by decide) (hc_kr_5_0 hk) rfl ⟨by decide, by decide⟩ (Nat.le_of_ble_eq_true rfl) rfl rfl dX5_page_5 rfl ?_
  refine ww_if_ne 13 11 X dX5_page_8 (by decide) rfl h (fun h => ?_) (fun h => ?_)
  · skip
    refine ww_iconst (v := (-1)) 12 X dX5_page_11 rfl (by decide) ?_
    obtain rfl := Option.some.inj h
    exact ww_ret_i X hr K dX5_page_12
  · skip
    refine ww_iload_n 14 X dX5_page_13 rfl rfl ?_
    by_cases c0 : p2 = 0
    · rw [if_pos c0] at h
      refine ww_tabIn (58) 72 X dX5_page_14 (by rw [c0]; decide) (by rw [c0]; decide) (by rw [c0]; rfl) (by decide) ?_
      refine ww_aload_n 73 X dX5_page_72 rfl rfl ?_
      refine ww_getr (ci := 5) (j := 0) 76 X cf_5 tw_X5_12 (by decide) rfl hk dX5_page_73 rfl ?_
      refine ww_getrN (ci := 2) (j := 4) 79 X cf_2 tw_X5_82 (by decide) rfl (hc_kr_5_0 hk) dX5_page_76 rfl ?_
      refine ww_iload_n 80 X dX5_page_79 rfl rfl ?_
      obtain ⟨x2, hx2, h⟩ := hb_bind_of h
      refine ww_callV (ci := 1) (rest := []) (st' := [.int x2]) 83 X (ct_X1_at (hb_l Γ) G (hc_rf (hc_rf k 0) 4) (hc_kr_2_4 (hc_kr_5_0 hk)) p1 σ hx2) cw_X5_72 rfl (by decide) (hc_kr_2_4 (hc_kr_5_0 hk)) rfl ⟨by decide, by decide⟩ (Nat.le_of_ble_eq_true rfl) rfl rfl dX5_page_80 rfl ?_
      obtain rfl := Option.some.inj h
      exact ww_ret_i X hr K dX5_page_83
    rw [if_neg c0] at h
    by_cases c1 : p2 = 1
    · rw [if_pos c1] at h
      refine ww_tabIn (70) 84 X dX5_page_14 (by rw [c1]; decide) (by rw [c1]; decide) (by rw [c1]; rfl) (by decide) ?_
      refine ww_aload_n 85 X dX5_page_84 rfl rfl ?_
      refine ww_getr (ci := 5) (j := 0) 88 X cf_5 tw_X5_12 (by decide) rfl hk dX5_page_85 rfl ?_
      refine ww_getrN (ci := 2) (j := 2) 91 X cf_2 tw_X5_182 (by decide) rfl (hc_kr_5_0 hk) dX5_page_88 rfl ?_
      refine ww_iload_n 92 X dX5_page_91 rfl rfl ?_
      obtain ⟨x3, hx3, h⟩ := hb_bind_of h
      refine ww_callV (ci := 1) (rest := []) (st' := [.int x3]) 95 X (ct_X1_at (hb_l Γ) G (hc_rf (hc_rf k 0) 2) (hc_kr_2_2 (hc_kr_5_0 hk)) p1 σ hx3) cw_X5_72 rfl (by decide) (hc_kr_2_2 (hc_kr_5_0 hk)) rfl ⟨by decide, by decide⟩ (Nat.le_of_ble_eq_true rfl) rfl rfl dX5_page_92 rfl ?_
      obtain rfl := Option.some.inj h
      exact ww_ret_i X hr K dX5_page_95
    rw [if_neg c1] at h
    by_cases c2 : p2 = 2
    · rw [if_pos c2] at h
      refine ww_tabIn (82) 96 X dX5_page_14 (by rw [c2]; decide) (by rw [c2]; decide) (by rw [c2]; rfl) (by decide) ?_
      refine ww_aload_n 97 X dX5_page_96 rfl rfl ?_
      refine ww_getr (ci := 5) (j := 0) 100 X cf_5 tw_X5_12 (by decide) rfl hk dX5_page_97 rfl ?_
      refine ww_getrN (ci := 2) (j := 3) 103 X cf_2 tw_X5_185 (by decide) rfl (hc_kr_5_0 hk) dX5_page_100 rfl ?_
      refine ww_iload_n 104 X dX5_page_103 rfl rfl ?_
      obtain ⟨x4, hx4, h⟩ := hb_bind_of h
      refine ww_callV (ci := 1) (rest := []) (st' := [.int x4]) 107 X (ct_X1_at (hb_l Γ) G (hc_rf (hc_rf k 0) 3) (hc_kr_2_3 (hc_kr_5_0 hk)) p1 σ hx4) cw_X5_72 rfl (by decide) (hc_kr_2_3 (hc_kr_5_0 hk)) rfl ⟨by decide, by decide⟩ (Nat.le_of_ble_eq_true rfl) rfl rfl dX5_page_104 rfl ?_
      obtain rfl := Option.some.inj h
      exact ww_ret_i X hr K dX5_page_107
    rw [if_neg c2] at h
    by_cases c3 : p2 = 3
    · rw [if_pos c3] at h
      refine ww_tabIn (94) 108 X dX5_page_14 (by rw [c3]; decide) (by rw [c3]; decide) (by rw [c3]; rfl) (by decide) ?_
      refine ww_aload_n 109 X dX5_page_108 rfl rfl ?_
      refine ww_getr (ci := 5) (j := 0) 112 X cf_5 tw_X5_12 (by decide) rfl hk dX5_page_109 rfl ?_
      refine ww_iload_n 113 X dX5_page_112 rfl rfl ?_
      obtain ⟨x5, hx5, h⟩ := hb_bind_of h
      refine ww_callV (ci := 2) (rest := []) (st' := [.float x5]) 116 X (ct_X2_moodOf (hb_l Γ) G (hc_rf k 0) (hc_kr_5_0 hk) p1 σ hx5) cw_X5_188 rfl (by decide) (hc_kr_5_0 hk) rfl ⟨by decide, by decide⟩ (Nat.le_of_ble_eq_true rfl) rfl rfl dX5_page_113 rfl ?_
      obtain ⟨x6, hx6, h⟩ := hb_bind_of h
      refine ww_callS (rest := []) (st' := [.int x6]) 119 X (ct_X5_bitsOf (hb_l Γ) G x5 σ hx6) cw_X5_192 rfl ⟨by decide, by decide⟩ (Nat.le_of_ble_eq_true rfl) rfl rfl dX5_page_116 rfl ?_
      obtain rfl := Option.some.inj h
      exact ww_ret_i X hr K dX5_page_119
    rw [if_neg c3] at h
    by_cases c4 : p2 = 4
    · rw [if_pos c4] at h
      refine ww_tabIn (106) 120 X dX5_page_14 (by rw [c4]; decide) (by rw [c4]; decide) (by rw [c4]; rfl) (by decide) ?_
      refine ww_aload_n 121 X dX5_page_120 rfl rfl ?_
      refine ww_getr (ci := 5) (j := 0) 124 X cf_5 tw_X5_12 (by decide) rfl hk dX5_page_121 rfl ?_
      refine ww_iload_n 125 X dX5_page_124 rfl rfl ?_
      obtain ⟨x7, hx7, h⟩ := hb_bind_of h
      refine ww_callV (ci := 2) (rest := []) (st' := [.int x7]) 128 X (ct_X2_kindOf (hb_l Γ) G (hc_rf k 0) (hc_kr_5_0 hk) p1 σ hx7) cw_X5_196 rfl (by decide) (hc_kr_5_0 hk) rfl ⟨by decide, by decide⟩ (Nat.le_of_ble_eq_true rfl) rfl rfl dX5_page_125 rfl ?_
      obtain rfl := Option.some.inj h
      exact ww_ret_i X hr K dX5_page_128
    rw [if_neg c4] at h
    by_cases c5 : p2 = 5
    · rw [if_pos c5] at h
      refine ww_tabIn (115) 129 X dX5_page_14 (by rw [c5]; decide) (by rw [c5]; decide) (by rw [c5]; rfl) (by decide) ?_
      refine ww_aload_n 130 X dX5_page_129 rfl rfl ?_
      obtain ⟨x8, hx8, h⟩ := hb_bind_of h
      refine ww_callV (ci := 5) (rest := []) (st' := [.ref (G.2.2.2 (hc_rf k 6))]) 133 X (ct_X5_surveyed (hb_l Γ) G k hk σ hx8) cw_X5_199 rfl (by decide) hk rfl ⟨by decide, by decide⟩ (Nat.le_of_ble_eq_true rfl) rfl rfl dX5_page_130 rfl ?_
      refine ww_iload_n 134 X dX5_page_133 rfl rfl ?_
      obtain ⟨x9, hx9, h⟩ := hb_bind_of h
      refine ww_callV (ci := 3) (rest := []) (st' := [.int x9]) 137 X (ct_X3_isDead (hb_l Γ) G (hc_rf k 6) (hc_kr_5_6 hk) p1 x8 hx9) cw_X5_203 rfl (by decide) (hc_kr_5_6 hk) rfl ⟨by decide, by decide⟩ (Nat.le_of_ble_eq_true rfl) rfl rfl dX5_page_134 rfl ?_
      obtain ⟨x10, hx10, h⟩ := hb_bind_of h
      refine ww_callS (rest := []) (st' := [.int x10]) 140 X (ct_X5_oneIf (hb_l Γ) G x9 x8 hx10) cw_X5_206 rfl ⟨by decide, by decide⟩ (Nat.le_of_ble_eq_true rfl) rfl rfl dX5_page_137 rfl ?_
      obtain rfl := Option.some.inj h
      exact ww_ret_i X hr K dX5_page_140
    rw [if_neg c5] at h
    by_cases c6 : p2 = 6
    · rw [if_pos c6] at h
      refine ww_tabIn (127) 141 X dX5_page_14 (by rw [c6]; decide) (by rw [c6]; decide) (by rw [c6]; rfl) (by decide) ?_
      refine ww_aload_n 142 X dX5_page_141 rfl rfl ?_
      obtain ⟨x11, hx11, h⟩ := hb_bind_of h
      refine ww_callV (ci := 5) (rest := []) (st' := [.ref (G.2.2.2 (hc_rf k 6))]) 145 X (ct_X5_surveyed (hb_l Γ) G k hk σ hx11) cw_X5_199 rfl (by decide) hk rfl ⟨by decide, by decide⟩ (Nat.le_of_ble_eq_true rfl) rfl rfl dX5_page_142 rfl ?_
      refine ww_iload_n 146 X dX5_page_145 rfl rfl ?_
      obtain ⟨x12, hx12, h⟩ := hb_bind_of h
      refine ww_callV (ci := 3) (rest := []) (st' := [.int x12]) 149 X (ct_X3_comesAgain (hb_l Γ) G (hc_rf k 6) (hc_kr_5_6 hk) p1 x11 hx12) cw_X5_210 rfl (by decide) (hc_kr_5_6 hk) rfl ⟨by decide, by decide⟩ (Nat.le_of_ble_eq_true rfl) rfl rfl dX5_page_146 rfl ?_
      obtain ⟨x13, hx13, h⟩ := hb_bind_of h
      refine ww_callS (rest := []) (st' := [.int x13]) 152 X (ct_X5_oneIf (hb_l Γ) G x12 x11 hx13) cw_X5_206 rfl ⟨by decide, by decide⟩ (Nat.le_of_ble_eq_true rfl) rfl rfl dX5_page_149 rfl ?_
      obtain rfl := Option.some.inj h
      exact ww_ret_i X hr K dX5_page_152
    rw [if_neg c6] at h
    by_cases c7 : p2 = 7
    · rw [if_pos c7] at h
      refine ww_tabIn (139) 153 X dX5_page_14 (by rw [c7]; decide) (by rw [c7]; decide) (by rw [c7]; rfl) (by decide) ?_
      refine ww_aload_n 154 X dX5_page_153 rfl rfl ?_
      obtain ⟨x14, hx14, h⟩ := hb_bind_of h
      refine ww_callV (ci := 5) (rest := []) (st' := [.ref (G.2.2.2 (hc_rf k 6))]) 157 X (ct_X5_surveyed (hb_l Γ) G k hk σ hx14) cw_X5_199 rfl (by decide) hk rfl ⟨by decide, by decide⟩ (Nat.le_of_ble_eq_true rfl) rfl rfl dX5_page_154 rfl ?_
      refine ww_iload_n 158 X dX5_page_157 rfl rfl ?_
      obtain ⟨x15, hx15, h⟩ := hb_bind_of h
      refine ww_callV (ci := 3) (rest := []) (st' := [.int x15]) 161 X (ct_X3_stuckPlacesWith (hb_l Γ) G (hc_rf k 6) (hc_kr_5_6 hk) p1 x14 hx15) cw_X5_213 rfl (by decide) (hc_kr_5_6 hk) rfl ⟨by decide, by decide⟩ (Nat.le_of_ble_eq_true rfl) rfl rfl dX5_page_158 rfl ?_
      refine ww_if_le 168 164 X dX5_page_161 (by decide) rfl h (fun h => ?_) (fun h => ?_)
      · skip
        refine ww_iconst (v := 0) 169 X dX5_page_168 rfl (by decide) ?_
        refine ww_kill [0, 1, 2] (L' := [none, none, none]) rfl ?_
        exact jw_X5_page_169 X hr k hk p1 p2 0 x14 h K
      · skip
        refine ww_iconst (v := 1) 165 X dX5_page_164 rfl (by decide) ?_
        refine ww_goto 169 X dX5_page_165 (by decide) ?_
        refine ww_kill [0, 1, 2] (L' := [none, none, none]) rfl ?_
        exact jw_X5_page_169 X hr k hk p1 p2 1 x14 h K
    rw [if_neg c7] at h
    by_cases c8 : p2 = 8
    · rw [if_pos c8] at h
      refine ww_tabIn (159) 173 X dX5_page_14 (by rw [c8]; decide) (by rw [c8]; decide) (by rw [c8]; rfl) (by decide) ?_
      refine ww_aload_n 174 X dX5_page_173 rfl rfl ?_
      obtain ⟨x17, hx17, h⟩ := hb_bind_of h
      refine ww_callV (ci := 5) (rest := []) (st' := [.ref (G.2.2.2 (hc_rf k 6))]) 177 X (ct_X5_surveyed (hb_l Γ) G k hk σ hx17) cw_X5_199 rfl (by decide) hk rfl ⟨by decide, by decide⟩ (Nat.le_of_ble_eq_true rfl) rfl rfl dX5_page_174 rfl ?_
      refine ww_iload_n 178 X dX5_page_177 rfl rfl ?_
      obtain ⟨x18, hx18, h⟩ := hb_bind_of h
      refine ww_callV (ci := 3) (rest := []) (st' := [.int x18]) 181 X (ct_X3_placesWith (hb_l Γ) G (hc_rf k 6) (hc_kr_5_6 hk) p1 x17 hx18) cw_X5_216 rfl (by decide) (hc_kr_5_6 hk) rfl ⟨by decide, by decide⟩ (Nat.le_of_ble_eq_true rfl) rfl rfl dX5_page_178 rfl ?_
      obtain rfl := Option.some.inj h
      exact ww_ret_i X hr K dX5_page_181
    rw [if_neg c8] at h
    by_cases c9 : p2 = 9
    · rw [if_pos c9] at h
      refine ww_tabIn (168) 182 X dX5_page_14 (by rw [c9]; decide) (by rw [c9]; decide) (by rw [c9]; rfl) (by decide) ?_
      refine ww_aload_n 183 X dX5_page_182 rfl rfl ?_
      obtain ⟨x19, hx19, h⟩ := hb_bind_of h
      refine ww_callV (ci := 5) (rest := []) (st' := [.ref (G.2.2.2 (hc_rf k 6))]) 186 X (ct_X5_surveyed (hb_l Γ) G k hk σ hx19) cw_X5_199 rfl (by decide) hk rfl ⟨by decide, by decide⟩ (Nat.le_of_ble_eq_true rfl) rfl rfl dX5_page_183 rfl ?_
      refine ww_iload_n 187 X dX5_page_186 rfl rfl ?_
      obtain ⟨x20, hx20, h⟩ := hb_bind_of h
      refine ww_callV (ci := 3) (rest := []) (st' := [.int x20]) 190 X (ct_X3_fewestChoicesTo (hb_l Γ) G (hc_rf k 6) (hc_kr_5_6 hk) p1 x19 hx20) cw_X5_219 rfl (by decide) (hc_kr_5_6 hk) rfl ⟨by decide, by decide⟩ (Nat.le_of_ble_eq_true rfl) rfl rfl dX5_page_187 rfl ?_
      obtain rfl := Option.some.inj h
      exact ww_ret_i X hr K dX5_page_190
    rw [if_neg c9] at h
    by_cases c10 : p2 = 10
    · rw [if_pos c10] at h
      refine ww_tabIn (177) 191 X dX5_page_14 (by rw [c10]; decide) (by rw [c10]; decide) (by rw [c10]; rfl) (by decide) ?_
      refine ww_aload_n 192 X dX5_page_191 rfl rfl ?_
      refine ww_getr (ci := 5) (j := 0) 195 X cf_5 tw_X5_12 (by decide) rfl hk dX5_page_192 rfl ?_
      refine ww_iload_n 196 X dX5_page_195 rfl rfl ?_
      obtain ⟨x21, hx21, h⟩ := hb_bind_of h
      refine ww_callV (ci := 2) (rest := []) (st' := [.int x21]) 199 X (ct_X2_choicesTo (hb_l Γ) G (hc_rf k 0) (hc_kr_5_0 hk) p1 σ hx21) cw_X5_128 rfl (by decide) (hc_kr_5_0 hk) rfl ⟨by decide, by decide⟩ (Nat.le_of_ble_eq_true rfl) rfl rfl dX5_page_196 rfl ?_
      obtain rfl := Option.some.inj h
      exact ww_ret_i X hr K dX5_page_199
    rw [if_neg c10] at h
    refine ww_tabOut 200 X dX5_page_14 (by have := hb_ne_toInt c0 (c := 0) rfl; have := hb_ne_toInt c1 (c := 1) rfl; have := hb_ne_toInt c2 (c := 2) rfl; have := hb_ne_toInt c3 (c := 3) rfl; have := hb_ne_toInt c4 (c := 4) rfl; have := hb_ne_toInt c5 (c := 5) rfl; have := hb_ne_toInt c6 (c := 6) rfl; have := hb_ne_toInt c7 (c := 7) rfl; have := hb_ne_toInt c8 (c := 8) rfl; have := hb_ne_toInt c9 (c := 9) rfl; have := hb_ne_toInt c10 (c := 10) rfl; omega) (by decide) ?_
    refine ww_bipush (v := (-2)) 202 X dX5_page_200 rfl (by decide) ?_
    obtain rfl := Option.some.inj h
    exact ww_ret_i X hr K dX5_page_202
theorem ct_X5_page (l : Launch) (G : hb_Gam) (k : Nat) (hk : hb_is ΛC k 5) (p1 : Int32) (p2 : Int32) (σ : hb_Mem) {x : (Int32 × hb_Mem)} (h : fn_X5_page k p1 p2 σ = some x) : hb_C l yX5_page cX5_page 3 (some .int) 7 161 ΛC G [.ref (G.2.2.2 k), .int p1, .int p2] σ (some (.int x.1)) x.2 :=
  hb_C.of [some (.ref (G.2.2.2 k)), some (.int p1), some (.int p2)] (by decide +kernel) (Nat.le_of_ble_eq_true rfl) (by intro v hv; simp only [List.mem_cons, List.not_mem_nil, or_false] at hv; rcases hv with rfl | rfl | rfl <;> rfl) rfl (hb_pad [.ref (G.2.2.2 k), .int p1, .int p2] 0) (fun Γ X hr => wk_X5_page X hr k hk p1 p2 σ h rfl)
