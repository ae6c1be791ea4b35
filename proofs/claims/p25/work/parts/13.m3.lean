/-! methods (laid by wip/p25/gen.py) -/
def fn_X5_choice (k : Nat) (p1 : Int32) (p2 : Int32) (p3 : Int32) (σ : hb_Mem) : Option (Int32 × hb_Mem) :=
(fn_X2_hasChoice (hc_rf k 0) p1 p2 σ).bind fun x1 =>
if x1 = 0 then (
some ((-1), σ))
else (
(fn_X5_slotOf p1 p2).bind fun x2 =>
if p3 = 0 then (
(fn_X1_at (hc_rf (hc_rf k 0) 5) x2 σ).bind fun x3 =>
some (x3, σ))
else if p3 = 1 then (
(fn_X1_at (hc_rf (hc_rf k 0) 6) x2 σ).bind fun x4 =>
some (x4, σ))
else if p3 = 2 then (
(fn_X1_at (hc_rf (hc_rf k 0) 7) x2 σ).bind fun x5 =>
some (x5, σ))
else if p3 = 3 then (
(fn_X5_surveyed k σ).bind fun x6 =>
(fn_X3_isEverOpen (hc_rf k 6) (hc_rf k 0) p1 p2 x6).bind fun x7 =>
(fn_X5_oneIf x7).bind fun x8 =>
some (x8, x6))
else (
some ((-2), σ)))
set_option maxRecDepth 100000 in
set_option maxHeartbeats 4000000 in
theorem wk_X5_choice {Γ : hb_Ctx} {G : hb_Gam} {Q : State → Prop} (X : hb_X Γ cX5_choice 5 RX5 ΛC G 7 161) (hr : hb_ret Γ = (some .int)) (k : Nat) (hk : hb_is ΛC k 5) (p1 : Int32) (p2 : Int32) (p3 : Int32) (σ : hb_Mem) {x : (Int32 × hb_Mem)} (h : fn_X5_choice k p1 p2 p3 σ = some x) (K : Q = hb_Q Γ ΛC G (some (.int x.1)) x.2) : hb_W Γ ΛC G 5 Q σ [some (.ref (G.2.2.2 k)), some (.int p1), some (.int p2), some (.int p3), none] [] 0 := by
  unfold fn_X5_choice at h
  refine ww_aload_n 1 X dX5_choice_0 rfl rfl ?_
  refine ww_getr (ci := 5) (j := 0) 4 X cf_5 tw_X5_12 (by decide) rfl hk dX5_choice_1 rfl ?_
  refine ww_iload_n 5 X dX5_choice_4 rfl rfl ?_
  refine ww_iload_n 6 X dX5_choice_5 rfl rfl ?_
  obtain ⟨x1, hx1, h⟩ := hb_bind_of h
  refine ww_callV (ci := 2) (rest := []) (st' := [.int x1]) 9 X (ct_X2_hasChoice (hb_l Γ) G (hc_rf k 0) (hc_kr_5_0 hk) p1 p2 σ hx1) cw_X5_117 rfl (by decide) (hc_kr_5_0 hk) rfl ⟨by decide, by decide⟩ (Nat.le_of_ble_eq_true rfl) rfl rfl dX5_choice_6 rfl ?_
  refine ww_if_ne 14 12 X dX5_choice_9 (by decide) rfl h (fun h => ?_) (fun h => ?_)
  · skip
    refine ww_iconst (v := (-1)) 13 X dX5_choice_12 rfl (by decide) ?_
    obtain rfl := Option.some.inj h
    exact ww_ret_i X hr K dX5_choice_13
  · skip
    refine ww_iload_n 15 X dX5_choice_14 rfl rfl ?_
    refine ww_iload_n 16 X dX5_choice_15 rfl rfl ?_
    obtain ⟨x2, hx2, h⟩ := hb_bind_of h
    refine ww_callS (rest := []) (st' := [.int x2]) 19 X (ct_X5_slotOf (hb_l Γ) G p1 p2 σ hx2) cw_X5_222 rfl ⟨by decide, by decide⟩ (Nat.le_of_ble_eq_true rfl) rfl rfl dX5_choice_16 rfl ?_
    refine ww_istore 21 X (L' := [some (.ref (G.2.2.2 k)), some (.int p1), some (.int p2), some (.int p3), some (.int x2)]) dX5_choice_19 rfl (Nat.le_of_ble_eq_true rfl) rfl rfl ?_
    refine ww_iload_n 22 X dX5_choice_21 rfl rfl ?_
    by_cases c0 : p3 = 0
    · rw [if_pos c0] at h
      refine ww_tabIn (30) 52 X dX5_choice_22 (by rw [c0]; decide) (by rw [c0]; decide) (by rw [c0]; rfl) (by decide) ?_
      refine ww_aload_n 53 X dX5_choice_52 rfl rfl ?_
      refine ww_getr (ci := 5) (j := 0) 56 X cf_5 tw_X5_12 (by decide) rfl hk dX5_choice_53 rfl ?_
      refine ww_getrN (ci := 2) (j := 5) 59 X cf_2 tw_X5_225 (by decide) rfl (hc_kr_5_0 hk) dX5_choice_56 rfl ?_
      refine ww_iload 61 X dX5_choice_59 rfl rfl ?_
      obtain ⟨x3, hx3, h⟩ := hb_bind_of h
      refine ww_callV (ci := 1) (rest := []) (st' := [.int x3]) 64 X (ct_X1_at (hb_l Γ) G (hc_rf (hc_rf k 0) 5) (hc_kr_2_5 (hc_kr_5_0 hk)) x2 σ hx3) cw_X5_72 rfl (by decide) (hc_kr_2_5 (hc_kr_5_0 hk)) rfl ⟨by decide, by decide⟩ (Nat.le_of_ble_eq_true rfl) rfl rfl dX5_choice_61 rfl ?_
      obtain rfl := Option.some.inj h
      exact ww_ret_i X hr K dX5_choice_64
    rw [if_neg c0] at h
    by_cases c1 : p3 = 1
    · rw [if_pos c1] at h
      refine ww_tabIn (43) 65 X dX5_choice_22 (by rw [c1]; decide) (by rw [c1]; decide) (by rw [c1]; rfl) (by decide) ?_
      refine ww_aload_n 66 X dX5_choice_65 rfl rfl ?_
      refine ww_getr (ci := 5) (j := 0) 69 X cf_5 tw_X5_12 (by decide) rfl hk dX5_choice_66 rfl ?_
      refine ww_getrN (ci := 2) (j := 6) 72 X cf_2 tw_X5_226 (by decide) rfl (hc_kr_5_0 hk) dX5_choice_69 rfl ?_
      refine ww_iload 74 X dX5_choice_72 rfl rfl ?_
      obtain ⟨x4, hx4, h⟩ := hb_bind_of h
      refine ww_callV (ci := 1) (rest := []) (st' := [.int x4]) 77 X (ct_X1_at (hb_l Γ) G (hc_rf (hc_rf k 0) 6) (hc_kr_2_6 (hc_kr_5_0 hk)) x2 σ hx4) cw_X5_72 rfl (by decide) (hc_kr_2_6 (hc_kr_5_0 hk)) rfl ⟨by decide, by decide⟩ (Nat.le_of_ble_eq_true rfl) rfl rfl dX5_choice_74 rfl ?_
      obtain rfl := Option.some.inj h
      exact ww_ret_i X hr K dX5_choice_77
    rw [if_neg c1] at h
    by_cases c2 : p3 = 2
    · rw [if_pos c2] at h
      refine ww_tabIn (56) 78 X dX5_choice_22 (by rw [c2]; decide) (by rw [c2]; decide) (by rw [c2]; rfl) (by decide) ?_
      refine ww_aload_n 79 X dX5_choice_78 rfl rfl ?_
      refine ww_getr (ci := 5) (j := 0) 82 X cf_5 tw_X5_12 (by decide) rfl hk dX5_choice_79 rfl ?_
      refine ww_getrN (ci := 2) (j := 7) 85 X cf_2 tw_X5_227 (by decide) rfl (hc_kr_5_0 hk) dX5_choice_82 rfl ?_
      refine ww_iload 87 X dX5_choice_85 rfl rfl ?_
      obtain ⟨x5, hx5, h⟩ := hb_bind_of h
      refine ww_callV (ci := 1) (rest := []) (st' := [.int x5]) 90 X (ct_X1_at (hb_l Γ) G (hc_rf (hc_rf k 0) 7) (hc_kr_2_7 (hc_kr_5_0 hk)) x2 σ hx5) cw_X5_72 rfl (by decide) (hc_kr_2_7 (hc_kr_5_0 hk)) rfl ⟨by decide, by decide⟩ (Nat.le_of_ble_eq_true rfl) rfl rfl dX5_choice_87 rfl ?_
      obtain rfl := Option.some.inj h
      exact ww_ret_i X hr K dX5_choice_90
    rw [if_neg c2] at h
    by_cases c3 : p3 = 3
    · rw [if_pos c3] at h
      refine ww_tabIn (69) 91 X dX5_choice_22 (by rw [c3]; decide) (by rw [c3]; decide) (by rw [c3]; rfl) (by decide) ?_
      refine ww_aload_n 92 X dX5_choice_91 rfl rfl ?_
      obtain ⟨x6, hx6, h⟩ := hb_bind_of h
      refine ww_callV (ci := 5) (rest := []) (st' := [.ref (G.2.2.2 (hc_rf k 6))]) 95 X (ct_X5_surveyed (hb_l Γ) G k hk σ hx6) cw_X5_199 rfl (by decide) hk rfl ⟨by decide, by decide⟩ (Nat.le_of_ble_eq_true rfl) rfl rfl dX5_choice_92 rfl ?_
      refine ww_aload_n 96 X dX5_choice_95 rfl rfl ?_
      refine ww_getr (ci := 5) (j := 0) 99 X cf_5 tw_X5_12 (by decide) rfl hk dX5_choice_96 rfl ?_
      refine ww_iload_n 100 X dX5_choice_99 rfl rfl ?_
      refine ww_iload_n 101 X dX5_choice_100 rfl rfl ?_
      obtain ⟨x7, hx7, h⟩ := hb_bind_of h
      refine ww_callV (ci := 3) (rest := []) (st' := [.int x7]) 104 X (ct_X3_isEverOpen (hb_l Γ) G (hc_rf k 6) (hc_kr_5_6 hk) (hc_rf k 0) (hc_kr_5_0 hk) p1 p2 x6 hx7) cw_X5_228 rfl (by decide) (hc_kr_5_6 hk) rfl ⟨by decide, by decide⟩ (Nat.le_of_ble_eq_true rfl) rfl rfl dX5_choice_101 rfl ?_
      obtain ⟨x8, hx8, h⟩ := hb_bind_of h
      refine ww_callS (rest := []) (st' := [.int x8]) 107 X (ct_X5_oneIf (hb_l Γ) G x7 x6 hx8) cw_X5_206 rfl ⟨by decide, by decide⟩ (Nat.le_of_ble_eq_true rfl) rfl rfl dX5_choice_104 rfl ?_
      obtain rfl := Option.some.inj h
      exact ww_ret_i X hr K dX5_choice_107
    rw [if_neg c3] at h
    refine ww_tabOut 108 X dX5_choice_22 (by have := hb_ne_toInt c0 (c := 0) rfl; have := hb_ne_toInt c1 (c := 1) rfl; have := hb_ne_toInt c2 (c := 2) rfl; have := hb_ne_toInt c3 (c := 3) rfl; omega) (by decide) ?_
    refine ww_bipush (v := (-2)) 110 X dX5_choice_108 rfl (by decide) ?_
    obtain rfl := Option.some.inj h
    exact ww_ret_i X hr K dX5_choice_110
theorem ct_X5_choice (l : Launch) (G : hb_Gam) (k : Nat) (hk : hb_is ΛC k 5) (p1 : Int32) (p2 : Int32) (p3 : Int32) (σ : hb_Mem) {x : (Int32 × hb_Mem)} (h : fn_X5_choice k p1 p2 p3 σ = some x) : hb_C l yX5_choice cX5_choice 5 (some .int) 7 161 ΛC G [.ref (G.2.2.2 k), .int p1, .int p2, .int p3] σ (some (.int x.1)) x.2 :=
  hb_C.of [some (.ref (G.2.2.2 k)), some (.int p1), some (.int p2), some (.int p3), none] (by decide +kernel) (Nat.le_of_ble_eq_true rfl) (by intro v hv; simp only [List.mem_cons, List.not_mem_nil, or_false] at hv; rcases hv with rfl | rfl | rfl | rfl <;> rfl) rfl (hb_pad [.ref (G.2.2.2 k), .int p1, .int p2, .int p3] 1) (fun Γ X hr => wk_X5_choice X hr k hk p1 p2 p3 σ h rfl)
def fn_X5_reader (k : Nat) (p1 : Int32) (p2 : Int32) (σ : hb_Mem) : Option Int32 :=
(fn_X5_isReader p1).bind fun x1 =>
if x1 = 0 then (
some (-1))
else (
if p2 < 0 then (
some (-2))
else (
if p2 ≤ 3 then (
(fn_X1_at (hc_rf (hc_rf k 0) 8) p1 σ).bind fun x2 =>
if x2 = (-1) then (
some (-5))
else (
if p2 = 0 then (
(fn_X5_pageAt x2).bind fun x3 =>
some x3)
else if p2 = 1 then (
(fn_X5_flagsAt x2).bind fun x4 =>
some x4)
else if p2 = 2 then (
(fn_X2_openChoices (hc_rf k 0) x2 σ).bind fun x5 =>
some x5)
else (
(fn_X1_at (hc_rf (hc_rf k 0) 9) p1 σ).bind fun x6 =>
some x6)))
else (
some (-2))))
set_option maxRecDepth 100000 in
set_option maxHeartbeats 4000000 in
theorem wk_X5_reader {Γ : hb_Ctx} {G : hb_Gam} {Q : State → Prop} (X : hb_X Γ cX5_reader 4 RX5 ΛC G 3 69) (hr : hb_ret Γ = (some .int)) (k : Nat) (hk : hb_is ΛC k 5) (p1 : Int32) (p2 : Int32) (σ : hb_Mem) {x : Int32} (h : fn_X5_reader k p1 p2 σ = some x) (K : Q = hb_Q Γ ΛC G (some (.int x)) σ) : hb_W Γ ΛC G 4 Q σ [some (.ref (G.2.2.2 k)), some (.int p1), some (.int p2), none] [] 0 := by
  unfold fn_X5_reader at h
  refine ww_iload_n 1 X dX5_reader_0 rfl rfl ?_
  obtain ⟨x1, hx1, h⟩ := hb_bind_of h
  refine ww_callS (rest := []) (st' := [.int x1]) 4 X (ct_X5_isReader (hb_l Γ) G p1 σ hx1) cw_X5_131 rfl ⟨by decide, by decide⟩ (Nat.le_of_ble_eq_true rfl) rfl rfl dX5_reader_1 rfl ?_
  refine ww_if_ne 9 7 X dX5_reader_4 (by decide) rfl h (fun h => ?_) (fun h => ?_)
  · skip
    refine ww_iconst (v := (-1)) 8 X dX5_reader_7 rfl (by decide) ?_
    obtain rfl := Option.some.inj h
    exact ww_ret_i X hr K dX5_reader_8
  · skip
    refine ww_iload_n 10 X dX5_reader_9 rfl rfl ?_
    refine ww_if_lt 18 13 X dX5_reader_10 (by decide) rfl h (fun h => ?_) (fun h => ?_)
    · skip
      refine ww_bipush (v := (-2)) 20 X dX5_reader_18 rfl (by decide) ?_
      obtain rfl := Option.some.inj h
      exact ww_ret_i X hr K dX5_reader_20
    · skip
      refine ww_iload_n 14 X dX5_reader_13 rfl rfl ?_
      refine ww_iconst (v := 3) 15 X dX5_reader_14 rfl (by decide) ?_
      refine ww_icmp_le 21 18 X dX5_reader_15 (by decide) rfl h (fun h => ?_) (fun h => ?_)
      · skip
        refine ww_aload_n 22 X dX5_reader_21 rfl rfl ?_
        refine ww_getr (ci := 5) (j := 0) 25 X cf_5 tw_X5_12 (by decide) rfl hk dX5_reader_22 rfl ?_
        refine ww_getrN (ci := 2) (j := 8) 28 X cf_2 tw_X5_151 (by decide) rfl (hc_kr_5_0 hk) dX5_reader_25 rfl ?_
        refine ww_iload_n 29 X dX5_reader_28 rfl rfl ?_
        obtain ⟨x2, hx2, h⟩ := hb_bind_of h
        refine ww_callV (ci := 1) (rest := []) (st' := [.int x2]) 32 X (ct_X1_at (hb_l Γ) G (hc_rf (hc_rf k 0) 8) (hc_kr_2_8 (hc_kr_5_0 hk)) p1 σ hx2) cw_X5_72 rfl (by decide) (hc_kr_2_8 (hc_kr_5_0 hk)) rfl ⟨by decide, by decide⟩ (Nat.le_of_ble_eq_true rfl) rfl rfl dX5_reader_29 rfl ?_
        refine ww_istore_n 33 X (L' := [some (.ref (G.2.2.2 k)), some (.int p1), some (.int p2), some (.int x2)]) dX5_reader_32 rfl (Nat.le_of_ble_eq_true rfl) rfl rfl ?_
        refine ww_iload_n 34 X dX5_reader_33 rfl rfl ?_
        refine ww_iconst (v := (-1)) 35 X dX5_reader_34 rfl (by decide) ?_
        refine ww_icmp_ne 41 38 X dX5_reader_35 (by decide) rfl h (fun h => ?_) (fun h => ?_)
        · skip
          refine ww_bipush (v := (-5)) 40 X dX5_reader_38 rfl (by decide) ?_
          obtain rfl := Option.some.inj h
          exact ww_ret_i X hr K dX5_reader_40
        · skip
          refine ww_iload_n 42 X dX5_reader_41 rfl rfl ?_
          by_cases c0 : p2 = 0
          · rw [if_pos c0] at h
            refine ww_tabIn (26) 68 X dX5_reader_42 (by rw [c0]; decide) (by rw [c0]; decide) (by rw [c0]; rfl) (by decide) ?_
            refine ww_iload_n 69 X dX5_reader_68 rfl rfl ?_
            obtain ⟨x3, hx3, h⟩ := hb_bind_of h
            refine ww_callS (rest := []) (st' := [.int x3]) 72 X (ct_X5_pageAt (hb_l Γ) G x2 σ hx3) cw_X5_160 rfl ⟨by decide, by decide⟩ (Nat.le_of_ble_eq_true rfl) rfl rfl dX5_reader_69 rfl ?_
            obtain rfl := Option.some.inj h
            exact ww_ret_i X hr K dX5_reader_72
          rw [if_neg c0] at h
          by_cases c1 : p2 = 1
          · rw [if_pos c1] at h
            refine ww_tabIn (31) 73 X dX5_reader_42 (by rw [c1]; decide) (by rw [c1]; decide) (by rw [c1]; rfl) (by decide) ?_
            refine ww_iload_n 74 X dX5_reader_73 rfl rfl ?_
            obtain ⟨x4, hx4, h⟩ := hb_bind_of h
            refine ww_callS (rest := []) (st' := [.int x4]) 77 X (ct_X5_flagsAt (hb_l Γ) G x2 σ hx4) cw_X5_142 rfl ⟨by decide, by decide⟩ (Nat.le_of_ble_eq_true rfl) rfl rfl dX5_reader_74 rfl ?_
            obtain rfl := Option.some.inj h
            exact ww_ret_i X hr K dX5_reader_77
          rw [if_neg c1] at h
          by_cases c2 : p2 = 2
          · rw [if_pos c2] at h
            refine ww_tabIn (36) 78 X dX5_reader_42 (by rw [c2]; decide) (by rw [c2]; decide) (by rw [c2]; rfl) (by decide) ?_
            refine ww_aload_n 79 X dX5_reader_78 rfl rfl ?_
            refine ww_getr (ci := 5) (j := 0) 82 X cf_5 tw_X5_12 (by decide) rfl hk dX5_reader_79 rfl ?_
            refine ww_iload_n 83 X dX5_reader_82 rfl rfl ?_
            obtain ⟨x5, hx5, h⟩ := hb_bind_of h
            refine ww_callV (ci := 2) (rest := []) (st' := [.int x5]) 86 X (ct_X2_openChoices (hb_l Γ) G (hc_rf k 0) (hc_kr_5_0 hk) x2 σ hx5) cw_X5_232 rfl (by decide) (hc_kr_5_0 hk) rfl ⟨by decide, by decide⟩ (Nat.le_of_ble_eq_true rfl) rfl rfl dX5_reader_83 rfl ?_
            obtain rfl := Option.some.inj h
            exact ww_ret_i X hr K dX5_reader_86
          rw [if_neg c2] at h
          refine ww_tabOut 87 X dX5_reader_42 (by have := hb_ne_toInt c0 (c := 0) rfl; have := hb_ne_toInt c1 (c := 1) rfl; have := hb_ne_toInt c2 (c := 2) rfl; omega) (by decide) ?_
          refine ww_aload_n 88 X dX5_reader_87 rfl rfl ?_
          refine ww_getr (ci := 5) (j := 0) 91 X cf_5 tw_X5_12 (by decide) rfl hk dX5_reader_88 rfl ?_
          refine ww_getrN (ci := 2) (j := 9) 94 X cf_2 tw_X5_157 (by decide) rfl (hc_kr_5_0 hk) dX5_reader_91 rfl ?_
          refine ww_iload_n 95 X dX5_reader_94 rfl rfl ?_
          obtain ⟨x6, hx6, h⟩ := hb_bind_of h
          refine ww_callV (ci := 1) (rest := []) (st' := [.int x6]) 98 X (ct_X1_at (hb_l Γ) G (hc_rf (hc_rf k 0) 9) (hc_kr_2_9 (hc_kr_5_0 hk)) p1 σ hx6) cw_X5_72 rfl (by decide) (hc_kr_2_9 (hc_kr_5_0 hk)) rfl ⟨by decide, by decide⟩ (Nat.le_of_ble_eq_true rfl) rfl rfl dX5_reader_95 rfl ?_
          obtain rfl := Option.some.inj h
          exact ww_ret_i X hr K dX5_reader_98
      · skip
        refine ww_bipush (v := (-2)) 20 X dX5_reader_18 rfl (by decide) ?_
        obtain rfl := Option.some.inj h
        exact ww_ret_i X hr K dX5_reader_20
theorem ct_X5_reader (l : Launch) (G : hb_Gam) (k : Nat) (hk : hb_is ΛC k 5) (p1 : Int32) (p2 : Int32) (σ : hb_Mem) {x : Int32} (h : fn_X5_reader k p1 p2 σ = some x) : hb_C l yX5_reader cX5_reader 4 (some .int) 3 69 ΛC G [.ref (G.2.2.2 k), .int p1, .int p2] σ (some (.int x)) σ :=
  hb_C.of [some (.ref (G.2.2.2 k)), some (.int p1), some (.int p2), none] (by decide +kernel) (Nat.le_of_ble_eq_true rfl) (by intro v hv; simp only [List.mem_cons, List.not_mem_nil, or_false] at hv; rcases hv with rfl | rfl | rfl <;> rfl) rfl (hb_pad [.ref (G.2.2.2 k), .int p1, .int p2] 1) (fun Γ X hr => wk_X5_reader X hr k hk p1 p2 σ h rfl)
def fn_X5_why (k : Nat) (p1 : Int32) (p2 : Int32) (σ : hb_Mem) : Option Int32 :=
(fn_X5_isReader p1).bind fun x1 =>
if x1 = 0 then (
some (-1))
else (
(fn_X5_isChoiceNumber p2).bind fun x2 =>
if x2 = 0 then (
some (-2))
else (
(fn_X2_reasonAgainst (hc_rf k 0) p1 p2 σ).bind fun x3 =>
some x3))
set_option maxRecDepth 100000 in
set_option maxHeartbeats 4000000 in
theorem wk_X5_why {Γ : hb_Ctx} {G : hb_Gam} {Q : State → Prop} (X : hb_X Γ cX5_why 3 RX5 ΛC G 3 69) (hr : hb_ret Γ = (some .int)) (k : Nat) (hk : hb_is ΛC k 5) (p1 : Int32) (p2 : Int32) (σ : hb_Mem) {x : Int32} (h : fn_X5_why k p1 p2 σ = some x) (K : Q = hb_Q Γ ΛC G (some (.int x)) σ) : hb_W Γ ΛC G 3 Q σ [some (.ref (G.2.2.2 k)), some (.int p1), some (.int p2)] [] 0 := by
  unfold fn_X5_why at h
  refine ww_iload_n 1 X dX5_why_0 rfl rfl ?_
  obtain ⟨x1, hx1, h⟩ := hb_bind_of h
  refine ww_callS (rest := []) (st' := [.int x1]) 4 X (ct_X5_isReader (hb_l Γ) G p1 σ hx1) cw_X5_131 rfl ⟨by decide, by decide⟩ (Nat.le_of_ble_eq_true rfl) rfl rfl dX5_why_1 rfl ?_
  refine ww_if_ne 9 7 X dX5_why_4 (by decide) rfl h (fun h => ?_) (fun h => ?_)
  · skip
    refine ww_iconst (v := (-1)) 8 X dX5_why_7 rfl (by decide) ?_
    obtain rfl := Option.some.inj h
    exact ww_ret_i X hr K dX5_why_8
  · skip
    refine ww_iload_n 10 X dX5_why_9 rfl rfl ?_
    obtain ⟨x2, hx2, h⟩ := hb_bind_of h
    refine ww_callS (rest := []) (st' := [.int x2]) 13 X (ct_X5_isChoiceNumber (hb_l Γ) G p2 σ hx2) cw_X5_145 rfl ⟨by decide, by decide⟩ (Nat.le_of_ble_eq_true rfl) rfl rfl dX5_why_10 rfl ?_
    refine ww_if_ne 19 16 X dX5_why_13 (by decide) rfl h (fun h => ?_) (fun h => ?_)
    · skip
      refine ww_bipush (v := (-2)) 18 X dX5_why_16 rfl (by decide) ?_
      obtain rfl := Option.some.inj h
      exact ww_ret_i X hr K dX5_why_18
    · skip
      refine ww_aload_n 20 X dX5_why_19 rfl rfl ?_
      refine ww_getr (ci := 5) (j := 0) 23 X cf_5 tw_X5_12 (by decide) rfl hk dX5_why_20 rfl ?_
      refine ww_iload_n 24 X dX5_why_23 rfl rfl ?_
      refine ww_iload_n 25 X dX5_why_24 rfl rfl ?_
      obtain ⟨x3, hx3, h⟩ := hb_bind_of h
      refine ww_callV (ci := 2) (rest := []) (st' := [.int x3]) 28 X (ct_X2_reasonAgainst (hb_l Γ) G (hc_rf k 0) (hc_kr_5_0 hk) p1 p2 σ hx3) cw_X5_148 rfl (by decide) (hc_kr_5_0 hk) rfl ⟨by decide, by decide⟩ (Nat.le_of_ble_eq_true rfl) rfl rfl dX5_why_25 rfl ?_
      obtain rfl := Option.some.inj h
      exact ww_ret_i X hr K dX5_why_28
theorem ct_X5_why (l : Launch) (G : hb_Gam) (k : Nat) (hk : hb_is ΛC k 5) (p1 : Int32) (p2 : Int32) (σ : hb_Mem) {x : Int32} (h : fn_X5_why k p1 p2 σ = some x) : hb_C l yX5_why cX5_why 3 (some .int) 3 69 ΛC G [.ref (G.2.2.2 k), .int p1, .int p2] σ (some (.int x)) σ :=
  hb_C.of [some (.ref (G.2.2.2 k)), some (.int p1), some (.int p2)] (by decide +kernel) (Nat.le_of_ble_eq_true rfl) (by intro v hv; simp only [List.mem_cons, List.not_mem_nil, or_false] at hv; rcases hv with rfl | rfl | rfl <;> rfl) rfl (hb_pad [.ref (G.2.2.2 k), .int p1, .int p2] 0) (fun Γ X hr => wk_X5_why X hr k hk p1 p2 σ h rfl)
def fn_X5_way (k : Nat) (p1 : Int32) (p2 : Int32) (σ : hb_Mem) : Option (Int32 × hb_Mem) :=
if p1 < 0 then (
some ((-2), σ))
else (
if p2 < 0 then (
some ((-2), σ))
else (
if p2 ≤ 2 then (
(fn_X5_surveyed k σ).bind fun x1 =>
if p1 ≤ (x1 (hc_rf k 6) 10) then (
if p2 = 0 then (
(fn_X1_at (hc_rf (hc_rf k 6) 11) p1 x1).bind fun x2 =>
(fn_X5_pageAt x2).bind fun x3 =>
some (x3, x1))
else if p2 = 1 then (
(fn_X1_at (hc_rf (hc_rf k 6) 11) p1 x1).bind fun x4 =>
(fn_X5_flagsAt x4).bind fun x5 =>
some (x5, x1))
else (
(fn_X3_choiceOnWay (hc_rf k 6) p1 x1).bind fun x6 =>
some (x6, x1)))
else (
some ((-5), x1)))
else (
some ((-2), σ))))
set_option maxRecDepth 100000 in
set_option maxHeartbeats 4000000 in
theorem wk_X5_way {Γ : hb_Ctx} {G : hb_Gam} {Q : State → Prop} (X : hb_X Γ cX5_way 4 RX5 ΛC G 7 161) (hr : hb_ret Γ = (some .int)) (k : Nat) (hk : hb_is ΛC k 5) (p1 : Int32) (p2 : Int32) (σ : hb_Mem) {x : (Int32 × hb_Mem)} (h : fn_X5_way k p1 p2 σ = some x) (K : Q = hb_Q Γ ΛC G (some (.int x.1)) x.2) : hb_W Γ ΛC G 4 Q σ [some (.ref (G.2.2.2 k)), some (.int p1), some (.int p2), none] [] 0 := by
  unfold fn_X5_way at h
  refine ww_iload_n 1 X dX5_way_0 rfl rfl ?_
  refine ww_if_lt 13 4 X dX5_way_1 (by decide) rfl h (fun h => ?_) (fun h => ?_)
  · skip
    refine ww_bipush (v := (-2)) 15 X dX5_way_13 rfl (by decide) ?_
    obtain rfl := Option.some.inj h
    exact ww_ret_i X hr K dX5_way_15
  · skip
    refine ww_iload_n 5 X dX5_way_4 rfl rfl ?_
    refine ww_if_lt 13 8 X dX5_way_5 (by decide) rfl h (fun h => ?_) (fun h => ?_)
    · skip
      refine ww_bipush (v := (-2)) 15 X dX5_way_13 rfl (by decide) ?_
      obtain rfl := Option.some.inj h
      exact ww_ret_i X hr K dX5_way_15
    · skip
      refine ww_iload_n 9 X dX5_way_8 rfl rfl ?_
      refine ww_iconst (v := 2) 10 X dX5_way_9 rfl (by decide) ?_
      refine ww_icmp_le 16 13 X dX5_way_10 (by decide) rfl h (fun h => ?_) (fun h => ?_)
      · skip
        refine ww_aload_n 17 X dX5_way_16 rfl rfl ?_
        obtain ⟨x1, hx1, h⟩ := hb_bind_of h
        refine ww_callV (ci := 5) (rest := []) (st' := [.ref (G.2.2.2 (hc_rf k 6))]) 20 X (ct_X5_surveyed (hb_l Γ) G k hk σ hx1) cw_X5_199 rfl (by decide) hk rfl ⟨by decide, by decide⟩ (Nat.le_of_ble_eq_true rfl) rfl rfl dX5_way_17 rfl ?_
        refine ww_astore_n 21 X (L' := [some (.ref (G.2.2.2 k)), some (.int p1), some (.int p2), some (.ref (G.2.2.2 (hc_rf k 6)))]) dX5_way_20 rfl (Nat.le_of_ble_eq_true rfl) rfl rfl ?_
        refine ww_iload_n 22 X dX5_way_21 rfl rfl ?_
        refine ww_aload_n 23 X dX5_way_22 rfl rfl ?_
        refine ww_getiN (ci := 3) (j := 10) 26 X cf_3 tw_X5_235 (by decide) rfl (hc_kr_5_6 hk) dX5_way_23 rfl ?_
        refine ww_icmp_le 32 29 X dX5_way_26 (by decide) rfl h (fun h => ?_) (fun h => ?_)
        · skip
          refine ww_iload_n 33 X dX5_way_32 rfl rfl ?_
          by_cases c0 : p2 = 0
          · rw [if_pos c0] at h
            refine ww_look (27) 60 X dX5_way_33 (by decide) (by rw [c0]; rfl) (by decide) ?_
            refine ww_aload_n 61 X dX5_way_60 rfl rfl ?_
            refine ww_getrN (ci := 3) (j := 11) 64 X cf_3 tw_X5_238 (by decide) rfl (hc_kr_5_6 hk) dX5_way_61 rfl ?_
            refine ww_iload_n 65 X dX5_way_64 rfl rfl ?_
            obtain ⟨x2, hx2, h⟩ := hb_bind_of h
            refine ww_callV (ci := 1) (rest := []) (st' := [.int x2]) 68 X (ct_X1_at (hb_l Γ) G (hc_rf (hc_rf k 6) 11) (hc_kr_3_11 (hc_kr_5_6 hk)) p1 x1 hx2) cw_X5_72 rfl (by decide) (hc_kr_3_11 (hc_kr_5_6 hk)) rfl ⟨by decide, by decide⟩ (Nat.le_of_ble_eq_true rfl) rfl rfl dX5_way_65 rfl ?_
            obtain ⟨x3, hx3, h⟩ := hb_bind_of h
            refine ww_callS (rest := []) (st' := [.int x3]) 71 X (ct_X5_pageAt (hb_l Γ) G x2 x1 hx3) cw_X5_160 rfl ⟨by decide, by decide⟩ (Nat.le_of_ble_eq_true rfl) rfl rfl dX5_way_68 rfl ?_
            obtain rfl := Option.some.inj h
            exact ww_ret_i X hr K dX5_way_71
          rw [if_neg c0] at h
          by_cases c1 : p2 = 1
          · rw [if_pos c1] at h
            refine ww_look (39) 72 X dX5_way_33 (by decide) (by rw [c1]; rfl) (by decide) ?_
            refine ww_aload_n 73 X dX5_way_72 rfl rfl ?_
            refine ww_getrN (ci := 3) (j := 11) 76 X cf_3 tw_X5_238 (by decide) rfl (hc_kr_5_6 hk) dX5_way_73 rfl ?_
            refine ww_iload_n 77 X dX5_way_76 rfl rfl ?_
            obtain ⟨x4, hx4, h⟩ := hb_bind_of h
            refine ww_callV (ci := 1) (rest := []) (st' := [.int x4]) 80 X (ct_X1_at (hb_l Γ) G (hc_rf (hc_rf k 6) 11) (hc_kr_3_11 (hc_kr_5_6 hk)) p1 x1 hx4) cw_X5_72 rfl (by decide) (hc_kr_3_11 (hc_kr_5_6 hk)) rfl ⟨by decide, by decide⟩ (Nat.le_of_ble_eq_true rfl) rfl rfl dX5_way_77 rfl ?_
            obtain ⟨x5, hx5, h⟩ := hb_bind_of h
            refine ww_callS (rest := []) (st' := [.int x5]) 83 X (ct_X5_flagsAt (hb_l Γ) G x4 x1 hx5) cw_X5_142 rfl ⟨by decide, by decide⟩ (Nat.le_of_ble_eq_true rfl) rfl rfl dX5_way_80 rfl ?_
            obtain rfl := Option.some.inj h
            exact ww_ret_i X hr K dX5_way_83
          rw [if_neg c1] at h
          refine ww_look (51) 84 X dX5_way_33 (by decide) ((lv_osw c0 rfl).trans ((lv_osw c1 rfl).trans rfl)) (by decide) ?_
          refine ww_aload_n 85 X dX5_way_84 rfl rfl ?_
          refine ww_iload_n 86 X dX5_way_85 rfl rfl ?_
          obtain ⟨x6, hx6, h⟩ := hb_bind_of h
          refine ww_callV (ci := 3) (rest := []) (st' := [.int x6]) 89 X (ct_X3_choiceOnWay (hb_l Γ) G (hc_rf k 6) (hc_kr_5_6 hk) p1 x1 hx6) cw_X5_241 rfl (by decide) (hc_kr_5_6 hk) rfl ⟨by decide, by decide⟩ (Nat.le_of_ble_eq_true rfl) rfl rfl dX5_way_86 rfl ?_
          obtain rfl := Option.some.inj h
          exact ww_ret_i X hr K dX5_way_89
        · skip
          refine ww_bipush (v := (-5)) 31 X dX5_way_29 rfl (by decide) ?_
          obtain rfl := Option.some.inj h
          exact ww_ret_i X hr K dX5_way_31
      · skip
        refine ww_bipush (v := (-2)) 15 X dX5_way_13 rfl (by decide) ?_
        obtain rfl := Option.some.inj h
        exact ww_ret_i X hr K dX5_way_15
theorem ct_X5_way (l : Launch) (G : hb_Gam) (k : Nat) (hk : hb_is ΛC k 5) (p1 : Int32) (p2 : Int32) (σ : hb_Mem) {x : (Int32 × hb_Mem)} (h : fn_X5_way k p1 p2 σ = some x) : hb_C l yX5_way cX5_way 4 (some .int) 7 161 ΛC G [.ref (G.2.2.2 k), .int p1, .int p2] σ (some (.int x.1)) x.2 :=
  hb_C.of [some (.ref (G.2.2.2 k)), some (.int p1), some (.int p2), none] (by decide +kernel) (Nat.le_of_ble_eq_true rfl) (by intro v hv; simp only [List.mem_cons, List.not_mem_nil, or_false] at hv; rcases hv with rfl | rfl | rfl <;> rfl) rfl (hb_pad [.ref (G.2.2.2 k), .int p1, .int p2] 1) (fun Γ X hr => wk_X5_way X hr k hk p1 p2 σ h rfl)
def lb_X5_wayMood_19 (k : Nat) (w2 : UInt32) (w3 : Int32) (σ : hb_Mem) : Option ((UInt32 × Int32) ⊕ UInt32) :=
if (σ (hc_rf k 6) 10) < w3 then (
some (.inr w2))
else (
if 1024 ≤ w3 then (
some (.inr w2))
else (
(fn_X1_at (hc_rf (hc_rf k 6) 11) w3 σ).bind fun x2 =>
(fn_X5_pageAt x2).bind fun x3 =>
(fn_X2_moodOf (hc_rf k 0) x3 σ).bind fun x4 =>
(hb_nn (FP.fadd w2 x4)).bind fun z5 =>
hb_nm (w3 + 1) fun v6 =>
some (.inl (z5, v6))))
set_option maxRecDepth 100000 in
set_option maxHeartbeats 4000000 in
theorem lk_X5_wayMood_19 {Γ : hb_Ctx} {G : hb_Gam} {Q : State → Prop} (X : hb_X Γ cX5_wayMood 4 RX5 ΛC G 7 161)  (k : Nat) (hk : hb_is ΛC k 5) (w2 : UInt32) (w3 : Int32) (σ : hb_Mem) {x : ((UInt32 × Int32) ⊕ UInt32)} (h : lb_X5_wayMood_19 k w2 w3 σ = some x) (K : Sum.elim (fun s : (UInt32 × Int32) => hb_W Γ ΛC G 4 Q σ [some (.ref (G.2.2.2 k)), some (.ref (G.2.2.2 (hc_rf k 6))), some (.float s.1), some (.int s.2)] [] 19) (fun t : UInt32 => hb_W Γ ΛC G 4 Q σ [none, none, some (.float t), none] [] 61) x) : hb_W Γ ΛC G 4 Q σ [some (.ref (G.2.2.2 k)), some (.ref (G.2.2.2 (hc_rf k 6))), some (.float w2), some (.int w3)] [] 19 := by
  unfold lb_X5_wayMood_19 at h
  refine ww_iload_n 20 X dX5_wayMood_19 rfl rfl ?_
  refine ww_aload_n 21 X dX5_wayMood_20 rfl rfl ?_
  refine ww_getiN (ci := 3) (j := 10) 24 X cf_3 tw_X5_235 (by decide) rfl (hc_kr_5_6 hk) dX5_wayMood_21 rfl ?_
  refine ww_icmp_gt 61 27 X dX5_wayMood_24 (by decide) rfl h (fun h => ?_) (fun h => ?_)
  · skip
    obtain rfl := Option.some.inj h
    refine ww_kill [0, 1, 3] (L' := [none, none, some (.float w2), none]) rfl ?_
    exact K
  · skip
    refine ww_iload_n 28 X dX5_wayMood_27 rfl rfl ?_
    refine ww_sipush (v := 1024) 31 X dX5_wayMood_28 rfl (by decide) ?_
    refine ww_icmp_ge 61 34 X dX5_wayMood_31 (by decide) rfl h (fun h => ?_) (fun h => ?_)
    · skip
      obtain rfl := Option.some.inj h
      refine ww_kill [0, 1, 3] (L' := [none, none, some (.float w2), none]) rfl ?_
      exact K
    · skip
      refine ww_fload_n 35 X dX5_wayMood_34 rfl rfl ?_
      refine ww_aload_n 36 X dX5_wayMood_35 rfl rfl ?_
      refine ww_getr (ci := 5) (j := 0) 39 X cf_5 tw_X5_12 (by decide) rfl hk dX5_wayMood_36 rfl ?_
      refine ww_aload_n 40 X dX5_wayMood_39 rfl rfl ?_
      refine ww_getrN (ci := 3) (j := 11) 43 X cf_3 tw_X5_238 (by decide) rfl (hc_kr_5_6 hk) dX5_wayMood_40 rfl ?_
      refine ww_iload_n 44 X dX5_wayMood_43 rfl rfl ?_
      obtain ⟨x2, hx2, h⟩ := hb_bind_of h
      refine ww_callV (ci := 1) (rest := [.ref (G.2.2.2 (hc_rf k 0)), .float w2]) (st' := [.int x2, .ref (G.2.2.2 (hc_rf k 0)), .float w2]) 47 X (ct_X1_at (hb_l Γ) G (hc_rf (hc_rf k 6) 11) (hc_kr_3_11 (hc_kr_5_6 hk)) w3 σ hx2) cw_X5_72 rfl (by decide) (hc_kr_3_11 (hc_kr_5_6 hk)) rfl ⟨by decide, by decide⟩ (Nat.le_of_ble_eq_true rfl) rfl rfl dX5_wayMood_44 rfl ?_
      obtain ⟨x3, hx3, h⟩ := hb_bind_of h
      refine ww_callS (rest := [.ref (G.2.2.2 (hc_rf k 0)), .float w2]) (st' := [.int x3, .ref (G.2.2.2 (hc_rf k 0)), .float w2]) 50 X (ct_X5_pageAt (hb_l Γ) G x2 σ hx3) cw_X5_160 rfl ⟨by decide, by decide⟩ (Nat.le_of_ble_eq_true rfl) rfl rfl dX5_wayMood_47 rfl ?_
      obtain ⟨x4, hx4, h⟩ := hb_bind_of h
      refine ww_callV (ci := 2) (rest := [.float w2]) (st' := [.float x4, .float w2]) 53 X (ct_X2_moodOf (hb_l Γ) G (hc_rf k 0) (hc_kr_5_0 hk) x3 σ hx4) cw_X5_188 rfl (by decide) (hc_kr_5_0 hk) rfl ⟨by decide, by decide⟩ (Nat.le_of_ble_eq_true rfl) rfl rfl dX5_wayMood_50 rfl ?_
      obtain ⟨z5, hz5, h⟩ := hb_bind_of h
      refine ww_fadd 54 X dX5_wayMood_53 rfl hz5 ?_
      refine ww_fstore_n 55 X (L' := [some (.ref (G.2.2.2 k)), some (.ref (G.2.2.2 (hc_rf k 6))), some (.float z5), some (.int w3)]) dX5_wayMood_54 rfl (Nat.le_of_ble_eq_true rfl) rfl rfl ?_
      obtain ⟨v6, ev6, h⟩ := hb_nm_of h
      refine ww_iinc 58 X (L' := [some (.ref (G.2.2.2 k)), some (.ref (G.2.2.2 (hc_rf k 6))), some (.float z5), some (.int v6)]) dX5_wayMood_55 rfl rfl ev6.symm rfl ?_
      refine ww_goto 19 X dX5_wayMood_58 (by decide) ?_
      obtain rfl := Option.some.inj h
      exact K
def ll_X5_wayMood_19 (k : Nat) (σ : hb_Mem) : (UInt32 × Int32) → Option UInt32 := hb_lp (fun s => lb_X5_wayMood_19 k s.1 s.2 σ) hb_F
theorem lw_X5_wayMood_19 {Γ : hb_Ctx} {G : hb_Gam} {Q : State → Prop} (X : hb_X Γ cX5_wayMood 4 RX5 ΛC G 7 161)  (k : Nat) (hk : hb_is ΛC k 5) (σ : hb_Mem) (s : (UInt32 × Int32)) (t : UInt32) (h : ll_X5_wayMood_19 k σ s = some t) (K : (fun t : UInt32 => hb_W Γ ΛC G 4 Q σ [none, none, some (.float t), none] [] 61) t) : hb_W Γ ΛC G 4 Q σ [some (.ref (G.2.2.2 k)), some (.ref (G.2.2.2 (hc_rf k 6))), some (.float s.1), some (.int s.2)] [] 19 :=
  hb_lp_w (P := fun s : (UInt32 × Int32) => hb_W Γ ΛC G 4 Q σ [some (.ref (G.2.2.2 k)), some (.ref (G.2.2.2 (hc_rf k 6))), some (.float s.1), some (.int s.2)] [] 19) (E := (fun t : UInt32 => hb_W Γ ΛC G 4 Q σ [none, none, some (.float t), none] [] 61)) (fun s x hx K => lk_X5_wayMood_19 X k hk s.1 s.2 σ hx K) _ s t h K
def jn_X5_wayMood_61 (k : Nat) (j2 : UInt32) (σ : hb_Mem) : Option (Int32 × hb_Mem) :=
(fn_X5_bitsOf j2).bind fun x8 =>
some (x8, σ)
set_option maxRecDepth 100000 in
set_option maxHeartbeats 4000000 in
theorem jw_X5_wayMood_61 {Γ : hb_Ctx} {G : hb_Gam} {Q : State → Prop} (X : hb_X Γ cX5_wayMood 4 RX5 ΛC G 7 161) (hr : hb_ret Γ = (some .int)) (k : Nat) (hk : hb_is ΛC k 5) (j2 : UInt32) (σ : hb_Mem) {x : (Int32 × hb_Mem)} (h : jn_X5_wayMood_61 k j2 σ = some x) (K : Q = hb_Q Γ ΛC G (some (.int x.1)) x.2) : hb_W Γ ΛC G 4 Q σ [none, none, some (.float j2), none] [] 61 := by
  unfold jn_X5_wayMood_61 at h
  refine ww_fload_n 62 X dX5_wayMood_61 rfl rfl ?_
  obtain ⟨x8, hx8, h⟩ := hb_bind_of h
  refine ww_callS (rest := []) (st' := [.int x8]) 65 X (ct_X5_bitsOf (hb_l Γ) G j2 σ hx8) cw_X5_192 rfl ⟨by decide, by decide⟩ (Nat.le_of_ble_eq_true rfl) rfl rfl dX5_wayMood_62 rfl ?_
  obtain rfl := Option.some.inj h
  exact ww_ret_i X hr K dX5_wayMood_65
def fn_X5_wayMood (k : Nat) (σ : hb_Mem) : Option (Int32 × hb_Mem) :=
(fn_X5_surveyed k σ).bind fun x1 =>
if 0 ≤ (x1 (hc_rf k 6) 10) then (
(ll_X5_wayMood_19 k x1 (FP.fconst0, 0)).bind fun t7 =>
jn_X5_wayMood_61 k t7 x1)
else (
some ((-5), x1))
set_option maxRecDepth 100000 in
set_option maxHeartbeats 4000000 in
theorem wk_X5_wayMood {Γ : hb_Ctx} {G : hb_Gam} {Q : State → Prop} (X : hb_X Γ cX5_wayMood 4 RX5 ΛC G 7 161) (hr : hb_ret Γ = (some .int)) (k : Nat) (hk : hb_is ΛC k 5) (σ : hb_Mem) {x : (Int32 × hb_Mem)} (h : fn_X5_wayMood k σ = some x) (K : Q = hb_Q Γ ΛC G (some (.int x.1)) x.2) : hb_W Γ ΛC G 4 Q σ [some (.ref (G.2.2.2 k)), none, none, none] [] 0 := by
  unfold fn_X5_wayMood at h
  refine ww_aload_n 1 X dX5_wayMood_0 rfl rfl ?_
  obtain ⟨x1, hx1, h⟩ := hb_bind_of h
  refine ww_callV (ci := 5) (rest := []) (st' := [.ref (G.2.2.2 (hc_rf k 6))]) 4 X (ct_X5_surveyed (hb_l Γ) G k hk σ hx1) cw_X5_199 rfl (by decide) hk rfl ⟨by decide, by decide⟩ (Nat.le_of_ble_eq_true rfl) rfl rfl dX5_wayMood_1 rfl ?_
  refine ww_astore_n 5 X (L' := [some (.ref (G.2.2.2 k)), some (.ref (G.2.2.2 (hc_rf k 6))), none, none]) dX5_wayMood_4 rfl (Nat.le_of_ble_eq_true rfl) rfl rfl ?_
  refine ww_aload_n 6 X dX5_wayMood_5 rfl rfl ?_
  refine ww_getiN (ci := 3) (j := 10) 9 X cf_3 tw_X5_235 (by decide) rfl (hc_kr_5_6 hk) dX5_wayMood_6 rfl ?_
  refine ww_if_ge 15 12 X dX5_wayMood_9 (by decide) rfl h (fun h => ?_) (fun h => ?_)
  · skip
    refine ww_fconst0 16 X dX5_wayMood_15 rfl ?_
    refine ww_fstore_n 17 X (L' := [some (.ref (G.2.2.2 k)), some (.ref (G.2.2.2 (hc_rf k 6))), some (.float FP.fconst0), none]) dX5_wayMood_16 rfl (Nat.le_of_ble_eq_true rfl) rfl rfl ?_
    refine ww_iconst (v := 0) 18 X dX5_wayMood_17 rfl (by decide) ?_
    refine ww_istore_n 19 X (L' := [some (.ref (G.2.2.2 k)), some (.ref (G.2.2.2 (hc_rf k 6))), some (.float FP.fconst0), some (.int 0)]) dX5_wayMood_18 rfl (Nat.le_of_ble_eq_true rfl) rfl rfl ?_
    obtain ⟨t7, ht7, h⟩ := hb_bind_of h
    refine lw_X5_wayMood_19 X k hk x1 (FP.fconst0, 0) t7 ht7 ?_
    exact jw_X5_wayMood_61 X hr k hk t7 x1 h K
  · skip
    refine ww_bipush (v := (-5)) 14 X dX5_wayMood_12 rfl (by decide) ?_
    obtain rfl := Option.some.inj h
    exact ww_ret_i X hr K dX5_wayMood_14
theorem ct_X5_wayMood (l : Launch) (G : hb_Gam) (k : Nat) (hk : hb_is ΛC k 5) (σ : hb_Mem) {x : (Int32 × hb_Mem)} (h : fn_X5_wayMood k σ = some x) : hb_C l yX5_wayMood cX5_wayMood 4 (some .int) 7 161 ΛC G [.ref (G.2.2.2 k)] σ (some (.int x.1)) x.2 :=
  hb_C.of [some (.ref (G.2.2.2 k)), none, none, none] (by decide +kernel) (Nat.le_of_ble_eq_true rfl) (by intro v hv; simp only [List.mem_cons, List.not_mem_nil, or_false] at hv; subst hv; rfl) rfl (hb_pad [.ref (G.2.2.2 k)] 3) (fun Γ X hr => wk_X5_wayMood X hr k hk σ h rfl)
def jn_X5_count_181 (k : Nat) (p1 : Int32) (s0 : Int32) (σ : hb_Mem) : Option (Int32 × hb_Mem) :=
(fn_X5_oneIf s0).bind fun x17 =>
some (x17, σ)
set_option maxRecDepth 100000 in
set_option maxHeartbeats 4000000 in
theorem jw_X5_count_181 {Γ : hb_Ctx} {G : hb_Gam} {Q : State → Prop} (X : hb_X Γ cX5_count 2 RX5 ΛC G 7 161) (hr : hb_ret Γ = (some .int)) (k : Nat) (hk : hb_is ΛC k 5) (p1 : Int32) (s0 : Int32) (σ : hb_Mem) {x : (Int32 × hb_Mem)} (h : jn_X5_count_181 k p1 s0 σ = some x) (K : Q = hb_Q Γ ΛC G (some (.int x.1)) x.2) : hb_W Γ ΛC G 2 Q σ [none, none] [.int s0] 181 := by
  unfold jn_X5_count_181 at h
  obtain ⟨x17, hx17, h⟩ := hb_bind_of h
  refine ww_callS (rest := []) (st' := [.int x17]) 184 X (ct_X5_oneIf (hb_l Γ) G s0 σ hx17) cw_X5_206 rfl ⟨by decide, by decide⟩ (Nat.le_of_ble_eq_true rfl) rfl rfl dX5_count_181 rfl ?_
  obtain rfl := Option.some.inj h
  exact ww_ret_i X hr K dX5_count_184
def fn_X5_count (k : Nat) (p1 : Int32) (σ : hb_Mem) : Option (Int32 × hb_Mem) :=
if p1 = 0 then (
some (σ (hc_rf k 0) 0, σ))
else if p1 = 1 then (
(fn_X2_allChoices (hc_rf k 0) σ).bind fun x1 =>
some (x1, σ))
else if p1 = 2 then (
(fn_X5_surveyed k σ).bind fun x2 =>
(fn_X3_deadPages (hc_rf k 6) x2).bind fun x3 =>
some (x3, x2))
else if p1 = 3 then (
(fn_X5_surveyed k σ).bind fun x4 =>
(fn_X3_pagesThatComeAgain (hc_rf k 6) x4).bind fun x5 =>
some (x5, x4))
else if p1 = 4 then (
(fn_X5_surveyed k σ).bind fun x6 =>
(fn_X3_stuckPlaces (hc_rf k 6) x6).bind fun x7 =>
some (x7, x6))
else if p1 = 5 then (
(fn_X5_surveyed k σ).bind fun x8 =>
some (x8 (hc_rf k 6) 2, x8))
else if p1 = 6 then (
(fn_X5_surveyed k σ).bind fun x9 =>
(fn_X5_surveyed k x9).bind fun x10 =>
(fn_X3_livePagesOf (hc_rf k 6) (x10 (hc_rf k 6) 8) x10).bind fun x11 =>
some (x11, x10))
else if p1 = 7 then (
(fn_X5_surveyed k σ).bind fun x12 =>
(fn_X5_surveyed k x12).bind fun x13 =>
(fn_X3_livePagesOf (hc_rf k 6) (x13 (hc_rf k 6) 9) x13).bind fun x14 =>
some (x14, x13))
else if p1 = 8 then (
(fn_X5_surveyed k σ).bind fun x15 =>
if 0 ≤ (x15 (hc_rf k 6) 10) then (
(fn_X5_surveyed k x15).bind fun x16 =>
some (x16 (hc_rf k 6) 10, x16))
else (
some ((-5), x15)))
else if p1 = 9 then (
if (σ (hc_rf k 0) 10) = (-1) then (
jn_X5_count_181 k p1 0 σ)
else (
jn_X5_count_181 k p1 1 σ))
else if p1 = 10 then (
some (σ (hc_rf k 4) 2, σ))
else if p1 = 11 then (
some (σ (hc_rf k 5) 1, σ))
else (
some ((-2), σ))
set_option maxRecDepth 100000 in
set_option maxHeartbeats 4000000 in
theorem wk_X5_count {Γ : hb_Ctx} {G : hb_Gam} {Q : State → Prop} (X : hb_X Γ cX5_count 2 RX5 ΛC G 7 161) (hr : hb_ret Γ = (some .int)) (k : Nat) (hk : hb_is ΛC k 5) (p1 : Int32) (σ : hb_Mem) {x : (Int32 × hb_Mem)} (h : fn_X5_count k p1 σ = some x) (K : Q = hb_Q Γ ΛC G (some (.int x.1)) x.2) : hb_W Γ ΛC G 2 Q σ [some (.ref (G.2.2.2 k)), some (.int p1)] [] 0 := by
  unfold fn_X5_count at h
  refine ww_iload_n 1 X dX5_count_0 rfl rfl ?_
  by_cases c0 : p1 = 0
  · rw [if_pos c0] at h
    refine ww_tabIn (63) 64 X dX5_count_1 (by rw [c0]; decide) (by rw [c0]; decide) (by rw [c0]; rfl) (by decide) ?_
    refine ww_aload_n 65 X dX5_count_64 rfl rfl ?_
    refine ww_getr (ci := 5) (j := 0) 68 X cf_5 tw_X5_12 (by decide) rfl hk dX5_count_65 rfl ?_
    refine ww_getiN (ci := 2) (j := 0) 71 X cf_2 tw_X5_54 (by decide) rfl (hc_kr_5_0 hk) dX5_count_68 rfl ?_
    obtain rfl := Option.some.inj h
    exact ww_ret_i X hr K dX5_count_71
  rw [if_neg c0] at h
  by_cases c1 : p1 = 1
  · rw [if_pos c1] at h
    refine ww_tabIn (71) 72 X dX5_count_1 (by rw [c1]; decide) (by rw [c1]; decide) (by rw [c1]; rfl) (by decide) ?_
    refine ww_aload_n 73 X dX5_count_72 rfl rfl ?_
    refine ww_getr (ci := 5) (j := 0) 76 X cf_5 tw_X5_12 (by decide) rfl hk dX5_count_73 rfl ?_
    obtain ⟨x1, hx1, h⟩ := hb_bind_of h
    refine ww_callV (ci := 2) (rest := []) (st' := [.int x1]) 79 X (ct_X2_allChoices (hb_l Γ) G (hc_rf k 0) (hc_kr_5_0 hk) σ hx1) cw_X5_244 rfl (by decide) (hc_kr_5_0 hk) rfl ⟨by decide, by decide⟩ (Nat.le_of_ble_eq_true rfl) rfl rfl dX5_count_76 rfl ?_
    obtain rfl := Option.some.inj h
    exact ww_ret_i X hr K dX5_count_79
  rw [if_neg c1] at h
  by_cases c2 : p1 = 2
  · rw [if_pos c2] at h
    refine ww_tabIn (79) 80 X dX5_count_1 (by rw [c2]; decide) (by rw [c2]; decide) (by rw [c2]; rfl) (by decide) ?_
    refine ww_aload_n 81 X dX5_count_80 rfl rfl ?_
    obtain ⟨x2, hx2, h⟩ := hb_bind_of h
    refine ww_callV (ci := 5) (rest := []) (st' := [.ref (G.2.2.2 (hc_rf k 6))]) 84 X (ct_X5_surveyed (hb_l Γ) G k hk σ hx2) cw_X5_199 rfl (by decide) hk rfl ⟨by decide, by decide⟩ (Nat.le_of_ble_eq_true rfl) rfl rfl dX5_count_81 rfl ?_
    obtain ⟨x3, hx3, h⟩ := hb_bind_of h
    refine ww_callV (ci := 3) (rest := []) (st' := [.int x3]) 87 X (ct_X3_deadPages (hb_l Γ) G (hc_rf k 6) (hc_kr_5_6 hk) x2 hx3) cw_X5_247 rfl (by decide) (hc_kr_5_6 hk) rfl ⟨by decide, by decide⟩ (Nat.le_of_ble_eq_true rfl) rfl rfl dX5_count_84 rfl ?_
    obtain rfl := Option.some.inj h
    exact ww_ret_i X hr K dX5_count_87
  rw [if_neg c2] at h
  by_cases c3 : p1 = 3
  · rw [if_pos c3] at h
    refine ww_tabIn (87) 88 X dX5_count_1 (by rw [c3]; decide) (by rw [c3]; decide) (by rw [c3]; rfl) (by decide) ?_
    refine ww_aload_n 89 X dX5_count_88 rfl rfl ?_
    obtain ⟨x4, hx4, h⟩ := hb_bind_of h
    refine ww_callV (ci := 5) (rest := []) (st' := [.ref (G.2.2.2 (hc_rf k 6))]) 92 X (ct_X5_surveyed (hb_l Γ) G k hk σ hx4) cw_X5_199 rfl (by decide) hk rfl ⟨by decide, by decide⟩ (Nat.le_of_ble_eq_true rfl) rfl rfl dX5_count_89 rfl ?_
    obtain ⟨x5, hx5, h⟩ := hb_bind_of h
    refine ww_callV (ci := 3) (rest := []) (st' := [.int x5]) 95 X (ct_X3_pagesThatComeAgain (hb_l Γ) G (hc_rf k 6) (hc_kr_5_6 hk) x4 hx5) cw_X5_250 rfl (by decide) (hc_kr_5_6 hk) rfl ⟨by decide, by decide⟩ (Nat.le_of_ble_eq_true rfl) rfl rfl dX5_count_92 rfl ?_
    obtain rfl := Option.some.inj h
    exact ww_ret_i X hr K dX5_count_95
  rw [if_neg c3] at h
  by_cases c4 : p1 = 4
  · rw [if_pos c4] at h
    refine ww_tabIn (95) 96 X dX5_count_1 (by rw [c4]; decide) (by rw [c4]; decide) (by rw [c4]; rfl) (by decide) ?_
    refine ww_aload_n 97 X dX5_count_96 rfl rfl ?_
    obtain ⟨x6, hx6, h⟩ := hb_bind_of h
    refine ww_callV (ci := 5) (rest := []) (st' := [.ref (G.2.2.2 (hc_rf k 6))]) 100 X (ct_X5_surveyed (hb_l Γ) G k hk σ hx6) cw_X5_199 rfl (by decide) hk rfl ⟨by decide, by decide⟩ (Nat.le_of_ble_eq_true rfl) rfl rfl dX5_count_97 rfl ?_
    obtain ⟨x7, hx7, h⟩ := hb_bind_of h
    refine ww_callV (ci := 3) (rest := []) (st' := [.int x7]) 103 X (ct_X3_stuckPlaces (hb_l Γ) G (hc_rf k 6) (hc_kr_5_6 hk) x6 hx7) cw_X5_253 rfl (by decide) (hc_kr_5_6 hk) rfl ⟨by decide, by decide⟩ (Nat.le_of_ble_eq_true rfl) rfl rfl dX5_count_100 rfl ?_
    obtain rfl := Option.some.inj h
    exact ww_ret_i X hr K dX5_count_103
  rw [if_neg c4] at h
  by_cases c5 : p1 = 5
  · rw [if_pos c5] at h
    refine ww_tabIn (103) 104 X dX5_count_1 (by rw [c5]; decide) (by rw [c5]; decide) (by rw [c5]; rfl) (by decide) ?_
    refine ww_aload_n 105 X dX5_count_104 rfl rfl ?_
    obtain ⟨x8, hx8, h⟩ := hb_bind_of h
    refine ww_callV (ci := 5) (rest := []) (st' := [.ref (G.2.2.2 (hc_rf k 6))]) 108 X (ct_X5_surveyed (hb_l Γ) G k hk σ hx8) cw_X5_199 rfl (by decide) hk rfl ⟨by decide, by decide⟩ (Nat.le_of_ble_eq_true rfl) rfl rfl dX5_count_105 rfl ?_
    refine ww_getiN (ci := 3) (j := 2) 111 X cf_3 tw_X5_256 (by decide) rfl (hc_kr_5_6 hk) dX5_count_108 rfl ?_
    obtain rfl := Option.some.inj h
    exact ww_ret_i X hr K dX5_count_111
  rw [if_neg c5] at h
  by_cases c6 : p1 = 6
  · rw [if_pos c6] at h
    refine ww_tabIn (111) 112 X dX5_count_1 (by rw [c6]; decide) (by rw [c6]; decide) (by rw [c6]; rfl) (by decide) ?_
    refine ww_aload_n 113 X dX5_count_112 rfl rfl ?_
    obtain ⟨x9, hx9, h⟩ := hb_bind_of h
    refine ww_callV (ci := 5) (rest := []) (st' := [.ref (G.2.2.2 (hc_rf k 6))]) 116 X (ct_X5_surveyed (hb_l Γ) G k hk σ hx9) cw_X5_199 rfl (by decide) hk rfl ⟨by decide, by decide⟩ (Nat.le_of_ble_eq_true rfl) rfl rfl dX5_count_113 rfl ?_
    refine ww_aload_n 117 X dX5_count_116 rfl rfl ?_
    obtain ⟨x10, hx10, h⟩ := hb_bind_of h
    refine ww_callV (ci := 5) (rest := [.ref (G.2.2.2 (hc_rf k 6))]) (st' := [.ref (G.2.2.2 (hc_rf k 6)), .ref (G.2.2.2 (hc_rf k 6))]) 120 X (ct_X5_surveyed (hb_l Γ) G k hk x9 hx10) cw_X5_199 rfl (by decide) hk rfl ⟨by decide, by decide⟩ (Nat.le_of_ble_eq_true rfl) rfl rfl dX5_count_117 rfl ?_
    refine ww_getiN (ci := 3) (j := 8) 123 X cf_3 tw_X5_259 (by decide) rfl (hc_kr_5_6 hk) dX5_count_120 rfl ?_
    obtain ⟨x11, hx11, h⟩ := hb_bind_of h
    refine ww_callV (ci := 3) (rest := []) (st' := [.int x11]) 126 X (ct_X3_livePagesOf (hb_l Γ) G (hc_rf k 6) (hc_kr_5_6 hk) (x10 (hc_rf k 6) 8) x10 hx11) cw_X5_262 rfl (by decide) (hc_kr_5_6 hk) rfl ⟨by decide, by decide⟩ (Nat.le_of_ble_eq_true rfl) rfl rfl dX5_count_123 rfl ?_
    obtain rfl := Option.some.inj h
    exact ww_ret_i X hr K dX5_count_126
  rw [if_neg c6] at h
  by_cases c7 : p1 = 7
  · rw [if_pos c7] at h
    refine ww_tabIn (126) 127 X dX5_count_1 (by rw [c7]; decide) (by rw [c7]; decide) (by rw [c7]; rfl) (by decide) ?_
    refine ww_aload_n 128 X dX5_count_127 rfl rfl ?_
    obtain ⟨x12, hx12, h⟩ := hb_bind_of h
    refine ww_callV (ci := 5) (rest := []) (st' := [.ref (G.2.2.2 (hc_rf k 6))]) 131 X (ct_X5_surveyed (hb_l Γ) G k hk σ hx12) cw_X5_199 rfl (by decide) hk rfl ⟨by decide, by decide⟩ (Nat.le_of_ble_eq_true rfl) rfl rfl dX5_count_128 rfl ?_
    refine ww_aload_n 132 X dX5_count_131 rfl rfl ?_
    obtain ⟨x13, hx13, h⟩ := hb_bind_of h
    refine ww_callV (ci := 5) (rest := [.ref (G.2.2.2 (hc_rf k 6))]) (st' := [.ref (G.2.2.2 (hc_rf k 6)), .ref (G.2.2.2 (hc_rf k 6))]) 135 X (ct_X5_surveyed (hb_l Γ) G k hk x12 hx13) cw_X5_199 rfl (by decide) hk rfl ⟨by decide, by decide⟩ (Nat.le_of_ble_eq_true rfl) rfl rfl dX5_count_132 rfl ?_
    refine ww_getiN (ci := 3) (j := 9) 138 X cf_3 tw_X5_265 (by decide) rfl (hc_kr_5_6 hk) dX5_count_135 rfl ?_
    obtain ⟨x14, hx14, h⟩ := hb_bind_of h
    refine ww_callV (ci := 3) (rest := []) (st' := [.int x14]) 141 X (ct_X3_livePagesOf (hb_l Γ) G (hc_rf k 6) (hc_kr_5_6 hk) (x13 (hc_rf k 6) 9) x13 hx14) cw_X5_262 rfl (by decide) (hc_kr_5_6 hk) rfl ⟨by decide, by decide⟩ (Nat.le_of_ble_eq_true rfl) rfl rfl dX5_count_138 rfl ?_
    obtain rfl := Option.some.inj h
    exact ww_ret_i X hr K dX5_count_141
  rw [if_neg c7] at h
  by_cases c8 : p1 = 8
  · rw [if_pos c8] at h
    refine ww_tabIn (141) 142 X dX5_count_1 (by rw [c8]; decide) (by rw [c8]; decide) (by rw [c8]; rfl) (by decide) ?_
    refine ww_aload_n 143 X dX5_count_142 rfl rfl ?_
    obtain ⟨x15, hx15, h⟩ := hb_bind_of h
    refine ww_callV (ci := 5) (rest := []) (st' := [.ref (G.2.2.2 (hc_rf k 6))]) 146 X (ct_X5_surveyed (hb_l Γ) G k hk σ hx15) cw_X5_199 rfl (by decide) hk rfl ⟨by decide, by decide⟩ (Nat.le_of_ble_eq_true rfl) rfl rfl dX5_count_143 rfl ?_
    refine ww_getiN (ci := 3) (j := 10) 149 X cf_3 tw_X5_235 (by decide) rfl (hc_kr_5_6 hk) dX5_count_146 rfl ?_
    refine ww_if_ge 157 152 X dX5_count_149 (by decide) rfl h (fun h => ?_) (fun h => ?_)
    · skip
      refine ww_aload_n 158 X dX5_count_157 rfl rfl ?_
      obtain ⟨x16, hx16, h⟩ := hb_bind_of h
      refine ww_callV (ci := 5) (rest := []) (st' := [.ref (G.2.2.2 (hc_rf k 6))]) 161 X (ct_X5_surveyed (hb_l Γ) G k hk x15 hx16) cw_X5_199 rfl (by decide) hk rfl ⟨by decide, by decide⟩ (Nat.le_of_ble_eq_true rfl) rfl rfl dX5_count_158 rfl ?_
      refine ww_getiN (ci := 3) (j := 10) 164 X cf_3 tw_X5_235 (by decide) rfl (hc_kr_5_6 hk) dX5_count_161 rfl ?_
      obtain rfl := Option.some.inj h
      exact ww_ret_i X hr K dX5_count_164
    · skip
      refine ww_bipush (v := (-5)) 154 X dX5_count_152 rfl (by decide) ?_
      refine ww_goto 164 X dX5_count_154 (by decide) ?_
      obtain rfl := Option.some.inj h
      exact ww_ret_i X hr K dX5_count_164
  rw [if_neg c8] at h
  by_cases c9 : p1 = 9
  · rw [if_pos c9] at h
    refine ww_tabIn (164) 165 X dX5_count_1 (by rw [c9]; decide) (by rw [c9]; decide) (by rw [c9]; rfl) (by decide) ?_
    refine ww_aload_n 166 X dX5_count_165 rfl rfl ?_
    refine ww_getr (ci := 5) (j := 0) 169 X cf_5 tw_X5_12 (by decide) rfl hk dX5_count_166 rfl ?_
    refine ww_getiN (ci := 2) (j := 10) 172 X cf_2 tw_X5_163 (by decide) rfl (hc_kr_5_0 hk) dX5_count_169 rfl ?_
    refine ww_iconst (v := (-1)) 173 X dX5_count_172 rfl (by decide) ?_
    refine ww_icmp_eq 180 176 X dX5_count_173 (by decide) rfl h (fun h => ?_) (fun h => ?_)
    · skip
      refine ww_iconst (v := 0) 181 X dX5_count_180 rfl (by decide) ?_
      refine ww_kill [0, 1] (L' := [none, none]) rfl ?_
      exact jw_X5_count_181 X hr k hk p1 0 σ h K
    · skip
      refine ww_iconst (v := 1) 177 X dX5_count_176 rfl (by decide) ?_
      refine ww_goto 181 X dX5_count_177 (by decide) ?_
      refine ww_kill [0, 1] (L' := [none, none]) rfl ?_
      exact jw_X5_count_181 X hr k hk p1 1 σ h K
  rw [if_neg c9] at h
  by_cases c10 : p1 = 10
  · rw [if_pos c10] at h
    refine ww_tabIn (184) 185 X dX5_count_1 (by rw [c10]; decide) (by rw [c10]; decide) (by rw [c10]; rfl) (by decide) ?_
    refine ww_aload_n 186 X dX5_count_185 rfl rfl ?_
    refine ww_getr (ci := 5) (j := 4) 189 X cf_5 tw_X5_29 (by decide) rfl hk dX5_count_186 rfl ?_
    refine ww_getiN (ci := 0) (j := 2) 192 X cf_0 tw_X5_173 (by decide) rfl (hc_kr_5_4 hk) dX5_count_189 rfl ?_
    obtain rfl := Option.some.inj h
    exact ww_ret_i X hr K dX5_count_192
  rw [if_neg c10] at h
  by_cases c11 : p1 = 11
  · rw [if_pos c11] at h
    refine ww_tabIn (192) 193 X dX5_count_1 (by rw [c11]; decide) (by rw [c11]; decide) (by rw [c11]; rfl) (by decide) ?_
    refine ww_aload_n 194 X dX5_count_193 rfl rfl ?_
    refine ww_getr (ci := 5) (j := 5) 197 X cf_5 tw_X5_36 (by decide) rfl hk dX5_count_194 rfl ?_
    refine ww_getiN (ci := 4) (j := 1) 200 X cf_4 tw_X5_166 (by decide) rfl (hc_kr_5_5 hk) dX5_count_197 rfl ?_
    obtain rfl := Option.some.inj h
    exact ww_ret_i X hr K dX5_count_200
  rw [if_neg c11] at h
  refine ww_tabOut 201 X dX5_count_1 (by have := hb_ne_toInt c0 (c := 0) rfl; have := hb_ne_toInt c1 (c := 1) rfl; have := hb_ne_toInt c2 (c := 2) rfl; have := hb_ne_toInt c3 (c := 3) rfl; have := hb_ne_toInt c4 (c := 4) rfl; have := hb_ne_toInt c5 (c := 5) rfl; have := hb_ne_toInt c6 (c := 6) rfl; have := hb_ne_toInt c7 (c := 7) rfl; have := hb_ne_toInt c8 (c := 8) rfl; have := hb_ne_toInt c9 (c := 9) rfl; have := hb_ne_toInt c10 (c := 10) rfl; have := hb_ne_toInt c11 (c := 11) rfl; omega) (by decide) ?_
  refine ww_bipush (v := (-2)) 203 X dX5_count_201 rfl (by decide) ?_
  obtain rfl := Option.some.inj h
  exact ww_ret_i X hr K dX5_count_203
theorem ct_X5_count (l : Launch) (G : hb_Gam) (k : Nat) (hk : hb_is ΛC k 5) (p1 : Int32) (σ : hb_Mem) {x : (Int32 × hb_Mem)} (h : fn_X5_count k p1 σ = some x) : hb_C l yX5_count cX5_count 2 (some .int) 7 161 ΛC G [.ref (G.2.2.2 k), .int p1] σ (some (.int x.1)) x.2 :=
  hb_C.of [some (.ref (G.2.2.2 k)), some (.int p1)] (by decide +kernel) (Nat.le_of_ble_eq_true rfl) (by intro v hv; simp only [List.mem_cons, List.not_mem_nil, or_false] at hv; rcases hv with rfl | rfl <;> rfl) rfl (hb_pad [.ref (G.2.2.2 k), .int p1] 0) (fun Γ X hr => wk_X5_count X hr k hk p1 σ h rfl)
def fn_L_low (p0 : Int32) (p1 : Int32) : Option Int32 :=
(hb_nz p1).bind fun z1 =>
some ((p0 &&& 2147483647) - (p0 &&& 2147483647) / p1 * p1)
set_option maxRecDepth 100000 in
set_option maxHeartbeats 4000000 in
theorem wk_L_low {Γ : hb_Ctx} {G : hb_Gam} {Q : State → Prop} (X : hb_X Γ cL_low 2 RL ΛC G 0 0) (hr : hb_ret Γ = (some .int)) (p0 : Int32) (p1 : Int32) (σ : hb_Mem) {x : Int32} (h : fn_L_low p0 p1 = some x) (K : Q = hb_Q Γ ΛC G (some (.int x)) σ) : hb_W Γ ΛC G 2 Q σ [some (.int p0), some (.int p1)] [] 0 := by
  unfold fn_L_low at h
  refine ww_iload_n 1 X dL_low_0 rfl rfl ?_
  refine ww_ldc (v := 2147483647) 3 X dL_low_1 rfl (by decide +kernel) ?_
  refine ww_iand 4 X dL_low_3 rfl ?_
  refine ww_iload_n 5 X dL_low_4 rfl rfl ?_
  obtain ⟨z1, hz1, h⟩ := hb_bind_of h
  replace hz1 := hb_nz_of hz1
  refine ww_irem 6 X dL_low_5 rfl hz1 ?_
  obtain rfl := Option.some.inj h
  exact ww_ret_i X hr K dL_low_6
theorem ct_L_low (l : Launch) (G : hb_Gam) (p0 : Int32) (p1 : Int32) (σ : hb_Mem) {x : Int32} (h : fn_L_low p0 p1 = some x) : hb_C l yL_low cL_low 2 (some .int) 0 0 ΛC G [.int p0, .int p1] σ (some (.int x)) σ :=
  hb_C.of [some (.int p0), some (.int p1)] (by decide +kernel) (Nat.le_of_ble_eq_true rfl) (by intro v hv; simp only [List.mem_cons, List.not_mem_nil, or_false] at hv; rcases hv with rfl | rfl <;> rfl) rfl (hb_pad [.int p0, .int p1] 0) (fun Γ X hr => wk_L_low X hr p0 p1 σ h rfl)
def lb_L_digest_69 (r0 : Nat) (i3 : Int32) (w1 : Int64) (w4 : Int32) (σ : hb_Mem) : Option ((Int64 × Int32 × hb_Mem) ⊕ (Int64 × hb_Mem)) :=
(fn_X5_page r0 i3 0 σ).bind fun x7 =>
if x7.1 ≤ w4 then (
some (.inr (w1, x7.2)))
else (
(fn_X5_choice r0 i3 w4 0 x7.2).bind fun x8 =>
(fn_X5_choice r0 i3 w4 1 x8.2).bind fun x9 =>
(fn_X5_choice r0 i3 w4 2 x9.2).bind fun x10 =>
hb_nm (((31 : Int64) * (((31 : Int64) * (((31 : Int64) * w1) + ((x8.1 : Int32).toInt64))) + ((x9.1 : Int32).toInt64))) + ((x10.1 : Int32).toInt64)) fun v11 =>
hb_nm (w4 + 1) fun v12 =>
some (.inl (v11, v12, x10.2)))
set_option maxRecDepth 100000 in
set_option maxHeartbeats 4000000 in
theorem lk_L_digest_69 {Γ : hb_Ctx} {G : hb_Gam} {Q : State → Prop} (X : hb_X Γ cL_digest 5 RL ΛC G 8 185)  (r0 : Nat) (hr0 : hb_is ΛC r0 5) (i3 : Int32) (w1 : Int64) (w4 : Int32) (σ : hb_Mem) {x : ((Int64 × Int32 × hb_Mem) ⊕ (Int64 × hb_Mem))} (h : lb_L_digest_69 r0 i3 w1 w4 σ = some x) (K : Sum.elim (fun s : (Int64 × Int32 × hb_Mem) => hb_W Γ ΛC G 5 Q s.2.2 [some (.ref (G.2.2.2 r0)), some (.long s.1), none, some (.int i3), some (.int s.2.1)] [] 69) (fun t : (Int64 × hb_Mem) => hb_W Γ ΛC G 5 Q t.2 [some (.ref (G.2.2.2 r0)), some (.long t.1), none, some (.int i3), none] [] 130) x) : hb_W Γ ΛC G 5 Q σ [some (.ref (G.2.2.2 r0)), some (.long w1), none, some (.int i3), some (.int w4)] [] 69 := by
  unfold lb_L_digest_69 at h
  refine ww_iload 71 X dL_digest_69 rfl rfl ?_
  refine ww_aload_n 72 X dL_digest_71 rfl rfl ?_
  refine ww_iload_n 73 X dL_digest_72 rfl rfl ?_
  refine ww_iconst (v := 0) 74 X dL_digest_73 rfl (by decide) ?_
  obtain ⟨x7, hx7, h⟩ := hb_bind_of h
  refine ww_callV (ci := 5) (rest := [.int w4]) (st' := [.int x7.1, .int w4]) 77 X (ct_X5_page (hb_l Γ) G r0 hr0 i3 0 σ hx7) cw_L_19 rfl (by decide) hr0 rfl ⟨by decide, by decide⟩ (Nat.le_of_ble_eq_true rfl) rfl rfl dL_digest_74 rfl ?_
  refine ww_icmp_ge 130 80 X dL_digest_77 (by decide) rfl h (fun h => ?_) (fun h => ?_)
  · skip
    obtain rfl := Option.some.inj h
    refine ww_kill [4] (L' := [some (.ref (G.2.2.2 r0)), some (.long w1), none, some (.int i3), none]) rfl ?_
    exact K
  · skip
    refine ww_ldc2 (v := 31) 83 X dL_digest_80 rfl (List.mem_of_getElem? (i := 429) (by decide +kernel)) ?_
    refine ww_ldc2 (v := 31) 86 X dL_digest_83 rfl (List.mem_of_getElem? (i := 429) (by decide +kernel)) ?_
    refine ww_ldc2 (v := 31) 89 X dL_digest_86 rfl (List.mem_of_getElem? (i := 429) (by decide +kernel)) ?_
    refine ww_lload_n 90 X dL_digest_89 rfl rfl ?_
    refine ww_lmul 91 X dL_digest_90 rfl ?_
    refine ww_aload_n 92 X dL_digest_91 rfl rfl ?_
    refine ww_iload_n 93 X dL_digest_92 rfl rfl ?_
    refine ww_iload 95 X dL_digest_93 rfl rfl ?_
    refine ww_iconst (v := 0) 96 X dL_digest_95 rfl (by decide) ?_
    obtain ⟨x8, hx8, h⟩ := hb_bind_of h
    refine ww_callV (ci := 5) (rest := [.long ((31 : Int64) * w1), .long (31 : Int64), .long (31 : Int64)]) (st' := [.int x8.1, .long ((31 : Int64) * w1), .long (31 : Int64), .long (31 : Int64)]) 99 X (ct_X5_choice (hb_l Γ) G r0 hr0 i3 w4 0 x7.2 hx8) cw_L_23 rfl (by decide) hr0 rfl ⟨by decide, by decide⟩ (Nat.le_of_ble_eq_true rfl) rfl rfl dL_digest_96 rfl ?_
    refine ww_i2l 100 X dL_digest_99 rfl ?_
    refine ww_ladd 101 X dL_digest_100 rfl ?_
    refine ww_lmul 102 X dL_digest_101 rfl ?_
    refine ww_aload_n 103 X dL_digest_102 rfl rfl ?_
    refine ww_iload_n 104 X dL_digest_103 rfl rfl ?_
    refine ww_iload 106 X dL_digest_104 rfl rfl ?_
    refine ww_iconst (v := 1) 107 X dL_digest_106 rfl (by decide) ?_
    obtain ⟨x9, hx9, h⟩ := hb_bind_of h
    refine ww_callV (ci := 5) (rest := [.long ((31 : Int64) * (((31 : Int64) * w1) + ((x8.1 : Int32).toInt64))), .long (31 : Int64)]) (st' := [.int x9.1, .long ((31 : Int64) * (((31 : Int64) * w1) + ((x8.1 : Int32).toInt64))), .long (31 : Int64)]) 110 X (ct_X5_choice (hb_l Γ) G r0 hr0 i3 w4 1 x8.2 hx9) cw_L_23 rfl (by decide) hr0 rfl ⟨by decide, by decide⟩ (Nat.le_of_ble_eq_true rfl) rfl rfl dL_digest_107 rfl ?_
    refine ww_i2l 111 X dL_digest_110 rfl ?_
    refine ww_ladd 112 X dL_digest_111 rfl ?_
    refine ww_lmul 113 X dL_digest_112 rfl ?_
    refine ww_aload_n 114 X dL_digest_113 rfl rfl ?_
    refine ww_iload_n 115 X dL_digest_114 rfl rfl ?_
    refine ww_iload 117 X dL_digest_115 rfl rfl ?_
    refine ww_iconst (v := 2) 118 X dL_digest_117 rfl (by decide) ?_
    obtain ⟨x10, hx10, h⟩ := hb_bind_of h
    refine ww_callV (ci := 5) (rest := [.long ((31 : Int64) * (((31 : Int64) * (((31 : Int64) * w1) + ((x8.1 : Int32).toInt64))) + ((x9.1 : Int32).toInt64)))]) (st' := [.int x10.1, .long ((31 : Int64) * (((31 : Int64) * (((31 : Int64) * w1) + ((x8.1 : Int32).toInt64))) + ((x9.1 : Int32).toInt64)))]) 121 X (ct_X5_choice (hb_l Γ) G r0 hr0 i3 w4 2 x9.2 hx10) cw_L_23 rfl (by decide) hr0 rfl ⟨by decide, by decide⟩ (Nat.le_of_ble_eq_true rfl) rfl rfl dL_digest_118 rfl ?_
    refine ww_i2l 122 X dL_digest_121 rfl ?_
    refine ww_ladd 123 X dL_digest_122 rfl ?_
    obtain ⟨v11, ev11, h⟩ := hb_nm_of h
    rw [← ev11]
    refine ww_lstore_n 124 X (L' := [some (.ref (G.2.2.2 r0)), some (.long v11), none, some (.int i3), some (.int w4)]) dL_digest_123 rfl (Nat.le_of_ble_eq_true rfl) rfl rfl ?_
    obtain ⟨v12, ev12, h⟩ := hb_nm_of h
    refine ww_iinc 127 X (L' := [some (.ref (G.2.2.2 r0)), some (.long v11), none, some (.int i3), some (.int v12)]) dL_digest_124 rfl rfl ev12.symm rfl ?_
    refine ww_goto 69 X dL_digest_127 (by decide) ?_
    obtain rfl := Option.some.inj h
    exact K
def ll_L_digest_69 (r0 : Nat) (i3 : Int32) : (Int64 × Int32 × hb_Mem) → Option (Int64 × hb_Mem) := hb_lp (fun s => lb_L_digest_69 r0 i3 s.1 s.2.1 s.2.2) hb_F
theorem lw_L_digest_69 {Γ : hb_Ctx} {G : hb_Gam} {Q : State → Prop} (X : hb_X Γ cL_digest 5 RL ΛC G 8 185)  (r0 : Nat) (hr0 : hb_is ΛC r0 5) (i3 : Int32) (s : (Int64 × Int32 × hb_Mem)) (t : (Int64 × hb_Mem)) (h : ll_L_digest_69 r0 i3 s = some t) (K : (fun t : (Int64 × hb_Mem) => hb_W Γ ΛC G 5 Q t.2 [some (.ref (G.2.2.2 r0)), some (.long t.1), none, some (.int i3), none] [] 130) t) : hb_W Γ ΛC G 5 Q s.2.2 [some (.ref (G.2.2.2 r0)), some (.long s.1), none, some (.int i3), some (.int s.2.1)] [] 69 :=
  hb_lp_w (P := fun s : (Int64 × Int32 × hb_Mem) => hb_W Γ ΛC G 5 Q s.2.2 [some (.ref (G.2.2.2 r0)), some (.long s.1), none, some (.int i3), some (.int s.2.1)] [] 69) (E := (fun t : (Int64 × hb_Mem) => hb_W Γ ΛC G 5 Q t.2 [some (.ref (G.2.2.2 r0)), some (.long t.1), none, some (.int i3), none] [] 130)) (fun s x hx K => lk_L_digest_69 X r0 hr0 i3 s.1 s.2.1 s.2.2 hx K) _ s t h K
def lb_L_digest_6 (r0 : Nat) (w1 : Int64) (w3 : Int32) (σ : hb_Mem) : Option ((Int64 × Int32 × hb_Mem) ⊕ (Int64 × hb_Mem)) :=
(fn_X5_count r0 0 σ).bind fun x1 =>
if x1.1 ≤ w3 then (
some (.inr (w1, x1.2)))
else (
(fn_X5_page r0 w3 1 x1.2).bind fun x2 =>
(fn_X5_page r0 w3 2 x2.2).bind fun x3 =>
(fn_X5_page r0 w3 3 x3.2).bind fun x4 =>
(fn_X5_page r0 w3 10 x4.2).bind fun x5 =>
hb_nm (((31 : Int64) * (((31 : Int64) * (((31 : Int64) * (((31 : Int64) * w1) + ((x2.1 : Int32).toInt64))) + ((x3.1 : Int32).toInt64))) + ((x4.1 : Int32).toInt64))) + ((x5.1 : Int32).toInt64)) fun v6 =>
(ll_L_digest_69 r0 w3 (v6, 0, x5.2)).bind fun t13 =>
hb_nm (w3 + 1) fun v14 =>
some (.inl (t13.1, v14, t13.2)))
set_option maxRecDepth 100000 in
set_option maxHeartbeats 4000000 in
theorem lk_L_digest_6 {Γ : hb_Ctx} {G : hb_Gam} {Q : State → Prop} (X : hb_X Γ cL_digest 5 RL ΛC G 8 185)  (r0 : Nat) (hr0 : hb_is ΛC r0 5) (w1 : Int64) (w3 : Int32) (σ : hb_Mem) {x : ((Int64 × Int32 × hb_Mem) ⊕ (Int64 × hb_Mem))} (h : lb_L_digest_6 r0 w1 w3 σ = some x) (K : Sum.elim (fun s : (Int64 × Int32 × hb_Mem) => hb_W Γ ΛC G 5 Q s.2.2 [some (.ref (G.2.2.2 r0)), some (.long s.1), none, some (.int s.2.1), none] [] 6) (fun t : (Int64 × hb_Mem) => hb_W Γ ΛC G 5 Q t.2 [some (.ref (G.2.2.2 r0)), some (.long t.1), none, none, none] [] 136) x) : hb_W Γ ΛC G 5 Q σ [some (.ref (G.2.2.2 r0)), some (.long w1), none, some (.int w3), none] [] 6 := by
  unfold lb_L_digest_6 at h
  refine ww_iload_n 7 X dL_digest_6 rfl rfl ?_
  refine ww_aload_n 8 X dL_digest_7 rfl rfl ?_
  refine ww_iconst (v := 0) 9 X dL_digest_8 rfl (by decide) ?_
  obtain ⟨x1, hx1, h⟩ := hb_bind_of h
  refine ww_callV (ci := 5) (rest := [.int w3]) (st' := [.int x1.1, .int w3]) 12 X (ct_X5_count (hb_l Γ) G r0 hr0 0 σ hx1) cw_L_11 rfl (by decide) hr0 rfl ⟨by decide, by decide⟩ (Nat.le_of_ble_eq_true rfl) rfl rfl dL_digest_9 rfl ?_
  refine ww_icmp_ge 136 15 X dL_digest_12 (by decide) rfl h (fun h => ?_) (fun h => ?_)
  · skip
    obtain rfl := Option.some.inj h
    refine ww_kill [3] (L' := [some (.ref (G.2.2.2 r0)), some (.long w1), none, none, none]) rfl ?_
    exact K
  · skip
    refine ww_ldc2 (v := 31) 18 X dL_digest_15 rfl (List.mem_of_getElem? (i := 429) (by decide +kernel)) ?_
    refine ww_ldc2 (v := 31) 21 X dL_digest_18 rfl (List.mem_of_getElem? (i := 429) (by decide +kernel)) ?_
    refine ww_ldc2 (v := 31) 24 X dL_digest_21 rfl (List.mem_of_getElem? (i := 429) (by decide +kernel)) ?_
    refine ww_ldc2 (v := 31) 27 X dL_digest_24 rfl (List.mem_of_getElem? (i := 429) (by decide +kernel)) ?_
    refine ww_lload_n 28 X dL_digest_27 rfl rfl ?_
    refine ww_lmul 29 X dL_digest_28 rfl ?_
    refine ww_aload_n 30 X dL_digest_29 rfl rfl ?_
    refine ww_iload_n 31 X dL_digest_30 rfl rfl ?_
    refine ww_iconst (v := 1) 32 X dL_digest_31 rfl (by decide) ?_
    obtain ⟨x2, hx2, h⟩ := hb_bind_of h
    refine ww_callV (ci := 5) (rest := [.long ((31 : Int64) * w1), .long (31 : Int64), .long (31 : Int64), .long (31 : Int64)]) (st' := [.int x2.1, .long ((31 : Int64) * w1), .long (31 : Int64), .long (31 : Int64), .long (31 : Int64)]) 35 X (ct_X5_page (hb_l Γ) G r0 hr0 w3 1 x1.2 hx2) cw_L_19 rfl (by decide) hr0 rfl ⟨by decide, by decide⟩ (Nat.le_of_ble_eq_true rfl) rfl rfl dL_digest_32 rfl ?_
    refine ww_i2l 36 X dL_digest_35 rfl ?_
    refine ww_ladd 37 X dL_digest_36 rfl ?_
    refine ww_lmul 38 X dL_digest_37 rfl ?_
    refine ww_aload_n 39 X dL_digest_38 rfl rfl ?_
    refine ww_iload_n 40 X dL_digest_39 rfl rfl ?_
    refine ww_iconst (v := 2) 41 X dL_digest_40 rfl (by decide) ?_
    obtain ⟨x3, hx3, h⟩ := hb_bind_of h
    refine ww_callV (ci := 5) (rest := [.long ((31 : Int64) * (((31 : Int64) * w1) + ((x2.1 : Int32).toInt64))), .long (31 : Int64), .long (31 : Int64)]) (st' := [.int x3.1, .long ((31 : Int64) * (((31 : Int64) * w1) + ((x2.1 : Int32).toInt64))), .long (31 : Int64), .long (31 : Int64)]) 44 X (ct_X5_page (hb_l Γ) G r0 hr0 w3 2 x2.2 hx3) cw_L_19 rfl (by decide) hr0 rfl ⟨by decide, by decide⟩ (Nat.le_of_ble_eq_true rfl) rfl rfl dL_digest_41 rfl ?_
    refine ww_i2l 45 X dL_digest_44 rfl ?_
    refine ww_ladd 46 X dL_digest_45 rfl ?_
    refine ww_lmul 47 X dL_digest_46 rfl ?_
    refine ww_aload_n 48 X dL_digest_47 rfl rfl ?_
    refine ww_iload_n 49 X dL_digest_48 rfl rfl ?_
    refine ww_iconst (v := 3) 50 X dL_digest_49 rfl (by decide) ?_
    obtain ⟨x4, hx4, h⟩ := hb_bind_of h
    refine ww_callV (ci := 5) (rest := [.long ((31 : Int64) * (((31 : Int64) * (((31 : Int64) * w1) + ((x2.1 : Int32).toInt64))) + ((x3.1 : Int32).toInt64))), .long (31 : Int64)]) (st' := [.int x4.1, .long ((31 : Int64) * (((31 : Int64) * (((31 : Int64) * w1) + ((x2.1 : Int32).toInt64))) + ((x3.1 : Int32).toInt64))), .long (31 : Int64)]) 53 X (ct_X5_page (hb_l Γ) G r0 hr0 w3 3 x3.2 hx4) cw_L_19 rfl (by decide) hr0 rfl ⟨by decide, by decide⟩ (Nat.le_of_ble_eq_true rfl) rfl rfl dL_digest_50 rfl ?_
    refine ww_i2l 54 X dL_digest_53 rfl ?_
    refine ww_ladd 55 X dL_digest_54 rfl ?_
    refine ww_lmul 56 X dL_digest_55 rfl ?_
    refine ww_aload_n 57 X dL_digest_56 rfl rfl ?_
    refine ww_iload_n 58 X dL_digest_57 rfl rfl ?_
    refine ww_bipush (v := 10) 60 X dL_digest_58 rfl (by decide) ?_
    obtain ⟨x5, hx5, h⟩ := hb_bind_of h
    refine ww_callV (ci := 5) (rest := [.long ((31 : Int64) * (((31 : Int64) * (((31 : Int64) * (((31 : Int64) * w1) + ((x2.1 : Int32).toInt64))) + ((x3.1 : Int32).toInt64))) + ((x4.1 : Int32).toInt64)))]) (st' := [.int x5.1, .long ((31 : Int64) * (((31 : Int64) * (((31 : Int64) * (((31 : Int64) * w1) + ((x2.1 : Int32).toInt64))) + ((x3.1 : Int32).toInt64))) + ((x4.1 : Int32).toInt64)))]) 63 X (ct_X5_page (hb_l Γ) G r0 hr0 w3 10 x4.2 hx5) cw_L_19 rfl (by decide) hr0 rfl ⟨by decide, by decide⟩ (Nat.le_of_ble_eq_true rfl) rfl rfl dL_digest_60 rfl ?_
    refine ww_i2l 64 X dL_digest_63 rfl ?_
    refine ww_ladd 65 X dL_digest_64 rfl ?_
    obtain ⟨v6, ev6, h⟩ := hb_nm_of h
    rw [← ev6]
    refine ww_lstore_n 66 X (L' := [some (.ref (G.2.2.2 r0)), some (.long v6), none, some (.int w3), none]) dL_digest_65 rfl (Nat.le_of_ble_eq_true rfl) rfl rfl ?_
    refine ww_iconst (v := 0) 67 X dL_digest_66 rfl (by decide) ?_
    refine ww_istore 69 X (L' := [some (.ref (G.2.2.2 r0)), some (.long v6), none, some (.int w3), some (.int 0)]) dL_digest_67 rfl (Nat.le_of_ble_eq_true rfl) rfl rfl ?_
    obtain ⟨t13, ht13, h⟩ := hb_bind_of h
    refine lw_L_digest_69 X r0 hr0 w3 (v6, 0, x5.2) t13 ht13 ?_
    obtain ⟨v14, ev14, h⟩ := hb_nm_of h
    refine ww_iinc 133 X (L' := [some (.ref (G.2.2.2 r0)), some (.long t13.1), none, some (.int v14), none]) dL_digest_130 rfl rfl ev14.symm rfl ?_
    refine ww_goto 6 X dL_digest_133 (by decide) ?_
    obtain rfl := Option.some.inj h
    exact K
def ll_L_digest_6 (r0 : Nat) : (Int64 × Int32 × hb_Mem) → Option (Int64 × hb_Mem) := hb_lp (fun s => lb_L_digest_6 r0 s.1 s.2.1 s.2.2) hb_F
theorem lw_L_digest_6 {Γ : hb_Ctx} {G : hb_Gam} {Q : State → Prop} (X : hb_X Γ cL_digest 5 RL ΛC G 8 185)  (r0 : Nat) (hr0 : hb_is ΛC r0 5) (s : (Int64 × Int32 × hb_Mem)) (t : (Int64 × hb_Mem)) (h : ll_L_digest_6 r0 s = some t) (K : (fun t : (Int64 × hb_Mem) => hb_W Γ ΛC G 5 Q t.2 [some (.ref (G.2.2.2 r0)), some (.long t.1), none, none, none] [] 136) t) : hb_W Γ ΛC G 5 Q s.2.2 [some (.ref (G.2.2.2 r0)), some (.long s.1), none, some (.int s.2.1), none] [] 6 :=
  hb_lp_w (P := fun s : (Int64 × Int32 × hb_Mem) => hb_W Γ ΛC G 5 Q s.2.2 [some (.ref (G.2.2.2 r0)), some (.long s.1), none, some (.int s.2.1), none] [] 6) (E := (fun t : (Int64 × hb_Mem) => hb_W Γ ΛC G 5 Q t.2 [some (.ref (G.2.2.2 r0)), some (.long t.1), none, none, none] [] 136)) (fun s x hx K => lk_L_digest_6 X r0 hr0 s.1 s.2.1 s.2.2 hx K) _ s t h K
def lb_L_digest_138 (r0 : Nat) (w1 : Int64) (w3 : Int32) (σ : hb_Mem) : Option ((Int64 × Int32) ⊕ Int64) :=
if 2 ≤ w3 then (
some (.inr w1))
else (
(fn_X5_reader r0 w3 0 σ).bind fun x16 =>
(fn_X5_reader r0 w3 1 σ).bind fun x17 =>
(fn_X5_reader r0 w3 3 σ).bind fun x18 =>
hb_nm (((31 : Int64) * (((31 : Int64) * (((31 : Int64) * w1) + ((x16 : Int32).toInt64))) + ((x17 : Int32).toInt64))) + ((x18 : Int32).toInt64)) fun v19 =>
hb_nm (w3 + 1) fun v20 =>
some (.inl (v19, v20)))
set_option maxRecDepth 100000 in
set_option maxHeartbeats 4000000 in
theorem lk_L_digest_138 {Γ : hb_Ctx} {G : hb_Gam} {Q : State → Prop} (X : hb_X Γ cL_digest 5 RL ΛC G 8 185)  (r0 : Nat) (hr0 : hb_is ΛC r0 5) (w1 : Int64) (w3 : Int32) (σ : hb_Mem) {x : ((Int64 × Int32) ⊕ Int64)} (h : lb_L_digest_138 r0 w1 w3 σ = some x) (K : Sum.elim (fun s : (Int64 × Int32) => hb_W Γ ΛC G 5 Q σ [some (.ref (G.2.2.2 r0)), some (.long s.1), none, some (.int s.2), none] [] 138) (fun t : Int64 => hb_W Γ ΛC G 5 Q σ [some (.ref (G.2.2.2 r0)), some (.long t), none, none, none] [] 187) x) : hb_W Γ ΛC G 5 Q σ [some (.ref (G.2.2.2 r0)), some (.long w1), none, some (.int w3), none] [] 138 := by
  unfold lb_L_digest_138 at h
  refine ww_iload_n 139 X dL_digest_138 rfl rfl ?_
  refine ww_iconst (v := 2) 140 X dL_digest_139 rfl (by decide) ?_
  refine ww_icmp_ge 187 143 X dL_digest_140 (by decide) rfl h (fun h => ?_) (fun h => ?_)
  · skip
    obtain rfl := Option.some.inj h
    refine ww_kill [3] (L' := [some (.ref (G.2.2.2 r0)), some (.long w1), none, none, none]) rfl ?_
    exact K
  · skip
    refine ww_ldc2 (v := 31) 146 X dL_digest_143 rfl (List.mem_of_getElem? (i := 429) (by decide +kernel)) ?_
    refine ww_ldc2 (v := 31) 149 X dL_digest_146 rfl (List.mem_of_getElem? (i := 429) (by decide +kernel)) ?_
    refine ww_ldc2 (v := 31) 152 X dL_digest_149 rfl (List.mem_of_getElem? (i := 429) (by decide +kernel)) ?_
    refine ww_lload_n 153 X dL_digest_152 rfl rfl ?_
    refine ww_lmul 154 X dL_digest_153 rfl ?_
    refine ww_aload_n 155 X dL_digest_154 rfl rfl ?_
    refine ww_iload_n 156 X dL_digest_155 rfl rfl ?_
    refine ww_iconst (v := 0) 157 X dL_digest_156 rfl (by decide) ?_
    obtain ⟨x16, hx16, h⟩ := hb_bind_of h
    refine ww_callV (ci := 5) (rest := [.long ((31 : Int64) * w1), .long (31 : Int64), .long (31 : Int64)]) (st' := [.int x16, .long ((31 : Int64) * w1), .long (31 : Int64), .long (31 : Int64)]) 160 X (ct_X5_reader (hb_l Γ) G r0 hr0 w3 0 σ hx16) cw_L_27 rfl (by decide) hr0 rfl ⟨by decide, by decide⟩ (Nat.le_of_ble_eq_true rfl) rfl rfl dL_digest_157 rfl ?_
    refine ww_i2l 161 X dL_digest_160 rfl ?_
    refine ww_ladd 162 X dL_digest_161 rfl ?_
    refine ww_lmul 163 X dL_digest_162 rfl ?_
    refine ww_aload_n 164 X dL_digest_163 rfl rfl ?_
    refine ww_iload_n 165 X dL_digest_164 rfl rfl ?_
    refine ww_iconst (v := 1) 166 X dL_digest_165 rfl (by decide) ?_
    obtain ⟨x17, hx17, h⟩ := hb_bind_of h
    refine ww_callV (ci := 5) (rest := [.long ((31 : Int64) * (((31 : Int64) * w1) + ((x16 : Int32).toInt64))), .long (31 : Int64)]) (st' := [.int x17, .long ((31 : Int64) * (((31 : Int64) * w1) + ((x16 : Int32).toInt64))), .long (31 : Int64)]) 169 X (ct_X5_reader (hb_l Γ) G r0 hr0 w3 1 σ hx17) cw_L_27 rfl (by decide) hr0 rfl ⟨by decide, by decide⟩ (Nat.le_of_ble_eq_true rfl) rfl rfl dL_digest_166 rfl ?_
    refine ww_i2l 170 X dL_digest_169 rfl ?_
    refine ww_ladd 171 X dL_digest_170 rfl ?_
    refine ww_lmul 172 X dL_digest_171 rfl ?_
    refine ww_aload_n 173 X dL_digest_172 rfl rfl ?_
    refine ww_iload_n 174 X dL_digest_173 rfl rfl ?_
    refine ww_iconst (v := 3) 175 X dL_digest_174 rfl (by decide) ?_
    obtain ⟨x18, hx18, h⟩ := hb_bind_of h
    refine ww_callV (ci := 5) (rest := [.long ((31 : Int64) * (((31 : Int64) * (((31 : Int64) * w1) + ((x16 : Int32).toInt64))) + ((x17 : Int32).toInt64)))]) (st' := [.int x18, .long ((31 : Int64) * (((31 : Int64) * (((31 : Int64) * w1) + ((x16 : Int32).toInt64))) + ((x17 : Int32).toInt64)))]) 178 X (ct_X5_reader (hb_l Γ) G r0 hr0 w3 3 σ hx18) cw_L_27 rfl (by decide) hr0 rfl ⟨by decide, by decide⟩ (Nat.le_of_ble_eq_true rfl) rfl rfl dL_digest_175 rfl ?_
    refine ww_i2l 179 X dL_digest_178 rfl ?_
    refine ww_ladd 180 X dL_digest_179 rfl ?_
    obtain ⟨v19, ev19, h⟩ := hb_nm_of h
    rw [← ev19]
    refine ww_lstore_n 181 X (L' := [some (.ref (G.2.2.2 r0)), some (.long v19), none, some (.int w3), none]) dL_digest_180 rfl (Nat.le_of_ble_eq_true rfl) rfl rfl ?_
    obtain ⟨v20, ev20, h⟩ := hb_nm_of h
    refine ww_iinc 184 X (L' := [some (.ref (G.2.2.2 r0)), some (.long v19), none, some (.int v20), none]) dL_digest_181 rfl rfl ev20.symm rfl ?_
    refine ww_goto 138 X dL_digest_184 (by decide) ?_
    obtain rfl := Option.some.inj h
    exact K
def ll_L_digest_138 (r0 : Nat) (σ : hb_Mem) : (Int64 × Int32) → Option Int64 := hb_lp (fun s => lb_L_digest_138 r0 s.1 s.2 σ) hb_F
theorem lw_L_digest_138 {Γ : hb_Ctx} {G : hb_Gam} {Q : State → Prop} (X : hb_X Γ cL_digest 5 RL ΛC G 8 185)  (r0 : Nat) (hr0 : hb_is ΛC r0 5) (σ : hb_Mem) (s : (Int64 × Int32)) (t : Int64) (h : ll_L_digest_138 r0 σ s = some t) (K : (fun t : Int64 => hb_W Γ ΛC G 5 Q σ [some (.ref (G.2.2.2 r0)), some (.long t), none, none, none] [] 187) t) : hb_W Γ ΛC G 5 Q σ [some (.ref (G.2.2.2 r0)), some (.long s.1), none, some (.int s.2), none] [] 138 :=
  hb_lp_w (P := fun s : (Int64 × Int32) => hb_W Γ ΛC G 5 Q σ [some (.ref (G.2.2.2 r0)), some (.long s.1), none, some (.int s.2), none] [] 138) (E := (fun t : Int64 => hb_W Γ ΛC G 5 Q σ [some (.ref (G.2.2.2 r0)), some (.long t), none, none, none] [] 187)) (fun s x hx K => lk_L_digest_138 X r0 hr0 s.1 s.2 σ hx K) _ s t h K
def fn_L_digest (r0 : Nat) (σ : hb_Mem) : Option (Int64 × hb_Mem) :=
(ll_L_digest_6 r0 ((257 : Int64), 0, σ)).bind fun t15 =>
(ll_L_digest_138 r0 t15.2 (t15.1, 0)).bind fun t21 =>
(fn_X5_count r0 0 t15.2).bind fun x22 =>
(fn_X5_count r0 1 x22.2).bind fun x23 =>
(fn_X5_count r0 9 x23.2).bind fun x24 =>
some (((31 : Int64) * (((31 : Int64) * (((31 : Int64) * t21) + ((x22.1 : Int32).toInt64))) + ((x23.1 : Int32).toInt64))) + ((x24.1 : Int32).toInt64), x24.2)
set_option maxRecDepth 100000 in
set_option maxHeartbeats 4000000 in
theorem wk_L_digest {Γ : hb_Ctx} {G : hb_Gam} {Q : State → Prop} (X : hb_X Γ cL_digest 5 RL ΛC G 8 185) (hr : hb_ret Γ = (some .long)) (r0 : Nat) (hr0 : hb_is ΛC r0 5) (σ : hb_Mem) {x : (Int64 × hb_Mem)} (h : fn_L_digest r0 σ = some x) (K : Q = hb_Q Γ ΛC G (some (.long x.1)) x.2) : hb_W Γ ΛC G 5 Q σ [some (.ref (G.2.2.2 r0)), none, none, none, none] [] 0 := by
  unfold fn_L_digest at h
  refine ww_ldc2 (v := 257) 3 X dL_digest_0 rfl (List.mem_of_getElem? (i := 428) (by decide +kernel)) ?_
  refine ww_lstore_n 4 X (L' := [some (.ref (G.2.2.2 r0)), some (.long (257 : Int64)), none, none, none]) dL_digest_3 rfl (Nat.le_of_ble_eq_true rfl) rfl rfl ?_
  refine ww_iconst (v := 0) 5 X dL_digest_4 rfl (by decide) ?_
  refine ww_istore_n 6 X (L' := [some (.ref (G.2.2.2 r0)), some (.long (257 : Int64)), none, some (.int 0), none]) dL_digest_5 rfl (Nat.le_of_ble_eq_true rfl) rfl rfl ?_
  obtain ⟨t15, ht15, h⟩ := hb_bind_of h
  refine lw_L_digest_6 X r0 hr0 ((257 : Int64), 0, σ) t15 ht15 ?_
  refine ww_iconst (v := 0) 137 X dL_digest_136 rfl (by decide) ?_
  refine ww_istore_n 138 X (L' := [some (.ref (G.2.2.2 r0)), some (.long t15.1), none, some (.int 0), none]) dL_digest_137 rfl (Nat.le_of_ble_eq_true rfl) rfl rfl ?_
  obtain ⟨t21, ht21, h⟩ := hb_bind_of h
  refine lw_L_digest_138 X r0 hr0 t15.2 (t15.1, 0) t21 ht21 ?_
  refine ww_ldc2 (v := 31) 190 X dL_digest_187 rfl (List.mem_of_getElem? (i := 429) (by decide +kernel)) ?_
  refine ww_ldc2 (v := 31) 193 X dL_digest_190 rfl (List.mem_of_getElem? (i := 429) (by decide +kernel)) ?_
  refine ww_ldc2 (v := 31) 196 X dL_digest_193 rfl (List.mem_of_getElem? (i := 429) (by decide +kernel)) ?_
  refine ww_lload_n 197 X dL_digest_196 rfl rfl ?_
  refine ww_lmul 198 X dL_digest_197 rfl ?_
  refine ww_aload_n 199 X dL_digest_198 rfl rfl ?_
  refine ww_iconst (v := 0) 200 X dL_digest_199 rfl (by decide) ?_
  obtain ⟨x22, hx22, h⟩ := hb_bind_of h
  refine ww_callV (ci := 5) (rest := [.long ((31 : Int64) * t21), .long (31 : Int64), .long (31 : Int64)]) (st' := [.int x22.1, .long ((31 : Int64) * t21), .long (31 : Int64), .long (31 : Int64)]) 203 X (ct_X5_count (hb_l Γ) G r0 hr0 0 t15.2 hx22) cw_L_11 rfl (by decide) hr0 rfl ⟨by decide, by decide⟩ (Nat.le_of_ble_eq_true rfl) rfl rfl dL_digest_200 rfl ?_
  refine ww_i2l 204 X dL_digest_203 rfl ?_
  refine ww_ladd 205 X dL_digest_204 rfl ?_
  refine ww_lmul 206 X dL_digest_205 rfl ?_
  refine ww_aload_n 207 X dL_digest_206 rfl rfl ?_
  refine ww_iconst (v := 1) 208 X dL_digest_207 rfl (by decide) ?_
  obtain ⟨x23, hx23, h⟩ := hb_bind_of h
  refine ww_callV (ci := 5) (rest := [.long ((31 : Int64) * (((31 : Int64) * t21) + ((x22.1 : Int32).toInt64))), .long (31 : Int64)]) (st' := [.int x23.1, .long ((31 : Int64) * (((31 : Int64) * t21) + ((x22.1 : Int32).toInt64))), .long (31 : Int64)]) 211 X (ct_X5_count (hb_l Γ) G r0 hr0 1 x22.2 hx23) cw_L_11 rfl (by decide) hr0 rfl ⟨by decide, by decide⟩ (Nat.le_of_ble_eq_true rfl) rfl rfl dL_digest_208 rfl ?_
  refine ww_i2l 212 X dL_digest_211 rfl ?_
  refine ww_ladd 213 X dL_digest_212 rfl ?_
  refine ww_lmul 214 X dL_digest_213 rfl ?_
  refine ww_aload_n 215 X dL_digest_214 rfl rfl ?_
  refine ww_bipush (v := 9) 217 X dL_digest_215 rfl (by decide) ?_
  obtain ⟨x24, hx24, h⟩ := hb_bind_of h
  refine ww_callV (ci := 5) (rest := [.long ((31 : Int64) * (((31 : Int64) * (((31 : Int64) * t21) + ((x22.1 : Int32).toInt64))) + ((x23.1 : Int32).toInt64)))]) (st' := [.int x24.1, .long ((31 : Int64) * (((31 : Int64) * (((31 : Int64) * t21) + ((x22.1 : Int32).toInt64))) + ((x23.1 : Int32).toInt64)))]) 220 X (ct_X5_count (hb_l Γ) G r0 hr0 9 x23.2 hx24) cw_L_11 rfl (by decide) hr0 rfl ⟨by decide, by decide⟩ (Nat.le_of_ble_eq_true rfl) rfl rfl dL_digest_217 rfl ?_
  refine ww_i2l 221 X dL_digest_220 rfl ?_
  refine ww_ladd 222 X dL_digest_221 rfl ?_
  obtain rfl := Option.some.inj h
  exact ww_ret_l X hr K dL_digest_222
theorem ct_L_digest (l : Launch) (G : hb_Gam) (r0 : Nat) (hr0 : hb_is ΛC r0 5) (σ : hb_Mem) {x : (Int64 × hb_Mem)} (h : fn_L_digest r0 σ = some x) : hb_C l yL_digest cL_digest 5 (some .long) 8 185 ΛC G [.ref (G.2.2.2 r0)] σ (some (.long x.1)) x.2 :=
  hb_C.of [some (.ref (G.2.2.2 r0)), none, none, none, none] (by decide +kernel) (Nat.le_of_ble_eq_true rfl) (by intro v hv; simp only [List.mem_cons, List.not_mem_nil, or_false] at hv; subst hv; rfl) rfl (hb_pad [.ref (G.2.2.2 r0)] 4) (fun Γ X hr => wk_L_digest X hr r0 hr0 σ h rfl)
def jn_L_holds_244 (r0 : Nat) (i1 : Int32) (i2 : Int32) (i3 : Int32) (i5 : Int32) (i6 : Int32) (j7 : Int32) (s0 : Int32) (σ : hb_Mem) : Option ((Int32 × Int32 × hb_Mem) ⊕ (Int32 × hb_Mem)) :=
hb_nm (j7 + 1) fun v7 =>
some (.inl (s0, v7, σ))
set_option maxRecDepth 100000 in
set_option maxHeartbeats 4000000 in
theorem jw_L_holds_244 {Γ : hb_Ctx} {G : hb_Gam} {Q : State → Prop} (X : hb_X Γ cL_holds 9 RL ΛC G 8 185)  (r0 : Nat) (hr0 : hb_is ΛC r0 5) (i1 : Int32) (i2 : Int32) (i3 : Int32) (i5 : Int32) (i6 : Int32) (j7 : Int32) (s0 : Int32) (σ : hb_Mem) {x : ((Int32 × Int32 × hb_Mem) ⊕ (Int32 × hb_Mem))} (h : jn_L_holds_244 r0 i1 i2 i3 i5 i6 j7 s0 σ = some x) (K : Sum.elim (fun s : (Int32 × Int32 × hb_Mem) => hb_W Γ ΛC G 9 Q s.2.2 [some (.ref (G.2.2.2 r0)), some (.int i1), some (.int i2), some (.int i3), some (.int s.1), some (.int i5), some (.int i6), some (.int s.2.1), none] [] 153) (fun t : (Int32 × hb_Mem) => hb_W Γ ΛC G 9 Q t.2 [some (.ref (G.2.2.2 r0)), some (.int i1), some (.int i2), some (.int i3), some (.int t.1), some (.int i5), none, none, none] [] 252) x) : hb_W Γ ΛC G 9 Q σ [some (.ref (G.2.2.2 r0)), some (.int i1), some (.int i2), some (.int i3), none, some (.int i5), some (.int i6), some (.int j7), none] [.int s0] 244 := by
  unfold jn_L_holds_244 at h
  refine ww_istore 246 X (L' := [some (.ref (G.2.2.2 r0)), some (.int i1), some (.int i2), some (.int i3), some (.int s0), some (.int i5), some (.int i6), some (.int j7), none]) dL_holds_244 rfl (Nat.le_of_ble_eq_true rfl) rfl rfl ?_
  obtain ⟨v7, ev7, h⟩ := hb_nm_of h
  refine ww_iinc 249 X (L' := [some (.ref (G.2.2.2 r0)), some (.int i1), some (.int i2), some (.int i3), some (.int s0), some (.int i5), some (.int i6), some (.int v7), none]) dL_holds_246 rfl rfl ev7.symm rfl ?_
  refine ww_goto 153 X dL_holds_249 (by decide) ?_
  obtain rfl := Option.some.inj h
  exact K
def jn_L_holds_243 (r0 : Nat) (i1 : Int32) (i2 : Int32) (i3 : Int32) (i5 : Int32) (i6 : Int32) (j7 : Int32) (σ : hb_Mem) : Option ((Int32 × Int32 × hb_Mem) ⊕ (Int32 × hb_Mem)) :=
jn_L_holds_244 r0 i1 i2 i3 i5 i6 j7 0 σ
set_option maxRecDepth 100000 in
set_option maxHeartbeats 4000000 in
theorem jw_L_holds_243 {Γ : hb_Ctx} {G : hb_Gam} {Q : State → Prop} (X : hb_X Γ cL_holds 9 RL ΛC G 8 185)  (r0 : Nat) (hr0 : hb_is ΛC r0 5) (i1 : Int32) (i2 : Int32) (i3 : Int32) (i5 : Int32) (i6 : Int32) (j7 : Int32) (σ : hb_Mem) {x : ((Int32 × Int32 × hb_Mem) ⊕ (Int32 × hb_Mem))} (h : jn_L_holds_243 r0 i1 i2 i3 i5 i6 j7 σ = some x) (K : Sum.elim (fun s : (Int32 × Int32 × hb_Mem) => hb_W Γ ΛC G 9 Q s.2.2 [some (.ref (G.2.2.2 r0)), some (.int i1), some (.int i2), some (.int i3), some (.int s.1), some (.int i5), some (.int i6), some (.int s.2.1), none] [] 153) (fun t : (Int32 × hb_Mem) => hb_W Γ ΛC G 9 Q t.2 [some (.ref (G.2.2.2 r0)), some (.int i1), some (.int i2), some (.int i3), some (.int t.1), some (.int i5), none, none, none] [] 252) x) : hb_W Γ ΛC G 9 Q σ [some (.ref (G.2.2.2 r0)), some (.int i1), some (.int i2), some (.int i3), none, some (.int i5), some (.int i6), some (.int j7), none] [] 243 := by
  unfold jn_L_holds_243 at h
  refine ww_iconst (v := 0) 244 X dL_holds_243 rfl (by decide) ?_
  exact jw_L_holds_244 X r0 hr0 i1 i2 i3 i5 i6 j7 0 σ h K
def lb_L_holds_153 (r0 : Nat) (i1 : Int32) (i2 : Int32) (i3 : Int32) (i5 : Int32) (i6 : Int32) (w4 : Int32) (w7 : Int32) (σ : hb_Mem) : Option ((Int32 × Int32 × hb_Mem) ⊕ (Int32 × hb_Mem)) :=
if i6 ≤ w7 then (
some (.inr (w4, σ)))
else (
(fn_X5_choice r0 i5 w7 0 σ).bind fun x6 =>
if w4 = 0 then (
jn_L_holds_243 r0 i1 i2 i3 i5 i6 w7 x6.2)
else (
if x6.1 < 0 then (
jn_L_holds_243 r0 i1 i2 i3 i5 i6 w7 x6.2)
else (
if i1 ≤ x6.1 then (
jn_L_holds_243 r0 i1 i2 i3 i5 i6 w7 x6.2)
else (
(fn_X5_choice r0 i5 w7 1 x6.2).bind fun x8 =>
if x8.1 < 0 then (
jn_L_holds_243 r0 i1 i2 i3 i5 i6 w7 x8.2)
else (
(fn_X5_choice r0 i5 w7 1 x8.2).bind fun x9 =>
if 32 ≤ x9.1 then (
jn_L_holds_243 r0 i1 i2 i3 i5 i6 w7 x9.2)
else (
(fn_X5_choice r0 i5 w7 2 x9.2).bind fun x10 =>
if x10.1 < 0 then (
jn_L_holds_243 r0 i1 i2 i3 i5 i6 w7 x10.2)
else (
(fn_X5_choice r0 i5 w7 2 x10.2).bind fun x11 =>
if 32 ≤ x11.1 then (
jn_L_holds_243 r0 i1 i2 i3 i5 i6 w7 x11.2)
else (
jn_L_holds_244 r0 i1 i2 i3 i5 i6 w7 1 x11.2))))))))
set_option maxRecDepth 100000 in
set_option maxHeartbeats 4000000 in
theorem lk_L_holds_153 {Γ : hb_Ctx} {G : hb_Gam} {Q : State → Prop} (X : hb_X Γ cL_holds 9 RL ΛC G 8 185)  (r0 : Nat) (hr0 : hb_is ΛC r0 5) (i1 : Int32) (i2 : Int32) (i3 : Int32) (i5 : Int32) (i6 : Int32) (w4 : Int32) (w7 : Int32) (σ : hb_Mem) {x : ((Int32 × Int32 × hb_Mem) ⊕ (Int32 × hb_Mem))} (h : lb_L_holds_153 r0 i1 i2 i3 i5 i6 w4 w7 σ = some x) (K : Sum.elim (fun s : (Int32 × Int32 × hb_Mem) => hb_W Γ ΛC G 9 Q s.2.2 [some (.ref (G.2.2.2 r0)), some (.int i1), some (.int i2), some (.int i3), some (.int s.1), some (.int i5), some (.int i6), some (.int s.2.1), none] [] 153) (fun t : (Int32 × hb_Mem) => hb_W Γ ΛC G 9 Q t.2 [some (.ref (G.2.2.2 r0)), some (.int i1), some (.int i2), some (.int i3), some (.int t.1), some (.int i5), none, none, none] [] 252) x) : hb_W Γ ΛC G 9 Q σ [some (.ref (G.2.2.2 r0)), some (.int i1), some (.int i2), some (.int i3), some (.int w4), some (.int i5), some (.int i6), some (.int w7), none] [] 153 := by
  unfold lb_L_holds_153 at h
  refine ww_iload 155 X dL_holds_153 rfl rfl ?_
  refine ww_iload 157 X dL_holds_155 rfl rfl ?_
  refine ww_icmp_ge 252 160 X dL_holds_157 (by decide) rfl h (fun h => ?_) (fun h => ?_)
  · skip
    obtain rfl := Option.some.inj h
    refine ww_kill [6, 7] (L' := [some (.ref (G.2.2.2 r0)), some (.int i1), some (.int i2), some (.int i3), some (.int w4), some (.int i5), none, none, none]) rfl ?_
    exact K
  · skip
    refine ww_aload_n 161 X dL_holds_160 rfl rfl ?_
    refine ww_iload 163 X dL_holds_161 rfl rfl ?_
    refine ww_iload 165 X dL_holds_163 rfl rfl ?_
    refine ww_iconst (v := 0) 166 X dL_holds_165 rfl (by decide) ?_
    obtain ⟨x6, hx6, h⟩ := hb_bind_of h
    refine ww_callV (ci := 5) (rest := []) (st' := [.int x6.1]) 169 X (ct_X5_choice (hb_l Γ) G r0 hr0 i5 w7 0 σ hx6) cw_L_23 rfl (by decide) hr0 rfl ⟨by decide, by decide⟩ (Nat.le_of_ble_eq_true rfl) rfl rfl dL_holds_166 rfl ?_
    refine ww_istore 171 X (L' := [some (.ref (G.2.2.2 r0)), some (.int i1), some (.int i2), some (.int i3), some (.int w4), some (.int i5), some (.int i6), some (.int w7), some (.int x6.1)]) dL_holds_169 rfl (Nat.le_of_ble_eq_true rfl) rfl rfl ?_
    refine ww_iload 173 X dL_holds_171 rfl rfl ?_
    refine ww_if_eq 243 176 X dL_holds_173 (by decide) rfl h (fun h => ?_) (fun h => ?_)
    · skip
      refine ww_kill [4, 8] (L' := [some (.ref (G.2.2.2 r0)), some (.int i1), some (.int i2), some (.int i3), none, some (.int i5), some (.int i6), some (.int w7), none]) rfl ?_
      exact jw_L_holds_243 X r0 hr0 i1 i2 i3 i5 i6 w7 x6.2 h K
    · skip
      refine ww_iload 178 X dL_holds_176 rfl rfl ?_
      refine ww_if_lt 243 181 X dL_holds_178 (by decide) rfl h (fun h => ?_) (fun h => ?_)
      · skip
        refine ww_kill [4, 8] (L' := [some (.ref (G.2.2.2 r0)), some (.int i1), some (.int i2), some (.int i3), none, some (.int i5), some (.int i6), some (.int w7), none]) rfl ?_
        exact jw_L_holds_243 X r0 hr0 i1 i2 i3 i5 i6 w7 x6.2 h K
      · skip
        refine ww_iload 183 X dL_holds_181 rfl rfl ?_
        refine ww_iload_n 184 X dL_holds_183 rfl rfl ?_
        refine ww_icmp_ge 243 187 X dL_holds_184 (by decide) rfl h (fun h => ?_) (fun h => ?_)
        · skip
          refine ww_kill [4, 8] (L' := [some (.ref (G.2.2.2 r0)), some (.int i1), some (.int i2), some (.int i3), none, some (.int i5), some (.int i6), some (.int w7), none]) rfl ?_
          exact jw_L_holds_243 X r0 hr0 i1 i2 i3 i5 i6 w7 x6.2 h K
        · skip
          refine ww_aload_n 188 X dL_holds_187 rfl rfl ?_
          refine ww_iload 190 X dL_holds_188 rfl rfl ?_
          refine ww_iload 192 X dL_holds_190 rfl rfl ?_
          refine ww_iconst (v := 1) 193 X dL_holds_192 rfl (by decide) ?_
          obtain ⟨x8, hx8, h⟩ := hb_bind_of h
          refine ww_callV (ci := 5) (rest := []) (st' := [.int x8.1]) 196 X (ct_X5_choice (hb_l Γ) G r0 hr0 i5 w7 1 x6.2 hx8) cw_L_23 rfl (by decide) hr0 rfl ⟨by decide, by decide⟩ (Nat.le_of_ble_eq_true rfl) rfl rfl dL_holds_193 rfl ?_
          refine ww_if_lt 243 199 X dL_holds_196 (by decide) rfl h (fun h => ?_) (fun h => ?_)
          · skip
            refine ww_kill [4, 8] (L' := [some (.ref (G.2.2.2 r0)), some (.int i1), some (.int i2), some (.int i3), none, some (.int i5), some (.int i6), some (.int w7), none]) rfl ?_
            exact jw_L_holds_243 X r0 hr0 i1 i2 i3 i5 i6 w7 x8.2 h K
          · skip
            refine ww_aload_n 200 X dL_holds_199 rfl rfl ?_
            refine ww_iload 202 X dL_holds_200 rfl rfl ?_
            refine ww_iload 204 X dL_holds_202 rfl rfl ?_
            refine ww_iconst (v := 1) 205 X dL_holds_204 rfl (by decide) ?_
            obtain ⟨x9, hx9, h⟩ := hb_bind_of h
            refine ww_callV (ci := 5) (rest := []) (st' := [.int x9.1]) 208 X (ct_X5_choice (hb_l Γ) G r0 hr0 i5 w7 1 x8.2 hx9) cw_L_23 rfl (by decide) hr0 rfl ⟨by decide, by decide⟩ (Nat.le_of_ble_eq_true rfl) rfl rfl dL_holds_205 rfl ?_
            refine ww_bipush (v := 32) 210 X dL_holds_208 rfl (by decide) ?_
            refine ww_icmp_ge 243 213 X dL_holds_210 (by decide) rfl h (fun h => ?_) (fun h => ?_)
            · skip
              refine ww_kill [4, 8] (L' := [some (.ref (G.2.2.2 r0)), some (.int i1), some (.int i2), some (.int i3), none, some (.int i5), some (.int i6), some (.int w7), none]) rfl ?_
              exact jw_L_holds_243 X r0 hr0 i1 i2 i3 i5 i6 w7 x9.2 h K
            · skip
              refine ww_aload_n 214 X dL_holds_213 rfl rfl ?_
              refine ww_iload 216 X dL_holds_214 rfl rfl ?_
              refine ww_iload 218 X dL_holds_216 rfl rfl ?_
              refine ww_iconst (v := 2) 219 X dL_holds_218 rfl (by decide) ?_
              obtain ⟨x10, hx10, h⟩ := hb_bind_of h
              refine ww_callV (ci := 5) (rest := []) (st' := [.int x10.1]) 222 X (ct_X5_choice (hb_l Γ) G r0 hr0 i5 w7 2 x9.2 hx10) cw_L_23 rfl (by decide) hr0 rfl ⟨by decide, by decide⟩ (Nat.le_of_ble_eq_true rfl) rfl rfl dL_holds_219 rfl ?_
              refine ww_if_lt 243 225 X dL_holds_222 (by decide) rfl h (fun h => ?_) (fun h => ?_)
              · skip
                refine ww_kill [4, 8] (L' := [some (.ref (G.2.2.2 r0)), some (.int i1), some (.int i2), some (.int i3), none, some (.int i5), some (.int i6), some (.int w7), none]) rfl ?_
                exact jw_L_holds_243 X r0 hr0 i1 i2 i3 i5 i6 w7 x10.2 h K
              · skip
                refine ww_aload_n 226 X dL_holds_225 rfl rfl ?_
                refine ww_iload 228 X dL_holds_226 rfl rfl ?_
                refine ww_iload 230 X dL_holds_228 rfl rfl ?_
                refine ww_iconst (v := 2) 231 X dL_holds_230 rfl (by decide) ?_
                obtain ⟨x11, hx11, h⟩ := hb_bind_of h
                refine ww_callV (ci := 5) (rest := []) (st' := [.int x11.1]) 234 X (ct_X5_choice (hb_l Γ) G r0 hr0 i5 w7 2 x10.2 hx11) cw_L_23 rfl (by decide) hr0 rfl ⟨by decide, by decide⟩ (Nat.le_of_ble_eq_true rfl) rfl rfl dL_holds_231 rfl ?_
                refine ww_bipush (v := 32) 236 X dL_holds_234 rfl (by decide) ?_
                refine ww_icmp_ge 243 239 X dL_holds_236 (by decide) rfl h (fun h => ?_) (fun h => ?_)
                · skip
                  refine ww_kill [4, 8] (L' := [some (.ref (G.2.2.2 r0)), some (.int i1), some (.int i2), some (.int i3), none, some (.int i5), some (.int i6), some (.int w7), none]) rfl ?_
                  exact jw_L_holds_243 X r0 hr0 i1 i2 i3 i5 i6 w7 x11.2 h K
                · skip
                  refine ww_iconst (v := 1) 240 X dL_holds_239 rfl (by decide) ?_
                  refine ww_goto 244 X dL_holds_240 (by decide) ?_
                  refine ww_kill [4, 8] (L' := [some (.ref (G.2.2.2 r0)), some (.int i1), some (.int i2), some (.int i3), none, some (.int i5), some (.int i6), some (.int w7), none]) rfl ?_
                  exact jw_L_holds_244 X r0 hr0 i1 i2 i3 i5 i6 w7 1 x11.2 h K
def ll_L_holds_153 (r0 : Nat) (i1 : Int32) (i2 : Int32) (i3 : Int32) (i5 : Int32) (i6 : Int32) : (Int32 × Int32 × hb_Mem) → Option (Int32 × hb_Mem) := hb_lp (fun s => lb_L_holds_153 r0 i1 i2 i3 i5 i6 s.1 s.2.1 s.2.2) hb_F
theorem lw_L_holds_153 {Γ : hb_Ctx} {G : hb_Gam} {Q : State → Prop} (X : hb_X Γ cL_holds 9 RL ΛC G 8 185)  (r0 : Nat) (hr0 : hb_is ΛC r0 5) (i1 : Int32) (i2 : Int32) (i3 : Int32) (i5 : Int32) (i6 : Int32) (s : (Int32 × Int32 × hb_Mem)) (t : (Int32 × hb_Mem)) (h : ll_L_holds_153 r0 i1 i2 i3 i5 i6 s = some t) (K : (fun t : (Int32 × hb_Mem) => hb_W Γ ΛC G 9 Q t.2 [some (.ref (G.2.2.2 r0)), some (.int i1), some (.int i2), some (.int i3), some (.int t.1), some (.int i5), none, none, none] [] 252) t) : hb_W Γ ΛC G 9 Q s.2.2 [some (.ref (G.2.2.2 r0)), some (.int i1), some (.int i2), some (.int i3), some (.int s.1), some (.int i5), some (.int i6), some (.int s.2.1), none] [] 153 :=
  hb_lp_w (P := fun s : (Int32 × Int32 × hb_Mem) => hb_W Γ ΛC G 9 Q s.2.2 [some (.ref (G.2.2.2 r0)), some (.int i1), some (.int i2), some (.int i3), some (.int s.1), some (.int i5), some (.int i6), some (.int s.2.1), none] [] 153) (E := (fun t : (Int32 × hb_Mem) => hb_W Γ ΛC G 9 Q t.2 [some (.ref (G.2.2.2 r0)), some (.int i1), some (.int i2), some (.int i3), some (.int t.1), some (.int i5), none, none, none] [] 252)) (fun s x hx K => lk_L_holds_153 X r0 hr0 i1 i2 i3 i5 i6 s.1 s.2.1 s.2.2 hx K) _ s t h K
def jn_L_holds_148 (r0 : Nat) (i1 : Int32) (j2 : Int32) (j3 : Int32) (j5 : Int32) (j6 : Int32) (s0 : Int32) (σ : hb_Mem) : Option ((Int32 × Int32 × Int32 × Int32 × hb_Mem) ⊕ (Int32 × Int32 × Int32 × hb_Mem)) :=
(ll_L_holds_153 r0 i1 j2 j3 j5 j6 (s0, 0, σ)).bind fun t12 =>
hb_nm (j5 + 1) fun v13 =>
some (.inl (j2, j3, t12.1, v13, t12.2))
set_option maxRecDepth 100000 in
set_option maxHeartbeats 4000000 in
theorem jw_L_holds_148 {Γ : hb_Ctx} {G : hb_Gam} {Q : State → Prop} (X : hb_X Γ cL_holds 9 RL ΛC G 8 185)  (r0 : Nat) (hr0 : hb_is ΛC r0 5) (i1 : Int32) (j2 : Int32) (j3 : Int32) (j5 : Int32) (j6 : Int32) (s0 : Int32) (σ : hb_Mem) {x : ((Int32 × Int32 × Int32 × Int32 × hb_Mem) ⊕ (Int32 × Int32 × Int32 × hb_Mem))} (h : jn_L_holds_148 r0 i1 j2 j3 j5 j6 s0 σ = some x) (K : Sum.elim (fun s : (Int32 × Int32 × Int32 × Int32 × hb_Mem) => hb_W Γ ΛC G 9 Q s.2.2.2.2 [some (.ref (G.2.2.2 r0)), some (.int i1), some (.int s.1), some (.int s.2.1), some (.int s.2.2.1), some (.int s.2.2.2.1), none, none, none] [] 16) (fun t : (Int32 × Int32 × Int32 × hb_Mem) => hb_W Γ ΛC G 9 Q t.2.2.2 [some (.ref (G.2.2.2 r0)), some (.int i1), some (.int t.1), some (.int t.2.1), some (.int t.2.2.1), none, none, none, none] [] 258) x) : hb_W Γ ΛC G 9 Q σ [some (.ref (G.2.2.2 r0)), some (.int i1), some (.int j2), some (.int j3), none, some (.int j5), some (.int j6), none, none] [.int s0] 148 := by
  unfold jn_L_holds_148 at h
  refine ww_istore 150 X (L' := [some (.ref (G.2.2.2 r0)), some (.int i1), some (.int j2), some (.int j3), some (.int s0), some (.int j5), some (.int j6), none, none]) dL_holds_148 rfl (Nat.le_of_ble_eq_true rfl) rfl rfl ?_
  refine ww_iconst (v := 0) 151 X dL_holds_150 rfl (by decide) ?_
  refine ww_istore 153 X (L' := [some (.ref (G.2.2.2 r0)), some (.int i1), some (.int j2), some (.int j3), some (.int s0), some (.int j5), some (.int j6), some (.int 0), none]) dL_holds_151 rfl (Nat.le_of_ble_eq_true rfl) rfl rfl ?_
  obtain ⟨t12, ht12, h⟩ := hb_bind_of h
  refine lw_L_holds_153 X r0 hr0 i1 j2 j3 j5 j6 (s0, 0, σ) t12 ht12 ?_
  obtain ⟨v13, ev13, h⟩ := hb_nm_of h
  refine ww_iinc 255 X (L' := [some (.ref (G.2.2.2 r0)), some (.int i1), some (.int j2), some (.int j3), some (.int t12.1), some (.int v13), none, none, none]) dL_holds_252 rfl rfl ev13.symm rfl ?_
  refine ww_goto 16 X dL_holds_255 (by decide) ?_
  obtain rfl := Option.some.inj h
  exact K
def jn_L_holds_147 (r0 : Nat) (i1 : Int32) (j2 : Int32) (j3 : Int32) (j5 : Int32) (j6 : Int32) (σ : hb_Mem) : Option ((Int32 × Int32 × Int32 × Int32 × hb_Mem) ⊕ (Int32 × Int32 × Int32 × hb_Mem)) :=
jn_L_holds_148 r0 i1 j2 j3 j5 j6 0 σ
set_option maxRecDepth 100000 in
set_option maxHeartbeats 4000000 in
theorem jw_L_holds_147 {Γ : hb_Ctx} {G : hb_Gam} {Q : State → Prop} (X : hb_X Γ cL_holds 9 RL ΛC G 8 185)  (r0 : Nat) (hr0 : hb_is ΛC r0 5) (i1 : Int32) (j2 : Int32) (j3 : Int32) (j5 : Int32) (j6 : Int32) (σ : hb_Mem) {x : ((Int32 × Int32 × Int32 × Int32 × hb_Mem) ⊕ (Int32 × Int32 × Int32 × hb_Mem))} (h : jn_L_holds_147 r0 i1 j2 j3 j5 j6 σ = some x) (K : Sum.elim (fun s : (Int32 × Int32 × Int32 × Int32 × hb_Mem) => hb_W Γ ΛC G 9 Q s.2.2.2.2 [some (.ref (G.2.2.2 r0)), some (.int i1), some (.int s.1), some (.int s.2.1), some (.int s.2.2.1), some (.int s.2.2.2.1), none, none, none] [] 16) (fun t : (Int32 × Int32 × Int32 × hb_Mem) => hb_W Γ ΛC G 9 Q t.2.2.2 [some (.ref (G.2.2.2 r0)), some (.int i1), some (.int t.1), some (.int t.2.1), some (.int t.2.2.1), none, none, none, none] [] 258) x) : hb_W Γ ΛC G 9 Q σ [some (.ref (G.2.2.2 r0)), some (.int i1), some (.int j2), some (.int j3), none, some (.int j5), some (.int j6), none, none] [] 147 := by
  unfold jn_L_holds_147 at h
  refine ww_iconst (v := 0) 148 X dL_holds_147 rfl (by decide) ?_
  exact jw_L_holds_148 X r0 hr0 i1 j2 j3 j5 j6 0 σ h K
def jn_L_holds_140 (r0 : Nat) (i1 : Int32) (j2 : Int32) (j3 : Int32) (j5 : Int32) (j6 : Int32) (s0 : Int32) (s1 : Int32) (σ : hb_Mem) : Option ((Int32 × Int32 × Int32 × Int32 × hb_Mem) ⊕ (Int32 × Int32 × Int32 × hb_Mem)) :=
if s0 = s1 then (
jn_L_holds_148 r0 i1 j2 j3 j5 j6 1 σ)
else (
jn_L_holds_147 r0 i1 j2 j3 j5 j6 σ)
set_option maxRecDepth 100000 in
set_option maxHeartbeats 4000000 in
theorem jw_L_holds_140 {Γ : hb_Ctx} {G : hb_Gam} {Q : State → Prop} (X : hb_X Γ cL_holds 9 RL ΛC G 8 185)  (r0 : Nat) (hr0 : hb_is ΛC r0 5) (i1 : Int32) (j2 : Int32) (j3 : Int32) (j5 : Int32) (j6 : Int32) (s0 : Int32) (s1 : Int32) (σ : hb_Mem) {x : ((Int32 × Int32 × Int32 × Int32 × hb_Mem) ⊕ (Int32 × Int32 × Int32 × hb_Mem))} (h : jn_L_holds_140 r0 i1 j2 j3 j5 j6 s0 s1 σ = some x) (K : Sum.elim (fun s : (Int32 × Int32 × Int32 × Int32 × hb_Mem) => hb_W Γ ΛC G 9 Q s.2.2.2.2 [some (.ref (G.2.2.2 r0)), some (.int i1), some (.int s.1), some (.int s.2.1), some (.int s.2.2.1), some (.int s.2.2.2.1), none, none, none] [] 16) (fun t : (Int32 × Int32 × Int32 × hb_Mem) => hb_W Γ ΛC G 9 Q t.2.2.2 [some (.ref (G.2.2.2 r0)), some (.int i1), some (.int t.1), some (.int t.2.1), some (.int t.2.2.1), none, none, none, none] [] 258) x) : hb_W Γ ΛC G 9 Q σ [some (.ref (G.2.2.2 r0)), some (.int i1), some (.int j2), some (.int j3), none, some (.int j5), some (.int j6), none, none] [.int s1, .int s0] 140 := by
  unfold jn_L_holds_140 at h
  refine ww_icmp_ne 147 143 X dL_holds_140 (by decide) rfl h (fun h => ?_) (fun h => ?_)
  · skip
    refine ww_iconst (v := 1) 144 X dL_holds_143 rfl (by decide) ?_
    refine ww_goto 148 X dL_holds_144 (by decide) ?_
    exact jw_L_holds_148 X r0 hr0 i1 j2 j3 j5 j6 1 σ h K
  · skip
    exact jw_L_holds_147 X r0 hr0 i1 j2 j3 j5 j6 σ h K
def jn_L_holds_139 (r0 : Nat) (i1 : Int32) (j2 : Int32) (j3 : Int32) (j5 : Int32) (j6 : Int32) (s0 : Int32) (σ : hb_Mem) : Option ((Int32 × Int32 × Int32 × Int32 × hb_Mem) ⊕ (Int32 × Int32 × Int32 × hb_Mem)) :=
jn_L_holds_140 r0 i1 j2 j3 j5 j6 s0 0 σ
set_option maxRecDepth 100000 in
set_option maxHeartbeats 4000000 in
theorem jw_L_holds_139 {Γ : hb_Ctx} {G : hb_Gam} {Q : State → Prop} (X : hb_X Γ cL_holds 9 RL ΛC G 8 185)  (r0 : Nat) (hr0 : hb_is ΛC r0 5) (i1 : Int32) (j2 : Int32) (j3 : Int32) (j5 : Int32) (j6 : Int32) (s0 : Int32) (σ : hb_Mem) {x : ((Int32 × Int32 × Int32 × Int32 × hb_Mem) ⊕ (Int32 × Int32 × Int32 × hb_Mem))} (h : jn_L_holds_139 r0 i1 j2 j3 j5 j6 s0 σ = some x) (K : Sum.elim (fun s : (Int32 × Int32 × Int32 × Int32 × hb_Mem) => hb_W Γ ΛC G 9 Q s.2.2.2.2 [some (.ref (G.2.2.2 r0)), some (.int i1), some (.int s.1), some (.int s.2.1), some (.int s.2.2.1), some (.int s.2.2.2.1), none, none, none] [] 16) (fun t : (Int32 × Int32 × Int32 × hb_Mem) => hb_W Γ ΛC G 9 Q t.2.2.2 [some (.ref (G.2.2.2 r0)), some (.int i1), some (.int t.1), some (.int t.2.1), some (.int t.2.2.1), none, none, none, none] [] 258) x) : hb_W Γ ΛC G 9 Q σ [some (.ref (G.2.2.2 r0)), some (.int i1), some (.int j2), some (.int j3), none, some (.int j5), some (.int j6), none, none] [.int s0] 139 := by
  unfold jn_L_holds_139 at h
  refine ww_iconst (v := 0) 140 X dL_holds_139 rfl (by decide) ?_
  exact jw_L_holds_140 X r0 hr0 i1 j2 j3 j5 j6 s0 0 σ h K
def jn_L_holds_120 (r0 : Nat) (i1 : Int32) (j2 : Int32) (j3 : Int32) (j5 : Int32) (j6 : Int32) (s0 : Int32) (σ : hb_Mem) : Option ((Int32 × Int32 × Int32 × Int32 × hb_Mem) ⊕ (Int32 × Int32 × Int32 × hb_Mem)) :=
if j6 = 0 then (
(fn_X5_page r0 j5 3 σ).bind fun x17 =>
if x17.1 ≤ 0 then (
jn_L_holds_139 r0 i1 j2 j3 j5 j6 s0 x17.2)
else (
jn_L_holds_140 r0 i1 j2 j3 j5 j6 s0 1 x17.2))
else (
jn_L_holds_139 r0 i1 j2 j3 j5 j6 s0 σ)
set_option maxRecDepth 100000 in
set_option maxHeartbeats 4000000 in
theorem jw_L_holds_120 {Γ : hb_Ctx} {G : hb_Gam} {Q : State → Prop} (X : hb_X Γ cL_holds 9 RL ΛC G 8 185)  (r0 : Nat) (hr0 : hb_is ΛC r0 5) (i1 : Int32) (j2 : Int32) (j3 : Int32) (j5 : Int32) (j6 : Int32) (s0 : Int32) (σ : hb_Mem) {x : ((Int32 × Int32 × Int32 × Int32 × hb_Mem) ⊕ (Int32 × Int32 × Int32 × hb_Mem))} (h : jn_L_holds_120 r0 i1 j2 j3 j5 j6 s0 σ = some x) (K : Sum.elim (fun s : (Int32 × Int32 × Int32 × Int32 × hb_Mem) => hb_W Γ ΛC G 9 Q s.2.2.2.2 [some (.ref (G.2.2.2 r0)), some (.int i1), some (.int s.1), some (.int s.2.1), some (.int s.2.2.1), some (.int s.2.2.2.1), none, none, none] [] 16) (fun t : (Int32 × Int32 × Int32 × hb_Mem) => hb_W Γ ΛC G 9 Q t.2.2.2 [some (.ref (G.2.2.2 r0)), some (.int i1), some (.int t.1), some (.int t.2.1), some (.int t.2.2.1), none, none, none, none] [] 258) x) : hb_W Γ ΛC G 9 Q σ [some (.ref (G.2.2.2 r0)), some (.int i1), some (.int j2), some (.int j3), none, some (.int j5), some (.int j6), none, none] [.int s0] 120 := by
  unfold jn_L_holds_120 at h
  refine ww_iload 122 X dL_holds_120 rfl rfl ?_
  refine ww_if_ne 139 125 X dL_holds_122 (by decide) rfl h (fun h => ?_) (fun h => ?_)
  · skip
    refine ww_aload_n 126 X dL_holds_125 rfl rfl ?_
    refine ww_iload 128 X dL_holds_126 rfl rfl ?_
    refine ww_iconst (v := 3) 129 X dL_holds_128 rfl (by decide) ?_
    obtain ⟨x17, hx17, h⟩ := hb_bind_of h
    refine ww_callV (ci := 5) (rest := [.int s0]) (st' := [.int x17.1, .int s0]) 132 X (ct_X5_page (hb_l Γ) G r0 hr0 j5 3 σ hx17) cw_L_19 rfl (by decide) hr0 rfl ⟨by decide, by decide⟩ (Nat.le_of_ble_eq_true rfl) rfl rfl dL_holds_129 rfl ?_
    refine ww_if_le 139 135 X dL_holds_132 (by decide) rfl h (fun h => ?_) (fun h => ?_)
    · skip
      exact jw_L_holds_139 X r0 hr0 i1 j2 j3 j5 j6 s0 x17.2 h K
    · skip
      refine ww_iconst (v := 1) 136 X dL_holds_135 rfl (by decide) ?_
      refine ww_goto 140 X dL_holds_136 (by decide) ?_
      exact jw_L_holds_140 X r0 hr0 i1 j2 j3 j5 j6 s0 1 x17.2 h K
  · skip
    exact jw_L_holds_139 X r0 hr0 i1 j2 j3 j5 j6 s0 σ h K
def jn_L_holds_88 (r0 : Nat) (i1 : Int32) (j2 : Int32) (j3 : Int32) (j5 : Int32) (j6 : Int32) (s0 : Int32) (s1 : Int32) (σ : hb_Mem) : Option ((Int32 × Int32 × Int32 × Int32 × hb_Mem) ⊕ (Int32 × Int32 × Int32 × hb_Mem)) :=
if s0 = s1 then (
(fn_X5_choice r0 j5 j6 0 σ).bind fun x15 =>
if x15.1 = (-1) then (
(fn_X5_page r0 j5 4 x15.2).bind fun x16 =>
if x16.1 = 1 then (
jn_L_holds_120 r0 i1 j2 j3 j5 j6 1 x16.2)
else (
jn_L_holds_120 r0 i1 j2 j3 j5 j6 0 x16.2))
else (
jn_L_holds_147 r0 i1 j2 j3 j5 j6 x15.2))
else (
jn_L_holds_147 r0 i1 j2 j3 j5 j6 σ)
set_option maxRecDepth 100000 in
set_option maxHeartbeats 4000000 in
theorem jw_L_holds_88 {Γ : hb_Ctx} {G : hb_Gam} {Q : State → Prop} (X : hb_X Γ cL_holds 9 RL ΛC G 8 185)  (r0 : Nat) (hr0 : hb_is ΛC r0 5) (i1 : Int32) (j2 : Int32) (j3 : Int32) (j5 : Int32) (j6 : Int32) (s0 : Int32) (s1 : Int32) (σ : hb_Mem) {x : ((Int32 × Int32 × Int32 × Int32 × hb_Mem) ⊕ (Int32 × Int32 × Int32 × hb_Mem))} (h : jn_L_holds_88 r0 i1 j2 j3 j5 j6 s0 s1 σ = some x) (K : Sum.elim (fun s : (Int32 × Int32 × Int32 × Int32 × hb_Mem) => hb_W Γ ΛC G 9 Q s.2.2.2.2 [some (.ref (G.2.2.2 r0)), some (.int i1), some (.int s.1), some (.int s.2.1), some (.int s.2.2.1), some (.int s.2.2.2.1), none, none, none] [] 16) (fun t : (Int32 × Int32 × Int32 × hb_Mem) => hb_W Γ ΛC G 9 Q t.2.2.2 [some (.ref (G.2.2.2 r0)), some (.int i1), some (.int t.1), some (.int t.2.1), some (.int t.2.2.1), none, none, none, none] [] 258) x) : hb_W Γ ΛC G 9 Q σ [some (.ref (G.2.2.2 r0)), some (.int i1), some (.int j2), some (.int j3), none, some (.int j5), some (.int j6), none, none] [.int s1, .int s0] 88 := by
  unfold jn_L_holds_88 at h
  refine ww_icmp_ne 147 91 X dL_holds_88 (by decide) rfl h (fun h => ?_) (fun h => ?_)
  · skip
    refine ww_aload_n 92 X dL_holds_91 rfl rfl ?_
    refine ww_iload 94 X dL_holds_92 rfl rfl ?_
    refine ww_iload 96 X dL_holds_94 rfl rfl ?_
    refine ww_iconst (v := 0) 97 X dL_holds_96 rfl (by decide) ?_
    obtain ⟨x15, hx15, h⟩ := hb_bind_of h
    refine ww_callV (ci := 5) (rest := []) (st' := [.int x15.1]) 100 X (ct_X5_choice (hb_l Γ) G r0 hr0 j5 j6 0 σ hx15) cw_L_23 rfl (by decide) hr0 rfl ⟨by decide, by decide⟩ (Nat.le_of_ble_eq_true rfl) rfl rfl dL_holds_97 rfl ?_
    refine ww_iconst (v := (-1)) 101 X dL_holds_100 rfl (by decide) ?_
    refine ww_icmp_ne 147 104 X dL_holds_101 (by decide) rfl h (fun h => ?_) (fun h => ?_)
    · skip
      refine ww_aload_n 105 X dL_holds_104 rfl rfl ?_
      refine ww_iload 107 X dL_holds_105 rfl rfl ?_
      refine ww_iconst (v := 4) 108 X dL_holds_107 rfl (by decide) ?_
      obtain ⟨x16, hx16, h⟩ := hb_bind_of h
      refine ww_callV (ci := 5) (rest := []) (st' := [.int x16.1]) 111 X (ct_X5_page (hb_l Γ) G r0 hr0 j5 4 x15.2 hx16) cw_L_19 rfl (by decide) hr0 rfl ⟨by decide, by decide⟩ (Nat.le_of_ble_eq_true rfl) rfl rfl dL_holds_108 rfl ?_
      refine ww_iconst (v := 1) 112 X dL_holds_111 rfl (by decide) ?_
      refine ww_icmp_ne 119 115 X dL_holds_112 (by decide) rfl h (fun h => ?_) (fun h => ?_)
      · skip
        refine ww_iconst (v := 1) 116 X dL_holds_115 rfl (by decide) ?_
        refine ww_goto 120 X dL_holds_116 (by decide) ?_
        exact jw_L_holds_120 X r0 hr0 i1 j2 j3 j5 j6 1 x16.2 h K
      · skip
        refine ww_iconst (v := 0) 120 X dL_holds_119 rfl (by decide) ?_
        exact jw_L_holds_120 X r0 hr0 i1 j2 j3 j5 j6 0 x16.2 h K
    · skip
      exact jw_L_holds_147 X r0 hr0 i1 j2 j3 j5 j6 x15.2 h K
  · skip
    exact jw_L_holds_147 X r0 hr0 i1 j2 j3 j5 j6 σ h K
def jn_L_holds_73 (r0 : Nat) (i1 : Int32) (j2 : Int32) (j3 : Int32) (j5 : Int32) (j6 : Int32) (s0 : Int32) (σ : hb_Mem) : Option ((Int32 × Int32 × Int32 × Int32 × hb_Mem) ⊕ (Int32 × Int32 × Int32 × hb_Mem)) :=
(fn_X5_page r0 j5 4 σ).bind fun x14 =>
if x14.1 ≤ 0 then (
jn_L_holds_88 r0 i1 j2 j3 j5 j6 s0 0 x14.2)
else (
jn_L_holds_88 r0 i1 j2 j3 j5 j6 s0 1 x14.2)
set_option maxRecDepth 100000 in
set_option maxHeartbeats 4000000 in
theorem jw_L_holds_73 {Γ : hb_Ctx} {G : hb_Gam} {Q : State → Prop} (X : hb_X Γ cL_holds 9 RL ΛC G 8 185)  (r0 : Nat) (hr0 : hb_is ΛC r0 5) (i1 : Int32) (j2 : Int32) (j3 : Int32) (j5 : Int32) (j6 : Int32) (s0 : Int32) (σ : hb_Mem) {x : ((Int32 × Int32 × Int32 × Int32 × hb_Mem) ⊕ (Int32 × Int32 × Int32 × hb_Mem))} (h : jn_L_holds_73 r0 i1 j2 j3 j5 j6 s0 σ = some x) (K : Sum.elim (fun s : (Int32 × Int32 × Int32 × Int32 × hb_Mem) => hb_W Γ ΛC G 9 Q s.2.2.2.2 [some (.ref (G.2.2.2 r0)), some (.int i1), some (.int s.1), some (.int s.2.1), some (.int s.2.2.1), some (.int s.2.2.2.1), none, none, none] [] 16) (fun t : (Int32 × Int32 × Int32 × hb_Mem) => hb_W Γ ΛC G 9 Q t.2.2.2 [some (.ref (G.2.2.2 r0)), some (.int i1), some (.int t.1), some (.int t.2.1), some (.int t.2.2.1), none, none, none, none] [] 258) x) : hb_W Γ ΛC G 9 Q σ [some (.ref (G.2.2.2 r0)), some (.int i1), some (.int j2), some (.int j3), none, some (.int j5), some (.int j6), none, none] [.int s0] 73 := by
  unfold jn_L_holds_73 at h
  refine ww_aload_n 74 X dL_holds_73 rfl rfl ?_
  refine ww_iload 76 X dL_holds_74 rfl rfl ?_
  refine ww_iconst (v := 4) 77 X dL_holds_76 rfl (by decide) ?_
  obtain ⟨x14, hx14, h⟩ := hb_bind_of h
  refine ww_callV (ci := 5) (rest := [.int s0]) (st' := [.int x14.1, .int s0]) 80 X (ct_X5_page (hb_l Γ) G r0 hr0 j5 4 σ hx14) cw_L_19 rfl (by decide) hr0 rfl ⟨by decide, by decide⟩ (Nat.le_of_ble_eq_true rfl) rfl rfl dL_holds_77 rfl ?_
  refine ww_if_le 87 83 X dL_holds_80 (by decide) rfl h (fun h => ?_) (fun h => ?_)
  · skip
    refine ww_iconst (v := 0) 88 X dL_holds_87 rfl (by decide) ?_
    exact jw_L_holds_88 X r0 hr0 i1 j2 j3 j5 j6 s0 0 x14.2 h K
  · skip
    refine ww_iconst (v := 1) 84 X dL_holds_83 rfl (by decide) ?_
    refine ww_goto 88 X dL_holds_84 (by decide) ?_
    exact jw_L_holds_88 X r0 hr0 i1 j2 j3 j5 j6 s0 1 x14.2 h K
def lb_L_holds_16 (r0 : Nat) (i1 : Int32) (w2 : Int32) (w3 : Int32) (w4 : Int32) (w5 : Int32) (σ : hb_Mem) : Option ((Int32 × Int32 × Int32 × Int32 × hb_Mem) ⊕ (Int32 × Int32 × Int32 × hb_Mem)) :=
if i1 ≤ w5 then (
some (.inr (w2, w3, w4, σ)))
else (
if w4 = 0 then (
some (.inr (w2, w3, w4, σ)))
else (
(fn_X5_page r0 w5 0 σ).bind fun x2 =>
hb_nm (w2 + x2.1) fun v3 =>
(fn_X5_page r0 w5 10 x2.2).bind fun x4 =>
hb_nm (w3 + x4.1) fun v5 =>
if x2.1 < 0 then (
jn_L_holds_147 r0 i1 v3 v5 w5 x2.1 x4.2)
else (
if 3 < x2.1 then (
jn_L_holds_147 r0 i1 v3 v5 w5 x2.1 x4.2)
else (
if x2.1 = 0 then (
jn_L_holds_73 r0 i1 v3 v5 w5 x2.1 1 x4.2)
else (
jn_L_holds_73 r0 i1 v3 v5 w5 x2.1 0 x4.2)))))
set_option maxRecDepth 100000 in
set_option maxHeartbeats 4000000 in
theorem lk_L_holds_16 {Γ : hb_Ctx} {G : hb_Gam} {Q : State → Prop} (X : hb_X Γ cL_holds 9 RL ΛC G 8 185)  (r0 : Nat) (hr0 : hb_is ΛC r0 5) (i1 : Int32) (w2 : Int32) (w3 : Int32) (w4 : Int32) (w5 : Int32) (σ : hb_Mem) {x : ((Int32 × Int32 × Int32 × Int32 × hb_Mem) ⊕ (Int32 × Int32 × Int32 × hb_Mem))} (h : lb_L_holds_16 r0 i1 w2 w3 w4 w5 σ = some x) (K : Sum.elim (fun s : (Int32 × Int32 × Int32 × Int32 × hb_Mem) => hb_W Γ ΛC G 9 Q s.2.2.2.2 [some (.ref (G.2.2.2 r0)), some (.int i1), some (.int s.1), some (.int s.2.1), some (.int s.2.2.1), some (.int s.2.2.2.1), none, none, none] [] 16) (fun t : (Int32 × Int32 × Int32 × hb_Mem) => hb_W Γ ΛC G 9 Q t.2.2.2 [some (.ref (G.2.2.2 r0)), some (.int i1), some (.int t.1), some (.int t.2.1), some (.int t.2.2.1), none, none, none, none] [] 258) x) : hb_W Γ ΛC G 9 Q σ [some (.ref (G.2.2.2 r0)), some (.int i1), some (.int w2), some (.int w3), some (.int w4), some (.int w5), none, none, none] [] 16 := by
  unfold lb_L_holds_16 at h
  refine ww_iload 18 X dL_holds_16 rfl rfl ?_
  refine ww_iload_n 19 X dL_holds_18 rfl rfl ?_
  refine ww_icmp_ge 258 22 X dL_holds_19 (by decide) rfl h (fun h => ?_) (fun h => ?_)
  · skip
    obtain rfl := Option.some.inj h
    refine ww_kill [5] (L' := [some (.ref (G.2.2.2 r0)), some (.int i1), some (.int w2), some (.int w3), some (.int w4), none, none, none, none]) rfl ?_
    exact K
  · skip
    refine ww_iload 24 X dL_holds_22 rfl rfl ?_
    refine ww_if_eq 258 27 X dL_holds_24 (by decide) rfl h (fun h => ?_) (fun h => ?_)
    · skip
      obtain rfl := Option.some.inj h
      refine ww_kill [5] (L' := [some (.ref (G.2.2.2 r0)), some (.int i1), some (.int w2), some (.int w3), some (.int w4), none, none, none, none]) rfl ?_
      exact K
    · skip
      refine ww_aload_n 28 X dL_holds_27 rfl rfl ?_
      refine ww_iload 30 X dL_holds_28 rfl rfl ?_
      refine ww_iconst (v := 0) 31 X dL_holds_30 rfl (by decide) ?_
      obtain ⟨x2, hx2, h⟩ := hb_bind_of h
      refine ww_callV (ci := 5) (rest := []) (st' := [.int x2.1]) 34 X (ct_X5_page (hb_l Γ) G r0 hr0 w5 0 σ hx2) cw_L_19 rfl (by decide) hr0 rfl ⟨by decide, by decide⟩ (Nat.le_of_ble_eq_true rfl) rfl rfl dL_holds_31 rfl ?_
      refine ww_istore 36 X (L' := [some (.ref (G.2.2.2 r0)), some (.int i1), some (.int w2), some (.int w3), some (.int w4), some (.int w5), some (.int x2.1), none, none]) dL_holds_34 rfl (Nat.le_of_ble_eq_true rfl) rfl rfl ?_
      refine ww_iload_n 37 X dL_holds_36 rfl rfl ?_
      refine ww_iload 39 X dL_holds_37 rfl rfl ?_
      refine ww_iadd 40 X dL_holds_39 rfl ?_
      obtain ⟨v3, ev3, h⟩ := hb_nm_of h
      rw [← ev3]
      refine ww_istore_n 41 X (L' := [some (.ref (G.2.2.2 r0)), some (.int i1), some (.int v3), some (.int w3), some (.int w4), some (.int w5), some (.int x2.1), none, none]) dL_holds_40 rfl (Nat.le_of_ble_eq_true rfl) rfl rfl ?_
      refine ww_iload_n 42 X dL_holds_41 rfl rfl ?_
      refine ww_aload_n 43 X dL_holds_42 rfl rfl ?_
      refine ww_iload 45 X dL_holds_43 rfl rfl ?_
      refine ww_bipush (v := 10) 47 X dL_holds_45 rfl (by decide) ?_
      obtain ⟨x4, hx4, h⟩ := hb_bind_of h
      refine ww_callV (ci := 5) (rest := [.int w3]) (st' := [.int x4.1, .int w3]) 50 X (ct_X5_page (hb_l Γ) G r0 hr0 w5 10 x2.2 hx4) cw_L_19 rfl (by decide) hr0 rfl ⟨by decide, by decide⟩ (Nat.le_of_ble_eq_true rfl) rfl rfl dL_holds_47 rfl ?_
      refine ww_iadd 51 X dL_holds_50 rfl ?_
      obtain ⟨v5, ev5, h⟩ := hb_nm_of h
      rw [← ev5]
      refine ww_istore_n 52 X (L' := [some (.ref (G.2.2.2 r0)), some (.int i1), some (.int v3), some (.int v5), some (.int w4), some (.int w5), some (.int x2.1), none, none]) dL_holds_51 rfl (Nat.le_of_ble_eq_true rfl) rfl rfl ?_
      refine ww_iload 54 X dL_holds_52 rfl rfl ?_
      refine ww_if_lt 147 57 X dL_holds_54 (by decide) rfl h (fun h => ?_) (fun h => ?_)
      · skip
        refine ww_kill [4] (L' := [some (.ref (G.2.2.2 r0)), some (.int i1), some (.int v3), some (.int v5), none, some (.int w5), some (.int x2.1), none, none]) rfl ?_
        exact jw_L_holds_147 X r0 hr0 i1 v3 v5 w5 x2.1 x4.2 h K
      · skip
        refine ww_iload 59 X dL_holds_57 rfl rfl ?_
        refine ww_iconst (v := 3) 60 X dL_holds_59 rfl (by decide) ?_
        refine ww_icmp_gt 147 63 X dL_holds_60 (by decide) rfl h (fun h => ?_) (fun h => ?_)
        · skip
          refine ww_kill [4] (L' := [some (.ref (G.2.2.2 r0)), some (.int i1), some (.int v3), some (.int v5), none, some (.int w5), some (.int x2.1), none, none]) rfl ?_
          exact jw_L_holds_147 X r0 hr0 i1 v3 v5 w5 x2.1 x4.2 h K
        · skip
          refine ww_iload 65 X dL_holds_63 rfl rfl ?_
          refine ww_if_ne 72 68 X dL_holds_65 (by decide) rfl h (fun h => ?_) (fun h => ?_)
          · skip
            refine ww_iconst (v := 1) 69 X dL_holds_68 rfl (by decide) ?_
            refine ww_goto 73 X dL_holds_69 (by decide) ?_
            refine ww_kill [4] (L' := [some (.ref (G.2.2.2 r0)), some (.int i1), some (.int v3), some (.int v5), none, some (.int w5), some (.int x2.1), none, none]) rfl ?_
            exact jw_L_holds_73 X r0 hr0 i1 v3 v5 w5 x2.1 1 x4.2 h K
          · skip
            refine ww_iconst (v := 0) 73 X dL_holds_72 rfl (by decide) ?_
            refine ww_kill [4] (L' := [some (.ref (G.2.2.2 r0)), some (.int i1), some (.int v3), some (.int v5), none, some (.int w5), some (.int x2.1), none, none]) rfl ?_
            exact jw_L_holds_73 X r0 hr0 i1 v3 v5 w5 x2.1 0 x4.2 h K
def ll_L_holds_16 (r0 : Nat) (i1 : Int32) : (Int32 × Int32 × Int32 × Int32 × hb_Mem) → Option (Int32 × Int32 × Int32 × hb_Mem) := hb_lp (fun s => lb_L_holds_16 r0 i1 s.1 s.2.1 s.2.2.1 s.2.2.2.1 s.2.2.2.2) hb_F
theorem lw_L_holds_16 {Γ : hb_Ctx} {G : hb_Gam} {Q : State → Prop} (X : hb_X Γ cL_holds 9 RL ΛC G 8 185)  (r0 : Nat) (hr0 : hb_is ΛC r0 5) (i1 : Int32) (s : (Int32 × Int32 × Int32 × Int32 × hb_Mem)) (t : (Int32 × Int32 × Int32 × hb_Mem)) (h : ll_L_holds_16 r0 i1 s = some t) (K : (fun t : (Int32 × Int32 × Int32 × hb_Mem) => hb_W Γ ΛC G 9 Q t.2.2.2 [some (.ref (G.2.2.2 r0)), some (.int i1), some (.int t.1), some (.int t.2.1), some (.int t.2.2.1), none, none, none, none] [] 258) t) : hb_W Γ ΛC G 9 Q s.2.2.2.2 [some (.ref (G.2.2.2 r0)), some (.int i1), some (.int s.1), some (.int s.2.1), some (.int s.2.2.1), some (.int s.2.2.2.1), none, none, none] [] 16 :=
  hb_lp_w (P := fun s : (Int32 × Int32 × Int32 × Int32 × hb_Mem) => hb_W Γ ΛC G 9 Q s.2.2.2.2 [some (.ref (G.2.2.2 r0)), some (.int i1), some (.int s.1), some (.int s.2.1), some (.int s.2.2.1), some (.int s.2.2.2.1), none, none, none] [] 16) (E := (fun t : (Int32 × Int32 × Int32 × hb_Mem) => hb_W Γ ΛC G 9 Q t.2.2.2 [some (.ref (G.2.2.2 r0)), some (.int i1), some (.int t.1), some (.int t.2.1), some (.int t.2.2.1), none, none, none, none] [] 258)) (fun s x hx K => lk_L_holds_16 X r0 hr0 i1 s.1 s.2.1 s.2.2.1 s.2.2.2.1 s.2.2.2.2 hx K) _ s t h K
def jn_L_holds_379 (r0 : Nat) (i1 : Int32) (i2 : Int32) (i3 : Int32) (j5 : Int32) (s0 : Int32) (σ : hb_Mem) : Option ((Int32 × Int32 × hb_Mem) ⊕ (Int32 × hb_Mem)) :=
hb_nm (j5 + 1) fun v21 =>
some (.inl (s0, v21, σ))
set_option maxRecDepth 100000 in
set_option maxHeartbeats 4000000 in
theorem jw_L_holds_379 {Γ : hb_Ctx} {G : hb_Gam} {Q : State → Prop} (X : hb_X Γ cL_holds 9 RL ΛC G 8 185)  (r0 : Nat) (hr0 : hb_is ΛC r0 5) (i1 : Int32) (i2 : Int32) (i3 : Int32) (j5 : Int32) (s0 : Int32) (σ : hb_Mem) {x : ((Int32 × Int32 × hb_Mem) ⊕ (Int32 × hb_Mem))} (h : jn_L_holds_379 r0 i1 i2 i3 j5 s0 σ = some x) (K : Sum.elim (fun s : (Int32 × Int32 × hb_Mem) => hb_W Γ ΛC G 9 Q s.2.2 [some (.ref (G.2.2.2 r0)), some (.int i1), some (.int i2), some (.int i3), some (.int s.1), some (.int s.2.1), none, none, none] [] 261) (fun t : (Int32 × hb_Mem) => hb_W Γ ΛC G 9 Q t.2 [some (.ref (G.2.2.2 r0)), none, some (.int i2), some (.int i3), some (.int t.1), none, none, none, none] [] 387) x) : hb_W Γ ΛC G 9 Q σ [some (.ref (G.2.2.2 r0)), some (.int i1), some (.int i2), some (.int i3), none, some (.int j5), none, none, none] [.int s0] 379 := by
  unfold jn_L_holds_379 at h
  refine ww_istore 381 X (L' := [some (.ref (G.2.2.2 r0)), some (.int i1), some (.int i2), some (.int i3), some (.int s0), some (.int j5), none, none, none]) dL_holds_379 rfl (Nat.le_of_ble_eq_true rfl) rfl rfl ?_
  obtain ⟨v21, ev21, h⟩ := hb_nm_of h
  refine ww_iinc 384 X (L' := [some (.ref (G.2.2.2 r0)), some (.int i1), some (.int i2), some (.int i3), some (.int s0), some (.int v21), none, none, none]) dL_holds_381 rfl rfl ev21.symm rfl ?_
  refine ww_goto 261 X dL_holds_384 (by decide) ?_
  obtain rfl := Option.some.inj h
  exact K
def jn_L_holds_378 (r0 : Nat) (i1 : Int32) (i2 : Int32) (i3 : Int32) (j5 : Int32) (σ : hb_Mem) : Option ((Int32 × Int32 × hb_Mem) ⊕ (Int32 × hb_Mem)) :=
jn_L_holds_379 r0 i1 i2 i3 j5 0 σ
set_option maxRecDepth 100000 in
set_option maxHeartbeats 4000000 in
theorem jw_L_holds_378 {Γ : hb_Ctx} {G : hb_Gam} {Q : State → Prop} (X : hb_X Γ cL_holds 9 RL ΛC G 8 185)  (r0 : Nat) (hr0 : hb_is ΛC r0 5) (i1 : Int32) (i2 : Int32) (i3 : Int32) (j5 : Int32) (σ : hb_Mem) {x : ((Int32 × Int32 × hb_Mem) ⊕ (Int32 × hb_Mem))} (h : jn_L_holds_378 r0 i1 i2 i3 j5 σ = some x) (K : Sum.elim (fun s : (Int32 × Int32 × hb_Mem) => hb_W Γ ΛC G 9 Q s.2.2 [some (.ref (G.2.2.2 r0)), some (.int i1), some (.int i2), some (.int i3), some (.int s.1), some (.int s.2.1), none, none, none] [] 261) (fun t : (Int32 × hb_Mem) => hb_W Γ ΛC G 9 Q t.2 [some (.ref (G.2.2.2 r0)), none, some (.int i2), some (.int i3), some (.int t.1), none, none, none, none] [] 387) x) : hb_W Γ ΛC G 9 Q σ [some (.ref (G.2.2.2 r0)), some (.int i1), some (.int i2), some (.int i3), none, some (.int j5), none, none, none] [] 378 := by
  unfold jn_L_holds_378 at h
  refine ww_iconst (v := 0) 379 X dL_holds_378 rfl (by decide) ?_
  exact jw_L_holds_379 X r0 hr0 i1 i2 i3 j5 0 σ h K
def jn_L_holds_374 (r0 : Nat) (i1 : Int32) (i2 : Int32) (i3 : Int32) (j5 : Int32) (σ : hb_Mem) : Option ((Int32 × Int32 × hb_Mem) ⊕ (Int32 × hb_Mem)) :=
jn_L_holds_379 r0 i1 i2 i3 j5 1 σ
set_option maxRecDepth 100000 in
set_option maxHeartbeats 4000000 in
theorem jw_L_holds_374 {Γ : hb_Ctx} {G : hb_Gam} {Q : State → Prop} (X : hb_X Γ cL_holds 9 RL ΛC G 8 185)  (r0 : Nat) (hr0 : hb_is ΛC r0 5) (i1 : Int32) (i2 : Int32) (i3 : Int32) (j5 : Int32) (σ : hb_Mem) {x : ((Int32 × Int32 × hb_Mem) ⊕ (Int32 × hb_Mem))} (h : jn_L_holds_374 r0 i1 i2 i3 j5 σ = some x) (K : Sum.elim (fun s : (Int32 × Int32 × hb_Mem) => hb_W Γ ΛC G 9 Q s.2.2 [some (.ref (G.2.2.2 r0)), some (.int i1), some (.int i2), some (.int i3), some (.int s.1), some (.int s.2.1), none, none, none] [] 261) (fun t : (Int32 × hb_Mem) => hb_W Γ ΛC G 9 Q t.2 [some (.ref (G.2.2.2 r0)), none, some (.int i2), some (.int i3), some (.int t.1), none, none, none, none] [] 387) x) : hb_W Γ ΛC G 9 Q σ [some (.ref (G.2.2.2 r0)), some (.int i1), some (.int i2), some (.int i3), none, some (.int j5), none, none, none] [] 374 := by
  unfold jn_L_holds_374 at h
  refine ww_iconst (v := 1) 375 X dL_holds_374 rfl (by decide) ?_
  refine ww_goto 379 X dL_holds_375 (by decide) ?_
  exact jw_L_holds_379 X r0 hr0 i1 i2 i3 j5 1 σ h K
def lb_L_holds_261 (r0 : Nat) (i1 : Int32) (i2 : Int32) (i3 : Int32) (w4 : Int32) (w5 : Int32) (σ : hb_Mem) : Option ((Int32 × Int32 × hb_Mem) ⊕ (Int32 × hb_Mem)) :=
if 2 ≤ w5 then (
some (.inr (w4, σ)))
else (
(fn_X5_reader r0 w5 0 σ).bind fun x19 =>
(fn_X5_reader r0 w5 1 σ).bind fun x20 =>
if w4 = 0 then (
jn_L_holds_378 r0 i1 i2 i3 w5 σ)
else (
if x19 = (-5) then (
(fn_X5_reader r0 w5 2 σ).bind fun x25 =>
if x25 = (-5) then (
(fn_X5_why r0 w5 0 σ).bind fun x26 =>
if x26 = 1 then (
jn_L_holds_374 r0 i1 i2 i3 w5 σ)
else (
jn_L_holds_378 r0 i1 i2 i3 w5 σ))
else (
jn_L_holds_378 r0 i1 i2 i3 w5 σ))
else (
if x19 < 0 then (
jn_L_holds_378 r0 i1 i2 i3 w5 σ)
else (
if i1 ≤ x19 then (
jn_L_holds_378 r0 i1 i2 i3 w5 σ)
else (
if x20 < 0 then (
jn_L_holds_378 r0 i1 i2 i3 w5 σ)
else (
if 32 ≤ x20 then (
jn_L_holds_378 r0 i1 i2 i3 w5 σ)
else (
(fn_X5_reader r0 w5 3 σ).bind fun x22 =>
if x22 < 0 then (
jn_L_holds_378 r0 i1 i2 i3 w5 σ)
else (
(fn_X5_reader r0 w5 2 σ).bind fun x23 =>
(fn_X5_page r0 x19 0 σ).bind fun x24 =>
if (x23 >>> (x24.1 &&& 31)) = 0 then (
jn_L_holds_374 r0 i1 i2 i3 w5 x24.2)
else (
jn_L_holds_378 r0 i1 i2 i3 w5 x24.2)))))))))
set_option maxRecDepth 100000 in
set_option maxHeartbeats 4000000 in
theorem lk_L_holds_261 {Γ : hb_Ctx} {G : hb_Gam} {Q : State → Prop} (X : hb_X Γ cL_holds 9 RL ΛC G 8 185)  (r0 : Nat) (hr0 : hb_is ΛC r0 5) (i1 : Int32) (i2 : Int32) (i3 : Int32) (w4 : Int32) (w5 : Int32) (σ : hb_Mem) {x : ((Int32 × Int32 × hb_Mem) ⊕ (Int32 × hb_Mem))} (h : lb_L_holds_261 r0 i1 i2 i3 w4 w5 σ = some x) (K : Sum.elim (fun s : (Int32 × Int32 × hb_Mem) => hb_W Γ ΛC G 9 Q s.2.2 [some (.ref (G.2.2.2 r0)), some (.int i1), some (.int i2), some (.int i3), some (.int s.1), some (.int s.2.1), none, none, none] [] 261) (fun t : (Int32 × hb_Mem) => hb_W Γ ΛC G 9 Q t.2 [some (.ref (G.2.2.2 r0)), none, some (.int i2), some (.int i3), some (.int t.1), none, none, none, none] [] 387) x) : hb_W Γ ΛC G 9 Q σ [some (.ref (G.2.2.2 r0)), some (.int i1), some (.int i2), some (.int i3), some (.int w4), some (.int w5), none, none, none] [] 261 := by
  unfold lb_L_holds_261 at h
  refine ww_iload 263 X dL_holds_261 rfl rfl ?_
  refine ww_iconst (v := 2) 264 X dL_holds_263 rfl (by decide) ?_
  refine ww_icmp_ge 387 267 X dL_holds_264 (by decide) rfl h (fun h => ?_) (fun h => ?_)
  · skip
    obtain rfl := Option.some.inj h
    refine ww_kill [1, 5] (L' := [some (.ref (G.2.2.2 r0)), none, some (.int i2), some (.int i3), some (.int w4), none, none, none, none]) rfl ?_
    exact K
  · skip
    refine ww_aload_n 268 X dL_holds_267 rfl rfl ?_
    refine ww_iload 270 X dL_holds_268 rfl rfl ?_
    refine ww_iconst (v := 0) 271 X dL_holds_270 rfl (by decide) ?_
    obtain ⟨x19, hx19, h⟩ := hb_bind_of h
    refine ww_callV (ci := 5) (rest := []) (st' := [.int x19]) 274 X (ct_X5_reader (hb_l Γ) G r0 hr0 w5 0 σ hx19) cw_L_27 rfl (by decide) hr0 rfl ⟨by decide, by decide⟩ (Nat.le_of_ble_eq_true rfl) rfl rfl dL_holds_271 rfl ?_
    refine ww_istore 276 X (L' := [some (.ref (G.2.2.2 r0)), some (.int i1), some (.int i2), some (.int i3), some (.int w4), some (.int w5), some (.int x19), none, none]) dL_holds_274 rfl (Nat.le_of_ble_eq_true rfl) rfl rfl ?_
    refine ww_aload_n 277 X dL_holds_276 rfl rfl ?_
    refine ww_iload 279 X dL_holds_277 rfl rfl ?_
    refine ww_iconst (v := 1) 280 X dL_holds_279 rfl (by decide) ?_
    obtain ⟨x20, hx20, h⟩ := hb_bind_of h
    refine ww_callV (ci := 5) (rest := []) (st' := [.int x20]) 283 X (ct_X5_reader (hb_l Γ) G r0 hr0 w5 1 σ hx20) cw_L_27 rfl (by decide) hr0 rfl ⟨by decide, by decide⟩ (Nat.le_of_ble_eq_true rfl) rfl rfl dL_holds_280 rfl ?_
    refine ww_istore 285 X (L' := [some (.ref (G.2.2.2 r0)), some (.int i1), some (.int i2), some (.int i3), some (.int w4), some (.int w5), some (.int x19), some (.int x20), none]) dL_holds_283 rfl (Nat.le_of_ble_eq_true rfl) rfl rfl ?_
    refine ww_iload 287 X dL_holds_285 rfl rfl ?_
    refine ww_if_eq 378 290 X dL_holds_287 (by decide) rfl h (fun h => ?_) (fun h => ?_)
    · skip
      refine ww_kill [4, 6, 7] (L' := [some (.ref (G.2.2.2 r0)), some (.int i1), some (.int i2), some (.int i3), none, some (.int w5), none, none, none]) rfl ?_
      exact jw_L_holds_378 X r0 hr0 i1 i2 i3 w5 σ h K
    · skip
      refine ww_iload 292 X dL_holds_290 rfl rfl ?_
      refine ww_bipush (v := (-5)) 294 X dL_holds_292 rfl (by decide) ?_
      refine ww_icmp_ne 323 297 X dL_holds_294 (by decide) rfl h (fun h => ?_) (fun h => ?_)
      · skip
        refine ww_aload_n 298 X dL_holds_297 rfl rfl ?_
        refine ww_iload 300 X dL_holds_298 rfl rfl ?_
        refine ww_iconst (v := 2) 301 X dL_holds_300 rfl (by decide) ?_
        obtain ⟨x25, hx25, h⟩ := hb_bind_of h
        refine ww_callV (ci := 5) (rest := []) (st' := [.int x25]) 304 X (ct_X5_reader (hb_l Γ) G r0 hr0 w5 2 σ hx25) cw_L_27 rfl (by decide) hr0 rfl ⟨by decide, by decide⟩ (Nat.le_of_ble_eq_true rfl) rfl rfl dL_holds_301 rfl ?_
        refine ww_bipush (v := (-5)) 306 X dL_holds_304 rfl (by decide) ?_
        refine ww_icmp_ne 378 309 X dL_holds_306 (by decide) rfl h (fun h => ?_) (fun h => ?_)
        · skip
          refine ww_aload_n 310 X dL_holds_309 rfl rfl ?_
          refine ww_iload 312 X dL_holds_310 rfl rfl ?_
          refine ww_iconst (v := 0) 313 X dL_holds_312 rfl (by decide) ?_
          obtain ⟨x26, hx26, h⟩ := hb_bind_of h
          refine ww_callV (ci := 5) (rest := []) (st' := [.int x26]) 316 X (ct_X5_why (hb_l Γ) G r0 hr0 w5 0 σ hx26) cw_L_32 rfl (by decide) hr0 rfl ⟨by decide, by decide⟩ (Nat.le_of_ble_eq_true rfl) rfl rfl dL_holds_313 rfl ?_
          refine ww_iconst (v := 1) 317 X dL_holds_316 rfl (by decide) ?_
          refine ww_icmp_ne 378 320 X dL_holds_317 (by decide) rfl h (fun h => ?_) (fun h => ?_)
          · skip
            refine ww_goto 374 X dL_holds_320 (by decide) ?_
            refine ww_kill [4, 6, 7] (L' := [some (.ref (G.2.2.2 r0)), some (.int i1), some (.int i2), some (.int i3), none, some (.int w5), none, none, none]) rfl ?_
            exact jw_L_holds_374 X r0 hr0 i1 i2 i3 w5 σ h K
          · skip
            refine ww_kill [4, 6, 7] (L' := [some (.ref (G.2.2.2 r0)), some (.int i1), some (.int i2), some (.int i3), none, some (.int w5), none, none, none]) rfl ?_
            exact jw_L_holds_378 X r0 hr0 i1 i2 i3 w5 σ h K
        · skip
          refine ww_kill [4, 6, 7] (L' := [some (.ref (G.2.2.2 r0)), some (.int i1), some (.int i2), some (.int i3), none, some (.int w5), none, none, none]) rfl ?_
          exact jw_L_holds_378 X r0 hr0 i1 i2 i3 w5 σ h K
      · skip
        refine ww_iload 325 X dL_holds_323 rfl rfl ?_
        refine ww_if_lt 378 328 X dL_holds_325 (by decide) rfl h (fun h => ?_) (fun h => ?_)
        · skip
          refine ww_kill [4, 6, 7] (L' := [some (.ref (G.2.2.2 r0)), some (.int i1), some (.int i2), some (.int i3), none, some (.int w5), none, none, none]) rfl ?_
          exact jw_L_holds_378 X r0 hr0 i1 i2 i3 w5 σ h K
        · skip
          refine ww_iload 330 X dL_holds_328 rfl rfl ?_
          refine ww_iload_n 331 X dL_holds_330 rfl rfl ?_
          refine ww_icmp_ge 378 334 X dL_holds_331 (by decide) rfl h (fun h => ?_) (fun h => ?_)
          · skip
            refine ww_kill [4, 6, 7] (L' := [some (.ref (G.2.2.2 r0)), some (.int i1), some (.int i2), some (.int i3), none, some (.int w5), none, none, none]) rfl ?_
            exact jw_L_holds_378 X r0 hr0 i1 i2 i3 w5 σ h K
          · skip
            refine ww_iload 336 X dL_holds_334 rfl rfl ?_
            refine ww_if_lt 378 339 X dL_holds_336 (by decide) rfl h (fun h => ?_) (fun h => ?_)
            · skip
              refine ww_kill [4, 6, 7] (L' := [some (.ref (G.2.2.2 r0)), some (.int i1), some (.int i2), some (.int i3), none, some (.int w5), none, none, none]) rfl ?_
              exact jw_L_holds_378 X r0 hr0 i1 i2 i3 w5 σ h K
            · skip
              refine ww_iload 341 X dL_holds_339 rfl rfl ?_
              refine ww_bipush (v := 32) 343 X dL_holds_341 rfl (by decide) ?_
              refine ww_icmp_ge 378 346 X dL_holds_343 (by decide) rfl h (fun h => ?_) (fun h => ?_)
              · skip
                refine ww_kill [4, 6, 7] (L' := [some (.ref (G.2.2.2 r0)), some (.int i1), some (.int i2), some (.int i3), none, some (.int w5), none, none, none]) rfl ?_
                exact jw_L_holds_378 X r0 hr0 i1 i2 i3 w5 σ h K
              · skip
                refine ww_aload_n 347 X dL_holds_346 rfl rfl ?_
                refine ww_iload 349 X dL_holds_347 rfl rfl ?_
                refine ww_iconst (v := 3) 350 X dL_holds_349 rfl (by decide) ?_
                obtain ⟨x22, hx22, h⟩ := hb_bind_of h
                refine ww_callV (ci := 5) (rest := []) (st' := [.int x22]) 353 X (ct_X5_reader (hb_l Γ) G r0 hr0 w5 3 σ hx22) cw_L_27 rfl (by decide) hr0 rfl ⟨by decide, by decide⟩ (Nat.le_of_ble_eq_true rfl) rfl rfl dL_holds_350 rfl ?_
                refine ww_if_lt 378 356 X dL_holds_353 (by decide) rfl h (fun h => ?_) (fun h => ?_)
                · skip
                  refine ww_kill [4, 6, 7] (L' := [some (.ref (G.2.2.2 r0)), some (.int i1), some (.int i2), some (.int i3), none, some (.int w5), none, none, none]) rfl ?_
                  exact jw_L_holds_378 X r0 hr0 i1 i2 i3 w5 σ h K
                · skip
                  refine ww_aload_n 357 X dL_holds_356 rfl rfl ?_
                  refine ww_iload 359 X dL_holds_357 rfl rfl ?_
                  refine ww_iconst (v := 2) 360 X dL_holds_359 rfl (by decide) ?_
                  obtain ⟨x23, hx23, h⟩ := hb_bind_of h
                  refine ww_callV (ci := 5) (rest := []) (st' := [.int x23]) 363 X (ct_X5_reader (hb_l Γ) G r0 hr0 w5 2 σ hx23) cw_L_27 rfl (by decide) hr0 rfl ⟨by decide, by decide⟩ (Nat.le_of_ble_eq_true rfl) rfl rfl dL_holds_360 rfl ?_
                  refine ww_aload_n 364 X dL_holds_363 rfl rfl ?_
                  refine ww_iload 366 X dL_holds_364 rfl rfl ?_
                  refine ww_iconst (v := 0) 367 X dL_holds_366 rfl (by decide) ?_
                  obtain ⟨x24, hx24, h⟩ := hb_bind_of h
                  refine ww_callV (ci := 5) (rest := [.int x23]) (st' := [.int x24.1, .int x23]) 370 X (ct_X5_page (hb_l Γ) G r0 hr0 x19 0 σ hx24) cw_L_19 rfl (by decide) hr0 rfl ⟨by decide, by decide⟩ (Nat.le_of_ble_eq_true rfl) rfl rfl dL_holds_367 rfl ?_
                  refine ww_ishr 371 X dL_holds_370 rfl ?_
                  refine ww_if_ne 378 374 X dL_holds_371 (by decide) rfl h (fun h => ?_) (fun h => ?_)
                  · skip
                    refine ww_kill [4, 6, 7] (L' := [some (.ref (G.2.2.2 r0)), some (.int i1), some (.int i2), some (.int i3), none, some (.int w5), none, none, none]) rfl ?_
                    exact jw_L_holds_374 X r0 hr0 i1 i2 i3 w5 x24.2 h K
                  · skip
                    refine ww_kill [4, 6, 7] (L' := [some (.ref (G.2.2.2 r0)), some (.int i1), some (.int i2), some (.int i3), none, some (.int w5), none, none, none]) rfl ?_
                    exact jw_L_holds_378 X r0 hr0 i1 i2 i3 w5 x24.2 h K
def ll_L_holds_261 (r0 : Nat) (i1 : Int32) (i2 : Int32) (i3 : Int32) : (Int32 × Int32 × hb_Mem) → Option (Int32 × hb_Mem) := hb_lp (fun s => lb_L_holds_261 r0 i1 i2 i3 s.1 s.2.1 s.2.2) hb_F
theorem lw_L_holds_261 {Γ : hb_Ctx} {G : hb_Gam} {Q : State → Prop} (X : hb_X Γ cL_holds 9 RL ΛC G 8 185)  (r0 : Nat) (hr0 : hb_is ΛC r0 5) (i1 : Int32) (i2 : Int32) (i3 : Int32) (s : (Int32 × Int32 × hb_Mem)) (t : (Int32 × hb_Mem)) (h : ll_L_holds_261 r0 i1 i2 i3 s = some t) (K : (fun t : (Int32 × hb_Mem) => hb_W Γ ΛC G 9 Q t.2 [some (.ref (G.2.2.2 r0)), none, some (.int i2), some (.int i3), some (.int t.1), none, none, none, none] [] 387) t) : hb_W Γ ΛC G 9 Q s.2.2 [some (.ref (G.2.2.2 r0)), some (.int i1), some (.int i2), some (.int i3), some (.int s.1), some (.int s.2.1), none, none, none] [] 261 :=
  hb_lp_w (P := fun s : (Int32 × Int32 × hb_Mem) => hb_W Γ ΛC G 9 Q s.2.2 [some (.ref (G.2.2.2 r0)), some (.int i1), some (.int i2), some (.int i3), some (.int s.1), some (.int s.2.1), none, none, none] [] 261) (E := (fun t : (Int32 × hb_Mem) => hb_W Γ ΛC G 9 Q t.2 [some (.ref (G.2.2.2 r0)), none, some (.int i2), some (.int i3), some (.int t.1), none, none, none, none] [] 387)) (fun s x hx K => lk_L_holds_261 X r0 hr0 i1 i2 i3 s.1 s.2.1 s.2.2 hx K) _ s t h K
def jn_L_holds_258 (r0 : Nat) (j1 : Int32) (j2 : Int32) (j3 : Int32) (j4 : Int32) (σ : hb_Mem) : Option (Int32 × hb_Mem) :=
(ll_L_holds_261 r0 j1 j2 j3 (j4, 0, σ)).bind fun t27 =>
if t27.1 = 0 then (
some (0, t27.2))
else (
(fn_X5_count r0 1 t27.2).bind fun x28 =>
if j2 = x28.1 then (
if j3 = j2 then (
some (1, x28.2))
else (
some (0, x28.2)))
else (
some (0, x28.2)))
set_option maxRecDepth 100000 in
set_option maxHeartbeats 4000000 in
theorem jw_L_holds_258 {Γ : hb_Ctx} {G : hb_Gam} {Q : State → Prop} (X : hb_X Γ cL_holds 9 RL ΛC G 8 185) (hr : hb_ret Γ = (some .boolean)) (r0 : Nat) (hr0 : hb_is ΛC r0 5) (j1 : Int32) (j2 : Int32) (j3 : Int32) (j4 : Int32) (σ : hb_Mem) {x : (Int32 × hb_Mem)} (h : jn_L_holds_258 r0 j1 j2 j3 j4 σ = some x) (K : Q = hb_Q Γ ΛC G (some (.int x.1)) x.2) : hb_W Γ ΛC G 9 Q σ [some (.ref (G.2.2.2 r0)), some (.int j1), some (.int j2), some (.int j3), some (.int j4), none, none, none, none] [] 258 := by
  unfold jn_L_holds_258 at h
  refine ww_iconst (v := 0) 259 X dL_holds_258 rfl (by decide) ?_
  refine ww_istore 261 X (L' := [some (.ref (G.2.2.2 r0)), some (.int j1), some (.int j2), some (.int j3), some (.int j4), some (.int 0), none, none, none]) dL_holds_259 rfl (Nat.le_of_ble_eq_true rfl) rfl rfl ?_
  obtain ⟨t27, ht27, h⟩ := hb_bind_of h
  refine lw_L_holds_261 X r0 hr0 j1 j2 j3 (j4, 0, σ) t27 ht27 ?_
  refine ww_iload 389 X dL_holds_387 rfl rfl ?_
  refine ww_if_eq 410 392 X dL_holds_389 (by decide) rfl h (fun h => ?_) (fun h => ?_)
  · skip
    refine ww_iconst (v := 0) 411 X dL_holds_410 rfl (by decide) ?_
    obtain rfl := Option.some.inj h
    exact ww_ret_z X hr (by decide) K dL_holds_411
  · skip
    refine ww_iload_n 393 X dL_holds_392 rfl rfl ?_
    refine ww_aload_n 394 X dL_holds_393 rfl rfl ?_
    refine ww_iconst (v := 1) 395 X dL_holds_394 rfl (by decide) ?_
    obtain ⟨x28, hx28, h⟩ := hb_bind_of h
    refine ww_callV (ci := 5) (rest := [.int j2]) (st' := [.int x28.1, .int j2]) 398 X (ct_X5_count (hb_l Γ) G r0 hr0 1 t27.2 hx28) cw_L_11 rfl (by decide) hr0 rfl ⟨by decide, by decide⟩ (Nat.le_of_ble_eq_true rfl) rfl rfl dL_holds_395 rfl ?_
    refine ww_icmp_ne 410 401 X dL_holds_398 (by decide) rfl h (fun h => ?_) (fun h => ?_)
    · skip
      refine ww_iload_n 402 X dL_holds_401 rfl rfl ?_
      refine ww_iload_n 403 X dL_holds_402 rfl rfl ?_
      refine ww_icmp_ne 410 406 X dL_holds_403 (by decide) rfl h (fun h => ?_) (fun h => ?_)
      · skip
        refine ww_iconst (v := 1) 407 X dL_holds_406 rfl (by decide) ?_
        refine ww_goto 411 X dL_holds_407 (by decide) ?_
        obtain rfl := Option.some.inj h
        exact ww_ret_z X hr (by decide) K dL_holds_411
      · skip
        refine ww_iconst (v := 0) 411 X dL_holds_410 rfl (by decide) ?_
        obtain rfl := Option.some.inj h
        exact ww_ret_z X hr (by decide) K dL_holds_411
    · skip
      refine ww_iconst (v := 0) 411 X dL_holds_410 rfl (by decide) ?_
      obtain rfl := Option.some.inj h
      exact ww_ret_z X hr (by decide) K dL_holds_411
def fn_L_holds (r0 : Nat) (σ : hb_Mem) : Option (Int32 × hb_Mem) :=
(fn_X5_count r0 0 σ).bind fun x1 =>
(ll_L_holds_16 r0 x1.1 (0, 0, 1, 0, x1.2)).bind fun t18 =>
jn_L_holds_258 r0 x1.1 t18.1 t18.2.1 t18.2.2.1 t18.2.2.2
set_option maxRecDepth 100000 in
set_option maxHeartbeats 4000000 in
theorem wk_L_holds {Γ : hb_Ctx} {G : hb_Gam} {Q : State → Prop} (X : hb_X Γ cL_holds 9 RL ΛC G 8 185) (hr : hb_ret Γ = (some .boolean)) (r0 : Nat) (hr0 : hb_is ΛC r0 5) (σ : hb_Mem) {x : (Int32 × hb_Mem)} (h : fn_L_holds r0 σ = some x) (K : Q = hb_Q Γ ΛC G (some (.int x.1)) x.2) : hb_W Γ ΛC G 9 Q σ [some (.ref (G.2.2.2 r0)), none, none, none, none, none, none, none, none] [] 0 := by
  unfold fn_L_holds at h
  refine ww_aload_n 1 X dL_holds_0 rfl rfl ?_
  refine ww_iconst (v := 0) 2 X dL_holds_1 rfl (by decide) ?_
  obtain ⟨x1, hx1, h⟩ := hb_bind_of h
  refine ww_callV (ci := 5) (rest := []) (st' := [.int x1.1]) 5 X (ct_X5_count (hb_l Γ) G r0 hr0 0 σ hx1) cw_L_11 rfl (by decide) hr0 rfl ⟨by decide, by decide⟩ (Nat.le_of_ble_eq_true rfl) rfl rfl dL_holds_2 rfl ?_
  refine ww_istore_n 6 X (L' := [some (.ref (G.2.2.2 r0)), some (.int x1.1), none, none, none, none, none, none, none]) dL_holds_5 rfl (Nat.le_of_ble_eq_true rfl) rfl rfl ?_
  refine ww_iconst (v := 0) 7 X dL_holds_6 rfl (by decide) ?_
  refine ww_istore_n 8 X (L' := [some (.ref (G.2.2.2 r0)), some (.int x1.1), some (.int 0), none, none, none, none, none, none]) dL_holds_7 rfl (Nat.le_of_ble_eq_true rfl) rfl rfl ?_
  refine ww_iconst (v := 0) 9 X dL_holds_8 rfl (by decide) ?_
  refine ww_istore_n 10 X (L' := [some (.ref (G.2.2.2 r0)), some (.int x1.1), some (.int 0), some (.int 0), none, none, none, none, none]) dL_holds_9 rfl (Nat.le_of_ble_eq_true rfl) rfl rfl ?_
  refine ww_iconst (v := 1) 11 X dL_holds_10 rfl (by decide) ?_
  refine ww_istore 13 X (L' := [some (.ref (G.2.2.2 r0)), some (.int x1.1), some (.int 0), some (.int 0), some (.int 1), none, none, none, none]) dL_holds_11 rfl (Nat.le_of_ble_eq_true rfl) rfl rfl ?_
  refine ww_iconst (v := 0) 14 X dL_holds_13 rfl (by decide) ?_
  refine ww_istore 16 X (L' := [some (.ref (G.2.2.2 r0)), some (.int x1.1), some (.int 0), some (.int 0), some (.int 1), some (.int 0), none, none, none]) dL_holds_14 rfl (Nat.le_of_ble_eq_true rfl) rfl rfl ?_
  obtain ⟨t18, ht18, h⟩ := hb_bind_of h
  refine lw_L_holds_16 X r0 hr0 x1.1 (0, 0, 1, 0, x1.2) t18 ht18 ?_
  exact jw_L_holds_258 X hr r0 hr0 x1.1 t18.1 t18.2.1 t18.2.2.1 t18.2.2.2 h K
theorem ct_L_holds (l : Launch) (G : hb_Gam) (r0 : Nat) (hr0 : hb_is ΛC r0 5) (σ : hb_Mem) {x : (Int32 × hb_Mem)} (h : fn_L_holds r0 σ = some x) : hb_C l yL_holds cL_holds 9 (some .boolean) 8 185 ΛC G [.ref (G.2.2.2 r0)] σ (some (.int x.1)) x.2 :=
  hb_C.of [some (.ref (G.2.2.2 r0)), none, none, none, none, none, none, none, none] (by decide +kernel) (Nat.le_of_ble_eq_true rfl) (by intro v hv; simp only [List.mem_cons, List.not_mem_nil, or_false] at hv; subst hv; rfl) rfl (hb_pad [.ref (G.2.2.2 r0)] 8) (fun Γ X hr => wk_L_holds X hr r0 hr0 σ h rfl)
def jn_L_would_373 (r0 : Nat) (p1 : Int32) (j4 : Int32) (j7 : Int32) (σ : hb_Mem) : Option (Int32 × hb_Mem) :=
if j4 < j7 then (
some (0, σ))
else (
some (1, σ))
set_option maxRecDepth 100000 in
set_option maxHeartbeats 4000000 in
theorem jw_L_would_373 {Γ : hb_Ctx} {G : hb_Gam} {Q : State → Prop} (X : hb_X Γ cL_would 8 RL ΛC G 8 185) (hr : hb_ret Γ = (some .boolean)) (r0 : Nat) (hr0 : hb_is ΛC r0 5) (p1 : Int32) (j4 : Int32) (j7 : Int32) (σ : hb_Mem) {x : (Int32 × hb_Mem)} (h : jn_L_would_373 r0 p1 j4 j7 σ = some x) (K : Q = hb_Q Γ ΛC G (some (.int x.1)) x.2) : hb_W Γ ΛC G 8 Q σ [none, none, none, none, some (.int j4), none, none, some (.int j7)] [] 373 := by
  unfold jn_L_would_373 at h
  refine ww_iload 375 X dL_would_373 rfl rfl ?_
  refine ww_iload 377 X dL_would_375 rfl rfl ?_
  refine ww_icmp_gt 384 380 X dL_would_377 (by decide) rfl h (fun h => ?_) (fun h => ?_)
  · skip
    refine ww_iconst (v := 0) 385 X dL_would_384 rfl (by decide) ?_
    obtain rfl := Option.some.inj h
    exact ww_ret_z X hr (by decide) K dL_would_385
  · skip
    refine ww_iconst (v := 1) 381 X dL_would_380 rfl (by decide) ?_
    refine ww_goto 385 X dL_would_381 (by decide) ?_
    obtain rfl := Option.some.inj h
    exact ww_ret_z X hr (by decide) K dL_would_385
def jn_L_would_345 (r0 : Nat) (p1 : Int32) (j4 : Int32) (j5 : Int32) (j7 : Int32) (s0 : Int32) (s1 : Int32) (σ : hb_Mem) : Option (Int32 × hb_Mem) :=
if s0 = s1 then (
if 0 < j7 then (
jn_L_would_373 r0 p1 j4 j7 σ)
else (
(fn_X5_page r0 j5 6 σ).bind fun x9 =>
(fn_X5_page r0 j5 7 x9.2).bind fun x10 =>
if (x9.1 + x10.1) = 0 then (
jn_L_would_373 r0 p1 j4 j7 x10.2)
else (
some (0, x10.2))))
else (
some (0, σ))
set_option maxRecDepth 100000 in
set_option maxHeartbeats 4000000 in
theorem jw_L_would_345 {Γ : hb_Ctx} {G : hb_Gam} {Q : State → Prop} (X : hb_X Γ cL_would 8 RL ΛC G 8 185) (hr : hb_ret Γ = (some .boolean)) (r0 : Nat) (hr0 : hb_is ΛC r0 5) (p1 : Int32) (j4 : Int32) (j5 : Int32) (j7 : Int32) (s0 : Int32) (s1 : Int32) (σ : hb_Mem) {x : (Int32 × hb_Mem)} (h : jn_L_would_345 r0 p1 j4 j5 j7 s0 s1 σ = some x) (K : Q = hb_Q Γ ΛC G (some (.int x.1)) x.2) : hb_W Γ ΛC G 8 Q σ [some (.ref (G.2.2.2 r0)), none, none, none, some (.int j4), some (.int j5), none, some (.int j7)] [.int s1, .int s0] 345 := by
  unfold jn_L_would_345 at h
  refine ww_icmp_ne 384 348 X dL_would_345 (by decide) rfl h (fun h => ?_) (fun h => ?_)
  · skip
    refine ww_iload 350 X dL_would_348 rfl rfl ?_
    refine ww_if_gt 373 353 X dL_would_350 (by decide) rfl h (fun h => ?_) (fun h => ?_)
    · skip
      refine ww_kill [0, 5] (L' := [none, none, none, none, some (.int j4), none, none, some (.int j7)]) rfl ?_
      exact jw_L_would_373 X hr r0 hr0 p1 j4 j7 σ h K
    · skip
      refine ww_aload_n 354 X dL_would_353 rfl rfl ?_
      refine ww_iload 356 X dL_would_354 rfl rfl ?_
      refine ww_bipush (v := 6) 358 X dL_would_356 rfl (by decide) ?_
      obtain ⟨x9, hx9, h⟩ := hb_bind_of h
      refine ww_callV (ci := 5) (rest := []) (st' := [.int x9.1]) 361 X (ct_X5_page (hb_l Γ) G r0 hr0 j5 6 σ hx9) cw_L_19 rfl (by decide) hr0 rfl ⟨by decide, by decide⟩ (Nat.le_of_ble_eq_true rfl) rfl rfl dL_would_358 rfl ?_
      refine ww_aload_n 362 X dL_would_361 rfl rfl ?_
      refine ww_iload 364 X dL_would_362 rfl rfl ?_
      refine ww_bipush (v := 7) 366 X dL_would_364 rfl (by decide) ?_
      obtain ⟨x10, hx10, h⟩ := hb_bind_of h
      refine ww_callV (ci := 5) (rest := [.int x9.1]) (st' := [.int x10.1, .int x9.1]) 369 X (ct_X5_page (hb_l Γ) G r0 hr0 j5 7 x9.2 hx10) cw_L_19 rfl (by decide) hr0 rfl ⟨by decide, by decide⟩ (Nat.le_of_ble_eq_true rfl) rfl rfl dL_would_366 rfl ?_
      refine ww_iadd 370 X dL_would_369 rfl ?_
      refine ww_if_ne 384 373 X dL_would_370 (by decide) rfl h (fun h => ?_) (fun h => ?_)
      · skip
        refine ww_kill [0, 5] (L' := [none, none, none, none, some (.int j4), none, none, some (.int j7)]) rfl ?_
        exact jw_L_would_373 X hr r0 hr0 p1 j4 j7 x10.2 h K
      · skip
        refine ww_iconst (v := 0) 385 X dL_would_384 rfl (by decide) ?_
        obtain rfl := Option.some.inj h
        exact ww_ret_z X hr (by decide) K dL_would_385
  · skip
    refine ww_iconst (v := 0) 385 X dL_would_384 rfl (by decide) ?_
    obtain rfl := Option.some.inj h
    exact ww_ret_z X hr (by decide) K dL_would_385
def jn_L_would_327 (r0 : Nat) (p1 : Int32) (j4 : Int32) (j5 : Int32) (j7 : Int32) (s0 : Int32) (σ : hb_Mem) : Option (Int32 × hb_Mem) :=
(fn_X5_page r0 j5 9 σ).bind fun x8 =>
if x8.1 = (-5) then (
jn_L_would_345 r0 p1 j4 j5 j7 s0 1 x8.2)
else (
jn_L_would_345 r0 p1 j4 j5 j7 s0 0 x8.2)
set_option maxRecDepth 100000 in
set_option maxHeartbeats 4000000 in
theorem jw_L_would_327 {Γ : hb_Ctx} {G : hb_Gam} {Q : State → Prop} (X : hb_X Γ cL_would 8 RL ΛC G 8 185) (hr : hb_ret Γ = (some .boolean)) (r0 : Nat) (hr0 : hb_is ΛC r0 5) (p1 : Int32) (j4 : Int32) (j5 : Int32) (j7 : Int32) (s0 : Int32) (σ : hb_Mem) {x : (Int32 × hb_Mem)} (h : jn_L_would_327 r0 p1 j4 j5 j7 s0 σ = some x) (K : Q = hb_Q Γ ΛC G (some (.int x.1)) x.2) : hb_W Γ ΛC G 8 Q σ [some (.ref (G.2.2.2 r0)), none, none, none, some (.int j4), some (.int j5), none, some (.int j7)] [.int s0] 327 := by
  unfold jn_L_would_327 at h
  refine ww_aload_n 328 X dL_would_327 rfl rfl ?_
  refine ww_iload 330 X dL_would_328 rfl rfl ?_
  refine ww_bipush (v := 9) 332 X dL_would_330 rfl (by decide) ?_
  obtain ⟨x8, hx8, h⟩ := hb_bind_of h
  refine ww_callV (ci := 5) (rest := [.int s0]) (st' := [.int x8.1, .int s0]) 335 X (ct_X5_page (hb_l Γ) G r0 hr0 j5 9 σ hx8) cw_L_19 rfl (by decide) hr0 rfl ⟨by decide, by decide⟩ (Nat.le_of_ble_eq_true rfl) rfl rfl dL_would_332 rfl ?_
  refine ww_bipush (v := (-5)) 337 X dL_would_335 rfl (by decide) ?_
  refine ww_icmp_ne 344 340 X dL_would_337 (by decide) rfl h (fun h => ?_) (fun h => ?_)
  · skip
    refine ww_iconst (v := 1) 341 X dL_would_340 rfl (by decide) ?_
    refine ww_goto 345 X dL_would_341 (by decide) ?_
    exact jw_L_would_345 X hr r0 hr0 p1 j4 j5 j7 s0 1 x8.2 h K
  · skip
    refine ww_iconst (v := 0) 345 X dL_would_344 rfl (by decide) ?_
    exact jw_L_would_345 X hr r0 hr0 p1 j4 j5 j7 s0 0 x8.2 h K
def jn_L_would_314 (r0 : Nat) (p1 : Int32) (j4 : Int32) (j5 : Int32) (j7 : Int32) (s0 : Int32) (s1 : Int32) (σ : hb_Mem) : Option (Int32 × hb_Mem) :=
if s0 = s1 then (
if j7 = 0 then (
jn_L_would_327 r0 p1 j4 j5 j7 1 σ)
else (
jn_L_would_327 r0 p1 j4 j5 j7 0 σ))
else (
some (0, σ))
set_option maxRecDepth 100000 in
set_option maxHeartbeats 4000000 in
theorem jw_L_would_314 {Γ : hb_Ctx} {G : hb_Gam} {Q : State → Prop} (X : hb_X Γ cL_would 8 RL ΛC G 8 185) (hr : hb_ret Γ = (some .boolean)) (r0 : Nat) (hr0 : hb_is ΛC r0 5) (p1 : Int32) (j4 : Int32) (j5 : Int32) (j7 : Int32) (s0 : Int32) (s1 : Int32) (σ : hb_Mem) {x : (Int32 × hb_Mem)} (h : jn_L_would_314 r0 p1 j4 j5 j7 s0 s1 σ = some x) (K : Q = hb_Q Γ ΛC G (some (.int x.1)) x.2) : hb_W Γ ΛC G 8 Q σ [some (.ref (G.2.2.2 r0)), none, none, none, some (.int j4), some (.int j5), none, some (.int j7)] [.int s1, .int s0] 314 := by
  unfold jn_L_would_314 at h
  refine ww_icmp_ne 384 317 X dL_would_314 (by decide) rfl h (fun h => ?_) (fun h => ?_)
  · skip
    refine ww_iload 319 X dL_would_317 rfl rfl ?_
    refine ww_if_ne 326 322 X dL_would_319 (by decide) rfl h (fun h => ?_) (fun h => ?_)
    · skip
      refine ww_iconst (v := 1) 323 X dL_would_322 rfl (by decide) ?_
      refine ww_goto 327 X dL_would_323 (by decide) ?_
      exact jw_L_would_327 X hr r0 hr0 p1 j4 j5 j7 1 σ h K
    · skip
      refine ww_iconst (v := 0) 327 X dL_would_326 rfl (by decide) ?_
      exact jw_L_would_327 X hr r0 hr0 p1 j4 j5 j7 0 σ h K
  · skip
    refine ww_iconst (v := 0) 385 X dL_would_384 rfl (by decide) ?_
    obtain rfl := Option.some.inj h
    exact ww_ret_z X hr (by decide) K dL_would_385
def jn_L_would_298 (r0 : Nat) (p1 : Int32) (j4 : Int32) (j5 : Int32) (j7 : Int32) (s0 : Int32) (σ : hb_Mem) : Option (Int32 × hb_Mem) :=
(fn_X5_page r0 j5 5 σ).bind fun x7 =>
if x7.1 = 1 then (
jn_L_would_314 r0 p1 j4 j5 j7 s0 1 x7.2)
else (
jn_L_would_314 r0 p1 j4 j5 j7 s0 0 x7.2)
set_option maxRecDepth 100000 in
set_option maxHeartbeats 4000000 in
theorem jw_L_would_298 {Γ : hb_Ctx} {G : hb_Gam} {Q : State → Prop} (X : hb_X Γ cL_would 8 RL ΛC G 8 185) (hr : hb_ret Γ = (some .boolean)) (r0 : Nat) (hr0 : hb_is ΛC r0 5) (p1 : Int32) (j4 : Int32) (j5 : Int32) (j7 : Int32) (s0 : Int32) (σ : hb_Mem) {x : (Int32 × hb_Mem)} (h : jn_L_would_298 r0 p1 j4 j5 j7 s0 σ = some x) (K : Q = hb_Q Γ ΛC G (some (.int x.1)) x.2) : hb_W Γ ΛC G 8 Q σ [some (.ref (G.2.2.2 r0)), none, none, none, some (.int j4), some (.int j5), none, some (.int j7)] [.int s0] 298 := by
  unfold jn_L_would_298 at h
  refine ww_aload_n 299 X dL_would_298 rfl rfl ?_
  refine ww_iload 301 X dL_would_299 rfl rfl ?_
  refine ww_iconst (v := 5) 302 X dL_would_301 rfl (by decide) ?_
  obtain ⟨x7, hx7, h⟩ := hb_bind_of h
  refine ww_callV (ci := 5) (rest := [.int s0]) (st' := [.int x7.1, .int s0]) 305 X (ct_X5_page (hb_l Γ) G r0 hr0 j5 5 σ hx7) cw_L_19 rfl (by decide) hr0 rfl ⟨by decide, by decide⟩ (Nat.le_of_ble_eq_true rfl) rfl rfl dL_would_302 rfl ?_
  refine ww_iconst (v := 1) 306 X dL_would_305 rfl (by decide) ?_
  refine ww_icmp_ne 313 309 X dL_would_306 (by decide) rfl h (fun h => ?_) (fun h => ?_)
  · skip
    refine ww_iconst (v := 1) 310 X dL_would_309 rfl (by decide) ?_
    refine ww_goto 314 X dL_would_310 (by decide) ?_
    exact jw_L_would_314 X hr r0 hr0 p1 j4 j5 j7 s0 1 x7.2 h K
  · skip
    refine ww_iconst (v := 0) 314 X dL_would_313 rfl (by decide) ?_
    exact jw_L_would_314 X hr r0 hr0 p1 j4 j5 j7 s0 0 x7.2 h K
def jn_L_would_244 (r0 : Nat) (p1 : Int32) (j2 : Int32) (j4 : Int32) (j5 : Int32) (j6 : Int32) (σ : hb_Mem) : Option (Int32 × hb_Mem) :=
if j5 = j2 then (
if j6 = 0 then (
some (0, σ))
else (
(fn_X5_page r0 j5 8 σ).bind fun x11 =>
if x11.1 = (-1) then (
some (1, x11.2))
else (
some (0, x11.2))))
else (
(fn_X5_page r0 j5 8 σ).bind fun x6 =>
if j6 = 0 then (
some (0, x6.2))
else (
if x6.1 = 0 then (
jn_L_would_298 r0 p1 j4 j5 x6.1 1 x6.2)
else (
jn_L_would_298 r0 p1 j4 j5 x6.1 0 x6.2)))
set_option maxRecDepth 100000 in
set_option maxHeartbeats 4000000 in
theorem jw_L_would_244 {Γ : hb_Ctx} {G : hb_Gam} {Q : State → Prop} (X : hb_X Γ cL_would 8 RL ΛC G 8 185) (hr : hb_ret Γ = (some .boolean)) (r0 : Nat) (hr0 : hb_is ΛC r0 5) (p1 : Int32) (j2 : Int32) (j4 : Int32) (j5 : Int32) (j6 : Int32) (σ : hb_Mem) {x : (Int32 × hb_Mem)} (h : jn_L_would_244 r0 p1 j2 j4 j5 j6 σ = some x) (K : Q = hb_Q Γ ΛC G (some (.int x.1)) x.2) : hb_W Γ ΛC G 8 Q σ [some (.ref (G.2.2.2 r0)), none, some (.int j2), none, some (.int j4), some (.int j5), some (.int j6), none] [] 244 := by
  unfold jn_L_would_244 at h
  refine ww_iload 246 X dL_would_244 rfl rfl ?_
  refine ww_iload_n 247 X dL_would_246 rfl rfl ?_
  refine ww_icmp_ne 273 250 X dL_would_247 (by decide) rfl h (fun h => ?_) (fun h => ?_)
  · skip
    refine ww_iload 252 X dL_would_250 rfl rfl ?_
    refine ww_if_eq 271 255 X dL_would_252 (by decide) rfl h (fun h => ?_) (fun h => ?_)
    · skip
      refine ww_iconst (v := 0) 272 X dL_would_271 rfl (by decide) ?_
      obtain rfl := Option.some.inj h
      exact ww_ret_z X hr (by decide) K dL_would_272
    · skip
      refine ww_aload_n 256 X dL_would_255 rfl rfl ?_
      refine ww_iload 258 X dL_would_256 rfl rfl ?_
      refine ww_bipush (v := 8) 260 X dL_would_258 rfl (by decide) ?_
      obtain ⟨x11, hx11, h⟩ := hb_bind_of h
      refine ww_callV (ci := 5) (rest := []) (st' := [.int x11.1]) 263 X (ct_X5_page (hb_l Γ) G r0 hr0 j5 8 σ hx11) cw_L_19 rfl (by decide) hr0 rfl ⟨by decide, by decide⟩ (Nat.le_of_ble_eq_true rfl) rfl rfl dL_would_260 rfl ?_
      refine ww_iconst (v := (-1)) 264 X dL_would_263 rfl (by decide) ?_
      refine ww_icmp_ne 271 267 X dL_would_264 (by decide) rfl h (fun h => ?_) (fun h => ?_)
      · skip
        refine ww_iconst (v := 1) 268 X dL_would_267 rfl (by decide) ?_
        refine ww_goto 272 X dL_would_268 (by decide) ?_
        obtain rfl := Option.some.inj h
        exact ww_ret_z X hr (by decide) K dL_would_272
      · skip
        refine ww_iconst (v := 0) 272 X dL_would_271 rfl (by decide) ?_
        obtain rfl := Option.some.inj h
        exact ww_ret_z X hr (by decide) K dL_would_272
  · skip
    refine ww_aload_n 274 X dL_would_273 rfl rfl ?_
    refine ww_iload 276 X dL_would_274 rfl rfl ?_
    refine ww_bipush (v := 8) 278 X dL_would_276 rfl (by decide) ?_
    obtain ⟨x6, hx6, h⟩ := hb_bind_of h
    refine ww_callV (ci := 5) (rest := []) (st' := [.int x6.1]) 281 X (ct_X5_page (hb_l Γ) G r0 hr0 j5 8 σ hx6) cw_L_19 rfl (by decide) hr0 rfl ⟨by decide, by decide⟩ (Nat.le_of_ble_eq_true rfl) rfl rfl dL_would_278 rfl ?_
    refine ww_istore 283 X (L' := [some (.ref (G.2.2.2 r0)), none, some (.int j2), none, some (.int j4), some (.int j5), some (.int j6), some (.int x6.1)]) dL_would_281 rfl (Nat.le_of_ble_eq_true rfl) rfl rfl ?_
    refine ww_iload 285 X dL_would_283 rfl rfl ?_
    refine ww_if_eq 384 288 X dL_would_285 (by decide) rfl h (fun h => ?_) (fun h => ?_)
    · skip
      refine ww_iconst (v := 0) 385 X dL_would_384 rfl (by decide) ?_
      obtain rfl := Option.some.inj h
      exact ww_ret_z X hr (by decide) K dL_would_385
    · skip
      refine ww_iload 290 X dL_would_288 rfl rfl ?_
      refine ww_if_ne 297 293 X dL_would_290 (by decide) rfl h (fun h => ?_) (fun h => ?_)
      · skip
        refine ww_iconst (v := 1) 294 X dL_would_293 rfl (by decide) ?_
        refine ww_goto 298 X dL_would_294 (by decide) ?_
        refine ww_kill [2, 6] (L' := [some (.ref (G.2.2.2 r0)), none, none, none, some (.int j4), some (.int j5), none, some (.int x6.1)]) rfl ?_
        exact jw_L_would_298 X hr r0 hr0 p1 j4 j5 x6.1 1 x6.2 h K
      · skip
        refine ww_iconst (v := 0) 298 X dL_would_297 rfl (by decide) ?_
        refine ww_kill [2, 6] (L' := [some (.ref (G.2.2.2 r0)), none, none, none, some (.int j4), some (.int j5), none, some (.int x6.1)]) rfl ?_
        exact jw_L_would_298 X hr r0 hr0 p1 j4 j5 x6.1 0 x6.2 h K
def jn_L_would_242 (r0 : Nat) (p1 : Int32) (j2 : Int32) (j4 : Int32) (j5 : Int32) (s0 : Int32) (σ : hb_Mem) : Option (Int32 × hb_Mem) :=
jn_L_would_244 r0 p1 j2 j4 j5 s0 σ
set_option maxRecDepth 100000 in
set_option maxHeartbeats 4000000 in
theorem jw_L_would_242 {Γ : hb_Ctx} {G : hb_Gam} {Q : State → Prop} (X : hb_X Γ cL_would 8 RL ΛC G 8 185) (hr : hb_ret Γ = (some .boolean)) (r0 : Nat) (hr0 : hb_is ΛC r0 5) (p1 : Int32) (j2 : Int32) (j4 : Int32) (j5 : Int32) (s0 : Int32) (σ : hb_Mem) {x : (Int32 × hb_Mem)} (h : jn_L_would_242 r0 p1 j2 j4 j5 s0 σ = some x) (K : Q = hb_Q Γ ΛC G (some (.int x.1)) x.2) : hb_W Γ ΛC G 8 Q σ [some (.ref (G.2.2.2 r0)), none, some (.int j2), none, some (.int j4), some (.int j5), none, none] [.int s0] 242 := by
  unfold jn_L_would_242 at h
  refine ww_istore 244 X (L' := [some (.ref (G.2.2.2 r0)), none, some (.int j2), none, some (.int j4), some (.int j5), some (.int s0), none]) dL_would_242 rfl (Nat.le_of_ble_eq_true rfl) rfl rfl ?_
  exact jw_L_would_244 X hr r0 hr0 p1 j2 j4 j5 s0 σ h K
def jn_L_would_241 (r0 : Nat) (p1 : Int32) (j2 : Int32) (j4 : Int32) (j5 : Int32) (σ : hb_Mem) : Option (Int32 × hb_Mem) :=
jn_L_would_242 r0 p1 j2 j4 j5 0 σ
set_option maxRecDepth 100000 in
set_option maxHeartbeats 4000000 in
theorem jw_L_would_241 {Γ : hb_Ctx} {G : hb_Gam} {Q : State → Prop} (X : hb_X Γ cL_would 8 RL ΛC G 8 185) (hr : hb_ret Γ = (some .boolean)) (r0 : Nat) (hr0 : hb_is ΛC r0 5) (p1 : Int32) (j2 : Int32) (j4 : Int32) (j5 : Int32) (σ : hb_Mem) {x : (Int32 × hb_Mem)} (h : jn_L_would_241 r0 p1 j2 j4 j5 σ = some x) (K : Q = hb_Q Γ ΛC G (some (.int x.1)) x.2) : hb_W Γ ΛC G 8 Q σ [some (.ref (G.2.2.2 r0)), none, some (.int j2), none, some (.int j4), some (.int j5), none, none] [] 241 := by
  unfold jn_L_would_241 at h
  refine ww_iconst (v := 0) 242 X dL_would_241 rfl (by decide) ?_
  exact jw_L_would_242 X hr r0 hr0 p1 j2 j4 j5 0 σ h K
def jn_L_would_237 (r0 : Nat) (p1 : Int32) (j2 : Int32) (j4 : Int32) (j5 : Int32) (σ : hb_Mem) : Option (Int32 × hb_Mem) :=
jn_L_would_242 r0 p1 j2 j4 j5 1 σ
set_option maxRecDepth 100000 in
set_option maxHeartbeats 4000000 in
theorem jw_L_would_237 {Γ : hb_Ctx} {G : hb_Gam} {Q : State → Prop} (X : hb_X Γ cL_would 8 RL ΛC G 8 185) (hr : hb_ret Γ = (some .boolean)) (r0 : Nat) (hr0 : hb_is ΛC r0 5) (p1 : Int32) (j2 : Int32) (j4 : Int32) (j5 : Int32) (σ : hb_Mem) {x : (Int32 × hb_Mem)} (h : jn_L_would_237 r0 p1 j2 j4 j5 σ = some x) (K : Q = hb_Q Γ ΛC G (some (.int x.1)) x.2) : hb_W Γ ΛC G 8 Q σ [some (.ref (G.2.2.2 r0)), none, some (.int j2), none, some (.int j4), some (.int j5), none, none] [] 237 := by
  unfold jn_L_would_237 at h
  refine ww_iconst (v := 1) 238 X dL_would_237 rfl (by decide) ?_
  refine ww_goto 242 X dL_would_238 (by decide) ?_
  exact jw_L_would_242 X hr r0 hr0 p1 j2 j4 j5 1 σ h K
def jn_L_would_147 (r0 : Nat) (p1 : Int32) (j2 : Int32) (j3 : Int32) (j4 : Int32) (j5 : Int32) (s0 : Int32) (σ : hb_Mem) : Option (Int32 × hb_Mem) :=
if s0 = 0 then (
jn_L_would_244 r0 p1 j2 j4 j5 s0 σ)
else (
if j3 = (-5) then (
jn_L_would_244 r0 p1 j2 j4 j5 s0 σ)
else (
(fn_X5_way r0 j3 0 σ).bind fun x12 =>
(fn_X5_way r0 0 0 x12.2).bind fun x13 =>
if x13.1 = 0 then (
(fn_X5_page r0 x12.1 4 x13.2).bind fun x14 =>
if x14.1 = 1 then (
(fn_X5_way r0 j3 2 x14.2).bind fun x15 =>
if x15.1 = (-5) then (
(fn_X5_way r0 (j3 + 1) 1 x15.2).bind fun x16 =>
if x16.1 = (-5) then (
if j3 = 0 then (
jn_L_would_237 r0 p1 j2 j4 j5 x16.2)
else (
(fn_X5_way r0 0 2 x16.2).bind fun x17 =>
(fn_X5_choice r0 0 x17.1 0 x17.2).bind fun x18 =>
(fn_X5_way r0 1 0 x18.2).bind fun x19 =>
if x18.1 = x19.1 then (
jn_L_would_237 r0 p1 j2 j4 j5 x19.2)
else (
jn_L_would_241 r0 p1 j2 j4 j5 x19.2)))
else (
jn_L_would_241 r0 p1 j2 j4 j5 x16.2))
else (
jn_L_would_241 r0 p1 j2 j4 j5 x15.2))
else (
jn_L_would_241 r0 p1 j2 j4 j5 x14.2))
else (
jn_L_would_241 r0 p1 j2 j4 j5 x13.2)))
set_option maxRecDepth 100000 in
set_option maxHeartbeats 4000000 in
theorem jw_L_would_147 {Γ : hb_Ctx} {G : hb_Gam} {Q : State → Prop} (X : hb_X Γ cL_would 8 RL ΛC G 8 185) (hr : hb_ret Γ = (some .boolean)) (r0 : Nat) (hr0 : hb_is ΛC r0 5) (p1 : Int32) (j2 : Int32) (j3 : Int32) (j4 : Int32) (j5 : Int32) (s0 : Int32) (σ : hb_Mem) {x : (Int32 × hb_Mem)} (h : jn_L_would_147 r0 p1 j2 j3 j4 j5 s0 σ = some x) (K : Q = hb_Q Γ ΛC G (some (.int x.1)) x.2) : hb_W Γ ΛC G 8 Q σ [some (.ref (G.2.2.2 r0)), none, some (.int j2), some (.int j3), some (.int j4), some (.int j5), none, none] [.int s0] 147 := by
  unfold jn_L_would_147 at h
  refine ww_istore 149 X (L' := [some (.ref (G.2.2.2 r0)), none, some (.int j2), some (.int j3), some (.int j4), some (.int j5), some (.int s0), none]) dL_would_147 rfl (Nat.le_of_ble_eq_true rfl) rfl rfl ?_
  refine ww_iload 151 X dL_would_149 rfl rfl ?_
  refine ww_if_eq 244 154 X dL_would_151 (by decide) rfl h (fun h => ?_) (fun h => ?_)
  · skip
    refine ww_kill [3] (L' := [some (.ref (G.2.2.2 r0)), none, some (.int j2), none, some (.int j4), some (.int j5), some (.int s0), none]) rfl ?_
    exact jw_L_would_244 X hr r0 hr0 p1 j2 j4 j5 s0 σ h K
  · skip
    refine ww_iload_n 155 X dL_would_154 rfl rfl ?_
    refine ww_bipush (v := (-5)) 157 X dL_would_155 rfl (by decide) ?_
    refine ww_icmp_eq 244 160 X dL_would_157 (by decide) rfl h (fun h => ?_) (fun h => ?_)
    · skip
      refine ww_kill [3] (L' := [some (.ref (G.2.2.2 r0)), none, some (.int j2), none, some (.int j4), some (.int j5), some (.int s0), none]) rfl ?_
      exact jw_L_would_244 X hr r0 hr0 p1 j2 j4 j5 s0 σ h K
    · skip
      refine ww_aload_n 161 X dL_would_160 rfl rfl ?_
      refine ww_iload_n 162 X dL_would_161 rfl rfl ?_
      refine ww_iconst (v := 0) 163 X dL_would_162 rfl (by decide) ?_
      obtain ⟨x12, hx12, h⟩ := hb_bind_of h
      refine ww_callV (ci := 5) (rest := []) (st' := [.int x12.1]) 166 X (ct_X5_way (hb_l Γ) G r0 hr0 j3 0 σ hx12) cw_L_42 rfl (by decide) hr0 rfl ⟨by decide, by decide⟩ (Nat.le_of_ble_eq_true rfl) rfl rfl dL_would_163 rfl ?_
      refine ww_istore 168 X (L' := [some (.ref (G.2.2.2 r0)), none, some (.int j2), some (.int j3), some (.int j4), some (.int j5), some (.int s0), some (.int x12.1)]) dL_would_166 rfl (Nat.le_of_ble_eq_true rfl) rfl rfl ?_
      refine ww_aload_n 169 X dL_would_168 rfl rfl ?_
      refine ww_iconst (v := 0) 170 X dL_would_169 rfl (by decide) ?_
      refine ww_iconst (v := 0) 171 X dL_would_170 rfl (by decide) ?_
      obtain ⟨x13, hx13, h⟩ := hb_bind_of h
      refine ww_callV (ci := 5) (rest := []) (st' := [.int x13.1]) 174 X (ct_X5_way (hb_l Γ) G r0 hr0 0 0 x12.2 hx13) cw_L_42 rfl (by decide) hr0 rfl ⟨by decide, by decide⟩ (Nat.le_of_ble_eq_true rfl) rfl rfl dL_would_171 rfl ?_
      refine ww_if_ne 241 177 X dL_would_174 (by decide) rfl h (fun h => ?_) (fun h => ?_)
      · skip
        refine ww_aload_n 178 X dL_would_177 rfl rfl ?_
        refine ww_iload 180 X dL_would_178 rfl rfl ?_
        refine ww_iconst (v := 4) 181 X dL_would_180 rfl (by decide) ?_
        obtain ⟨x14, hx14, h⟩ := hb_bind_of h
        refine ww_callV (ci := 5) (rest := []) (st' := [.int x14.1]) 184 X (ct_X5_page (hb_l Γ) G r0 hr0 x12.1 4 x13.2 hx14) cw_L_19 rfl (by decide) hr0 rfl ⟨by decide, by decide⟩ (Nat.le_of_ble_eq_true rfl) rfl rfl dL_would_181 rfl ?_
        refine ww_iconst (v := 1) 185 X dL_would_184 rfl (by decide) ?_
        refine ww_icmp_ne 241 188 X dL_would_185 (by decide) rfl h (fun h => ?_) (fun h => ?_)
        · skip
          refine ww_aload_n 189 X dL_would_188 rfl rfl ?_
          refine ww_iload_n 190 X dL_would_189 rfl rfl ?_
          refine ww_iconst (v := 2) 191 X dL_would_190 rfl (by decide) ?_
          obtain ⟨x15, hx15, h⟩ := hb_bind_of h
          refine ww_callV (ci := 5) (rest := []) (st' := [.int x15.1]) 194 X (ct_X5_way (hb_l Γ) G r0 hr0 j3 2 x14.2 hx15) cw_L_42 rfl (by decide) hr0 rfl ⟨by decide, by decide⟩ (Nat.le_of_ble_eq_true rfl) rfl rfl dL_would_191 rfl ?_
          refine ww_bipush (v := (-5)) 196 X dL_would_194 rfl (by decide) ?_
          refine ww_icmp_ne 241 199 X dL_would_196 (by decide) rfl h (fun h => ?_) (fun h => ?_)
          · skip
            refine ww_aload_n 200 X dL_would_199 rfl rfl ?_
            refine ww_iload_n 201 X dL_would_200 rfl rfl ?_
            refine ww_iconst (v := 1) 202 X dL_would_201 rfl (by decide) ?_
            refine ww_iadd 203 X dL_would_202 rfl ?_
            refine ww_iconst (v := 1) 204 X dL_would_203 rfl (by decide) ?_
            obtain ⟨x16, hx16, h⟩ := hb_bind_of h
            refine ww_callV (ci := 5) (rest := []) (st' := [.int x16.1]) 207 X (ct_X5_way (hb_l Γ) G r0 hr0 (j3 + 1) 1 x15.2 hx16) cw_L_42 rfl (by decide) hr0 rfl ⟨by decide, by decide⟩ (Nat.le_of_ble_eq_true rfl) rfl rfl dL_would_204 rfl ?_
            refine ww_bipush (v := (-5)) 209 X dL_would_207 rfl (by decide) ?_
            refine ww_icmp_ne 241 212 X dL_would_209 (by decide) rfl h (fun h => ?_) (fun h => ?_)
            · skip
              refine ww_iload_n 213 X dL_would_212 rfl rfl ?_
              refine ww_if_eq 237 216 X dL_would_213 (by decide) rfl h (fun h => ?_) (fun h => ?_)
              · skip
                refine ww_kill [3, 6, 7] (L' := [some (.ref (G.2.2.2 r0)), none, some (.int j2), none, some (.int j4), some (.int j5), none, none]) rfl ?_
                exact jw_L_would_237 X hr r0 hr0 p1 j2 j4 j5 x16.2 h K
              · skip
                refine ww_aload_n 217 X dL_would_216 rfl rfl ?_
                refine ww_iconst (v := 0) 218 X dL_would_217 rfl (by decide) ?_
                refine ww_aload_n 219 X dL_would_218 rfl rfl ?_
                refine ww_iconst (v := 0) 220 X dL_would_219 rfl (by decide) ?_
                refine ww_iconst (v := 2) 221 X dL_would_220 rfl (by decide) ?_
                obtain ⟨x17, hx17, h⟩ := hb_bind_of h
                refine ww_callV (ci := 5) (rest := [.int 0, .ref (G.2.2.2 r0)]) (st' := [.int x17.1, .int 0, .ref (G.2.2.2 r0)]) 224 X (ct_X5_way (hb_l Γ) G r0 hr0 0 2 x16.2 hx17) cw_L_42 rfl (by decide) hr0 rfl ⟨by decide, by decide⟩ (Nat.le_of_ble_eq_true rfl) rfl rfl dL_would_221 rfl ?_
                refine ww_iconst (v := 0) 225 X dL_would_224 rfl (by decide) ?_
                obtain ⟨x18, hx18, h⟩ := hb_bind_of h
                refine ww_callV (ci := 5) (rest := []) (st' := [.int x18.1]) 228 X (ct_X5_choice (hb_l Γ) G r0 hr0 0 x17.1 0 x17.2 hx18) cw_L_23 rfl (by decide) hr0 rfl ⟨by decide, by decide⟩ (Nat.le_of_ble_eq_true rfl) rfl rfl dL_would_225 rfl ?_
                refine ww_aload_n 229 X dL_would_228 rfl rfl ?_
                refine ww_iconst (v := 1) 230 X dL_would_229 rfl (by decide) ?_
                refine ww_iconst (v := 0) 231 X dL_would_230 rfl (by decide) ?_
                obtain ⟨x19, hx19, h⟩ := hb_bind_of h
                refine ww_callV (ci := 5) (rest := [.int x18.1]) (st' := [.int x19.1, .int x18.1]) 234 X (ct_X5_way (hb_l Γ) G r0 hr0 1 0 x18.2 hx19) cw_L_42 rfl (by decide) hr0 rfl ⟨by decide, by decide⟩ (Nat.le_of_ble_eq_true rfl) rfl rfl dL_would_231 rfl ?_
                refine ww_icmp_ne 241 237 X dL_would_234 (by decide) rfl h (fun h => ?_) (fun h => ?_)
                · skip
                  refine ww_kill [3, 6, 7] (L' := [some (.ref (G.2.2.2 r0)), none, some (.int j2), none, some (.int j4), some (.int j5), none, none]) rfl ?_
                  exact jw_L_would_237 X hr r0 hr0 p1 j2 j4 j5 x19.2 h K
                · skip
                  refine ww_kill [3, 6, 7] (L' := [some (.ref (G.2.2.2 r0)), none, some (.int j2), none, some (.int j4), some (.int j5), none, none]) rfl ?_
                  exact jw_L_would_241 X hr r0 hr0 p1 j2 j4 j5 x19.2 h K
            · skip
              refine ww_kill [3, 6, 7] (L' := [some (.ref (G.2.2.2 r0)), none, some (.int j2), none, some (.int j4), some (.int j5), none, none]) rfl ?_
              exact jw_L_would_241 X hr r0 hr0 p1 j2 j4 j5 x16.2 h K
          · skip
            refine ww_kill [3, 6, 7] (L' := [some (.ref (G.2.2.2 r0)), none, some (.int j2), none, some (.int j4), some (.int j5), none, none]) rfl ?_
            exact jw_L_would_241 X hr r0 hr0 p1 j2 j4 j5 x15.2 h K
        · skip
          refine ww_kill [3, 6, 7] (L' := [some (.ref (G.2.2.2 r0)), none, some (.int j2), none, some (.int j4), some (.int j5), none, none]) rfl ?_
          exact jw_L_would_241 X hr r0 hr0 p1 j2 j4 j5 x14.2 h K
      · skip
        refine ww_kill [3, 6, 7] (L' := [some (.ref (G.2.2.2 r0)), none, some (.int j2), none, some (.int j4), some (.int j5), none, none]) rfl ?_
        exact jw_L_would_241 X hr r0 hr0 p1 j2 j4 j5 x13.2 h K
def jn_L_would_146 (r0 : Nat) (p1 : Int32) (j2 : Int32) (j3 : Int32) (j4 : Int32) (j5 : Int32) (σ : hb_Mem) : Option (Int32 × hb_Mem) :=
jn_L_would_147 r0 p1 j2 j3 j4 j5 0 σ
set_option maxRecDepth 100000 in
set_option maxHeartbeats 4000000 in
theorem jw_L_would_146 {Γ : hb_Ctx} {G : hb_Gam} {Q : State → Prop} (X : hb_X Γ cL_would 8 RL ΛC G 8 185) (hr : hb_ret Γ = (some .boolean)) (r0 : Nat) (hr0 : hb_is ΛC r0 5) (p1 : Int32) (j2 : Int32) (j3 : Int32) (j4 : Int32) (j5 : Int32) (σ : hb_Mem) {x : (Int32 × hb_Mem)} (h : jn_L_would_146 r0 p1 j2 j3 j4 j5 σ = some x) (K : Q = hb_Q Γ ΛC G (some (.int x.1)) x.2) : hb_W Γ ΛC G 8 Q σ [some (.ref (G.2.2.2 r0)), none, some (.int j2), some (.int j3), some (.int j4), some (.int j5), none, none] [] 146 := by
  unfold jn_L_would_146 at h
  refine ww_iconst (v := 0) 147 X dL_would_146 rfl (by decide) ?_
  exact jw_L_would_147 X hr r0 hr0 p1 j2 j3 j4 j5 0 σ h K
def jn_L_would_113 (r0 : Nat) (p1 : Int32) (j2 : Int32) (j3 : Int32) (j4 : Int32) (j5 : Int32) (s0 : Int32) (s1 : Int32) (σ : hb_Mem) : Option (Int32 × hb_Mem) :=
if s0 = s1 then (
(fn_X5_count r0 2 σ).bind fun x21 =>
(fn_X5_count r0 6 x21.2).bind fun x22 =>
if j2 < (x21.1 + x22.1) then (
jn_L_would_146 r0 p1 j2 j3 j4 j5 x22.2)
else (
(fn_X5_count r0 4 x22.2).bind fun x23 =>
if j4 < x23.1 then (
jn_L_would_146 r0 p1 j2 j3 j4 j5 x23.2)
else (
jn_L_would_147 r0 p1 j2 j3 j4 j5 1 x23.2)))
else (
jn_L_would_146 r0 p1 j2 j3 j4 j5 σ)
set_option maxRecDepth 100000 in
set_option maxHeartbeats 4000000 in
theorem jw_L_would_113 {Γ : hb_Ctx} {G : hb_Gam} {Q : State → Prop} (X : hb_X Γ cL_would 8 RL ΛC G 8 185) (hr : hb_ret Γ = (some .boolean)) (r0 : Nat) (hr0 : hb_is ΛC r0 5) (p1 : Int32) (j2 : Int32) (j3 : Int32) (j4 : Int32) (j5 : Int32) (s0 : Int32) (s1 : Int32) (σ : hb_Mem) {x : (Int32 × hb_Mem)} (h : jn_L_would_113 r0 p1 j2 j3 j4 j5 s0 s1 σ = some x) (K : Q = hb_Q Γ ΛC G (some (.int x.1)) x.2) : hb_W Γ ΛC G 8 Q σ [some (.ref (G.2.2.2 r0)), none, some (.int j2), some (.int j3), some (.int j4), some (.int j5), none, none] [.int s1, .int s0] 113 := by
  unfold jn_L_would_113 at h
  refine ww_icmp_ne 146 116 X dL_would_113 (by decide) rfl h (fun h => ?_) (fun h => ?_)
  · skip
    refine ww_aload_n 117 X dL_would_116 rfl rfl ?_
    refine ww_iconst (v := 2) 118 X dL_would_117 rfl (by decide) ?_
    obtain ⟨x21, hx21, h⟩ := hb_bind_of h
    refine ww_callV (ci := 5) (rest := []) (st' := [.int x21.1]) 121 X (ct_X5_count (hb_l Γ) G r0 hr0 2 σ hx21) cw_L_11 rfl (by decide) hr0 rfl ⟨by decide, by decide⟩ (Nat.le_of_ble_eq_true rfl) rfl rfl dL_would_118 rfl ?_
    refine ww_aload_n 122 X dL_would_121 rfl rfl ?_
    refine ww_bipush (v := 6) 124 X dL_would_122 rfl (by decide) ?_
    obtain ⟨x22, hx22, h⟩ := hb_bind_of h
    refine ww_callV (ci := 5) (rest := [.int x21.1]) (st' := [.int x22.1, .int x21.1]) 127 X (ct_X5_count (hb_l Γ) G r0 hr0 6 x21.2 hx22) cw_L_11 rfl (by decide) hr0 rfl ⟨by decide, by decide⟩ (Nat.le_of_ble_eq_true rfl) rfl rfl dL_would_124 rfl ?_
    refine ww_iadd 128 X dL_would_127 rfl ?_
    refine ww_iload_n 129 X dL_would_128 rfl rfl ?_
    refine ww_icmp_gt 146 132 X dL_would_129 (by decide) rfl h (fun h => ?_) (fun h => ?_)
    · skip
      exact jw_L_would_146 X hr r0 hr0 p1 j2 j3 j4 j5 x22.2 h K
    · skip
      refine ww_aload_n 133 X dL_would_132 rfl rfl ?_
      refine ww_iconst (v := 4) 134 X dL_would_133 rfl (by decide) ?_
      obtain ⟨x23, hx23, h⟩ := hb_bind_of h
      refine ww_callV (ci := 5) (rest := []) (st' := [.int x23.1]) 137 X (ct_X5_count (hb_l Γ) G r0 hr0 4 x22.2 hx23) cw_L_11 rfl (by decide) hr0 rfl ⟨by decide, by decide⟩ (Nat.le_of_ble_eq_true rfl) rfl rfl dL_would_134 rfl ?_
      refine ww_iload 139 X dL_would_137 rfl rfl ?_
      refine ww_icmp_gt 146 142 X dL_would_139 (by decide) rfl h (fun h => ?_) (fun h => ?_)
      · skip
        exact jw_L_would_146 X hr r0 hr0 p1 j2 j3 j4 j5 x23.2 h K
      · skip
        refine ww_iconst (v := 1) 143 X dL_would_142 rfl (by decide) ?_
        refine ww_goto 147 X dL_would_143 (by decide) ?_
        exact jw_L_would_147 X hr r0 hr0 p1 j2 j3 j4 j5 1 x23.2 h K
  · skip
    exact jw_L_would_146 X hr r0 hr0 p1 j2 j3 j4 j5 σ h K
def jn_L_would_103 (r0 : Nat) (p1 : Int32) (j2 : Int32) (j3 : Int32) (j4 : Int32) (j5 : Int32) (s0 : Int32) (σ : hb_Mem) : Option (Int32 × hb_Mem) :=
if j4 = 0 then (
jn_L_would_113 r0 p1 j2 j3 j4 j5 s0 1 σ)
else (
jn_L_would_113 r0 p1 j2 j3 j4 j5 s0 0 σ)
set_option maxRecDepth 100000 in
set_option maxHeartbeats 4000000 in
theorem jw_L_would_103 {Γ : hb_Ctx} {G : hb_Gam} {Q : State → Prop} (X : hb_X Γ cL_would 8 RL ΛC G 8 185) (hr : hb_ret Γ = (some .boolean)) (r0 : Nat) (hr0 : hb_is ΛC r0 5) (p1 : Int32) (j2 : Int32) (j3 : Int32) (j4 : Int32) (j5 : Int32) (s0 : Int32) (σ : hb_Mem) {x : (Int32 × hb_Mem)} (h : jn_L_would_103 r0 p1 j2 j3 j4 j5 s0 σ = some x) (K : Q = hb_Q Γ ΛC G (some (.int x.1)) x.2) : hb_W Γ ΛC G 8 Q σ [some (.ref (G.2.2.2 r0)), none, some (.int j2), some (.int j3), some (.int j4), some (.int j5), none, none] [.int s0] 103 := by
  unfold jn_L_would_103 at h
  refine ww_iload 105 X dL_would_103 rfl rfl ?_
  refine ww_if_ne 112 108 X dL_would_105 (by decide) rfl h (fun h => ?_) (fun h => ?_)
  · skip
    refine ww_iconst (v := 1) 109 X dL_would_108 rfl (by decide) ?_
    refine ww_goto 113 X dL_would_109 (by decide) ?_
    exact jw_L_would_113 X hr r0 hr0 p1 j2 j3 j4 j5 s0 1 σ h K
  · skip
    refine ww_iconst (v := 0) 113 X dL_would_112 rfl (by decide) ?_
    exact jw_L_would_113 X hr r0 hr0 p1 j2 j3 j4 j5 s0 0 σ h K
def jn_L_would_82 (r0 : Nat) (p1 : Int32) (j2 : Int32) (j3 : Int32) (j4 : Int32) (j5 : Int32) (s0 : Int32) (s1 : Int32) (σ : hb_Mem) : Option (Int32 × hb_Mem) :=
if s0 = s1 then (
if ((32 : Int32) * j2) < j4 then (
jn_L_would_146 r0 p1 j2 j3 j4 j5 σ)
else (
if j2 = 0 then (
jn_L_would_103 r0 p1 j2 j3 j4 j5 1 σ)
else (
jn_L_would_103 r0 p1 j2 j3 j4 j5 0 σ)))
else (
jn_L_would_146 r0 p1 j2 j3 j4 j5 σ)
set_option maxRecDepth 100000 in
set_option maxHeartbeats 4000000 in
theorem jw_L_would_82 {Γ : hb_Ctx} {G : hb_Gam} {Q : State → Prop} (X : hb_X Γ cL_would 8 RL ΛC G 8 185) (hr : hb_ret Γ = (some .boolean)) (r0 : Nat) (hr0 : hb_is ΛC r0 5) (p1 : Int32) (j2 : Int32) (j3 : Int32) (j4 : Int32) (j5 : Int32) (s0 : Int32) (s1 : Int32) (σ : hb_Mem) {x : (Int32 × hb_Mem)} (h : jn_L_would_82 r0 p1 j2 j3 j4 j5 s0 s1 σ = some x) (K : Q = hb_Q Γ ΛC G (some (.int x.1)) x.2) : hb_W Γ ΛC G 8 Q σ [some (.ref (G.2.2.2 r0)), none, some (.int j2), some (.int j3), some (.int j4), some (.int j5), none, none] [.int s1, .int s0] 82 := by
  unfold jn_L_would_82 at h
  refine ww_icmp_ne 146 85 X dL_would_82 (by decide) rfl h (fun h => ?_) (fun h => ?_)
  · skip
    refine ww_iload 87 X dL_would_85 rfl rfl ?_
    refine ww_bipush (v := 32) 89 X dL_would_87 rfl (by decide) ?_
    refine ww_iload_n 90 X dL_would_89 rfl rfl ?_
    refine ww_imul 91 X dL_would_90 rfl ?_
    refine ww_icmp_gt 146 94 X dL_would_91 (by decide) rfl h (fun h => ?_) (fun h => ?_)
    · skip
      exact jw_L_would_146 X hr r0 hr0 p1 j2 j3 j4 j5 σ h K
    · skip
      refine ww_iload_n 95 X dL_would_94 rfl rfl ?_
      refine ww_if_ne 102 98 X dL_would_95 (by decide) rfl h (fun h => ?_) (fun h => ?_)
      · skip
        refine ww_iconst (v := 1) 99 X dL_would_98 rfl (by decide) ?_
        refine ww_goto 103 X dL_would_99 (by decide) ?_
        exact jw_L_would_103 X hr r0 hr0 p1 j2 j3 j4 j5 1 σ h K
      · skip
        refine ww_iconst (v := 0) 103 X dL_would_102 rfl (by decide) ?_
        exact jw_L_would_103 X hr r0 hr0 p1 j2 j3 j4 j5 0 σ h K
  · skip
    exact jw_L_would_146 X hr r0 hr0 p1 j2 j3 j4 j5 σ h K
def jn_L_would_68 (r0 : Nat) (p1 : Int32) (j2 : Int32) (j3 : Int32) (j4 : Int32) (j5 : Int32) (s0 : Int32) (σ : hb_Mem) : Option (Int32 × hb_Mem) :=
(fn_X5_count r0 7 σ).bind fun x20 =>
if x20.1 = 0 then (
jn_L_would_82 r0 p1 j2 j3 j4 j5 s0 1 x20.2)
else (
jn_L_would_82 r0 p1 j2 j3 j4 j5 s0 0 x20.2)
set_option maxRecDepth 100000 in
set_option maxHeartbeats 4000000 in
theorem jw_L_would_68 {Γ : hb_Ctx} {G : hb_Gam} {Q : State → Prop} (X : hb_X Γ cL_would 8 RL ΛC G 8 185) (hr : hb_ret Γ = (some .boolean)) (r0 : Nat) (hr0 : hb_is ΛC r0 5) (p1 : Int32) (j2 : Int32) (j3 : Int32) (j4 : Int32) (j5 : Int32) (s0 : Int32) (σ : hb_Mem) {x : (Int32 × hb_Mem)} (h : jn_L_would_68 r0 p1 j2 j3 j4 j5 s0 σ = some x) (K : Q = hb_Q Γ ΛC G (some (.int x.1)) x.2) : hb_W Γ ΛC G 8 Q σ [some (.ref (G.2.2.2 r0)), none, some (.int j2), some (.int j3), some (.int j4), some (.int j5), none, none] [.int s0] 68 := by
  unfold jn_L_would_68 at h
  refine ww_aload_n 69 X dL_would_68 rfl rfl ?_
  refine ww_bipush (v := 7) 71 X dL_would_69 rfl (by decide) ?_
  obtain ⟨x20, hx20, h⟩ := hb_bind_of h
  refine ww_callV (ci := 5) (rest := [.int s0]) (st' := [.int x20.1, .int s0]) 74 X (ct_X5_count (hb_l Γ) G r0 hr0 7 σ hx20) cw_L_11 rfl (by decide) hr0 rfl ⟨by decide, by decide⟩ (Nat.le_of_ble_eq_true rfl) rfl rfl dL_would_71 rfl ?_
  refine ww_if_ne 81 77 X dL_would_74 (by decide) rfl h (fun h => ?_) (fun h => ?_)
  · skip
    refine ww_iconst (v := 1) 78 X dL_would_77 rfl (by decide) ?_
    refine ww_goto 82 X dL_would_78 (by decide) ?_
    exact jw_L_would_82 X hr r0 hr0 p1 j2 j3 j4 j5 s0 1 x20.2 h K
  · skip
    refine ww_iconst (v := 0) 82 X dL_would_81 rfl (by decide) ?_
    exact jw_L_would_82 X hr r0 hr0 p1 j2 j3 j4 j5 s0 0 x20.2 h K
def jn_L_would_54 (r0 : Nat) (p1 : Int32) (j2 : Int32) (j3 : Int32) (j4 : Int32) (j5 : Int32) (s0 : Int32) (s1 : Int32) (σ : hb_Mem) : Option (Int32 × hb_Mem) :=
if s0 = s1 then (
if j3 = (-5) then (
jn_L_would_68 r0 p1 j2 j3 j4 j5 1 σ)
else (
jn_L_would_68 r0 p1 j2 j3 j4 j5 0 σ))
else (
jn_L_would_146 r0 p1 j2 j3 j4 j5 σ)
set_option maxRecDepth 100000 in
set_option maxHeartbeats 4000000 in
theorem jw_L_would_54 {Γ : hb_Ctx} {G : hb_Gam} {Q : State → Prop} (X : hb_X Γ cL_would 8 RL ΛC G 8 185) (hr : hb_ret Γ = (some .boolean)) (r0 : Nat) (hr0 : hb_is ΛC r0 5) (p1 : Int32) (j2 : Int32) (j3 : Int32) (j4 : Int32) (j5 : Int32) (s0 : Int32) (s1 : Int32) (σ : hb_Mem) {x : (Int32 × hb_Mem)} (h : jn_L_would_54 r0 p1 j2 j3 j4 j5 s0 s1 σ = some x) (K : Q = hb_Q Γ ΛC G (some (.int x.1)) x.2) : hb_W Γ ΛC G 8 Q σ [some (.ref (G.2.2.2 r0)), none, some (.int j2), some (.int j3), some (.int j4), some (.int j5), none, none] [.int s1, .int s0] 54 := by
  unfold jn_L_would_54 at h
  refine ww_icmp_ne 146 57 X dL_would_54 (by decide) rfl h (fun h => ?_) (fun h => ?_)
  · skip
    refine ww_iload_n 58 X dL_would_57 rfl rfl ?_
    refine ww_bipush (v := (-5)) 60 X dL_would_58 rfl (by decide) ?_
    refine ww_icmp_ne 67 63 X dL_would_60 (by decide) rfl h (fun h => ?_) (fun h => ?_)
    · skip
      refine ww_iconst (v := 1) 64 X dL_would_63 rfl (by decide) ?_
      refine ww_goto 68 X dL_would_64 (by decide) ?_
      exact jw_L_would_68 X hr r0 hr0 p1 j2 j3 j4 j5 1 σ h K
    · skip
      refine ww_iconst (v := 0) 68 X dL_would_67 rfl (by decide) ?_
      exact jw_L_would_68 X hr r0 hr0 p1 j2 j3 j4 j5 0 σ h K
  · skip
    exact jw_L_would_146 X hr r0 hr0 p1 j2 j3 j4 j5 σ h K
def jn_L_would_40 (r0 : Nat) (p1 : Int32) (j2 : Int32) (j3 : Int32) (j4 : Int32) (j5 : Int32) (s0 : Int32) (σ : hb_Mem) : Option (Int32 × hb_Mem) :=
(fn_X5_wayMood r0 σ).bind fun x5 =>
if x5.1 = (-5) then (
jn_L_would_54 r0 p1 j2 j3 j4 j5 s0 1 x5.2)
else (
jn_L_would_54 r0 p1 j2 j3 j4 j5 s0 0 x5.2)
set_option maxRecDepth 100000 in
set_option maxHeartbeats 4000000 in
theorem jw_L_would_40 {Γ : hb_Ctx} {G : hb_Gam} {Q : State → Prop} (X : hb_X Γ cL_would 8 RL ΛC G 8 185) (hr : hb_ret Γ = (some .boolean)) (r0 : Nat) (hr0 : hb_is ΛC r0 5) (p1 : Int32) (j2 : Int32) (j3 : Int32) (j4 : Int32) (j5 : Int32) (s0 : Int32) (σ : hb_Mem) {x : (Int32 × hb_Mem)} (h : jn_L_would_40 r0 p1 j2 j3 j4 j5 s0 σ = some x) (K : Q = hb_Q Γ ΛC G (some (.int x.1)) x.2) : hb_W Γ ΛC G 8 Q σ [some (.ref (G.2.2.2 r0)), none, some (.int j2), some (.int j3), some (.int j4), some (.int j5), none, none] [.int s0] 40 := by
  unfold jn_L_would_40 at h
  refine ww_aload_n 41 X dL_would_40 rfl rfl ?_
  obtain ⟨x5, hx5, h⟩ := hb_bind_of h
  refine ww_callV (ci := 5) (rest := [.int s0]) (st' := [.int x5.1, .int s0]) 44 X (ct_X5_wayMood (hb_l Γ) G r0 hr0 σ hx5) cw_L_38 rfl (by decide) hr0 rfl ⟨by decide, by decide⟩ (Nat.le_of_ble_eq_true rfl) rfl rfl dL_would_41 rfl ?_
  refine ww_bipush (v := (-5)) 46 X dL_would_44 rfl (by decide) ?_
  refine ww_icmp_ne 53 49 X dL_would_46 (by decide) rfl h (fun h => ?_) (fun h => ?_)
  · skip
    refine ww_iconst (v := 1) 50 X dL_would_49 rfl (by decide) ?_
    refine ww_goto 54 X dL_would_50 (by decide) ?_
    exact jw_L_would_54 X hr r0 hr0 p1 j2 j3 j4 j5 s0 1 x5.2 h K
  · skip
    refine ww_iconst (v := 0) 54 X dL_would_53 rfl (by decide) ?_
    exact jw_L_would_54 X hr r0 hr0 p1 j2 j3 j4 j5 s0 0 x5.2 h K
def fn_L_would (r0 : Nat) (p1 : Int32) (σ : hb_Mem) : Option (Int32 × hb_Mem) :=
(fn_X5_count r0 0 σ).bind fun x1 =>
(fn_X5_count r0 8 x1.2).bind fun x2 =>
(fn_X5_count r0 5 x2.2).bind fun x3 =>
(fn_L_low p1 (x1.1 + 1)).bind fun x4 =>
if x2.1 = (-5) then (
jn_L_would_40 r0 p1 x1.1 x2.1 x3.1 x4 1 x3.2)
else (
jn_L_would_40 r0 p1 x1.1 x2.1 x3.1 x4 0 x3.2)
set_option maxRecDepth 100000 in
set_option maxHeartbeats 4000000 in
theorem wk_L_would {Γ : hb_Ctx} {G : hb_Gam} {Q : State → Prop} (X : hb_X Γ cL_would 8 RL ΛC G 8 185) (hr : hb_ret Γ = (some .boolean)) (r0 : Nat) (hr0 : hb_is ΛC r0 5) (p1 : Int32) (σ : hb_Mem) {x : (Int32 × hb_Mem)} (h : fn_L_would r0 p1 σ = some x) (K : Q = hb_Q Γ ΛC G (some (.int x.1)) x.2) : hb_W Γ ΛC G 8 Q σ [some (.ref (G.2.2.2 r0)), some (.int p1), none, none, none, none, none, none] [] 0 := by
  unfold fn_L_would at h
  refine ww_aload_n 1 X dL_would_0 rfl rfl ?_
  refine ww_iconst (v := 0) 2 X dL_would_1 rfl (by decide) ?_
  obtain ⟨x1, hx1, h⟩ := hb_bind_of h
  refine ww_callV (ci := 5) (rest := []) (st' := [.int x1.1]) 5 X (ct_X5_count (hb_l Γ) G r0 hr0 0 σ hx1) cw_L_11 rfl (by decide) hr0 rfl ⟨by decide, by decide⟩ (Nat.le_of_ble_eq_true rfl) rfl rfl dL_would_2 rfl ?_
  refine ww_istore_n 6 X (L' := [some (.ref (G.2.2.2 r0)), some (.int p1), some (.int x1.1), none, none, none, none, none]) dL_would_5 rfl (Nat.le_of_ble_eq_true rfl) rfl rfl ?_
  refine ww_aload_n 7 X dL_would_6 rfl rfl ?_
  refine ww_bipush (v := 8) 9 X dL_would_7 rfl (by decide) ?_
  obtain ⟨x2, hx2, h⟩ := hb_bind_of h
  refine ww_callV (ci := 5) (rest := []) (st' := [.int x2.1]) 12 X (ct_X5_count (hb_l Γ) G r0 hr0 8 x1.2 hx2) cw_L_11 rfl (by decide) hr0 rfl ⟨by decide, by decide⟩ (Nat.le_of_ble_eq_true rfl) rfl rfl dL_would_9 rfl ?_
  refine ww_istore_n 13 X (L' := [some (.ref (G.2.2.2 r0)), some (.int p1), some (.int x1.1), some (.int x2.1), none, none, none, none]) dL_would_12 rfl (Nat.le_of_ble_eq_true rfl) rfl rfl ?_
  refine ww_aload_n 14 X dL_would_13 rfl rfl ?_
  refine ww_iconst (v := 5) 15 X dL_would_14 rfl (by decide) ?_
  obtain ⟨x3, hx3, h⟩ := hb_bind_of h
  refine ww_callV (ci := 5) (rest := []) (st' := [.int x3.1]) 18 X (ct_X5_count (hb_l Γ) G r0 hr0 5 x2.2 hx3) cw_L_11 rfl (by decide) hr0 rfl ⟨by decide, by decide⟩ (Nat.le_of_ble_eq_true rfl) rfl rfl dL_would_15 rfl ?_
  refine ww_istore 20 X (L' := [some (.ref (G.2.2.2 r0)), some (.int p1), some (.int x1.1), some (.int x2.1), some (.int x3.1), none, none, none]) dL_would_18 rfl (Nat.le_of_ble_eq_true rfl) rfl rfl ?_
  refine ww_iload_n 21 X dL_would_20 rfl rfl ?_
  refine ww_iload_n 22 X dL_would_21 rfl rfl ?_
  refine ww_iconst (v := 1) 23 X dL_would_22 rfl (by decide) ?_
  refine ww_iadd 24 X dL_would_23 rfl ?_
  obtain ⟨x4, hx4, h⟩ := hb_bind_of h
  refine ww_callS (rest := []) (st' := [.int x4]) 27 X (ct_L_low (hb_l Γ) G p1 (x1.1 + 1) x3.2 hx4) cw_L_35 rfl ⟨by decide, by decide⟩ (Nat.le_of_ble_eq_true rfl) rfl rfl dL_would_24 rfl ?_
  refine ww_istore 29 X (L' := [some (.ref (G.2.2.2 r0)), some (.int p1), some (.int x1.1), some (.int x2.1), some (.int x3.1), some (.int x4), none, none]) dL_would_27 rfl (Nat.le_of_ble_eq_true rfl) rfl rfl ?_
  refine ww_iload_n 30 X dL_would_29 rfl rfl ?_
  refine ww_bipush (v := (-5)) 32 X dL_would_30 rfl (by decide) ?_
  refine ww_icmp_ne 39 35 X dL_would_32 (by decide) rfl h (fun h => ?_) (fun h => ?_)
  · skip
    refine ww_iconst (v := 1) 36 X dL_would_35 rfl (by decide) ?_
    refine ww_goto 40 X dL_would_36 (by decide) ?_
    refine ww_kill [1] (L' := [some (.ref (G.2.2.2 r0)), none, some (.int x1.1), some (.int x2.1), some (.int x3.1), some (.int x4), none, none]) rfl ?_
    exact jw_L_would_40 X hr r0 hr0 p1 x1.1 x2.1 x3.1 x4 1 x3.2 h K
  · skip
    refine ww_iconst (v := 0) 40 X dL_would_39 rfl (by decide) ?_
    refine ww_kill [1] (L' := [some (.ref (G.2.2.2 r0)), none, some (.int x1.1), some (.int x2.1), some (.int x3.1), some (.int x4), none, none]) rfl ?_
    exact jw_L_would_40 X hr r0 hr0 p1 x1.1 x2.1 x3.1 x4 0 x3.2 h K
theorem ct_L_would (l : Launch) (G : hb_Gam) (r0 : Nat) (hr0 : hb_is ΛC r0 5) (p1 : Int32) (σ : hb_Mem) {x : (Int32 × hb_Mem)} (h : fn_L_would r0 p1 σ = some x) : hb_C l yL_would cL_would 8 (some .boolean) 8 185 ΛC G [.ref (G.2.2.2 r0), .int p1] σ (some (.int x.1)) x.2 :=
  hb_C.of [some (.ref (G.2.2.2 r0)), some (.int p1), none, none, none, none, none, none] (by decide +kernel) (Nat.le_of_ble_eq_true rfl) (by intro v hv; simp only [List.mem_cons, List.not_mem_nil, or_false] at hv; rcases hv with rfl | rfl <;> rfl) rfl (hb_pad [.ref (G.2.2.2 r0), .int p1] 6) (fun Γ X hr => wk_L_would X hr r0 hr0 p1 σ h rfl)
