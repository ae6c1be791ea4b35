/-! methods (laid by wip/whole/gen.py) -/
def fn_X5_choice (k : Nat) (p1 : Int32) (p2 : Int32) (p3 : Int32) (σ : hb_Mem) : Option (Int32 × hb_Mem) :=
(fn_X2_hasChoice (hc_rf k 0) p1 p2 σ).bind fun x1 =>
if x1 = 0 then (
some ((-1), σ))
else (
(fn_X5_slotOf p1 p2).bind fun x2 =>
if p3 = 0 then (
(fn_X1_at (hc_rf (hc_rf k 0) 5) x2 σ).bind fun x3 =>
some (x3, σ))
else if p3 = 1 then (
(fn_X1_at (hc_rf (hc_rf k 0) 6) x2 σ).bind fun x4 =>
some (x4, σ))
else if p3 = 2 then (
(fn_X1_at (hc_rf (hc_rf k 0) 7) x2 σ).bind fun x5 =>
some (x5, σ))
else if p3 = 3 then (
(fn_X5_surveyed k σ).bind fun x6 =>
(fn_X3_isEverOpen (hc_rf k 6) (hc_rf k 0) p1 p2 x6).bind fun x7 =>
(fn_X5_oneIf x7).bind fun x8 =>
some (x8, x6))
else (
some ((-2), σ)))
set_option maxRecDepth 100000 in
set_option maxHeartbeats 4000000 in
theorem wk_X5_choice {Γ : hb_Ctx} {G : hb_Gam} {Q : State → Prop} (X : hb_X Γ cX5_choice 5 RX5 ΛC G 7 161) (hr : hb_ret Γ = (some .int)) (k : Nat) (hk : hb_is ΛC k 5) (p1 : Int32) (p2 : Int32) (p3 : Int32) (σ : hb_Mem) {x : (Int32 × hb_Mem)} (h : fn_X5_choice k p1 p2 p3 σ = some x) (K : Q = hb_Q Γ ΛC G (some (.int x.1)) x.2) : hb_W Γ ΛC G 5 Q σ [some (.ref (G.2.2.2 k)), some (.int p1), some (.int p2), some (.int p3), none] [] 0 := by
  unfold fn_X5_choice at h
  refine ww_aload_n 1 X dX5_choice_0 rfl rfl ?_
  refine ww_getr (ci := 5) (j := 0) 4 X cf_5 tw_X5_12 (by decide) rfl hk dX5_choice_1 rfl ?_
  refine ww_iload_n 5 X dX5_choice_4 rfl rfl ?_
  refine ww_iload_n 6 X dX5_choice_5 rfl rfl ?_
  obtain ⟨x1, hx1, h⟩ := hb_bind_of h
  refine ww_callV (ci := 2) (rest := []) (st' := [.int x1]) 9 X (ct_X2_hasChoice (hb_l Γ) G (hc_rf k 0) (hc_kr_5_0 hk) p1 p2 σ hx1) cw_X5_117 rfl (by decide) (hc_kr_5_0 hk) rfl ⟨by decide, by decide⟩ (Nat.le_of_ble_eq_true rfl) rfl rfl dX5_choice_6 rfl ?_
  refine ww_if_ne 14 12 X dX5_choice_9 (by decide) rfl h (fun h => ?_) (fun h => ?_)
  · skip
    refine ww_iconst (v := (-1)) 13 X dX5_choice_12 rfl (by decide) ?_
    obtain rfl := Option.some.inj h
    exact ww_ret_i X hr K dX5_choice_13
  · skip
    refine ww_iload_n 15 X dX5_choice_14 rfl rfl ?_
    refine ww_iload_n 16 X dX5_choice_15 rfl rfl ?_
    obtain ⟨x2, hx2, h⟩ := hb_bind_of h
    refine ww_callS (rest := []) (st' := [.int x2]) 19 X (ct_X5_slotOf (hb_l Γ) G p1 p2 σ hx2) cw_X5_222 rfl ⟨by decide, by decide⟩ (Nat.le_of_ble_eq_true rfl) rfl rfl dX5_choice_16 rfl ?_
    refine ww_istore 21 X (L' := [some (.ref (G.2.2.2 k)), some (.int p1), some (.int p2), some (.int p3), some (.int x2)]) dX5_choice_19 rfl (Nat.le_of_ble_eq_true rfl) rfl ?_
    refine ww_iload_n 22 X dX5_choice_21 rfl rfl ?_
    by_cases c0 : p3 = 0
    · rw [if_pos c0] at h
      refine ww_tabIn (30) 52 X dX5_choice_22 (by rw [c0]; decide) (by rw [c0]; decide) (by rw [c0]; rfl) (by decide) ?_
      refine ww_aload_n 53 X dX5_choice_52 rfl rfl ?_
      refine ww_getr (ci := 5) (j := 0) 56 X cf_5 tw_X5_12 (by decide) rfl hk dX5_choice_53 rfl ?_
      refine ww_getrN (ci := 2) (j := 5) 59 X cf_2 tw_X5_225 (by decide) rfl (hc_kr_5_0 hk) dX5_choice_56 rfl ?_
      refine ww_iload 61 X dX5_choice_59 rfl rfl ?_
      obtain ⟨x3, hx3, h⟩ := hb_bind_of h
      refine ww_callV (ci := 1) (rest := []) (st' := [.int x3]) 64 X (ct_X1_at (hb_l Γ) G (hc_rf (hc_rf k 0) 5) (hc_kr_2_5 (hc_kr_5_0 hk)) x2 σ hx3) cw_X5_72 rfl (by decide) (hc_kr_2_5 (hc_kr_5_0 hk)) rfl ⟨by decide, by decide⟩ (Nat.le_of_ble_eq_true rfl) rfl rfl dX5_choice_61 rfl ?_
      obtain rfl := Option.some.inj h
      exact ww_ret_i X hr K dX5_choice_64
    rw [if_neg c0] at h
    by_cases c1 : p3 = 1
    · rw [if_pos c1] at h
      refine ww_tabIn (43) 65 X dX5_choice_22 (by rw [c1]; decide) (by rw [c1]; decide) (by rw [c1]; rfl) (by decide) ?_
      refine ww_aload_n 66 X dX5_choice_65 rfl rfl ?_
      refine ww_getr (ci := 5) (j := 0) 69 X cf_5 tw_X5_12 (by decide) rfl hk dX5_choice_66 rfl ?_
      refine ww_getrN (ci := 2) (j := 6) 72 X cf_2 tw_X5_226 (by decide) rfl (hc_kr_5_0 hk) dX5_choice_69 rfl ?_
      refine ww_iload 74 X dX5_choice_72 rfl rfl ?_
      obtain ⟨x4, hx4, h⟩ := hb_bind_of h
      refine ww_callV (ci := 1) (rest := []) (st' := [.int x4]) 77 X (ct_X1_at (hb_l Γ) G (hc_rf (hc_rf k 0) 6) (hc_kr_2_6 (hc_kr_5_0 hk)) x2 σ hx4) cw_X5_72 rfl (by decide) (hc_kr_2_6 (hc_kr_5_0 hk)) rfl ⟨by decide, by decide⟩ (Nat.le_of_ble_eq_true rfl) rfl rfl dX5_choice_74 rfl ?_
      obtain rfl := Option.some.inj h
      exact ww_ret_i X hr K dX5_choice_77
    rw [if_neg c1] at h
    by_cases c2 : p3 = 2
    · rw [if_pos c2] at h
      refine ww_tabIn (56) 78 X dX5_choice_22 (by rw [c2]; decide) (by rw [c2]; decide) (by rw [c2]; rfl) (by decide) ?_
      refine ww_aload_n 79 X dX5_choice_78 rfl rfl ?_
      refine ww_getr (ci := 5) (j := 0) 82 X cf_5 tw_X5_12 (by decide) rfl hk dX5_choice_79 rfl ?_
      refine ww_getrN (ci := 2) (j := 7) 85 X cf_2 tw_X5_227 (by decide) rfl (hc_kr_5_0 hk) dX5_choice_82 rfl ?_
      refine ww_iload 87 X dX5_choice_85 rfl rfl ?_
      obtain ⟨x5, hx5, h⟩ := hb_bind_of h
      refine ww_callV (ci := 1) (rest := []) (st' := [.int x5]) 90 X (ct_X1_at (hb_l Γ) G (hc_rf (hc_rf k 0) 7) (hc_kr_2_7 (hc_kr_5_0 hk)) x2 σ hx5) cw_X5_72 rfl (by decide) (hc_kr_2_7 (hc_kr_5_0 hk)) rfl ⟨by decide, by decide⟩ (Nat.le_of_ble_eq_true rfl) rfl rfl dX5_choice_87 rfl ?_
      obtain rfl := Option.some.inj h
      exact ww_ret_i X hr K dX5_choice_90
    rw [if_neg c2] at h
    by_cases c3 : p3 = 3
    · rw [if_pos c3] at h
      refine ww_tabIn (69) 91 X dX5_choice_22 (by rw [c3]; decide) (by rw [c3]; decide) (by rw [c3]; rfl) (by decide) ?_
      refine ww_aload_n 92 X dX5_choice_91 rfl rfl ?_
      obtain ⟨x6, hx6, h⟩ := hb_bind_of h
      refine ww_callV (ci := 5) (rest := []) (st' := [.ref (G.2.2.2 (hc_rf k 6))]) 95 X (ct_X5_surveyed (hb_l Γ) G k hk σ hx6) cw_X5_199 rfl (by decide) hk rfl ⟨by decide, by decide⟩ (Nat.le_of_ble_eq_true rfl) rfl rfl dX5_choice_92 rfl ?_
      refine ww_aload_n 96 X dX5_choice_95 rfl rfl ?_
      refine ww_getr (ci := 5) (j := 0) 99 X cf_5 tw_X5_12 (by decide) rfl hk dX5_choice_96 rfl ?_
      refine ww_iload_n 100 X dX5_choice_99 rfl rfl ?_
      refine ww_iload_n 101 X dX5_choice_100 rfl rfl ?_
      obtain ⟨x7, hx7, h⟩ := hb_bind_of h
      refine ww_callV (ci := 3) (rest := []) (st' := [.int x7]) 104 X (ct_X3_isEverOpen (hb_l Γ) G (hc_rf k 6) (hc_kr_5_6 hk) (hc_rf k 0) (hc_kr_5_0 hk) p1 p2 x6 hx7) cw_X5_228 rfl (by decide) (hc_kr_5_6 hk) rfl ⟨by decide, by decide⟩ (Nat.le_of_ble_eq_true rfl) rfl rfl dX5_choice_101 rfl ?_
      obtain ⟨x8, hx8, h⟩ := hb_bind_of h
      refine ww_callS (rest := []) (st' := [.int x8]) 107 X (ct_X5_oneIf (hb_l Γ) G x7 x6 hx8) cw_X5_206 rfl ⟨by decide, by decide⟩ (Nat.le_of_ble_eq_true rfl) rfl rfl dX5_choice_104 rfl ?_
      obtain rfl := Option.some.inj h
      exact ww_ret_i X hr K dX5_choice_107
    rw [if_neg c3] at h
    refine ww_tabOut 108 X dX5_choice_22 (by have := hb_ne_toInt c0 (c := 0) rfl; have := hb_ne_toInt c1 (c := 1) rfl; have := hb_ne_toInt c2 (c := 2) rfl; have := hb_ne_toInt c3 (c := 3) rfl; omega) (by decide) ?_
    refine ww_bipush (v := (-2)) 110 X dX5_choice_108 rfl (by decide) ?_
    obtain rfl := Option.some.inj h
    exact ww_ret_i X hr K dX5_choice_110
theorem ct_X5_choice (l : Launch) (G : hb_Gam) (k : Nat) (hk : hb_is ΛC k 5) (p1 : Int32) (p2 : Int32) (p3 : Int32) (σ : hb_Mem) {x : (Int32 × hb_Mem)} (h : fn_X5_choice k p1 p2 p3 σ = some x) : hb_C l yX5_choice cX5_choice 5 (some .int) 7 161 ΛC G [.ref (G.2.2.2 k), .int p1, .int p2, .int p3] σ (some (.int x.1)) x.2 :=
  hb_C.of [some (.ref (G.2.2.2 k)), some (.int p1), some (.int p2), some (.int p3), none] (by decide +kernel) (Nat.le_of_ble_eq_true rfl) (by intro v hv; simp only [List.mem_cons, List.not_mem_nil, or_false] at hv; rcases hv with rfl | rfl | rfl | rfl <;> rfl) rfl (hb_pad [.ref (G.2.2.2 k), .int p1, .int p2, .int p3] 1) (fun Γ X hr => wk_X5_choice X hr k hk p1 p2 p3 σ h rfl)
def fn_X5_reader (k : Nat) (p1 : Int32) (p2 : Int32) (σ : hb_Mem) : Option Int32 :=
(fn_X5_isReader p1).bind fun x1 =>
if x1 = 0 then (
some (-1))
else (
if p2 < 0 then (
some (-2))
else (
if p2 ≤ 3 then (
(fn_X1_at (hc_rf (hc_rf k 0) 8) p1 σ).bind fun x2 =>
if x2 = (-1) then (
some (-5))
else (
if p2 = 0 then (
(fn_X5_pageAt x2).bind fun x3 =>
some x3)
else if p2 = 1 then (
(fn_X5_flagsAt x2).bind fun x4 =>
some x4)
else if p2 = 2 then (
(fn_X2_openChoices (hc_rf k 0) x2 σ).bind fun x5 =>
some x5)
else (
(fn_X1_at (hc_rf (hc_rf k 0) 9) p1 σ).bind fun x6 =>
some x6)))
else (
some (-2))))
set_option maxRecDepth 100000 in
set_option maxHeartbeats 4000000 in
theorem wk_X5_reader {Γ : hb_Ctx} {G : hb_Gam} {Q : State → Prop} (X : hb_X Γ cX5_reader 4 RX5 ΛC G 3 69) (hr : hb_ret Γ = (some .int)) (k : Nat) (hk : hb_is ΛC k 5) (p1 : Int32) (p2 : Int32) (σ : hb_Mem) {x : Int32} (h : fn_X5_reader k p1 p2 σ = some x) (K : Q = hb_Q Γ ΛC G (some (.int x)) σ) : hb_W Γ ΛC G 4 Q σ [some (.ref (G.2.2.2 k)), some (.int p1), some (.int p2), none] [] 0 := by
  unfold fn_X5_reader at h
  refine ww_iload_n 1 X dX5_reader_0 rfl rfl ?_
  obtain ⟨x1, hx1, h⟩ := hb_bind_of h
  refine ww_callS (rest := []) (st' := [.int x1]) 4 X (ct_X5_isReader (hb_l Γ) G p1 σ hx1) cw_X5_131 rfl ⟨by decide, by decide⟩ (Nat.le_of_ble_eq_true rfl) rfl rfl dX5_reader_1 rfl ?_
  refine ww_if_ne 9 7 X dX5_reader_4 (by decide) rfl h (fun h => ?_) (fun h => ?_)
  · skip
    refine ww_iconst (v := (-1)) 8 X dX5_reader_7 rfl (by decide) ?_
    obtain rfl := Option.some.inj h
    exact ww_ret_i X hr K dX5_reader_8
  · skip
    refine ww_iload_n 10 X dX5_reader_9 rfl rfl ?_
    refine ww_if_lt 18 13 X dX5_reader_10 (by decide) rfl h (fun h => ?_) (fun h => ?_)
    · skip
      refine ww_bipush (v := (-2)) 20 X dX5_reader_18 rfl (by decide) ?_
      obtain rfl := Option.some.inj h
      exact ww_ret_i X hr K dX5_reader_20
    · skip
      refine ww_iload_n 14 X dX5_reader_13 rfl rfl ?_
      refine ww_iconst (v := 3) 15 X dX5_reader_14 rfl (by decide) ?_
      refine ww_icmp_le 21 18 X dX5_reader_15 (by decide) rfl h (fun h => ?_) (fun h => ?_)
      · skip
        refine ww_aload_n 22 X dX5_reader_21 rfl rfl ?_
        refine ww_getr (ci := 5) (j := 0) 25 X cf_5 tw_X5_12 (by decide) rfl hk dX5_reader_22 rfl ?_
        refine ww_getrN (ci := 2) (j := 8) 28 X cf_2 tw_X5_151 (by decide) rfl (hc_kr_5_0 hk) dX5_reader_25 rfl ?_
        refine ww_iload_n 29 X dX5_reader_28 rfl rfl ?_
        obtain ⟨x2, hx2, h⟩ := hb_bind_of h
        refine ww_callV (ci := 1) (rest := []) (st' := [.int x2]) 32 X (ct_X1_at (hb_l Γ) G (hc_rf (hc_rf k 0) 8) (hc_kr_2_8 (hc_kr_5_0 hk)) p1 σ hx2) cw_X5_72 rfl (by decide) (hc_kr_2_8 (hc_kr_5_0 hk)) rfl ⟨by decide, by decide⟩ (Nat.le_of_ble_eq_true rfl) rfl rfl dX5_reader_29 rfl ?_
        refine ww_istore_n 33 X (L' := [some (.ref (G.2.2.2 k)), some (.int p1), some (.int p2), some (.int x2)]) dX5_reader_32 rfl (Nat.le_of_ble_eq_true rfl) rfl ?_
        refine ww_iload_n 34 X dX5_reader_33 rfl rfl ?_
        refine ww_iconst (v := (-1)) 35 X dX5_reader_34 rfl (by decide) ?_
        refine ww_icmp_ne 41 38 X dX5_reader_35 (by decide) rfl h (fun h => ?_) (fun h => ?_)
        · skip
          refine ww_bipush (v := (-5)) 40 X dX5_reader_38 rfl (by decide) ?_
          obtain rfl := Option.some.inj h
          exact ww_ret_i X hr K dX5_reader_40
        · skip
          refine ww_iload_n 42 X dX5_reader_41 rfl rfl ?_
          by_cases c0 : p2 = 0
          · rw [if_pos c0] at h
            refine ww_tabIn (26) 68 X dX5_reader_42 (by rw [c0]; decide) (by rw [c0]; decide) (by rw [c0]; rfl) (by decide) ?_
            refine ww_iload_n 69 X dX5_reader_68 rfl rfl ?_
            obtain ⟨x3, hx3, h⟩ := hb_bind_of h
            refine ww_callS (rest := []) (st' := [.int x3]) 72 X (ct_X5_pageAt (hb_l Γ) G x2 σ hx3) cw_X5_160 rfl ⟨by decide, by decide⟩ (Nat.le_of_ble_eq_true rfl) rfl rfl dX5_reader_69 rfl ?_
            obtain rfl := Option.some.inj h
            exact ww_ret_i X hr K dX5_reader_72
          rw [if_neg c0] at h
          by_cases c1 : p2 = 1
          · rw [if_pos c1] at h
            refine ww_tabIn (31) 73 X dX5_reader_42 (by rw [c1]; decide) (by rw [c1]; decide) (by rw [c1]; rfl) (by decide) ?_
            refine ww_iload_n 74 X dX5_reader_73 rfl rfl ?_
            obtain ⟨x4, hx4, h⟩ := hb_bind_of h
            refine ww_callS (rest := []) (st' := [.int x4]) 77 X (ct_X5_flagsAt (hb_l Γ) G x2 σ hx4) cw_X5_142 rfl ⟨by decide, by decide⟩ (Nat.le_of_ble_eq_true rfl) rfl rfl dX5_reader_74 rfl ?_
            obtain rfl := Option.some.inj h
            exact ww_ret_i X hr K dX5_reader_77
          rw [if_neg c1] at h
          by_cases c2 : p2 = 2
          · rw [if_pos c2] at h
            refine ww_tabIn (36) 78 X dX5_reader_42 (by rw [c2]; decide) (by rw [c2]; decide) (by rw [c2]; rfl) (by decide) ?_
            refine ww_aload_n 79 X dX5_reader_78 rfl rfl ?_
            refine ww_getr (ci := 5) (j := 0) 82 X cf_5 tw_X5_12 (by decide) rfl hk dX5_reader_79 rfl ?_
            refine ww_iload_n 83 X dX5_reader_82 rfl rfl ?_
            obtain ⟨x5, hx5, h⟩ := hb_bind_of h
            refine ww_callV (ci := 2) (rest := []) (st' := [.int x5]) 86 X (ct_X2_openChoices (hb_l Γ) G (hc_rf k 0) (hc_kr_5_0 hk) x2 σ hx5) cw_X5_232 rfl (by decide) (hc_kr_5_0 hk) rfl ⟨by decide, by decide⟩ (Nat.le_of_ble_eq_true rfl) rfl rfl dX5_reader_83 rfl ?_
            obtain rfl := Option.some.inj h
            exact ww_ret_i X hr K dX5_reader_86
          rw [if_neg c2] at h
          refine ww_tabOut 87 X dX5_reader_42 (by have := hb_ne_toInt c0 (c := 0) rfl; have := hb_ne_toInt c1 (c := 1) rfl; have := hb_ne_toInt c2 (c := 2) rfl; omega) (by decide) ?_
          refine ww_aload_n 88 X dX5_reader_87 rfl rfl ?_
          refine ww_getr (ci := 5) (j := 0) 91 X cf_5 tw_X5_12 (by decide) rfl hk dX5_reader_88 rfl ?_
          refine ww_getrN (ci := 2) (j := 9) 94 X cf_2 tw_X5_157 (by decide) rfl (hc_kr_5_0 hk) dX5_reader_91 rfl ?_
          refine ww_iload_n 95 X dX5_reader_94 rfl rfl ?_
          obtain ⟨x6, hx6, h⟩ := hb_bind_of h
          refine ww_callV (ci := 1) (rest := []) (st' := [.int x6]) 98 X (ct_X1_at (hb_l Γ) G (hc_rf (hc_rf k 0) 9) (hc_kr_2_9 (hc_kr_5_0 hk)) p1 σ hx6) cw_X5_72 rfl (by decide) (hc_kr_2_9 (hc_kr_5_0 hk)) rfl ⟨by decide, by decide⟩ (Nat.le_of_ble_eq_true rfl) rfl rfl dX5_reader_95 rfl ?_
          obtain rfl := Option.some.inj h
          exact ww_ret_i X hr K dX5_reader_98
      · skip
        refine ww_bipush (v := (-2)) 20 X dX5_reader_18 rfl (by decide) ?_
        obtain rfl := Option.some.inj h
        exact ww_ret_i X hr K dX5_reader_20
theorem ct_X5_reader (l : Launch) (G : hb_Gam) (k : Nat) (hk : hb_is ΛC k 5) (p1 : Int32) (p2 : Int32) (σ : hb_Mem) {x : Int32} (h : fn_X5_reader k p1 p2 σ = some x) : hb_C l yX5_reader cX5_reader 4 (some .int) 3 69 ΛC G [.ref (G.2.2.2 k), .int p1, .int p2] σ (some (.int x)) σ :=
  hb_C.of [some (.ref (G.2.2.2 k)), some (.int p1), some (.int p2), none] (by decide +kernel) (Nat.le_of_ble_eq_true rfl) (by intro v hv; simp only [List.mem_cons, List.not_mem_nil, or_false] at hv; rcases hv with rfl | rfl | rfl <;> rfl) rfl (hb_pad [.ref (G.2.2.2 k), .int p1, .int p2] 1) (fun Γ X hr => wk_X5_reader X hr k hk p1 p2 σ h rfl)
def fn_X5_why (k : Nat) (p1 : Int32) (p2 : Int32) (σ : hb_Mem) : Option Int32 :=
(fn_X5_isReader p1).bind fun x1 =>
if x1 = 0 then (
some (-1))
else (
(fn_X5_isChoiceNumber p2).bind fun x2 =>
if x2 = 0 then (
some (-2))
else (
(fn_X2_reasonAgainst (hc_rf k 0) p1 p2 σ).bind fun x3 =>
some x3))
set_option maxRecDepth 100000 in
set_option maxHeartbeats 4000000 in
theorem wk_X5_why {Γ : hb_Ctx} {G : hb_Gam} {Q : State → Prop} (X : hb_X Γ cX5_why 3 RX5 ΛC G 3 69) (hr : hb_ret Γ = (some .int)) (k : Nat) (hk : hb_is ΛC k 5) (p1 : Int32) (p2 : Int32) (σ : hb_Mem) {x : Int32} (h : fn_X5_why k p1 p2 σ = some x) (K : Q = hb_Q Γ ΛC G (some (.int x)) σ) : hb_W Γ ΛC G 3 Q σ [some (.ref (G.2.2.2 k)), some (.int p1), some (.int p2)] [] 0 := by
  unfold fn_X5_why at h
  refine ww_iload_n 1 X dX5_why_0 rfl rfl ?_
  obtain ⟨x1, hx1, h⟩ := hb_bind_of h
  refine ww_callS (rest := []) (st' := [.int x1]) 4 X (ct_X5_isReader (hb_l Γ) G p1 σ hx1) cw_X5_131 rfl ⟨by decide, by decide⟩ (Nat.le_of_ble_eq_true rfl) rfl rfl dX5_why_1 rfl ?_
  refine ww_if_ne 9 7 X dX5_why_4 (by decide) rfl h (fun h => ?_) (fun h => ?_)
  · skip
    refine ww_iconst (v := (-1)) 8 X dX5_why_7 rfl (by decide) ?_
    obtain rfl := Option.some.inj h
    exact ww_ret_i X hr K dX5_why_8
  · skip
    refine ww_iload_n 10 X dX5_why_9 rfl rfl ?_
    obtain ⟨x2, hx2, h⟩ := hb_bind_of h
    refine ww_callS (rest := []) (st' := [.int x2]) 13 X (ct_X5_isChoiceNumber (hb_l Γ) G p2 σ hx2) cw_X5_145 rfl ⟨by decide, by decide⟩ (Nat.le_of_ble_eq_true rfl) rfl rfl dX5_why_10 rfl ?_
    refine ww_if_ne 19 16 X dX5_why_13 (by decide) rfl h (fun h => ?_) (fun h => ?_)
    · skip
      refine ww_bipush (v := (-2)) 18 X dX5_why_16 rfl (by decide) ?_
      obtain rfl := Option.some.inj h
      exact ww_ret_i X hr K dX5_why_18
    · skip
      refine ww_aload_n 20 X dX5_why_19 rfl rfl ?_
      refine ww_getr (ci := 5) (j := 0) 23 X cf_5 tw_X5_12 (by decide) rfl hk dX5_why_20 rfl ?_
      refine ww_iload_n 24 X dX5_why_23 rfl rfl ?_
      refine ww_iload_n 25 X dX5_why_24 rfl rfl ?_
      obtain ⟨x3, hx3, h⟩ := hb_bind_of h
      refine ww_callV (ci := 2) (rest := []) (st' := [.int x3]) 28 X (ct_X2_reasonAgainst (hb_l Γ) G (hc_rf k 0) (hc_kr_5_0 hk) p1 p2 σ hx3) cw_X5_148 rfl (by decide) (hc_kr_5_0 hk) rfl ⟨by decide, by decide⟩ (Nat.le_of_ble_eq_true rfl) rfl rfl dX5_why_25 rfl ?_
      obtain rfl := Option.some.inj h
      exact ww_ret_i X hr K dX5_why_28
theorem ct_X5_why (l : Launch) (G : hb_Gam) (k : Nat) (hk : hb_is ΛC k 5) (p1 : Int32) (p2 : Int32) (σ : hb_Mem) {x : Int32} (h : fn_X5_why k p1 p2 σ = some x) : hb_C l yX5_why cX5_why 3 (some .int) 3 69 ΛC G [.ref (G.2.2.2 k), .int p1, .int p2] σ (some (.int x)) σ :=
  hb_C.of [some (.ref (G.2.2.2 k)), some (.int p1), some (.int p2)] (by decide +kernel) (Nat.le_of_ble_eq_true rfl) (by intro v hv; simp only [List.mem_cons, List.not_mem_nil, or_false] at hv; rcases hv with rfl | rfl | rfl <;> rfl) rfl (hb_pad [.ref (G.2.2.2 k), .int p1, .int p2] 0) (fun Γ X hr => wk_X5_why X hr k hk p1 p2 σ h rfl)
def fn_X5_way (k : Nat) (p1 : Int32) (p2 : Int32) (σ : hb_Mem) : Option (Int32 × hb_Mem) :=
if p1 < 0 then (
some ((-2), σ))
else (
if p2 < 0 then (
some ((-2), σ))
else (
if p2 ≤ 2 then (
(fn_X5_surveyed k σ).bind fun x1 =>
if p1 ≤ (x1 (hc_rf k 6) 10) then (
if p2 = 0 then (
(fn_X1_at (hc_rf (hc_rf k 6) 11) p1 x1).bind fun x2 =>
(fn_X5_pageAt x2).bind fun x3 =>
some (x3, x1))
else if p2 = 1 then (
(fn_X1_at (hc_rf (hc_rf k 6) 11) p1 x1).bind fun x4 =>
(fn_X5_flagsAt x4).bind fun x5 =>
some (x5, x1))
else (
(fn_X3_choiceOnWay (hc_rf k 6) p1 x1).bind fun x6 =>
some (x6, x1)))
else (
some ((-5), x1)))
else (
some ((-2), σ))))
set_option maxRecDepth 100000 in
set_option maxHeartbeats 4000000 in
theorem wk_X5_way {Γ : hb_Ctx} {G : hb_Gam} {Q : State → Prop} (X : hb_X Γ cX5_way 4 RX5 ΛC G 7 161) (hr : hb_ret Γ = (some .int)) (k : Nat) (hk : hb_is ΛC k 5) (p1 : Int32) (p2 : Int32) (σ : hb_Mem) {x : (Int32 × hb_Mem)} (h : fn_X5_way k p1 p2 σ = some x) (K : Q = hb_Q Γ ΛC G (some (.int x.1)) x.2) : hb_W Γ ΛC G 4 Q σ [some (.ref (G.2.2.2 k)), some (.int p1), some (.int p2), none] [] 0 := by
  unfold fn_X5_way at h
  refine ww_iload_n 1 X dX5_way_0 rfl rfl ?_
  refine ww_if_lt 13 4 X dX5_way_1 (by decide) rfl h (fun h => ?_) (fun h => ?_)
  · skip
    refine ww_bipush (v := (-2)) 15 X dX5_way_13 rfl (by decide) ?_
    obtain rfl := Option.some.inj h
    exact ww_ret_i X hr K dX5_way_15
  · skip
    refine ww_iload_n 5 X dX5_way_4 rfl rfl ?_
    refine ww_if_lt 13 8 X dX5_way_5 (by decide) rfl h (fun h => ?_) (fun h => ?_)
    · skip
      refine ww_bipush (v := (-2)) 15 X dX5_way_13 rfl (by decide) ?_
      obtain rfl := Option.some.inj h
      exact ww_ret_i X hr K dX5_way_15
    · skip
      refine ww_iload_n 9 X dX5_way_8 rfl rfl ?_
      refine ww_iconst (v := 2) 10 X dX5_way_9 rfl (by decide) ?_
      refine ww_icmp_le 16 13 X dX5_way_10 (by decide) rfl h (fun h => ?_) (fun h => ?_)
      · skip
        refine ww_aload_n 17 X dX5_way_16 rfl rfl ?_
        obtain ⟨x1, hx1, h⟩ := hb_bind_of h
        refine ww_callV (ci := 5) (rest := []) (st' := [.ref (G.2.2.2 (hc_rf k 6))]) 20 X (ct_X5_surveyed (hb_l Γ) G k hk σ hx1) cw_X5_199 rfl (by decide) hk rfl ⟨by decide, by decide⟩ (Nat.le_of_ble_eq_true rfl) rfl rfl dX5_way_17 rfl ?_
        refine ww_astore_n 21 X (L' := [some (.ref (G.2.2.2 k)), some (.int p1), some (.int p2), some (.ref (G.2.2.2 (hc_rf k 6)))]) dX5_way_20 rfl (Nat.le_of_ble_eq_true rfl) rfl ?_
        refine ww_iload_n 22 X dX5_way_21 rfl rfl ?_
        refine ww_aload_n 23 X dX5_way_22 rfl rfl ?_
        refine ww_getiN (ci := 3) (j := 10) 26 X cf_3 tw_X5_235 (by decide) rfl (hc_kr_5_6 hk) dX5_way_23 rfl ?_
        refine ww_icmp_le 32 29 X dX5_way_26 (by decide) rfl h (fun h => ?_) (fun h => ?_)
        · skip
          refine ww_iload_n 33 X dX5_way_32 rfl rfl ?_
          by_cases c0 : p2 = 0
          · rw [if_pos c0] at h
            refine ww_look (27) 60 X dX5_way_33 (by decide) (by rw [c0]; rfl) (by decide) ?_
            refine ww_aload_n 61 X dX5_way_60 rfl rfl ?_
            refine ww_getrN (ci := 3) (j := 11) 64 X cf_3 tw_X5_238 (by decide) rfl (hc_kr_5_6 hk) dX5_way_61 rfl ?_
            refine ww_iload_n 65 X dX5_way_64 rfl rfl ?_
            obtain ⟨x2, hx2, h⟩ := hb_bind_of h
            refine ww_callV (ci := 1) (rest := []) (st' := [.int x2]) 68 X (ct_X1_at (hb_l Γ) G (hc_rf (hc_rf k 6) 11) (hc_kr_3_11 (hc_kr_5_6 hk)) p1 x1 hx2) cw_X5_72 rfl (by decide) (hc_kr_3_11 (hc_kr_5_6 hk)) rfl ⟨by decide, by decide⟩ (Nat.le_of_ble_eq_true rfl) rfl rfl dX5_way_65 rfl ?_
            obtain ⟨x3, hx3, h⟩ := hb_bind_of h
            refine ww_callS (rest := []) (st' := [.int x3]) 71 X (ct_X5_pageAt (hb_l Γ) G x2 x1 hx3) cw_X5_160 rfl ⟨by decide, by decide⟩ (Nat.le_of_ble_eq_true rfl) rfl rfl dX5_way_68 rfl ?_
            obtain rfl := Option.some.inj h
            exact ww_ret_i X hr K dX5_way_71
          rw [if_neg c0] at h
          by_cases c1 : p2 = 1
          · rw [if_pos c1] at h
            refine ww_look (39) 72 X dX5_way_33 (by decide) (by rw [c1]; rfl) (by decide) ?_
            refine ww_aload_n 73 X dX5_way_72 rfl rfl ?_
            refine ww_getrN (ci := 3) (j := 11) 76 X cf_3 tw_X5_238 (by decide) rfl (hc_kr_5_6 hk) dX5_way_73 rfl ?_
            refine ww_iload_n 77 X dX5_way_76 rfl rfl ?_
            obtain ⟨x4, hx4, h⟩ := hb_bind_of h
            refine ww_callV (ci := 1) (rest := []) (st' := [.int x4]) 80 X (ct_X1_at (hb_l Γ) G (hc_rf (hc_rf k 6) 11) (hc_kr_3_11 (hc_kr_5_6 hk)) p1 x1 hx4) cw_X5_72 rfl (by decide) (hc_kr_3_11 (hc_kr_5_6 hk)) rfl ⟨by decide, by decide⟩ (Nat.le_of_ble_eq_true rfl) rfl rfl dX5_way_77 rfl ?_
            obtain ⟨x5, hx5, h⟩ := hb_bind_of h
            refine ww_callS (rest := []) (st' := [.int x5]) 83 X (ct_X5_flagsAt (hb_l Γ) G x4 x1 hx5) cw_X5_142 rfl ⟨by decide, by decide⟩ (Nat.le_of_ble_eq_true rfl) rfl rfl dX5_way_80 rfl ?_
            obtain rfl := Option.some.inj h
            exact ww_ret_i X hr K dX5_way_83
          rw [if_neg c1] at h
          refine ww_look (51) 84 X dX5_way_33 (by decide) ((lv_osw c0 rfl).trans ((lv_osw c1 rfl).trans rfl)) (by decide) ?_
          refine ww_aload_n 85 X dX5_way_84 rfl rfl ?_
          refine ww_iload_n 86 X dX5_way_85 rfl rfl ?_
          obtain ⟨x6, hx6, h⟩ := hb_bind_of h
          refine ww_callV (ci := 3) (rest := []) (st' := [.int x6]) 89 X (ct_X3_choiceOnWay (hb_l Γ) G (hc_rf k 6) (hc_kr_5_6 hk) p1 x1 hx6) cw_X5_241 rfl (by decide) (hc_kr_5_6 hk) rfl ⟨by decide, by decide⟩ (Nat.le_of_ble_eq_true rfl) rfl rfl dX5_way_86 rfl ?_
          obtain rfl := Option.some.inj h
          exact ww_ret_i X hr K dX5_way_89
        · skip
          refine ww_bipush (v := (-5)) 31 X dX5_way_29 rfl (by decide) ?_
          obtain rfl := Option.some.inj h
          exact ww_ret_i X hr K dX5_way_31
      · skip
        refine ww_bipush (v := (-2)) 15 X dX5_way_13 rfl (by decide) ?_
        obtain rfl := Option.some.inj h
        exact ww_ret_i X hr K dX5_way_15
theorem ct_X5_way (l : Launch) (G : hb_Gam) (k : Nat) (hk : hb_is ΛC k 5) (p1 : Int32) (p2 : Int32) (σ : hb_Mem) {x : (Int32 × hb_Mem)} (h : fn_X5_way k p1 p2 σ = some x) : hb_C l yX5_way cX5_way 4 (some .int) 7 161 ΛC G [.ref (G.2.2.2 k), .int p1, .int p2] σ (some (.int x.1)) x.2 :=
  hb_C.of [some (.ref (G.2.2.2 k)), some (.int p1), some (.int p2), none] (by decide +kernel) (Nat.le_of_ble_eq_true rfl) (by intro v hv; simp only [List.mem_cons, List.not_mem_nil, or_false] at hv; rcases hv with rfl | rfl | rfl <;> rfl) rfl (hb_pad [.ref (G.2.2.2 k), .int p1, .int p2] 1) (fun Γ X hr => wk_X5_way X hr k hk p1 p2 σ h rfl)
def lb_X5_wayMood_19 (k : Nat) (w2 : UInt32) (w3 : Int32) (σ : hb_Mem) : Option ((UInt32 × Int32) ⊕ UInt32) :=
if (σ (hc_rf k 6) 10) < w3 then (
some (.inr w2))
else (
if 1024 ≤ w3 then (
some (.inr w2))
else (
(fn_X1_at (hc_rf (hc_rf k 6) 11) w3 σ).bind fun x2 =>
(fn_X5_pageAt x2).bind fun x3 =>
(fn_X2_moodOf (hc_rf k 0) x3 σ).bind fun x4 =>
(hb_nn (FP.fadd w2 x4)).bind fun z5 =>
hb_nm (w3 + 1) fun v6 =>
some (.inl (z5, v6))))
set_option maxRecDepth 100000 in
set_option maxHeartbeats 4000000 in
theorem lk_X5_wayMood_19 {Γ : hb_Ctx} {G : hb_Gam} {Q : State → Prop} (X : hb_X Γ cX5_wayMood 4 RX5 ΛC G 7 161)  (k : Nat) (hk : hb_is ΛC k 5) (w2 : UInt32) (w3 : Int32) (σ : hb_Mem) {x : ((UInt32 × Int32) ⊕ UInt32)} (h : lb_X5_wayMood_19 k w2 w3 σ = some x) (K : Sum.elim (fun s : (UInt32 × Int32) => hb_W Γ ΛC G 4 Q σ [some (.ref (G.2.2.2 k)), some (.ref (G.2.2.2 (hc_rf k 6))), some (.float s.1), some (.int s.2)] [] 19) (fun t : UInt32 => hb_W Γ ΛC G 4 Q σ [none, none, some (.float t), none] [] 61) x) : hb_W Γ ΛC G 4 Q σ [some (.ref (G.2.2.2 k)), some (.ref (G.2.2.2 (hc_rf k 6))), some (.float w2), some (.int w3)] [] 19 := by
  unfold lb_X5_wayMood_19 at h
  refine ww_iload_n 20 X dX5_wayMood_19 rfl rfl ?_
  refine ww_aload_n 21 X dX5_wayMood_20 rfl rfl ?_
  refine ww_getiN (ci := 3) (j := 10) 24 X cf_3 tw_X5_235 (by decide) rfl (hc_kr_5_6 hk) dX5_wayMood_21 rfl ?_
  refine ww_icmp_gt 61 27 X dX5_wayMood_24 (by decide) rfl h (fun h => ?_) (fun h => ?_)
  · skip
    obtain rfl := Option.some.inj h
    refine ww_kill [0, 1, 3] (L' := [none, none, some (.float w2), none]) rfl ?_
    exact K
  · skip
    refine ww_iload_n 28 X dX5_wayMood_27 rfl rfl ?_
    refine ww_sipush (v := 1024) 31 X dX5_wayMood_28 rfl (by decide) ?_
    refine ww_icmp_ge 61 34 X dX5_wayMood_31 (by decide) rfl h (fun h => ?_) (fun h => ?_)
    · skip
      obtain rfl := Option.some.inj h
      refine ww_kill [0, 1, 3] (L' := [none, none, some (.float w2), none]) rfl ?_
      exact K
    · skip
      refine ww_fload_n 35 X dX5_wayMood_34 rfl rfl ?_
      refine ww_aload_n 36 X dX5_wayMood_35 rfl rfl ?_
      refine ww_getr (ci := 5) (j := 0) 39 X cf_5 tw_X5_12 (by decide) rfl hk dX5_wayMood_36 rfl ?_
      refine ww_aload_n 40 X dX5_wayMood_39 rfl rfl ?_
      refine ww_getrN (ci := 3) (j := 11) 43 X cf_3 tw_X5_238 (by decide) rfl (hc_kr_5_6 hk) dX5_wayMood_40 rfl ?_
      refine ww_iload_n 44 X dX5_wayMood_43 rfl rfl ?_
      obtain ⟨x2, hx2, h⟩ := hb_bind_of h
      refine ww_callV (ci := 1) (rest := [.ref (G.2.2.2 (hc_rf k 0)), .float w2]) (st' := [.int x2, .ref (G.2.2.2 (hc_rf k 0)), .float w2]) 47 X (ct_X1_at (hb_l Γ) G (hc_rf (hc_rf k 6) 11) (hc_kr_3_11 (hc_kr_5_6 hk)) w3 σ hx2) cw_X5_72 rfl (by decide) (hc_kr_3_11 (hc_kr_5_6 hk)) rfl ⟨by decide, by decide⟩ (Nat.le_of_ble_eq_true rfl) rfl rfl dX5_wayMood_44 rfl ?_
      obtain ⟨x3, hx3, h⟩ := hb_bind_of h
      refine ww_callS (rest := [.ref (G.2.2.2 (hc_rf k 0)), .float w2]) (st' := [.int x3, .ref (G.2.2.2 (hc_rf k 0)), .float w2]) 50 X (ct_X5_pageAt (hb_l Γ) G x2 σ hx3) cw_X5_160 rfl ⟨by decide, by decide⟩ (Nat.le_of_ble_eq_true rfl) rfl rfl dX5_wayMood_47 rfl ?_
      obtain ⟨x4, hx4, h⟩ := hb_bind_of h
      refine ww_callV (ci := 2) (rest := [.float w2]) (st' := [.float x4, .float w2]) 53 X (ct_X2_moodOf (hb_l Γ) G (hc_rf k 0) (hc_kr_5_0 hk) x3 σ hx4) cw_X5_188 rfl (by decide) (hc_kr_5_0 hk) rfl ⟨by decide, by decide⟩ (Nat.le_of_ble_eq_true rfl) rfl rfl dX5_wayMood_50 rfl ?_
      obtain ⟨z5, hz5, h⟩ := hb_bind_of h
      refine ww_fadd 54 X dX5_wayMood_53 rfl hz5 ?_
      refine ww_fstore_n 55 X (L' := [some (.ref (G.2.2.2 k)), some (.ref (G.2.2.2 (hc_rf k 6))), some (.float z5), some (.int w3)]) dX5_wayMood_54 rfl (Nat.le_of_ble_eq_true rfl) rfl ?_
      obtain ⟨v6, ev6, h⟩ := hb_nm_of h
      refine ww_iinc 58 X (L' := [some (.ref (G.2.2.2 k)), some (.ref (G.2.2.2 (hc_rf k 6))), some (.float z5), some (.int v6)]) dX5_wayMood_55 rfl rfl ev6.symm rfl ?_
      refine ww_goto 19 X dX5_wayMood_58 (by decide) ?_
      obtain rfl := Option.some.inj h
      exact K
def ll_X5_wayMood_19 (k : Nat) (σ : hb_Mem) : (UInt32 × Int32) → Option UInt32 := hb_lp (fun s => lb_X5_wayMood_19 k s.1 s.2 σ) hb_F
theorem lw_X5_wayMood_19 {Γ : hb_Ctx} {G : hb_Gam} {Q : State → Prop} (X : hb_X Γ cX5_wayMood 4 RX5 ΛC G 7 161)  (k : Nat) (hk : hb_is ΛC k 5) (σ : hb_Mem) (s : (UInt32 × Int32)) (t : UInt32) (h : ll_X5_wayMood_19 k σ s = some t) (K : (fun t : UInt32 => hb_W Γ ΛC G 4 Q σ [none, none, some (.float t), none] [] 61) t) : hb_W Γ ΛC G 4 Q σ [some (.ref (G.2.2.2 k)), some (.ref (G.2.2.2 (hc_rf k 6))), some (.float s.1), some (.int s.2)] [] 19 :=
  hb_lp_w (P := fun s : (UInt32 × Int32) => hb_W Γ ΛC G 4 Q σ [some (.ref (G.2.2.2 k)), some (.ref (G.2.2.2 (hc_rf k 6))), some (.float s.1), some (.int s.2)] [] 19) (E := (fun t : UInt32 => hb_W Γ ΛC G 4 Q σ [none, none, some (.float t), none] [] 61)) (fun s x hx K => lk_X5_wayMood_19 X k hk s.1 s.2 σ hx K) _ s t h K
def jn_X5_wayMood_61 (k : Nat) (j2 : UInt32) (σ : hb_Mem) : Option (Int32 × hb_Mem) :=
(fn_X5_bitsOf j2).bind fun x8 =>
some (x8, σ)
set_option maxRecDepth 100000 in
set_option maxHeartbeats 4000000 in
theorem jw_X5_wayMood_61 {Γ : hb_Ctx} {G : hb_Gam} {Q : State → Prop} (X : hb_X Γ cX5_wayMood 4 RX5 ΛC G 7 161) (hr : hb_ret Γ = (some .int)) (k : Nat) (hk : hb_is ΛC k 5) (j2 : UInt32) (σ : hb_Mem) {x : (Int32 × hb_Mem)} (h : jn_X5_wayMood_61 k j2 σ = some x) (K : Q = hb_Q Γ ΛC G (some (.int x.1)) x.2) : hb_W Γ ΛC G 4 Q σ [none, none, some (.float j2), none] [] 61 := by
  unfold jn_X5_wayMood_61 at h
  refine ww_fload_n 62 X dX5_wayMood_61 rfl rfl ?_
  obtain ⟨x8, hx8, h⟩ := hb_bind_of h
  refine ww_callS (rest := []) (st' := [.int x8]) 65 X (ct_X5_bitsOf (hb_l Γ) G j2 σ hx8) cw_X5_192 rfl ⟨by decide, by decide⟩ (Nat.le_of_ble_eq_true rfl) rfl rfl dX5_wayMood_62 rfl ?_
  obtain rfl := Option.some.inj h
  exact ww_ret_i X hr K dX5_wayMood_65
def fn_X5_wayMood (k : Nat) (σ : hb_Mem) : Option (Int32 × hb_Mem) :=
(fn_X5_surveyed k σ).bind fun x1 =>
if 0 ≤ (x1 (hc_rf k 6) 10) then (
(ll_X5_wayMood_19 k x1 (FP.fconst0, 0)).bind fun t7 =>
jn_X5_wayMood_61 k t7 x1)
else (
some ((-5), x1))
set_option maxRecDepth 100000 in
set_option maxHeartbeats 4000000 in
theorem wk_X5_wayMood {Γ : hb_Ctx} {G : hb_Gam} {Q : State → Prop} (X : hb_X Γ cX5_wayMood 4 RX5 ΛC G 7 161) (hr : hb_ret Γ = (some .int)) (k : Nat) (hk : hb_is ΛC k 5) (σ : hb_Mem) {x : (Int32 × hb_Mem)} (h : fn_X5_wayMood k σ = some x) (K : Q = hb_Q Γ ΛC G (some (.int x.1)) x.2) : hb_W Γ ΛC G 4 Q σ [some (.ref (G.2.2.2 k)), none, none, none] [] 0 := by
  unfold fn_X5_wayMood at h
  refine ww_aload_n 1 X dX5_wayMood_0 rfl rfl ?_
  obtain ⟨x1, hx1, h⟩ := hb_bind_of h
  refine ww_callV (ci := 5) (rest := []) (st' := [.ref (G.2.2.2 (hc_rf k 6))]) 4 X (ct_X5_surveyed (hb_l Γ) G k hk σ hx1) cw_X5_199 rfl (by decide) hk rfl ⟨by decide, by decide⟩ (Nat.le_of_ble_eq_true rfl) rfl rfl dX5_wayMood_1 rfl ?_
  refine ww_astore_n 5 X (L' := [some (.ref (G.2.2.2 k)), some (.ref (G.2.2.2 (hc_rf k 6))), none, none]) dX5_wayMood_4 rfl (Nat.le_of_ble_eq_true rfl) rfl ?_
  refine ww_aload_n 6 X dX5_wayMood_5 rfl rfl ?_
  refine ww_getiN (ci := 3) (j := 10) 9 X cf_3 tw_X5_235 (by decide) rfl (hc_kr_5_6 hk) dX5_wayMood_6 rfl ?_
  refine ww_if_ge 15 12 X dX5_wayMood_9 (by decide) rfl h (fun h => ?_) (fun h => ?_)
  · skip
    refine ww_fconst0 16 X dX5_wayMood_15 rfl ?_
    refine ww_fstore_n 17 X (L' := [some (.ref (G.2.2.2 k)), some (.ref (G.2.2.2 (hc_rf k 6))), some (.float FP.fconst0), none]) dX5_wayMood_16 rfl (Nat.le_of_ble_eq_true rfl) rfl ?_
    refine ww_iconst (v := 0) 18 X dX5_wayMood_17 rfl (by decide) ?_
    refine ww_istore_n 19 X (L' := [some (.ref (G.2.2.2 k)), some (.ref (G.2.2.2 (hc_rf k 6))), some (.float FP.fconst0), some (.int 0)]) dX5_wayMood_18 rfl (Nat.le_of_ble_eq_true rfl) rfl ?_
    obtain ⟨t7, ht7, h⟩ := hb_bind_of h
    refine lw_X5_wayMood_19 X k hk x1 (FP.fconst0, 0) t7 ht7 ?_
    exact jw_X5_wayMood_61 X hr k hk t7 x1 h K
  · skip
    refine ww_bipush (v := (-5)) 14 X dX5_wayMood_12 rfl (by decide) ?_
    obtain rfl := Option.some.inj h
    exact ww_ret_i X hr K dX5_wayMood_14
theorem ct_X5_wayMood (l : Launch) (G : hb_Gam) (k : Nat) (hk : hb_is ΛC k 5) (σ : hb_Mem) {x : (Int32 × hb_Mem)} (h : fn_X5_wayMood k σ = some x) : hb_C l yX5_wayMood cX5_wayMood 4 (some .int) 7 161 ΛC G [.ref (G.2.2.2 k)] σ (some (.int x.1)) x.2 :=
  hb_C.of [some (.ref (G.2.2.2 k)), none, none, none] (by decide +kernel) (Nat.le_of_ble_eq_true rfl) (by intro v hv; simp only [List.mem_cons, List.not_mem_nil, or_false] at hv; subst hv; rfl) rfl (hb_pad [.ref (G.2.2.2 k)] 3) (fun Γ X hr => wk_X5_wayMood X hr k hk σ h rfl)
def jn_X5_count_181 (k : Nat) (p1 : Int32) (s0 : Int32) (σ : hb_Mem) : Option (Int32 × hb_Mem) :=
(fn_X5_oneIf s0).bind fun x17 =>
some (x17, σ)
set_option maxRecDepth 100000 in
set_option maxHeartbeats 4000000 in
theorem jw_X5_count_181 {Γ : hb_Ctx} {G : hb_Gam} {Q : State → Prop} (X : hb_X Γ cX5_count 2 RX5 ΛC G 7 161) (hr : hb_ret Γ = (some .int)) (k : Nat) (hk : hb_is ΛC k 5) (p1 : Int32) (s0 : Int32) (σ : hb_Mem) {x : (Int32 × hb_Mem)} (h : jn_X5_count_181 k p1 s0 σ = some x) (K : Q = hb_Q Γ ΛC G (some (.int x.1)) x.2) : hb_W Γ ΛC G 2 Q σ [none, none] [.int s0] 181 := by
  unfold jn_X5_count_181 at h
  obtain ⟨x17, hx17, h⟩ := hb_bind_of h
  refine ww_callS (rest := []) (st' := [.int x17]) 184 X (ct_X5_oneIf (hb_l Γ) G s0 σ hx17) cw_X5_206 rfl ⟨by decide, by decide⟩ (Nat.le_of_ble_eq_true rfl) rfl rfl dX5_count_181 rfl ?_
  obtain rfl := Option.some.inj h
  exact ww_ret_i X hr K dX5_count_184
def fn_X5_count (k : Nat) (p1 : Int32) (σ : hb_Mem) : Option (Int32 × hb_Mem) :=
if p1 = 0 then (
some (σ (hc_rf k 0) 0, σ))
else if p1 = 1 then (
(fn_X2_allChoices (hc_rf k 0) σ).bind fun x1 =>
some (x1, σ))
else if p1 = 2 then (
(fn_X5_surveyed k σ).bind fun x2 =>
(fn_X3_deadPages (hc_rf k 6) x2).bind fun x3 =>
some (x3, x2))
else if p1 = 3 then (
(fn_X5_surveyed k σ).bind fun x4 =>
(fn_X3_pagesThatComeAgain (hc_rf k 6) x4).bind fun x5 =>
some (x5, x4))
else if p1 = 4 then (
(fn_X5_surveyed k σ).bind fun x6 =>
(fn_X3_stuckPlaces (hc_rf k 6) x6).bind fun x7 =>
some (x7, x6))
else if p1 = 5 then (
(fn_X5_surveyed k σ).bind fun x8 =>
some (x8 (hc_rf k 6) 2, x8))
else if p1 = 6 then (
(fn_X5_surveyed k σ).bind fun x9 =>
(fn_X5_surveyed k x9).bind fun x10 =>
(fn_X3_livePagesOf (hc_rf k 6) (x10 (hc_rf k 6) 8) x10).bind fun x11 =>
some (x11, x10))
else if p1 = 7 then (
(fn_X5_surveyed k σ).bind fun x12 =>
(fn_X5_surveyed k x12).bind fun x13 =>
(fn_X3_livePagesOf (hc_rf k 6) (x13 (hc_rf k 6) 9) x13).bind fun x14 =>
some (x14, x13))
else if p1 = 8 then (
(fn_X5_surveyed k σ).bind fun x15 =>
if 0 ≤ (x15 (hc_rf k 6) 10) then (
(fn_X5_surveyed k x15).bind fun x16 =>
some (x16 (hc_rf k 6) 10, x16))
else (
some ((-5), x15)))
else if p1 = 9 then (
if (σ (hc_rf k 0) 10) = (-1) then (
jn_X5_count_181 k p1 0 σ)
else (
jn_X5_count_181 k p1 1 σ))
else if p1 = 10 then (
some (σ (hc_rf k 4) 2, σ))
else if p1 = 11 then (
some (σ (hc_rf k 5) 1, σ))
else (
some ((-2), σ))
set_option maxRecDepth 100000 in
set_option maxHeartbeats 4000000 in
theorem wk_X5_count {Γ : hb_Ctx} {G : hb_Gam} {Q : State → Prop} (X : hb_X Γ cX5_count 2 RX5 ΛC G 7 161) (hr : hb_ret Γ = (some .int)) (k : Nat) (hk : hb_is ΛC k 5) (p1 : Int32) (σ : hb_Mem) {x : (Int32 × hb_Mem)} (h : fn_X5_count k p1 σ = some x) (K : Q = hb_Q Γ ΛC G (some (.int x.1)) x.2) : hb_W Γ ΛC G 2 Q σ [some (.ref (G.2.2.2 k)), some (.int p1)] [] 0 := by
  unfold fn_X5_count at h
  refine ww_iload_n 1 X dX5_count_0 rfl rfl ?_
  by_cases c0 : p1 = 0
  · rw [if_pos c0] at h
    refine ww_tabIn (63) 64 X dX5_count_1 (by rw [c0]; decide) (by rw [c0]; decide) (by rw [c0]; rfl) (by decide) ?_
    refine ww_aload_n 65 X dX5_count_64 rfl rfl ?_
    refine ww_getr (ci := 5) (j := 0) 68 X cf_5 tw_X5_12 (by decide) rfl hk dX5_count_65 rfl ?_
    refine ww_getiN (ci := 2) (j := 0) 71 X cf_2 tw_X5_54 (by decide) rfl (hc_kr_5_0 hk) dX5_count_68 rfl ?_
    obtain rfl := Option.some.inj h
    exact ww_ret_i X hr K dX5_count_71
  rw [if_neg c0] at h
  by_cases c1 : p1 = 1
  · rw [if_pos c1] at h
    refine ww_tabIn (71) 72 X dX5_count_1 (by rw [c1]; decide) (by rw [c1]; decide) (by rw [c1]; rfl) (by decide) ?_
    refine ww_aload_n 73 X dX5_count_72 rfl rfl ?_
    refine ww_getr (ci := 5) (j := 0) 76 X cf_5 tw_X5_12 (by decide) rfl hk dX5_count_73 rfl ?_
    obtain ⟨x1, hx1, h⟩ := hb_bind_of h
    refine ww_callV (ci := 2) (rest := []) (st' := [.int x1]) 79 X (ct_X2_allChoices (hb_l Γ) G (hc_rf k 0) (hc_kr_5_0 hk) σ hx1) cw_X5_244 rfl (by decide) (hc_kr_5_0 hk) rfl ⟨by decide, by decide⟩ (Nat.le_of_ble_eq_true rfl) rfl rfl dX5_count_76 rfl ?_
    obtain rfl := Option.some.inj h
    exact ww_ret_i X hr K dX5_count_79
  rw [if_neg c1] at h
  by_cases c2 : p1 = 2
  · rw [if_pos c2] at h
    refine ww_tabIn (79) 80 X dX5_count_1 (by rw [c2]; decide) (by rw [c2]; decide) (by rw [c2]; rfl) (by decide) ?_
    refine ww_aload_n 81 X dX5_count_80 rfl rfl ?_
    obtain ⟨x2, hx2, h⟩ := hb_bind_of h
    refine ww_callV (ci := 5) (rest := []) (st' := [.ref (G.2.2.2 (hc_rf k 6))]) 84 X (ct_X5_surveyed (hb_l Γ) G k hk σ hx2) cw_X5_199 rfl (by decide) hk rfl ⟨by decide, by decide⟩ (Nat.le_of_ble_eq_true rfl) rfl rfl dX5_count_81 rfl ?_
    obtain ⟨x3, hx3, h⟩ := hb_bind_of h
    refine ww_callV (ci := 3) (rest := []) (st' := [.int x3]) 87 X (ct_X3_deadPages (hb_l Γ) G (hc_rf k 6) (hc_kr_5_6 hk) x2 hx3) cw_X5_247 rfl (by decide) (hc_kr_5_6 hk) rfl ⟨by decide, by decide⟩ (Nat.le_of_ble_eq_true rfl) rfl rfl dX5_count_84 rfl ?_
    obtain rfl := Option.some.inj h
    exact ww_ret_i X hr K dX5_count_87
  rw [if_neg c2] at h
  by_cases c3 : p1 = 3
  · rw [if_pos c3] at h
    refine ww_tabIn (87) 88 X dX5_count_1 (by rw [c3]; decide) (by rw [c3]; decide) (by rw [c3]; rfl) (by decide) ?_
    refine ww_aload_n 89 X dX5_count_88 rfl rfl ?_
    obtain ⟨x4, hx4, h⟩ := hb_bind_of h
    refine ww_callV (ci := 5) (rest := []) (st' := [.ref (G.2.2.2 (hc_rf k 6))]) 92 X (ct_X5_surveyed (hb_l Γ) G k hk σ hx4) cw_X5_199 rfl (by decide) hk rfl ⟨by decide, by decide⟩ (Nat.le_of_ble_eq_true rfl) rfl rfl dX5_count_89 rfl ?_
    obtain ⟨x5, hx5, h⟩ := hb_bind_of h
    refine ww_callV (ci := 3) (rest := []) (st' := [.int x5]) 95 X (ct_X3_pagesThatComeAgain (hb_l Γ) G (hc_rf k 6) (hc_kr_5_6 hk) x4 hx5) cw_X5_250 rfl (by decide) (hc_kr_5_6 hk) rfl ⟨by decide, by decide⟩ (Nat.le_of_ble_eq_true rfl) rfl rfl dX5_count_92 rfl ?_
    obtain rfl := Option.some.inj h
    exact ww_ret_i X hr K dX5_count_95
  rw [if_neg c3] at h
  by_cases c4 : p1 = 4
  · rw [if_pos c4] at h
    refine ww_tabIn (95) 96 X dX5_count_1 (by rw [c4]; decide) (by rw [c4]; decide) (by rw [c4]; rfl) (by decide) ?_
    refine ww_aload_n 97 X dX5_count_96 rfl rfl ?_
    obtain ⟨x6, hx6, h⟩ := hb_bind_of h
    refine ww_callV (ci := 5) (rest := []) (st' := [.ref (G.2.2.2 (hc_rf k 6))]) 100 X (ct_X5_surveyed (hb_l Γ) G k hk σ hx6) cw_X5_199 rfl (by decide) hk rfl ⟨by decide, by decide⟩ (Nat.le_of_ble_eq_true rfl) rfl rfl dX5_count_97 rfl ?_
    obtain ⟨x7, hx7, h⟩ := hb_bind_of h
    refine ww_callV (ci := 3) (rest := []) (st' := [.int x7]) 103 X (ct_X3_stuckPlaces (hb_l Γ) G (hc_rf k 6) (hc_kr_5_6 hk) x6 hx7) cw_X5_253 rfl (by decide) (hc_kr_5_6 hk) rfl ⟨by decide, by decide⟩ (Nat.le_of_ble_eq_true rfl) rfl rfl dX5_count_100 rfl ?_
    obtain rfl := Option.some.inj h
    exact ww_ret_i X hr K dX5_count_103
  rw [if_neg c4] at h
  by_cases c5 : p1 = 5
  · rw [if_pos c5] at h
    refine ww_tabIn (103) 104 X dX5_count_1 (by rw [c5]; decide) (by rw [c5]; decide) (by rw [c5]; rfl) (by decide) ?_
    refine ww_aload_n 105 X dX5_count_104 rfl rfl ?_
    obtain ⟨x8, hx8, h⟩ := hb_bind_of h
    refine ww_callV (ci := 5) (rest := []) (st' := [.ref (G.2.2.2 (hc_rf k 6))]) 108 X (ct_X5_surveyed (hb_l Γ) G k hk σ hx8) cw_X5_199 rfl (by decide) hk rfl ⟨by decide, by decide⟩ (Nat.le_of_ble_eq_true rfl) rfl rfl dX5_count_105 rfl ?_
    refine ww_getiN (ci := 3) (j := 2) 111 X cf_3 tw_X5_256 (by decide) rfl (hc_kr_5_6 hk) dX5_count_108 rfl ?_
    obtain rfl := Option.some.inj h
    exact ww_ret_i X hr K dX5_count_111
  rw [if_neg c5] at h
  by_cases c6 : p1 = 6
  · rw [if_pos c6] at h
    refine ww_tabIn (111) 112 X dX5_count_1 (by rw [c6]; decide) (by rw [c6]; decide) (by rw [c6]; rfl) (by decide) ?_
    refine ww_aload_n 113 X dX5_count_112 rfl rfl ?_
    obtain ⟨x9, hx9, h⟩ := hb_bind_of h
    refine ww_callV (ci := 5) (rest := []) (st' := [.ref (G.2.2.2 (hc_rf k 6))]) 116 X (ct_X5_surveyed (hb_l Γ) G k hk σ hx9) cw_X5_199 rfl (by decide) hk rfl ⟨by decide, by decide⟩ (Nat.le_of_ble_eq_true rfl) rfl rfl dX5_count_113 rfl ?_
    refine ww_aload_n 117 X dX5_count_116 rfl rfl ?_
    obtain ⟨x10, hx10, h⟩ := hb_bind_of h
    refine ww_callV (ci := 5) (rest := [.ref (G.2.2.2 (hc_rf k 6))]) (st' := [.ref (G.2.2.2 (hc_rf k 6)), .ref (G.2.2.2 (hc_rf k 6))]) 120 X (ct_X5_surveyed (hb_l Γ) G k hk x9 hx10) cw_X5_199 rfl (by decide) hk rfl ⟨by decide, by decide⟩ (Nat.le_of_ble_eq_true rfl) rfl rfl dX5_count_117 rfl ?_
    refine ww_getiN (ci := 3) (j := 8) 123 X cf_3 tw_X5_259 (by decide) rfl (hc_kr_5_6 hk) dX5_count_120 rfl ?_
    obtain ⟨x11, hx11, h⟩ := hb_bind_of h
    refine ww_callV (ci := 3) (rest := []) (st' := [.int x11]) 126 X (ct_X3_livePagesOf (hb_l Γ) G (hc_rf k 6) (hc_kr_5_6 hk) (x10 (hc_rf k 6) 8) x10 hx11) cw_X5_262 rfl (by decide) (hc_kr_5_6 hk) rfl ⟨by decide, by decide⟩ (Nat.le_of_ble_eq_true rfl) rfl rfl dX5_count_123 rfl ?_
    obtain rfl := Option.some.inj h
    exact ww_ret_i X hr K dX5_count_126
  rw [if_neg c6] at h
  by_cases c7 : p1 = 7
  · rw [if_pos c7] at h
    refine ww_tabIn (126) 127 X dX5_count_1 (by rw [c7]; decide) (by rw [c7]; decide) (by rw [c7]; rfl) (by decide) ?_
    refine ww_aload_n 128 X dX5_count_127 rfl rfl ?_
    obtain ⟨x12, hx12, h⟩ := hb_bind_of h
    refine ww_callV (ci := 5) (rest := []) (st' := [.ref (G.2.2.2 (hc_rf k 6))]) 131 X (ct_X5_surveyed (hb_l Γ) G k hk σ hx12) cw_X5_199 rfl (by decide) hk rfl ⟨by decide, by decide⟩ (Nat.le_of_ble_eq_true rfl) rfl rfl dX5_count_128 rfl ?_
    refine ww_aload_n 132 X dX5_count_131 rfl rfl ?_
    obtain ⟨x13, hx13, h⟩ := hb_bind_of h
    refine ww_callV (ci := 5) (rest := [.ref (G.2.2.2 (hc_rf k 6))]) (st' := [.ref (G.2.2.2 (hc_rf k 6)), .ref (G.2.2.2 (hc_rf k 6))]) 135 X (ct_X5_surveyed (hb_l Γ) G k hk x12 hx13) cw_X5_199 rfl (by decide) hk rfl ⟨by decide, by decide⟩ (Nat.le_of_ble_eq_true rfl) rfl rfl dX5_count_132 rfl ?_
    refine ww_getiN (ci := 3) (j := 9) 138 X cf_3 tw_X5_265 (by decide) rfl (hc_kr_5_6 hk) dX5_count_135 rfl ?_
    obtain ⟨x14, hx14, h⟩ := hb_bind_of h
    refine ww_callV (ci := 3) (rest := []) (st' := [.int x14]) 141 X (ct_X3_livePagesOf (hb_l Γ) G (hc_rf k 6) (hc_kr_5_6 hk) (x13 (hc_rf k 6) 9) x13 hx14) cw_X5_262 rfl (by decide) (hc_kr_5_6 hk) rfl ⟨by decide, by decide⟩ (Nat.le_of_ble_eq_true rfl) rfl rfl dX5_count_138 rfl ?_
    obtain rfl := Option.some.inj h
    exact ww_ret_i X hr K dX5_count_141
  rw [if_neg c7] at h
  by_cases c8 : p1 = 8
  · rw [if_pos c8] at h
    refine ww_tabIn (141) 142 X dX5_count_1 (by rw [c8]; decide) (by rw [c8]; decide) (by rw [c8]; rfl) (by decide) ?_
    refine ww_aload_n 143 X dX5_count_142 rfl rfl ?_
    obtain ⟨x15, hx15, h⟩ := hb_bind_of h
    refine ww_callV (ci := 5) (rest := []) (st' := [.ref (G.2.2.2 (hc_rf k 6))]) 146 X (ct_X5_surveyed (hb_l Γ) G k hk σ hx15) cw_X5_199 rfl (by decide) hk rfl ⟨by decide, by decide⟩ (Nat.le_of_ble_eq_true rfl) rfl rfl dX5_count_143 rfl ?_
    refine ww_getiN (ci := 3) (j := 10) 149 X cf_3 tw_X5_235 (by decide) rfl (hc_kr_5_6 hk) dX5_count_146 rfl ?_
    refine ww_if_ge 157 152 X dX5_count_149 (by decide) rfl h (fun h => ?_) (fun h => ?_)
    · skip
      refine ww_aload_n 158 X dX5_count_157 rfl rfl ?_
      obtain ⟨x16, hx16, h⟩ := hb_bind_of h
      refine ww_callV (ci := 5) (rest := []) (st' := [.ref (G.2.2.2 (hc_rf k 6))]) 161 X (ct_X5_surveyed (hb_l Γ) G k hk x15 hx16) cw_X5_199 rfl (by decide) hk rfl ⟨by decide, by decide⟩ (Nat.le_of_ble_eq_true rfl) rfl rfl dX5_count_158 rfl ?_
      refine ww_getiN (ci := 3) (j := 10) 164 X cf_3 tw_X5_235 (by decide) rfl (hc_kr_5_6 hk) dX5_count_161 rfl ?_
      obtain rfl := Option.some.inj h
      exact ww_ret_i X hr K dX5_count_164
    · skip
      refine ww_bipush (v := (-5)) 154 X dX5_count_152 rfl (by decide) ?_
      refine ww_goto 164 X dX5_count_154 (by decide) ?_
      obtain rfl := Option.some.inj h
      exact ww_ret_i X hr K dX5_count_164
  rw [if_neg c8] at h
  by_cases c9 : p1 = 9
  · rw [if_pos c9] at h
    refine ww_tabIn (164) 165 X dX5_count_1 (by rw [c9]; decide) (by rw [c9]; decide) (by rw [c9]; rfl) (by decide) ?_
    refine ww_aload_n 166 X dX5_count_165 rfl rfl ?_
    refine ww_getr (ci := 5) (j := 0) 169 X cf_5 tw_X5_12 (by decide) rfl hk dX5_count_166 rfl ?_
    refine ww_getiN (ci := 2) (j := 10) 172 X cf_2 tw_X5_163 (by decide) rfl (hc_kr_5_0 hk) dX5_count_169 rfl ?_
    refine ww_iconst (v := (-1)) 173 X dX5_count_172 rfl (by decide) ?_
    refine ww_icmp_eq 180 176 X dX5_count_173 (by decide) rfl h (fun h => ?_) (fun h => ?_)
    · skip
      refine ww_iconst (v := 0) 181 X dX5_count_180 rfl (by decide) ?_
      refine ww_kill [0, 1] (L' := [none, none]) rfl ?_
      exact jw_X5_count_181 X hr k hk p1 0 σ h K
    · skip
      refine ww_iconst (v := 1) 177 X dX5_count_176 rfl (by decide) ?_
      refine ww_goto 181 X dX5_count_177 (by decide) ?_
      refine ww_kill [0, 1] (L' := [none, none]) rfl ?_
      exact jw_X5_count_181 X hr k hk p1 1 σ h K
  rw [if_neg c9] at h
  by_cases c10 : p1 = 10
  · rw [if_pos c10] at h
    refine ww_tabIn (184) 185 X dX5_count_1 (by rw [c10]; decide) (by rw [c10]; decide) (by rw [c10]; rfl) (by decide) ?_
    refine ww_aload_n 186 X dX5_count_185 rfl rfl ?_
    refine ww_getr (ci := 5) (j := 4) 189 X cf_5 tw_X5_29 (by decide) rfl hk dX5_count_186 rfl ?_
    refine ww_getiN (ci := 0) (j := 2) 192 X cf_0 tw_X5_173 (by decide) rfl (hc_kr_5_4 hk) dX5_count_189 rfl ?_
    obtain rfl := Option.some.inj h
    exact ww_ret_i X hr K dX5_count_192
  rw [if_neg c10] at h
  by_cases c11 : p1 = 11
  · rw [if_pos c11] at h
    refine ww_tabIn (192) 193 X dX5_count_1 (by rw [c11]; decide) (by rw [c11]; decide) (by rw [c11]; rfl) (by decide) ?_
    refine ww_aload_n 194 X dX5_count_193 rfl rfl ?_
    refine ww_getr (ci := 5) (j := 5) 197 X cf_5 tw_X5_36 (by decide) rfl hk dX5_count_194 rfl ?_
    refine ww_getiN (ci := 4) (j := 1) 200 X cf_4 tw_X5_166 (by decide) rfl (hc_kr_5_5 hk) dX5_count_197 rfl ?_
    obtain rfl := Option.some.inj h
    exact ww_ret_i X hr K dX5_count_200
  rw [if_neg c11] at h
  refine ww_tabOut 201 X dX5_count_1 (by have := hb_ne_toInt c0 (c := 0) rfl; have := hb_ne_toInt c1 (c := 1) rfl; have := hb_ne_toInt c2 (c := 2) rfl; have := hb_ne_toInt c3 (c := 3) rfl; have := hb_ne_toInt c4 (c := 4) rfl; have := hb_ne_toInt c5 (c := 5) rfl; have := hb_ne_toInt c6 (c := 6) rfl; have := hb_ne_toInt c7 (c := 7) rfl; have := hb_ne_toInt c8 (c := 8) rfl; have := hb_ne_toInt c9 (c := 9) rfl; have := hb_ne_toInt c10 (c := 10) rfl; have := hb_ne_toInt c11 (c := 11) rfl; omega) (by decide) ?_
  refine ww_bipush (v := (-2)) 203 X dX5_count_201 rfl (by decide) ?_
  obtain rfl := Option.some.inj h
  exact ww_ret_i X hr K dX5_count_203
theorem ct_X5_count (l : Launch) (G : hb_Gam) (k : Nat) (hk : hb_is ΛC k 5) (p1 : Int32) (σ : hb_Mem) {x : (Int32 × hb_Mem)} (h : fn_X5_count k p1 σ = some x) : hb_C l yX5_count cX5_count 2 (some .int) 7 161 ΛC G [.ref (G.2.2.2 k), .int p1] σ (some (.int x.1)) x.2 :=
  hb_C.of [some (.ref (G.2.2.2 k)), some (.int p1)] (by decide +kernel) (Nat.le_of_ble_eq_true rfl) (by intro v hv; simp only [List.mem_cons, List.not_mem_nil, or_false] at hv; rcases hv with rfl | rfl <;> rfl) rfl (hb_pad [.ref (G.2.2.2 k), .int p1] 0) (fun Γ X hr => wk_X5_count X hr k hk p1 σ h rfl)
def fn_X6_in (p0 : Int32) (p1 : Int32) (p2 : Int32) : Option Int32 :=
if p0 < p1 then (
some 0)
else (
if p2 < p0 then (
some 0)
else (
some 1))
set_option maxRecDepth 100000 in
set_option maxHeartbeats 4000000 in
theorem wk_X6_in {Γ : hb_Ctx} {G : hb_Gam} {Q : State → Prop} (X : hb_X Γ cX6_in 3 RX6 ΛM G 0 0) (hr : hb_ret Γ = (some .boolean)) (p0 : Int32) (p1 : Int32) (p2 : Int32) (σ : hb_Mem) {x : Int32} (h : fn_X6_in p0 p1 p2 = some x) (K : Q = hb_Q Γ ΛM G (some (.int x)) σ) : hb_W Γ ΛM G 3 Q σ [some (.int p0), some (.int p1), some (.int p2)] [] 0 := by
  unfold fn_X6_in at h
  refine ww_iload_n 1 X dX6_in_0 rfl rfl ?_
  refine ww_iload_n 2 X dX6_in_1 rfl rfl ?_
  refine ww_icmp_lt 14 5 X dX6_in_2 (by decide) rfl h (fun h => ?_) (fun h => ?_)
  · skip
    refine ww_iconst (v := 0) 15 X dX6_in_14 rfl (by decide) ?_
    obtain rfl := Option.some.inj h
    exact ww_ret_z X hr (by decide) K dX6_in_15
  · skip
    refine ww_iload_n 6 X dX6_in_5 rfl rfl ?_
    refine ww_iload_n 7 X dX6_in_6 rfl rfl ?_
    refine ww_icmp_gt 14 10 X dX6_in_7 (by decide) rfl h (fun h => ?_) (fun h => ?_)
    · skip
      refine ww_iconst (v := 0) 15 X dX6_in_14 rfl (by decide) ?_
      obtain rfl := Option.some.inj h
      exact ww_ret_z X hr (by decide) K dX6_in_15
    · skip
      refine ww_iconst (v := 1) 11 X dX6_in_10 rfl (by decide) ?_
      refine ww_goto 15 X dX6_in_11 (by decide) ?_
      obtain rfl := Option.some.inj h
      exact ww_ret_z X hr (by decide) K dX6_in_15
theorem ct_X6_in (l : Launch) (G : hb_Gam) (p0 : Int32) (p1 : Int32) (p2 : Int32) (σ : hb_Mem) {x : Int32} (h : fn_X6_in p0 p1 p2 = some x) : hb_C l yX6_in cX6_in 3 (some .boolean) 0 0 ΛM G [.int p0, .int p1, .int p2] σ (some (.int x)) σ :=
  hb_C.of [some (.int p0), some (.int p1), some (.int p2)] (by decide +kernel) (Nat.le_of_ble_eq_true rfl) (by intro v hv; simp only [List.mem_cons, List.not_mem_nil, or_false] at hv; rcases hv with rfl | rfl | rfl <;> rfl) rfl (hb_pad [.int p0, .int p1, .int p2] 0) (fun Γ X hr => wk_X6_in X hr p0 p1 p2 σ h rfl)
def lb_X6_records_51 (k : Nat) (w1 : Int32) (σ : hb_Mem) : Option ((Int32 × hb_Mem) ⊕ hb_Mem) :=
if 425 ≤ w1 then (
some (.inr σ))
else (
(hb_ld ΛM σ (hm_rf k 0) w1).bind fun v1 =>
(hb_st ΛM σ (hm_rf k 3) (((425 : Int32) * (σ k 4)) + w1) v1).bind fun σ2 =>
hb_nm (w1 + 1) fun v3 =>
some (.inl (v3, σ2)))
set_option maxRecDepth 100000 in
set_option maxHeartbeats 4000000 in
theorem lk_X6_records_51 {Γ : hb_Ctx} {G : hb_Gam} {Q : State → Prop} (X : hb_X Γ cX6_records 2 RX6 ΛM G 0 0)  (k : Nat) (hk : hb_is ΛM k 6) (w1 : Int32) (σ : hb_Mem) {x : ((Int32 × hb_Mem) ⊕ hb_Mem)} (h : lb_X6_records_51 k w1 σ = some x) (K : Sum.elim (fun s : (Int32 × hb_Mem) => hb_W Γ ΛM G 2 Q s.2 [some (.ref (G.2.2.2 k)), some (.int s.1)] [] 51) (fun t : hb_Mem => hb_W Γ ΛM G 2 Q t [some (.ref (G.2.2.2 k)), none] [] 85) x) : hb_W Γ ΛM G 2 Q σ [some (.ref (G.2.2.2 k)), some (.int w1)] [] 51 := by
  unfold lb_X6_records_51 at h
  refine ww_iload_n 52 X dX6_records_51 rfl rfl ?_
  refine ww_sipush (v := 425) 55 X dX6_records_52 rfl (by decide) ?_
  refine ww_icmp_ge 85 58 X dX6_records_55 (by decide) rfl h (fun h => ?_) (fun h => ?_)
  · skip
    obtain rfl := Option.some.inj h
    refine ww_kill [1] (L' := [some (.ref (G.2.2.2 k)), none]) rfl ?_
    exact K
  · skip
    refine ww_aload_n 59 X dX6_records_58 rfl rfl ?_
    refine ww_getr (ci := 6) (j := 3) 62 X cf_6 tw_X6_16 (by decide) rfl hk dX6_records_59 rfl ?_
    refine ww_sipush (v := 425) 65 X dX6_records_62 rfl (by decide) ?_
    refine ww_aload_n 66 X dX6_records_65 rfl rfl ?_
    refine ww_geti (ci := 6) (j := 4) 69 X cf_6 tw_X6_46 (by decide) rfl hk dX6_records_66 rfl ?_
    refine ww_imul 70 X dX6_records_69 rfl ?_
    refine ww_iload_n 71 X dX6_records_70 rfl rfl ?_
    refine ww_iadd 72 X dX6_records_71 rfl ?_
    refine ww_aload_n 73 X dX6_records_72 rfl rfl ?_
    refine ww_getr (ci := 6) (j := 0) 76 X cf_6 tw_X6_7 (by decide) rfl hk dX6_records_73 rfl ?_
    refine ww_iload_n 77 X dX6_records_76 rfl rfl ?_
    obtain ⟨v1, hv1, h⟩ := hb_bind_of h
    refine ww_iald 78 X (hm_kr_6_0 hk) hv1 dX6_records_77 rfl ?_
    obtain ⟨σ2, hσ2, h⟩ := hb_bind_of h
    refine ww_iast 79 X (hm_kr_6_3 hk) hσ2 dX6_records_78 rfl ?_
    obtain ⟨v3, ev3, h⟩ := hb_nm_of h
    refine ww_iinc 82 X (L' := [some (.ref (G.2.2.2 k)), some (.int v3)]) dX6_records_79 rfl rfl ev3.symm rfl ?_
    refine ww_goto 51 X dX6_records_82 (by decide) ?_
    obtain rfl := Option.some.inj h
    exact K
def ll_X6_records_51 (k : Nat) : (Int32 × hb_Mem) → Option hb_Mem := hb_lp (fun s => lb_X6_records_51 k s.1 s.2) hb_F
theorem lw_X6_records_51 {Γ : hb_Ctx} {G : hb_Gam} {Q : State → Prop} (X : hb_X Γ cX6_records 2 RX6 ΛM G 0 0)  (k : Nat) (hk : hb_is ΛM k 6) (s : (Int32 × hb_Mem)) (t : hb_Mem) (h : ll_X6_records_51 k s = some t) (K : (fun t : hb_Mem => hb_W Γ ΛM G 2 Q t [some (.ref (G.2.2.2 k)), none] [] 85) t) : hb_W Γ ΛM G 2 Q s.2 [some (.ref (G.2.2.2 k)), some (.int s.1)] [] 51 :=
  hb_lp_w (P := fun s : (Int32 × hb_Mem) => hb_W Γ ΛM G 2 Q s.2 [some (.ref (G.2.2.2 k)), some (.int s.1)] [] 51) (E := (fun t : hb_Mem => hb_W Γ ΛM G 2 Q t [some (.ref (G.2.2.2 k)), none] [] 85)) (fun s x hx K => lk_X6_records_51 X k hk s.1 s.2 hx K) _ s t h K
def jn_X6_records_49 (k : Nat) (σ : hb_Mem) : Option hb_Mem :=
(ll_X6_records_51 k (0, σ)).bind fun t4 =>
hb_nm (hb_up t4 k 4 ((t4 k 4) + 1)) fun σ5 =>
some σ5
set_option maxRecDepth 100000 in
set_option maxHeartbeats 4000000 in
theorem jw_X6_records_49 {Γ : hb_Ctx} {G : hb_Gam} {Q : State → Prop} (X : hb_X Γ cX6_records 2 RX6 ΛM G 0 0) (hr : hb_ret Γ = none) (k : Nat) (hk : hb_is ΛM k 6) (σ : hb_Mem) {x : hb_Mem} (h : jn_X6_records_49 k σ = some x) (K : Q = hb_Q Γ ΛM G none x) : hb_W Γ ΛM G 2 Q σ [some (.ref (G.2.2.2 k)), none] [] 49 := by
  unfold jn_X6_records_49 at h
  refine ww_iconst (v := 0) 50 X dX6_records_49 rfl (by decide) ?_
  refine ww_istore_n 51 X (L' := [some (.ref (G.2.2.2 k)), some (.int 0)]) dX6_records_50 rfl (Nat.le_of_ble_eq_true rfl) rfl ?_
  obtain ⟨t4, ht4, h⟩ := hb_bind_of h
  refine lw_X6_records_51 X k hk (0, σ) t4 ht4 ?_
  refine ww_aload_n 86 X dX6_records_85 rfl rfl ?_
  refine ww_dup 87 X dX6_records_86 rfl rfl ?_
  refine ww_geti (ci := 6) (j := 4) 90 X cf_6 tw_X6_46 (by decide) rfl hk dX6_records_87 rfl ?_
  refine ww_iconst (v := 1) 91 X dX6_records_90 rfl (by decide) ?_
  refine ww_iadd 92 X dX6_records_91 rfl ?_
  obtain ⟨σ5, eσ5, h⟩ := hb_nm_of h
  refine ww_put (ci := 6) (j := 4) (ty := .int) 95 X cf_6 cg_6 tw_X6_46 (by decide) rfl rfl rfl rfl rfl hk eσ5.symm dX6_records_92 rfl ?_
  obtain rfl := Option.some.inj h
  exact ww_ret_v X hr K dX6_records_95
def lb_X6_records_10 (k : Nat) (w1 : Int32) (σ : hb_Mem) : Option ((Int32 × hb_Mem) ⊕ hb_Mem) :=
if 1275 ≤ w1 then (
some (.inr σ))
else (
(hb_ld ΛM σ (hm_rf k 3) (w1 + 425)).bind fun v6 =>
(hb_st ΛM σ (hm_rf k 3) w1 v6).bind fun σ7 =>
hb_nm (w1 + 1) fun v8 =>
some (.inl (v8, σ7)))
set_option maxRecDepth 100000 in
set_option maxHeartbeats 4000000 in
theorem lk_X6_records_10 {Γ : hb_Ctx} {G : hb_Gam} {Q : State → Prop} (X : hb_X Γ cX6_records 2 RX6 ΛM G 0 0)  (k : Nat) (hk : hb_is ΛM k 6) (w1 : Int32) (σ : hb_Mem) {x : ((Int32 × hb_Mem) ⊕ hb_Mem)} (h : lb_X6_records_10 k w1 σ = some x) (K : Sum.elim (fun s : (Int32 × hb_Mem) => hb_W Γ ΛM G 2 Q s.2 [some (.ref (G.2.2.2 k)), some (.int s.1)] [] 10) (fun t : hb_Mem => hb_W Γ ΛM G 2 Q t [some (.ref (G.2.2.2 k)), none] [] 39) x) : hb_W Γ ΛM G 2 Q σ [some (.ref (G.2.2.2 k)), some (.int w1)] [] 10 := by
  unfold lb_X6_records_10 at h
  refine ww_iload_n 11 X dX6_records_10 rfl rfl ?_
  refine ww_sipush (v := 1275) 14 X dX6_records_11 rfl (by decide) ?_
  refine ww_icmp_ge 39 17 X dX6_records_14 (by decide) rfl h (fun h => ?_) (fun h => ?_)
  · skip
    obtain rfl := Option.some.inj h
    refine ww_kill [1] (L' := [some (.ref (G.2.2.2 k)), none]) rfl ?_
    exact K
  · skip
    refine ww_aload_n 18 X dX6_records_17 rfl rfl ?_
    refine ww_getr (ci := 6) (j := 3) 21 X cf_6 tw_X6_16 (by decide) rfl hk dX6_records_18 rfl ?_
    refine ww_iload_n 22 X dX6_records_21 rfl rfl ?_
    refine ww_aload_n 23 X dX6_records_22 rfl rfl ?_
    refine ww_getr (ci := 6) (j := 3) 26 X cf_6 tw_X6_16 (by decide) rfl hk dX6_records_23 rfl ?_
    refine ww_iload_n 27 X dX6_records_26 rfl rfl ?_
    refine ww_sipush (v := 425) 30 X dX6_records_27 rfl (by decide) ?_
    refine ww_iadd 31 X dX6_records_30 rfl ?_
    obtain ⟨v6, hv6, h⟩ := hb_bind_of h
    refine ww_iald 32 X (hm_kr_6_3 hk) hv6 dX6_records_31 rfl ?_
    obtain ⟨σ7, hσ7, h⟩ := hb_bind_of h
    refine ww_iast 33 X (hm_kr_6_3 hk) hσ7 dX6_records_32 rfl ?_
    obtain ⟨v8, ev8, h⟩ := hb_nm_of h
    refine ww_iinc 36 X (L' := [some (.ref (G.2.2.2 k)), some (.int v8)]) dX6_records_33 rfl rfl ev8.symm rfl ?_
    refine ww_goto 10 X dX6_records_36 (by decide) ?_
    obtain rfl := Option.some.inj h
    exact K
def ll_X6_records_10 (k : Nat) : (Int32 × hb_Mem) → Option hb_Mem := hb_lp (fun s => lb_X6_records_10 k s.1 s.2) hb_F
theorem lw_X6_records_10 {Γ : hb_Ctx} {G : hb_Gam} {Q : State → Prop} (X : hb_X Γ cX6_records 2 RX6 ΛM G 0 0)  (k : Nat) (hk : hb_is ΛM k 6) (s : (Int32 × hb_Mem)) (t : hb_Mem) (h : ll_X6_records_10 k s = some t) (K : (fun t : hb_Mem => hb_W Γ ΛM G 2 Q t [some (.ref (G.2.2.2 k)), none] [] 39) t) : hb_W Γ ΛM G 2 Q s.2 [some (.ref (G.2.2.2 k)), some (.int s.1)] [] 10 :=
  hb_lp_w (P := fun s : (Int32 × hb_Mem) => hb_W Γ ΛM G 2 Q s.2 [some (.ref (G.2.2.2 k)), some (.int s.1)] [] 10) (E := (fun t : hb_Mem => hb_W Γ ΛM G 2 Q t [some (.ref (G.2.2.2 k)), none] [] 39)) (fun s x hx K => lk_X6_records_10 X k hk s.1 s.2 hx K) _ s t h K
def fn_X6_records (k : Nat) (σ : hb_Mem) : Option hb_Mem :=
if (σ k 4) = 4 then (
(ll_X6_records_10 k (0, σ)).bind fun t9 =>
hb_nm (hb_up t9 k 4 ((t9 k 4) - 1)) fun σ10 =>
jn_X6_records_49 k σ10)
else (
jn_X6_records_49 k σ)
set_option maxRecDepth 100000 in
set_option maxHeartbeats 4000000 in
theorem wk_X6_records {Γ : hb_Ctx} {G : hb_Gam} {Q : State → Prop} (X : hb_X Γ cX6_records 2 RX6 ΛM G 0 0) (hr : hb_ret Γ = none) (k : Nat) (hk : hb_is ΛM k 6) (σ : hb_Mem) {x : hb_Mem} (h : fn_X6_records k σ = some x) (K : Q = hb_Q Γ ΛM G none x) : hb_W Γ ΛM G 2 Q σ [some (.ref (G.2.2.2 k)), none] [] 0 := by
  unfold fn_X6_records at h
  refine ww_aload_n 1 X dX6_records_0 rfl rfl ?_
  refine ww_geti (ci := 6) (j := 4) 4 X cf_6 tw_X6_46 (by decide) rfl hk dX6_records_1 rfl ?_
  refine ww_iconst (v := 4) 5 X dX6_records_4 rfl (by decide) ?_
  refine ww_icmp_ne 49 8 X dX6_records_5 (by decide) rfl h (fun h => ?_) (fun h => ?_)
  · skip
    refine ww_iconst (v := 0) 9 X dX6_records_8 rfl (by decide) ?_
    refine ww_istore_n 10 X (L' := [some (.ref (G.2.2.2 k)), some (.int 0)]) dX6_records_9 rfl (Nat.le_of_ble_eq_true rfl) rfl ?_
    obtain ⟨t9, ht9, h⟩ := hb_bind_of h
    refine lw_X6_records_10 X k hk (0, σ) t9 ht9 ?_
    refine ww_aload_n 40 X dX6_records_39 rfl rfl ?_
    refine ww_dup 41 X dX6_records_40 rfl rfl ?_
    refine ww_geti (ci := 6) (j := 4) 44 X cf_6 tw_X6_46 (by decide) rfl hk dX6_records_41 rfl ?_
    refine ww_iconst (v := 1) 45 X dX6_records_44 rfl (by decide) ?_
    refine ww_isub 46 X dX6_records_45 rfl ?_
    obtain ⟨σ10, eσ10, h⟩ := hb_nm_of h
    refine ww_put (ci := 6) (j := 4) (ty := .int) 49 X cf_6 cg_6 tw_X6_46 (by decide) rfl rfl rfl rfl rfl hk eσ10.symm dX6_records_46 rfl ?_
    exact jw_X6_records_49 X hr k hk σ10 h K
  · skip
    exact jw_X6_records_49 X hr k hk σ h K
theorem ct_X6_records (l : Launch) (G : hb_Gam) (k : Nat) (hk : hb_is ΛM k 6) (σ : hb_Mem) {x : hb_Mem} (h : fn_X6_records k σ = some x) : hb_C l yX6_records cX6_records 2 none 0 0 ΛM G [.ref (G.2.2.2 k)] σ none x :=
  hb_C.of [some (.ref (G.2.2.2 k)), none] (by decide +kernel) (Nat.le_of_ble_eq_true rfl) (by intro v hv; simp only [List.mem_cons, List.not_mem_nil, or_false] at hv; subst hv; rfl) rfl (hb_pad [.ref (G.2.2.2 k)] 1) (fun Γ X hr => wk_X6_records X hr k hk σ h rfl)
def fn_X6_isPage (k : Nat) (p1 : Int32) (σ : hb_Mem) : Option Int32 :=
(hb_ld ΛM σ (hm_rf k 0) 0).bind fun v1 =>
(fn_X6_in p1 0 (v1 - 1)).bind fun x2 =>
(hb_bz x2).bind fun z3 =>
some x2
set_option maxRecDepth 100000 in
set_option maxHeartbeats 4000000 in
theorem wk_X6_isPage {Γ : hb_Ctx} {G : hb_Gam} {Q : State → Prop} (X : hb_X Γ cX6_isPage 2 RX6 ΛM G 1 22) (hr : hb_ret Γ = (some .boolean)) (k : Nat) (hk : hb_is ΛM k 6) (p1 : Int32) (σ : hb_Mem) {x : Int32} (h : fn_X6_isPage k p1 σ = some x) (K : Q = hb_Q Γ ΛM G (some (.int x)) σ) : hb_W Γ ΛM G 2 Q σ [some (.ref (G.2.2.2 k)), some (.int p1)] [] 0 := by
  unfold fn_X6_isPage at h
  refine ww_iload_n 1 X dX6_isPage_0 rfl rfl ?_
  refine ww_iconst (v := 0) 2 X dX6_isPage_1 rfl (by decide) ?_
  refine ww_aload_n 3 X dX6_isPage_2 rfl rfl ?_
  refine ww_getr (ci := 6) (j := 0) 6 X cf_6 tw_X6_7 (by decide) rfl hk dX6_isPage_3 rfl ?_
  refine ww_iconst (v := 0) 7 X dX6_isPage_6 rfl (by decide) ?_
  obtain ⟨v1, hv1, h⟩ := hb_bind_of h
  refine ww_iald 8 X (hm_kr_6_0 hk) hv1 dX6_isPage_7 rfl ?_
  refine ww_iconst (v := 1) 9 X dX6_isPage_8 rfl (by decide) ?_
  refine ww_isub 10 X dX6_isPage_9 rfl ?_
  obtain ⟨x2, hx2, h⟩ := hb_bind_of h
  refine ww_callS (rest := []) (st' := [.int x2]) 13 X (ct_X6_in (hb_l Γ) G p1 0 (v1 - 1) σ hx2) cw_X6_50 rfl ⟨by decide, by decide⟩ (Nat.le_of_ble_eq_true rfl) rfl rfl dX6_isPage_10 rfl ?_
  obtain ⟨z3, hz3, h⟩ := hb_bind_of h
  replace hz3 := (hb_bz_of hz3).1
  obtain rfl := Option.some.inj h
  exact ww_ret_z X hr hz3 K dX6_isPage_13
theorem ct_X6_isPage (l : Launch) (G : hb_Gam) (k : Nat) (hk : hb_is ΛM k 6) (p1 : Int32) (σ : hb_Mem) {x : Int32} (h : fn_X6_isPage k p1 σ = some x) : hb_C l yX6_isPage cX6_isPage 2 (some .boolean) 1 22 ΛM G [.ref (G.2.2.2 k), .int p1] σ (some (.int x)) σ :=
  hb_C.of [some (.ref (G.2.2.2 k)), some (.int p1)] (by decide +kernel) (Nat.le_of_ble_eq_true rfl) (by intro v hv; simp only [List.mem_cons, List.not_mem_nil, or_false] at hv; rcases hv with rfl | rfl <;> rfl) rfl (hb_pad [.ref (G.2.2.2 k), .int p1] 0) (fun Γ X hr => wk_X6_isPage X hr k hk p1 σ h rfl)
def fn_X6_isChoice (k : Nat) (p1 : Int32) (p2 : Int32) (σ : hb_Mem) : Option Int32 :=
(fn_X6_isPage k p1 σ).bind fun x1 =>
if x1 = 0 then (
some 0)
else (
(hb_ld ΛM σ (hm_rf k 0) (((1 : Int32) + ((13 : Int32) * p1)) + 3)).bind fun v2 =>
(fn_X6_in p2 0 (v2 - 1)).bind fun x3 =>
if x3 = 0 then (
some 0)
else (
some 1))
set_option maxRecDepth 100000 in
set_option maxHeartbeats 4000000 in
theorem wk_X6_isChoice {Γ : hb_Ctx} {G : hb_Gam} {Q : State → Prop} (X : hb_X Γ cX6_isChoice 3 RX6 ΛM G 2 43) (hr : hb_ret Γ = (some .boolean)) (k : Nat) (hk : hb_is ΛM k 6) (p1 : Int32) (p2 : Int32) (σ : hb_Mem) {x : Int32} (h : fn_X6_isChoice k p1 p2 σ = some x) (K : Q = hb_Q Γ ΛM G (some (.int x)) σ) : hb_W Γ ΛM G 3 Q σ [some (.ref (G.2.2.2 k)), some (.int p1), some (.int p2)] [] 0 := by
  unfold fn_X6_isChoice at h
  refine ww_aload_n 1 X dX6_isChoice_0 rfl rfl ?_
  refine ww_iload_n 2 X dX6_isChoice_1 rfl rfl ?_
  obtain ⟨x1, hx1, h⟩ := hb_bind_of h
  refine ww_callV (ci := 6) (rest := []) (st' := [.int x1]) 5 X (ct_X6_isPage (hb_l Γ) G k hk p1 σ hx1) cw_X6_54 rfl (by decide) hk rfl ⟨by decide, by decide⟩ (Nat.le_of_ble_eq_true rfl) rfl rfl dX6_isChoice_2 rfl ?_
  refine ww_if_eq 35 8 X dX6_isChoice_5 (by decide) rfl h (fun h => ?_) (fun h => ?_)
  · skip
    refine ww_iconst (v := 0) 36 X dX6_isChoice_35 rfl (by decide) ?_
    obtain rfl := Option.some.inj h
    exact ww_ret_z X hr (by decide) K dX6_isChoice_36
  · skip
    refine ww_iload_n 9 X dX6_isChoice_8 rfl rfl ?_
    refine ww_iconst (v := 0) 10 X dX6_isChoice_9 rfl (by decide) ?_
    refine ww_aload_n 11 X dX6_isChoice_10 rfl rfl ?_
    refine ww_getr (ci := 6) (j := 0) 14 X cf_6 tw_X6_7 (by decide) rfl hk dX6_isChoice_11 rfl ?_
    refine ww_iconst (v := 1) 15 X dX6_isChoice_14 rfl (by decide) ?_
    refine ww_bipush (v := 13) 17 X dX6_isChoice_15 rfl (by decide) ?_
    refine ww_iload_n 18 X dX6_isChoice_17 rfl rfl ?_
    refine ww_imul 19 X dX6_isChoice_18 rfl ?_
    refine ww_iadd 20 X dX6_isChoice_19 rfl ?_
    refine ww_iconst (v := 3) 21 X dX6_isChoice_20 rfl (by decide) ?_
    refine ww_iadd 22 X dX6_isChoice_21 rfl ?_
    obtain ⟨v2, hv2, h⟩ := hb_bind_of h
    refine ww_iald 23 X (hm_kr_6_0 hk) hv2 dX6_isChoice_22 rfl ?_
    refine ww_iconst (v := 1) 24 X dX6_isChoice_23 rfl (by decide) ?_
    refine ww_isub 25 X dX6_isChoice_24 rfl ?_
    obtain ⟨x3, hx3, h⟩ := hb_bind_of h
    refine ww_callS (rest := []) (st' := [.int x3]) 28 X (ct_X6_in (hb_l Γ) G p2 0 (v2 - 1) σ hx3) cw_X6_50 rfl ⟨by decide, by decide⟩ (Nat.le_of_ble_eq_true rfl) rfl rfl dX6_isChoice_25 rfl ?_
    refine ww_if_eq 35 31 X dX6_isChoice_28 (by decide) rfl h (fun h => ?_) (fun h => ?_)
    · skip
      refine ww_iconst (v := 0) 36 X dX6_isChoice_35 rfl (by decide) ?_
      obtain rfl := Option.some.inj h
      exact ww_ret_z X hr (by decide) K dX6_isChoice_36
    · skip
      refine ww_iconst (v := 1) 32 X dX6_isChoice_31 rfl (by decide) ?_
      refine ww_goto 36 X dX6_isChoice_32 (by decide) ?_
      obtain rfl := Option.some.inj h
      exact ww_ret_z X hr (by decide) K dX6_isChoice_36
theorem ct_X6_isChoice (l : Launch) (G : hb_Gam) (k : Nat) (hk : hb_is ΛM k 6) (p1 : Int32) (p2 : Int32) (σ : hb_Mem) {x : Int32} (h : fn_X6_isChoice k p1 p2 σ = some x) : hb_C l yX6_isChoice cX6_isChoice 3 (some .boolean) 2 43 ΛM G [.ref (G.2.2.2 k), .int p1, .int p2] σ (some (.int x)) σ :=
  hb_C.of [some (.ref (G.2.2.2 k)), some (.int p1), some (.int p2)] (by decide +kernel) (Nat.le_of_ble_eq_true rfl) (by intro v hv; simp only [List.mem_cons, List.not_mem_nil, or_false] at hv; rcases hv with rfl | rfl | rfl <;> rfl) rfl (hb_pad [.ref (G.2.2.2 k), .int p1, .int p2] 0) (fun Γ X hr => wk_X6_isChoice X hr k hk p1 p2 σ h rfl)
def fn_X6_of (k : Nat) (p1 : Int32) (p2 : Int32) (σ : hb_Mem) : Option Int32 :=
(hb_ld ΛM σ (hm_rf k 0) (((1 : Int32) + ((13 : Int32) * p1)) + p2)).bind fun v1 =>
some v1
set_option maxRecDepth 100000 in
set_option maxHeartbeats 4000000 in
theorem wk_X6_of {Γ : hb_Ctx} {G : hb_Gam} {Q : State → Prop} (X : hb_X Γ cX6_of 3 RX6 ΛM G 0 0) (hr : hb_ret Γ = (some .int)) (k : Nat) (hk : hb_is ΛM k 6) (p1 : Int32) (p2 : Int32) (σ : hb_Mem) {x : Int32} (h : fn_X6_of k p1 p2 σ = some x) (K : Q = hb_Q Γ ΛM G (some (.int x)) σ) : hb_W Γ ΛM G 3 Q σ [some (.ref (G.2.2.2 k)), some (.int p1), some (.int p2)] [] 0 := by
  unfold fn_X6_of at h
  refine ww_aload_n 1 X dX6_of_0 rfl rfl ?_
  refine ww_getr (ci := 6) (j := 0) 4 X cf_6 tw_X6_7 (by decide) rfl hk dX6_of_1 rfl ?_
  refine ww_iconst (v := 1) 5 X dX6_of_4 rfl (by decide) ?_
  refine ww_bipush (v := 13) 7 X dX6_of_5 rfl (by decide) ?_
  refine ww_iload_n 8 X dX6_of_7 rfl rfl ?_
  refine ww_imul 9 X dX6_of_8 rfl ?_
  refine ww_iadd 10 X dX6_of_9 rfl ?_
  refine ww_iload_n 11 X dX6_of_10 rfl rfl ?_
  refine ww_iadd 12 X dX6_of_11 rfl ?_
  obtain ⟨v1, hv1, h⟩ := hb_bind_of h
  refine ww_iald 13 X (hm_kr_6_0 hk) hv1 dX6_of_12 rfl ?_
  obtain rfl := Option.some.inj h
  exact ww_ret_i X hr K dX6_of_13
theorem ct_X6_of (l : Launch) (G : hb_Gam) (k : Nat) (hk : hb_is ΛM k 6) (p1 : Int32) (p2 : Int32) (σ : hb_Mem) {x : Int32} (h : fn_X6_of k p1 p2 σ = some x) : hb_C l yX6_of cX6_of 3 (some .int) 0 0 ΛM G [.ref (G.2.2.2 k), .int p1, .int p2] σ (some (.int x)) σ :=
  hb_C.of [some (.ref (G.2.2.2 k)), some (.int p1), some (.int p2)] (by decide +kernel) (Nat.le_of_ble_eq_true rfl) (by intro v hv; simp only [List.mem_cons, List.not_mem_nil, or_false] at hv; rcases hv with rfl | rfl | rfl <;> rfl) rfl (hb_pad [.ref (G.2.2.2 k), .int p1, .int p2] 0) (fun Γ X hr => wk_X6_of X hr k hk p1 p2 σ h rfl)
def fn_X6_ofChoice (k : Nat) (p1 : Int32) (p2 : Int32) (p3 : Int32) (σ : hb_Mem) : Option Int32 :=
(hb_ld ΛM σ (hm_rf k 0) (((((1 : Int32) + ((13 : Int32) * p1)) + 4) + ((3 : Int32) * p2)) + p3)).bind fun v1 =>
some v1
set_option maxRecDepth 100000 in
set_option maxHeartbeats 4000000 in
theorem wk_X6_ofChoice {Γ : hb_Ctx} {G : hb_Gam} {Q : State → Prop} (X : hb_X Γ cX6_ofChoice 4 RX6 ΛM G 0 0) (hr : hb_ret Γ = (some .int)) (k : Nat) (hk : hb_is ΛM k 6) (p1 : Int32) (p2 : Int32) (p3 : Int32) (σ : hb_Mem) {x : Int32} (h : fn_X6_ofChoice k p1 p2 p3 σ = some x) (K : Q = hb_Q Γ ΛM G (some (.int x)) σ) : hb_W Γ ΛM G 4 Q σ [some (.ref (G.2.2.2 k)), some (.int p1), some (.int p2), some (.int p3)] [] 0 := by
  unfold fn_X6_ofChoice at h
  refine ww_aload_n 1 X dX6_ofChoice_0 rfl rfl ?_
  refine ww_getr (ci := 6) (j := 0) 4 X cf_6 tw_X6_7 (by decide) rfl hk dX6_ofChoice_1 rfl ?_
  refine ww_iconst (v := 1) 5 X dX6_ofChoice_4 rfl (by decide) ?_
  refine ww_bipush (v := 13) 7 X dX6_ofChoice_5 rfl (by decide) ?_
  refine ww_iload_n 8 X dX6_ofChoice_7 rfl rfl ?_
  refine ww_imul 9 X dX6_ofChoice_8 rfl ?_
  refine ww_iadd 10 X dX6_ofChoice_9 rfl ?_
  refine ww_iconst (v := 4) 11 X dX6_ofChoice_10 rfl (by decide) ?_
  refine ww_iadd 12 X dX6_ofChoice_11 rfl ?_
  refine ww_iconst (v := 3) 13 X dX6_ofChoice_12 rfl (by decide) ?_
  refine ww_iload_n 14 X dX6_ofChoice_13 rfl rfl ?_
  refine ww_imul 15 X dX6_ofChoice_14 rfl ?_
  refine ww_iadd 16 X dX6_ofChoice_15 rfl ?_
  refine ww_iload_n 17 X dX6_ofChoice_16 rfl rfl ?_
  refine ww_iadd 18 X dX6_ofChoice_17 rfl ?_
  obtain ⟨v1, hv1, h⟩ := hb_bind_of h
  refine ww_iald 19 X (hm_kr_6_0 hk) hv1 dX6_ofChoice_18 rfl ?_
  obtain rfl := Option.some.inj h
  exact ww_ret_i X hr K dX6_ofChoice_19
theorem ct_X6_ofChoice (l : Launch) (G : hb_Gam) (k : Nat) (hk : hb_is ΛM k 6) (p1 : Int32) (p2 : Int32) (p3 : Int32) (σ : hb_Mem) {x : Int32} (h : fn_X6_ofChoice k p1 p2 p3 σ = some x) : hb_C l yX6_ofChoice cX6_ofChoice 4 (some .int) 0 0 ΛM G [.ref (G.2.2.2 k), .int p1, .int p2, .int p3] σ (some (.int x)) σ :=
  hb_C.of [some (.ref (G.2.2.2 k)), some (.int p1), some (.int p2), some (.int p3)] (by decide +kernel) (Nat.le_of_ble_eq_true rfl) (by intro v hv; simp only [List.mem_cons, List.not_mem_nil, or_false] at hv; rcases hv with rfl | rfl | rfl | rfl <;> rfl) rfl (hb_pad [.ref (G.2.2.2 k), .int p1, .int p2, .int p3] 0) (fun Γ X hr => wk_X6_ofChoice X hr k hk p1 p2 p3 σ h rfl)
def fn_X6_canTake (k : Nat) (p1 : Int32) (p2 : Int32) (p3 : Int32) (σ : hb_Mem) : Option Int32 :=
(fn_X6_ofChoice k p1 p2 1 σ).bind fun x1 =>
if (x1 &&& (p3 ^^^ (-1))) = 0 then (
(fn_X6_ofChoice k p1 p2 2 σ).bind fun x2 =>
if (x2 &&& p3) = 0 then (
some 1)
else (
some 0))
else (
some 0)
set_option maxRecDepth 100000 in
set_option maxHeartbeats 4000000 in
theorem wk_X6_canTake {Γ : hb_Ctx} {G : hb_Gam} {Q : State → Prop} (X : hb_X Γ cX6_canTake 4 RX6 ΛM G 1 23) (hr : hb_ret Γ = (some .boolean)) (k : Nat) (hk : hb_is ΛM k 6) (p1 : Int32) (p2 : Int32) (p3 : Int32) (σ : hb_Mem) {x : Int32} (h : fn_X6_canTake k p1 p2 p3 σ = some x) (K : Q = hb_Q Γ ΛM G (some (.int x)) σ) : hb_W Γ ΛM G 4 Q σ [some (.ref (G.2.2.2 k)), some (.int p1), some (.int p2), some (.int p3)] [] 0 := by
  unfold fn_X6_canTake at h
  refine ww_aload_n 1 X dX6_canTake_0 rfl rfl ?_
  refine ww_iload_n 2 X dX6_canTake_1 rfl rfl ?_
  refine ww_iload_n 3 X dX6_canTake_2 rfl rfl ?_
  refine ww_iconst (v := 1) 4 X dX6_canTake_3 rfl (by decide) ?_
  obtain ⟨x1, hx1, h⟩ := hb_bind_of h
  refine ww_callV (ci := 6) (rest := []) (st' := [.int x1]) 7 X (ct_X6_ofChoice (hb_l Γ) G k hk p1 p2 1 σ hx1) cw_X6_58 rfl (by decide) hk rfl ⟨by decide, by decide⟩ (Nat.le_of_ble_eq_true rfl) rfl rfl dX6_canTake_4 rfl ?_
  refine ww_iload_n 8 X dX6_canTake_7 rfl rfl ?_
  refine ww_iconst (v := (-1)) 9 X dX6_canTake_8 rfl (by decide) ?_
  refine ww_ixor 10 X dX6_canTake_9 rfl ?_
  refine ww_iand 11 X dX6_canTake_10 rfl ?_
  refine ww_if_ne 30 14 X dX6_canTake_11 (by decide) rfl h (fun h => ?_) (fun h => ?_)
  · skip
    refine ww_aload_n 15 X dX6_canTake_14 rfl rfl ?_
    refine ww_iload_n 16 X dX6_canTake_15 rfl rfl ?_
    refine ww_iload_n 17 X dX6_canTake_16 rfl rfl ?_
    refine ww_iconst (v := 2) 18 X dX6_canTake_17 rfl (by decide) ?_
    obtain ⟨x2, hx2, h⟩ := hb_bind_of h
    refine ww_callV (ci := 6) (rest := []) (st' := [.int x2]) 21 X (ct_X6_ofChoice (hb_l Γ) G k hk p1 p2 2 σ hx2) cw_X6_58 rfl (by decide) hk rfl ⟨by decide, by decide⟩ (Nat.le_of_ble_eq_true rfl) rfl rfl dX6_canTake_18 rfl ?_
    refine ww_iload_n 22 X dX6_canTake_21 rfl rfl ?_
    refine ww_iand 23 X dX6_canTake_22 rfl ?_
    refine ww_if_ne 30 26 X dX6_canTake_23 (by decide) rfl h (fun h => ?_) (fun h => ?_)
    · skip
      refine ww_iconst (v := 1) 27 X dX6_canTake_26 rfl (by decide) ?_
      refine ww_goto 31 X dX6_canTake_27 (by decide) ?_
      obtain rfl := Option.some.inj h
      exact ww_ret_z X hr (by decide) K dX6_canTake_31
    · skip
      refine ww_iconst (v := 0) 31 X dX6_canTake_30 rfl (by decide) ?_
      obtain rfl := Option.some.inj h
      exact ww_ret_z X hr (by decide) K dX6_canTake_31
  · skip
    refine ww_iconst (v := 0) 31 X dX6_canTake_30 rfl (by decide) ?_
    obtain rfl := Option.some.inj h
    exact ww_ret_z X hr (by decide) K dX6_canTake_31
theorem ct_X6_canTake (l : Launch) (G : hb_Gam) (k : Nat) (hk : hb_is ΛM k 6) (p1 : Int32) (p2 : Int32) (p3 : Int32) (σ : hb_Mem) {x : Int32} (h : fn_X6_canTake k p1 p2 p3 σ = some x) : hb_C l yX6_canTake cX6_canTake 4 (some .boolean) 1 23 ΛM G [.ref (G.2.2.2 k), .int p1, .int p2, .int p3] σ (some (.int x)) σ :=
  hb_C.of [some (.ref (G.2.2.2 k)), some (.int p1), some (.int p2), some (.int p3)] (by decide +kernel) (Nat.le_of_ble_eq_true rfl) (by intro v hv; simp only [List.mem_cons, List.not_mem_nil, or_false] at hv; rcases hv with rfl | rfl | rfl | rfl <;> rfl) rfl (hb_pad [.ref (G.2.2.2 k), .int p1, .int p2, .int p3] 0) (fun Γ X hr => wk_X6_canTake X hr k hk p1 p2 p3 σ h rfl)
def fn_X6_coming (k : Nat) (p1 : Int32) (p2 : Int32) (σ : hb_Mem) : Option Int32 :=
(fn_X6_of k p1 2 σ).bind fun x1 =>
(fn_X6_of k p1 1 σ).bind fun x2 =>
some ((p2 &&& (x1 ^^^ (-1))) ||| x2)
set_option maxRecDepth 100000 in
set_option maxHeartbeats 4000000 in
theorem wk_X6_coming {Γ : hb_Ctx} {G : hb_Gam} {Q : State → Prop} (X : hb_X Γ cX6_coming 3 RX6 ΛM G 1 22) (hr : hb_ret Γ = (some .int)) (k : Nat) (hk : hb_is ΛM k 6) (p1 : Int32) (p2 : Int32) (σ : hb_Mem) {x : Int32} (h : fn_X6_coming k p1 p2 σ = some x) (K : Q = hb_Q Γ ΛM G (some (.int x)) σ) : hb_W Γ ΛM G 3 Q σ [some (.ref (G.2.2.2 k)), some (.int p1), some (.int p2)] [] 0 := by
  unfold fn_X6_coming at h
  refine ww_iload_n 1 X dX6_coming_0 rfl rfl ?_
  refine ww_aload_n 2 X dX6_coming_1 rfl rfl ?_
  refine ww_iload_n 3 X dX6_coming_2 rfl rfl ?_
  refine ww_iconst (v := 2) 4 X dX6_coming_3 rfl (by decide) ?_
  obtain ⟨x1, hx1, h⟩ := hb_bind_of h
  refine ww_callV (ci := 6) (rest := [.int p2]) (st' := [.int x1, .int p2]) 7 X (ct_X6_of (hb_l Γ) G k hk p1 2 σ hx1) cw_X6_62 rfl (by decide) hk rfl ⟨by decide, by decide⟩ (Nat.le_of_ble_eq_true rfl) rfl rfl dX6_coming_4 rfl ?_
  refine ww_iconst (v := (-1)) 8 X dX6_coming_7 rfl (by decide) ?_
  refine ww_ixor 9 X dX6_coming_8 rfl ?_
  refine ww_iand 10 X dX6_coming_9 rfl ?_
  refine ww_aload_n 11 X dX6_coming_10 rfl rfl ?_
  refine ww_iload_n 12 X dX6_coming_11 rfl rfl ?_
  refine ww_iconst (v := 1) 13 X dX6_coming_12 rfl (by decide) ?_
  obtain ⟨x2, hx2, h⟩ := hb_bind_of h
  refine ww_callV (ci := 6) (rest := [.int (p2 &&& (x1 ^^^ (-1)))]) (st' := [.int x2, .int (p2 &&& (x1 ^^^ (-1)))]) 16 X (ct_X6_of (hb_l Γ) G k hk p1 1 σ hx2) cw_X6_62 rfl (by decide) hk rfl ⟨by decide, by decide⟩ (Nat.le_of_ble_eq_true rfl) rfl rfl dX6_coming_13 rfl ?_
  refine ww_ior 17 X dX6_coming_16 rfl ?_
  obtain rfl := Option.some.inj h
  exact ww_ret_i X hr K dX6_coming_17
theorem ct_X6_coming (l : Launch) (G : hb_Gam) (k : Nat) (hk : hb_is ΛM k 6) (p1 : Int32) (p2 : Int32) (σ : hb_Mem) {x : Int32} (h : fn_X6_coming k p1 p2 σ = some x) : hb_C l yX6_coming cX6_coming 3 (some .int) 1 22 ΛM G [.ref (G.2.2.2 k), .int p1, .int p2] σ (some (.int x)) σ :=
  hb_C.of [some (.ref (G.2.2.2 k)), some (.int p1), some (.int p2)] (by decide +kernel) (Nat.le_of_ble_eq_true rfl) (by intro v hv; simp only [List.mem_cons, List.not_mem_nil, or_false] at hv; rcases hv with rfl | rfl | rfl <;> rfl) rfl (hb_pad [.ref (G.2.2.2 k), .int p1, .int p2] 0) (fun Γ X hr => wk_X6_coming X hr k hk p1 p2 σ h rfl)
def fn_X6_isEnd (k : Nat) (p1 : Int32) (σ : hb_Mem) : Option Int32 :=
(fn_X6_of k p1 3 σ).bind fun x1 =>
if x1 = 0 then (
some 1)
else (
some 0)
set_option maxRecDepth 100000 in
set_option maxHeartbeats 4000000 in
theorem wk_X6_isEnd {Γ : hb_Ctx} {G : hb_Gam} {Q : State → Prop} (X : hb_X Γ cX6_isEnd 2 RX6 ΛM G 1 22) (hr : hb_ret Γ = (some .boolean)) (k : Nat) (hk : hb_is ΛM k 6) (p1 : Int32) (σ : hb_Mem) {x : Int32} (h : fn_X6_isEnd k p1 σ = some x) (K : Q = hb_Q Γ ΛM G (some (.int x)) σ) : hb_W Γ ΛM G 2 Q σ [some (.ref (G.2.2.2 k)), some (.int p1)] [] 0 := by
  unfold fn_X6_isEnd at h
  refine ww_aload_n 1 X dX6_isEnd_0 rfl rfl ?_
  refine ww_iload_n 2 X dX6_isEnd_1 rfl rfl ?_
  refine ww_iconst (v := 3) 3 X dX6_isEnd_2 rfl (by decide) ?_
  obtain ⟨x1, hx1, h⟩ := hb_bind_of h
  refine ww_callV (ci := 6) (rest := []) (st' := [.int x1]) 6 X (ct_X6_of (hb_l Γ) G k hk p1 3 σ hx1) cw_X6_62 rfl (by decide) hk rfl ⟨by decide, by decide⟩ (Nat.le_of_ble_eq_true rfl) rfl rfl dX6_isEnd_3 rfl ?_
  refine ww_if_ne 13 9 X dX6_isEnd_6 (by decide) rfl h (fun h => ?_) (fun h => ?_)
  · skip
    refine ww_iconst (v := 1) 10 X dX6_isEnd_9 rfl (by decide) ?_
    refine ww_goto 14 X dX6_isEnd_10 (by decide) ?_
    obtain rfl := Option.some.inj h
    exact ww_ret_z X hr (by decide) K dX6_isEnd_14
  · skip
    refine ww_iconst (v := 0) 14 X dX6_isEnd_13 rfl (by decide) ?_
    obtain rfl := Option.some.inj h
    exact ww_ret_z X hr (by decide) K dX6_isEnd_14
theorem ct_X6_isEnd (l : Launch) (G : hb_Gam) (k : Nat) (hk : hb_is ΛM k 6) (p1 : Int32) (σ : hb_Mem) {x : Int32} (h : fn_X6_isEnd k p1 σ = some x) : hb_C l yX6_isEnd cX6_isEnd 2 (some .boolean) 1 22 ΛM G [.ref (G.2.2.2 k), .int p1] σ (some (.int x)) σ :=
  hb_C.of [some (.ref (G.2.2.2 k)), some (.int p1)] (by decide +kernel) (Nat.le_of_ble_eq_true rfl) (by intro v hv; simp only [List.mem_cons, List.not_mem_nil, or_false] at hv; rcases hv with rfl | rfl <;> rfl) rfl (hb_pad [.ref (G.2.2.2 k), .int p1] 0) (fun Γ X hr => wk_X6_isEnd X hr k hk p1 σ h rfl)
def fn_X6_isHappy (k : Nat) (p1 : Int32) (σ : hb_Mem) : Option Int32 :=
(fn_X6_isEnd k p1 σ).bind fun x1 =>
if x1 = 0 then (
some 0)
else (
(fn_X6_of k p1 0 σ).bind fun x2 =>
if x2 ≤ 0 then (
some 0)
else (
some 1))
set_option maxRecDepth 100000 in
set_option maxHeartbeats 4000000 in
theorem wk_X6_isHappy {Γ : hb_Ctx} {G : hb_Gam} {Q : State → Prop} (X : hb_X Γ cX6_isHappy 2 RX6 ΛM G 2 43) (hr : hb_ret Γ = (some .boolean)) (k : Nat) (hk : hb_is ΛM k 6) (p1 : Int32) (σ : hb_Mem) {x : Int32} (h : fn_X6_isHappy k p1 σ = some x) (K : Q = hb_Q Γ ΛM G (some (.int x)) σ) : hb_W Γ ΛM G 2 Q σ [some (.ref (G.2.2.2 k)), some (.int p1)] [] 0 := by
  unfold fn_X6_isHappy at h
  refine ww_aload_n 1 X dX6_isHappy_0 rfl rfl ?_
  refine ww_iload_n 2 X dX6_isHappy_1 rfl rfl ?_
  obtain ⟨x1, hx1, h⟩ := hb_bind_of h
  refine ww_callV (ci := 6) (rest := []) (st' := [.int x1]) 5 X (ct_X6_isEnd (hb_l Γ) G k hk p1 σ hx1) cw_X6_66 rfl (by decide) hk rfl ⟨by decide, by decide⟩ (Nat.le_of_ble_eq_true rfl) rfl rfl dX6_isHappy_2 rfl ?_
  refine ww_if_eq 21 8 X dX6_isHappy_5 (by decide) rfl h (fun h => ?_) (fun h => ?_)
  · skip
    refine ww_iconst (v := 0) 22 X dX6_isHappy_21 rfl (by decide) ?_
    obtain rfl := Option.some.inj h
    exact ww_ret_z X hr (by decide) K dX6_isHappy_22
  · skip
    refine ww_aload_n 9 X dX6_isHappy_8 rfl rfl ?_
    refine ww_iload_n 10 X dX6_isHappy_9 rfl rfl ?_
    refine ww_iconst (v := 0) 11 X dX6_isHappy_10 rfl (by decide) ?_
    obtain ⟨x2, hx2, h⟩ := hb_bind_of h
    refine ww_callV (ci := 6) (rest := []) (st' := [.int x2]) 14 X (ct_X6_of (hb_l Γ) G k hk p1 0 σ hx2) cw_X6_62 rfl (by decide) hk rfl ⟨by decide, by decide⟩ (Nat.le_of_ble_eq_true rfl) rfl rfl dX6_isHappy_11 rfl ?_
    refine ww_if_le 21 17 X dX6_isHappy_14 (by decide) rfl h (fun h => ?_) (fun h => ?_)
    · skip
      refine ww_iconst (v := 0) 22 X dX6_isHappy_21 rfl (by decide) ?_
      obtain rfl := Option.some.inj h
      exact ww_ret_z X hr (by decide) K dX6_isHappy_22
    · skip
      refine ww_iconst (v := 1) 18 X dX6_isHappy_17 rfl (by decide) ?_
      refine ww_goto 22 X dX6_isHappy_18 (by decide) ?_
      obtain rfl := Option.some.inj h
      exact ww_ret_z X hr (by decide) K dX6_isHappy_22
theorem ct_X6_isHappy (l : Launch) (G : hb_Gam) (k : Nat) (hk : hb_is ΛM k 6) (p1 : Int32) (σ : hb_Mem) {x : Int32} (h : fn_X6_isHappy k p1 σ = some x) : hb_C l yX6_isHappy cX6_isHappy 2 (some .boolean) 2 43 ΛM G [.ref (G.2.2.2 k), .int p1] σ (some (.int x)) σ :=
  hb_C.of [some (.ref (G.2.2.2 k)), some (.int p1)] (by decide +kernel) (Nat.le_of_ble_eq_true rfl) (by intro v hv; simp only [List.mem_cons, List.not_mem_nil, or_false] at hv; rcases hv with rfl | rfl <;> rfl) rfl (hb_pad [.ref (G.2.2.2 k), .int p1] 0) (fun Γ X hr => wk_X6_isHappy X hr k hk p1 σ h rfl)
def fn_X6_mood (k : Nat) (p1 : Int32) (σ : hb_Mem) : Option UInt32 :=
(fn_X6_of k p1 0 σ).bind fun x1 =>
(hb_nn (FP.fdiv (FP.i2f x1) 1092616192)).bind fun z2 =>
some z2
set_option maxRecDepth 100000 in
set_option maxHeartbeats 4000000 in
theorem wk_X6_mood {Γ : hb_Ctx} {G : hb_Gam} {Q : State → Prop} (X : hb_X Γ cX6_mood 2 RX6 ΛM G 1 22) (hr : hb_ret Γ = (some .float)) (k : Nat) (hk : hb_is ΛM k 6) (p1 : Int32) (σ : hb_Mem) {x : UInt32} (h : fn_X6_mood k p1 σ = some x) (K : Q = hb_Q Γ ΛM G (some (.float x)) σ) : hb_W Γ ΛM G 2 Q σ [some (.ref (G.2.2.2 k)), some (.int p1)] [] 0 := by
  unfold fn_X6_mood at h
  refine ww_aload_n 1 X dX6_mood_0 rfl rfl ?_
  refine ww_iload_n 2 X dX6_mood_1 rfl rfl ?_
  refine ww_iconst (v := 0) 3 X dX6_mood_2 rfl (by decide) ?_
  obtain ⟨x1, hx1, h⟩ := hb_bind_of h
  refine ww_callV (ci := 6) (rest := []) (st' := [.int x1]) 6 X (ct_X6_of (hb_l Γ) G k hk p1 0 σ hx1) cw_X6_62 rfl (by decide) hk rfl ⟨by decide, by decide⟩ (Nat.le_of_ble_eq_true rfl) rfl rfl dX6_mood_3 rfl ?_
  refine ww_i2f 7 X dX6_mood_6 rfl ?_
  refine ww_ldcf (v := 1092616192) 9 X dX6_mood_7 rfl (by decide +kernel) ?_
  obtain ⟨z2, hz2, h⟩ := hb_bind_of h
  refine ww_fdiv 10 X dX6_mood_9 rfl hz2 ?_
  obtain rfl := Option.some.inj h
  exact ww_ret_f X hr K dX6_mood_10
theorem ct_X6_mood (l : Launch) (G : hb_Gam) (k : Nat) (hk : hb_is ΛM k 6) (p1 : Int32) (σ : hb_Mem) {x : UInt32} (h : fn_X6_mood k p1 σ = some x) : hb_C l yX6_mood cX6_mood 2 (some .float) 1 22 ΛM G [.ref (G.2.2.2 k), .int p1] σ (some (.float x)) σ :=
  hb_C.of [some (.ref (G.2.2.2 k)), some (.int p1)] (by decide +kernel) (Nat.le_of_ble_eq_true rfl) (by intro v hv; simp only [List.mem_cons, List.not_mem_nil, or_false] at hv; rcases hv with rfl | rfl <;> rfl) rfl (hb_pad [.ref (G.2.2.2 k), .int p1] 0) (fun Γ X hr => wk_X6_mood X hr k hk p1 σ h rfl)
def fn_X6_behind (k : Nat) (p1 : Int32) (p2 : Int32) (σ : hb_Mem) : Option Int32 :=
hb_nm (p1 / 32) fun v1 =>
hb_nm (p1 - p1 / 32 * 32) fun v2 =>
(fn_X6_of k v1 3 σ).bind fun x3 =>
if x3 ≤ p2 then (
some (-5))
else (
(fn_X6_canTake k v1 p2 v2 σ).bind fun x4 =>
if x4 = 0 then (
some (-5))
else (
(fn_X6_ofChoice k v1 p2 0 σ).bind fun x5 =>
(fn_X6_coming k x5 v2 σ).bind fun x6 =>
some (((32 : Int32) * x5) + x6)))
set_option maxRecDepth 100000 in
set_option maxHeartbeats 4000000 in
theorem wk_X6_behind {Γ : hb_Ctx} {G : hb_Gam} {Q : State → Prop} (X : hb_X Γ cX6_behind 6 RX6 ΛM G 2 46) (hr : hb_ret Γ = (some .int)) (k : Nat) (hk : hb_is ΛM k 6) (p1 : Int32) (p2 : Int32) (σ : hb_Mem) {x : Int32} (h : fn_X6_behind k p1 p2 σ = some x) (K : Q = hb_Q Γ ΛM G (some (.int x)) σ) : hb_W Γ ΛM G 6 Q σ [some (.ref (G.2.2.2 k)), some (.int p1), some (.int p2), none, none, none] [] 0 := by
  unfold fn_X6_behind at h
  refine ww_iload_n 1 X dX6_behind_0 rfl rfl ?_
  refine ww_bipush (v := 32) 3 X dX6_behind_1 rfl (by decide) ?_
  refine ww_idiv 4 X dX6_behind_3 rfl (by decide) ?_
  obtain ⟨v1, ev1, h⟩ := hb_nm_of h
  rw [← ev1]
  refine ww_istore_n 5 X (L' := [some (.ref (G.2.2.2 k)), some (.int p1), some (.int p2), some (.int v1), none, none]) dX6_behind_4 rfl (Nat.le_of_ble_eq_true rfl) rfl ?_
  refine ww_iload_n 6 X dX6_behind_5 rfl rfl ?_
  refine ww_bipush (v := 32) 8 X dX6_behind_6 rfl (by decide) ?_
  refine ww_irem 9 X dX6_behind_8 rfl (by decide) ?_
  obtain ⟨v2, ev2, h⟩ := hb_nm_of h
  rw [← ev2]
  refine ww_istore 11 X (L' := [some (.ref (G.2.2.2 k)), some (.int p1), some (.int p2), some (.int v1), some (.int v2), none]) dX6_behind_9 rfl (Nat.le_of_ble_eq_true rfl) rfl ?_
  refine ww_iload_n 12 X dX6_behind_11 rfl rfl ?_
  refine ww_aload_n 13 X dX6_behind_12 rfl rfl ?_
  refine ww_iload_n 14 X dX6_behind_13 rfl rfl ?_
  refine ww_iconst (v := 3) 15 X dX6_behind_14 rfl (by decide) ?_
  obtain ⟨x3, hx3, h⟩ := hb_bind_of h
  refine ww_callV (ci := 6) (rest := [.int p2]) (st' := [.int x3, .int p2]) 18 X (ct_X6_of (hb_l Γ) G k hk v1 3 σ hx3) cw_X6_62 rfl (by decide) hk rfl ⟨by decide, by decide⟩ (Nat.le_of_ble_eq_true rfl) rfl rfl dX6_behind_15 rfl ?_
  refine ww_icmp_ge 32 21 X dX6_behind_18 (by decide) rfl h (fun h => ?_) (fun h => ?_)
  · skip
    refine ww_bipush (v := (-5)) 34 X dX6_behind_32 rfl (by decide) ?_
    obtain rfl := Option.some.inj h
    exact ww_ret_i X hr K dX6_behind_34
  · skip
    refine ww_aload_n 22 X dX6_behind_21 rfl rfl ?_
    refine ww_iload_n 23 X dX6_behind_22 rfl rfl ?_
    refine ww_iload_n 24 X dX6_behind_23 rfl rfl ?_
    refine ww_iload 26 X dX6_behind_24 rfl rfl ?_
    obtain ⟨x4, hx4, h⟩ := hb_bind_of h
    refine ww_callV (ci := 6) (rest := []) (st' := [.int x4]) 29 X (ct_X6_canTake (hb_l Γ) G k hk v1 p2 v2 σ hx4) cw_X6_70 rfl (by decide) hk rfl ⟨by decide, by decide⟩ (Nat.le_of_ble_eq_true rfl) rfl rfl dX6_behind_26 rfl ?_
    refine ww_if_ne 35 32 X dX6_behind_29 (by decide) rfl h (fun h => ?_) (fun h => ?_)
    · skip
      refine ww_bipush (v := (-5)) 34 X dX6_behind_32 rfl (by decide) ?_
      obtain rfl := Option.some.inj h
      exact ww_ret_i X hr K dX6_behind_34
    · skip
      refine ww_aload_n 36 X dX6_behind_35 rfl rfl ?_
      refine ww_iload_n 37 X dX6_behind_36 rfl rfl ?_
      refine ww_iload_n 38 X dX6_behind_37 rfl rfl ?_
      refine ww_iconst (v := 0) 39 X dX6_behind_38 rfl (by decide) ?_
      obtain ⟨x5, hx5, h⟩ := hb_bind_of h
      refine ww_callV (ci := 6) (rest := []) (st' := [.int x5]) 42 X (ct_X6_ofChoice (hb_l Γ) G k hk v1 p2 0 σ hx5) cw_X6_58 rfl (by decide) hk rfl ⟨by decide, by decide⟩ (Nat.le_of_ble_eq_true rfl) rfl rfl dX6_behind_39 rfl ?_
      refine ww_istore 44 X (L' := [some (.ref (G.2.2.2 k)), some (.int p1), some (.int p2), some (.int v1), some (.int v2), some (.int x5)]) dX6_behind_42 rfl (Nat.le_of_ble_eq_true rfl) rfl ?_
      refine ww_bipush (v := 32) 46 X dX6_behind_44 rfl (by decide) ?_
      refine ww_iload 48 X dX6_behind_46 rfl rfl ?_
      refine ww_imul 49 X dX6_behind_48 rfl ?_
      refine ww_aload_n 50 X dX6_behind_49 rfl rfl ?_
      refine ww_iload 52 X dX6_behind_50 rfl rfl ?_
      refine ww_iload 54 X dX6_behind_52 rfl rfl ?_
      obtain ⟨x6, hx6, h⟩ := hb_bind_of h
      refine ww_callV (ci := 6) (rest := [.int ((32 : Int32) * x5)]) (st' := [.int x6, .int ((32 : Int32) * x5)]) 57 X (ct_X6_coming (hb_l Γ) G k hk x5 v2 σ hx6) cw_X6_73 rfl (by decide) hk rfl ⟨by decide, by decide⟩ (Nat.le_of_ble_eq_true rfl) rfl rfl dX6_behind_54 rfl ?_
      refine ww_iadd 58 X dX6_behind_57 rfl ?_
      obtain rfl := Option.some.inj h
      exact ww_ret_i X hr K dX6_behind_58
theorem ct_X6_behind (l : Launch) (G : hb_Gam) (k : Nat) (hk : hb_is ΛM k 6) (p1 : Int32) (p2 : Int32) (σ : hb_Mem) {x : Int32} (h : fn_X6_behind k p1 p2 σ = some x) : hb_C l yX6_behind cX6_behind 6 (some .int) 2 46 ΛM G [.ref (G.2.2.2 k), .int p1, .int p2] σ (some (.int x)) σ :=
  hb_C.of [some (.ref (G.2.2.2 k)), some (.int p1), some (.int p2), none, none, none] (by decide +kernel) (Nat.le_of_ble_eq_true rfl) (by intro v hv; simp only [List.mem_cons, List.not_mem_nil, or_false] at hv; rcases hv with rfl | rfl | rfl <;> rfl) rfl (hb_pad [.ref (G.2.2.2 k), .int p1, .int p2] 3) (fun Γ X hr => wk_X6_behind X hr k hk p1 p2 σ h rfl)
def lb_X6_forgets_2 (k : Nat) (w1 : Int32) (σ : hb_Mem) : Option ((Int32 × hb_Mem) ⊕ hb_Mem) :=
if 1024 ≤ w1 then (
some (.inr σ))
else (
(hb_st ΛM σ (hm_rf k 7) w1 9999).bind fun σ1 =>
hb_nm (w1 + 1) fun v2 =>
some (.inl (v2, σ1)))
set_option maxRecDepth 100000 in
set_option maxHeartbeats 4000000 in
theorem lk_X6_forgets_2 {Γ : hb_Ctx} {G : hb_Gam} {Q : State → Prop} (X : hb_X Γ cX6_forgets 2 RX6 ΛM G 0 0)  (k : Nat) (hk : hb_is ΛM k 6) (w1 : Int32) (σ : hb_Mem) {x : ((Int32 × hb_Mem) ⊕ hb_Mem)} (h : lb_X6_forgets_2 k w1 σ = some x) (K : Sum.elim (fun s : (Int32 × hb_Mem) => hb_W Γ ΛM G 2 Q s.2 [some (.ref (G.2.2.2 k)), some (.int s.1)] [] 2) (fun t : hb_Mem => hb_W Γ ΛM G 2 Q t [some (.ref (G.2.2.2 k)), none] [] 24) x) : hb_W Γ ΛM G 2 Q σ [some (.ref (G.2.2.2 k)), some (.int w1)] [] 2 := by
  unfold lb_X6_forgets_2 at h
  refine ww_iload_n 3 X dX6_forgets_2 rfl rfl ?_
  refine ww_sipush (v := 1024) 6 X dX6_forgets_3 rfl (by decide) ?_
  refine ww_icmp_ge 24 9 X dX6_forgets_6 (by decide) rfl h (fun h => ?_) (fun h => ?_)
  · skip
    obtain rfl := Option.some.inj h
    refine ww_kill [1] (L' := [some (.ref (G.2.2.2 k)), none]) rfl ?_
    exact K
  · skip
    refine ww_aload_n 10 X dX6_forgets_9 rfl rfl ?_
    refine ww_getr (ci := 6) (j := 7) 13 X cf_6 tw_X6_22 (by decide) rfl hk dX6_forgets_10 rfl ?_
    refine ww_iload_n 14 X dX6_forgets_13 rfl rfl ?_
    refine ww_sipush (v := 9999) 17 X dX6_forgets_14 rfl (by decide) ?_
    obtain ⟨σ1, hσ1, h⟩ := hb_bind_of h
    refine ww_iast 18 X (hm_kr_6_7 hk) hσ1 dX6_forgets_17 rfl ?_
    obtain ⟨v2, ev2, h⟩ := hb_nm_of h
    refine ww_iinc 21 X (L' := [some (.ref (G.2.2.2 k)), some (.int v2)]) dX6_forgets_18 rfl rfl ev2.symm rfl ?_
    refine ww_goto 2 X dX6_forgets_21 (by decide) ?_
    obtain rfl := Option.some.inj h
    exact K
def ll_X6_forgets_2 (k : Nat) : (Int32 × hb_Mem) → Option hb_Mem := hb_lp (fun s => lb_X6_forgets_2 k s.1 s.2) hb_F
theorem lw_X6_forgets_2 {Γ : hb_Ctx} {G : hb_Gam} {Q : State → Prop} (X : hb_X Γ cX6_forgets 2 RX6 ΛM G 0 0)  (k : Nat) (hk : hb_is ΛM k 6) (s : (Int32 × hb_Mem)) (t : hb_Mem) (h : ll_X6_forgets_2 k s = some t) (K : (fun t : hb_Mem => hb_W Γ ΛM G 2 Q t [some (.ref (G.2.2.2 k)), none] [] 24) t) : hb_W Γ ΛM G 2 Q s.2 [some (.ref (G.2.2.2 k)), some (.int s.1)] [] 2 :=
  hb_lp_w (P := fun s : (Int32 × hb_Mem) => hb_W Γ ΛM G 2 Q s.2 [some (.ref (G.2.2.2 k)), some (.int s.1)] [] 2) (E := (fun t : hb_Mem => hb_W Γ ΛM G 2 Q t [some (.ref (G.2.2.2 k)), none] [] 24)) (fun s x hx K => lk_X6_forgets_2 X k hk s.1 s.2 hx K) _ s t h K
def fn_X6_forgets (k : Nat) (σ : hb_Mem) : Option hb_Mem :=
(ll_X6_forgets_2 k (0, σ)).bind fun t3 =>
hb_nm (hb_up t3 k 11 0) fun σ4 =>
some σ4
set_option maxRecDepth 100000 in
set_option maxHeartbeats 4000000 in
theorem wk_X6_forgets {Γ : hb_Ctx} {G : hb_Gam} {Q : State → Prop} (X : hb_X Γ cX6_forgets 2 RX6 ΛM G 0 0) (hr : hb_ret Γ = none) (k : Nat) (hk : hb_is ΛM k 6) (σ : hb_Mem) {x : hb_Mem} (h : fn_X6_forgets k σ = some x) (K : Q = hb_Q Γ ΛM G none x) : hb_W Γ ΛM G 2 Q σ [some (.ref (G.2.2.2 k)), none] [] 0 := by
  unfold fn_X6_forgets at h
  refine ww_iconst (v := 0) 1 X dX6_forgets_0 rfl (by decide) ?_
  refine ww_istore_n 2 X (L' := [some (.ref (G.2.2.2 k)), some (.int 0)]) dX6_forgets_1 rfl (Nat.le_of_ble_eq_true rfl) rfl ?_
  obtain ⟨t3, ht3, h⟩ := hb_bind_of h
  refine lw_X6_forgets_2 X k hk (0, σ) t3 ht3 ?_
  refine ww_aload_n 25 X dX6_forgets_24 rfl rfl ?_
  refine ww_iconst (v := 0) 26 X dX6_forgets_25 rfl (by decide) ?_
  obtain ⟨σ4, eσ4, h⟩ := hb_nm_of h
  refine ww_put (ci := 6) (j := 11) (ty := .int) 29 X cf_6 cg_6 tw_X6_76 (by decide) rfl rfl rfl rfl rfl hk eσ4.symm dX6_forgets_26 rfl ?_
  obtain rfl := Option.some.inj h
  exact ww_ret_v X hr K dX6_forgets_29
theorem ct_X6_forgets (l : Launch) (G : hb_Gam) (k : Nat) (hk : hb_is ΛM k 6) (σ : hb_Mem) {x : hb_Mem} (h : fn_X6_forgets k σ = some x) : hb_C l yX6_forgets cX6_forgets 2 none 0 0 ΛM G [.ref (G.2.2.2 k)] σ none x :=
  hb_C.of [some (.ref (G.2.2.2 k)), none] (by decide +kernel) (Nat.le_of_ble_eq_true rfl) (by intro v hv; simp only [List.mem_cons, List.not_mem_nil, or_false] at hv; subst hv; rfl) rfl (hb_pad [.ref (G.2.2.2 k)] 1) (fun Γ X hr => wk_X6_forgets X hr k hk σ h rfl)
def fn_X6_comesTo (k : Nat) (p1 : Int32) (p2 : Int32) (p3 : Int32) (p4 : Int32) (σ : hb_Mem) : Option hb_Mem :=
(hb_ld ΛM σ (hm_rf k 7) p1).bind fun v1 =>
if v1 = 9999 then (
(hb_st ΛM σ (hm_rf k 7) p1 p2).bind fun σ2 =>
(hb_st ΛM σ2 (hm_rf k 8) p1 p3).bind fun σ3 =>
(hb_st ΛM σ3 (hm_rf k 9) p1 p4).bind fun σ4 =>
(hb_st ΛM σ4 (hm_rf k 10) (σ4 k 11) p1).bind fun σ5 =>
hb_nm (hb_up σ5 k 11 ((σ5 k 11) + 1)) fun σ6 =>
some σ6)
else (
some σ)
set_option maxRecDepth 100000 in
set_option maxHeartbeats 4000000 in
theorem wk_X6_comesTo {Γ : hb_Ctx} {G : hb_Gam} {Q : State → Prop} (X : hb_X Γ cX6_comesTo 5 RX6 ΛM G 0 0) (hr : hb_ret Γ = none) (k : Nat) (hk : hb_is ΛM k 6) (p1 : Int32) (p2 : Int32) (p3 : Int32) (p4 : Int32) (σ : hb_Mem) {x : hb_Mem} (h : fn_X6_comesTo k p1 p2 p3 p4 σ = some x) (K : Q = hb_Q Γ ΛM G none x) : hb_W Γ ΛM G 5 Q σ [some (.ref (G.2.2.2 k)), some (.int p1), some (.int p2), some (.int p3), some (.int p4)] [] 0 := by
  unfold fn_X6_comesTo at h
  refine ww_aload_n 1 X dX6_comesTo_0 rfl rfl ?_
  refine ww_getr (ci := 6) (j := 7) 4 X cf_6 tw_X6_22 (by decide) rfl hk dX6_comesTo_1 rfl ?_
  refine ww_iload_n 5 X dX6_comesTo_4 rfl rfl ?_
  obtain ⟨v1, hv1, h⟩ := hb_bind_of h
  refine ww_iald 6 X (hm_kr_6_7 hk) hv1 dX6_comesTo_5 rfl ?_
  refine ww_sipush (v := 9999) 9 X dX6_comesTo_6 rfl (by decide) ?_
  refine ww_icmp_ne 54 12 X dX6_comesTo_9 (by decide) rfl h (fun h => ?_) (fun h => ?_)
  · skip
    refine ww_aload_n 13 X dX6_comesTo_12 rfl rfl ?_
    refine ww_getr (ci := 6) (j := 7) 16 X cf_6 tw_X6_22 (by decide) rfl hk dX6_comesTo_13 rfl ?_
    refine ww_iload_n 17 X dX6_comesTo_16 rfl rfl ?_
    refine ww_iload_n 18 X dX6_comesTo_17 rfl rfl ?_
    obtain ⟨σ2, hσ2, h⟩ := hb_bind_of h
    refine ww_iast 19 X (hm_kr_6_7 hk) hσ2 dX6_comesTo_18 rfl ?_
    refine ww_aload_n 20 X dX6_comesTo_19 rfl rfl ?_
    refine ww_getr (ci := 6) (j := 8) 23 X cf_6 tw_X6_25 (by decide) rfl hk dX6_comesTo_20 rfl ?_
    refine ww_iload_n 24 X dX6_comesTo_23 rfl rfl ?_
    refine ww_iload_n 25 X dX6_comesTo_24 rfl rfl ?_
    obtain ⟨σ3, hσ3, h⟩ := hb_bind_of h
    refine ww_iast 26 X (hm_kr_6_8 hk) hσ3 dX6_comesTo_25 rfl ?_
    refine ww_aload_n 27 X dX6_comesTo_26 rfl rfl ?_
    refine ww_getr (ci := 6) (j := 9) 30 X cf_6 tw_X6_28 (by decide) rfl hk dX6_comesTo_27 rfl ?_
    refine ww_iload_n 31 X dX6_comesTo_30 rfl rfl ?_
    refine ww_iload 33 X dX6_comesTo_31 rfl rfl ?_
    obtain ⟨σ4, hσ4, h⟩ := hb_bind_of h
    refine ww_iast 34 X (hm_kr_6_9 hk) hσ4 dX6_comesTo_33 rfl ?_
    refine ww_aload_n 35 X dX6_comesTo_34 rfl rfl ?_
    refine ww_getr (ci := 6) (j := 10) 38 X cf_6 tw_X6_31 (by decide) rfl hk dX6_comesTo_35 rfl ?_
    refine ww_aload_n 39 X dX6_comesTo_38 rfl rfl ?_
    refine ww_geti (ci := 6) (j := 11) 42 X cf_6 tw_X6_76 (by decide) rfl hk dX6_comesTo_39 rfl ?_
    refine ww_iload_n 43 X dX6_comesTo_42 rfl rfl ?_
    obtain ⟨σ5, hσ5, h⟩ := hb_bind_of h
    refine ww_iast 44 X (hm_kr_6_10 hk) hσ5 dX6_comesTo_43 rfl ?_
    refine ww_aload_n 45 X dX6_comesTo_44 rfl rfl ?_
    refine ww_dup 46 X dX6_comesTo_45 rfl rfl ?_
    refine ww_geti (ci := 6) (j := 11) 49 X cf_6 tw_X6_76 (by decide) rfl hk dX6_comesTo_46 rfl ?_
    refine ww_iconst (v := 1) 50 X dX6_comesTo_49 rfl (by decide) ?_
    refine ww_iadd 51 X dX6_comesTo_50 rfl ?_
    obtain ⟨σ6, eσ6, h⟩ := hb_nm_of h
    refine ww_put (ci := 6) (j := 11) (ty := .int) 54 X cf_6 cg_6 tw_X6_76 (by decide) rfl rfl rfl rfl rfl hk eσ6.symm dX6_comesTo_51 rfl ?_
    obtain rfl := Option.some.inj h
    exact ww_ret_v X hr K dX6_comesTo_54
  · skip
    obtain rfl := Option.some.inj h
    exact ww_ret_v X hr K dX6_comesTo_54
theorem ct_X6_comesTo (l : Launch) (G : hb_Gam) (k : Nat) (hk : hb_is ΛM k 6) (p1 : Int32) (p2 : Int32) (p3 : Int32) (p4 : Int32) (σ : hb_Mem) {x : hb_Mem} (h : fn_X6_comesTo k p1 p2 p3 p4 σ = some x) : hb_C l yX6_comesTo cX6_comesTo 5 none 0 0 ΛM G [.ref (G.2.2.2 k), .int p1, .int p2, .int p3, .int p4] σ none x :=
  hb_C.of [some (.ref (G.2.2.2 k)), some (.int p1), some (.int p2), some (.int p3), some (.int p4)] (by decide +kernel) (Nat.le_of_ble_eq_true rfl) (by intro v hv; simp only [List.mem_cons, List.not_mem_nil, or_false] at hv; rcases hv with rfl | rfl | rfl | rfl | rfl <;> rfl) rfl (hb_pad [.ref (G.2.2.2 k), .int p1, .int p2, .int p3, .int p4] 0) (fun Γ X hr => wk_X6_comesTo X hr k hk p1 p2 p3 p4 σ h rfl)
def jn_X6_spreads_55 (k : Nat) (i1 : Int32) (i2 : Int32) (j3 : Int32) (σ : hb_Mem) : Option ((Int32 × hb_Mem) ⊕ hb_Mem) :=
hb_nm (j3 + 1) fun v3 =>
some (.inl (v3, σ))
set_option maxRecDepth 100000 in
set_option maxHeartbeats 4000000 in
theorem jw_X6_spreads_55 {Γ : hb_Ctx} {G : hb_Gam} {Q : State → Prop} (X : hb_X Γ cX6_spreads 5 RX6 ΛM G 3 71)  (k : Nat) (hk : hb_is ΛM k 6) (i1 : Int32) (i2 : Int32) (j3 : Int32) (σ : hb_Mem) {x : ((Int32 × hb_Mem) ⊕ hb_Mem)} (h : jn_X6_spreads_55 k i1 i2 j3 σ = some x) (K : Sum.elim (fun s : (Int32 × hb_Mem) => hb_W Γ ΛM G 5 Q s.2 [some (.ref (G.2.2.2 k)), some (.int i1), some (.int i2), some (.int s.1), none] [] 19) (fun t : hb_Mem => hb_W Γ ΛM G 5 Q t [some (.ref (G.2.2.2 k)), some (.int i1), none, none, none] [] 61) x) : hb_W Γ ΛM G 5 Q σ [some (.ref (G.2.2.2 k)), some (.int i1), some (.int i2), some (.int j3), none] [] 55 := by
  unfold jn_X6_spreads_55 at h
  obtain ⟨v3, ev3, h⟩ := hb_nm_of h
  refine ww_iinc 58 X (L' := [some (.ref (G.2.2.2 k)), some (.int i1), some (.int i2), some (.int v3), none]) dX6_spreads_55 rfl rfl ev3.symm rfl ?_
  refine ww_goto 19 X dX6_spreads_58 (by decide) ?_
  obtain rfl := Option.some.inj h
  exact K
def lb_X6_spreads_19 (k : Nat) (i1 : Int32) (i2 : Int32) (w3 : Int32) (σ : hb_Mem) : Option ((Int32 × hb_Mem) ⊕ hb_Mem) :=
if 3 ≤ w3 then (
some (.inr σ))
else (
(fn_X6_behind k i2 w3 σ).bind fun x2 =>
if x2 = (-5) then (
jn_X6_spreads_55 k i1 i2 w3 σ)
else (
(hb_ld ΛM σ (hm_rf k 7) i2).bind fun v4 =>
(fn_X6_comesTo k x2 (v4 + 1) i2 w3 σ).bind fun x5 =>
jn_X6_spreads_55 k i1 i2 w3 x5))
set_option maxRecDepth 100000 in
set_option maxHeartbeats 4000000 in
theorem lk_X6_spreads_19 {Γ : hb_Ctx} {G : hb_Gam} {Q : State → Prop} (X : hb_X Γ cX6_spreads 5 RX6 ΛM G 3 71)  (k : Nat) (hk : hb_is ΛM k 6) (i1 : Int32) (i2 : Int32) (w3 : Int32) (σ : hb_Mem) {x : ((Int32 × hb_Mem) ⊕ hb_Mem)} (h : lb_X6_spreads_19 k i1 i2 w3 σ = some x) (K : Sum.elim (fun s : (Int32 × hb_Mem) => hb_W Γ ΛM G 5 Q s.2 [some (.ref (G.2.2.2 k)), some (.int i1), some (.int i2), some (.int s.1), none] [] 19) (fun t : hb_Mem => hb_W Γ ΛM G 5 Q t [some (.ref (G.2.2.2 k)), some (.int i1), none, none, none] [] 61) x) : hb_W Γ ΛM G 5 Q σ [some (.ref (G.2.2.2 k)), some (.int i1), some (.int i2), some (.int w3), none] [] 19 := by
  unfold lb_X6_spreads_19 at h
  refine ww_iload_n 20 X dX6_spreads_19 rfl rfl ?_
  refine ww_iconst (v := 3) 21 X dX6_spreads_20 rfl (by decide) ?_
  refine ww_icmp_ge 61 24 X dX6_spreads_21 (by decide) rfl h (fun h => ?_) (fun h => ?_)
  · skip
    obtain rfl := Option.some.inj h
    refine ww_kill [2, 3] (L' := [some (.ref (G.2.2.2 k)), some (.int i1), none, none, none]) rfl ?_
    exact K
  · skip
    refine ww_aload_n 25 X dX6_spreads_24 rfl rfl ?_
    refine ww_iload_n 26 X dX6_spreads_25 rfl rfl ?_
    refine ww_iload_n 27 X dX6_spreads_26 rfl rfl ?_
    obtain ⟨x2, hx2, h⟩ := hb_bind_of h
    refine ww_callV (ci := 6) (rest := []) (st' := [.int x2]) 30 X (ct_X6_behind (hb_l Γ) G k hk i2 w3 σ hx2) cw_X6_79 rfl (by decide) hk rfl ⟨by decide, by decide⟩ (Nat.le_of_ble_eq_true rfl) rfl rfl dX6_spreads_27 rfl ?_
    refine ww_istore 32 X (L' := [some (.ref (G.2.2.2 k)), some (.int i1), some (.int i2), some (.int w3), some (.int x2)]) dX6_spreads_30 rfl (Nat.le_of_ble_eq_true rfl) rfl ?_
    refine ww_iload 34 X dX6_spreads_32 rfl rfl ?_
    refine ww_bipush (v := (-5)) 36 X dX6_spreads_34 rfl (by decide) ?_
    refine ww_icmp_eq 55 39 X dX6_spreads_36 (by decide) rfl h (fun h => ?_) (fun h => ?_)
    · skip
      refine ww_kill [4] (L' := [some (.ref (G.2.2.2 k)), some (.int i1), some (.int i2), some (.int w3), none]) rfl ?_
      exact jw_X6_spreads_55 X k hk i1 i2 w3 σ h K
    · skip
      refine ww_aload_n 40 X dX6_spreads_39 rfl rfl ?_
      refine ww_iload 42 X dX6_spreads_40 rfl rfl ?_
      refine ww_aload_n 43 X dX6_spreads_42 rfl rfl ?_
      refine ww_getr (ci := 6) (j := 7) 46 X cf_6 tw_X6_22 (by decide) rfl hk dX6_spreads_43 rfl ?_
      refine ww_iload_n 47 X dX6_spreads_46 rfl rfl ?_
      obtain ⟨v4, hv4, h⟩ := hb_bind_of h
      refine ww_iald 48 X (hm_kr_6_7 hk) hv4 dX6_spreads_47 rfl ?_
      refine ww_iconst (v := 1) 49 X dX6_spreads_48 rfl (by decide) ?_
      refine ww_iadd 50 X dX6_spreads_49 rfl ?_
      refine ww_iload_n 51 X dX6_spreads_50 rfl rfl ?_
      refine ww_iload_n 52 X dX6_spreads_51 rfl rfl ?_
      obtain ⟨x5, hx5, h⟩ := hb_bind_of h
      refine ww_callV (ci := 6) (rest := []) (st' := []) 55 X (ct_X6_comesTo (hb_l Γ) G k hk x2 (v4 + 1) i2 w3 σ hx5) cw_X6_82 rfl (by decide) hk rfl ⟨by decide, by decide⟩ (Nat.le_of_ble_eq_true rfl) rfl rfl dX6_spreads_52 rfl ?_
      refine ww_kill [4] (L' := [some (.ref (G.2.2.2 k)), some (.int i1), some (.int i2), some (.int w3), none]) rfl ?_
      exact jw_X6_spreads_55 X k hk i1 i2 w3 x5 h K
def ll_X6_spreads_19 (k : Nat) (i1 : Int32) (i2 : Int32) : (Int32 × hb_Mem) → Option hb_Mem := hb_lp (fun s => lb_X6_spreads_19 k i1 i2 s.1 s.2) hb_F
theorem lw_X6_spreads_19 {Γ : hb_Ctx} {G : hb_Gam} {Q : State → Prop} (X : hb_X Γ cX6_spreads 5 RX6 ΛM G 3 71)  (k : Nat) (hk : hb_is ΛM k 6) (i1 : Int32) (i2 : Int32) (s : (Int32 × hb_Mem)) (t : hb_Mem) (h : ll_X6_spreads_19 k i1 i2 s = some t) (K : (fun t : hb_Mem => hb_W Γ ΛM G 5 Q t [some (.ref (G.2.2.2 k)), some (.int i1), none, none, none] [] 61) t) : hb_W Γ ΛM G 5 Q s.2 [some (.ref (G.2.2.2 k)), some (.int i1), some (.int i2), some (.int s.1), none] [] 19 :=
  hb_lp_w (P := fun s : (Int32 × hb_Mem) => hb_W Γ ΛM G 5 Q s.2 [some (.ref (G.2.2.2 k)), some (.int i1), some (.int i2), some (.int s.1), none] [] 19) (E := (fun t : hb_Mem => hb_W Γ ΛM G 5 Q t [some (.ref (G.2.2.2 k)), some (.int i1), none, none, none] [] 61)) (fun s x hx K => lk_X6_spreads_19 X k hk i1 i2 s.1 s.2 hx K) _ s t h K
def lb_X6_spreads_2 (k : Nat) (w1 : Int32) (σ : hb_Mem) : Option ((Int32 × hb_Mem) ⊕ hb_Mem) :=
if (σ k 11) ≤ w1 then (
some (.inr σ))
else (
(hb_ld ΛM σ (hm_rf k 10) w1).bind fun v1 =>
(ll_X6_spreads_19 k w1 v1 (0, σ)).bind fun t6 =>
hb_nm (w1 + 1) fun v7 =>
some (.inl (v7, t6)))
set_option maxRecDepth 100000 in
set_option maxHeartbeats 4000000 in
theorem lk_X6_spreads_2 {Γ : hb_Ctx} {G : hb_Gam} {Q : State → Prop} (X : hb_X Γ cX6_spreads 5 RX6 ΛM G 3 71)  (k : Nat) (hk : hb_is ΛM k 6) (w1 : Int32) (σ : hb_Mem) {x : ((Int32 × hb_Mem) ⊕ hb_Mem)} (h : lb_X6_spreads_2 k w1 σ = some x) (K : Sum.elim (fun s : (Int32 × hb_Mem) => hb_W Γ ΛM G 5 Q s.2 [some (.ref (G.2.2.2 k)), some (.int s.1), none, none, none] [] 2) (fun t : hb_Mem => hb_W Γ ΛM G 5 Q t [none, none, none, none, none] [] 67) x) : hb_W Γ ΛM G 5 Q σ [some (.ref (G.2.2.2 k)), some (.int w1), none, none, none] [] 2 := by
  unfold lb_X6_spreads_2 at h
  refine ww_iload_n 3 X dX6_spreads_2 rfl rfl ?_
  refine ww_aload_n 4 X dX6_spreads_3 rfl rfl ?_
  refine ww_geti (ci := 6) (j := 11) 7 X cf_6 tw_X6_76 (by decide) rfl hk dX6_spreads_4 rfl ?_
  refine ww_icmp_ge 67 10 X dX6_spreads_7 (by decide) rfl h (fun h => ?_) (fun h => ?_)
  · skip
    obtain rfl := Option.some.inj h
    refine ww_kill [0, 1] (L' := [none, none, none, none, none]) rfl ?_
    exact K
  · skip
    refine ww_aload_n 11 X dX6_spreads_10 rfl rfl ?_
    refine ww_getr (ci := 6) (j := 10) 14 X cf_6 tw_X6_31 (by decide) rfl hk dX6_spreads_11 rfl ?_
    refine ww_iload_n 15 X dX6_spreads_14 rfl rfl ?_
    obtain ⟨v1, hv1, h⟩ := hb_bind_of h
    refine ww_iald 16 X (hm_kr_6_10 hk) hv1 dX6_spreads_15 rfl ?_
    refine ww_istore_n 17 X (L' := [some (.ref (G.2.2.2 k)), some (.int w1), some (.int v1), none, none]) dX6_spreads_16 rfl (Nat.le_of_ble_eq_true rfl) rfl ?_
    refine ww_iconst (v := 0) 18 X dX6_spreads_17 rfl (by decide) ?_
    refine ww_istore_n 19 X (L' := [some (.ref (G.2.2.2 k)), some (.int w1), some (.int v1), some (.int 0), none]) dX6_spreads_18 rfl (Nat.le_of_ble_eq_true rfl) rfl ?_
    obtain ⟨t6, ht6, h⟩ := hb_bind_of h
    refine lw_X6_spreads_19 X k hk w1 v1 (0, σ) t6 ht6 ?_
    obtain ⟨v7, ev7, h⟩ := hb_nm_of h
    refine ww_iinc 64 X (L' := [some (.ref (G.2.2.2 k)), some (.int v7), none, none, none]) dX6_spreads_61 rfl rfl ev7.symm rfl ?_
    refine ww_goto 2 X dX6_spreads_64 (by decide) ?_
    obtain rfl := Option.some.inj h
    exact K
def ll_X6_spreads_2 (k : Nat) : (Int32 × hb_Mem) → Option hb_Mem := hb_lp (fun s => lb_X6_spreads_2 k s.1 s.2) hb_F
theorem lw_X6_spreads_2 {Γ : hb_Ctx} {G : hb_Gam} {Q : State → Prop} (X : hb_X Γ cX6_spreads 5 RX6 ΛM G 3 71)  (k : Nat) (hk : hb_is ΛM k 6) (s : (Int32 × hb_Mem)) (t : hb_Mem) (h : ll_X6_spreads_2 k s = some t) (K : (fun t : hb_Mem => hb_W Γ ΛM G 5 Q t [none, none, none, none, none] [] 67) t) : hb_W Γ ΛM G 5 Q s.2 [some (.ref (G.2.2.2 k)), some (.int s.1), none, none, none] [] 2 :=
  hb_lp_w (P := fun s : (Int32 × hb_Mem) => hb_W Γ ΛM G 5 Q s.2 [some (.ref (G.2.2.2 k)), some (.int s.1), none, none, none] [] 2) (E := (fun t : hb_Mem => hb_W Γ ΛM G 5 Q t [none, none, none, none, none] [] 67)) (fun s x hx K => lk_X6_spreads_2 X k hk s.1 s.2 hx K) _ s t h K
def fn_X6_spreads (k : Nat) (σ : hb_Mem) : Option hb_Mem :=
(ll_X6_spreads_2 k (0, σ)).bind fun t8 =>
some t8
set_option maxRecDepth 100000 in
set_option maxHeartbeats 4000000 in
theorem wk_X6_spreads {Γ : hb_Ctx} {G : hb_Gam} {Q : State → Prop} (X : hb_X Γ cX6_spreads 5 RX6 ΛM G 3 71) (hr : hb_ret Γ = none) (k : Nat) (hk : hb_is ΛM k 6) (σ : hb_Mem) {x : hb_Mem} (h : fn_X6_spreads k σ = some x) (K : Q = hb_Q Γ ΛM G none x) : hb_W Γ ΛM G 5 Q σ [some (.ref (G.2.2.2 k)), none, none, none, none] [] 0 := by
  unfold fn_X6_spreads at h
  refine ww_iconst (v := 0) 1 X dX6_spreads_0 rfl (by decide) ?_
  refine ww_istore_n 2 X (L' := [some (.ref (G.2.2.2 k)), some (.int 0), none, none, none]) dX6_spreads_1 rfl (Nat.le_of_ble_eq_true rfl) rfl ?_
  obtain ⟨t8, ht8, h⟩ := hb_bind_of h
  refine lw_X6_spreads_2 X k hk (0, σ) t8 ht8 ?_
  obtain rfl := Option.some.inj h
  exact ww_ret_v X hr K dX6_spreads_67
theorem ct_X6_spreads (l : Launch) (G : hb_Gam) (k : Nat) (hk : hb_is ΛM k 6) (σ : hb_Mem) {x : hb_Mem} (h : fn_X6_spreads k σ = some x) : hb_C l yX6_spreads cX6_spreads 5 none 3 71 ΛM G [.ref (G.2.2.2 k)] σ none x :=
  hb_C.of [some (.ref (G.2.2.2 k)), none, none, none, none] (by decide +kernel) (Nat.le_of_ble_eq_true rfl) (by intro v hv; simp only [List.mem_cons, List.not_mem_nil, or_false] at hv; subst hv; rfl) rfl (hb_pad [.ref (G.2.2.2 k)] 4) (fun Γ X hr => wk_X6_spreads X hr k hk σ h rfl)
def fn_X6_firstPlace (k : Nat) (σ : hb_Mem) : Option Int32 :=
(fn_X6_coming k 0 0 σ).bind fun x1 =>
some x1
set_option maxRecDepth 100000 in
set_option maxHeartbeats 4000000 in
theorem wk_X6_firstPlace {Γ : hb_Ctx} {G : hb_Gam} {Q : State → Prop} (X : hb_X Γ cX6_firstPlace 1 RX6 ΛM G 2 44) (hr : hb_ret Γ = (some .int)) (k : Nat) (hk : hb_is ΛM k 6) (σ : hb_Mem) {x : Int32} (h : fn_X6_firstPlace k σ = some x) (K : Q = hb_Q Γ ΛM G (some (.int x)) σ) : hb_W Γ ΛM G 1 Q σ [some (.ref (G.2.2.2 k))] [] 0 := by
  unfold fn_X6_firstPlace at h
  refine ww_aload_n 1 X dX6_firstPlace_0 rfl rfl ?_
  refine ww_iconst (v := 0) 2 X dX6_firstPlace_1 rfl (by decide) ?_
  refine ww_iconst (v := 0) 3 X dX6_firstPlace_2 rfl (by decide) ?_
  obtain ⟨x1, hx1, h⟩ := hb_bind_of h
  refine ww_callV (ci := 6) (rest := []) (st' := [.int x1]) 6 X (ct_X6_coming (hb_l Γ) G k hk 0 0 σ hx1) cw_X6_73 rfl (by decide) hk rfl ⟨by decide, by decide⟩ (Nat.le_of_ble_eq_true rfl) rfl rfl dX6_firstPlace_3 rfl ?_
  obtain rfl := Option.some.inj h
  exact ww_ret_i X hr K dX6_firstPlace_6
theorem ct_X6_firstPlace (l : Launch) (G : hb_Gam) (k : Nat) (hk : hb_is ΛM k 6) (σ : hb_Mem) {x : Int32} (h : fn_X6_firstPlace k σ = some x) : hb_C l yX6_firstPlace cX6_firstPlace 1 (some .int) 2 44 ΛM G [.ref (G.2.2.2 k)] σ (some (.int x)) σ :=
  hb_C.of [some (.ref (G.2.2.2 k))] (by decide +kernel) (Nat.le_of_ble_eq_true rfl) (by intro v hv; simp only [List.mem_cons, List.not_mem_nil, or_false] at hv; subst hv; rfl) rfl (hb_pad [.ref (G.2.2.2 k)] 0) (fun Γ X hr => wk_X6_firstPlace X hr k hk σ h rfl)
def fn_X6_reaches (k : Nat) (σ : hb_Mem) : Option hb_Mem :=
(fn_X6_forgets k σ).bind fun x1 =>
(hb_ld ΛM x1 (hm_rf k 0) 0).bind fun v2 =>
if v2 ≤ 0 then (
some x1)
else (
(fn_X6_firstPlace k x1).bind fun x3 =>
(fn_X6_comesTo k x3 0 (-5) (-5) x1).bind fun x4 =>
(fn_X6_spreads k x4).bind fun x5 =>
some x5)
set_option maxRecDepth 100000 in
set_option maxHeartbeats 4000000 in
theorem wk_X6_reaches {Γ : hb_Ctx} {G : hb_Gam} {Q : State → Prop} (X : hb_X Γ cX6_reaches 1 RX6 ΛM G 4 95) (hr : hb_ret Γ = none) (k : Nat) (hk : hb_is ΛM k 6) (σ : hb_Mem) {x : hb_Mem} (h : fn_X6_reaches k σ = some x) (K : Q = hb_Q Γ ΛM G none x) : hb_W Γ ΛM G 1 Q σ [some (.ref (G.2.2.2 k))] [] 0 := by
  unfold fn_X6_reaches at h
  refine ww_aload_n 1 X dX6_reaches_0 rfl rfl ?_
  obtain ⟨x1, hx1, h⟩ := hb_bind_of h
  refine ww_callV (ci := 6) (rest := []) (st' := []) 4 X (ct_X6_forgets (hb_l Γ) G k hk σ hx1) cw_X6_86 rfl (by decide) hk rfl ⟨by decide, by decide⟩ (Nat.le_of_ble_eq_true rfl) rfl rfl dX6_reaches_1 rfl ?_
  refine ww_aload_n 5 X dX6_reaches_4 rfl rfl ?_
  refine ww_getr (ci := 6) (j := 0) 8 X cf_6 tw_X6_7 (by decide) rfl hk dX6_reaches_5 rfl ?_
  refine ww_iconst (v := 0) 9 X dX6_reaches_8 rfl (by decide) ?_
  obtain ⟨v2, hv2, h⟩ := hb_bind_of h
  refine ww_iald 10 X (hm_kr_6_0 hk) hv2 dX6_reaches_9 rfl ?_
  refine ww_if_le 30 13 X dX6_reaches_10 (by decide) rfl h (fun h => ?_) (fun h => ?_)
  · skip
    obtain rfl := Option.some.inj h
    exact ww_ret_v X hr K dX6_reaches_30
  · skip
    refine ww_aload_n 14 X dX6_reaches_13 rfl rfl ?_
    refine ww_aload_n 15 X dX6_reaches_14 rfl rfl ?_
    obtain ⟨x3, hx3, h⟩ := hb_bind_of h
    refine ww_callV (ci := 6) (rest := [.ref (G.2.2.2 k)]) (st' := [.int x3, .ref (G.2.2.2 k)]) 18 X (ct_X6_firstPlace (hb_l Γ) G k hk x1 hx3) cw_X6_89 rfl (by decide) hk rfl ⟨by decide, by decide⟩ (Nat.le_of_ble_eq_true rfl) rfl rfl dX6_reaches_15 rfl ?_
    refine ww_iconst (v := 0) 19 X dX6_reaches_18 rfl (by decide) ?_
    refine ww_bipush (v := (-5)) 21 X dX6_reaches_19 rfl (by decide) ?_
    refine ww_bipush (v := (-5)) 23 X dX6_reaches_21 rfl (by decide) ?_
    obtain ⟨x4, hx4, h⟩ := hb_bind_of h
    refine ww_callV (ci := 6) (rest := []) (st' := []) 26 X (ct_X6_comesTo (hb_l Γ) G k hk x3 0 (-5) (-5) x1 hx4) cw_X6_82 rfl (by decide) hk rfl ⟨by decide, by decide⟩ (Nat.le_of_ble_eq_true rfl) rfl rfl dX6_reaches_23 rfl ?_
    refine ww_aload_n 27 X dX6_reaches_26 rfl rfl ?_
    obtain ⟨x5, hx5, h⟩ := hb_bind_of h
    refine ww_callV (ci := 6) (rest := []) (st' := []) 30 X (ct_X6_spreads (hb_l Γ) G k hk x4 hx5) cw_X6_93 rfl (by decide) hk rfl ⟨by decide, by decide⟩ (Nat.le_of_ble_eq_true rfl) rfl rfl dX6_reaches_27 rfl ?_
    obtain rfl := Option.some.inj h
    exact ww_ret_v X hr K dX6_reaches_30
theorem ct_X6_reaches (l : Launch) (G : hb_Gam) (k : Nat) (hk : hb_is ΛM k 6) (σ : hb_Mem) {x : hb_Mem} (h : fn_X6_reaches k σ = some x) : hb_C l yX6_reaches cX6_reaches 1 none 4 95 ΛM G [.ref (G.2.2.2 k)] σ none x :=
  hb_C.of [some (.ref (G.2.2.2 k))] (by decide +kernel) (Nat.le_of_ble_eq_true rfl) (by intro v hv; simp only [List.mem_cons, List.not_mem_nil, or_false] at hv; subst hv; rfl) rfl (hb_pad [.ref (G.2.2.2 k)] 0) (fun Γ X hr => wk_X6_reaches X hr k hk σ h rfl)
def jn_X6_keepsPlaces_35 (k : Nat) (j1 : Int32) (s1 : Int32) (s2 : Int32) (σ : hb_Mem) : Option ((Int32 × hb_Mem) ⊕ hb_Mem) :=
(hb_st ΛM σ (hm_rf k 12) s1 s2).bind fun σ3 =>
hb_nm (j1 + 1) fun v4 =>
some (.inl (v4, σ3))
set_option maxRecDepth 100000 in
set_option maxHeartbeats 4000000 in
theorem jw_X6_keepsPlaces_35 {Γ : hb_Ctx} {G : hb_Gam} {Q : State → Prop} (X : hb_X Γ cX6_keepsPlaces 2 RX6 ΛM G 5 115)  (k : Nat) (hk : hb_is ΛM k 6) (j1 : Int32) (s1 : Int32) (s2 : Int32) (σ : hb_Mem) {x : ((Int32 × hb_Mem) ⊕ hb_Mem)} (h : jn_X6_keepsPlaces_35 k j1 s1 s2 σ = some x) (K : Sum.elim (fun s : (Int32 × hb_Mem) => hb_W Γ ΛM G 2 Q s.2 [some (.ref (G.2.2.2 k)), some (.int s.1)] [] 6) (fun t : hb_Mem => hb_W Γ ΛM G 2 Q t [none, none] [] 42) x) : hb_W Γ ΛM G 2 Q σ [some (.ref (G.2.2.2 k)), some (.int j1)] [.int s2, .int s1, .ref (G.2.2.2 (hm_rf k 12))] 35 := by
  unfold jn_X6_keepsPlaces_35 at h
  obtain ⟨σ3, hσ3, h⟩ := hb_bind_of h
  refine ww_iast 36 X (hm_kr_6_12 hk) hσ3 dX6_keepsPlaces_35 rfl ?_
  obtain ⟨v4, ev4, h⟩ := hb_nm_of h
  refine ww_iinc 39 X (L' := [some (.ref (G.2.2.2 k)), some (.int v4)]) dX6_keepsPlaces_36 rfl rfl ev4.symm rfl ?_
  refine ww_goto 6 X dX6_keepsPlaces_39 (by decide) ?_
  obtain rfl := Option.some.inj h
  exact K
def lb_X6_keepsPlaces_6 (k : Nat) (w1 : Int32) (σ : hb_Mem) : Option ((Int32 × hb_Mem) ⊕ hb_Mem) :=
if 1024 ≤ w1 then (
some (.inr σ))
else (
(hb_ld ΛM σ (hm_rf k 7) w1).bind fun v2 =>
if 9999 ≤ v2 then (
jn_X6_keepsPlaces_35 k w1 w1 0 σ)
else (
jn_X6_keepsPlaces_35 k w1 w1 1 σ))
set_option maxRecDepth 100000 in
set_option maxHeartbeats 4000000 in
theorem lk_X6_keepsPlaces_6 {Γ : hb_Ctx} {G : hb_Gam} {Q : State → Prop} (X : hb_X Γ cX6_keepsPlaces 2 RX6 ΛM G 5 115)  (k : Nat) (hk : hb_is ΛM k 6) (w1 : Int32) (σ : hb_Mem) {x : ((Int32 × hb_Mem) ⊕ hb_Mem)} (h : lb_X6_keepsPlaces_6 k w1 σ = some x) (K : Sum.elim (fun s : (Int32 × hb_Mem) => hb_W Γ ΛM G 2 Q s.2 [some (.ref (G.2.2.2 k)), some (.int s.1)] [] 6) (fun t : hb_Mem => hb_W Γ ΛM G 2 Q t [none, none] [] 42) x) : hb_W Γ ΛM G 2 Q σ [some (.ref (G.2.2.2 k)), some (.int w1)] [] 6 := by
  unfold lb_X6_keepsPlaces_6 at h
  refine ww_iload_n 7 X dX6_keepsPlaces_6 rfl rfl ?_
  refine ww_sipush (v := 1024) 10 X dX6_keepsPlaces_7 rfl (by decide) ?_
  refine ww_icmp_ge 42 13 X dX6_keepsPlaces_10 (by decide) rfl h (fun h => ?_) (fun h => ?_)
  · skip
    obtain rfl := Option.some.inj h
    refine ww_kill [0, 1] (L' := [none, none]) rfl ?_
    exact K
  · skip
    refine ww_aload_n 14 X dX6_keepsPlaces_13 rfl rfl ?_
    refine ww_getr (ci := 6) (j := 12) 17 X cf_6 tw_X6_34 (by decide) rfl hk dX6_keepsPlaces_14 rfl ?_
    refine ww_iload_n 18 X dX6_keepsPlaces_17 rfl rfl ?_
    refine ww_aload_n 19 X dX6_keepsPlaces_18 rfl rfl ?_
    refine ww_getr (ci := 6) (j := 7) 22 X cf_6 tw_X6_22 (by decide) rfl hk dX6_keepsPlaces_19 rfl ?_
    refine ww_iload_n 23 X dX6_keepsPlaces_22 rfl rfl ?_
    obtain ⟨v2, hv2, h⟩ := hb_bind_of h
    refine ww_iald 24 X (hm_kr_6_7 hk) hv2 dX6_keepsPlaces_23 rfl ?_
    refine ww_sipush (v := 9999) 27 X dX6_keepsPlaces_24 rfl (by decide) ?_
    refine ww_icmp_ge 34 30 X dX6_keepsPlaces_27 (by decide) rfl h (fun h => ?_) (fun h => ?_)
    · skip
      refine ww_iconst (v := 0) 35 X dX6_keepsPlaces_34 rfl (by decide) ?_
      exact jw_X6_keepsPlaces_35 X k hk w1 w1 0 σ h K
    · skip
      refine ww_iconst (v := 1) 31 X dX6_keepsPlaces_30 rfl (by decide) ?_
      refine ww_goto 35 X dX6_keepsPlaces_31 (by decide) ?_
      exact jw_X6_keepsPlaces_35 X k hk w1 w1 1 σ h K
def ll_X6_keepsPlaces_6 (k : Nat) : (Int32 × hb_Mem) → Option hb_Mem := hb_lp (fun s => lb_X6_keepsPlaces_6 k s.1 s.2) hb_F
theorem lw_X6_keepsPlaces_6 {Γ : hb_Ctx} {G : hb_Gam} {Q : State → Prop} (X : hb_X Γ cX6_keepsPlaces 2 RX6 ΛM G 5 115)  (k : Nat) (hk : hb_is ΛM k 6) (s : (Int32 × hb_Mem)) (t : hb_Mem) (h : ll_X6_keepsPlaces_6 k s = some t) (K : (fun t : hb_Mem => hb_W Γ ΛM G 2 Q t [none, none] [] 42) t) : hb_W Γ ΛM G 2 Q s.2 [some (.ref (G.2.2.2 k)), some (.int s.1)] [] 6 :=
  hb_lp_w (P := fun s : (Int32 × hb_Mem) => hb_W Γ ΛM G 2 Q s.2 [some (.ref (G.2.2.2 k)), some (.int s.1)] [] 6) (E := (fun t : hb_Mem => hb_W Γ ΛM G 2 Q t [none, none] [] 42)) (fun s x hx K => lk_X6_keepsPlaces_6 X k hk s.1 s.2 hx K) _ s t h K
def fn_X6_keepsPlaces (k : Nat) (σ : hb_Mem) : Option hb_Mem :=
(fn_X6_reaches k σ).bind fun x1 =>
(ll_X6_keepsPlaces_6 k (0, x1)).bind fun t5 =>
some t5
set_option maxRecDepth 100000 in
set_option maxHeartbeats 4000000 in
theorem wk_X6_keepsPlaces {Γ : hb_Ctx} {G : hb_Gam} {Q : State → Prop} (X : hb_X Γ cX6_keepsPlaces 2 RX6 ΛM G 5 115) (hr : hb_ret Γ = none) (k : Nat) (hk : hb_is ΛM k 6) (σ : hb_Mem) {x : hb_Mem} (h : fn_X6_keepsPlaces k σ = some x) (K : Q = hb_Q Γ ΛM G none x) : hb_W Γ ΛM G 2 Q σ [some (.ref (G.2.2.2 k)), none] [] 0 := by
  unfold fn_X6_keepsPlaces at h
  refine ww_aload_n 1 X dX6_keepsPlaces_0 rfl rfl ?_
  obtain ⟨x1, hx1, h⟩ := hb_bind_of h
  refine ww_callV (ci := 6) (rest := []) (st' := []) 4 X (ct_X6_reaches (hb_l Γ) G k hk σ hx1) cw_X6_96 rfl (by decide) hk rfl ⟨by decide, by decide⟩ (Nat.le_of_ble_eq_true rfl) rfl rfl dX6_keepsPlaces_1 rfl ?_
  refine ww_iconst (v := 0) 5 X dX6_keepsPlaces_4 rfl (by decide) ?_
  refine ww_istore_n 6 X (L' := [some (.ref (G.2.2.2 k)), some (.int 0)]) dX6_keepsPlaces_5 rfl (Nat.le_of_ble_eq_true rfl) rfl ?_
  obtain ⟨t5, ht5, h⟩ := hb_bind_of h
  refine lw_X6_keepsPlaces_6 X k hk (0, x1) t5 ht5 ?_
  obtain rfl := Option.some.inj h
  exact ww_ret_v X hr K dX6_keepsPlaces_42
theorem ct_X6_keepsPlaces (l : Launch) (G : hb_Gam) (k : Nat) (hk : hb_is ΛM k 6) (σ : hb_Mem) {x : hb_Mem} (h : fn_X6_keepsPlaces k σ = some x) : hb_C l yX6_keepsPlaces cX6_keepsPlaces 2 none 5 115 ΛM G [.ref (G.2.2.2 k)] σ none x :=
  hb_C.of [some (.ref (G.2.2.2 k)), none] (by decide +kernel) (Nat.le_of_ble_eq_true rfl) (by intro v hv; simp only [List.mem_cons, List.not_mem_nil, or_false] at hv; subst hv; rfl) rfl (hb_pad [.ref (G.2.2.2 k)] 1) (fun Γ X hr => wk_X6_keepsPlaces X hr k hk σ h rfl)
def jn_X6_placesOf_37 (k : Nat) (p1 : Int32) (j3 : Int32) (s0 : Int32) (s1 : Int32) (σ : hb_Mem) : Option ((Int32 × Int32) ⊕ Int32) :=
hb_nm (s0 + s1) fun v3 =>
hb_nm (j3 + 1) fun v4 =>
some (.inl (v3, v4))
set_option maxRecDepth 100000 in
set_option maxHeartbeats 4000000 in
theorem jw_X6_placesOf_37 {Γ : hb_Ctx} {G : hb_Gam} {Q : State → Prop} (X : hb_X Γ cX6_placesOf 4 RX6 ΛM G 5 115)  (k : Nat) (hk : hb_is ΛM k 6) (p1 : Int32) (j3 : Int32) (s0 : Int32) (s1 : Int32) (σ : hb_Mem) {x : ((Int32 × Int32) ⊕ Int32)} (h : jn_X6_placesOf_37 k p1 j3 s0 s1 σ = some x) (K : Sum.elim (fun s : (Int32 × Int32) => hb_W Γ ΛM G 4 Q σ [some (.ref (G.2.2.2 k)), some (.int p1), some (.int s.1), some (.int s.2)] [] 8) (fun t : Int32 => hb_W Γ ΛM G 4 Q σ [none, none, some (.int t), none] [] 45) x) : hb_W Γ ΛM G 4 Q σ [some (.ref (G.2.2.2 k)), some (.int p1), none, some (.int j3)] [.int s1, .int s0] 37 := by
  unfold jn_X6_placesOf_37 at h
  refine ww_iadd 38 X dX6_placesOf_37 rfl ?_
  obtain ⟨v3, ev3, h⟩ := hb_nm_of h
  rw [← ev3]
  refine ww_istore_n 39 X (L' := [some (.ref (G.2.2.2 k)), some (.int p1), some (.int v3), some (.int j3)]) dX6_placesOf_38 rfl (Nat.le_of_ble_eq_true rfl) rfl ?_
  obtain ⟨v4, ev4, h⟩ := hb_nm_of h
  refine ww_iinc 42 X (L' := [some (.ref (G.2.2.2 k)), some (.int p1), some (.int v3), some (.int v4)]) dX6_placesOf_39 rfl rfl ev4.symm rfl ?_
  refine ww_goto 8 X dX6_placesOf_42 (by decide) ?_
  obtain rfl := Option.some.inj h
  exact K
def lb_X6_placesOf_8 (k : Nat) (p1 : Int32) (w2 : Int32) (w3 : Int32) (σ : hb_Mem) : Option ((Int32 × Int32) ⊕ Int32) :=
if 31 < w3 then (
some (.inr w2))
else (
(hb_ld ΛM σ (hm_rf k 7) (((32 : Int32) * p1) + w3)).bind fun v2 =>
if 9999 ≤ v2 then (
jn_X6_placesOf_37 k p1 w3 w2 0 σ)
else (
jn_X6_placesOf_37 k p1 w3 w2 1 σ))
set_option maxRecDepth 100000 in
set_option maxHeartbeats 4000000 in
theorem lk_X6_placesOf_8 {Γ : hb_Ctx} {G : hb_Gam} {Q : State → Prop} (X : hb_X Γ cX6_placesOf 4 RX6 ΛM G 5 115)  (k : Nat) (hk : hb_is ΛM k 6) (p1 : Int32) (w2 : Int32) (w3 : Int32) (σ : hb_Mem) {x : ((Int32 × Int32) ⊕ Int32)} (h : lb_X6_placesOf_8 k p1 w2 w3 σ = some x) (K : Sum.elim (fun s : (Int32 × Int32) => hb_W Γ ΛM G 4 Q σ [some (.ref (G.2.2.2 k)), some (.int p1), some (.int s.1), some (.int s.2)] [] 8) (fun t : Int32 => hb_W Γ ΛM G 4 Q σ [none, none, some (.int t), none] [] 45) x) : hb_W Γ ΛM G 4 Q σ [some (.ref (G.2.2.2 k)), some (.int p1), some (.int w2), some (.int w3)] [] 8 := by
  unfold lb_X6_placesOf_8 at h
  refine ww_iload_n 9 X dX6_placesOf_8 rfl rfl ?_
  refine ww_bipush (v := 31) 11 X dX6_placesOf_9 rfl (by decide) ?_
  refine ww_icmp_gt 45 14 X dX6_placesOf_11 (by decide) rfl h (fun h => ?_) (fun h => ?_)
  · skip
    obtain rfl := Option.some.inj h
    refine ww_kill [0, 1, 3] (L' := [none, none, some (.int w2), none]) rfl ?_
    exact K
  · skip
    refine ww_iload_n 15 X dX6_placesOf_14 rfl rfl ?_
    refine ww_aload_n 16 X dX6_placesOf_15 rfl rfl ?_
    refine ww_getr (ci := 6) (j := 7) 19 X cf_6 tw_X6_22 (by decide) rfl hk dX6_placesOf_16 rfl ?_
    refine ww_bipush (v := 32) 21 X dX6_placesOf_19 rfl (by decide) ?_
    refine ww_iload_n 22 X dX6_placesOf_21 rfl rfl ?_
    refine ww_imul 23 X dX6_placesOf_22 rfl ?_
    refine ww_iload_n 24 X dX6_placesOf_23 rfl rfl ?_
    refine ww_iadd 25 X dX6_placesOf_24 rfl ?_
    obtain ⟨v2, hv2, h⟩ := hb_bind_of h
    refine ww_iald 26 X (hm_kr_6_7 hk) hv2 dX6_placesOf_25 rfl ?_
    refine ww_sipush (v := 9999) 29 X dX6_placesOf_26 rfl (by decide) ?_
    refine ww_icmp_ge 36 32 X dX6_placesOf_29 (by decide) rfl h (fun h => ?_) (fun h => ?_)
    · skip
      refine ww_iconst (v := 0) 37 X dX6_placesOf_36 rfl (by decide) ?_
      refine ww_kill [2] (L' := [some (.ref (G.2.2.2 k)), some (.int p1), none, some (.int w3)]) rfl ?_
      exact jw_X6_placesOf_37 X k hk p1 w3 w2 0 σ h K
    · skip
      refine ww_iconst (v := 1) 33 X dX6_placesOf_32 rfl (by decide) ?_
      refine ww_goto 37 X dX6_placesOf_33 (by decide) ?_
      refine ww_kill [2] (L' := [some (.ref (G.2.2.2 k)), some (.int p1), none, some (.int w3)]) rfl ?_
      exact jw_X6_placesOf_37 X k hk p1 w3 w2 1 σ h K
def ll_X6_placesOf_8 (k : Nat) (p1 : Int32) (σ : hb_Mem) : (Int32 × Int32) → Option Int32 := hb_lp (fun s => lb_X6_placesOf_8 k p1 s.1 s.2 σ) hb_F
theorem lw_X6_placesOf_8 {Γ : hb_Ctx} {G : hb_Gam} {Q : State → Prop} (X : hb_X Γ cX6_placesOf 4 RX6 ΛM G 5 115)  (k : Nat) (hk : hb_is ΛM k 6) (p1 : Int32) (σ : hb_Mem) (s : (Int32 × Int32)) (t : Int32) (h : ll_X6_placesOf_8 k p1 σ s = some t) (K : (fun t : Int32 => hb_W Γ ΛM G 4 Q σ [none, none, some (.int t), none] [] 45) t) : hb_W Γ ΛM G 4 Q σ [some (.ref (G.2.2.2 k)), some (.int p1), some (.int s.1), some (.int s.2)] [] 8 :=
  hb_lp_w (P := fun s : (Int32 × Int32) => hb_W Γ ΛM G 4 Q σ [some (.ref (G.2.2.2 k)), some (.int p1), some (.int s.1), some (.int s.2)] [] 8) (E := (fun t : Int32 => hb_W Γ ΛM G 4 Q σ [none, none, some (.int t), none] [] 45)) (fun s x hx K => lk_X6_placesOf_8 X k hk p1 s.1 s.2 σ hx K) _ s t h K
def fn_X6_placesOf (k : Nat) (p1 : Int32) (σ : hb_Mem) : Option (Int32 × hb_Mem) :=
(fn_X6_reaches k σ).bind fun x1 =>
(ll_X6_placesOf_8 k p1 x1 (0, 0)).bind fun t5 =>
some (t5, x1)
set_option maxRecDepth 100000 in
set_option maxHeartbeats 4000000 in
theorem wk_X6_placesOf {Γ : hb_Ctx} {G : hb_Gam} {Q : State → Prop} (X : hb_X Γ cX6_placesOf 4 RX6 ΛM G 5 115) (hr : hb_ret Γ = (some .int)) (k : Nat) (hk : hb_is ΛM k 6) (p1 : Int32) (σ : hb_Mem) {x : (Int32 × hb_Mem)} (h : fn_X6_placesOf k p1 σ = some x) (K : Q = hb_Q Γ ΛM G (some (.int x.1)) x.2) : hb_W Γ ΛM G 4 Q σ [some (.ref (G.2.2.2 k)), some (.int p1), none, none] [] 0 := by
  unfold fn_X6_placesOf at h
  refine ww_aload_n 1 X dX6_placesOf_0 rfl rfl ?_
  obtain ⟨x1, hx1, h⟩ := hb_bind_of h
  refine ww_callV (ci := 6) (rest := []) (st' := []) 4 X (ct_X6_reaches (hb_l Γ) G k hk σ hx1) cw_X6_96 rfl (by decide) hk rfl ⟨by decide, by decide⟩ (Nat.le_of_ble_eq_true rfl) rfl rfl dX6_placesOf_1 rfl ?_
  refine ww_iconst (v := 0) 5 X dX6_placesOf_4 rfl (by decide) ?_
  refine ww_istore_n 6 X (L' := [some (.ref (G.2.2.2 k)), some (.int p1), some (.int 0), none]) dX6_placesOf_5 rfl (Nat.le_of_ble_eq_true rfl) rfl ?_
  refine ww_iconst (v := 0) 7 X dX6_placesOf_6 rfl (by decide) ?_
  refine ww_istore_n 8 X (L' := [some (.ref (G.2.2.2 k)), some (.int p1), some (.int 0), some (.int 0)]) dX6_placesOf_7 rfl (Nat.le_of_ble_eq_true rfl) rfl ?_
  obtain ⟨t5, ht5, h⟩ := hb_bind_of h
  refine lw_X6_placesOf_8 X k hk p1 x1 (0, 0) t5 ht5 ?_
  refine ww_iload_n 46 X dX6_placesOf_45 rfl rfl ?_
  obtain rfl := Option.some.inj h
  exact ww_ret_i X hr K dX6_placesOf_46
theorem ct_X6_placesOf (l : Launch) (G : hb_Gam) (k : Nat) (hk : hb_is ΛM k 6) (p1 : Int32) (σ : hb_Mem) {x : (Int32 × hb_Mem)} (h : fn_X6_placesOf k p1 σ = some x) : hb_C l yX6_placesOf cX6_placesOf 4 (some .int) 5 115 ΛM G [.ref (G.2.2.2 k), .int p1] σ (some (.int x.1)) x.2 :=
  hb_C.of [some (.ref (G.2.2.2 k)), some (.int p1), none, none] (by decide +kernel) (Nat.le_of_ble_eq_true rfl) (by intro v hv; simp only [List.mem_cons, List.not_mem_nil, or_false] at hv; rcases hv with rfl | rfl <;> rfl) rfl (hb_pad [.ref (G.2.2.2 k), .int p1] 2) (fun Γ X hr => wk_X6_placesOf X hr k hk p1 σ h rfl)
def jn_X6_fewest_46 (k : Nat) (p1 : Int32) (j3 : Int32) (s0 : Int32) (σ : hb_Mem) : Option ((Int32 × Int32) ⊕ Int32) :=
hb_nm (j3 + 1) fun v3 =>
some (.inl (s0, v3))
set_option maxRecDepth 100000 in
set_option maxHeartbeats 4000000 in
theorem jw_X6_fewest_46 {Γ : hb_Ctx} {G : hb_Gam} {Q : State → Prop} (X : hb_X Γ cX6_fewest 4 RX6 ΛM G 5 115)  (k : Nat) (hk : hb_is ΛM k 6) (p1 : Int32) (j3 : Int32) (s0 : Int32) (σ : hb_Mem) {x : ((Int32 × Int32) ⊕ Int32)} (h : jn_X6_fewest_46 k p1 j3 s0 σ = some x) (K : Sum.elim (fun s : (Int32 × Int32) => hb_W Γ ΛM G 4 Q σ [some (.ref (G.2.2.2 k)), some (.int p1), some (.int s.1), some (.int s.2)] [] 10) (fun t : Int32 => hb_W Γ ΛM G 4 Q σ [none, none, some (.int t), none] [] 53) x) : hb_W Γ ΛM G 4 Q σ [some (.ref (G.2.2.2 k)), some (.int p1), none, some (.int j3)] [.int s0] 46 := by
  unfold jn_X6_fewest_46 at h
  refine ww_istore_n 47 X (L' := [some (.ref (G.2.2.2 k)), some (.int p1), some (.int s0), some (.int j3)]) dX6_fewest_46 rfl (Nat.le_of_ble_eq_true rfl) rfl ?_
  obtain ⟨v3, ev3, h⟩ := hb_nm_of h
  refine ww_iinc 50 X (L' := [some (.ref (G.2.2.2 k)), some (.int p1), some (.int s0), some (.int v3)]) dX6_fewest_47 rfl rfl ev3.symm rfl ?_
  refine ww_goto 10 X dX6_fewest_50 (by decide) ?_
  obtain rfl := Option.some.inj h
  exact K
def lb_X6_fewest_10 (k : Nat) (p1 : Int32) (w2 : Int32) (w3 : Int32) (σ : hb_Mem) : Option ((Int32 × Int32) ⊕ Int32) :=
if 31 < w3 then (
some (.inr w2))
else (
(hb_ld ΛM σ (hm_rf k 7) (((32 : Int32) * p1) + w3)).bind fun v2 =>
if w2 ≤ v2 then (
jn_X6_fewest_46 k p1 w3 w2 σ)
else (
(hb_ld ΛM σ (hm_rf k 7) (((32 : Int32) * p1) + w3)).bind fun v4 =>
jn_X6_fewest_46 k p1 w3 v4 σ))
set_option maxRecDepth 100000 in
set_option maxHeartbeats 4000000 in
theorem lk_X6_fewest_10 {Γ : hb_Ctx} {G : hb_Gam} {Q : State → Prop} (X : hb_X Γ cX6_fewest 4 RX6 ΛM G 5 115)  (k : Nat) (hk : hb_is ΛM k 6) (p1 : Int32) (w2 : Int32) (w3 : Int32) (σ : hb_Mem) {x : ((Int32 × Int32) ⊕ Int32)} (h : lb_X6_fewest_10 k p1 w2 w3 σ = some x) (K : Sum.elim (fun s : (Int32 × Int32) => hb_W Γ ΛM G 4 Q σ [some (.ref (G.2.2.2 k)), some (.int p1), some (.int s.1), some (.int s.2)] [] 10) (fun t : Int32 => hb_W Γ ΛM G 4 Q σ [none, none, some (.int t), none] [] 53) x) : hb_W Γ ΛM G 4 Q σ [some (.ref (G.2.2.2 k)), some (.int p1), some (.int w2), some (.int w3)] [] 10 := by
  unfold lb_X6_fewest_10 at h
  refine ww_iload_n 11 X dX6_fewest_10 rfl rfl ?_
  refine ww_bipush (v := 31) 13 X dX6_fewest_11 rfl (by decide) ?_
  refine ww_icmp_gt 53 16 X dX6_fewest_13 (by decide) rfl h (fun h => ?_) (fun h => ?_)
  · skip
    obtain rfl := Option.some.inj h
    refine ww_kill [0, 1, 3] (L' := [none, none, some (.int w2), none]) rfl ?_
    exact K
  · skip
    refine ww_aload_n 17 X dX6_fewest_16 rfl rfl ?_
    refine ww_getr (ci := 6) (j := 7) 20 X cf_6 tw_X6_22 (by decide) rfl hk dX6_fewest_17 rfl ?_
    refine ww_bipush (v := 32) 22 X dX6_fewest_20 rfl (by decide) ?_
    refine ww_iload_n 23 X dX6_fewest_22 rfl rfl ?_
    refine ww_imul 24 X dX6_fewest_23 rfl ?_
    refine ww_iload_n 25 X dX6_fewest_24 rfl rfl ?_
    refine ww_iadd 26 X dX6_fewest_25 rfl ?_
    obtain ⟨v2, hv2, h⟩ := hb_bind_of h
    refine ww_iald 27 X (hm_kr_6_7 hk) hv2 dX6_fewest_26 rfl ?_
    refine ww_iload_n 28 X dX6_fewest_27 rfl rfl ?_
    refine ww_icmp_ge 45 31 X dX6_fewest_28 (by decide) rfl h (fun h => ?_) (fun h => ?_)
    · skip
      refine ww_iload_n 46 X dX6_fewest_45 rfl rfl ?_
      refine ww_kill [2] (L' := [some (.ref (G.2.2.2 k)), some (.int p1), none, some (.int w3)]) rfl ?_
      exact jw_X6_fewest_46 X k hk p1 w3 w2 σ h K
    · skip
      refine ww_aload_n 32 X dX6_fewest_31 rfl rfl ?_
      refine ww_getr (ci := 6) (j := 7) 35 X cf_6 tw_X6_22 (by decide) rfl hk dX6_fewest_32 rfl ?_
      refine ww_bipush (v := 32) 37 X dX6_fewest_35 rfl (by decide) ?_
      refine ww_iload_n 38 X dX6_fewest_37 rfl rfl ?_
      refine ww_imul 39 X dX6_fewest_38 rfl ?_
      refine ww_iload_n 40 X dX6_fewest_39 rfl rfl ?_
      refine ww_iadd 41 X dX6_fewest_40 rfl ?_
      obtain ⟨v4, hv4, h⟩ := hb_bind_of h
      refine ww_iald 42 X (hm_kr_6_7 hk) hv4 dX6_fewest_41 rfl ?_
      refine ww_goto 46 X dX6_fewest_42 (by decide) ?_
      refine ww_kill [2] (L' := [some (.ref (G.2.2.2 k)), some (.int p1), none, some (.int w3)]) rfl ?_
      exact jw_X6_fewest_46 X k hk p1 w3 v4 σ h K
def ll_X6_fewest_10 (k : Nat) (p1 : Int32) (σ : hb_Mem) : (Int32 × Int32) → Option Int32 := hb_lp (fun s => lb_X6_fewest_10 k p1 s.1 s.2 σ) hb_F
theorem lw_X6_fewest_10 {Γ : hb_Ctx} {G : hb_Gam} {Q : State → Prop} (X : hb_X Γ cX6_fewest 4 RX6 ΛM G 5 115)  (k : Nat) (hk : hb_is ΛM k 6) (p1 : Int32) (σ : hb_Mem) (s : (Int32 × Int32)) (t : Int32) (h : ll_X6_fewest_10 k p1 σ s = some t) (K : (fun t : Int32 => hb_W Γ ΛM G 4 Q σ [none, none, some (.int t), none] [] 53) t) : hb_W Γ ΛM G 4 Q σ [some (.ref (G.2.2.2 k)), some (.int p1), some (.int s.1), some (.int s.2)] [] 10 :=
  hb_lp_w (P := fun s : (Int32 × Int32) => hb_W Γ ΛM G 4 Q σ [some (.ref (G.2.2.2 k)), some (.int p1), some (.int s.1), some (.int s.2)] [] 10) (E := (fun t : Int32 => hb_W Γ ΛM G 4 Q σ [none, none, some (.int t), none] [] 53)) (fun s x hx K => lk_X6_fewest_10 X k hk p1 s.1 s.2 σ hx K) _ s t h K
def fn_X6_fewest (k : Nat) (p1 : Int32) (σ : hb_Mem) : Option (Int32 × hb_Mem) :=
(fn_X6_reaches k σ).bind fun x1 =>
(ll_X6_fewest_10 k p1 x1 (9999, 0)).bind fun t5 =>
if t5 = 9999 then (
some ((-5), x1))
else (
some (t5, x1))
set_option maxRecDepth 100000 in
set_option maxHeartbeats 4000000 in
theorem wk_X6_fewest {Γ : hb_Ctx} {G : hb_Gam} {Q : State → Prop} (X : hb_X Γ cX6_fewest 4 RX6 ΛM G 5 115) (hr : hb_ret Γ = (some .int)) (k : Nat) (hk : hb_is ΛM k 6) (p1 : Int32) (σ : hb_Mem) {x : (Int32 × hb_Mem)} (h : fn_X6_fewest k p1 σ = some x) (K : Q = hb_Q Γ ΛM G (some (.int x.1)) x.2) : hb_W Γ ΛM G 4 Q σ [some (.ref (G.2.2.2 k)), some (.int p1), none, none] [] 0 := by
  unfold fn_X6_fewest at h
  refine ww_aload_n 1 X dX6_fewest_0 rfl rfl ?_
  obtain ⟨x1, hx1, h⟩ := hb_bind_of h
  refine ww_callV (ci := 6) (rest := []) (st' := []) 4 X (ct_X6_reaches (hb_l Γ) G k hk σ hx1) cw_X6_96 rfl (by decide) hk rfl ⟨by decide, by decide⟩ (Nat.le_of_ble_eq_true rfl) rfl rfl dX6_fewest_1 rfl ?_
  refine ww_sipush (v := 9999) 7 X dX6_fewest_4 rfl (by decide) ?_
  refine ww_istore_n 8 X (L' := [some (.ref (G.2.2.2 k)), some (.int p1), some (.int 9999), none]) dX6_fewest_7 rfl (Nat.le_of_ble_eq_true rfl) rfl ?_
  refine ww_iconst (v := 0) 9 X dX6_fewest_8 rfl (by decide) ?_
  refine ww_istore_n 10 X (L' := [some (.ref (G.2.2.2 k)), some (.int p1), some (.int 9999), some (.int 0)]) dX6_fewest_9 rfl (Nat.le_of_ble_eq_true rfl) rfl ?_
  obtain ⟨t5, ht5, h⟩ := hb_bind_of h
  refine lw_X6_fewest_10 X k hk p1 x1 (9999, 0) t5 ht5 ?_
  refine ww_iload_n 54 X dX6_fewest_53 rfl rfl ?_
  refine ww_sipush (v := 9999) 57 X dX6_fewest_54 rfl (by decide) ?_
  refine ww_icmp_ne 65 60 X dX6_fewest_57 (by decide) rfl h (fun h => ?_) (fun h => ?_)
  · skip
    refine ww_bipush (v := (-5)) 62 X dX6_fewest_60 rfl (by decide) ?_
    refine ww_goto 66 X dX6_fewest_62 (by decide) ?_
    obtain rfl := Option.some.inj h
    exact ww_ret_i X hr K dX6_fewest_66
  · skip
    refine ww_iload_n 66 X dX6_fewest_65 rfl rfl ?_
    obtain rfl := Option.some.inj h
    exact ww_ret_i X hr K dX6_fewest_66
theorem ct_X6_fewest (l : Launch) (G : hb_Gam) (k : Nat) (hk : hb_is ΛM k 6) (p1 : Int32) (σ : hb_Mem) {x : (Int32 × hb_Mem)} (h : fn_X6_fewest k p1 σ = some x) : hb_C l yX6_fewest cX6_fewest 4 (some .int) 5 115 ΛM G [.ref (G.2.2.2 k), .int p1] σ (some (.int x.1)) x.2 :=
  hb_C.of [some (.ref (G.2.2.2 k)), some (.int p1), none, none] (by decide +kernel) (Nat.le_of_ble_eq_true rfl) (by intro v hv; simp only [List.mem_cons, List.not_mem_nil, or_false] at hv; rcases hv with rfl | rfl <;> rfl) rfl (hb_pad [.ref (G.2.2.2 k), .int p1] 2) (fun Γ X hr => wk_X6_fewest X hr k hk p1 σ h rfl)
def jn_X6_comesAgain_70 (k : Nat) (p1 : Int32) (i2 : Int32) (j3 : Int32) (σ : hb_Mem) : Option ((Int32 × hb_Mem) ⊕ hb_Mem) :=
hb_nm (j3 + 1) fun v3 =>
some (.inl (v3, σ))
set_option maxRecDepth 100000 in
set_option maxHeartbeats 4000000 in
theorem jw_X6_comesAgain_70 {Γ : hb_Ctx} {G : hb_Gam} {Q : State → Prop} (X : hb_X Γ cX6_comesAgain 5 RX6 ΛM G 4 95)  (k : Nat) (hk : hb_is ΛM k 6) (p1 : Int32) (i2 : Int32) (j3 : Int32) (σ : hb_Mem) {x : ((Int32 × hb_Mem) ⊕ hb_Mem)} (h : jn_X6_comesAgain_70 k p1 i2 j3 σ = some x) (K : Sum.elim (fun s : (Int32 × hb_Mem) => hb_W Γ ΛM G 5 Q s.2 [some (.ref (G.2.2.2 k)), some (.int p1), some (.int i2), some (.int s.1), none] [] 14) (fun t : hb_Mem => hb_W Γ ΛM G 5 Q t [some (.ref (G.2.2.2 k)), some (.int p1), some (.int i2), none, none] [] 76) x) : hb_W Γ ΛM G 5 Q σ [some (.ref (G.2.2.2 k)), some (.int p1), some (.int i2), some (.int j3), none] [] 70 := by
  unfold jn_X6_comesAgain_70 at h
  obtain ⟨v3, ev3, h⟩ := hb_nm_of h
  refine ww_iinc 73 X (L' := [some (.ref (G.2.2.2 k)), some (.int p1), some (.int i2), some (.int v3), none]) dX6_comesAgain_70 rfl rfl ev3.symm rfl ?_
  refine ww_goto 14 X dX6_comesAgain_73 (by decide) ?_
  obtain rfl := Option.some.inj h
  exact K
def jn_X6_comesAgain_50 (k : Nat) (p1 : Int32) (i2 : Int32) (j3 : Int32) (s0 : Int32) (σ : hb_Mem) : Option ((Int32 × hb_Mem) ⊕ hb_Mem) :=
if s0 = (-5) then (
jn_X6_comesAgain_70 k p1 i2 j3 σ)
else (
(fn_X6_comesTo k s0 0 (-5) (-5) σ).bind fun x4 =>
jn_X6_comesAgain_70 k p1 i2 j3 x4)
set_option maxRecDepth 100000 in
set_option maxHeartbeats 4000000 in
theorem jw_X6_comesAgain_50 {Γ : hb_Ctx} {G : hb_Gam} {Q : State → Prop} (X : hb_X Γ cX6_comesAgain 5 RX6 ΛM G 4 95)  (k : Nat) (hk : hb_is ΛM k 6) (p1 : Int32) (i2 : Int32) (j3 : Int32) (s0 : Int32) (σ : hb_Mem) {x : ((Int32 × hb_Mem) ⊕ hb_Mem)} (h : jn_X6_comesAgain_50 k p1 i2 j3 s0 σ = some x) (K : Sum.elim (fun s : (Int32 × hb_Mem) => hb_W Γ ΛM G 5 Q s.2 [some (.ref (G.2.2.2 k)), some (.int p1), some (.int i2), some (.int s.1), none] [] 14) (fun t : hb_Mem => hb_W Γ ΛM G 5 Q t [some (.ref (G.2.2.2 k)), some (.int p1), some (.int i2), none, none] [] 76) x) : hb_W Γ ΛM G 5 Q σ [some (.ref (G.2.2.2 k)), some (.int p1), some (.int i2), some (.int j3), none] [.int s0] 50 := by
  unfold jn_X6_comesAgain_50 at h
  refine ww_istore 52 X (L' := [some (.ref (G.2.2.2 k)), some (.int p1), some (.int i2), some (.int j3), some (.int s0)]) dX6_comesAgain_50 rfl (Nat.le_of_ble_eq_true rfl) rfl ?_
  refine ww_iload 54 X dX6_comesAgain_52 rfl rfl ?_
  refine ww_bipush (v := (-5)) 56 X dX6_comesAgain_54 rfl (by decide) ?_
  refine ww_icmp_eq 70 59 X dX6_comesAgain_56 (by decide) rfl h (fun h => ?_) (fun h => ?_)
  · skip
    refine ww_kill [4] (L' := [some (.ref (G.2.2.2 k)), some (.int p1), some (.int i2), some (.int j3), none]) rfl ?_
    exact jw_X6_comesAgain_70 X k hk p1 i2 j3 σ h K
  · skip
    refine ww_aload_n 60 X dX6_comesAgain_59 rfl rfl ?_
    refine ww_iload 62 X dX6_comesAgain_60 rfl rfl ?_
    refine ww_iconst (v := 0) 63 X dX6_comesAgain_62 rfl (by decide) ?_
    refine ww_bipush (v := (-5)) 65 X dX6_comesAgain_63 rfl (by decide) ?_
    refine ww_bipush (v := (-5)) 67 X dX6_comesAgain_65 rfl (by decide) ?_
    obtain ⟨x4, hx4, h⟩ := hb_bind_of h
    refine ww_callV (ci := 6) (rest := []) (st' := []) 70 X (ct_X6_comesTo (hb_l Γ) G k hk s0 0 (-5) (-5) σ hx4) cw_X6_82 rfl (by decide) hk rfl ⟨by decide, by decide⟩ (Nat.le_of_ble_eq_true rfl) rfl rfl dX6_comesAgain_67 rfl ?_
    refine ww_kill [4] (L' := [some (.ref (G.2.2.2 k)), some (.int p1), some (.int i2), some (.int j3), none]) rfl ?_
    exact jw_X6_comesAgain_70 X k hk p1 i2 j3 x4 h K
def lb_X6_comesAgain_14 (k : Nat) (p1 : Int32) (i2 : Int32) (w3 : Int32) (σ : hb_Mem) : Option ((Int32 × hb_Mem) ⊕ hb_Mem) :=
if 3 ≤ w3 then (
some (.inr σ))
else (
(hb_ld ΛM σ (hm_rf k 12) (((32 : Int32) * p1) + i2)).bind fun v2 =>
if v2 = 1 then (
(fn_X6_behind k (((32 : Int32) * p1) + i2) w3 σ).bind fun x5 =>
jn_X6_comesAgain_50 k p1 i2 w3 x5 σ)
else (
jn_X6_comesAgain_50 k p1 i2 w3 (-5) σ))
set_option maxRecDepth 100000 in
set_option maxHeartbeats 4000000 in
theorem lk_X6_comesAgain_14 {Γ : hb_Ctx} {G : hb_Gam} {Q : State → Prop} (X : hb_X Γ cX6_comesAgain 5 RX6 ΛM G 4 95)  (k : Nat) (hk : hb_is ΛM k 6) (p1 : Int32) (i2 : Int32) (w3 : Int32) (σ : hb_Mem) {x : ((Int32 × hb_Mem) ⊕ hb_Mem)} (h : lb_X6_comesAgain_14 k p1 i2 w3 σ = some x) (K : Sum.elim (fun s : (Int32 × hb_Mem) => hb_W Γ ΛM G 5 Q s.2 [some (.ref (G.2.2.2 k)), some (.int p1), some (.int i2), some (.int s.1), none] [] 14) (fun t : hb_Mem => hb_W Γ ΛM G 5 Q t [some (.ref (G.2.2.2 k)), some (.int p1), some (.int i2), none, none] [] 76) x) : hb_W Γ ΛM G 5 Q σ [some (.ref (G.2.2.2 k)), some (.int p1), some (.int i2), some (.int w3), none] [] 14 := by
  unfold lb_X6_comesAgain_14 at h
  refine ww_iload_n 15 X dX6_comesAgain_14 rfl rfl ?_
  refine ww_iconst (v := 3) 16 X dX6_comesAgain_15 rfl (by decide) ?_
  refine ww_icmp_ge 76 19 X dX6_comesAgain_16 (by decide) rfl h (fun h => ?_) (fun h => ?_)
  · skip
    obtain rfl := Option.some.inj h
    refine ww_kill [3] (L' := [some (.ref (G.2.2.2 k)), some (.int p1), some (.int i2), none, none]) rfl ?_
    exact K
  · skip
    refine ww_aload_n 20 X dX6_comesAgain_19 rfl rfl ?_
    refine ww_getr (ci := 6) (j := 12) 23 X cf_6 tw_X6_34 (by decide) rfl hk dX6_comesAgain_20 rfl ?_
    refine ww_bipush (v := 32) 25 X dX6_comesAgain_23 rfl (by decide) ?_
    refine ww_iload_n 26 X dX6_comesAgain_25 rfl rfl ?_
    refine ww_imul 27 X dX6_comesAgain_26 rfl ?_
    refine ww_iload_n 28 X dX6_comesAgain_27 rfl rfl ?_
    refine ww_iadd 29 X dX6_comesAgain_28 rfl ?_
    obtain ⟨v2, hv2, h⟩ := hb_bind_of h
    refine ww_iald 30 X (hm_kr_6_12 hk) hv2 dX6_comesAgain_29 rfl ?_
    refine ww_iconst (v := 1) 31 X dX6_comesAgain_30 rfl (by decide) ?_
    refine ww_icmp_ne 48 34 X dX6_comesAgain_31 (by decide) rfl h (fun h => ?_) (fun h => ?_)
    · skip
      refine ww_aload_n 35 X dX6_comesAgain_34 rfl rfl ?_
      refine ww_bipush (v := 32) 37 X dX6_comesAgain_35 rfl (by decide) ?_
      refine ww_iload_n 38 X dX6_comesAgain_37 rfl rfl ?_
      refine ww_imul 39 X dX6_comesAgain_38 rfl ?_
      refine ww_iload_n 40 X dX6_comesAgain_39 rfl rfl ?_
      refine ww_iadd 41 X dX6_comesAgain_40 rfl ?_
      refine ww_iload_n 42 X dX6_comesAgain_41 rfl rfl ?_
      obtain ⟨x5, hx5, h⟩ := hb_bind_of h
      refine ww_callV (ci := 6) (rest := []) (st' := [.int x5]) 45 X (ct_X6_behind (hb_l Γ) G k hk (((32 : Int32) * p1) + i2) w3 σ hx5) cw_X6_79 rfl (by decide) hk rfl ⟨by decide, by decide⟩ (Nat.le_of_ble_eq_true rfl) rfl rfl dX6_comesAgain_42 rfl ?_
      refine ww_goto 50 X dX6_comesAgain_45 (by decide) ?_
      exact jw_X6_comesAgain_50 X k hk p1 i2 w3 x5 σ h K
    · skip
      refine ww_bipush (v := (-5)) 50 X dX6_comesAgain_48 rfl (by decide) ?_
      exact jw_X6_comesAgain_50 X k hk p1 i2 w3 (-5) σ h K
def ll_X6_comesAgain_14 (k : Nat) (p1 : Int32) (i2 : Int32) : (Int32 × hb_Mem) → Option hb_Mem := hb_lp (fun s => lb_X6_comesAgain_14 k p1 i2 s.1 s.2) hb_F
theorem lw_X6_comesAgain_14 {Γ : hb_Ctx} {G : hb_Gam} {Q : State → Prop} (X : hb_X Γ cX6_comesAgain 5 RX6 ΛM G 4 95)  (k : Nat) (hk : hb_is ΛM k 6) (p1 : Int32) (i2 : Int32) (s : (Int32 × hb_Mem)) (t : hb_Mem) (h : ll_X6_comesAgain_14 k p1 i2 s = some t) (K : (fun t : hb_Mem => hb_W Γ ΛM G 5 Q t [some (.ref (G.2.2.2 k)), some (.int p1), some (.int i2), none, none] [] 76) t) : hb_W Γ ΛM G 5 Q s.2 [some (.ref (G.2.2.2 k)), some (.int p1), some (.int i2), some (.int s.1), none] [] 14 :=
  hb_lp_w (P := fun s : (Int32 × hb_Mem) => hb_W Γ ΛM G 5 Q s.2 [some (.ref (G.2.2.2 k)), some (.int p1), some (.int i2), some (.int s.1), none] [] 14) (E := (fun t : hb_Mem => hb_W Γ ΛM G 5 Q t [some (.ref (G.2.2.2 k)), some (.int p1), some (.int i2), none, none] [] 76)) (fun s x hx K => lk_X6_comesAgain_14 X k hk p1 i2 s.1 s.2 hx K) _ s t h K
def lb_X6_comesAgain_6 (k : Nat) (p1 : Int32) (w2 : Int32) (σ : hb_Mem) : Option ((Int32 × hb_Mem) ⊕ hb_Mem) :=
if 31 < w2 then (
some (.inr σ))
else (
(ll_X6_comesAgain_14 k p1 w2 (0, σ)).bind fun t6 =>
hb_nm (w2 + 1) fun v7 =>
some (.inl (v7, t6)))
set_option maxRecDepth 100000 in
set_option maxHeartbeats 4000000 in
theorem lk_X6_comesAgain_6 {Γ : hb_Ctx} {G : hb_Gam} {Q : State → Prop} (X : hb_X Γ cX6_comesAgain 5 RX6 ΛM G 4 95)  (k : Nat) (hk : hb_is ΛM k 6) (p1 : Int32) (w2 : Int32) (σ : hb_Mem) {x : ((Int32 × hb_Mem) ⊕ hb_Mem)} (h : lb_X6_comesAgain_6 k p1 w2 σ = some x) (K : Sum.elim (fun s : (Int32 × hb_Mem) => hb_W Γ ΛM G 5 Q s.2 [some (.ref (G.2.2.2 k)), some (.int p1), some (.int s.1), none, none] [] 6) (fun t : hb_Mem => hb_W Γ ΛM G 5 Q t [some (.ref (G.2.2.2 k)), some (.int p1), none, none, none] [] 82) x) : hb_W Γ ΛM G 5 Q σ [some (.ref (G.2.2.2 k)), some (.int p1), some (.int w2), none, none] [] 6 := by
  unfold lb_X6_comesAgain_6 at h
  refine ww_iload_n 7 X dX6_comesAgain_6 rfl rfl ?_
  refine ww_bipush (v := 31) 9 X dX6_comesAgain_7 rfl (by decide) ?_
  refine ww_icmp_gt 82 12 X dX6_comesAgain_9 (by decide) rfl h (fun h => ?_) (fun h => ?_)
  · skip
    obtain rfl := Option.some.inj h
    refine ww_kill [2] (L' := [some (.ref (G.2.2.2 k)), some (.int p1), none, none, none]) rfl ?_
    exact K
  · skip
    refine ww_iconst (v := 0) 13 X dX6_comesAgain_12 rfl (by decide) ?_
    refine ww_istore_n 14 X (L' := [some (.ref (G.2.2.2 k)), some (.int p1), some (.int w2), some (.int 0), none]) dX6_comesAgain_13 rfl (Nat.le_of_ble_eq_true rfl) rfl ?_
    obtain ⟨t6, ht6, h⟩ := hb_bind_of h
    refine lw_X6_comesAgain_14 X k hk p1 w2 (0, σ) t6 ht6 ?_
    obtain ⟨v7, ev7, h⟩ := hb_nm_of h
    refine ww_iinc 79 X (L' := [some (.ref (G.2.2.2 k)), some (.int p1), some (.int v7), none, none]) dX6_comesAgain_76 rfl rfl ev7.symm rfl ?_
    refine ww_goto 6 X dX6_comesAgain_79 (by decide) ?_
    obtain rfl := Option.some.inj h
    exact K
def ll_X6_comesAgain_6 (k : Nat) (p1 : Int32) : (Int32 × hb_Mem) → Option hb_Mem := hb_lp (fun s => lb_X6_comesAgain_6 k p1 s.1 s.2) hb_F
theorem lw_X6_comesAgain_6 {Γ : hb_Ctx} {G : hb_Gam} {Q : State → Prop} (X : hb_X Γ cX6_comesAgain 5 RX6 ΛM G 4 95)  (k : Nat) (hk : hb_is ΛM k 6) (p1 : Int32) (s : (Int32 × hb_Mem)) (t : hb_Mem) (h : ll_X6_comesAgain_6 k p1 s = some t) (K : (fun t : hb_Mem => hb_W Γ ΛM G 5 Q t [some (.ref (G.2.2.2 k)), some (.int p1), none, none, none] [] 82) t) : hb_W Γ ΛM G 5 Q s.2 [some (.ref (G.2.2.2 k)), some (.int p1), some (.int s.1), none, none] [] 6 :=
  hb_lp_w (P := fun s : (Int32 × hb_Mem) => hb_W Γ ΛM G 5 Q s.2 [some (.ref (G.2.2.2 k)), some (.int p1), some (.int s.1), none, none] [] 6) (E := (fun t : hb_Mem => hb_W Γ ΛM G 5 Q t [some (.ref (G.2.2.2 k)), some (.int p1), none, none, none] [] 82)) (fun s x hx K => lk_X6_comesAgain_6 X k hk p1 s.1 s.2 hx K) _ s t h K
def jn_X6_comesAgain_122 (k : Nat) (p1 : Int32) (j3 : Int32) (s0 : Int32) (σ : hb_Mem) : Option ((Int32 × Int32) ⊕ Int32) :=
hb_nm (j3 + 1) fun v10 =>
some (.inl (s0, v10))
set_option maxRecDepth 100000 in
set_option maxHeartbeats 4000000 in
theorem jw_X6_comesAgain_122 {Γ : hb_Ctx} {G : hb_Gam} {Q : State → Prop} (X : hb_X Γ cX6_comesAgain 5 RX6 ΛM G 4 95)  (k : Nat) (hk : hb_is ΛM k 6) (p1 : Int32) (j3 : Int32) (s0 : Int32) (σ : hb_Mem) {x : ((Int32 × Int32) ⊕ Int32)} (h : jn_X6_comesAgain_122 k p1 j3 s0 σ = some x) (K : Sum.elim (fun s : (Int32 × Int32) => hb_W Γ ΛM G 5 Q σ [some (.ref (G.2.2.2 k)), some (.int p1), some (.int s.1), some (.int s.2), none] [] 90) (fun t : Int32 => hb_W Γ ΛM G 5 Q σ [none, none, some (.int t), none, none] [] 129) x) : hb_W Γ ΛM G 5 Q σ [some (.ref (G.2.2.2 k)), some (.int p1), none, some (.int j3), none] [.int s0] 122 := by
  unfold jn_X6_comesAgain_122 at h
  refine ww_istore_n 123 X (L' := [some (.ref (G.2.2.2 k)), some (.int p1), some (.int s0), some (.int j3), none]) dX6_comesAgain_122 rfl (Nat.le_of_ble_eq_true rfl) rfl ?_
  obtain ⟨v10, ev10, h⟩ := hb_nm_of h
  refine ww_iinc 126 X (L' := [some (.ref (G.2.2.2 k)), some (.int p1), some (.int s0), some (.int v10), none]) dX6_comesAgain_123 rfl rfl ev10.symm rfl ?_
  refine ww_goto 90 X dX6_comesAgain_126 (by decide) ?_
  obtain rfl := Option.some.inj h
  exact K
def jn_X6_comesAgain_117 (k : Nat) (p1 : Int32) (j3 : Int32) (σ : hb_Mem) : Option ((Int32 × Int32) ⊕ Int32) :=
jn_X6_comesAgain_122 k p1 j3 1 σ
set_option maxRecDepth 100000 in
set_option maxHeartbeats 4000000 in
theorem jw_X6_comesAgain_117 {Γ : hb_Ctx} {G : hb_Gam} {Q : State → Prop} (X : hb_X Γ cX6_comesAgain 5 RX6 ΛM G 4 95)  (k : Nat) (hk : hb_is ΛM k 6) (p1 : Int32) (j3 : Int32) (σ : hb_Mem) {x : ((Int32 × Int32) ⊕ Int32)} (h : jn_X6_comesAgain_117 k p1 j3 σ = some x) (K : Sum.elim (fun s : (Int32 × Int32) => hb_W Γ ΛM G 5 Q σ [some (.ref (G.2.2.2 k)), some (.int p1), some (.int s.1), some (.int s.2), none] [] 90) (fun t : Int32 => hb_W Γ ΛM G 5 Q σ [none, none, some (.int t), none, none] [] 129) x) : hb_W Γ ΛM G 5 Q σ [some (.ref (G.2.2.2 k)), some (.int p1), none, some (.int j3), none] [] 117 := by
  unfold jn_X6_comesAgain_117 at h
  refine ww_iconst (v := 1) 118 X dX6_comesAgain_117 rfl (by decide) ?_
  refine ww_goto 122 X dX6_comesAgain_118 (by decide) ?_
  exact jw_X6_comesAgain_122 X k hk p1 j3 1 σ h K
def lb_X6_comesAgain_90 (k : Nat) (p1 : Int32) (w2 : Int32) (w3 : Int32) (σ : hb_Mem) : Option ((Int32 × Int32) ⊕ Int32) :=
if 31 < w3 then (
some (.inr w2))
else (
if w2 = 0 then (
(hb_ld ΛM σ (hm_rf k 7) (((32 : Int32) * p1) + w3)).bind fun v11 =>
if 9999 ≤ v11 then (
jn_X6_comesAgain_122 k p1 w3 0 σ)
else (
jn_X6_comesAgain_117 k p1 w3 σ))
else (
jn_X6_comesAgain_117 k p1 w3 σ))
set_option maxRecDepth 100000 in
set_option maxHeartbeats 4000000 in
theorem lk_X6_comesAgain_90 {Γ : hb_Ctx} {G : hb_Gam} {Q : State → Prop} (X : hb_X Γ cX6_comesAgain 5 RX6 ΛM G 4 95)  (k : Nat) (hk : hb_is ΛM k 6) (p1 : Int32) (w2 : Int32) (w3 : Int32) (σ : hb_Mem) {x : ((Int32 × Int32) ⊕ Int32)} (h : lb_X6_comesAgain_90 k p1 w2 w3 σ = some x) (K : Sum.elim (fun s : (Int32 × Int32) => hb_W Γ ΛM G 5 Q σ [some (.ref (G.2.2.2 k)), some (.int p1), some (.int s.1), some (.int s.2), none] [] 90) (fun t : Int32 => hb_W Γ ΛM G 5 Q σ [none, none, some (.int t), none, none] [] 129) x) : hb_W Γ ΛM G 5 Q σ [some (.ref (G.2.2.2 k)), some (.int p1), some (.int w2), some (.int w3), none] [] 90 := by
  unfold lb_X6_comesAgain_90 at h
  refine ww_iload_n 91 X dX6_comesAgain_90 rfl rfl ?_
  refine ww_bipush (v := 31) 93 X dX6_comesAgain_91 rfl (by decide) ?_
  refine ww_icmp_gt 129 96 X dX6_comesAgain_93 (by decide) rfl h (fun h => ?_) (fun h => ?_)
  · skip
    obtain rfl := Option.some.inj h
    refine ww_kill [0, 1, 3] (L' := [none, none, some (.int w2), none, none]) rfl ?_
    exact K
  · skip
    refine ww_iload_n 97 X dX6_comesAgain_96 rfl rfl ?_
    refine ww_if_ne 117 100 X dX6_comesAgain_97 (by decide) rfl h (fun h => ?_) (fun h => ?_)
    · skip
      refine ww_aload_n 101 X dX6_comesAgain_100 rfl rfl ?_
      refine ww_getr (ci := 6) (j := 7) 104 X cf_6 tw_X6_22 (by decide) rfl hk dX6_comesAgain_101 rfl ?_
      refine ww_bipush (v := 32) 106 X dX6_comesAgain_104 rfl (by decide) ?_
      refine ww_iload_n 107 X dX6_comesAgain_106 rfl rfl ?_
      refine ww_imul 108 X dX6_comesAgain_107 rfl ?_
      refine ww_iload_n 109 X dX6_comesAgain_108 rfl rfl ?_
      refine ww_iadd 110 X dX6_comesAgain_109 rfl ?_
      obtain ⟨v11, hv11, h⟩ := hb_bind_of h
      refine ww_iald 111 X (hm_kr_6_7 hk) hv11 dX6_comesAgain_110 rfl ?_
      refine ww_sipush (v := 9999) 114 X dX6_comesAgain_111 rfl (by decide) ?_
      refine ww_icmp_ge 121 117 X dX6_comesAgain_114 (by decide) rfl h (fun h => ?_) (fun h => ?_)
      · skip
        refine ww_iconst (v := 0) 122 X dX6_comesAgain_121 rfl (by decide) ?_
        refine ww_kill [2] (L' := [some (.ref (G.2.2.2 k)), some (.int p1), none, some (.int w3), none]) rfl ?_
        exact jw_X6_comesAgain_122 X k hk p1 w3 0 σ h K
      · skip
        refine ww_kill [2] (L' := [some (.ref (G.2.2.2 k)), some (.int p1), none, some (.int w3), none]) rfl ?_
        exact jw_X6_comesAgain_117 X k hk p1 w3 σ h K
    · skip
      refine ww_kill [2] (L' := [some (.ref (G.2.2.2 k)), some (.int p1), none, some (.int w3), none]) rfl ?_
      exact jw_X6_comesAgain_117 X k hk p1 w3 σ h K
def ll_X6_comesAgain_90 (k : Nat) (p1 : Int32) (σ : hb_Mem) : (Int32 × Int32) → Option Int32 := hb_lp (fun s => lb_X6_comesAgain_90 k p1 s.1 s.2 σ) hb_F
theorem lw_X6_comesAgain_90 {Γ : hb_Ctx} {G : hb_Gam} {Q : State → Prop} (X : hb_X Γ cX6_comesAgain 5 RX6 ΛM G 4 95)  (k : Nat) (hk : hb_is ΛM k 6) (p1 : Int32) (σ : hb_Mem) (s : (Int32 × Int32)) (t : Int32) (h : ll_X6_comesAgain_90 k p1 σ s = some t) (K : (fun t : Int32 => hb_W Γ ΛM G 5 Q σ [none, none, some (.int t), none, none] [] 129) t) : hb_W Γ ΛM G 5 Q σ [some (.ref (G.2.2.2 k)), some (.int p1), some (.int s.1), some (.int s.2), none] [] 90 :=
  hb_lp_w (P := fun s : (Int32 × Int32) => hb_W Γ ΛM G 5 Q σ [some (.ref (G.2.2.2 k)), some (.int p1), some (.int s.1), some (.int s.2), none] [] 90) (E := (fun t : Int32 => hb_W Γ ΛM G 5 Q σ [none, none, some (.int t), none, none] [] 129)) (fun s x hx K => lk_X6_comesAgain_90 X k hk p1 s.1 s.2 σ hx K) _ s t h K
def fn_X6_comesAgain (k : Nat) (p1 : Int32) (σ : hb_Mem) : Option (Int32 × hb_Mem) :=
(fn_X6_forgets k σ).bind fun x1 =>
(ll_X6_comesAgain_6 k p1 (0, x1)).bind fun t8 =>
(fn_X6_spreads k t8).bind fun x9 =>
(ll_X6_comesAgain_90 k p1 x9 (0, 0)).bind fun t12 =>
(hb_bz t12).bind fun z13 =>
some (t12, x9)
set_option maxRecDepth 100000 in
set_option maxHeartbeats 4000000 in
theorem wk_X6_comesAgain {Γ : hb_Ctx} {G : hb_Gam} {Q : State → Prop} (X : hb_X Γ cX6_comesAgain 5 RX6 ΛM G 4 95) (hr : hb_ret Γ = (some .boolean)) (k : Nat) (hk : hb_is ΛM k 6) (p1 : Int32) (σ : hb_Mem) {x : (Int32 × hb_Mem)} (h : fn_X6_comesAgain k p1 σ = some x) (K : Q = hb_Q Γ ΛM G (some (.int x.1)) x.2) : hb_W Γ ΛM G 5 Q σ [some (.ref (G.2.2.2 k)), some (.int p1), none, none, none] [] 0 := by
  unfold fn_X6_comesAgain at h
  refine ww_aload_n 1 X dX6_comesAgain_0 rfl rfl ?_
  obtain ⟨x1, hx1, h⟩ := hb_bind_of h
  refine ww_callV (ci := 6) (rest := []) (st' := []) 4 X (ct_X6_forgets (hb_l Γ) G k hk σ hx1) cw_X6_86 rfl (by decide) hk rfl ⟨by decide, by decide⟩ (Nat.le_of_ble_eq_true rfl) rfl rfl dX6_comesAgain_1 rfl ?_
  refine ww_iconst (v := 0) 5 X dX6_comesAgain_4 rfl (by decide) ?_
  refine ww_istore_n 6 X (L' := [some (.ref (G.2.2.2 k)), some (.int p1), some (.int 0), none, none]) dX6_comesAgain_5 rfl (Nat.le_of_ble_eq_true rfl) rfl ?_
  obtain ⟨t8, ht8, h⟩ := hb_bind_of h
  refine lw_X6_comesAgain_6 X k hk p1 (0, x1) t8 ht8 ?_
  refine ww_aload_n 83 X dX6_comesAgain_82 rfl rfl ?_
  obtain ⟨x9, hx9, h⟩ := hb_bind_of h
  refine ww_callV (ci := 6) (rest := []) (st' := []) 86 X (ct_X6_spreads (hb_l Γ) G k hk t8 hx9) cw_X6_93 rfl (by decide) hk rfl ⟨by decide, by decide⟩ (Nat.le_of_ble_eq_true rfl) rfl rfl dX6_comesAgain_83 rfl ?_
  refine ww_iconst (v := 0) 87 X dX6_comesAgain_86 rfl (by decide) ?_
  refine ww_istore_n 88 X (L' := [some (.ref (G.2.2.2 k)), some (.int p1), some (.int 0), none, none]) dX6_comesAgain_87 rfl (Nat.le_of_ble_eq_true rfl) rfl ?_
  refine ww_iconst (v := 0) 89 X dX6_comesAgain_88 rfl (by decide) ?_
  refine ww_istore_n 90 X (L' := [some (.ref (G.2.2.2 k)), some (.int p1), some (.int 0), some (.int 0), none]) dX6_comesAgain_89 rfl (Nat.le_of_ble_eq_true rfl) rfl ?_
  obtain ⟨t12, ht12, h⟩ := hb_bind_of h
  refine lw_X6_comesAgain_90 X k hk p1 x9 (0, 0) t12 ht12 ?_
  refine ww_iload_n 130 X dX6_comesAgain_129 rfl rfl ?_
  obtain ⟨z13, hz13, h⟩ := hb_bind_of h
  replace hz13 := (hb_bz_of hz13).1
  obtain rfl := Option.some.inj h
  exact ww_ret_z X hr hz13 K dX6_comesAgain_130
theorem ct_X6_comesAgain (l : Launch) (G : hb_Gam) (k : Nat) (hk : hb_is ΛM k 6) (p1 : Int32) (σ : hb_Mem) {x : (Int32 × hb_Mem)} (h : fn_X6_comesAgain k p1 σ = some x) : hb_C l yX6_comesAgain cX6_comesAgain 5 (some .boolean) 4 95 ΛM G [.ref (G.2.2.2 k), .int p1] σ (some (.int x.1)) x.2 :=
  hb_C.of [some (.ref (G.2.2.2 k)), some (.int p1), none, none, none] (by decide +kernel) (Nat.le_of_ble_eq_true rfl) (by intro v hv; simp only [List.mem_cons, List.not_mem_nil, or_false] at hv; rcases hv with rfl | rfl <;> rfl) rfl (hb_pad [.ref (G.2.2.2 k), .int p1] 3) (fun Γ X hr => wk_X6_comesAgain X hr k hk p1 σ h rfl)
