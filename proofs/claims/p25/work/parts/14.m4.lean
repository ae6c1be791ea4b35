/-! methods (laid by wip/p25/gen.py) -/
def jn_L_letters_59 (r0 : Nat) (p1 : Int32) (p2 : Int32) (j4 : Int32) (s0 : Int32) (σ : hb_Mem) : Option ((Int32 × Int32 × hb_Mem) ⊕ (Int32 × hb_Mem)) :=
hb_nm (j4 + 1) fun v1 =>
some (.inl (s0, v1, σ))
set_option maxRecDepth 100000 in
set_option maxHeartbeats 4000000 in
theorem jw_L_letters_59 {Γ : hb_Ctx} {G : hb_Gam} {Q : State → Prop} (X : hb_X Γ cL_letters 5 RL ΛC G 3 64)  (r0 : Nat) (hr0 : hb_is ΛC r0 5) (p1 : Int32) (p2 : Int32) (j4 : Int32) (s0 : Int32) (σ : hb_Mem) {x : ((Int32 × Int32 × hb_Mem) ⊕ (Int32 × hb_Mem))} (h : jn_L_letters_59 r0 p1 p2 j4 s0 σ = some x) (K : Sum.elim (fun s : (Int32 × Int32 × hb_Mem) => hb_W Γ ΛC G 5 Q s.2.2 [some (.ref (G.2.2.2 r0)), none, some (.int p2), some (.int s.1), some (.int s.2.1)] [] 22) (fun t : (Int32 × hb_Mem) => hb_W Γ ΛC G 5 Q t.2 [none, none, none, some (.int t.1), none] [] 66) x) : hb_W Γ ΛC G 5 Q σ [some (.ref (G.2.2.2 r0)), none, some (.int p2), none, some (.int j4)] [.int s0] 59 := by
  unfold jn_L_letters_59 at h
  refine ww_istore_n 60 X (L' := [some (.ref (G.2.2.2 r0)), none, some (.int p2), some (.int s0), some (.int j4)]) dL_letters_59 rfl (Nat.le_of_ble_eq_true rfl) rfl rfl ?_
  obtain ⟨v1, ev1, h⟩ := hb_nm_of h
  refine ww_iinc 63 X (L' := [some (.ref (G.2.2.2 r0)), none, some (.int p2), some (.int s0), some (.int v1)]) dL_letters_60 rfl rfl ev1.symm rfl ?_
  refine ww_goto 22 X dL_letters_63 (by decide) ?_
  obtain rfl := Option.some.inj h
  exact K
def jn_L_letters_58 (r0 : Nat) (p1 : Int32) (p2 : Int32) (j4 : Int32) (σ : hb_Mem) : Option ((Int32 × Int32 × hb_Mem) ⊕ (Int32 × hb_Mem)) :=
jn_L_letters_59 r0 p1 p2 j4 0 σ
set_option maxRecDepth 100000 in
set_option maxHeartbeats 4000000 in
theorem jw_L_letters_58 {Γ : hb_Ctx} {G : hb_Gam} {Q : State → Prop} (X : hb_X Γ cL_letters 5 RL ΛC G 3 64)  (r0 : Nat) (hr0 : hb_is ΛC r0 5) (p1 : Int32) (p2 : Int32) (j4 : Int32) (σ : hb_Mem) {x : ((Int32 × Int32 × hb_Mem) ⊕ (Int32 × hb_Mem))} (h : jn_L_letters_58 r0 p1 p2 j4 σ = some x) (K : Sum.elim (fun s : (Int32 × Int32 × hb_Mem) => hb_W Γ ΛC G 5 Q s.2.2 [some (.ref (G.2.2.2 r0)), none, some (.int p2), some (.int s.1), some (.int s.2.1)] [] 22) (fun t : (Int32 × hb_Mem) => hb_W Γ ΛC G 5 Q t.2 [none, none, none, some (.int t.1), none] [] 66) x) : hb_W Γ ΛC G 5 Q σ [some (.ref (G.2.2.2 r0)), none, some (.int p2), none, some (.int j4)] [] 58 := by
  unfold jn_L_letters_58 at h
  refine ww_iconst (v := 0) 59 X dL_letters_58 rfl (by decide) ?_
  exact jw_L_letters_59 X r0 hr0 p1 p2 j4 0 σ h K
def jn_L_letters_54 (r0 : Nat) (p1 : Int32) (p2 : Int32) (j4 : Int32) (σ : hb_Mem) : Option ((Int32 × Int32 × hb_Mem) ⊕ (Int32 × hb_Mem)) :=
jn_L_letters_59 r0 p1 p2 j4 1 σ
set_option maxRecDepth 100000 in
set_option maxHeartbeats 4000000 in
theorem jw_L_letters_54 {Γ : hb_Ctx} {G : hb_Gam} {Q : State → Prop} (X : hb_X Γ cL_letters 5 RL ΛC G 3 64)  (r0 : Nat) (hr0 : hb_is ΛC r0 5) (p1 : Int32) (p2 : Int32) (j4 : Int32) (σ : hb_Mem) {x : ((Int32 × Int32 × hb_Mem) ⊕ (Int32 × hb_Mem))} (h : jn_L_letters_54 r0 p1 p2 j4 σ = some x) (K : Sum.elim (fun s : (Int32 × Int32 × hb_Mem) => hb_W Γ ΛC G 5 Q s.2.2 [some (.ref (G.2.2.2 r0)), none, some (.int p2), some (.int s.1), some (.int s.2.1)] [] 22) (fun t : (Int32 × hb_Mem) => hb_W Γ ΛC G 5 Q t.2 [none, none, none, some (.int t.1), none] [] 66) x) : hb_W Γ ΛC G 5 Q σ [some (.ref (G.2.2.2 r0)), none, some (.int p2), none, some (.int j4)] [] 54 := by
  unfold jn_L_letters_54 at h
  refine ww_iconst (v := 1) 55 X dL_letters_54 rfl (by decide) ?_
  refine ww_goto 59 X dL_letters_55 (by decide) ?_
  exact jw_L_letters_59 X r0 hr0 p1 p2 j4 1 σ h K
def lb_L_letters_22 (r0 : Nat) (p1 : Int32) (p2 : Int32) (w3 : Int32) (w4 : Int32) (σ : hb_Mem) : Option ((Int32 × Int32 × hb_Mem) ⊕ (Int32 × hb_Mem)) :=
if 5 ≤ w4 then (
some (.inr (w3, σ)))
else (
if w3 = 0 then (
jn_L_letters_58 r0 p1 p2 w4 σ)
else (
if ((p2 >>> (w4 &&& 31)) &&& 1) = 0 then (
jn_L_letters_54 r0 p1 p2 w4 σ)
else (
(fn_X5_type r0 ((((97 : Int32) + w4).toUInt32 % 65536).toInt32) σ).bind fun x2 =>
if x2.1 ≤ 0 then (
jn_L_letters_58 r0 p1 p2 w4 x2.2)
else (
jn_L_letters_54 r0 p1 p2 w4 x2.2))))
set_option maxRecDepth 100000 in
set_option maxHeartbeats 4000000 in
theorem lk_L_letters_22 {Γ : hb_Ctx} {G : hb_Gam} {Q : State → Prop} (X : hb_X Γ cL_letters 5 RL ΛC G 3 64)  (r0 : Nat) (hr0 : hb_is ΛC r0 5) (p1 : Int32) (p2 : Int32) (w3 : Int32) (w4 : Int32) (σ : hb_Mem) {x : ((Int32 × Int32 × hb_Mem) ⊕ (Int32 × hb_Mem))} (h : lb_L_letters_22 r0 p1 p2 w3 w4 σ = some x) (K : Sum.elim (fun s : (Int32 × Int32 × hb_Mem) => hb_W Γ ΛC G 5 Q s.2.2 [some (.ref (G.2.2.2 r0)), none, some (.int p2), some (.int s.1), some (.int s.2.1)] [] 22) (fun t : (Int32 × hb_Mem) => hb_W Γ ΛC G 5 Q t.2 [none, none, none, some (.int t.1), none] [] 66) x) : hb_W Γ ΛC G 5 Q σ [some (.ref (G.2.2.2 r0)), none, some (.int p2), some (.int w3), some (.int w4)] [] 22 := by
  unfold lb_L_letters_22 at h
  refine ww_iload 24 X dL_letters_22 rfl rfl ?_
  refine ww_iconst (v := 5) 25 X dL_letters_24 rfl (by decide) ?_
  refine ww_icmp_ge 66 28 X dL_letters_25 (by decide) rfl h (fun h => ?_) (fun h => ?_)
  · skip
    obtain rfl := Option.some.inj h
    refine ww_kill [0, 2, 4] (L' := [none, none, none, some (.int w3), none]) rfl ?_
    exact K
  · skip
    refine ww_iload_n 29 X dL_letters_28 rfl rfl ?_
    refine ww_if_eq 58 32 X dL_letters_29 (by decide) rfl h (fun h => ?_) (fun h => ?_)
    · skip
      refine ww_kill [3] (L' := [some (.ref (G.2.2.2 r0)), none, some (.int p2), none, some (.int w4)]) rfl ?_
      exact jw_L_letters_58 X r0 hr0 p1 p2 w4 σ h K
    · skip
      refine ww_iload_n 33 X dL_letters_32 rfl rfl ?_
      refine ww_iload 35 X dL_letters_33 rfl rfl ?_
      refine ww_ishr 36 X dL_letters_35 rfl ?_
      refine ww_iconst (v := 1) 37 X dL_letters_36 rfl (by decide) ?_
      refine ww_iand 38 X dL_letters_37 rfl ?_
      refine ww_if_eq 54 41 X dL_letters_38 (by decide) rfl h (fun h => ?_) (fun h => ?_)
      · skip
        refine ww_kill [3] (L' := [some (.ref (G.2.2.2 r0)), none, some (.int p2), none, some (.int w4)]) rfl ?_
        exact jw_L_letters_54 X r0 hr0 p1 p2 w4 σ h K
      · skip
        refine ww_aload_n 42 X dL_letters_41 rfl rfl ?_
        refine ww_bipush (v := 97) 44 X dL_letters_42 rfl (by decide) ?_
        refine ww_iload 46 X dL_letters_44 rfl rfl ?_
        refine ww_iadd 47 X dL_letters_46 rfl ?_
        refine ww_i2c 48 X dL_letters_47 rfl ?_
        obtain ⟨x2, hx2, h⟩ := hb_bind_of h
        refine ww_callV (ci := 5) (rest := []) (st' := [.int x2.1]) 51 X (ct_X5_type (hb_l Γ) G r0 hr0 ((((97 : Int32) + w4).toUInt32 % 65536).toInt32) σ hx2) cw_L_45 rfl (by decide) hr0 rfl ⟨by decide, by decide⟩ (Nat.le_of_ble_eq_true rfl) rfl rfl dL_letters_48 rfl ?_
        refine ww_if_le 58 54 X dL_letters_51 (by decide) rfl h (fun h => ?_) (fun h => ?_)
        · skip
          refine ww_kill [3] (L' := [some (.ref (G.2.2.2 r0)), none, some (.int p2), none, some (.int w4)]) rfl ?_
          exact jw_L_letters_58 X r0 hr0 p1 p2 w4 x2.2 h K
        · skip
          refine ww_kill [3] (L' := [some (.ref (G.2.2.2 r0)), none, some (.int p2), none, some (.int w4)]) rfl ?_
          exact jw_L_letters_54 X r0 hr0 p1 p2 w4 x2.2 h K
def ll_L_letters_22 (r0 : Nat) (p1 : Int32) (p2 : Int32) : (Int32 × Int32 × hb_Mem) → Option (Int32 × hb_Mem) := hb_lp (fun s => lb_L_letters_22 r0 p1 p2 s.1 s.2.1 s.2.2) hb_F
theorem lw_L_letters_22 {Γ : hb_Ctx} {G : hb_Gam} {Q : State → Prop} (X : hb_X Γ cL_letters 5 RL ΛC G 3 64)  (r0 : Nat) (hr0 : hb_is ΛC r0 5) (p1 : Int32) (p2 : Int32) (s : (Int32 × Int32 × hb_Mem)) (t : (Int32 × hb_Mem)) (h : ll_L_letters_22 r0 p1 p2 s = some t) (K : (fun t : (Int32 × hb_Mem) => hb_W Γ ΛC G 5 Q t.2 [none, none, none, some (.int t.1), none] [] 66) t) : hb_W Γ ΛC G 5 Q s.2.2 [some (.ref (G.2.2.2 r0)), none, some (.int p2), some (.int s.1), some (.int s.2.1)] [] 22 :=
  hb_lp_w (P := fun s : (Int32 × Int32 × hb_Mem) => hb_W Γ ΛC G 5 Q s.2.2 [some (.ref (G.2.2.2 r0)), none, some (.int p2), some (.int s.1), some (.int s.2.1)] [] 22) (E := (fun t : (Int32 × hb_Mem) => hb_W Γ ΛC G 5 Q t.2 [none, none, none, some (.int t.1), none] [] 66)) (fun s x hx K => lk_L_letters_22 X r0 hr0 p1 p2 s.1 s.2.1 s.2.2 hx K) _ s t h K
def jn_L_letters_18 (r0 : Nat) (p1 : Int32) (p2 : Int32) (s0 : Int32) (σ : hb_Mem) : Option (Int32 × hb_Mem) :=
(ll_L_letters_22 r0 p1 p2 (s0, 0, σ)).bind fun t3 =>
(hb_bz t3.1).bind fun z4 =>
some (t3.1, t3.2)
set_option maxRecDepth 100000 in
set_option maxHeartbeats 4000000 in
theorem jw_L_letters_18 {Γ : hb_Ctx} {G : hb_Gam} {Q : State → Prop} (X : hb_X Γ cL_letters 5 RL ΛC G 3 64) (hr : hb_ret Γ = (some .boolean)) (r0 : Nat) (hr0 : hb_is ΛC r0 5) (p1 : Int32) (p2 : Int32) (s0 : Int32) (σ : hb_Mem) {x : (Int32 × hb_Mem)} (h : jn_L_letters_18 r0 p1 p2 s0 σ = some x) (K : Q = hb_Q Γ ΛC G (some (.int x.1)) x.2) : hb_W Γ ΛC G 5 Q σ [some (.ref (G.2.2.2 r0)), none, some (.int p2), none, none] [.int s0] 18 := by
  unfold jn_L_letters_18 at h
  refine ww_istore_n 19 X (L' := [some (.ref (G.2.2.2 r0)), none, some (.int p2), some (.int s0), none]) dL_letters_18 rfl (Nat.le_of_ble_eq_true rfl) rfl rfl ?_
  refine ww_iconst (v := 0) 20 X dL_letters_19 rfl (by decide) ?_
  refine ww_istore 22 X (L' := [some (.ref (G.2.2.2 r0)), none, some (.int p2), some (.int s0), some (.int 0)]) dL_letters_20 rfl (Nat.le_of_ble_eq_true rfl) rfl rfl ?_
  obtain ⟨t3, ht3, h⟩ := hb_bind_of h
  refine lw_L_letters_22 X r0 hr0 p1 p2 (s0, 0, σ) t3 ht3 ?_
  refine ww_iload_n 67 X dL_letters_66 rfl rfl ?_
  obtain ⟨z4, hz4, h⟩ := hb_bind_of h
  replace hz4 := (hb_bz_of hz4).1
  obtain rfl := Option.some.inj h
  exact ww_ret_z X hr hz4 K dL_letters_67
def jn_L_letters_13 (r0 : Nat) (p1 : Int32) (p2 : Int32) (σ : hb_Mem) : Option (Int32 × hb_Mem) :=
jn_L_letters_18 r0 p1 p2 1 σ
set_option maxRecDepth 100000 in
set_option maxHeartbeats 4000000 in
theorem jw_L_letters_13 {Γ : hb_Ctx} {G : hb_Gam} {Q : State → Prop} (X : hb_X Γ cL_letters 5 RL ΛC G 3 64) (hr : hb_ret Γ = (some .boolean)) (r0 : Nat) (hr0 : hb_is ΛC r0 5) (p1 : Int32) (p2 : Int32) (σ : hb_Mem) {x : (Int32 × hb_Mem)} (h : jn_L_letters_13 r0 p1 p2 σ = some x) (K : Q = hb_Q Γ ΛC G (some (.int x.1)) x.2) : hb_W Γ ΛC G 5 Q σ [some (.ref (G.2.2.2 r0)), none, some (.int p2), none, none] [] 13 := by
  unfold jn_L_letters_13 at h
  refine ww_iconst (v := 1) 14 X dL_letters_13 rfl (by decide) ?_
  refine ww_goto 18 X dL_letters_14 (by decide) ?_
  exact jw_L_letters_18 X hr r0 hr0 p1 p2 1 σ h K
def fn_L_letters (r0 : Nat) (p1 : Int32) (p2 : Int32) (σ : hb_Mem) : Option (Int32 × hb_Mem) :=
if p2 = 0 then (
jn_L_letters_13 r0 p1 p2 σ)
else (
(fn_X5_type r0 ((p1.toUInt32 % 65536).toInt32) σ).bind fun x5 =>
if x5.1 ≤ 0 then (
jn_L_letters_18 r0 p1 p2 0 x5.2)
else (
jn_L_letters_13 r0 p1 p2 x5.2))
set_option maxRecDepth 100000 in
set_option maxHeartbeats 4000000 in
theorem wk_L_letters {Γ : hb_Ctx} {G : hb_Gam} {Q : State → Prop} (X : hb_X Γ cL_letters 5 RL ΛC G 3 64) (hr : hb_ret Γ = (some .boolean)) (r0 : Nat) (hr0 : hb_is ΛC r0 5) (p1 : Int32) (p2 : Int32) (σ : hb_Mem) {x : (Int32 × hb_Mem)} (h : fn_L_letters r0 p1 p2 σ = some x) (K : Q = hb_Q Γ ΛC G (some (.int x.1)) x.2) : hb_W Γ ΛC G 5 Q σ [some (.ref (G.2.2.2 r0)), some (.int p1), some (.int p2), none, none] [] 0 := by
  unfold fn_L_letters at h
  refine ww_iload_n 1 X dL_letters_0 rfl rfl ?_
  refine ww_if_eq 13 4 X dL_letters_1 (by decide) rfl h (fun h => ?_) (fun h => ?_)
  · skip
    refine ww_kill [1] (L' := [some (.ref (G.2.2.2 r0)), none, some (.int p2), none, none]) rfl ?_
    exact jw_L_letters_13 X hr r0 hr0 p1 p2 σ h K
  · skip
    refine ww_aload_n 5 X dL_letters_4 rfl rfl ?_
    refine ww_iload_n 6 X dL_letters_5 rfl rfl ?_
    refine ww_i2c 7 X dL_letters_6 rfl ?_
    obtain ⟨x5, hx5, h⟩ := hb_bind_of h
    refine ww_callV (ci := 5) (rest := []) (st' := [.int x5.1]) 10 X (ct_X5_type (hb_l Γ) G r0 hr0 ((p1.toUInt32 % 65536).toInt32) σ hx5) cw_L_45 rfl (by decide) hr0 rfl ⟨by decide, by decide⟩ (Nat.le_of_ble_eq_true rfl) rfl rfl dL_letters_7 rfl ?_
    refine ww_if_le 17 13 X dL_letters_10 (by decide) rfl h (fun h => ?_) (fun h => ?_)
    · skip
      refine ww_iconst (v := 0) 18 X dL_letters_17 rfl (by decide) ?_
      refine ww_kill [1] (L' := [some (.ref (G.2.2.2 r0)), none, some (.int p2), none, none]) rfl ?_
      exact jw_L_letters_18 X hr r0 hr0 p1 p2 0 x5.2 h K
    · skip
      refine ww_kill [1] (L' := [some (.ref (G.2.2.2 r0)), none, some (.int p2), none, none]) rfl ?_
      exact jw_L_letters_13 X hr r0 hr0 p1 p2 x5.2 h K
theorem ct_L_letters (l : Launch) (G : hb_Gam) (r0 : Nat) (hr0 : hb_is ΛC r0 5) (p1 : Int32) (p2 : Int32) (σ : hb_Mem) {x : (Int32 × hb_Mem)} (h : fn_L_letters r0 p1 p2 σ = some x) : hb_C l yL_letters cL_letters 5 (some .boolean) 3 64 ΛC G [.ref (G.2.2.2 r0), .int p1, .int p2] σ (some (.int x.1)) x.2 :=
  hb_C.of [some (.ref (G.2.2.2 r0)), some (.int p1), some (.int p2), none, none] (by decide +kernel) (Nat.le_of_ble_eq_true rfl) (by intro v hv; simp only [List.mem_cons, List.not_mem_nil, or_false] at hv; rcases hv with rfl | rfl | rfl <;> rfl) rfl (hb_pad [.ref (G.2.2.2 r0), .int p1, .int p2] 2) (fun Γ X hr => wk_L_letters X hr r0 hr0 p1 p2 σ h rfl)
def jn_L_number_21 (r0 : Nat) (p1 : Int32) (σ : hb_Mem) : Option (Int32 × hb_Mem) :=
(fn_X5_type r0 ((((48 : Int32) + (p1 - p1 / 10 * 10)).toUInt32 % 65536).toInt32) σ).bind fun x1 =>
if x1.1 ≤ 0 then (
some (0, x1.2))
else (
some (1, x1.2))
set_option maxRecDepth 100000 in
set_option maxHeartbeats 4000000 in
theorem jw_L_number_21 {Γ : hb_Ctx} {G : hb_Gam} {Q : State → Prop} (X : hb_X Γ cL_number 2 RL ΛC G 3 64) (hr : hb_ret Γ = (some .boolean)) (r0 : Nat) (hr0 : hb_is ΛC r0 5) (p1 : Int32) (σ : hb_Mem) {x : (Int32 × hb_Mem)} (h : jn_L_number_21 r0 p1 σ = some x) (K : Q = hb_Q Γ ΛC G (some (.int x.1)) x.2) : hb_W Γ ΛC G 2 Q σ [some (.ref (G.2.2.2 r0)), some (.int p1)] [] 21 := by
  unfold jn_L_number_21 at h
  refine ww_aload_n 22 X dL_number_21 rfl rfl ?_
  refine ww_bipush (v := 48) 24 X dL_number_22 rfl (by decide) ?_
  refine ww_iload_n 25 X dL_number_24 rfl rfl ?_
  refine ww_bipush (v := 10) 27 X dL_number_25 rfl (by decide) ?_
  refine ww_irem 28 X dL_number_27 rfl (by decide) ?_
  refine ww_iadd 29 X dL_number_28 rfl ?_
  refine ww_i2c 30 X dL_number_29 rfl ?_
  obtain ⟨x1, hx1, h⟩ := hb_bind_of h
  refine ww_callV (ci := 5) (rest := []) (st' := [.int x1.1]) 33 X (ct_X5_type (hb_l Γ) G r0 hr0 ((((48 : Int32) + (p1 - p1 / 10 * 10)).toUInt32 % 65536).toInt32) σ hx1) cw_L_45 rfl (by decide) hr0 rfl ⟨by decide, by decide⟩ (Nat.le_of_ble_eq_true rfl) rfl rfl dL_number_30 rfl ?_
  refine ww_if_le 40 36 X dL_number_33 (by decide) rfl h (fun h => ?_) (fun h => ?_)
  · skip
    refine ww_iconst (v := 0) 41 X dL_number_40 rfl (by decide) ?_
    obtain rfl := Option.some.inj h
    exact ww_ret_z X hr (by decide) K dL_number_41
  · skip
    refine ww_iconst (v := 1) 37 X dL_number_36 rfl (by decide) ?_
    refine ww_goto 41 X dL_number_37 (by decide) ?_
    obtain rfl := Option.some.inj h
    exact ww_ret_z X hr (by decide) K dL_number_41
def fn_L_number (r0 : Nat) (p1 : Int32) (σ : hb_Mem) : Option (Int32 × hb_Mem) :=
if p1 < 10 then (
jn_L_number_21 r0 p1 σ)
else (
(fn_X5_type r0 ((((48 : Int32) + (p1 / 10)).toUInt32 % 65536).toInt32) σ).bind fun x2 =>
if x2.1 ≤ 0 then (
some (0, x2.2))
else (
jn_L_number_21 r0 p1 x2.2))
set_option maxRecDepth 100000 in
set_option maxHeartbeats 4000000 in
theorem wk_L_number {Γ : hb_Ctx} {G : hb_Gam} {Q : State → Prop} (X : hb_X Γ cL_number 2 RL ΛC G 3 64) (hr : hb_ret Γ = (some .boolean)) (r0 : Nat) (hr0 : hb_is ΛC r0 5) (p1 : Int32) (σ : hb_Mem) {x : (Int32 × hb_Mem)} (h : fn_L_number r0 p1 σ = some x) (K : Q = hb_Q Γ ΛC G (some (.int x.1)) x.2) : hb_W Γ ΛC G 2 Q σ [some (.ref (G.2.2.2 r0)), some (.int p1)] [] 0 := by
  unfold fn_L_number at h
  refine ww_iload_n 1 X dL_number_0 rfl rfl ?_
  refine ww_bipush (v := 10) 3 X dL_number_1 rfl (by decide) ?_
  refine ww_icmp_lt 21 6 X dL_number_3 (by decide) rfl h (fun h => ?_) (fun h => ?_)
  · skip
    exact jw_L_number_21 X hr r0 hr0 p1 σ h K
  · skip
    refine ww_aload_n 7 X dL_number_6 rfl rfl ?_
    refine ww_bipush (v := 48) 9 X dL_number_7 rfl (by decide) ?_
    refine ww_iload_n 10 X dL_number_9 rfl rfl ?_
    refine ww_bipush (v := 10) 12 X dL_number_10 rfl (by decide) ?_
    refine ww_idiv 13 X dL_number_12 rfl (by decide) ?_
    refine ww_iadd 14 X dL_number_13 rfl ?_
    refine ww_i2c 15 X dL_number_14 rfl ?_
    obtain ⟨x2, hx2, h⟩ := hb_bind_of h
    refine ww_callV (ci := 5) (rest := []) (st' := [.int x2.1]) 18 X (ct_X5_type (hb_l Γ) G r0 hr0 ((((48 : Int32) + (p1 / 10)).toUInt32 % 65536).toInt32) σ hx2) cw_L_45 rfl (by decide) hr0 rfl ⟨by decide, by decide⟩ (Nat.le_of_ble_eq_true rfl) rfl rfl dL_number_15 rfl ?_
    refine ww_if_le 40 21 X dL_number_18 (by decide) rfl h (fun h => ?_) (fun h => ?_)
    · skip
      refine ww_iconst (v := 0) 41 X dL_number_40 rfl (by decide) ?_
      obtain rfl := Option.some.inj h
      exact ww_ret_z X hr (by decide) K dL_number_41
    · skip
      exact jw_L_number_21 X hr r0 hr0 p1 x2.2 h K
theorem ct_L_number (l : Launch) (G : hb_Gam) (r0 : Nat) (hr0 : hb_is ΛC r0 5) (p1 : Int32) (σ : hb_Mem) {x : (Int32 × hb_Mem)} (h : fn_L_number r0 p1 σ = some x) : hb_C l yL_number cL_number 2 (some .boolean) 3 64 ΛC G [.ref (G.2.2.2 r0), .int p1] σ (some (.int x.1)) x.2 :=
  hb_C.of [some (.ref (G.2.2.2 r0)), some (.int p1)] (by decide +kernel) (Nat.le_of_ble_eq_true rfl) (by intro v hv; simp only [List.mem_cons, List.not_mem_nil, or_false] at hv; rcases hv with rfl | rfl <;> rfl) rfl (hb_pad [.ref (G.2.2.2 r0), .int p1] 0) (fun Γ X hr => wk_L_number X hr r0 hr0 p1 σ h rfl)
def jn_L_types_213 (r0 : Nat) (p1 : Int32) (i2 : Int32) (i3 : Int32) (j5 : Int32) (s0 : Int32) (σ : hb_Mem) : Option ((Int32 × Int32 × hb_Mem) ⊕ (Int32 × hb_Mem)) :=
hb_nm (j5 + 1) fun v7 =>
some (.inl (s0, v7, σ))
set_option maxRecDepth 100000 in
set_option maxHeartbeats 4000000 in
theorem jw_L_types_213 {Γ : hb_Ctx} {G : hb_Gam} {Q : State → Prop} (X : hb_X Γ cL_types 7 RL ΛC G 8 182)  (r0 : Nat) (hr0 : hb_is ΛC r0 5) (p1 : Int32) (i2 : Int32) (i3 : Int32) (j5 : Int32) (s0 : Int32) (σ : hb_Mem) {x : ((Int32 × Int32 × hb_Mem) ⊕ (Int32 × hb_Mem))} (h : jn_L_types_213 r0 p1 i2 i3 j5 s0 σ = some x) (K : Sum.elim (fun s : (Int32 × Int32 × hb_Mem) => hb_W Γ ΛC G 7 Q s.2.2 [some (.ref (G.2.2.2 r0)), some (.int p1), some (.int i2), some (.int i3), some (.int s.1), some (.int s.2.1), none] [] 46) (fun t : (Int32 × hb_Mem) => hb_W Γ ΛC G 7 Q t.2 [none, none, none, none, some (.int t.1), none, none] [] 221) x) : hb_W Γ ΛC G 7 Q σ [some (.ref (G.2.2.2 r0)), some (.int p1), some (.int i2), some (.int i3), none, some (.int j5), none] [.int s0] 213 := by
  unfold jn_L_types_213 at h
  refine ww_istore 215 X (L' := [some (.ref (G.2.2.2 r0)), some (.int p1), some (.int i2), some (.int i3), some (.int s0), some (.int j5), none]) dL_types_213 rfl (Nat.le_of_ble_eq_true rfl) rfl rfl ?_
  obtain ⟨v7, ev7, h⟩ := hb_nm_of h
  refine ww_iinc 218 X (L' := [some (.ref (G.2.2.2 r0)), some (.int p1), some (.int i2), some (.int i3), some (.int s0), some (.int v7), none]) dL_types_215 rfl rfl ev7.symm rfl ?_
  refine ww_goto 46 X dL_types_218 (by decide) ?_
  obtain rfl := Option.some.inj h
  exact K
def jn_L_types_212 (r0 : Nat) (p1 : Int32) (i2 : Int32) (i3 : Int32) (j5 : Int32) (σ : hb_Mem) : Option ((Int32 × Int32 × hb_Mem) ⊕ (Int32 × hb_Mem)) :=
jn_L_types_213 r0 p1 i2 i3 j5 0 σ
set_option maxRecDepth 100000 in
set_option maxHeartbeats 4000000 in
theorem jw_L_types_212 {Γ : hb_Ctx} {G : hb_Gam} {Q : State → Prop} (X : hb_X Γ cL_types 7 RL ΛC G 8 182)  (r0 : Nat) (hr0 : hb_is ΛC r0 5) (p1 : Int32) (i2 : Int32) (i3 : Int32) (j5 : Int32) (σ : hb_Mem) {x : ((Int32 × Int32 × hb_Mem) ⊕ (Int32 × hb_Mem))} (h : jn_L_types_212 r0 p1 i2 i3 j5 σ = some x) (K : Sum.elim (fun s : (Int32 × Int32 × hb_Mem) => hb_W Γ ΛC G 7 Q s.2.2 [some (.ref (G.2.2.2 r0)), some (.int p1), some (.int i2), some (.int i3), some (.int s.1), some (.int s.2.1), none] [] 46) (fun t : (Int32 × hb_Mem) => hb_W Γ ΛC G 7 Q t.2 [none, none, none, none, some (.int t.1), none, none] [] 221) x) : hb_W Γ ΛC G 7 Q σ [some (.ref (G.2.2.2 r0)), some (.int p1), some (.int i2), some (.int i3), none, some (.int j5), none] [] 212 := by
  unfold jn_L_types_212 at h
  refine ww_iconst (v := 0) 213 X dL_types_212 rfl (by decide) ?_
  exact jw_L_types_213 X r0 hr0 p1 i2 i3 j5 0 σ h K
def jn_L_types_202 (r0 : Nat) (p1 : Int32) (i2 : Int32) (i3 : Int32) (j5 : Int32) (s1 : Int32) (s2 : Int32) (σ : hb_Mem) : Option ((Int32 × Int32 × hb_Mem) ⊕ (Int32 × hb_Mem)) :=
(fn_L_letters r0 s1 s2 σ).bind fun x17 =>
if x17.1 = 0 then (
jn_L_types_212 r0 p1 i2 i3 j5 x17.2)
else (
jn_L_types_213 r0 p1 i2 i3 j5 1 x17.2)
set_option maxRecDepth 100000 in
set_option maxHeartbeats 4000000 in
theorem jw_L_types_202 {Γ : hb_Ctx} {G : hb_Gam} {Q : State → Prop} (X : hb_X Γ cL_types 7 RL ΛC G 8 182)  (r0 : Nat) (hr0 : hb_is ΛC r0 5) (p1 : Int32) (i2 : Int32) (i3 : Int32) (j5 : Int32) (s1 : Int32) (s2 : Int32) (σ : hb_Mem) {x : ((Int32 × Int32 × hb_Mem) ⊕ (Int32 × hb_Mem))} (h : jn_L_types_202 r0 p1 i2 i3 j5 s1 s2 σ = some x) (K : Sum.elim (fun s : (Int32 × Int32 × hb_Mem) => hb_W Γ ΛC G 7 Q s.2.2 [some (.ref (G.2.2.2 r0)), some (.int p1), some (.int i2), some (.int i3), some (.int s.1), some (.int s.2.1), none] [] 46) (fun t : (Int32 × hb_Mem) => hb_W Γ ΛC G 7 Q t.2 [none, none, none, none, some (.int t.1), none, none] [] 221) x) : hb_W Γ ΛC G 7 Q σ [some (.ref (G.2.2.2 r0)), some (.int p1), some (.int i2), some (.int i3), none, some (.int j5), none] [.int s2, .int s1, .ref (G.2.2.2 r0)] 202 := by
  unfold jn_L_types_202 at h
  obtain ⟨x17, hx17, h⟩ := hb_bind_of h
  refine ww_callS (rest := []) (st' := [.int x17.1]) 205 X (ct_L_letters (hb_l Γ) G r0 hr0 s1 s2 σ hx17) cw_L_56 rfl ⟨by decide, by decide⟩ (Nat.le_of_ble_eq_true rfl) rfl rfl dL_types_202 rfl ?_
  refine ww_if_eq 212 208 X dL_types_205 (by decide) rfl h (fun h => ?_) (fun h => ?_)
  · skip
    exact jw_L_types_212 X r0 hr0 p1 i2 i3 j5 x17.2 h K
  · skip
    refine ww_iconst (v := 1) 209 X dL_types_208 rfl (by decide) ?_
    refine ww_goto 213 X dL_types_209 (by decide) ?_
    exact jw_L_types_213 X r0 hr0 p1 i2 i3 j5 1 x17.2 h K
def jn_L_types_167 (r0 : Nat) (p1 : Int32) (i2 : Int32) (i3 : Int32) (j5 : Int32) (j6 : Int32) (s1 : Int32) (s2 : Int32) (σ : hb_Mem) : Option ((Int32 × Int32 × hb_Mem) ⊕ (Int32 × hb_Mem)) :=
(fn_L_letters r0 s1 s2 σ).bind fun x15 =>
if x15.1 = 0 then (
jn_L_types_212 r0 p1 i2 i3 j5 x15.2)
else (
(fn_L_low (j6 >>> (7 &&& 31)) 3).bind fun x16 =>
if x16 = 0 then (
(fn_L_low (j6 >>> (8 &&& 31)) 32).bind fun x18 =>
jn_L_types_202 r0 p1 i2 i3 j5 45 x18 x15.2)
else (
jn_L_types_202 r0 p1 i2 i3 j5 45 0 x15.2))
set_option maxRecDepth 100000 in
set_option maxHeartbeats 4000000 in
theorem jw_L_types_167 {Γ : hb_Ctx} {G : hb_Gam} {Q : State → Prop} (X : hb_X Γ cL_types 7 RL ΛC G 8 182)  (r0 : Nat) (hr0 : hb_is ΛC r0 5) (p1 : Int32) (i2 : Int32) (i3 : Int32) (j5 : Int32) (j6 : Int32) (s1 : Int32) (s2 : Int32) (σ : hb_Mem) {x : ((Int32 × Int32 × hb_Mem) ⊕ (Int32 × hb_Mem))} (h : jn_L_types_167 r0 p1 i2 i3 j5 j6 s1 s2 σ = some x) (K : Sum.elim (fun s : (Int32 × Int32 × hb_Mem) => hb_W Γ ΛC G 7 Q s.2.2 [some (.ref (G.2.2.2 r0)), some (.int p1), some (.int i2), some (.int i3), some (.int s.1), some (.int s.2.1), none] [] 46) (fun t : (Int32 × hb_Mem) => hb_W Γ ΛC G 7 Q t.2 [none, none, none, none, some (.int t.1), none, none] [] 221) x) : hb_W Γ ΛC G 7 Q σ [some (.ref (G.2.2.2 r0)), some (.int p1), some (.int i2), some (.int i3), none, some (.int j5), some (.int j6)] [.int s2, .int s1, .ref (G.2.2.2 r0)] 167 := by
  unfold jn_L_types_167 at h
  obtain ⟨x15, hx15, h⟩ := hb_bind_of h
  refine ww_callS (rest := []) (st' := [.int x15.1]) 170 X (ct_L_letters (hb_l Γ) G r0 hr0 s1 s2 σ hx15) cw_L_56 rfl ⟨by decide, by decide⟩ (Nat.le_of_ble_eq_true rfl) rfl rfl dL_types_167 rfl ?_
  refine ww_if_eq 212 173 X dL_types_170 (by decide) rfl h (fun h => ?_) (fun h => ?_)
  · skip
    refine ww_kill [6] (L' := [some (.ref (G.2.2.2 r0)), some (.int p1), some (.int i2), some (.int i3), none, some (.int j5), none]) rfl ?_
    exact jw_L_types_212 X r0 hr0 p1 i2 i3 j5 x15.2 h K
  · skip
    refine ww_aload_n 174 X dL_types_173 rfl rfl ?_
    refine ww_bipush (v := 45) 176 X dL_types_174 rfl (by decide) ?_
    refine ww_iload 178 X dL_types_176 rfl rfl ?_
    refine ww_bipush (v := 7) 180 X dL_types_178 rfl (by decide) ?_
    refine ww_ishr 181 X dL_types_180 rfl ?_
    refine ww_iconst (v := 3) 182 X dL_types_181 rfl (by decide) ?_
    obtain ⟨x16, hx16, h⟩ := hb_bind_of h
    refine ww_callS (rest := [.int 45, .ref (G.2.2.2 r0)]) (st' := [.int x16, .int 45, .ref (G.2.2.2 r0)]) 185 X (ct_L_low (hb_l Γ) G (j6 >>> (7 &&& 31)) 3 x15.2 hx16) cw_L_35 rfl ⟨by decide, by decide⟩ (Nat.le_of_ble_eq_true rfl) rfl rfl dL_types_182 rfl ?_
    refine ww_if_ne 201 188 X dL_types_185 (by decide) rfl h (fun h => ?_) (fun h => ?_)
    · skip
      refine ww_iload 190 X dL_types_188 rfl rfl ?_
      refine ww_bipush (v := 8) 192 X dL_types_190 rfl (by decide) ?_
      refine ww_ishr 193 X dL_types_192 rfl ?_
      refine ww_bipush (v := 32) 195 X dL_types_193 rfl (by decide) ?_
      obtain ⟨x18, hx18, h⟩ := hb_bind_of h
      refine ww_callS (rest := [.int 45, .ref (G.2.2.2 r0)]) (st' := [.int x18, .int 45, .ref (G.2.2.2 r0)]) 198 X (ct_L_low (hb_l Γ) G (j6 >>> (8 &&& 31)) 32 x15.2 hx18) cw_L_35 rfl ⟨by decide, by decide⟩ (Nat.le_of_ble_eq_true rfl) rfl rfl dL_types_195 rfl ?_
      refine ww_goto 202 X dL_types_198 (by decide) ?_
      refine ww_kill [6] (L' := [some (.ref (G.2.2.2 r0)), some (.int p1), some (.int i2), some (.int i3), none, some (.int j5), none]) rfl ?_
      exact jw_L_types_202 X r0 hr0 p1 i2 i3 j5 45 x18 x15.2 h K
    · skip
      refine ww_iconst (v := 0) 202 X dL_types_201 rfl (by decide) ?_
      refine ww_kill [6] (L' := [some (.ref (G.2.2.2 r0)), some (.int p1), some (.int i2), some (.int i3), none, some (.int j5), none]) rfl ?_
      exact jw_L_types_202 X r0 hr0 p1 i2 i3 j5 45 0 x15.2 h K
def jn_L_types_118 (r0 : Nat) (p1 : Int32) (i2 : Int32) (i3 : Int32) (j5 : Int32) (j6 : Int32) (s1 : Int32) (σ : hb_Mem) : Option ((Int32 × Int32 × hb_Mem) ⊕ (Int32 × hb_Mem)) :=
(fn_X5_type r0 s1 σ).bind fun x11 =>
if x11.1 ≤ 0 then (
jn_L_types_212 r0 p1 i2 i3 j5 x11.2)
else (
(fn_L_low (j6 >>> (3 &&& 31)) i3).bind fun x12 =>
(fn_L_number r0 x12 x11.2).bind fun x13 =>
if x13.1 = 0 then (
jn_L_types_212 r0 p1 i2 i3 j5 x13.2)
else (
(fn_L_low (j6 >>> (5 &&& 31)) 3).bind fun x14 =>
if x14 = 0 then (
(fn_L_low (j6 >>> (6 &&& 31)) 32).bind fun x19 =>
jn_L_types_167 r0 p1 i2 i3 j5 j6 43 x19 x13.2)
else (
jn_L_types_167 r0 p1 i2 i3 j5 j6 43 0 x13.2)))
set_option maxRecDepth 100000 in
set_option maxHeartbeats 4000000 in
theorem jw_L_types_118 {Γ : hb_Ctx} {G : hb_Gam} {Q : State → Prop} (X : hb_X Γ cL_types 7 RL ΛC G 8 182)  (r0 : Nat) (hr0 : hb_is ΛC r0 5) (p1 : Int32) (i2 : Int32) (i3 : Int32) (j5 : Int32) (j6 : Int32) (s1 : Int32) (σ : hb_Mem) {x : ((Int32 × Int32 × hb_Mem) ⊕ (Int32 × hb_Mem))} (h : jn_L_types_118 r0 p1 i2 i3 j5 j6 s1 σ = some x) (K : Sum.elim (fun s : (Int32 × Int32 × hb_Mem) => hb_W Γ ΛC G 7 Q s.2.2 [some (.ref (G.2.2.2 r0)), some (.int p1), some (.int i2), some (.int i3), some (.int s.1), some (.int s.2.1), none] [] 46) (fun t : (Int32 × hb_Mem) => hb_W Γ ΛC G 7 Q t.2 [none, none, none, none, some (.int t.1), none, none] [] 221) x) : hb_W Γ ΛC G 7 Q σ [some (.ref (G.2.2.2 r0)), some (.int p1), some (.int i2), some (.int i3), none, some (.int j5), some (.int j6)] [.int s1, .ref (G.2.2.2 r0)] 118 := by
  unfold jn_L_types_118 at h
  obtain ⟨x11, hx11, h⟩ := hb_bind_of h
  refine ww_callV (ci := 5) (rest := []) (st' := [.int x11.1]) 121 X (ct_X5_type (hb_l Γ) G r0 hr0 s1 σ hx11) cw_L_45 rfl (by decide) hr0 rfl ⟨by decide, by decide⟩ (Nat.le_of_ble_eq_true rfl) rfl rfl dL_types_118 rfl ?_
  refine ww_if_le 212 124 X dL_types_121 (by decide) rfl h (fun h => ?_) (fun h => ?_)
  · skip
    refine ww_kill [6] (L' := [some (.ref (G.2.2.2 r0)), some (.int p1), some (.int i2), some (.int i3), none, some (.int j5), none]) rfl ?_
    exact jw_L_types_212 X r0 hr0 p1 i2 i3 j5 x11.2 h K
  · skip
    refine ww_aload_n 125 X dL_types_124 rfl rfl ?_
    refine ww_iload 127 X dL_types_125 rfl rfl ?_
    refine ww_iconst (v := 3) 128 X dL_types_127 rfl (by decide) ?_
    refine ww_ishr 129 X dL_types_128 rfl ?_
    refine ww_iload_n 130 X dL_types_129 rfl rfl ?_
    obtain ⟨x12, hx12, h⟩ := hb_bind_of h
    refine ww_callS (rest := [.ref (G.2.2.2 r0)]) (st' := [.int x12, .ref (G.2.2.2 r0)]) 133 X (ct_L_low (hb_l Γ) G (j6 >>> (3 &&& 31)) i3 x11.2 hx12) cw_L_35 rfl ⟨by decide, by decide⟩ (Nat.le_of_ble_eq_true rfl) rfl rfl dL_types_130 rfl ?_
    obtain ⟨x13, hx13, h⟩ := hb_bind_of h
    refine ww_callS (rest := []) (st' := [.int x13.1]) 136 X (ct_L_number (hb_l Γ) G r0 hr0 x12 x11.2 hx13) cw_L_52 rfl ⟨by decide, by decide⟩ (Nat.le_of_ble_eq_true rfl) rfl rfl dL_types_133 rfl ?_
    refine ww_if_eq 212 139 X dL_types_136 (by decide) rfl h (fun h => ?_) (fun h => ?_)
    · skip
      refine ww_kill [6] (L' := [some (.ref (G.2.2.2 r0)), some (.int p1), some (.int i2), some (.int i3), none, some (.int j5), none]) rfl ?_
      exact jw_L_types_212 X r0 hr0 p1 i2 i3 j5 x13.2 h K
    · skip
      refine ww_aload_n 140 X dL_types_139 rfl rfl ?_
      refine ww_bipush (v := 43) 142 X dL_types_140 rfl (by decide) ?_
      refine ww_iload 144 X dL_types_142 rfl rfl ?_
      refine ww_iconst (v := 5) 145 X dL_types_144 rfl (by decide) ?_
      refine ww_ishr 146 X dL_types_145 rfl ?_
      refine ww_iconst (v := 3) 147 X dL_types_146 rfl (by decide) ?_
      obtain ⟨x14, hx14, h⟩ := hb_bind_of h
      refine ww_callS (rest := [.int 43, .ref (G.2.2.2 r0)]) (st' := [.int x14, .int 43, .ref (G.2.2.2 r0)]) 150 X (ct_L_low (hb_l Γ) G (j6 >>> (5 &&& 31)) 3 x13.2 hx14) cw_L_35 rfl ⟨by decide, by decide⟩ (Nat.le_of_ble_eq_true rfl) rfl rfl dL_types_147 rfl ?_
      refine ww_if_ne 166 153 X dL_types_150 (by decide) rfl h (fun h => ?_) (fun h => ?_)
      · skip
        refine ww_iload 155 X dL_types_153 rfl rfl ?_
        refine ww_bipush (v := 6) 157 X dL_types_155 rfl (by decide) ?_
        refine ww_ishr 158 X dL_types_157 rfl ?_
        refine ww_bipush (v := 32) 160 X dL_types_158 rfl (by decide) ?_
        obtain ⟨x19, hx19, h⟩ := hb_bind_of h
        refine ww_callS (rest := [.int 43, .ref (G.2.2.2 r0)]) (st' := [.int x19, .int 43, .ref (G.2.2.2 r0)]) 163 X (ct_L_low (hb_l Γ) G (j6 >>> (6 &&& 31)) 32 x13.2 hx19) cw_L_35 rfl ⟨by decide, by decide⟩ (Nat.le_of_ble_eq_true rfl) rfl rfl dL_types_160 rfl ?_
        refine ww_goto 167 X dL_types_163 (by decide) ?_
        exact jw_L_types_167 X r0 hr0 p1 i2 i3 j5 j6 43 x19 x13.2 h K
      · skip
        refine ww_iconst (v := 0) 167 X dL_types_166 rfl (by decide) ?_
        exact jw_L_types_167 X r0 hr0 p1 i2 i3 j5 j6 43 0 x13.2 h K
def jn_L_types_85 (r0 : Nat) (p1 : Int32) (i2 : Int32) (i3 : Int32) (j5 : Int32) (j6 : Int32) (σ : hb_Mem) : Option ((Int32 × Int32 × hb_Mem) ⊕ (Int32 × hb_Mem)) :=
(fn_L_low j6 i3).bind fun x8 =>
(fn_L_number r0 x8 σ).bind fun x9 =>
if x9.1 = 0 then (
jn_L_types_212 r0 p1 i2 i3 j5 x9.2)
else (
(fn_L_low (p1 >>> (23 &&& 31)) 11).bind fun x10 =>
if x10 = 0 then (
jn_L_types_118 r0 p1 i2 i3 j5 j6 61 x9.2)
else (
jn_L_types_118 r0 p1 i2 i3 j5 j6 62 x9.2))
set_option maxRecDepth 100000 in
set_option maxHeartbeats 4000000 in
theorem jw_L_types_85 {Γ : hb_Ctx} {G : hb_Gam} {Q : State → Prop} (X : hb_X Γ cL_types 7 RL ΛC G 8 182)  (r0 : Nat) (hr0 : hb_is ΛC r0 5) (p1 : Int32) (i2 : Int32) (i3 : Int32) (j5 : Int32) (j6 : Int32) (σ : hb_Mem) {x : ((Int32 × Int32 × hb_Mem) ⊕ (Int32 × hb_Mem))} (h : jn_L_types_85 r0 p1 i2 i3 j5 j6 σ = some x) (K : Sum.elim (fun s : (Int32 × Int32 × hb_Mem) => hb_W Γ ΛC G 7 Q s.2.2 [some (.ref (G.2.2.2 r0)), some (.int p1), some (.int i2), some (.int i3), some (.int s.1), some (.int s.2.1), none] [] 46) (fun t : (Int32 × hb_Mem) => hb_W Γ ΛC G 7 Q t.2 [none, none, none, none, some (.int t.1), none, none] [] 221) x) : hb_W Γ ΛC G 7 Q σ [some (.ref (G.2.2.2 r0)), some (.int p1), some (.int i2), some (.int i3), none, some (.int j5), some (.int j6)] [] 85 := by
  unfold jn_L_types_85 at h
  refine ww_aload_n 86 X dL_types_85 rfl rfl ?_
  refine ww_iload 88 X dL_types_86 rfl rfl ?_
  refine ww_iload_n 89 X dL_types_88 rfl rfl ?_
  obtain ⟨x8, hx8, h⟩ := hb_bind_of h
  refine ww_callS (rest := [.ref (G.2.2.2 r0)]) (st' := [.int x8, .ref (G.2.2.2 r0)]) 92 X (ct_L_low (hb_l Γ) G j6 i3 σ hx8) cw_L_35 rfl ⟨by decide, by decide⟩ (Nat.le_of_ble_eq_true rfl) rfl rfl dL_types_89 rfl ?_
  obtain ⟨x9, hx9, h⟩ := hb_bind_of h
  refine ww_callS (rest := []) (st' := [.int x9.1]) 95 X (ct_L_number (hb_l Γ) G r0 hr0 x8 σ hx9) cw_L_52 rfl ⟨by decide, by decide⟩ (Nat.le_of_ble_eq_true rfl) rfl rfl dL_types_92 rfl ?_
  refine ww_if_eq 212 98 X dL_types_95 (by decide) rfl h (fun h => ?_) (fun h => ?_)
  · skip
    refine ww_kill [6] (L' := [some (.ref (G.2.2.2 r0)), some (.int p1), some (.int i2), some (.int i3), none, some (.int j5), none]) rfl ?_
    exact jw_L_types_212 X r0 hr0 p1 i2 i3 j5 x9.2 h K
  · skip
    refine ww_aload_n 99 X dL_types_98 rfl rfl ?_
    refine ww_iload_n 100 X dL_types_99 rfl rfl ?_
    refine ww_bipush (v := 23) 102 X dL_types_100 rfl (by decide) ?_
    refine ww_ishr 103 X dL_types_102 rfl ?_
    refine ww_bipush (v := 11) 105 X dL_types_103 rfl (by decide) ?_
    obtain ⟨x10, hx10, h⟩ := hb_bind_of h
    refine ww_callS (rest := [.ref (G.2.2.2 r0)]) (st' := [.int x10, .ref (G.2.2.2 r0)]) 108 X (ct_L_low (hb_l Γ) G (p1 >>> (23 &&& 31)) 11 x9.2 hx10) cw_L_35 rfl ⟨by decide, by decide⟩ (Nat.le_of_ble_eq_true rfl) rfl rfl dL_types_105 rfl ?_
    refine ww_if_ne 116 111 X dL_types_108 (by decide) rfl h (fun h => ?_) (fun h => ?_)
    · skip
      refine ww_bipush (v := 61) 113 X dL_types_111 rfl (by decide) ?_
      refine ww_goto 118 X dL_types_113 (by decide) ?_
      exact jw_L_types_118 X r0 hr0 p1 i2 i3 j5 j6 61 x9.2 h K
    · skip
      refine ww_bipush (v := 62) 118 X dL_types_116 rfl (by decide) ?_
      exact jw_L_types_118 X r0 hr0 p1 i2 i3 j5 j6 62 x9.2 h K
def lb_L_types_46 (r0 : Nat) (p1 : Int32) (i2 : Int32) (i3 : Int32) (w4 : Int32) (w5 : Int32) (σ : hb_Mem) : Option ((Int32 × Int32 × hb_Mem) ⊕ (Int32 × hb_Mem)) :=
if i2 ≤ w5 then (
some (.inr (w4, σ)))
else (
if i3 ≤ 0 then (
some (.inr (w4, σ)))
else (
hb_nm (p1 >>> (((2 : Int32) + ((5 : Int32) * w5)) &&& 31)) fun v6 =>
if w4 = 0 then (
jn_L_types_212 r0 p1 i2 i3 w5 σ)
else (
if w5 = 0 then (
jn_L_types_85 r0 p1 i2 i3 w5 v6 σ)
else (
(fn_X5_type r0 59 σ).bind fun x20 =>
if x20.1 ≤ 0 then (
jn_L_types_212 r0 p1 i2 i3 w5 x20.2)
else (
jn_L_types_85 r0 p1 i2 i3 w5 v6 x20.2)))))
set_option maxRecDepth 100000 in
set_option maxHeartbeats 4000000 in
theorem lk_L_types_46 {Γ : hb_Ctx} {G : hb_Gam} {Q : State → Prop} (X : hb_X Γ cL_types 7 RL ΛC G 8 182)  (r0 : Nat) (hr0 : hb_is ΛC r0 5) (p1 : Int32) (i2 : Int32) (i3 : Int32) (w4 : Int32) (w5 : Int32) (σ : hb_Mem) {x : ((Int32 × Int32 × hb_Mem) ⊕ (Int32 × hb_Mem))} (h : lb_L_types_46 r0 p1 i2 i3 w4 w5 σ = some x) (K : Sum.elim (fun s : (Int32 × Int32 × hb_Mem) => hb_W Γ ΛC G 7 Q s.2.2 [some (.ref (G.2.2.2 r0)), some (.int p1), some (.int i2), some (.int i3), some (.int s.1), some (.int s.2.1), none] [] 46) (fun t : (Int32 × hb_Mem) => hb_W Γ ΛC G 7 Q t.2 [none, none, none, none, some (.int t.1), none, none] [] 221) x) : hb_W Γ ΛC G 7 Q σ [some (.ref (G.2.2.2 r0)), some (.int p1), some (.int i2), some (.int i3), some (.int w4), some (.int w5), none] [] 46 := by
  unfold lb_L_types_46 at h
  refine ww_iload 48 X dL_types_46 rfl rfl ?_
  refine ww_iload_n 49 X dL_types_48 rfl rfl ?_
  refine ww_icmp_ge 221 52 X dL_types_49 (by decide) rfl h (fun h => ?_) (fun h => ?_)
  · skip
    obtain rfl := Option.some.inj h
    refine ww_kill [0, 1, 2, 3, 5] (L' := [none, none, none, none, some (.int w4), none, none]) rfl ?_
    exact K
  · skip
    refine ww_iload_n 53 X dL_types_52 rfl rfl ?_
    refine ww_if_le 221 56 X dL_types_53 (by decide) rfl h (fun h => ?_) (fun h => ?_)
    · skip
      obtain rfl := Option.some.inj h
      refine ww_kill [0, 1, 2, 3, 5] (L' := [none, none, none, none, some (.int w4), none, none]) rfl ?_
      exact K
    · skip
      refine ww_iload_n 57 X dL_types_56 rfl rfl ?_
      refine ww_iconst (v := 2) 58 X dL_types_57 rfl (by decide) ?_
      refine ww_iconst (v := 5) 59 X dL_types_58 rfl (by decide) ?_
      refine ww_iload 61 X dL_types_59 rfl rfl ?_
      refine ww_imul 62 X dL_types_61 rfl ?_
      refine ww_iadd 63 X dL_types_62 rfl ?_
      refine ww_ishr 64 X dL_types_63 rfl ?_
      obtain ⟨v6, ev6, h⟩ := hb_nm_of h
      rw [← ev6]
      refine ww_istore 66 X (L' := [some (.ref (G.2.2.2 r0)), some (.int p1), some (.int i2), some (.int i3), some (.int w4), some (.int w5), some (.int v6)]) dL_types_64 rfl (Nat.le_of_ble_eq_true rfl) rfl rfl ?_
      refine ww_iload 68 X dL_types_66 rfl rfl ?_
      refine ww_if_eq 212 71 X dL_types_68 (by decide) rfl h (fun h => ?_) (fun h => ?_)
      · skip
        refine ww_kill [4, 6] (L' := [some (.ref (G.2.2.2 r0)), some (.int p1), some (.int i2), some (.int i3), none, some (.int w5), none]) rfl ?_
        exact jw_L_types_212 X r0 hr0 p1 i2 i3 w5 σ h K
      · skip
        refine ww_iload 73 X dL_types_71 rfl rfl ?_
        refine ww_if_eq 85 76 X dL_types_73 (by decide) rfl h (fun h => ?_) (fun h => ?_)
        · skip
          refine ww_kill [4] (L' := [some (.ref (G.2.2.2 r0)), some (.int p1), some (.int i2), some (.int i3), none, some (.int w5), some (.int v6)]) rfl ?_
          exact jw_L_types_85 X r0 hr0 p1 i2 i3 w5 v6 σ h K
        · skip
          refine ww_aload_n 77 X dL_types_76 rfl rfl ?_
          refine ww_bipush (v := 59) 79 X dL_types_77 rfl (by decide) ?_
          obtain ⟨x20, hx20, h⟩ := hb_bind_of h
          refine ww_callV (ci := 5) (rest := []) (st' := [.int x20.1]) 82 X (ct_X5_type (hb_l Γ) G r0 hr0 59 σ hx20) cw_L_45 rfl (by decide) hr0 rfl ⟨by decide, by decide⟩ (Nat.le_of_ble_eq_true rfl) rfl rfl dL_types_79 rfl ?_
          refine ww_if_le 212 85 X dL_types_82 (by decide) rfl h (fun h => ?_) (fun h => ?_)
          · skip
            refine ww_kill [4, 6] (L' := [some (.ref (G.2.2.2 r0)), some (.int p1), some (.int i2), some (.int i3), none, some (.int w5), none]) rfl ?_
            exact jw_L_types_212 X r0 hr0 p1 i2 i3 w5 x20.2 h K
          · skip
            refine ww_kill [4] (L' := [some (.ref (G.2.2.2 r0)), some (.int p1), some (.int i2), some (.int i3), none, some (.int w5), some (.int v6)]) rfl ?_
            exact jw_L_types_85 X r0 hr0 p1 i2 i3 w5 v6 x20.2 h K
def ll_L_types_46 (r0 : Nat) (p1 : Int32) (i2 : Int32) (i3 : Int32) : (Int32 × Int32 × hb_Mem) → Option (Int32 × hb_Mem) := hb_lp (fun s => lb_L_types_46 r0 p1 i2 i3 s.1 s.2.1 s.2.2) hb_F
theorem lw_L_types_46 {Γ : hb_Ctx} {G : hb_Gam} {Q : State → Prop} (X : hb_X Γ cL_types 7 RL ΛC G 8 182)  (r0 : Nat) (hr0 : hb_is ΛC r0 5) (p1 : Int32) (i2 : Int32) (i3 : Int32) (s : (Int32 × Int32 × hb_Mem)) (t : (Int32 × hb_Mem)) (h : ll_L_types_46 r0 p1 i2 i3 s = some t) (K : (fun t : (Int32 × hb_Mem) => hb_W Γ ΛC G 7 Q t.2 [none, none, none, none, some (.int t.1), none, none] [] 221) t) : hb_W Γ ΛC G 7 Q s.2.2 [some (.ref (G.2.2.2 r0)), some (.int p1), some (.int i2), some (.int i3), some (.int s.1), some (.int s.2.1), none] [] 46 :=
  hb_lp_w (P := fun s : (Int32 × Int32 × hb_Mem) => hb_W Γ ΛC G 7 Q s.2.2 [some (.ref (G.2.2.2 r0)), some (.int p1), some (.int i2), some (.int i3), some (.int s.1), some (.int s.2.1), none] [] 46) (E := (fun t : (Int32 × hb_Mem) => hb_W Γ ΛC G 7 Q t.2 [none, none, none, none, some (.int t.1), none, none] [] 221)) (fun s x hx K => lk_L_types_46 X r0 hr0 p1 i2 i3 s.1 s.2.1 s.2.2 hx K) _ s t h K
def jn_L_types_41 (r0 : Nat) (p1 : Int32) (j2 : Int32) (j3 : Int32) (s0 : Int32) (σ : hb_Mem) : Option (Int32 × hb_Mem) :=
(ll_L_types_46 r0 p1 j2 j3 (s0, 0, σ)).bind fun t21 =>
(hb_bz t21.1).bind fun z22 =>
some (t21.1, t21.2)
set_option maxRecDepth 100000 in
set_option maxHeartbeats 4000000 in
theorem jw_L_types_41 {Γ : hb_Ctx} {G : hb_Gam} {Q : State → Prop} (X : hb_X Γ cL_types 7 RL ΛC G 8 182) (hr : hb_ret Γ = (some .boolean)) (r0 : Nat) (hr0 : hb_is ΛC r0 5) (p1 : Int32) (j2 : Int32) (j3 : Int32) (s0 : Int32) (σ : hb_Mem) {x : (Int32 × hb_Mem)} (h : jn_L_types_41 r0 p1 j2 j3 s0 σ = some x) (K : Q = hb_Q Γ ΛC G (some (.int x.1)) x.2) : hb_W Γ ΛC G 7 Q σ [some (.ref (G.2.2.2 r0)), some (.int p1), some (.int j2), some (.int j3), none, none, none] [.int s0] 41 := by
  unfold jn_L_types_41 at h
  refine ww_istore 43 X (L' := [some (.ref (G.2.2.2 r0)), some (.int p1), some (.int j2), some (.int j3), some (.int s0), none, none]) dL_types_41 rfl (Nat.le_of_ble_eq_true rfl) rfl rfl ?_
  refine ww_iconst (v := 0) 44 X dL_types_43 rfl (by decide) ?_
  refine ww_istore 46 X (L' := [some (.ref (G.2.2.2 r0)), some (.int p1), some (.int j2), some (.int j3), some (.int s0), some (.int 0), none]) dL_types_44 rfl (Nat.le_of_ble_eq_true rfl) rfl rfl ?_
  obtain ⟨t21, ht21, h⟩ := hb_bind_of h
  refine lw_L_types_46 X r0 hr0 p1 j2 j3 (s0, 0, σ) t21 ht21 ?_
  refine ww_iload 223 X dL_types_221 rfl rfl ?_
  obtain ⟨z22, hz22, h⟩ := hb_bind_of h
  replace hz22 := (hb_bz_of hz22).1
  obtain rfl := Option.some.inj h
  exact ww_ret_z X hr hz22 K dL_types_223
def jn_L_types_27 (r0 : Nat) (p1 : Int32) (j2 : Int32) (s0 : Int32) (s1 : Int32) (σ : hb_Mem) : Option (Int32 × hb_Mem) :=
hb_nm (s0 + s1) fun v4 =>
(fn_X5_clearText r0 σ).bind fun x5 =>
if x5.1 < 0 then (
jn_L_types_41 r0 p1 j2 v4 0 x5.2)
else (
jn_L_types_41 r0 p1 j2 v4 1 x5.2)
set_option maxRecDepth 100000 in
set_option maxHeartbeats 4000000 in
theorem jw_L_types_27 {Γ : hb_Ctx} {G : hb_Gam} {Q : State → Prop} (X : hb_X Γ cL_types 7 RL ΛC G 8 182) (hr : hb_ret Γ = (some .boolean)) (r0 : Nat) (hr0 : hb_is ΛC r0 5) (p1 : Int32) (j2 : Int32) (s0 : Int32) (s1 : Int32) (σ : hb_Mem) {x : (Int32 × hb_Mem)} (h : jn_L_types_27 r0 p1 j2 s0 s1 σ = some x) (K : Q = hb_Q Γ ΛC G (some (.int x.1)) x.2) : hb_W Γ ΛC G 7 Q σ [some (.ref (G.2.2.2 r0)), some (.int p1), some (.int j2), none, none, none, none] [.int s1, .int s0] 27 := by
  unfold jn_L_types_27 at h
  refine ww_iadd 28 X dL_types_27 rfl ?_
  obtain ⟨v4, ev4, h⟩ := hb_nm_of h
  rw [← ev4]
  refine ww_istore_n 29 X (L' := [some (.ref (G.2.2.2 r0)), some (.int p1), some (.int j2), some (.int v4), none, none, none]) dL_types_28 rfl (Nat.le_of_ble_eq_true rfl) rfl rfl ?_
  refine ww_aload_n 30 X dL_types_29 rfl rfl ?_
  obtain ⟨x5, hx5, h⟩ := hb_bind_of h
  refine ww_callV (ci := 5) (rest := []) (st' := [.int x5.1]) 33 X (ct_X5_clearText (hb_l Γ) G r0 hr0 σ hx5) cw_L_49 rfl (by decide) hr0 rfl ⟨by decide, by decide⟩ (Nat.le_of_ble_eq_true rfl) rfl rfl dL_types_30 rfl ?_
  refine ww_if_lt 40 36 X dL_types_33 (by decide) rfl h (fun h => ?_) (fun h => ?_)
  · skip
    refine ww_iconst (v := 0) 41 X dL_types_40 rfl (by decide) ?_
    exact jw_L_types_41 X hr r0 hr0 p1 j2 v4 0 x5.2 h K
  · skip
    refine ww_iconst (v := 1) 37 X dL_types_36 rfl (by decide) ?_
    refine ww_goto 41 X dL_types_37 (by decide) ?_
    exact jw_L_types_41 X hr r0 hr0 p1 j2 v4 1 x5.2 h K
def fn_L_types (r0 : Nat) (p1 : Int32) (σ : hb_Mem) : Option (Int32 × hb_Mem) :=
(fn_L_low p1 4).bind fun x1 =>
(fn_X5_count r0 0 σ).bind fun x2 =>
(fn_L_low (p1 >>> (20 &&& 31)) 5).bind fun x3 =>
if x3 = 0 then (
jn_L_types_27 r0 p1 x1 x2.1 1 x2.2)
else (
jn_L_types_27 r0 p1 x1 x2.1 0 x2.2)
set_option maxRecDepth 100000 in
set_option maxHeartbeats 4000000 in
theorem wk_L_types {Γ : hb_Ctx} {G : hb_Gam} {Q : State → Prop} (X : hb_X Γ cL_types 7 RL ΛC G 8 182) (hr : hb_ret Γ = (some .boolean)) (r0 : Nat) (hr0 : hb_is ΛC r0 5) (p1 : Int32) (σ : hb_Mem) {x : (Int32 × hb_Mem)} (h : fn_L_types r0 p1 σ = some x) (K : Q = hb_Q Γ ΛC G (some (.int x.1)) x.2) : hb_W Γ ΛC G 7 Q σ [some (.ref (G.2.2.2 r0)), some (.int p1), none, none, none, none, none] [] 0 := by
  unfold fn_L_types at h
  refine ww_iload_n 1 X dL_types_0 rfl rfl ?_
  refine ww_iconst (v := 4) 2 X dL_types_1 rfl (by decide) ?_
  obtain ⟨x1, hx1, h⟩ := hb_bind_of h
  refine ww_callS (rest := []) (st' := [.int x1]) 5 X (ct_L_low (hb_l Γ) G p1 4 σ hx1) cw_L_35 rfl ⟨by decide, by decide⟩ (Nat.le_of_ble_eq_true rfl) rfl rfl dL_types_2 rfl ?_
  refine ww_istore_n 6 X (L' := [some (.ref (G.2.2.2 r0)), some (.int p1), some (.int x1), none, none, none, none]) dL_types_5 rfl (Nat.le_of_ble_eq_true rfl) rfl rfl ?_
  refine ww_aload_n 7 X dL_types_6 rfl rfl ?_
  refine ww_iconst (v := 0) 8 X dL_types_7 rfl (by decide) ?_
  obtain ⟨x2, hx2, h⟩ := hb_bind_of h
  refine ww_callV (ci := 5) (rest := []) (st' := [.int x2.1]) 11 X (ct_X5_count (hb_l Γ) G r0 hr0 0 σ hx2) cw_L_11 rfl (by decide) hr0 rfl ⟨by decide, by decide⟩ (Nat.le_of_ble_eq_true rfl) rfl rfl dL_types_8 rfl ?_
  refine ww_iload_n 12 X dL_types_11 rfl rfl ?_
  refine ww_bipush (v := 20) 14 X dL_types_12 rfl (by decide) ?_
  refine ww_ishr 15 X dL_types_14 rfl ?_
  refine ww_iconst (v := 5) 16 X dL_types_15 rfl (by decide) ?_
  obtain ⟨x3, hx3, h⟩ := hb_bind_of h
  refine ww_callS (rest := [.int x2.1]) (st' := [.int x3, .int x2.1]) 19 X (ct_L_low (hb_l Γ) G (p1 >>> (20 &&& 31)) 5 x2.2 hx3) cw_L_35 rfl ⟨by decide, by decide⟩ (Nat.le_of_ble_eq_true rfl) rfl rfl dL_types_16 rfl ?_
  refine ww_if_ne 26 22 X dL_types_19 (by decide) rfl h (fun h => ?_) (fun h => ?_)
  · skip
    refine ww_iconst (v := 1) 23 X dL_types_22 rfl (by decide) ?_
    refine ww_goto 27 X dL_types_23 (by decide) ?_
    exact jw_L_types_27 X hr r0 hr0 p1 x1 x2.1 1 x2.2 h K
  · skip
    refine ww_iconst (v := 0) 27 X dL_types_26 rfl (by decide) ?_
    exact jw_L_types_27 X hr r0 hr0 p1 x1 x2.1 0 x2.2 h K
theorem ct_L_types (l : Launch) (G : hb_Gam) (r0 : Nat) (hr0 : hb_is ΛC r0 5) (p1 : Int32) (σ : hb_Mem) {x : (Int32 × hb_Mem)} (h : fn_L_types r0 p1 σ = some x) : hb_C l yL_types cL_types 7 (some .boolean) 8 182 ΛC G [.ref (G.2.2.2 r0), .int p1] σ (some (.int x.1)) x.2 :=
  hb_C.of [some (.ref (G.2.2.2 r0)), some (.int p1), none, none, none, none, none] (by decide +kernel) (Nat.le_of_ble_eq_true rfl) (by intro v hv; simp only [List.mem_cons, List.not_mem_nil, or_false] at hv; rcases hv with rfl | rfl <;> rfl) rfl (hb_pad [.ref (G.2.2.2 r0), .int p1] 5) (fun Γ X hr => wk_L_types X hr r0 hr0 p1 σ h rfl)
def jn_L_acts_1365 (r0 : Nat) (p1 : Int32) (p2 : Int32) (j11 : Int32) (σ : hb_Mem) : Option (Int32 × hb_Mem) :=
(fn_X5_count r0 1 σ).bind fun x12 =>
if x12.1 = j11 then (
some (1, x12.2))
else (
some (0, x12.2))
set_option maxRecDepth 100000 in
set_option maxHeartbeats 4000000 in
theorem jw_L_acts_1365 {Γ : hb_Ctx} {G : hb_Gam} {Q : State → Prop} (X : hb_X Γ cL_acts 16 RL ΛC G 9 208) (hr : hb_ret Γ = (some .boolean)) (r0 : Nat) (hr0 : hb_is ΛC r0 5) (p1 : Int32) (p2 : Int32) (j11 : Int32) (σ : hb_Mem) {x : (Int32 × hb_Mem)} (h : jn_L_acts_1365 r0 p1 p2 j11 σ = some x) (K : Q = hb_Q Γ ΛC G (some (.int x.1)) x.2) : hb_W Γ ΛC G 16 Q σ [some (.ref (G.2.2.2 r0)), none, none, none, none, none, none, none, none, none, none, some (.int j11), none, none, none, none] [] 1365 := by
  unfold jn_L_acts_1365 at h
  refine ww_aload_n 1366 X dL_acts_1365 rfl rfl ?_
  refine ww_iconst (v := 1) 1367 X dL_acts_1366 rfl (by decide) ?_
  obtain ⟨x12, hx12, h⟩ := hb_bind_of h
  refine ww_callV (ci := 5) (rest := []) (st' := [.int x12.1]) 1370 X (ct_X5_count (hb_l Γ) G r0 hr0 1 σ hx12) cw_L_11 rfl (by decide) hr0 rfl ⟨by decide, by decide⟩ (Nat.le_of_ble_eq_true rfl) rfl rfl dL_acts_1367 rfl ?_
  refine ww_iload 1372 X dL_acts_1370 rfl rfl ?_
  refine ww_icmp_ne 1379 1375 X dL_acts_1372 (by decide) rfl h (fun h => ?_) (fun h => ?_)
  · skip
    refine ww_iconst (v := 1) 1376 X dL_acts_1375 rfl (by decide) ?_
    refine ww_goto 1380 X dL_acts_1376 (by decide) ?_
    obtain rfl := Option.some.inj h
    exact ww_ret_z X hr (by decide) K dL_acts_1380
  · skip
    refine ww_iconst (v := 0) 1380 X dL_acts_1379 rfl (by decide) ?_
    obtain rfl := Option.some.inj h
    exact ww_ret_z X hr (by decide) K dL_acts_1380
def jn_L_acts_1125 (r0 : Nat) (p1 : Int32) (p2 : Int32) (j8 : Int32) (σ : hb_Mem) : Option (Int32 × hb_Mem) :=
(fn_X5_count r0 9 σ).bind fun x19 =>
if x19.1 = 1 then (
(fn_X5_goToMark r0 j8 x19.2).bind fun x20 =>
if x20.1 = (-5) then (
some (1, x20.2))
else (
some (0, x20.2)))
else (
some (0, x19.2))
set_option maxRecDepth 100000 in
set_option maxHeartbeats 4000000 in
theorem jw_L_acts_1125 {Γ : hb_Ctx} {G : hb_Gam} {Q : State → Prop} (X : hb_X Γ cL_acts 16 RL ΛC G 9 208) (hr : hb_ret Γ = (some .boolean)) (r0 : Nat) (hr0 : hb_is ΛC r0 5) (p1 : Int32) (p2 : Int32) (j8 : Int32) (σ : hb_Mem) {x : (Int32 × hb_Mem)} (h : jn_L_acts_1125 r0 p1 p2 j8 σ = some x) (K : Q = hb_Q Γ ΛC G (some (.int x.1)) x.2) : hb_W Γ ΛC G 16 Q σ [some (.ref (G.2.2.2 r0)), none, none, none, none, none, none, none, some (.int j8), none, none, none, none, none, none, none] [] 1125 := by
  unfold jn_L_acts_1125 at h
  refine ww_aload_n 1126 X dL_acts_1125 rfl rfl ?_
  refine ww_bipush (v := 9) 1128 X dL_acts_1126 rfl (by decide) ?_
  obtain ⟨x19, hx19, h⟩ := hb_bind_of h
  refine ww_callV (ci := 5) (rest := []) (st' := [.int x19.1]) 1131 X (ct_X5_count (hb_l Γ) G r0 hr0 9 σ hx19) cw_L_11 rfl (by decide) hr0 rfl ⟨by decide, by decide⟩ (Nat.le_of_ble_eq_true rfl) rfl rfl dL_acts_1128 rfl ?_
  refine ww_iconst (v := 1) 1132 X dL_acts_1131 rfl (by decide) ?_
  refine ww_icmp_ne 1150 1135 X dL_acts_1132 (by decide) rfl h (fun h => ?_) (fun h => ?_)
  · skip
    refine ww_aload_n 1136 X dL_acts_1135 rfl rfl ?_
    refine ww_iload 1138 X dL_acts_1136 rfl rfl ?_
    obtain ⟨x20, hx20, h⟩ := hb_bind_of h
    refine ww_callV (ci := 5) (rest := []) (st' := [.int x20.1]) 1141 X (ct_X5_goToMark (hb_l Γ) G r0 hr0 j8 x19.2 hx20) cw_L_85 rfl (by decide) hr0 rfl ⟨by decide, by decide⟩ (Nat.le_of_ble_eq_true rfl) rfl rfl dL_acts_1138 rfl ?_
    refine ww_bipush (v := (-5)) 1143 X dL_acts_1141 rfl (by decide) ?_
    refine ww_icmp_ne 1150 1146 X dL_acts_1143 (by decide) rfl h (fun h => ?_) (fun h => ?_)
    · skip
      refine ww_iconst (v := 1) 1147 X dL_acts_1146 rfl (by decide) ?_
      refine ww_goto 1151 X dL_acts_1147 (by decide) ?_
      obtain rfl := Option.some.inj h
      exact ww_ret_z X hr (by decide) K dL_acts_1151
    · skip
      refine ww_iconst (v := 0) 1151 X dL_acts_1150 rfl (by decide) ?_
      obtain rfl := Option.some.inj h
      exact ww_ret_z X hr (by decide) K dL_acts_1151
  · skip
    refine ww_iconst (v := 0) 1151 X dL_acts_1150 rfl (by decide) ?_
    obtain rfl := Option.some.inj h
    exact ww_ret_z X hr (by decide) K dL_acts_1151
def jn_L_acts_1016 (r0 : Nat) (p1 : Int32) (p2 : Int32) (j8 : Int32) (j13 : Int32) (j15 : Int32) (s0 : Int32) (s1 : Int32) (σ : hb_Mem) : Option (Int32 × hb_Mem) :=
if s0 = s1 then (
if j15 < 0 then (
some (1, σ))
else (
(fn_X5_reader r0 j8 0 σ).bind fun x25 =>
if x25 = j15 then (
(fn_X5_reader r0 j8 3 σ).bind fun x26 =>
if x26 = (j13 + 1) then (
some (1, σ))
else (
some (0, σ)))
else (
some (0, σ))))
else (
some (0, σ))
set_option maxRecDepth 100000 in
set_option maxHeartbeats 4000000 in
theorem jw_L_acts_1016 {Γ : hb_Ctx} {G : hb_Gam} {Q : State → Prop} (X : hb_X Γ cL_acts 16 RL ΛC G 9 208) (hr : hb_ret Γ = (some .boolean)) (r0 : Nat) (hr0 : hb_is ΛC r0 5) (p1 : Int32) (p2 : Int32) (j8 : Int32) (j13 : Int32) (j15 : Int32) (s0 : Int32) (s1 : Int32) (σ : hb_Mem) {x : (Int32 × hb_Mem)} (h : jn_L_acts_1016 r0 p1 p2 j8 j13 j15 s0 s1 σ = some x) (K : Q = hb_Q Γ ΛC G (some (.int x.1)) x.2) : hb_W Γ ΛC G 16 Q σ [some (.ref (G.2.2.2 r0)), none, none, none, none, none, none, none, some (.int j8), none, none, none, none, some (.int j13), none, some (.int j15)] [.int s1, .int s0] 1016 := by
  unfold jn_L_acts_1016 at h
  refine ww_icmp_ne 1054 1019 X dL_acts_1016 (by decide) rfl h (fun h => ?_) (fun h => ?_)
  · skip
    refine ww_iload 1021 X dL_acts_1019 rfl rfl ?_
    refine ww_if_lt 1050 1024 X dL_acts_1021 (by decide) rfl h (fun h => ?_) (fun h => ?_)
    · skip
      refine ww_iconst (v := 1) 1051 X dL_acts_1050 rfl (by decide) ?_
      refine ww_goto 1055 X dL_acts_1051 (by decide) ?_
      obtain rfl := Option.some.inj h
      exact ww_ret_z X hr (by decide) K dL_acts_1055
    · skip
      refine ww_aload_n 1025 X dL_acts_1024 rfl rfl ?_
      refine ww_iload 1027 X dL_acts_1025 rfl rfl ?_
      refine ww_iconst (v := 0) 1028 X dL_acts_1027 rfl (by decide) ?_
      obtain ⟨x25, hx25, h⟩ := hb_bind_of h
      refine ww_callV (ci := 5) (rest := []) (st' := [.int x25]) 1031 X (ct_X5_reader (hb_l Γ) G r0 hr0 j8 0 σ hx25) cw_L_27 rfl (by decide) hr0 rfl ⟨by decide, by decide⟩ (Nat.le_of_ble_eq_true rfl) rfl rfl dL_acts_1028 rfl ?_
      refine ww_iload 1033 X dL_acts_1031 rfl rfl ?_
      refine ww_icmp_ne 1054 1036 X dL_acts_1033 (by decide) rfl h (fun h => ?_) (fun h => ?_)
      · skip
        refine ww_aload_n 1037 X dL_acts_1036 rfl rfl ?_
        refine ww_iload 1039 X dL_acts_1037 rfl rfl ?_
        refine ww_iconst (v := 3) 1040 X dL_acts_1039 rfl (by decide) ?_
        obtain ⟨x26, hx26, h⟩ := hb_bind_of h
        refine ww_callV (ci := 5) (rest := []) (st' := [.int x26]) 1043 X (ct_X5_reader (hb_l Γ) G r0 hr0 j8 3 σ hx26) cw_L_27 rfl (by decide) hr0 rfl ⟨by decide, by decide⟩ (Nat.le_of_ble_eq_true rfl) rfl rfl dL_acts_1040 rfl ?_
        refine ww_iload 1045 X dL_acts_1043 rfl rfl ?_
        refine ww_iconst (v := 1) 1046 X dL_acts_1045 rfl (by decide) ?_
        refine ww_iadd 1047 X dL_acts_1046 rfl ?_
        refine ww_icmp_ne 1054 1050 X dL_acts_1047 (by decide) rfl h (fun h => ?_) (fun h => ?_)
        · skip
          refine ww_iconst (v := 1) 1051 X dL_acts_1050 rfl (by decide) ?_
          refine ww_goto 1055 X dL_acts_1051 (by decide) ?_
          obtain rfl := Option.some.inj h
          exact ww_ret_z X hr (by decide) K dL_acts_1055
        · skip
          refine ww_iconst (v := 0) 1055 X dL_acts_1054 rfl (by decide) ?_
          obtain rfl := Option.some.inj h
          exact ww_ret_z X hr (by decide) K dL_acts_1055
      · skip
        refine ww_iconst (v := 0) 1055 X dL_acts_1054 rfl (by decide) ?_
        obtain rfl := Option.some.inj h
        exact ww_ret_z X hr (by decide) K dL_acts_1055
  · skip
    refine ww_iconst (v := 0) 1055 X dL_acts_1054 rfl (by decide) ?_
    obtain rfl := Option.some.inj h
    exact ww_ret_z X hr (by decide) K dL_acts_1055
def jn_L_acts_970 (r0 : Nat) (p1 : Int32) (p2 : Int32) (j8 : Int32) (j9 : Int32) (j11 : Int32) (j12 : Int32) (j13 : Int32) (s0 : Int32) (σ : hb_Mem) : Option (Int32 × hb_Mem) :=
(fn_X5_choose r0 j8 j11 σ).bind fun x24 =>
if j9 = 0 then (
if j11 = 3 then (
jn_L_acts_1016 r0 p1 p2 j8 j13 x24.1 x24.1 (-2) x24.2)
else (
if j12 = 0 then (
jn_L_acts_1016 r0 p1 p2 j8 j13 x24.1 x24.1 s0 x24.2)
else (
jn_L_acts_1016 r0 p1 p2 j8 j13 x24.1 x24.1 (-4) x24.2)))
else (
jn_L_acts_1016 r0 p1 p2 j8 j13 x24.1 x24.1 (-1) x24.2)
set_option maxRecDepth 100000 in
set_option maxHeartbeats 4000000 in
theorem jw_L_acts_970 {Γ : hb_Ctx} {G : hb_Gam} {Q : State → Prop} (X : hb_X Γ cL_acts 16 RL ΛC G 9 208) (hr : hb_ret Γ = (some .boolean)) (r0 : Nat) (hr0 : hb_is ΛC r0 5) (p1 : Int32) (p2 : Int32) (j8 : Int32) (j9 : Int32) (j11 : Int32) (j12 : Int32) (j13 : Int32) (s0 : Int32) (σ : hb_Mem) {x : (Int32 × hb_Mem)} (h : jn_L_acts_970 r0 p1 p2 j8 j9 j11 j12 j13 s0 σ = some x) (K : Q = hb_Q Γ ΛC G (some (.int x.1)) x.2) : hb_W Γ ΛC G 16 Q σ [some (.ref (G.2.2.2 r0)), none, none, none, none, none, none, none, some (.int j8), some (.int j9), none, some (.int j11), some (.int j12), some (.int j13), none, none] [.int s0] 970 := by
  unfold jn_L_acts_970 at h
  refine ww_istore 972 X (L' := [some (.ref (G.2.2.2 r0)), none, none, none, none, none, none, none, some (.int j8), some (.int j9), none, some (.int j11), some (.int j12), some (.int j13), some (.int s0), none]) dL_acts_970 rfl (Nat.le_of_ble_eq_true rfl) rfl rfl ?_
  refine ww_aload_n 973 X dL_acts_972 rfl rfl ?_
  refine ww_iload 975 X dL_acts_973 rfl rfl ?_
  refine ww_iload 977 X dL_acts_975 rfl rfl ?_
  obtain ⟨x24, hx24, h⟩ := hb_bind_of h
  refine ww_callV (ci := 5) (rest := []) (st' := [.int x24.1]) 980 X (ct_X5_choose (hb_l Γ) G r0 hr0 j8 j11 σ hx24) cw_L_79 rfl (by decide) hr0 rfl ⟨by decide, by decide⟩ (Nat.le_of_ble_eq_true rfl) rfl rfl dL_acts_977 rfl ?_
  refine ww_istore 982 X (L' := [some (.ref (G.2.2.2 r0)), none, none, none, none, none, none, none, some (.int j8), some (.int j9), none, some (.int j11), some (.int j12), some (.int j13), some (.int s0), some (.int x24.1)]) dL_acts_980 rfl (Nat.le_of_ble_eq_true rfl) rfl rfl ?_
  refine ww_iload 984 X dL_acts_982 rfl rfl ?_
  refine ww_iload 986 X dL_acts_984 rfl rfl ?_
  refine ww_if_eq 993 989 X dL_acts_986 (by decide) rfl h (fun h => ?_) (fun h => ?_)
  · skip
    refine ww_iload 995 X dL_acts_993 rfl rfl ?_
    refine ww_iconst (v := 3) 996 X dL_acts_995 rfl (by decide) ?_
    refine ww_icmp_ne 1004 999 X dL_acts_996 (by decide) rfl h (fun h => ?_) (fun h => ?_)
    · skip
      refine ww_bipush (v := (-2)) 1001 X dL_acts_999 rfl (by decide) ?_
      refine ww_goto 1016 X dL_acts_1001 (by decide) ?_
      refine ww_kill [9, 11, 12, 14] (L' := [some (.ref (G.2.2.2 r0)), none, none, none, none, none, none, none, some (.int j8), none, none, none, none, some (.int j13), none, some (.int x24.1)]) rfl ?_
      exact jw_L_acts_1016 X hr r0 hr0 p1 p2 j8 j13 x24.1 x24.1 (-2) x24.2 h K
    · skip
      refine ww_iload 1006 X dL_acts_1004 rfl rfl ?_
      refine ww_if_ne 1014 1009 X dL_acts_1006 (by decide) rfl h (fun h => ?_) (fun h => ?_)
      · skip
        refine ww_iload 1011 X dL_acts_1009 rfl rfl ?_
        refine ww_goto 1016 X dL_acts_1011 (by decide) ?_
        refine ww_kill [9, 11, 12, 14] (L' := [some (.ref (G.2.2.2 r0)), none, none, none, none, none, none, none, some (.int j8), none, none, none, none, some (.int j13), none, some (.int x24.1)]) rfl ?_
        exact jw_L_acts_1016 X hr r0 hr0 p1 p2 j8 j13 x24.1 x24.1 s0 x24.2 h K
      · skip
        refine ww_bipush (v := (-4)) 1016 X dL_acts_1014 rfl (by decide) ?_
        refine ww_kill [9, 11, 12, 14] (L' := [some (.ref (G.2.2.2 r0)), none, none, none, none, none, none, none, some (.int j8), none, none, none, none, some (.int j13), none, some (.int x24.1)]) rfl ?_
        exact jw_L_acts_1016 X hr r0 hr0 p1 p2 j8 j13 x24.1 x24.1 (-4) x24.2 h K
  · skip
    refine ww_iconst (v := (-1)) 990 X dL_acts_989 rfl (by decide) ?_
    refine ww_goto 1016 X dL_acts_990 (by decide) ?_
    refine ww_kill [9, 11, 12, 14] (L' := [some (.ref (G.2.2.2 r0)), none, none, none, none, none, none, none, some (.int j8), none, none, none, none, some (.int j13), none, some (.int x24.1)]) rfl ?_
    exact jw_L_acts_1016 X hr r0 hr0 p1 p2 j8 j13 x24.1 x24.1 (-1) x24.2 h K
def jn_L_acts_949 (r0 : Nat) (p1 : Int32) (p2 : Int32) (j8 : Int32) (j9 : Int32) (j10 : Int32) (j11 : Int32) (j12 : Int32) (s0 : Int32) (σ : hb_Mem) : Option (Int32 × hb_Mem) :=
if j12 = 0 then (
(fn_X5_choice r0 j10 j11 0 σ).bind fun x27 =>
jn_L_acts_970 r0 p1 p2 j8 j9 j11 j12 s0 x27.1 x27.2)
else (
jn_L_acts_970 r0 p1 p2 j8 j9 j11 j12 s0 (-4) σ)
set_option maxRecDepth 100000 in
set_option maxHeartbeats 4000000 in
theorem jw_L_acts_949 {Γ : hb_Ctx} {G : hb_Gam} {Q : State → Prop} (X : hb_X Γ cL_acts 16 RL ΛC G 9 208) (hr : hb_ret Γ = (some .boolean)) (r0 : Nat) (hr0 : hb_is ΛC r0 5) (p1 : Int32) (p2 : Int32) (j8 : Int32) (j9 : Int32) (j10 : Int32) (j11 : Int32) (j12 : Int32) (s0 : Int32) (σ : hb_Mem) {x : (Int32 × hb_Mem)} (h : jn_L_acts_949 r0 p1 p2 j8 j9 j10 j11 j12 s0 σ = some x) (K : Q = hb_Q Γ ΛC G (some (.int x.1)) x.2) : hb_W Γ ΛC G 16 Q σ [some (.ref (G.2.2.2 r0)), none, none, none, none, none, none, none, some (.int j8), some (.int j9), some (.int j10), some (.int j11), some (.int j12), none, none, none] [.int s0] 949 := by
  unfold jn_L_acts_949 at h
  refine ww_istore 951 X (L' := [some (.ref (G.2.2.2 r0)), none, none, none, none, none, none, none, some (.int j8), some (.int j9), some (.int j10), some (.int j11), some (.int j12), some (.int s0), none, none]) dL_acts_949 rfl (Nat.le_of_ble_eq_true rfl) rfl rfl ?_
  refine ww_iload 953 X dL_acts_951 rfl rfl ?_
  refine ww_if_ne 968 956 X dL_acts_953 (by decide) rfl h (fun h => ?_) (fun h => ?_)
  · skip
    refine ww_aload_n 957 X dL_acts_956 rfl rfl ?_
    refine ww_iload 959 X dL_acts_957 rfl rfl ?_
    refine ww_iload 961 X dL_acts_959 rfl rfl ?_
    refine ww_iconst (v := 0) 962 X dL_acts_961 rfl (by decide) ?_
    obtain ⟨x27, hx27, h⟩ := hb_bind_of h
    refine ww_callV (ci := 5) (rest := []) (st' := [.int x27.1]) 965 X (ct_X5_choice (hb_l Γ) G r0 hr0 j10 j11 0 σ hx27) cw_L_23 rfl (by decide) hr0 rfl ⟨by decide, by decide⟩ (Nat.le_of_ble_eq_true rfl) rfl rfl dL_acts_962 rfl ?_
    refine ww_goto 970 X dL_acts_965 (by decide) ?_
    refine ww_kill [10] (L' := [some (.ref (G.2.2.2 r0)), none, none, none, none, none, none, none, some (.int j8), some (.int j9), none, some (.int j11), some (.int j12), some (.int s0), none, none]) rfl ?_
    exact jw_L_acts_970 X hr r0 hr0 p1 p2 j8 j9 j11 j12 s0 x27.1 x27.2 h K
  · skip
    refine ww_bipush (v := (-4)) 970 X dL_acts_968 rfl (by decide) ?_
    refine ww_kill [10] (L' := [some (.ref (G.2.2.2 r0)), none, none, none, none, none, none, none, some (.int j8), some (.int j9), none, some (.int j11), some (.int j12), some (.int s0), none, none]) rfl ?_
    exact jw_L_acts_970 X hr r0 hr0 p1 p2 j8 j9 j11 j12 s0 (-4) σ h K
def jn_L_acts_862 (r0 : Nat) (p1 : Int32) (p2 : Int32) (j8 : Int32) (j11 : Int32) (s0 : Int32) (s1 : Int32) (σ : hb_Mem) : Option (Int32 × hb_Mem) :=
if s0 = s1 then (
if j11 < 0 then (
some (1, σ))
else (
(fn_X5_reader r0 j8 0 σ).bind fun x30 =>
if x30 = 0 then (
(fn_X5_reader r0 j8 1 σ).bind fun x31 =>
if x31 = j11 then (
(fn_X5_reader r0 j8 3 σ).bind fun x32 =>
if x32 = 0 then (
some (1, σ))
else (
some (0, σ)))
else (
some (0, σ)))
else (
some (0, σ))))
else (
some (0, σ))
set_option maxRecDepth 100000 in
set_option maxHeartbeats 4000000 in
theorem jw_L_acts_862 {Γ : hb_Ctx} {G : hb_Gam} {Q : State → Prop} (X : hb_X Γ cL_acts 16 RL ΛC G 9 208) (hr : hb_ret Γ = (some .boolean)) (r0 : Nat) (hr0 : hb_is ΛC r0 5) (p1 : Int32) (p2 : Int32) (j8 : Int32) (j11 : Int32) (s0 : Int32) (s1 : Int32) (σ : hb_Mem) {x : (Int32 × hb_Mem)} (h : jn_L_acts_862 r0 p1 p2 j8 j11 s0 s1 σ = some x) (K : Q = hb_Q Γ ΛC G (some (.int x.1)) x.2) : hb_W Γ ΛC G 16 Q σ [some (.ref (G.2.2.2 r0)), none, none, none, none, none, none, none, some (.int j8), none, none, some (.int j11), none, none, none, none] [.int s1, .int s0] 862 := by
  unfold jn_L_acts_862 at h
  refine ww_icmp_ne 906 865 X dL_acts_862 (by decide) rfl h (fun h => ?_) (fun h => ?_)
  · skip
    refine ww_iload 867 X dL_acts_865 rfl rfl ?_
    refine ww_if_lt 902 870 X dL_acts_867 (by decide) rfl h (fun h => ?_) (fun h => ?_)
    · skip
      refine ww_iconst (v := 1) 903 X dL_acts_902 rfl (by decide) ?_
      refine ww_goto 907 X dL_acts_903 (by decide) ?_
      obtain rfl := Option.some.inj h
      exact ww_ret_z X hr (by decide) K dL_acts_907
    · skip
      refine ww_aload_n 871 X dL_acts_870 rfl rfl ?_
      refine ww_iload 873 X dL_acts_871 rfl rfl ?_
      refine ww_iconst (v := 0) 874 X dL_acts_873 rfl (by decide) ?_
      obtain ⟨x30, hx30, h⟩ := hb_bind_of h
      refine ww_callV (ci := 5) (rest := []) (st' := [.int x30]) 877 X (ct_X5_reader (hb_l Γ) G r0 hr0 j8 0 σ hx30) cw_L_27 rfl (by decide) hr0 rfl ⟨by decide, by decide⟩ (Nat.le_of_ble_eq_true rfl) rfl rfl dL_acts_874 rfl ?_
      refine ww_if_ne 906 880 X dL_acts_877 (by decide) rfl h (fun h => ?_) (fun h => ?_)
      · skip
        refine ww_aload_n 881 X dL_acts_880 rfl rfl ?_
        refine ww_iload 883 X dL_acts_881 rfl rfl ?_
        refine ww_iconst (v := 1) 884 X dL_acts_883 rfl (by decide) ?_
        obtain ⟨x31, hx31, h⟩ := hb_bind_of h
        refine ww_callV (ci := 5) (rest := []) (st' := [.int x31]) 887 X (ct_X5_reader (hb_l Γ) G r0 hr0 j8 1 σ hx31) cw_L_27 rfl (by decide) hr0 rfl ⟨by decide, by decide⟩ (Nat.le_of_ble_eq_true rfl) rfl rfl dL_acts_884 rfl ?_
        refine ww_iload 889 X dL_acts_887 rfl rfl ?_
        refine ww_icmp_ne 906 892 X dL_acts_889 (by decide) rfl h (fun h => ?_) (fun h => ?_)
        · skip
          refine ww_aload_n 893 X dL_acts_892 rfl rfl ?_
          refine ww_iload 895 X dL_acts_893 rfl rfl ?_
          refine ww_iconst (v := 3) 896 X dL_acts_895 rfl (by decide) ?_
          obtain ⟨x32, hx32, h⟩ := hb_bind_of h
          refine ww_callV (ci := 5) (rest := []) (st' := [.int x32]) 899 X (ct_X5_reader (hb_l Γ) G r0 hr0 j8 3 σ hx32) cw_L_27 rfl (by decide) hr0 rfl ⟨by decide, by decide⟩ (Nat.le_of_ble_eq_true rfl) rfl rfl dL_acts_896 rfl ?_
          refine ww_if_ne 906 902 X dL_acts_899 (by decide) rfl h (fun h => ?_) (fun h => ?_)
          · skip
            refine ww_iconst (v := 1) 903 X dL_acts_902 rfl (by decide) ?_
            refine ww_goto 907 X dL_acts_903 (by decide) ?_
            obtain rfl := Option.some.inj h
            exact ww_ret_z X hr (by decide) K dL_acts_907
          · skip
            refine ww_iconst (v := 0) 907 X dL_acts_906 rfl (by decide) ?_
            obtain rfl := Option.some.inj h
            exact ww_ret_z X hr (by decide) K dL_acts_907
        · skip
          refine ww_iconst (v := 0) 907 X dL_acts_906 rfl (by decide) ?_
          obtain rfl := Option.some.inj h
          exact ww_ret_z X hr (by decide) K dL_acts_907
      · skip
        refine ww_iconst (v := 0) 907 X dL_acts_906 rfl (by decide) ?_
        obtain rfl := Option.some.inj h
        exact ww_ret_z X hr (by decide) K dL_acts_907
  · skip
    refine ww_iconst (v := 0) 907 X dL_acts_906 rfl (by decide) ?_
    obtain rfl := Option.some.inj h
    exact ww_ret_z X hr (by decide) K dL_acts_907
def jn_L_acts_819 (r0 : Nat) (p1 : Int32) (p2 : Int32) (j3 : Int32) (j4 : Int32) (j8 : Int32) (j9 : Int32) (s0 : Int32) (σ : hb_Mem) : Option (Int32 × hb_Mem) :=
if j3 = 10 then (
(fn_X5_begin r0 j8 σ).bind fun x28 =>
if j9 = 0 then (
if j4 = 0 then (
jn_L_acts_862 r0 p1 p2 j8 x28.1 x28.1 (-4) x28.2)
else (
(fn_X5_page r0 0 1 x28.2).bind fun x29 =>
jn_L_acts_862 r0 p1 p2 j8 x28.1 x28.1 x29.1 x29.2))
else (
jn_L_acts_862 r0 p1 p2 j8 x28.1 x28.1 (-1) x28.2))
else (
if 15 ≤ j3 then (
if j3 = 15 then (
(fn_X5_mark r0 j8 σ).bind fun x18 =>
if j9 = 0 then (
if s0 = (-5) then (
if x18.1 = (-4) then (
some (1, x18.2))
else (
some (0, x18.2)))
else (
if x18.1 = s0 then (
jn_L_acts_1125 r0 p1 p2 j8 x18.2)
else (
if x18.1 = (-5) then (
jn_L_acts_1125 r0 p1 p2 j8 x18.2)
else (
some (0, x18.2)))))
else (
if x18.1 = (-1) then (
some (1, x18.2))
else (
some (0, x18.2))))
else (
if j3 = 16 then (
(fn_X5_count r0 9 σ).bind fun x14 =>
(fn_X5_goToMark r0 j8 x14.2).bind fun x15 =>
if j9 = 0 then (
if x14.1 = 0 then (
if x15.1 = (-4) then (
some (1, x15.2))
else (
some (0, x15.2)))
else (
if x15.1 = (-5) then (
if s0 = (-5) then (
some (0, x15.2))
else (
some (1, x15.2)))
else (
(fn_X5_reader r0 j8 0 x15.2).bind fun x16 =>
if x16 = x15.1 then (
(fn_X5_reader r0 j8 3 x15.2).bind fun x17 =>
if x17 = 0 then (
some (1, x15.2))
else (
some (0, x15.2)))
else (
some (0, x15.2)))))
else (
if x15.1 = (-1) then (
some (1, x15.2))
else (
some (0, x15.2))))
else (
(fn_X5_count r0 1 σ).bind fun x7 =>
(fn_L_types r0 p2 x7.2).bind fun x8 =>
(fn_X5_count r0 11 x8.2).bind fun x9 =>
(fn_X5_addChoices r0 x9.2).bind fun x10 =>
if x8.1 = 0 then (
some (0, x10.2))
else (
(fn_X5_count r0 11 x10.2).bind fun x11 =>
if x11.1 = x9.1 then (
if x10.1 ≤ 0 then (
if x10.1 = (-1) then (
jn_L_acts_1365 r0 p1 p2 x7.1 x11.2)
else (
if x10.1 = (-3) then (
jn_L_acts_1365 r0 p1 p2 x7.1 x11.2)
else (
if (-100) < x10.1 then (
some (0, x11.2))
else (
if x10.1 < (((-100) : Int32) - x9.1) then (
some (0, x11.2))
else (
jn_L_acts_1365 r0 p1 p2 x7.1 x11.2)))))
else (
if 15 < x10.1 then (
some (0, x11.2))
else (
(fn_X5_count r0 1 x11.2).bind fun x13 =>
if x13.1 = (x7.1 + x10.1) then (
some (1, x13.2))
else (
some (0, x13.2)))))
else (
some (0, x11.2))))))
else (
(fn_L_low (p2 >>> (2 &&& 31)) 4).bind fun x21 =>
(fn_X5_why r0 j8 x21 σ).bind fun x22 =>
if j9 = 0 then (
(fn_X5_reader r0 j8 3 σ).bind fun x23 =>
jn_L_acts_949 r0 p1 p2 j8 j9 s0 x21 x22 x23 σ)
else (
jn_L_acts_949 r0 p1 p2 j8 j9 s0 x21 x22 0 σ)))
set_option maxRecDepth 100000 in
set_option maxHeartbeats 4000000 in
theorem jw_L_acts_819 {Γ : hb_Ctx} {G : hb_Gam} {Q : State → Prop} (X : hb_X Γ cL_acts 16 RL ΛC G 9 208) (hr : hb_ret Γ = (some .boolean)) (r0 : Nat) (hr0 : hb_is ΛC r0 5) (p1 : Int32) (p2 : Int32) (j3 : Int32) (j4 : Int32) (j8 : Int32) (j9 : Int32) (s0 : Int32) (σ : hb_Mem) {x : (Int32 × hb_Mem)} (h : jn_L_acts_819 r0 p1 p2 j3 j4 j8 j9 s0 σ = some x) (K : Q = hb_Q Γ ΛC G (some (.int x.1)) x.2) : hb_W Γ ΛC G 16 Q σ [some (.ref (G.2.2.2 r0)), none, some (.int p2), some (.int j3), some (.int j4), none, none, none, some (.int j8), some (.int j9), none, none, none, none, none, none] [.int s0] 819 := by
  unfold jn_L_acts_819 at h
  refine ww_istore 821 X (L' := [some (.ref (G.2.2.2 r0)), none, some (.int p2), some (.int j3), some (.int j4), none, none, none, some (.int j8), some (.int j9), some (.int s0), none, none, none, none, none]) dL_acts_819 rfl (Nat.le_of_ble_eq_true rfl) rfl rfl ?_
  refine ww_iload_n 822 X dL_acts_821 rfl rfl ?_
  refine ww_bipush (v := 10) 824 X dL_acts_822 rfl (by decide) ?_
  refine ww_icmp_ne 908 827 X dL_acts_824 (by decide) rfl h (fun h => ?_) (fun h => ?_)
  · skip
    refine ww_aload_n 828 X dL_acts_827 rfl rfl ?_
    refine ww_iload 830 X dL_acts_828 rfl rfl ?_
    obtain ⟨x28, hx28, h⟩ := hb_bind_of h
    refine ww_callV (ci := 5) (rest := []) (st' := [.int x28.1]) 833 X (ct_X5_begin (hb_l Γ) G r0 hr0 j8 σ hx28) cw_L_76 rfl (by decide) hr0 rfl ⟨by decide, by decide⟩ (Nat.le_of_ble_eq_true rfl) rfl rfl dL_acts_830 rfl ?_
    refine ww_istore 835 X (L' := [some (.ref (G.2.2.2 r0)), none, some (.int p2), some (.int j3), some (.int j4), none, none, none, some (.int j8), some (.int j9), some (.int s0), some (.int x28.1), none, none, none, none]) dL_acts_833 rfl (Nat.le_of_ble_eq_true rfl) rfl rfl ?_
    refine ww_iload 837 X dL_acts_835 rfl rfl ?_
    refine ww_iload 839 X dL_acts_837 rfl rfl ?_
    refine ww_if_eq 846 842 X dL_acts_839 (by decide) rfl h (fun h => ?_) (fun h => ?_)
    · skip
      refine ww_iload 848 X dL_acts_846 rfl rfl ?_
      refine ww_if_ne 856 851 X dL_acts_848 (by decide) rfl h (fun h => ?_) (fun h => ?_)
      · skip
        refine ww_bipush (v := (-4)) 853 X dL_acts_851 rfl (by decide) ?_
        refine ww_goto 862 X dL_acts_853 (by decide) ?_
        refine ww_kill [2, 3, 4, 9, 10] (L' := [some (.ref (G.2.2.2 r0)), none, none, none, none, none, none, none, some (.int j8), none, none, some (.int x28.1), none, none, none, none]) rfl ?_
        exact jw_L_acts_862 X hr r0 hr0 p1 p2 j8 x28.1 x28.1 (-4) x28.2 h K
      · skip
        refine ww_aload_n 857 X dL_acts_856 rfl rfl ?_
        refine ww_iconst (v := 0) 858 X dL_acts_857 rfl (by decide) ?_
        refine ww_iconst (v := 1) 859 X dL_acts_858 rfl (by decide) ?_
        obtain ⟨x29, hx29, h⟩ := hb_bind_of h
        refine ww_callV (ci := 5) (rest := [.int x28.1]) (st' := [.int x29.1, .int x28.1]) 862 X (ct_X5_page (hb_l Γ) G r0 hr0 0 1 x28.2 hx29) cw_L_19 rfl (by decide) hr0 rfl ⟨by decide, by decide⟩ (Nat.le_of_ble_eq_true rfl) rfl rfl dL_acts_859 rfl ?_
        refine ww_kill [2, 3, 4, 9, 10] (L' := [some (.ref (G.2.2.2 r0)), none, none, none, none, none, none, none, some (.int j8), none, none, some (.int x28.1), none, none, none, none]) rfl ?_
        exact jw_L_acts_862 X hr r0 hr0 p1 p2 j8 x28.1 x28.1 x29.1 x29.2 h K
    · skip
      refine ww_iconst (v := (-1)) 843 X dL_acts_842 rfl (by decide) ?_
      refine ww_goto 862 X dL_acts_843 (by decide) ?_
      refine ww_kill [2, 3, 4, 9, 10] (L' := [some (.ref (G.2.2.2 r0)), none, none, none, none, none, none, none, some (.int j8), none, none, some (.int x28.1), none, none, none, none]) rfl ?_
      exact jw_L_acts_862 X hr r0 hr0 p1 p2 j8 x28.1 x28.1 (-1) x28.2 h K
  · skip
    refine ww_iload_n 909 X dL_acts_908 rfl rfl ?_
    refine ww_bipush (v := 15) 911 X dL_acts_909 rfl (by decide) ?_
    refine ww_icmp_ge 1056 914 X dL_acts_911 (by decide) rfl h (fun h => ?_) (fun h => ?_)
    · skip
      refine ww_iload_n 1057 X dL_acts_1056 rfl rfl ?_
      refine ww_bipush (v := 15) 1059 X dL_acts_1057 rfl (by decide) ?_
      refine ww_icmp_ne 1152 1062 X dL_acts_1059 (by decide) rfl h (fun h => ?_) (fun h => ?_)
      · skip
        refine ww_aload_n 1063 X dL_acts_1062 rfl rfl ?_
        refine ww_iload 1065 X dL_acts_1063 rfl rfl ?_
        obtain ⟨x18, hx18, h⟩ := hb_bind_of h
        refine ww_callV (ci := 5) (rest := []) (st' := [.int x18.1]) 1068 X (ct_X5_mark (hb_l Γ) G r0 hr0 j8 σ hx18) cw_L_82 rfl (by decide) hr0 rfl ⟨by decide, by decide⟩ (Nat.le_of_ble_eq_true rfl) rfl rfl dL_acts_1065 rfl ?_
        refine ww_istore 1070 X (L' := [some (.ref (G.2.2.2 r0)), none, some (.int p2), some (.int j3), some (.int j4), none, none, none, some (.int j8), some (.int j9), some (.int s0), some (.int x18.1), none, none, none, none]) dL_acts_1068 rfl (Nat.le_of_ble_eq_true rfl) rfl rfl ?_
        refine ww_iload 1072 X dL_acts_1070 rfl rfl ?_
        refine ww_if_eq 1089 1075 X dL_acts_1072 (by decide) rfl h (fun h => ?_) (fun h => ?_)
        · skip
          refine ww_iload 1091 X dL_acts_1089 rfl rfl ?_
          refine ww_bipush (v := (-5)) 1093 X dL_acts_1091 rfl (by decide) ?_
          refine ww_icmp_ne 1111 1096 X dL_acts_1093 (by decide) rfl h (fun h => ?_) (fun h => ?_)
          · skip
            refine ww_iload 1098 X dL_acts_1096 rfl rfl ?_
            refine ww_bipush (v := (-4)) 1100 X dL_acts_1098 rfl (by decide) ?_
            refine ww_icmp_ne 1107 1103 X dL_acts_1100 (by decide) rfl h (fun h => ?_) (fun h => ?_)
            · skip
              refine ww_iconst (v := 1) 1104 X dL_acts_1103 rfl (by decide) ?_
              refine ww_goto 1151 X dL_acts_1104 (by decide) ?_
              obtain rfl := Option.some.inj h
              exact ww_ret_z X hr (by decide) K dL_acts_1151
            · skip
              refine ww_iconst (v := 0) 1108 X dL_acts_1107 rfl (by decide) ?_
              refine ww_goto 1151 X dL_acts_1108 (by decide) ?_
              obtain rfl := Option.some.inj h
              exact ww_ret_z X hr (by decide) K dL_acts_1151
          · skip
            refine ww_iload 1113 X dL_acts_1111 rfl rfl ?_
            refine ww_iload 1115 X dL_acts_1113 rfl rfl ?_
            refine ww_icmp_eq 1125 1118 X dL_acts_1115 (by decide) rfl h (fun h => ?_) (fun h => ?_)
            · skip
              refine ww_kill [2, 3, 4, 9, 10, 11] (L' := [some (.ref (G.2.2.2 r0)), none, none, none, none, none, none, none, some (.int j8), none, none, none, none, none, none, none]) rfl ?_
              exact jw_L_acts_1125 X hr r0 hr0 p1 p2 j8 x18.2 h K
            · skip
              refine ww_iload 1120 X dL_acts_1118 rfl rfl ?_
              refine ww_bipush (v := (-5)) 1122 X dL_acts_1120 rfl (by decide) ?_
              refine ww_icmp_ne 1150 1125 X dL_acts_1122 (by decide) rfl h (fun h => ?_) (fun h => ?_)
              · skip
                refine ww_kill [2, 3, 4, 9, 10, 11] (L' := [some (.ref (G.2.2.2 r0)), none, none, none, none, none, none, none, some (.int j8), none, none, none, none, none, none, none]) rfl ?_
                exact jw_L_acts_1125 X hr r0 hr0 p1 p2 j8 x18.2 h K
              · skip
                refine ww_iconst (v := 0) 1151 X dL_acts_1150 rfl (by decide) ?_
                obtain rfl := Option.some.inj h
                exact ww_ret_z X hr (by decide) K dL_acts_1151
        · skip
          refine ww_iload 1077 X dL_acts_1075 rfl rfl ?_
          refine ww_iconst (v := (-1)) 1078 X dL_acts_1077 rfl (by decide) ?_
          refine ww_icmp_ne 1085 1081 X dL_acts_1078 (by decide) rfl h (fun h => ?_) (fun h => ?_)
          · skip
            refine ww_iconst (v := 1) 1082 X dL_acts_1081 rfl (by decide) ?_
            refine ww_goto 1151 X dL_acts_1082 (by decide) ?_
            obtain rfl := Option.some.inj h
            exact ww_ret_z X hr (by decide) K dL_acts_1151
          · skip
            refine ww_iconst (v := 0) 1086 X dL_acts_1085 rfl (by decide) ?_
            refine ww_goto 1151 X dL_acts_1086 (by decide) ?_
            obtain rfl := Option.some.inj h
            exact ww_ret_z X hr (by decide) K dL_acts_1151
      · skip
        refine ww_iload_n 1153 X dL_acts_1152 rfl rfl ?_
        refine ww_bipush (v := 16) 1155 X dL_acts_1153 rfl (by decide) ?_
        refine ww_icmp_ne 1263 1158 X dL_acts_1155 (by decide) rfl h (fun h => ?_) (fun h => ?_)
        · skip
          refine ww_aload_n 1159 X dL_acts_1158 rfl rfl ?_
          refine ww_bipush (v := 9) 1161 X dL_acts_1159 rfl (by decide) ?_
          obtain ⟨x14, hx14, h⟩ := hb_bind_of h
          refine ww_callV (ci := 5) (rest := []) (st' := [.int x14.1]) 1164 X (ct_X5_count (hb_l Γ) G r0 hr0 9 σ hx14) cw_L_11 rfl (by decide) hr0 rfl ⟨by decide, by decide⟩ (Nat.le_of_ble_eq_true rfl) rfl rfl dL_acts_1161 rfl ?_
          refine ww_istore 1166 X (L' := [some (.ref (G.2.2.2 r0)), none, some (.int p2), some (.int j3), some (.int j4), none, none, none, some (.int j8), some (.int j9), some (.int s0), some (.int x14.1), none, none, none, none]) dL_acts_1164 rfl (Nat.le_of_ble_eq_true rfl) rfl rfl ?_
          refine ww_aload_n 1167 X dL_acts_1166 rfl rfl ?_
          refine ww_iload 1169 X dL_acts_1167 rfl rfl ?_
          obtain ⟨x15, hx15, h⟩ := hb_bind_of h
          refine ww_callV (ci := 5) (rest := []) (st' := [.int x15.1]) 1172 X (ct_X5_goToMark (hb_l Γ) G r0 hr0 j8 x14.2 hx15) cw_L_85 rfl (by decide) hr0 rfl ⟨by decide, by decide⟩ (Nat.le_of_ble_eq_true rfl) rfl rfl dL_acts_1169 rfl ?_
          refine ww_istore 1174 X (L' := [some (.ref (G.2.2.2 r0)), none, some (.int p2), some (.int j3), some (.int j4), none, none, none, some (.int j8), some (.int j9), some (.int s0), some (.int x14.1), some (.int x15.1), none, none, none]) dL_acts_1172 rfl (Nat.le_of_ble_eq_true rfl) rfl rfl ?_
          refine ww_iload 1176 X dL_acts_1174 rfl rfl ?_
          refine ww_if_eq 1193 1179 X dL_acts_1176 (by decide) rfl h (fun h => ?_) (fun h => ?_)
          · skip
            refine ww_iload 1195 X dL_acts_1193 rfl rfl ?_
            refine ww_if_ne 1213 1198 X dL_acts_1195 (by decide) rfl h (fun h => ?_) (fun h => ?_)
            · skip
              refine ww_iload 1200 X dL_acts_1198 rfl rfl ?_
              refine ww_bipush (v := (-4)) 1202 X dL_acts_1200 rfl (by decide) ?_
              refine ww_icmp_ne 1209 1205 X dL_acts_1202 (by decide) rfl h (fun h => ?_) (fun h => ?_)
              · skip
                refine ww_iconst (v := 1) 1206 X dL_acts_1205 rfl (by decide) ?_
                refine ww_goto 1262 X dL_acts_1206 (by decide) ?_
                obtain rfl := Option.some.inj h
                exact ww_ret_z X hr (by decide) K dL_acts_1262
              · skip
                refine ww_iconst (v := 0) 1210 X dL_acts_1209 rfl (by decide) ?_
                refine ww_goto 1262 X dL_acts_1210 (by decide) ?_
                obtain rfl := Option.some.inj h
                exact ww_ret_z X hr (by decide) K dL_acts_1262
            · skip
              refine ww_iload 1215 X dL_acts_1213 rfl rfl ?_
              refine ww_bipush (v := (-5)) 1217 X dL_acts_1215 rfl (by decide) ?_
              refine ww_icmp_ne 1235 1220 X dL_acts_1217 (by decide) rfl h (fun h => ?_) (fun h => ?_)
              · skip
                refine ww_iload 1222 X dL_acts_1220 rfl rfl ?_
                refine ww_bipush (v := (-5)) 1224 X dL_acts_1222 rfl (by decide) ?_
                refine ww_icmp_eq 1231 1227 X dL_acts_1224 (by decide) rfl h (fun h => ?_) (fun h => ?_)
                · skip
                  refine ww_iconst (v := 0) 1232 X dL_acts_1231 rfl (by decide) ?_
                  refine ww_goto 1262 X dL_acts_1232 (by decide) ?_
                  obtain rfl := Option.some.inj h
                  exact ww_ret_z X hr (by decide) K dL_acts_1262
                · skip
                  refine ww_iconst (v := 1) 1228 X dL_acts_1227 rfl (by decide) ?_
                  refine ww_goto 1262 X dL_acts_1228 (by decide) ?_
                  obtain rfl := Option.some.inj h
                  exact ww_ret_z X hr (by decide) K dL_acts_1262
              · skip
                refine ww_aload_n 1236 X dL_acts_1235 rfl rfl ?_
                refine ww_iload 1238 X dL_acts_1236 rfl rfl ?_
                refine ww_iconst (v := 0) 1239 X dL_acts_1238 rfl (by decide) ?_
                obtain ⟨x16, hx16, h⟩ := hb_bind_of h
                refine ww_callV (ci := 5) (rest := []) (st' := [.int x16]) 1242 X (ct_X5_reader (hb_l Γ) G r0 hr0 j8 0 x15.2 hx16) cw_L_27 rfl (by decide) hr0 rfl ⟨by decide, by decide⟩ (Nat.le_of_ble_eq_true rfl) rfl rfl dL_acts_1239 rfl ?_
                refine ww_iload 1244 X dL_acts_1242 rfl rfl ?_
                refine ww_icmp_ne 1261 1247 X dL_acts_1244 (by decide) rfl h (fun h => ?_) (fun h => ?_)
                · skip
                  refine ww_aload_n 1248 X dL_acts_1247 rfl rfl ?_
                  refine ww_iload 1250 X dL_acts_1248 rfl rfl ?_
                  refine ww_iconst (v := 3) 1251 X dL_acts_1250 rfl (by decide) ?_
                  obtain ⟨x17, hx17, h⟩ := hb_bind_of h
                  refine ww_callV (ci := 5) (rest := []) (st' := [.int x17]) 1254 X (ct_X5_reader (hb_l Γ) G r0 hr0 j8 3 x15.2 hx17) cw_L_27 rfl (by decide) hr0 rfl ⟨by decide, by decide⟩ (Nat.le_of_ble_eq_true rfl) rfl rfl dL_acts_1251 rfl ?_
                  refine ww_if_ne 1261 1257 X dL_acts_1254 (by decide) rfl h (fun h => ?_) (fun h => ?_)
                  · skip
                    refine ww_iconst (v := 1) 1258 X dL_acts_1257 rfl (by decide) ?_
                    refine ww_goto 1262 X dL_acts_1258 (by decide) ?_
                    obtain rfl := Option.some.inj h
                    exact ww_ret_z X hr (by decide) K dL_acts_1262
                  · skip
                    refine ww_iconst (v := 0) 1262 X dL_acts_1261 rfl (by decide) ?_
                    obtain rfl := Option.some.inj h
                    exact ww_ret_z X hr (by decide) K dL_acts_1262
                · skip
                  refine ww_iconst (v := 0) 1262 X dL_acts_1261 rfl (by decide) ?_
                  obtain rfl := Option.some.inj h
                  exact ww_ret_z X hr (by decide) K dL_acts_1262
          · skip
            refine ww_iload 1181 X dL_acts_1179 rfl rfl ?_
            refine ww_iconst (v := (-1)) 1182 X dL_acts_1181 rfl (by decide) ?_
            refine ww_icmp_ne 1189 1185 X dL_acts_1182 (by decide) rfl h (fun h => ?_) (fun h => ?_)
            · skip
              refine ww_iconst (v := 1) 1186 X dL_acts_1185 rfl (by decide) ?_
              refine ww_goto 1262 X dL_acts_1186 (by decide) ?_
              obtain rfl := Option.some.inj h
              exact ww_ret_z X hr (by decide) K dL_acts_1262
            · skip
              refine ww_iconst (v := 0) 1190 X dL_acts_1189 rfl (by decide) ?_
              refine ww_goto 1262 X dL_acts_1190 (by decide) ?_
              obtain rfl := Option.some.inj h
              exact ww_ret_z X hr (by decide) K dL_acts_1262
        · skip
          refine ww_aload_n 1264 X dL_acts_1263 rfl rfl ?_
          refine ww_iconst (v := 1) 1265 X dL_acts_1264 rfl (by decide) ?_
          obtain ⟨x7, hx7, h⟩ := hb_bind_of h
          refine ww_callV (ci := 5) (rest := []) (st' := [.int x7.1]) 1268 X (ct_X5_count (hb_l Γ) G r0 hr0 1 σ hx7) cw_L_11 rfl (by decide) hr0 rfl ⟨by decide, by decide⟩ (Nat.le_of_ble_eq_true rfl) rfl rfl dL_acts_1265 rfl ?_
          refine ww_istore 1270 X (L' := [some (.ref (G.2.2.2 r0)), none, some (.int p2), some (.int j3), some (.int j4), none, none, none, some (.int j8), some (.int j9), some (.int s0), some (.int x7.1), none, none, none, none]) dL_acts_1268 rfl (Nat.le_of_ble_eq_true rfl) rfl rfl ?_
          refine ww_aload_n 1271 X dL_acts_1270 rfl rfl ?_
          refine ww_iload_n 1272 X dL_acts_1271 rfl rfl ?_
          obtain ⟨x8, hx8, h⟩ := hb_bind_of h
          refine ww_callS (rest := []) (st' := [.int x8.1]) 1275 X (ct_L_types (hb_l Γ) G r0 hr0 p2 x7.2 hx8) cw_L_88 rfl ⟨by decide, by decide⟩ (Nat.le_of_ble_eq_true rfl) rfl rfl dL_acts_1272 rfl ?_
          refine ww_istore 1277 X (L' := [some (.ref (G.2.2.2 r0)), none, some (.int p2), some (.int j3), some (.int j4), none, none, none, some (.int j8), some (.int j9), some (.int s0), some (.int x7.1), some (.int x8.1), none, none, none]) dL_acts_1275 rfl (Nat.le_of_ble_eq_true rfl) rfl rfl ?_
          refine ww_aload_n 1278 X dL_acts_1277 rfl rfl ?_
          refine ww_bipush (v := 11) 1280 X dL_acts_1278 rfl (by decide) ?_
          obtain ⟨x9, hx9, h⟩ := hb_bind_of h
          refine ww_callV (ci := 5) (rest := []) (st' := [.int x9.1]) 1283 X (ct_X5_count (hb_l Γ) G r0 hr0 11 x8.2 hx9) cw_L_11 rfl (by decide) hr0 rfl ⟨by decide, by decide⟩ (Nat.le_of_ble_eq_true rfl) rfl rfl dL_acts_1280 rfl ?_
          refine ww_istore 1285 X (L' := [some (.ref (G.2.2.2 r0)), none, some (.int p2), some (.int j3), some (.int j4), none, none, none, some (.int j8), some (.int j9), some (.int s0), some (.int x7.1), some (.int x8.1), some (.int x9.1), none, none]) dL_acts_1283 rfl (Nat.le_of_ble_eq_true rfl) rfl rfl ?_
          refine ww_aload_n 1286 X dL_acts_1285 rfl rfl ?_
          obtain ⟨x10, hx10, h⟩ := hb_bind_of h
          refine ww_callV (ci := 5) (rest := []) (st' := [.int x10.1]) 1289 X (ct_X5_addChoices (hb_l Γ) G r0 hr0 x9.2 hx10) cw_L_91 rfl (by decide) hr0 rfl ⟨by decide, by decide⟩ (Nat.le_of_ble_eq_true rfl) rfl rfl dL_acts_1286 rfl ?_
          refine ww_istore 1291 X (L' := [some (.ref (G.2.2.2 r0)), none, some (.int p2), some (.int j3), some (.int j4), none, none, none, some (.int j8), some (.int j9), some (.int s0), some (.int x7.1), some (.int x8.1), some (.int x9.1), some (.int x10.1), none]) dL_acts_1289 rfl (Nat.le_of_ble_eq_true rfl) rfl rfl ?_
          refine ww_iload 1293 X dL_acts_1291 rfl rfl ?_
          refine ww_if_eq 1379 1296 X dL_acts_1293 (by decide) rfl h (fun h => ?_) (fun h => ?_)
          · skip
            refine ww_iconst (v := 0) 1380 X dL_acts_1379 rfl (by decide) ?_
            obtain rfl := Option.some.inj h
            exact ww_ret_z X hr (by decide) K dL_acts_1380
          · skip
            refine ww_aload_n 1297 X dL_acts_1296 rfl rfl ?_
            refine ww_bipush (v := 11) 1299 X dL_acts_1297 rfl (by decide) ?_
            obtain ⟨x11, hx11, h⟩ := hb_bind_of h
            refine ww_callV (ci := 5) (rest := []) (st' := [.int x11.1]) 1302 X (ct_X5_count (hb_l Γ) G r0 hr0 11 x10.2 hx11) cw_L_11 rfl (by decide) hr0 rfl ⟨by decide, by decide⟩ (Nat.le_of_ble_eq_true rfl) rfl rfl dL_acts_1299 rfl ?_
            refine ww_iload 1304 X dL_acts_1302 rfl rfl ?_
            refine ww_icmp_ne 1379 1307 X dL_acts_1304 (by decide) rfl h (fun h => ?_) (fun h => ?_)
            · skip
              refine ww_iload 1309 X dL_acts_1307 rfl rfl ?_
              refine ww_if_le 1335 1312 X dL_acts_1309 (by decide) rfl h (fun h => ?_) (fun h => ?_)
              · skip
                refine ww_iload 1337 X dL_acts_1335 rfl rfl ?_
                refine ww_iconst (v := (-1)) 1338 X dL_acts_1337 rfl (by decide) ?_
                refine ww_icmp_eq 1365 1341 X dL_acts_1338 (by decide) rfl h (fun h => ?_) (fun h => ?_)
                · skip
                  refine ww_kill [2, 3, 4, 8, 9, 10, 12, 13, 14] (L' := [some (.ref (G.2.2.2 r0)), none, none, none, none, none, none, none, none, none, none, some (.int x7.1), none, none, none, none]) rfl ?_
                  exact jw_L_acts_1365 X hr r0 hr0 p1 p2 x7.1 x11.2 h K
                · skip
                  refine ww_iload 1343 X dL_acts_1341 rfl rfl ?_
                  refine ww_bipush (v := (-3)) 1345 X dL_acts_1343 rfl (by decide) ?_
                  refine ww_icmp_eq 1365 1348 X dL_acts_1345 (by decide) rfl h (fun h => ?_) (fun h => ?_)
                  · skip
                    refine ww_kill [2, 3, 4, 8, 9, 10, 12, 13, 14] (L' := [some (.ref (G.2.2.2 r0)), none, none, none, none, none, none, none, none, none, none, some (.int x7.1), none, none, none, none]) rfl ?_
                    exact jw_L_acts_1365 X hr r0 hr0 p1 p2 x7.1 x11.2 h K
                  · skip
                    refine ww_iload 1350 X dL_acts_1348 rfl rfl ?_
                    refine ww_bipush (v := (-100)) 1352 X dL_acts_1350 rfl (by decide) ?_
                    refine ww_icmp_gt 1379 1355 X dL_acts_1352 (by decide) rfl h (fun h => ?_) (fun h => ?_)
                    · skip
                      refine ww_iconst (v := 0) 1380 X dL_acts_1379 rfl (by decide) ?_
                      obtain rfl := Option.some.inj h
                      exact ww_ret_z X hr (by decide) K dL_acts_1380
                    · skip
                      refine ww_iload 1357 X dL_acts_1355 rfl rfl ?_
                      refine ww_bipush (v := (-100)) 1359 X dL_acts_1357 rfl (by decide) ?_
                      refine ww_iload 1361 X dL_acts_1359 rfl rfl ?_
                      refine ww_isub 1362 X dL_acts_1361 rfl ?_
                      refine ww_icmp_lt 1379 1365 X dL_acts_1362 (by decide) rfl h (fun h => ?_) (fun h => ?_)
                      · skip
                        refine ww_iconst (v := 0) 1380 X dL_acts_1379 rfl (by decide) ?_
                        obtain rfl := Option.some.inj h
                        exact ww_ret_z X hr (by decide) K dL_acts_1380
                      · skip
                        refine ww_kill [2, 3, 4, 8, 9, 10, 12, 13, 14] (L' := [some (.ref (G.2.2.2 r0)), none, none, none, none, none, none, none, none, none, none, some (.int x7.1), none, none, none, none]) rfl ?_
                        exact jw_L_acts_1365 X hr r0 hr0 p1 p2 x7.1 x11.2 h K
              · skip
                refine ww_iload 1314 X dL_acts_1312 rfl rfl ?_
                refine ww_bipush (v := 15) 1316 X dL_acts_1314 rfl (by decide) ?_
                refine ww_icmp_gt 1379 1319 X dL_acts_1316 (by decide) rfl h (fun h => ?_) (fun h => ?_)
                · skip
                  refine ww_iconst (v := 0) 1380 X dL_acts_1379 rfl (by decide) ?_
                  obtain rfl := Option.some.inj h
                  exact ww_ret_z X hr (by decide) K dL_acts_1380
                · skip
                  refine ww_aload_n 1320 X dL_acts_1319 rfl rfl ?_
                  refine ww_iconst (v := 1) 1321 X dL_acts_1320 rfl (by decide) ?_
                  obtain ⟨x13, hx13, h⟩ := hb_bind_of h
                  refine ww_callV (ci := 5) (rest := []) (st' := [.int x13.1]) 1324 X (ct_X5_count (hb_l Γ) G r0 hr0 1 x11.2 hx13) cw_L_11 rfl (by decide) hr0 rfl ⟨by decide, by decide⟩ (Nat.le_of_ble_eq_true rfl) rfl rfl dL_acts_1321 rfl ?_
                  refine ww_iload 1326 X dL_acts_1324 rfl rfl ?_
                  refine ww_iload 1328 X dL_acts_1326 rfl rfl ?_
                  refine ww_iadd 1329 X dL_acts_1328 rfl ?_
                  refine ww_icmp_ne 1379 1332 X dL_acts_1329 (by decide) rfl h (fun h => ?_) (fun h => ?_)
                  · skip
                    refine ww_goto 1375 X dL_acts_1332 (by decide) ?_
                    refine ww_iconst (v := 1) 1376 X dL_acts_1375 rfl (by decide) ?_
                    refine ww_goto 1380 X dL_acts_1376 (by decide) ?_
                    obtain rfl := Option.some.inj h
                    exact ww_ret_z X hr (by decide) K dL_acts_1380
                  · skip
                    refine ww_iconst (v := 0) 1380 X dL_acts_1379 rfl (by decide) ?_
                    obtain rfl := Option.some.inj h
                    exact ww_ret_z X hr (by decide) K dL_acts_1380
            · skip
              refine ww_iconst (v := 0) 1380 X dL_acts_1379 rfl (by decide) ?_
              obtain rfl := Option.some.inj h
              exact ww_ret_z X hr (by decide) K dL_acts_1380
    · skip
      refine ww_iload_n 915 X dL_acts_914 rfl rfl ?_
      refine ww_iconst (v := 2) 916 X dL_acts_915 rfl (by decide) ?_
      refine ww_ishr 917 X dL_acts_916 rfl ?_
      refine ww_iconst (v := 4) 918 X dL_acts_917 rfl (by decide) ?_
      obtain ⟨x21, hx21, h⟩ := hb_bind_of h
      refine ww_callS (rest := []) (st' := [.int x21]) 921 X (ct_L_low (hb_l Γ) G (p2 >>> (2 &&& 31)) 4 σ hx21) cw_L_35 rfl ⟨by decide, by decide⟩ (Nat.le_of_ble_eq_true rfl) rfl rfl dL_acts_918 rfl ?_
      refine ww_istore 923 X (L' := [some (.ref (G.2.2.2 r0)), none, some (.int p2), some (.int j3), some (.int j4), none, none, none, some (.int j8), some (.int j9), some (.int s0), some (.int x21), none, none, none, none]) dL_acts_921 rfl (Nat.le_of_ble_eq_true rfl) rfl rfl ?_
      refine ww_aload_n 924 X dL_acts_923 rfl rfl ?_
      refine ww_iload 926 X dL_acts_924 rfl rfl ?_
      refine ww_iload 928 X dL_acts_926 rfl rfl ?_
      obtain ⟨x22, hx22, h⟩ := hb_bind_of h
      refine ww_callV (ci := 5) (rest := []) (st' := [.int x22]) 931 X (ct_X5_why (hb_l Γ) G r0 hr0 j8 x21 σ hx22) cw_L_32 rfl (by decide) hr0 rfl ⟨by decide, by decide⟩ (Nat.le_of_ble_eq_true rfl) rfl rfl dL_acts_928 rfl ?_
      refine ww_istore 933 X (L' := [some (.ref (G.2.2.2 r0)), none, some (.int p2), some (.int j3), some (.int j4), none, none, none, some (.int j8), some (.int j9), some (.int s0), some (.int x21), some (.int x22), none, none, none]) dL_acts_931 rfl (Nat.le_of_ble_eq_true rfl) rfl rfl ?_
      refine ww_iload 935 X dL_acts_933 rfl rfl ?_
      refine ww_if_eq 942 938 X dL_acts_935 (by decide) rfl h (fun h => ?_) (fun h => ?_)
      · skip
        refine ww_aload_n 943 X dL_acts_942 rfl rfl ?_
        refine ww_iload 945 X dL_acts_943 rfl rfl ?_
        refine ww_iconst (v := 3) 946 X dL_acts_945 rfl (by decide) ?_
        obtain ⟨x23, hx23, h⟩ := hb_bind_of h
        refine ww_callV (ci := 5) (rest := []) (st' := [.int x23]) 949 X (ct_X5_reader (hb_l Γ) G r0 hr0 j8 3 σ hx23) cw_L_27 rfl (by decide) hr0 rfl ⟨by decide, by decide⟩ (Nat.le_of_ble_eq_true rfl) rfl rfl dL_acts_946 rfl ?_
        refine ww_kill [2, 3, 4] (L' := [some (.ref (G.2.2.2 r0)), none, none, none, none, none, none, none, some (.int j8), some (.int j9), some (.int s0), some (.int x21), some (.int x22), none, none, none]) rfl ?_
        exact jw_L_acts_949 X hr r0 hr0 p1 p2 j8 j9 s0 x21 x22 x23 σ h K
      · skip
        refine ww_iconst (v := 0) 939 X dL_acts_938 rfl (by decide) ?_
        refine ww_goto 949 X dL_acts_939 (by decide) ?_
        refine ww_kill [2, 3, 4] (L' := [some (.ref (G.2.2.2 r0)), none, none, none, none, none, none, none, some (.int j8), some (.int j9), some (.int s0), some (.int x21), some (.int x22), none, none, none]) rfl ?_
        exact jw_L_acts_949 X hr r0 hr0 p1 p2 j8 j9 s0 x21 x22 0 σ h K
def jn_L_acts_800 (r0 : Nat) (p1 : Int32) (p2 : Int32) (j3 : Int32) (j4 : Int32) (j8 : Int32) (s0 : Int32) (σ : hb_Mem) : Option (Int32 × hb_Mem) :=
if s0 = 0 then (
(fn_X5_reader r0 j8 0 σ).bind fun x6 =>
jn_L_acts_819 r0 p1 p2 j3 j4 j8 s0 x6 σ)
else (
jn_L_acts_819 r0 p1 p2 j3 j4 j8 s0 (-5) σ)
set_option maxRecDepth 100000 in
set_option maxHeartbeats 4000000 in
theorem jw_L_acts_800 {Γ : hb_Ctx} {G : hb_Gam} {Q : State → Prop} (X : hb_X Γ cL_acts 16 RL ΛC G 9 208) (hr : hb_ret Γ = (some .boolean)) (r0 : Nat) (hr0 : hb_is ΛC r0 5) (p1 : Int32) (p2 : Int32) (j3 : Int32) (j4 : Int32) (j8 : Int32) (s0 : Int32) (σ : hb_Mem) {x : (Int32 × hb_Mem)} (h : jn_L_acts_800 r0 p1 p2 j3 j4 j8 s0 σ = some x) (K : Q = hb_Q Γ ΛC G (some (.int x.1)) x.2) : hb_W Γ ΛC G 16 Q σ [some (.ref (G.2.2.2 r0)), none, some (.int p2), some (.int j3), some (.int j4), none, none, none, some (.int j8), none, none, none, none, none, none, none] [.int s0] 800 := by
  unfold jn_L_acts_800 at h
  refine ww_istore 802 X (L' := [some (.ref (G.2.2.2 r0)), none, some (.int p2), some (.int j3), some (.int j4), none, none, none, some (.int j8), some (.int s0), none, none, none, none, none, none]) dL_acts_800 rfl (Nat.le_of_ble_eq_true rfl) rfl rfl ?_
  refine ww_iload 804 X dL_acts_802 rfl rfl ?_
  refine ww_if_eq 812 807 X dL_acts_804 (by decide) rfl h (fun h => ?_) (fun h => ?_)
  · skip
    refine ww_aload_n 813 X dL_acts_812 rfl rfl ?_
    refine ww_iload 815 X dL_acts_813 rfl rfl ?_
    refine ww_iconst (v := 0) 816 X dL_acts_815 rfl (by decide) ?_
    obtain ⟨x6, hx6, h⟩ := hb_bind_of h
    refine ww_callV (ci := 5) (rest := []) (st' := [.int x6]) 819 X (ct_X5_reader (hb_l Γ) G r0 hr0 j8 0 σ hx6) cw_L_27 rfl (by decide) hr0 rfl ⟨by decide, by decide⟩ (Nat.le_of_ble_eq_true rfl) rfl rfl dL_acts_816 rfl ?_
    exact jw_L_acts_819 X hr r0 hr0 p1 p2 j3 j4 j8 s0 x6 σ h K
  · skip
    refine ww_bipush (v := (-5)) 809 X dL_acts_807 rfl (by decide) ?_
    refine ww_goto 819 X dL_acts_809 (by decide) ?_
    exact jw_L_acts_819 X hr r0 hr0 p1 p2 j3 j4 j8 s0 (-5) σ h K
def jn_L_acts_715 (r0 : Nat) (p1 : Int32) (p2 : Int32) (j10 : Int32) (σ : hb_Mem) : Option (Int32 × hb_Mem) :=
if j10 = (-2) then (
some (1, σ))
else (
some (0, σ))
set_option maxRecDepth 100000 in
set_option maxHeartbeats 4000000 in
theorem jw_L_acts_715 {Γ : hb_Ctx} {G : hb_Gam} {Q : State → Prop} (X : hb_X Γ cL_acts 16 RL ΛC G 9 208) (hr : hb_ret Γ = (some .boolean)) (r0 : Nat) (hr0 : hb_is ΛC r0 5) (p1 : Int32) (p2 : Int32) (j10 : Int32) (σ : hb_Mem) {x : (Int32 × hb_Mem)} (h : jn_L_acts_715 r0 p1 p2 j10 σ = some x) (K : Q = hb_Q Γ ΛC G (some (.int x.1)) x.2) : hb_W Γ ΛC G 16 Q σ [none, none, none, none, none, none, none, none, none, none, some (.int j10), none, none, none, none, none] [] 715 := by
  unfold jn_L_acts_715 at h
  refine ww_iload 717 X dL_acts_715 rfl rfl ?_
  refine ww_bipush (v := (-2)) 719 X dL_acts_717 rfl (by decide) ?_
  refine ww_icmp_ne 726 722 X dL_acts_719 (by decide) rfl h (fun h => ?_) (fun h => ?_)
  · skip
    refine ww_iconst (v := 1) 723 X dL_acts_722 rfl (by decide) ?_
    refine ww_goto 781 X dL_acts_723 (by decide) ?_
    obtain rfl := Option.some.inj h
    exact ww_ret_z X hr (by decide) K dL_acts_781
  · skip
    refine ww_iconst (v := 0) 727 X dL_acts_726 rfl (by decide) ?_
    refine ww_goto 781 X dL_acts_727 (by decide) ?_
    obtain rfl := Option.some.inj h
    exact ww_ret_z X hr (by decide) K dL_acts_781
def jn_L_acts_670 (r0 : Nat) (p1 : Int32) (p2 : Int32) (j5 : Int32) (j6 : Int32) (j7 : Int32) (j8 : Int32) (s0 : Int32) (σ : hb_Mem) : Option (Int32 × hb_Mem) :=
(fn_X5_setMood r0 j5 j8 σ).bind fun x36 =>
if j6 = 0 then (
if j8 < (-99) then (
jn_L_acts_715 r0 p1 p2 x36.1 x36.2)
else (
if j8 ≤ 99 then (
if x36.1 = (-5) then (
(fn_X5_page r0 j5 3 x36.2).bind fun x38 =>
if x38.1 = s0 then (
some (1, x38.2))
else (
some (0, x38.2)))
else (
if x36.1 = j7 then (
(fn_X5_page r0 j5 3 x36.2).bind fun x37 =>
if x37.1 = s0 then (
some (0, x37.2))
else (
some (1, x37.2)))
else (
some (0, x36.2))))
else (
jn_L_acts_715 r0 p1 p2 x36.1 x36.2)))
else (
if x36.1 = (-1) then (
some (1, x36.2))
else (
some (0, x36.2)))
set_option maxRecDepth 100000 in
set_option maxHeartbeats 4000000 in
theorem jw_L_acts_670 {Γ : hb_Ctx} {G : hb_Gam} {Q : State → Prop} (X : hb_X Γ cL_acts 16 RL ΛC G 9 208) (hr : hb_ret Γ = (some .boolean)) (r0 : Nat) (hr0 : hb_is ΛC r0 5) (p1 : Int32) (p2 : Int32) (j5 : Int32) (j6 : Int32) (j7 : Int32) (j8 : Int32) (s0 : Int32) (σ : hb_Mem) {x : (Int32 × hb_Mem)} (h : jn_L_acts_670 r0 p1 p2 j5 j6 j7 j8 s0 σ = some x) (K : Q = hb_Q Γ ΛC G (some (.int x.1)) x.2) : hb_W Γ ΛC G 16 Q σ [some (.ref (G.2.2.2 r0)), none, none, none, none, some (.int j5), some (.int j6), some (.int j7), some (.int j8), none, none, none, none, none, none, none] [.int s0] 670 := by
  unfold jn_L_acts_670 at h
  refine ww_istore 672 X (L' := [some (.ref (G.2.2.2 r0)), none, none, none, none, some (.int j5), some (.int j6), some (.int j7), some (.int j8), some (.int s0), none, none, none, none, none, none]) dL_acts_670 rfl (Nat.le_of_ble_eq_true rfl) rfl rfl ?_
  refine ww_aload_n 673 X dL_acts_672 rfl rfl ?_
  refine ww_iload 675 X dL_acts_673 rfl rfl ?_
  refine ww_iload 677 X dL_acts_675 rfl rfl ?_
  obtain ⟨x36, hx36, h⟩ := hb_bind_of h
  refine ww_callV (ci := 5) (rest := []) (st' := [.int x36.1]) 680 X (ct_X5_setMood (hb_l Γ) G r0 hr0 j5 j8 σ hx36) cw_L_73 rfl (by decide) hr0 rfl ⟨by decide, by decide⟩ (Nat.le_of_ble_eq_true rfl) rfl rfl dL_acts_677 rfl ?_
  refine ww_istore 682 X (L' := [some (.ref (G.2.2.2 r0)), none, none, none, none, some (.int j5), some (.int j6), some (.int j7), some (.int j8), some (.int s0), some (.int x36.1), none, none, none, none, none]) dL_acts_680 rfl (Nat.le_of_ble_eq_true rfl) rfl rfl ?_
  refine ww_iload 684 X dL_acts_682 rfl rfl ?_
  refine ww_if_eq 701 687 X dL_acts_684 (by decide) rfl h (fun h => ?_) (fun h => ?_)
  · skip
    refine ww_iload 703 X dL_acts_701 rfl rfl ?_
    refine ww_bipush (v := (-99)) 705 X dL_acts_703 rfl (by decide) ?_
    refine ww_icmp_lt 715 708 X dL_acts_705 (by decide) rfl h (fun h => ?_) (fun h => ?_)
    · skip
      refine ww_kill [0, 5, 6, 7, 8, 9] (L' := [none, none, none, none, none, none, none, none, none, none, some (.int x36.1), none, none, none, none, none]) rfl ?_
      exact jw_L_acts_715 X hr r0 hr0 p1 p2 x36.1 x36.2 h K
    · skip
      refine ww_iload 710 X dL_acts_708 rfl rfl ?_
      refine ww_bipush (v := 99) 712 X dL_acts_710 rfl (by decide) ?_
      refine ww_icmp_le 730 715 X dL_acts_712 (by decide) rfl h (fun h => ?_) (fun h => ?_)
      · skip
        refine ww_iload 732 X dL_acts_730 rfl rfl ?_
        refine ww_bipush (v := (-5)) 734 X dL_acts_732 rfl (by decide) ?_
        refine ww_icmp_ne 757 737 X dL_acts_734 (by decide) rfl h (fun h => ?_) (fun h => ?_)
        · skip
          refine ww_aload_n 738 X dL_acts_737 rfl rfl ?_
          refine ww_iload 740 X dL_acts_738 rfl rfl ?_
          refine ww_iconst (v := 3) 741 X dL_acts_740 rfl (by decide) ?_
          obtain ⟨x38, hx38, h⟩ := hb_bind_of h
          refine ww_callV (ci := 5) (rest := []) (st' := [.int x38.1]) 744 X (ct_X5_page (hb_l Γ) G r0 hr0 j5 3 x36.2 hx38) cw_L_19 rfl (by decide) hr0 rfl ⟨by decide, by decide⟩ (Nat.le_of_ble_eq_true rfl) rfl rfl dL_acts_741 rfl ?_
          refine ww_iload 746 X dL_acts_744 rfl rfl ?_
          refine ww_icmp_ne 753 749 X dL_acts_746 (by decide) rfl h (fun h => ?_) (fun h => ?_)
          · skip
            refine ww_iconst (v := 1) 750 X dL_acts_749 rfl (by decide) ?_
            refine ww_goto 781 X dL_acts_750 (by decide) ?_
            obtain rfl := Option.some.inj h
            exact ww_ret_z X hr (by decide) K dL_acts_781
          · skip
            refine ww_iconst (v := 0) 754 X dL_acts_753 rfl (by decide) ?_
            refine ww_goto 781 X dL_acts_754 (by decide) ?_
            obtain rfl := Option.some.inj h
            exact ww_ret_z X hr (by decide) K dL_acts_781
        · skip
          refine ww_iload 759 X dL_acts_757 rfl rfl ?_
          refine ww_iload 761 X dL_acts_759 rfl rfl ?_
          refine ww_icmp_ne 780 764 X dL_acts_761 (by decide) rfl h (fun h => ?_) (fun h => ?_)
          · skip
            refine ww_aload_n 765 X dL_acts_764 rfl rfl ?_
            refine ww_iload 767 X dL_acts_765 rfl rfl ?_
            refine ww_iconst (v := 3) 768 X dL_acts_767 rfl (by decide) ?_
            obtain ⟨x37, hx37, h⟩ := hb_bind_of h
            refine ww_callV (ci := 5) (rest := []) (st' := [.int x37.1]) 771 X (ct_X5_page (hb_l Γ) G r0 hr0 j5 3 x36.2 hx37) cw_L_19 rfl (by decide) hr0 rfl ⟨by decide, by decide⟩ (Nat.le_of_ble_eq_true rfl) rfl rfl dL_acts_768 rfl ?_
            refine ww_iload 773 X dL_acts_771 rfl rfl ?_
            refine ww_icmp_eq 780 776 X dL_acts_773 (by decide) rfl h (fun h => ?_) (fun h => ?_)
            · skip
              refine ww_iconst (v := 0) 781 X dL_acts_780 rfl (by decide) ?_
              obtain rfl := Option.some.inj h
              exact ww_ret_z X hr (by decide) K dL_acts_781
            · skip
              refine ww_iconst (v := 1) 777 X dL_acts_776 rfl (by decide) ?_
              refine ww_goto 781 X dL_acts_777 (by decide) ?_
              obtain rfl := Option.some.inj h
              exact ww_ret_z X hr (by decide) K dL_acts_781
          · skip
            refine ww_iconst (v := 0) 781 X dL_acts_780 rfl (by decide) ?_
            obtain rfl := Option.some.inj h
            exact ww_ret_z X hr (by decide) K dL_acts_781
      · skip
        refine ww_kill [0, 5, 6, 7, 8, 9] (L' := [none, none, none, none, none, none, none, none, none, none, some (.int x36.1), none, none, none, none, none]) rfl ?_
        exact jw_L_acts_715 X hr r0 hr0 p1 p2 x36.1 x36.2 h K
  · skip
    refine ww_iload 689 X dL_acts_687 rfl rfl ?_
    refine ww_iconst (v := (-1)) 690 X dL_acts_689 rfl (by decide) ?_
    refine ww_icmp_ne 697 693 X dL_acts_690 (by decide) rfl h (fun h => ?_) (fun h => ?_)
    · skip
      refine ww_iconst (v := 1) 694 X dL_acts_693 rfl (by decide) ?_
      refine ww_goto 781 X dL_acts_694 (by decide) ?_
      obtain rfl := Option.some.inj h
      exact ww_ret_z X hr (by decide) K dL_acts_781
    · skip
      refine ww_iconst (v := 0) 698 X dL_acts_697 rfl (by decide) ?_
      refine ww_goto 781 X dL_acts_698 (by decide) ?_
      obtain rfl := Option.some.inj h
      exact ww_ret_z X hr (by decide) K dL_acts_781
def jn_L_acts_613 (r0 : Nat) (p1 : Int32) (p2 : Int32) (j5 : Int32) (j8 : Int32) (s0 : Int32) (σ : hb_Mem) : Option (Int32 × hb_Mem) :=
(fn_X5_exchange r0 j5 j8 σ).bind fun x40 =>
if x40.1 = s0 then (
some (1, x40.2))
else (
some (0, x40.2))
set_option maxRecDepth 100000 in
set_option maxHeartbeats 4000000 in
theorem jw_L_acts_613 {Γ : hb_Ctx} {G : hb_Gam} {Q : State → Prop} (X : hb_X Γ cL_acts 16 RL ΛC G 9 208) (hr : hb_ret Γ = (some .boolean)) (r0 : Nat) (hr0 : hb_is ΛC r0 5) (p1 : Int32) (p2 : Int32) (j5 : Int32) (j8 : Int32) (s0 : Int32) (σ : hb_Mem) {x : (Int32 × hb_Mem)} (h : jn_L_acts_613 r0 p1 p2 j5 j8 s0 σ = some x) (K : Q = hb_Q Γ ΛC G (some (.int x.1)) x.2) : hb_W Γ ΛC G 16 Q σ [some (.ref (G.2.2.2 r0)), none, none, none, none, some (.int j5), none, none, some (.int j8), none, none, none, none, none, none, none] [.int s0] 613 := by
  unfold jn_L_acts_613 at h
  refine ww_istore 615 X (L' := [some (.ref (G.2.2.2 r0)), none, none, none, none, some (.int j5), none, none, some (.int j8), some (.int s0), none, none, none, none, none, none]) dL_acts_613 rfl (Nat.le_of_ble_eq_true rfl) rfl rfl ?_
  refine ww_aload_n 616 X dL_acts_615 rfl rfl ?_
  refine ww_iload 618 X dL_acts_616 rfl rfl ?_
  refine ww_iload 620 X dL_acts_618 rfl rfl ?_
  obtain ⟨x40, hx40, h⟩ := hb_bind_of h
  refine ww_callV (ci := 5) (rest := []) (st' := [.int x40.1]) 623 X (ct_X5_exchange (hb_l Γ) G r0 hr0 j5 j8 σ hx40) cw_L_70 rfl (by decide) hr0 rfl ⟨by decide, by decide⟩ (Nat.le_of_ble_eq_true rfl) rfl rfl dL_acts_620 rfl ?_
  refine ww_iload 625 X dL_acts_623 rfl rfl ?_
  refine ww_icmp_ne 632 628 X dL_acts_625 (by decide) rfl h (fun h => ?_) (fun h => ?_)
  · skip
    refine ww_iconst (v := 1) 629 X dL_acts_628 rfl (by decide) ?_
    refine ww_goto 633 X dL_acts_629 (by decide) ?_
    obtain rfl := Option.some.inj h
    exact ww_ret_z X hr (by decide) K dL_acts_633
  · skip
    refine ww_iconst (v := 0) 633 X dL_acts_632 rfl (by decide) ?_
    obtain rfl := Option.some.inj h
    exact ww_ret_z X hr (by decide) K dL_acts_633
def jn_L_acts_580 (r0 : Nat) (p1 : Int32) (p2 : Int32) (j5 : Int32) (j8 : Int32) (σ : hb_Mem) : Option (Int32 × hb_Mem) :=
jn_L_acts_613 r0 p1 p2 j5 j8 (-1) σ
set_option maxRecDepth 100000 in
set_option maxHeartbeats 4000000 in
theorem jw_L_acts_580 {Γ : hb_Ctx} {G : hb_Gam} {Q : State → Prop} (X : hb_X Γ cL_acts 16 RL ΛC G 9 208) (hr : hb_ret Γ = (some .boolean)) (r0 : Nat) (hr0 : hb_is ΛC r0 5) (p1 : Int32) (p2 : Int32) (j5 : Int32) (j8 : Int32) (σ : hb_Mem) {x : (Int32 × hb_Mem)} (h : jn_L_acts_580 r0 p1 p2 j5 j8 σ = some x) (K : Q = hb_Q Γ ΛC G (some (.int x.1)) x.2) : hb_W Γ ΛC G 16 Q σ [some (.ref (G.2.2.2 r0)), none, none, none, none, some (.int j5), none, none, some (.int j8), none, none, none, none, none, none, none] [] 580 := by
  unfold jn_L_acts_580 at h
  refine ww_iconst (v := (-1)) 581 X dL_acts_580 rfl (by decide) ?_
  refine ww_goto 613 X dL_acts_581 (by decide) ?_
  exact jw_L_acts_613 X hr r0 hr0 p1 p2 j5 j8 (-1) σ h K
def jn_L_acts_541 (r0 : Nat) (p1 : Int32) (p2 : Int32) (s0 : Int32) (s1 : Int32) (σ : hb_Mem) : Option (Int32 × hb_Mem) :=
if s0 = s1 then (
some (1, σ))
else (
some (0, σ))
set_option maxRecDepth 100000 in
set_option maxHeartbeats 4000000 in
theorem jw_L_acts_541 {Γ : hb_Ctx} {G : hb_Gam} {Q : State → Prop} (X : hb_X Γ cL_acts 16 RL ΛC G 9 208) (hr : hb_ret Γ = (some .boolean)) (r0 : Nat) (hr0 : hb_is ΛC r0 5) (p1 : Int32) (p2 : Int32) (s0 : Int32) (s1 : Int32) (σ : hb_Mem) {x : (Int32 × hb_Mem)} (h : jn_L_acts_541 r0 p1 p2 s0 s1 σ = some x) (K : Q = hb_Q Γ ΛC G (some (.int x.1)) x.2) : hb_W Γ ΛC G 16 Q σ [none, none, none, none, none, none, none, none, none, none, none, none, none, none, none, none] [.int s1, .int s0] 541 := by
  unfold jn_L_acts_541 at h
  refine ww_icmp_ne 548 544 X dL_acts_541 (by decide) rfl h (fun h => ?_) (fun h => ?_)
  · skip
    refine ww_iconst (v := 1) 545 X dL_acts_544 rfl (by decide) ?_
    refine ww_goto 549 X dL_acts_545 (by decide) ?_
    obtain rfl := Option.some.inj h
    exact ww_ret_z X hr (by decide) K dL_acts_549
  · skip
    refine ww_iconst (v := 0) 549 X dL_acts_548 rfl (by decide) ?_
    obtain rfl := Option.some.inj h
    exact ww_ret_z X hr (by decide) K dL_acts_549
def jn_L_acts_500 (r0 : Nat) (p1 : Int32) (p2 : Int32) (j5 : Int32) (j6 : Int32) (j7 : Int32) (j8 : Int32) (j9 : Int32) (s0 : Int32) (σ : hb_Mem) : Option (Int32 × hb_Mem) :=
(fn_X5_takeChoice r0 j5 j8 σ).bind fun x45 =>
if x45.1 = s0 then (
if j6 = 0 then (
(fn_X5_page r0 j5 0 x45.2).bind fun x46 =>
if j9 = 0 then (
jn_L_acts_541 r0 p1 p2 x46.1 j7 x46.2)
else (
jn_L_acts_541 r0 p1 p2 x46.1 (j7 - 1) x46.2))
else (
some (1, x45.2)))
else (
some (0, x45.2))
set_option maxRecDepth 100000 in
set_option maxHeartbeats 4000000 in
theorem jw_L_acts_500 {Γ : hb_Ctx} {G : hb_Gam} {Q : State → Prop} (X : hb_X Γ cL_acts 16 RL ΛC G 9 208) (hr : hb_ret Γ = (some .boolean)) (r0 : Nat) (hr0 : hb_is ΛC r0 5) (p1 : Int32) (p2 : Int32) (j5 : Int32) (j6 : Int32) (j7 : Int32) (j8 : Int32) (j9 : Int32) (s0 : Int32) (σ : hb_Mem) {x : (Int32 × hb_Mem)} (h : jn_L_acts_500 r0 p1 p2 j5 j6 j7 j8 j9 s0 σ = some x) (K : Q = hb_Q Γ ΛC G (some (.int x.1)) x.2) : hb_W Γ ΛC G 16 Q σ [some (.ref (G.2.2.2 r0)), none, none, none, none, some (.int j5), some (.int j6), some (.int j7), some (.int j8), some (.int j9), none, none, none, none, none, none] [.int s0] 500 := by
  unfold jn_L_acts_500 at h
  refine ww_istore 502 X (L' := [some (.ref (G.2.2.2 r0)), none, none, none, none, some (.int j5), some (.int j6), some (.int j7), some (.int j8), some (.int j9), some (.int s0), none, none, none, none, none]) dL_acts_500 rfl (Nat.le_of_ble_eq_true rfl) rfl rfl ?_
  refine ww_aload_n 503 X dL_acts_502 rfl rfl ?_
  refine ww_iload 505 X dL_acts_503 rfl rfl ?_
  refine ww_iload 507 X dL_acts_505 rfl rfl ?_
  obtain ⟨x45, hx45, h⟩ := hb_bind_of h
  refine ww_callV (ci := 5) (rest := []) (st' := [.int x45.1]) 510 X (ct_X5_takeChoice (hb_l Γ) G r0 hr0 j5 j8 σ hx45) cw_L_67 rfl (by decide) hr0 rfl ⟨by decide, by decide⟩ (Nat.le_of_ble_eq_true rfl) rfl rfl dL_acts_507 rfl ?_
  refine ww_iload 512 X dL_acts_510 rfl rfl ?_
  refine ww_icmp_ne 548 515 X dL_acts_512 (by decide) rfl h (fun h => ?_) (fun h => ?_)
  · skip
    refine ww_iload 517 X dL_acts_515 rfl rfl ?_
    refine ww_if_ne 544 520 X dL_acts_517 (by decide) rfl h (fun h => ?_) (fun h => ?_)
    · skip
      refine ww_aload_n 521 X dL_acts_520 rfl rfl ?_
      refine ww_iload 523 X dL_acts_521 rfl rfl ?_
      refine ww_iconst (v := 0) 524 X dL_acts_523 rfl (by decide) ?_
      obtain ⟨x46, hx46, h⟩ := hb_bind_of h
      refine ww_callV (ci := 5) (rest := []) (st' := [.int x46.1]) 527 X (ct_X5_page (hb_l Γ) G r0 hr0 j5 0 x45.2 hx46) cw_L_19 rfl (by decide) hr0 rfl ⟨by decide, by decide⟩ (Nat.le_of_ble_eq_true rfl) rfl rfl dL_acts_524 rfl ?_
      refine ww_iload 529 X dL_acts_527 rfl rfl ?_
      refine ww_if_eq 539 532 X dL_acts_529 (by decide) rfl h (fun h => ?_) (fun h => ?_)
      · skip
        refine ww_iload 541 X dL_acts_539 rfl rfl ?_
        refine ww_kill [0, 5, 6, 7, 8, 9, 10] (L' := [none, none, none, none, none, none, none, none, none, none, none, none, none, none, none, none]) rfl ?_
        exact jw_L_acts_541 X hr r0 hr0 p1 p2 x46.1 j7 x46.2 h K
      · skip
        refine ww_iload 534 X dL_acts_532 rfl rfl ?_
        refine ww_iconst (v := 1) 535 X dL_acts_534 rfl (by decide) ?_
        refine ww_isub 536 X dL_acts_535 rfl ?_
        refine ww_goto 541 X dL_acts_536 (by decide) ?_
        refine ww_kill [0, 5, 6, 7, 8, 9, 10] (L' := [none, none, none, none, none, none, none, none, none, none, none, none, none, none, none, none]) rfl ?_
        exact jw_L_acts_541 X hr r0 hr0 p1 p2 x46.1 (j7 - 1) x46.2 h K
    · skip
      refine ww_iconst (v := 1) 545 X dL_acts_544 rfl (by decide) ?_
      refine ww_goto 549 X dL_acts_545 (by decide) ?_
      obtain rfl := Option.some.inj h
      exact ww_ret_z X hr (by decide) K dL_acts_549
  · skip
    refine ww_iconst (v := 0) 549 X dL_acts_548 rfl (by decide) ?_
    obtain rfl := Option.some.inj h
    exact ww_ret_z X hr (by decide) K dL_acts_549
def jn_L_acts_480 (r0 : Nat) (p1 : Int32) (p2 : Int32) (j5 : Int32) (j6 : Int32) (j7 : Int32) (j8 : Int32) (s0 : Int32) (σ : hb_Mem) : Option (Int32 × hb_Mem) :=
if s0 = 0 then (
jn_L_acts_500 r0 p1 p2 j5 j6 j7 j8 s0 (-1) σ)
else (
(fn_X5_choice r0 j5 j8 0 σ).bind fun x47 =>
jn_L_acts_500 r0 p1 p2 j5 j6 j7 j8 s0 x47.1 x47.2)
set_option maxRecDepth 100000 in
set_option maxHeartbeats 4000000 in
theorem jw_L_acts_480 {Γ : hb_Ctx} {G : hb_Gam} {Q : State → Prop} (X : hb_X Γ cL_acts 16 RL ΛC G 9 208) (hr : hb_ret Γ = (some .boolean)) (r0 : Nat) (hr0 : hb_is ΛC r0 5) (p1 : Int32) (p2 : Int32) (j5 : Int32) (j6 : Int32) (j7 : Int32) (j8 : Int32) (s0 : Int32) (σ : hb_Mem) {x : (Int32 × hb_Mem)} (h : jn_L_acts_480 r0 p1 p2 j5 j6 j7 j8 s0 σ = some x) (K : Q = hb_Q Γ ΛC G (some (.int x.1)) x.2) : hb_W Γ ΛC G 16 Q σ [some (.ref (G.2.2.2 r0)), none, none, none, none, some (.int j5), some (.int j6), some (.int j7), some (.int j8), none, none, none, none, none, none, none] [.int s0] 480 := by
  unfold jn_L_acts_480 at h
  refine ww_istore 482 X (L' := [some (.ref (G.2.2.2 r0)), none, none, none, none, some (.int j5), some (.int j6), some (.int j7), some (.int j8), some (.int s0), none, none, none, none, none, none]) dL_acts_480 rfl (Nat.le_of_ble_eq_true rfl) rfl rfl ?_
  refine ww_iload 484 X dL_acts_482 rfl rfl ?_
  refine ww_if_eq 499 487 X dL_acts_484 (by decide) rfl h (fun h => ?_) (fun h => ?_)
  · skip
    refine ww_iconst (v := (-1)) 500 X dL_acts_499 rfl (by decide) ?_
    exact jw_L_acts_500 X hr r0 hr0 p1 p2 j5 j6 j7 j8 s0 (-1) σ h K
  · skip
    refine ww_aload_n 488 X dL_acts_487 rfl rfl ?_
    refine ww_iload 490 X dL_acts_488 rfl rfl ?_
    refine ww_iload 492 X dL_acts_490 rfl rfl ?_
    refine ww_iconst (v := 0) 493 X dL_acts_492 rfl (by decide) ?_
    obtain ⟨x47, hx47, h⟩ := hb_bind_of h
    refine ww_callV (ci := 5) (rest := []) (st' := [.int x47.1]) 496 X (ct_X5_choice (hb_l Γ) G r0 hr0 j5 j8 0 σ hx47) cw_L_23 rfl (by decide) hr0 rfl ⟨by decide, by decide⟩ (Nat.le_of_ble_eq_true rfl) rfl rfl dL_acts_493 rfl ?_
    refine ww_goto 500 X dL_acts_496 (by decide) ?_
    exact jw_L_acts_500 X hr r0 hr0 p1 p2 j5 j6 j7 j8 s0 x47.1 x47.2 h K
def jn_L_acts_479 (r0 : Nat) (p1 : Int32) (p2 : Int32) (j5 : Int32) (j6 : Int32) (j7 : Int32) (j8 : Int32) (σ : hb_Mem) : Option (Int32 × hb_Mem) :=
jn_L_acts_480 r0 p1 p2 j5 j6 j7 j8 0 σ
set_option maxRecDepth 100000 in
set_option maxHeartbeats 4000000 in
theorem jw_L_acts_479 {Γ : hb_Ctx} {G : hb_Gam} {Q : State → Prop} (X : hb_X Γ cL_acts 16 RL ΛC G 9 208) (hr : hb_ret Γ = (some .boolean)) (r0 : Nat) (hr0 : hb_is ΛC r0 5) (p1 : Int32) (p2 : Int32) (j5 : Int32) (j6 : Int32) (j7 : Int32) (j8 : Int32) (σ : hb_Mem) {x : (Int32 × hb_Mem)} (h : jn_L_acts_479 r0 p1 p2 j5 j6 j7 j8 σ = some x) (K : Q = hb_Q Γ ΛC G (some (.int x.1)) x.2) : hb_W Γ ΛC G 16 Q σ [some (.ref (G.2.2.2 r0)), none, none, none, none, some (.int j5), some (.int j6), some (.int j7), some (.int j8), none, none, none, none, none, none, none] [] 479 := by
  unfold jn_L_acts_479 at h
  refine ww_iconst (v := 0) 480 X dL_acts_479 rfl (by decide) ?_
  exact jw_L_acts_480 X hr r0 hr0 p1 p2 j5 j6 j7 j8 0 σ h K
def jn_L_acts_390 (r0 : Nat) (p1 : Int32) (p2 : Int32) (j5 : Int32) (j8 : Int32) (j9 : Int32) (j10 : Int32) (j11 : Int32) (s0 : Int32) (s1 : Int32) (σ : hb_Mem) : Option (Int32 × hb_Mem) :=
if s0 = s1 then (
if j11 < 0 then (
some (1, σ))
else (
(fn_X5_choice r0 j5 j11 0 σ).bind fun x52 =>
if x52.1 = j8 then (
(fn_X5_choice r0 j5 j11 1 x52.2).bind fun x53 =>
if x53.1 = j9 then (
(fn_X5_choice r0 j5 j11 2 x53.2).bind fun x54 =>
if x54.1 = j10 then (
some (1, x54.2))
else (
some (0, x54.2)))
else (
some (0, x53.2)))
else (
some (0, x52.2))))
else (
some (0, σ))
set_option maxRecDepth 100000 in
set_option maxHeartbeats 4000000 in
theorem jw_L_acts_390 {Γ : hb_Ctx} {G : hb_Gam} {Q : State → Prop} (X : hb_X Γ cL_acts 16 RL ΛC G 9 208) (hr : hb_ret Γ = (some .boolean)) (r0 : Nat) (hr0 : hb_is ΛC r0 5) (p1 : Int32) (p2 : Int32) (j5 : Int32) (j8 : Int32) (j9 : Int32) (j10 : Int32) (j11 : Int32) (s0 : Int32) (s1 : Int32) (σ : hb_Mem) {x : (Int32 × hb_Mem)} (h : jn_L_acts_390 r0 p1 p2 j5 j8 j9 j10 j11 s0 s1 σ = some x) (K : Q = hb_Q Γ ΛC G (some (.int x.1)) x.2) : hb_W Γ ΛC G 16 Q σ [some (.ref (G.2.2.2 r0)), none, none, none, none, some (.int j5), none, none, some (.int j8), some (.int j9), some (.int j10), some (.int j11), none, none, none, none] [.int s1, .int s0] 390 := by
  unfold jn_L_acts_390 at h
  refine ww_icmp_ne 444 393 X dL_acts_390 (by decide) rfl h (fun h => ?_) (fun h => ?_)
  · skip
    refine ww_iload 395 X dL_acts_393 rfl rfl ?_
    refine ww_if_lt 440 398 X dL_acts_395 (by decide) rfl h (fun h => ?_) (fun h => ?_)
    · skip
      refine ww_iconst (v := 1) 441 X dL_acts_440 rfl (by decide) ?_
      refine ww_goto 445 X dL_acts_441 (by decide) ?_
      obtain rfl := Option.some.inj h
      exact ww_ret_z X hr (by decide) K dL_acts_445
    · skip
      refine ww_aload_n 399 X dL_acts_398 rfl rfl ?_
      refine ww_iload 401 X dL_acts_399 rfl rfl ?_
      refine ww_iload 403 X dL_acts_401 rfl rfl ?_
      refine ww_iconst (v := 0) 404 X dL_acts_403 rfl (by decide) ?_
      obtain ⟨x52, hx52, h⟩ := hb_bind_of h
      refine ww_callV (ci := 5) (rest := []) (st' := [.int x52.1]) 407 X (ct_X5_choice (hb_l Γ) G r0 hr0 j5 j11 0 σ hx52) cw_L_23 rfl (by decide) hr0 rfl ⟨by decide, by decide⟩ (Nat.le_of_ble_eq_true rfl) rfl rfl dL_acts_404 rfl ?_
      refine ww_iload 409 X dL_acts_407 rfl rfl ?_
      refine ww_icmp_ne 444 412 X dL_acts_409 (by decide) rfl h (fun h => ?_) (fun h => ?_)
      · skip
        refine ww_aload_n 413 X dL_acts_412 rfl rfl ?_
        refine ww_iload 415 X dL_acts_413 rfl rfl ?_
        refine ww_iload 417 X dL_acts_415 rfl rfl ?_
        refine ww_iconst (v := 1) 418 X dL_acts_417 rfl (by decide) ?_
        obtain ⟨x53, hx53, h⟩ := hb_bind_of h
        refine ww_callV (ci := 5) (rest := []) (st' := [.int x53.1]) 421 X (ct_X5_choice (hb_l Γ) G r0 hr0 j5 j11 1 x52.2 hx53) cw_L_23 rfl (by decide) hr0 rfl ⟨by decide, by decide⟩ (Nat.le_of_ble_eq_true rfl) rfl rfl dL_acts_418 rfl ?_
        refine ww_iload 423 X dL_acts_421 rfl rfl ?_
        refine ww_icmp_ne 444 426 X dL_acts_423 (by decide) rfl h (fun h => ?_) (fun h => ?_)
        · skip
          refine ww_aload_n 427 X dL_acts_426 rfl rfl ?_
          refine ww_iload 429 X dL_acts_427 rfl rfl ?_
          refine ww_iload 431 X dL_acts_429 rfl rfl ?_
          refine ww_iconst (v := 2) 432 X dL_acts_431 rfl (by decide) ?_
          obtain ⟨x54, hx54, h⟩ := hb_bind_of h
          refine ww_callV (ci := 5) (rest := []) (st' := [.int x54.1]) 435 X (ct_X5_choice (hb_l Γ) G r0 hr0 j5 j11 2 x53.2 hx54) cw_L_23 rfl (by decide) hr0 rfl ⟨by decide, by decide⟩ (Nat.le_of_ble_eq_true rfl) rfl rfl dL_acts_432 rfl ?_
          refine ww_iload 437 X dL_acts_435 rfl rfl ?_
          refine ww_icmp_ne 444 440 X dL_acts_437 (by decide) rfl h (fun h => ?_) (fun h => ?_)
          · skip
            refine ww_iconst (v := 1) 441 X dL_acts_440 rfl (by decide) ?_
            refine ww_goto 445 X dL_acts_441 (by decide) ?_
            obtain rfl := Option.some.inj h
            exact ww_ret_z X hr (by decide) K dL_acts_445
          · skip
            refine ww_iconst (v := 0) 445 X dL_acts_444 rfl (by decide) ?_
            obtain rfl := Option.some.inj h
            exact ww_ret_z X hr (by decide) K dL_acts_445
        · skip
          refine ww_iconst (v := 0) 445 X dL_acts_444 rfl (by decide) ?_
          obtain rfl := Option.some.inj h
          exact ww_ret_z X hr (by decide) K dL_acts_445
      · skip
        refine ww_iconst (v := 0) 445 X dL_acts_444 rfl (by decide) ?_
        obtain rfl := Option.some.inj h
        exact ww_ret_z X hr (by decide) K dL_acts_445
  · skip
    refine ww_iconst (v := 0) 445 X dL_acts_444 rfl (by decide) ?_
    obtain rfl := Option.some.inj h
    exact ww_ret_z X hr (by decide) K dL_acts_445
def jn_L_acts_349 (r0 : Nat) (p1 : Int32) (p2 : Int32) (j5 : Int32) (j8 : Int32) (j9 : Int32) (j10 : Int32) (j11 : Int32) (s0 : Int32) (σ : hb_Mem) : Option (Int32 × hb_Mem) :=
jn_L_acts_390 r0 p1 p2 j5 j8 j9 j10 j11 s0 (-1) σ
set_option maxRecDepth 100000 in
set_option maxHeartbeats 4000000 in
theorem jw_L_acts_349 {Γ : hb_Ctx} {G : hb_Gam} {Q : State → Prop} (X : hb_X Γ cL_acts 16 RL ΛC G 9 208) (hr : hb_ret Γ = (some .boolean)) (r0 : Nat) (hr0 : hb_is ΛC r0 5) (p1 : Int32) (p2 : Int32) (j5 : Int32) (j8 : Int32) (j9 : Int32) (j10 : Int32) (j11 : Int32) (s0 : Int32) (σ : hb_Mem) {x : (Int32 × hb_Mem)} (h : jn_L_acts_349 r0 p1 p2 j5 j8 j9 j10 j11 s0 σ = some x) (K : Q = hb_Q Γ ΛC G (some (.int x.1)) x.2) : hb_W Γ ΛC G 16 Q σ [some (.ref (G.2.2.2 r0)), none, none, none, none, some (.int j5), none, none, some (.int j8), some (.int j9), some (.int j10), some (.int j11), none, none, none, none] [.int s0] 349 := by
  unfold jn_L_acts_349 at h
  refine ww_iconst (v := (-1)) 350 X dL_acts_349 rfl (by decide) ?_
  refine ww_goto 390 X dL_acts_350 (by decide) ?_
  exact jw_L_acts_390 X hr r0 hr0 p1 p2 j5 j8 j9 j10 j11 s0 (-1) σ h K
def jn_L_acts_372 (r0 : Nat) (p1 : Int32) (p2 : Int32) (j5 : Int32) (j8 : Int32) (j9 : Int32) (j10 : Int32) (j11 : Int32) (s0 : Int32) (σ : hb_Mem) : Option (Int32 × hb_Mem) :=
jn_L_acts_390 r0 p1 p2 j5 j8 j9 j10 j11 s0 (-2) σ
set_option maxRecDepth 100000 in
set_option maxHeartbeats 4000000 in
theorem jw_L_acts_372 {Γ : hb_Ctx} {G : hb_Gam} {Q : State → Prop} (X : hb_X Γ cL_acts 16 RL ΛC G 9 208) (hr : hb_ret Γ = (some .boolean)) (r0 : Nat) (hr0 : hb_is ΛC r0 5) (p1 : Int32) (p2 : Int32) (j5 : Int32) (j8 : Int32) (j9 : Int32) (j10 : Int32) (j11 : Int32) (s0 : Int32) (σ : hb_Mem) {x : (Int32 × hb_Mem)} (h : jn_L_acts_372 r0 p1 p2 j5 j8 j9 j10 j11 s0 σ = some x) (K : Q = hb_Q Γ ΛC G (some (.int x.1)) x.2) : hb_W Γ ΛC G 16 Q σ [some (.ref (G.2.2.2 r0)), none, none, none, none, some (.int j5), none, none, some (.int j8), some (.int j9), some (.int j10), some (.int j11), none, none, none, none] [.int s0] 372 := by
  unfold jn_L_acts_372 at h
  refine ww_bipush (v := (-2)) 374 X dL_acts_372 rfl (by decide) ?_
  refine ww_goto 390 X dL_acts_374 (by decide) ?_
  exact jw_L_acts_390 X hr r0 hr0 p1 p2 j5 j8 j9 j10 j11 s0 (-2) σ h K
def jn_L_acts_319 (r0 : Nat) (p1 : Int32) (p2 : Int32) (j4 : Int32) (j5 : Int32) (j6 : Int32) (j7 : Int32) (j8 : Int32) (j9 : Int32) (s0 : Int32) (σ : hb_Mem) : Option (Int32 × hb_Mem) :=
(fn_X5_addChoice r0 j5 j8 j9 s0 σ).bind fun x51 =>
if j6 = 0 then (
if j8 = j4 then (
jn_L_acts_349 r0 p1 p2 j5 j8 j9 s0 x51.1 x51.1 x51.2)
else (
if j9 < 0 then (
jn_L_acts_372 r0 p1 p2 j5 j8 j9 s0 x51.1 x51.1 x51.2)
else (
if 31 < j9 then (
jn_L_acts_372 r0 p1 p2 j5 j8 j9 s0 x51.1 x51.1 x51.2)
else (
if s0 ≤ 31 then (
if j7 = 3 then (
jn_L_acts_390 r0 p1 p2 j5 j8 j9 s0 x51.1 x51.1 (-3) x51.2)
else (
jn_L_acts_390 r0 p1 p2 j5 j8 j9 s0 x51.1 x51.1 j7 x51.2))
else (
jn_L_acts_372 r0 p1 p2 j5 j8 j9 s0 x51.1 x51.1 x51.2)))))
else (
jn_L_acts_349 r0 p1 p2 j5 j8 j9 s0 x51.1 x51.1 x51.2)
set_option maxRecDepth 100000 in
set_option maxHeartbeats 4000000 in
theorem jw_L_acts_319 {Γ : hb_Ctx} {G : hb_Gam} {Q : State → Prop} (X : hb_X Γ cL_acts 16 RL ΛC G 9 208) (hr : hb_ret Γ = (some .boolean)) (r0 : Nat) (hr0 : hb_is ΛC r0 5) (p1 : Int32) (p2 : Int32) (j4 : Int32) (j5 : Int32) (j6 : Int32) (j7 : Int32) (j8 : Int32) (j9 : Int32) (s0 : Int32) (σ : hb_Mem) {x : (Int32 × hb_Mem)} (h : jn_L_acts_319 r0 p1 p2 j4 j5 j6 j7 j8 j9 s0 σ = some x) (K : Q = hb_Q Γ ΛC G (some (.int x.1)) x.2) : hb_W Γ ΛC G 16 Q σ [some (.ref (G.2.2.2 r0)), none, none, none, some (.int j4), some (.int j5), some (.int j6), some (.int j7), some (.int j8), some (.int j9), none, none, none, none, none, none] [.int s0] 319 := by
  unfold jn_L_acts_319 at h
  refine ww_istore 321 X (L' := [some (.ref (G.2.2.2 r0)), none, none, none, some (.int j4), some (.int j5), some (.int j6), some (.int j7), some (.int j8), some (.int j9), some (.int s0), none, none, none, none, none]) dL_acts_319 rfl (Nat.le_of_ble_eq_true rfl) rfl rfl ?_
  refine ww_aload_n 322 X dL_acts_321 rfl rfl ?_
  refine ww_iload 324 X dL_acts_322 rfl rfl ?_
  refine ww_iload 326 X dL_acts_324 rfl rfl ?_
  refine ww_iload 328 X dL_acts_326 rfl rfl ?_
  refine ww_iload 330 X dL_acts_328 rfl rfl ?_
  obtain ⟨x51, hx51, h⟩ := hb_bind_of h
  refine ww_callV (ci := 5) (rest := []) (st' := [.int x51.1]) 333 X (ct_X5_addChoice (hb_l Γ) G r0 hr0 j5 j8 j9 s0 σ hx51) cw_L_63 rfl (by decide) hr0 rfl ⟨by decide, by decide⟩ (Nat.le_of_ble_eq_true rfl) rfl rfl dL_acts_330 rfl ?_
  refine ww_istore 335 X (L' := [some (.ref (G.2.2.2 r0)), none, none, none, some (.int j4), some (.int j5), some (.int j6), some (.int j7), some (.int j8), some (.int j9), some (.int s0), some (.int x51.1), none, none, none, none]) dL_acts_333 rfl (Nat.le_of_ble_eq_true rfl) rfl rfl ?_
  refine ww_iload 337 X dL_acts_335 rfl rfl ?_
  refine ww_iload 339 X dL_acts_337 rfl rfl ?_
  refine ww_if_ne 349 342 X dL_acts_339 (by decide) rfl h (fun h => ?_) (fun h => ?_)
  · skip
    refine ww_iload 344 X dL_acts_342 rfl rfl ?_
    refine ww_iload 346 X dL_acts_344 rfl rfl ?_
    refine ww_icmp_ne 353 349 X dL_acts_346 (by decide) rfl h (fun h => ?_) (fun h => ?_)
    · skip
      refine ww_kill [4, 6, 7] (L' := [some (.ref (G.2.2.2 r0)), none, none, none, none, some (.int j5), none, none, some (.int j8), some (.int j9), some (.int s0), some (.int x51.1), none, none, none, none]) rfl ?_
      exact jw_L_acts_349 X hr r0 hr0 p1 p2 j5 j8 j9 s0 x51.1 x51.1 x51.2 h K
    · skip
      refine ww_iload 355 X dL_acts_353 rfl rfl ?_
      refine ww_if_lt 372 358 X dL_acts_355 (by decide) rfl h (fun h => ?_) (fun h => ?_)
      · skip
        refine ww_kill [4, 6, 7] (L' := [some (.ref (G.2.2.2 r0)), none, none, none, none, some (.int j5), none, none, some (.int j8), some (.int j9), some (.int s0), some (.int x51.1), none, none, none, none]) rfl ?_
        exact jw_L_acts_372 X hr r0 hr0 p1 p2 j5 j8 j9 s0 x51.1 x51.1 x51.2 h K
      · skip
        refine ww_iload 360 X dL_acts_358 rfl rfl ?_
        refine ww_bipush (v := 31) 362 X dL_acts_360 rfl (by decide) ?_
        refine ww_icmp_gt 372 365 X dL_acts_362 (by decide) rfl h (fun h => ?_) (fun h => ?_)
        · skip
          refine ww_kill [4, 6, 7] (L' := [some (.ref (G.2.2.2 r0)), none, none, none, none, some (.int j5), none, none, some (.int j8), some (.int j9), some (.int s0), some (.int x51.1), none, none, none, none]) rfl ?_
          exact jw_L_acts_372 X hr r0 hr0 p1 p2 j5 j8 j9 s0 x51.1 x51.1 x51.2 h K
        · skip
          refine ww_iload 367 X dL_acts_365 rfl rfl ?_
          refine ww_bipush (v := 31) 369 X dL_acts_367 rfl (by decide) ?_
          refine ww_icmp_le 377 372 X dL_acts_369 (by decide) rfl h (fun h => ?_) (fun h => ?_)
          · skip
            refine ww_iload 379 X dL_acts_377 rfl rfl ?_
            refine ww_iconst (v := 3) 380 X dL_acts_379 rfl (by decide) ?_
            refine ww_icmp_ne 388 383 X dL_acts_380 (by decide) rfl h (fun h => ?_) (fun h => ?_)
            · skip
              refine ww_bipush (v := (-3)) 385 X dL_acts_383 rfl (by decide) ?_
              refine ww_goto 390 X dL_acts_385 (by decide) ?_
              refine ww_kill [4, 6, 7] (L' := [some (.ref (G.2.2.2 r0)), none, none, none, none, some (.int j5), none, none, some (.int j8), some (.int j9), some (.int s0), some (.int x51.1), none, none, none, none]) rfl ?_
              exact jw_L_acts_390 X hr r0 hr0 p1 p2 j5 j8 j9 s0 x51.1 x51.1 (-3) x51.2 h K
            · skip
              refine ww_iload 390 X dL_acts_388 rfl rfl ?_
              refine ww_kill [4, 6, 7] (L' := [some (.ref (G.2.2.2 r0)), none, none, none, none, some (.int j5), none, none, some (.int j8), some (.int j9), some (.int s0), some (.int x51.1), none, none, none, none]) rfl ?_
              exact jw_L_acts_390 X hr r0 hr0 p1 p2 j5 j8 j9 s0 x51.1 x51.1 j7 x51.2 h K
          · skip
            refine ww_kill [4, 6, 7] (L' := [some (.ref (G.2.2.2 r0)), none, none, none, none, some (.int j5), none, none, some (.int j8), some (.int j9), some (.int s0), some (.int x51.1), none, none, none, none]) rfl ?_
            exact jw_L_acts_372 X hr r0 hr0 p1 p2 j5 j8 j9 s0 x51.1 x51.1 x51.2 h K
  · skip
    refine ww_kill [4, 6, 7] (L' := [some (.ref (G.2.2.2 r0)), none, none, none, none, some (.int j5), none, none, some (.int j8), some (.int j9), some (.int s0), some (.int x51.1), none, none, none, none]) rfl ?_
    exact jw_L_acts_349 X hr r0 hr0 p1 p2 j5 j8 j9 s0 x51.1 x51.1 x51.2 h K
def jn_L_acts_293 (r0 : Nat) (p1 : Int32) (p2 : Int32) (j4 : Int32) (j5 : Int32) (j6 : Int32) (j7 : Int32) (j8 : Int32) (s0 : Int32) (σ : hb_Mem) : Option (Int32 × hb_Mem) :=
(fn_L_low (p2 >>> (8 &&& 31)) 3).bind fun x50 =>
if x50 = 0 then (
(fn_L_low (p2 >>> (10 &&& 31)) 33).bind fun x55 =>
jn_L_acts_319 r0 p1 p2 j4 j5 j6 j7 j8 s0 x55 σ)
else (
jn_L_acts_319 r0 p1 p2 j4 j5 j6 j7 j8 s0 0 σ)
set_option maxRecDepth 100000 in
set_option maxHeartbeats 4000000 in
theorem jw_L_acts_293 {Γ : hb_Ctx} {G : hb_Gam} {Q : State → Prop} (X : hb_X Γ cL_acts 16 RL ΛC G 9 208) (hr : hb_ret Γ = (some .boolean)) (r0 : Nat) (hr0 : hb_is ΛC r0 5) (p1 : Int32) (p2 : Int32) (j4 : Int32) (j5 : Int32) (j6 : Int32) (j7 : Int32) (j8 : Int32) (s0 : Int32) (σ : hb_Mem) {x : (Int32 × hb_Mem)} (h : jn_L_acts_293 r0 p1 p2 j4 j5 j6 j7 j8 s0 σ = some x) (K : Q = hb_Q Γ ΛC G (some (.int x.1)) x.2) : hb_W Γ ΛC G 16 Q σ [some (.ref (G.2.2.2 r0)), none, some (.int p2), none, some (.int j4), some (.int j5), some (.int j6), some (.int j7), some (.int j8), none, none, none, none, none, none, none] [.int s0] 293 := by
  unfold jn_L_acts_293 at h
  refine ww_istore 295 X (L' := [some (.ref (G.2.2.2 r0)), none, some (.int p2), none, some (.int j4), some (.int j5), some (.int j6), some (.int j7), some (.int j8), some (.int s0), none, none, none, none, none, none]) dL_acts_293 rfl (Nat.le_of_ble_eq_true rfl) rfl rfl ?_
  refine ww_iload_n 296 X dL_acts_295 rfl rfl ?_
  refine ww_bipush (v := 8) 298 X dL_acts_296 rfl (by decide) ?_
  refine ww_ishr 299 X dL_acts_298 rfl ?_
  refine ww_iconst (v := 3) 300 X dL_acts_299 rfl (by decide) ?_
  obtain ⟨x50, hx50, h⟩ := hb_bind_of h
  refine ww_callS (rest := []) (st' := [.int x50]) 303 X (ct_L_low (hb_l Γ) G (p2 >>> (8 &&& 31)) 3 σ hx50) cw_L_35 rfl ⟨by decide, by decide⟩ (Nat.le_of_ble_eq_true rfl) rfl rfl dL_acts_300 rfl ?_
  refine ww_if_ne 318 306 X dL_acts_303 (by decide) rfl h (fun h => ?_) (fun h => ?_)
  · skip
    refine ww_iload_n 307 X dL_acts_306 rfl rfl ?_
    refine ww_bipush (v := 10) 309 X dL_acts_307 rfl (by decide) ?_
    refine ww_ishr 310 X dL_acts_309 rfl ?_
    refine ww_bipush (v := 33) 312 X dL_acts_310 rfl (by decide) ?_
    obtain ⟨x55, hx55, h⟩ := hb_bind_of h
    refine ww_callS (rest := []) (st' := [.int x55]) 315 X (ct_L_low (hb_l Γ) G (p2 >>> (10 &&& 31)) 33 σ hx55) cw_L_35 rfl ⟨by decide, by decide⟩ (Nat.le_of_ble_eq_true rfl) rfl rfl dL_acts_312 rfl ?_
    refine ww_goto 319 X dL_acts_315 (by decide) ?_
    refine ww_kill [2] (L' := [some (.ref (G.2.2.2 r0)), none, none, none, some (.int j4), some (.int j5), some (.int j6), some (.int j7), some (.int j8), some (.int s0), none, none, none, none, none, none]) rfl ?_
    exact jw_L_acts_319 X hr r0 hr0 p1 p2 j4 j5 j6 j7 j8 s0 x55 σ h K
  · skip
    refine ww_iconst (v := 0) 319 X dL_acts_318 rfl (by decide) ?_
    refine ww_kill [2] (L' := [some (.ref (G.2.2.2 r0)), none, none, none, some (.int j4), some (.int j5), some (.int j6), some (.int j7), some (.int j8), some (.int s0), none, none, none, none, none, none]) rfl ?_
    exact jw_L_acts_319 X hr r0 hr0 p1 p2 j4 j5 j6 j7 j8 s0 0 σ h K
def jn_L_acts_190 (r0 : Nat) (p1 : Int32) (p2 : Int32) (j9 : Int32) (j10 : Int32) (j12 : Int32) (s0 : Int32) (s1 : Int32) (σ : hb_Mem) : Option (Int32 × hb_Mem) :=
if s0 = s1 then (
if j12 < 0 then (
some (1, σ))
else (
(fn_X5_page r0 j12 0 σ).bind fun x63 =>
if x63.1 = 0 then (
(fn_X5_page r0 j12 1 x63.2).bind fun x64 =>
if x64.1 = j9 then (
(fn_X5_page r0 j12 2 x64.2).bind fun x65 =>
if x65.1 = j10 then (
(fn_X5_page r0 j12 10 x65.2).bind fun x66 =>
if x66.1 = 0 then (
some (1, x66.2))
else (
some (0, x66.2)))
else (
some (0, x65.2)))
else (
some (0, x64.2)))
else (
some (0, x63.2))))
else (
some (0, σ))
set_option maxRecDepth 100000 in
set_option maxHeartbeats 4000000 in
theorem jw_L_acts_190 {Γ : hb_Ctx} {G : hb_Gam} {Q : State → Prop} (X : hb_X Γ cL_acts 16 RL ΛC G 9 208) (hr : hb_ret Γ = (some .boolean)) (r0 : Nat) (hr0 : hb_is ΛC r0 5) (p1 : Int32) (p2 : Int32) (j9 : Int32) (j10 : Int32) (j12 : Int32) (s0 : Int32) (s1 : Int32) (σ : hb_Mem) {x : (Int32 × hb_Mem)} (h : jn_L_acts_190 r0 p1 p2 j9 j10 j12 s0 s1 σ = some x) (K : Q = hb_Q Γ ΛC G (some (.int x.1)) x.2) : hb_W Γ ΛC G 16 Q σ [some (.ref (G.2.2.2 r0)), none, none, none, none, none, none, none, none, some (.int j9), some (.int j10), none, some (.int j12), none, none, none] [.int s1, .int s0] 190 := by
  unfold jn_L_acts_190 at h
  refine ww_icmp_ne 247 193 X dL_acts_190 (by decide) rfl h (fun h => ?_) (fun h => ?_)
  · skip
    refine ww_iload 195 X dL_acts_193 rfl rfl ?_
    refine ww_if_lt 243 198 X dL_acts_195 (by decide) rfl h (fun h => ?_) (fun h => ?_)
    · skip
      refine ww_iconst (v := 1) 244 X dL_acts_243 rfl (by decide) ?_
      refine ww_goto 248 X dL_acts_244 (by decide) ?_
      obtain rfl := Option.some.inj h
      exact ww_ret_z X hr (by decide) K dL_acts_248
    · skip
      refine ww_aload_n 199 X dL_acts_198 rfl rfl ?_
      refine ww_iload 201 X dL_acts_199 rfl rfl ?_
      refine ww_iconst (v := 0) 202 X dL_acts_201 rfl (by decide) ?_
      obtain ⟨x63, hx63, h⟩ := hb_bind_of h
      refine ww_callV (ci := 5) (rest := []) (st' := [.int x63.1]) 205 X (ct_X5_page (hb_l Γ) G r0 hr0 j12 0 σ hx63) cw_L_19 rfl (by decide) hr0 rfl ⟨by decide, by decide⟩ (Nat.le_of_ble_eq_true rfl) rfl rfl dL_acts_202 rfl ?_
      refine ww_if_ne 247 208 X dL_acts_205 (by decide) rfl h (fun h => ?_) (fun h => ?_)
      · skip
        refine ww_aload_n 209 X dL_acts_208 rfl rfl ?_
        refine ww_iload 211 X dL_acts_209 rfl rfl ?_
        refine ww_iconst (v := 1) 212 X dL_acts_211 rfl (by decide) ?_
        obtain ⟨x64, hx64, h⟩ := hb_bind_of h
        refine ww_callV (ci := 5) (rest := []) (st' := [.int x64.1]) 215 X (ct_X5_page (hb_l Γ) G r0 hr0 j12 1 x63.2 hx64) cw_L_19 rfl (by decide) hr0 rfl ⟨by decide, by decide⟩ (Nat.le_of_ble_eq_true rfl) rfl rfl dL_acts_212 rfl ?_
        refine ww_iload 217 X dL_acts_215 rfl rfl ?_
        refine ww_icmp_ne 247 220 X dL_acts_217 (by decide) rfl h (fun h => ?_) (fun h => ?_)
        · skip
          refine ww_aload_n 221 X dL_acts_220 rfl rfl ?_
          refine ww_iload 223 X dL_acts_221 rfl rfl ?_
          refine ww_iconst (v := 2) 224 X dL_acts_223 rfl (by decide) ?_
          obtain ⟨x65, hx65, h⟩ := hb_bind_of h
          refine ww_callV (ci := 5) (rest := []) (st' := [.int x65.1]) 227 X (ct_X5_page (hb_l Γ) G r0 hr0 j12 2 x64.2 hx65) cw_L_19 rfl (by decide) hr0 rfl ⟨by decide, by decide⟩ (Nat.le_of_ble_eq_true rfl) rfl rfl dL_acts_224 rfl ?_
          refine ww_iload 229 X dL_acts_227 rfl rfl ?_
          refine ww_icmp_ne 247 232 X dL_acts_229 (by decide) rfl h (fun h => ?_) (fun h => ?_)
          · skip
            refine ww_aload_n 233 X dL_acts_232 rfl rfl ?_
            refine ww_iload 235 X dL_acts_233 rfl rfl ?_
            refine ww_bipush (v := 10) 237 X dL_acts_235 rfl (by decide) ?_
            obtain ⟨x66, hx66, h⟩ := hb_bind_of h
            refine ww_callV (ci := 5) (rest := []) (st' := [.int x66.1]) 240 X (ct_X5_page (hb_l Γ) G r0 hr0 j12 10 x65.2 hx66) cw_L_19 rfl (by decide) hr0 rfl ⟨by decide, by decide⟩ (Nat.le_of_ble_eq_true rfl) rfl rfl dL_acts_237 rfl ?_
            refine ww_if_ne 247 243 X dL_acts_240 (by decide) rfl h (fun h => ?_) (fun h => ?_)
            · skip
              refine ww_iconst (v := 1) 244 X dL_acts_243 rfl (by decide) ?_
              refine ww_goto 248 X dL_acts_244 (by decide) ?_
              obtain rfl := Option.some.inj h
              exact ww_ret_z X hr (by decide) K dL_acts_248
            · skip
              refine ww_iconst (v := 0) 248 X dL_acts_247 rfl (by decide) ?_
              obtain rfl := Option.some.inj h
              exact ww_ret_z X hr (by decide) K dL_acts_248
          · skip
            refine ww_iconst (v := 0) 248 X dL_acts_247 rfl (by decide) ?_
            obtain rfl := Option.some.inj h
            exact ww_ret_z X hr (by decide) K dL_acts_248
        · skip
          refine ww_iconst (v := 0) 248 X dL_acts_247 rfl (by decide) ?_
          obtain rfl := Option.some.inj h
          exact ww_ret_z X hr (by decide) K dL_acts_248
      · skip
        refine ww_iconst (v := 0) 248 X dL_acts_247 rfl (by decide) ?_
        obtain rfl := Option.some.inj h
        exact ww_ret_z X hr (by decide) K dL_acts_248
  · skip
    refine ww_iconst (v := 0) 248 X dL_acts_247 rfl (by decide) ?_
    obtain rfl := Option.some.inj h
    exact ww_ret_z X hr (by decide) K dL_acts_248
def jn_L_acts_150 (r0 : Nat) (p1 : Int32) (p2 : Int32) (j4 : Int32) (j8 : Int32) (j9 : Int32) (j10 : Int32) (s0 : Int32) (σ : hb_Mem) : Option (Int32 × hb_Mem) :=
(fn_X5_addPage r0 j8 j9 j10 σ).bind fun x62 =>
if s0 = 0 then (
if j4 = 32 then (
jn_L_acts_190 r0 p1 p2 j9 j10 x62.1 x62.1 (-3) x62.2)
else (
jn_L_acts_190 r0 p1 p2 j9 j10 x62.1 x62.1 j4 x62.2))
else (
jn_L_acts_190 r0 p1 p2 j9 j10 x62.1 x62.1 (-2) x62.2)
set_option maxRecDepth 100000 in
set_option maxHeartbeats 4000000 in
theorem jw_L_acts_150 {Γ : hb_Ctx} {G : hb_Gam} {Q : State → Prop} (X : hb_X Γ cL_acts 16 RL ΛC G 9 208) (hr : hb_ret Γ = (some .boolean)) (r0 : Nat) (hr0 : hb_is ΛC r0 5) (p1 : Int32) (p2 : Int32) (j4 : Int32) (j8 : Int32) (j9 : Int32) (j10 : Int32) (s0 : Int32) (σ : hb_Mem) {x : (Int32 × hb_Mem)} (h : jn_L_acts_150 r0 p1 p2 j4 j8 j9 j10 s0 σ = some x) (K : Q = hb_Q Γ ΛC G (some (.int x.1)) x.2) : hb_W Γ ΛC G 16 Q σ [some (.ref (G.2.2.2 r0)), none, none, none, some (.int j4), none, none, none, some (.int j8), some (.int j9), some (.int j10), none, none, none, none, none] [.int s0] 150 := by
  unfold jn_L_acts_150 at h
  refine ww_istore 152 X (L' := [some (.ref (G.2.2.2 r0)), none, none, none, some (.int j4), none, none, none, some (.int j8), some (.int j9), some (.int j10), some (.int s0), none, none, none, none]) dL_acts_150 rfl (Nat.le_of_ble_eq_true rfl) rfl rfl ?_
  refine ww_aload_n 153 X dL_acts_152 rfl rfl ?_
  refine ww_iload 155 X dL_acts_153 rfl rfl ?_
  refine ww_iload 157 X dL_acts_155 rfl rfl ?_
  refine ww_iload 159 X dL_acts_157 rfl rfl ?_
  obtain ⟨x62, hx62, h⟩ := hb_bind_of h
  refine ww_callV (ci := 5) (rest := []) (st' := [.int x62.1]) 162 X (ct_X5_addPage (hb_l Γ) G r0 hr0 j8 j9 j10 σ hx62) cw_L_60 rfl (by decide) hr0 rfl ⟨by decide, by decide⟩ (Nat.le_of_ble_eq_true rfl) rfl rfl dL_acts_159 rfl ?_
  refine ww_istore 164 X (L' := [some (.ref (G.2.2.2 r0)), none, none, none, some (.int j4), none, none, none, some (.int j8), some (.int j9), some (.int j10), some (.int s0), some (.int x62.1), none, none, none]) dL_acts_162 rfl (Nat.le_of_ble_eq_true rfl) rfl rfl ?_
  refine ww_iload 166 X dL_acts_164 rfl rfl ?_
  refine ww_iload 168 X dL_acts_166 rfl rfl ?_
  refine ww_if_eq 176 171 X dL_acts_168 (by decide) rfl h (fun h => ?_) (fun h => ?_)
  · skip
    refine ww_iload 178 X dL_acts_176 rfl rfl ?_
    refine ww_bipush (v := 32) 180 X dL_acts_178 rfl (by decide) ?_
    refine ww_icmp_ne 188 183 X dL_acts_180 (by decide) rfl h (fun h => ?_) (fun h => ?_)
    · skip
      refine ww_bipush (v := (-3)) 185 X dL_acts_183 rfl (by decide) ?_
      refine ww_goto 190 X dL_acts_185 (by decide) ?_
      refine ww_kill [4, 8, 11] (L' := [some (.ref (G.2.2.2 r0)), none, none, none, none, none, none, none, none, some (.int j9), some (.int j10), none, some (.int x62.1), none, none, none]) rfl ?_
      exact jw_L_acts_190 X hr r0 hr0 p1 p2 j9 j10 x62.1 x62.1 (-3) x62.2 h K
    · skip
      refine ww_iload 190 X dL_acts_188 rfl rfl ?_
      refine ww_kill [4, 8, 11] (L' := [some (.ref (G.2.2.2 r0)), none, none, none, none, none, none, none, none, some (.int j9), some (.int j10), none, some (.int x62.1), none, none, none]) rfl ?_
      exact jw_L_acts_190 X hr r0 hr0 p1 p2 j9 j10 x62.1 x62.1 j4 x62.2 h K
  · skip
    refine ww_bipush (v := (-2)) 173 X dL_acts_171 rfl (by decide) ?_
    refine ww_goto 190 X dL_acts_173 (by decide) ?_
    refine ww_kill [4, 8, 11] (L' := [some (.ref (G.2.2.2 r0)), none, none, none, none, none, none, none, none, some (.int j9), some (.int j10), none, some (.int x62.1), none, none, none]) rfl ?_
    exact jw_L_acts_190 X hr r0 hr0 p1 p2 j9 j10 x62.1 x62.1 (-2) x62.2 h K
def jn_L_acts_145 (r0 : Nat) (p1 : Int32) (p2 : Int32) (j4 : Int32) (j8 : Int32) (j9 : Int32) (j10 : Int32) (σ : hb_Mem) : Option (Int32 × hb_Mem) :=
jn_L_acts_150 r0 p1 p2 j4 j8 j9 j10 1 σ
set_option maxRecDepth 100000 in
set_option maxHeartbeats 4000000 in
theorem jw_L_acts_145 {Γ : hb_Ctx} {G : hb_Gam} {Q : State → Prop} (X : hb_X Γ cL_acts 16 RL ΛC G 9 208) (hr : hb_ret Γ = (some .boolean)) (r0 : Nat) (hr0 : hb_is ΛC r0 5) (p1 : Int32) (p2 : Int32) (j4 : Int32) (j8 : Int32) (j9 : Int32) (j10 : Int32) (σ : hb_Mem) {x : (Int32 × hb_Mem)} (h : jn_L_acts_145 r0 p1 p2 j4 j8 j9 j10 σ = some x) (K : Q = hb_Q Γ ΛC G (some (.int x.1)) x.2) : hb_W Γ ΛC G 16 Q σ [some (.ref (G.2.2.2 r0)), none, none, none, some (.int j4), none, none, none, some (.int j8), some (.int j9), some (.int j10), none, none, none, none, none] [] 145 := by
  unfold jn_L_acts_145 at h
  refine ww_iconst (v := 1) 146 X dL_acts_145 rfl (by decide) ?_
  refine ww_goto 150 X dL_acts_146 (by decide) ?_
  exact jw_L_acts_150 X hr r0 hr0 p1 p2 j4 j8 j9 j10 1 σ h K
def jn_L_acts_110 (r0 : Nat) (p1 : Int32) (p2 : Int32) (j4 : Int32) (j8 : Int32) (j9 : Int32) (s0 : Int32) (σ : hb_Mem) : Option (Int32 × hb_Mem) :=
if j8 < (-99) then (
jn_L_acts_145 r0 p1 p2 j4 j8 j9 s0 σ)
else (
if 99 < j8 then (
jn_L_acts_145 r0 p1 p2 j4 j8 j9 s0 σ)
else (
if j9 < 0 then (
jn_L_acts_145 r0 p1 p2 j4 j8 j9 s0 σ)
else (
if 31 < j9 then (
jn_L_acts_145 r0 p1 p2 j4 j8 j9 s0 σ)
else (
if s0 ≤ 31 then (
jn_L_acts_150 r0 p1 p2 j4 j8 j9 s0 0 σ)
else (
jn_L_acts_145 r0 p1 p2 j4 j8 j9 s0 σ)))))
set_option maxRecDepth 100000 in
set_option maxHeartbeats 4000000 in
theorem jw_L_acts_110 {Γ : hb_Ctx} {G : hb_Gam} {Q : State → Prop} (X : hb_X Γ cL_acts 16 RL ΛC G 9 208) (hr : hb_ret Γ = (some .boolean)) (r0 : Nat) (hr0 : hb_is ΛC r0 5) (p1 : Int32) (p2 : Int32) (j4 : Int32) (j8 : Int32) (j9 : Int32) (s0 : Int32) (σ : hb_Mem) {x : (Int32 × hb_Mem)} (h : jn_L_acts_110 r0 p1 p2 j4 j8 j9 s0 σ = some x) (K : Q = hb_Q Γ ΛC G (some (.int x.1)) x.2) : hb_W Γ ΛC G 16 Q σ [some (.ref (G.2.2.2 r0)), none, none, none, some (.int j4), none, none, none, some (.int j8), some (.int j9), none, none, none, none, none, none] [.int s0] 110 := by
  unfold jn_L_acts_110 at h
  refine ww_istore 112 X (L' := [some (.ref (G.2.2.2 r0)), none, none, none, some (.int j4), none, none, none, some (.int j8), some (.int j9), some (.int s0), none, none, none, none, none]) dL_acts_110 rfl (Nat.le_of_ble_eq_true rfl) rfl rfl ?_
  refine ww_iload 114 X dL_acts_112 rfl rfl ?_
  refine ww_bipush (v := (-99)) 116 X dL_acts_114 rfl (by decide) ?_
  refine ww_icmp_lt 145 119 X dL_acts_116 (by decide) rfl h (fun h => ?_) (fun h => ?_)
  · skip
    exact jw_L_acts_145 X hr r0 hr0 p1 p2 j4 j8 j9 s0 σ h K
  · skip
    refine ww_iload 121 X dL_acts_119 rfl rfl ?_
    refine ww_bipush (v := 99) 123 X dL_acts_121 rfl (by decide) ?_
    refine ww_icmp_gt 145 126 X dL_acts_123 (by decide) rfl h (fun h => ?_) (fun h => ?_)
    · skip
      exact jw_L_acts_145 X hr r0 hr0 p1 p2 j4 j8 j9 s0 σ h K
    · skip
      refine ww_iload 128 X dL_acts_126 rfl rfl ?_
      refine ww_if_lt 145 131 X dL_acts_128 (by decide) rfl h (fun h => ?_) (fun h => ?_)
      · skip
        exact jw_L_acts_145 X hr r0 hr0 p1 p2 j4 j8 j9 s0 σ h K
      · skip
        refine ww_iload 133 X dL_acts_131 rfl rfl ?_
        refine ww_bipush (v := 31) 135 X dL_acts_133 rfl (by decide) ?_
        refine ww_icmp_gt 145 138 X dL_acts_135 (by decide) rfl h (fun h => ?_) (fun h => ?_)
        · skip
          exact jw_L_acts_145 X hr r0 hr0 p1 p2 j4 j8 j9 s0 σ h K
        · skip
          refine ww_iload 140 X dL_acts_138 rfl rfl ?_
          refine ww_bipush (v := 31) 142 X dL_acts_140 rfl (by decide) ?_
          refine ww_icmp_le 149 145 X dL_acts_142 (by decide) rfl h (fun h => ?_) (fun h => ?_)
          · skip
            refine ww_iconst (v := 0) 150 X dL_acts_149 rfl (by decide) ?_
            exact jw_L_acts_150 X hr r0 hr0 p1 p2 j4 j8 j9 s0 0 σ h K
          · skip
            exact jw_L_acts_145 X hr r0 hr0 p1 p2 j4 j8 j9 s0 σ h K
def jn_L_acts_54 (r0 : Nat) (p1 : Int32) (p2 : Int32) (j3 : Int32) (j4 : Int32) (j5 : Int32) (j6 : Int32) (s0 : Int32) (σ : hb_Mem) : Option (Int32 × hb_Mem) :=
if 3 ≤ j3 then (
if 7 ≤ j3 then (
if j3 = 7 then (
(fn_L_low (p2 >>> (5 &&& 31)) 4).bind fun x43 =>
hb_nm (x43 - 1) fun v44 =>
if v44 < 0 then (
jn_L_acts_479 r0 p1 p2 j5 j6 s0 v44 σ)
else (
if s0 ≤ v44 then (
jn_L_acts_479 r0 p1 p2 j5 j6 s0 v44 σ)
else (
jn_L_acts_480 r0 p1 p2 j5 j6 s0 v44 1 σ)))
else (
if j3 = 8 then (
(fn_L_low (p2 >>> (5 &&& 31)) (j4 + 1)).bind fun x39 =>
if j6 = 0 then (
if x39 = j4 then (
jn_L_acts_580 r0 p1 p2 j5 x39 σ)
else (
if j5 = x39 then (
jn_L_acts_613 r0 p1 p2 j5 x39 (-5) σ)
else (
(fn_X5_page r0 j5 10 σ).bind fun x41 =>
(fn_X5_page r0 x39 10 x41.2).bind fun x42 =>
jn_L_acts_613 r0 p1 p2 j5 x39 (x41.1 + x42.1) x42.2)))
else (
jn_L_acts_580 r0 p1 p2 j5 x39 σ))
else (
if j3 = 9 then (
(fn_L_low (p2 >>> (5 &&& 31)) 202).bind fun x33 =>
hb_nm (x33 - 101) fun v34 =>
if j6 = 0 then (
(fn_X5_page r0 j5 3 σ).bind fun x35 =>
jn_L_acts_670 r0 p1 p2 j5 j6 s0 v34 x35.1 x35.2)
else (
jn_L_acts_670 r0 p1 p2 j5 j6 s0 v34 0 σ))
else (
(fn_L_low p2 3).bind fun x5 =>
if x5 = 2 then (
jn_L_acts_800 r0 p1 p2 j3 j4 x5 1 σ)
else (
jn_L_acts_800 r0 p1 p2 j3 j4 x5 0 σ)))))
else (
(fn_L_low (p2 >>> (4 &&& 31)) (j4 + 1)).bind fun x48 =>
(fn_L_low (p2 >>> (7 &&& 31)) 3).bind fun x49 =>
if x49 = 0 then (
(fn_L_low (p2 >>> (9 &&& 31)) 34).bind fun x56 =>
jn_L_acts_293 r0 p1 p2 j4 j5 j6 s0 x48 (x56 - 1) σ)
else (
jn_L_acts_293 r0 p1 p2 j4 j5 j6 s0 x48 0 σ)))
else (
(fn_L_low p2 203).bind fun x57 =>
hb_nm (x57 - 101) fun v58 =>
(fn_L_low (p2 >>> (8 &&& 31)) 34).bind fun x59 =>
hb_nm (x59 - 1) fun v60 =>
(fn_L_low (p2 >>> (11 &&& 31)) 3).bind fun x61 =>
if x61 = 0 then (
(fn_L_low (p2 >>> (13 &&& 31)) 33).bind fun x67 =>
jn_L_acts_110 r0 p1 p2 j4 v58 v60 x67 σ)
else (
jn_L_acts_110 r0 p1 p2 j4 v58 v60 0 σ))
set_option maxRecDepth 100000 in
set_option maxHeartbeats 4000000 in
theorem jw_L_acts_54 {Γ : hb_Ctx} {G : hb_Gam} {Q : State → Prop} (X : hb_X Γ cL_acts 16 RL ΛC G 9 208) (hr : hb_ret Γ = (some .boolean)) (r0 : Nat) (hr0 : hb_is ΛC r0 5) (p1 : Int32) (p2 : Int32) (j3 : Int32) (j4 : Int32) (j5 : Int32) (j6 : Int32) (s0 : Int32) (σ : hb_Mem) {x : (Int32 × hb_Mem)} (h : jn_L_acts_54 r0 p1 p2 j3 j4 j5 j6 s0 σ = some x) (K : Q = hb_Q Γ ΛC G (some (.int x.1)) x.2) : hb_W Γ ΛC G 16 Q σ [some (.ref (G.2.2.2 r0)), none, some (.int p2), some (.int j3), some (.int j4), some (.int j5), some (.int j6), none, none, none, none, none, none, none, none, none] [.int s0] 54 := by
  unfold jn_L_acts_54 at h
  refine ww_istore 56 X (L' := [some (.ref (G.2.2.2 r0)), none, some (.int p2), some (.int j3), some (.int j4), some (.int j5), some (.int j6), some (.int s0), none, none, none, none, none, none, none, none]) dL_acts_54 rfl (Nat.le_of_ble_eq_true rfl) rfl rfl ?_
  refine ww_iload_n 57 X dL_acts_56 rfl rfl ?_
  refine ww_iconst (v := 3) 58 X dL_acts_57 rfl (by decide) ?_
  refine ww_icmp_ge 249 61 X dL_acts_58 (by decide) rfl h (fun h => ?_) (fun h => ?_)
  · skip
    refine ww_iload_n 250 X dL_acts_249 rfl rfl ?_
    refine ww_bipush (v := 7) 252 X dL_acts_250 rfl (by decide) ?_
    refine ww_icmp_ge 446 255 X dL_acts_252 (by decide) rfl h (fun h => ?_) (fun h => ?_)
    · skip
      refine ww_iload_n 447 X dL_acts_446 rfl rfl ?_
      refine ww_bipush (v := 7) 449 X dL_acts_447 rfl (by decide) ?_
      refine ww_icmp_ne 550 452 X dL_acts_449 (by decide) rfl h (fun h => ?_) (fun h => ?_)
      · skip
        refine ww_iload_n 453 X dL_acts_452 rfl rfl ?_
        refine ww_iconst (v := 5) 454 X dL_acts_453 rfl (by decide) ?_
        refine ww_ishr 455 X dL_acts_454 rfl ?_
        refine ww_iconst (v := 4) 456 X dL_acts_455 rfl (by decide) ?_
        obtain ⟨x43, hx43, h⟩ := hb_bind_of h
        refine ww_callS (rest := []) (st' := [.int x43]) 459 X (ct_L_low (hb_l Γ) G (p2 >>> (5 &&& 31)) 4 σ hx43) cw_L_35 rfl ⟨by decide, by decide⟩ (Nat.le_of_ble_eq_true rfl) rfl rfl dL_acts_456 rfl ?_
        refine ww_iconst (v := 1) 460 X dL_acts_459 rfl (by decide) ?_
        refine ww_isub 461 X dL_acts_460 rfl ?_
        obtain ⟨v44, ev44, h⟩ := hb_nm_of h
        rw [← ev44]
        refine ww_istore 463 X (L' := [some (.ref (G.2.2.2 r0)), none, some (.int p2), some (.int j3), some (.int j4), some (.int j5), some (.int j6), some (.int s0), some (.int v44), none, none, none, none, none, none, none]) dL_acts_461 rfl (Nat.le_of_ble_eq_true rfl) rfl rfl ?_
        refine ww_iload 465 X dL_acts_463 rfl rfl ?_
        refine ww_if_lt 479 468 X dL_acts_465 (by decide) rfl h (fun h => ?_) (fun h => ?_)
        · skip
          refine ww_kill [2, 3, 4] (L' := [some (.ref (G.2.2.2 r0)), none, none, none, none, some (.int j5), some (.int j6), some (.int s0), some (.int v44), none, none, none, none, none, none, none]) rfl ?_
          exact jw_L_acts_479 X hr r0 hr0 p1 p2 j5 j6 s0 v44 σ h K
        · skip
          refine ww_iload 470 X dL_acts_468 rfl rfl ?_
          refine ww_iload 472 X dL_acts_470 rfl rfl ?_
          refine ww_icmp_ge 479 475 X dL_acts_472 (by decide) rfl h (fun h => ?_) (fun h => ?_)
          · skip
            refine ww_kill [2, 3, 4] (L' := [some (.ref (G.2.2.2 r0)), none, none, none, none, some (.int j5), some (.int j6), some (.int s0), some (.int v44), none, none, none, none, none, none, none]) rfl ?_
            exact jw_L_acts_479 X hr r0 hr0 p1 p2 j5 j6 s0 v44 σ h K
          · skip
            refine ww_iconst (v := 1) 476 X dL_acts_475 rfl (by decide) ?_
            refine ww_goto 480 X dL_acts_476 (by decide) ?_
            refine ww_kill [2, 3, 4] (L' := [some (.ref (G.2.2.2 r0)), none, none, none, none, some (.int j5), some (.int j6), some (.int s0), some (.int v44), none, none, none, none, none, none, none]) rfl ?_
            exact jw_L_acts_480 X hr r0 hr0 p1 p2 j5 j6 s0 v44 1 σ h K
      · skip
        refine ww_iload_n 551 X dL_acts_550 rfl rfl ?_
        refine ww_bipush (v := 8) 553 X dL_acts_551 rfl (by decide) ?_
        refine ww_icmp_ne 634 556 X dL_acts_553 (by decide) rfl h (fun h => ?_) (fun h => ?_)
        · skip
          refine ww_iload_n 557 X dL_acts_556 rfl rfl ?_
          refine ww_iconst (v := 5) 558 X dL_acts_557 rfl (by decide) ?_
          refine ww_ishr 559 X dL_acts_558 rfl ?_
          refine ww_iload 561 X dL_acts_559 rfl rfl ?_
          refine ww_iconst (v := 1) 562 X dL_acts_561 rfl (by decide) ?_
          refine ww_iadd 563 X dL_acts_562 rfl ?_
          obtain ⟨x39, hx39, h⟩ := hb_bind_of h
          refine ww_callS (rest := []) (st' := [.int x39]) 566 X (ct_L_low (hb_l Γ) G (p2 >>> (5 &&& 31)) (j4 + 1) σ hx39) cw_L_35 rfl ⟨by decide, by decide⟩ (Nat.le_of_ble_eq_true rfl) rfl rfl dL_acts_563 rfl ?_
          refine ww_istore 568 X (L' := [some (.ref (G.2.2.2 r0)), none, some (.int p2), some (.int j3), some (.int j4), some (.int j5), some (.int j6), some (.int s0), some (.int x39), none, none, none, none, none, none, none]) dL_acts_566 rfl (Nat.le_of_ble_eq_true rfl) rfl rfl ?_
          refine ww_iload 570 X dL_acts_568 rfl rfl ?_
          refine ww_if_ne 580 573 X dL_acts_570 (by decide) rfl h (fun h => ?_) (fun h => ?_)
          · skip
            refine ww_iload 575 X dL_acts_573 rfl rfl ?_
            refine ww_iload 577 X dL_acts_575 rfl rfl ?_
            refine ww_icmp_ne 584 580 X dL_acts_577 (by decide) rfl h (fun h => ?_) (fun h => ?_)
            · skip
              refine ww_kill [2, 3, 4, 6, 7] (L' := [some (.ref (G.2.2.2 r0)), none, none, none, none, some (.int j5), none, none, some (.int x39), none, none, none, none, none, none, none]) rfl ?_
              exact jw_L_acts_580 X hr r0 hr0 p1 p2 j5 x39 σ h K
            · skip
              refine ww_iload 586 X dL_acts_584 rfl rfl ?_
              refine ww_iload 588 X dL_acts_586 rfl rfl ?_
              refine ww_icmp_ne 596 591 X dL_acts_588 (by decide) rfl h (fun h => ?_) (fun h => ?_)
              · skip
                refine ww_bipush (v := (-5)) 593 X dL_acts_591 rfl (by decide) ?_
                refine ww_goto 613 X dL_acts_593 (by decide) ?_
                refine ww_kill [2, 3, 4, 6, 7] (L' := [some (.ref (G.2.2.2 r0)), none, none, none, none, some (.int j5), none, none, some (.int x39), none, none, none, none, none, none, none]) rfl ?_
                exact jw_L_acts_613 X hr r0 hr0 p1 p2 j5 x39 (-5) σ h K
              · skip
                refine ww_aload_n 597 X dL_acts_596 rfl rfl ?_
                refine ww_iload 599 X dL_acts_597 rfl rfl ?_
                refine ww_bipush (v := 10) 601 X dL_acts_599 rfl (by decide) ?_
                obtain ⟨x41, hx41, h⟩ := hb_bind_of h
                refine ww_callV (ci := 5) (rest := []) (st' := [.int x41.1]) 604 X (ct_X5_page (hb_l Γ) G r0 hr0 j5 10 σ hx41) cw_L_19 rfl (by decide) hr0 rfl ⟨by decide, by decide⟩ (Nat.le_of_ble_eq_true rfl) rfl rfl dL_acts_601 rfl ?_
                refine ww_aload_n 605 X dL_acts_604 rfl rfl ?_
                refine ww_iload 607 X dL_acts_605 rfl rfl ?_
                refine ww_bipush (v := 10) 609 X dL_acts_607 rfl (by decide) ?_
                obtain ⟨x42, hx42, h⟩ := hb_bind_of h
                refine ww_callV (ci := 5) (rest := [.int x41.1]) (st' := [.int x42.1, .int x41.1]) 612 X (ct_X5_page (hb_l Γ) G r0 hr0 x39 10 x41.2 hx42) cw_L_19 rfl (by decide) hr0 rfl ⟨by decide, by decide⟩ (Nat.le_of_ble_eq_true rfl) rfl rfl dL_acts_609 rfl ?_
                refine ww_iadd 613 X dL_acts_612 rfl ?_
                refine ww_kill [2, 3, 4, 6, 7] (L' := [some (.ref (G.2.2.2 r0)), none, none, none, none, some (.int j5), none, none, some (.int x39), none, none, none, none, none, none, none]) rfl ?_
                exact jw_L_acts_613 X hr r0 hr0 p1 p2 j5 x39 (x41.1 + x42.1) x42.2 h K
          · skip
            refine ww_kill [2, 3, 4, 6, 7] (L' := [some (.ref (G.2.2.2 r0)), none, none, none, none, some (.int j5), none, none, some (.int x39), none, none, none, none, none, none, none]) rfl ?_
            exact jw_L_acts_580 X hr r0 hr0 p1 p2 j5 x39 σ h K
        · skip
          refine ww_iload_n 635 X dL_acts_634 rfl rfl ?_
          refine ww_bipush (v := 9) 637 X dL_acts_635 rfl (by decide) ?_
          refine ww_icmp_ne 782 640 X dL_acts_637 (by decide) rfl h (fun h => ?_) (fun h => ?_)
          · skip
            refine ww_iload_n 641 X dL_acts_640 rfl rfl ?_
            refine ww_iconst (v := 5) 642 X dL_acts_641 rfl (by decide) ?_
            refine ww_ishr 643 X dL_acts_642 rfl ?_
            refine ww_sipush (v := 202) 646 X dL_acts_643 rfl (by decide) ?_
            obtain ⟨x33, hx33, h⟩ := hb_bind_of h
            refine ww_callS (rest := []) (st' := [.int x33]) 649 X (ct_L_low (hb_l Γ) G (p2 >>> (5 &&& 31)) 202 σ hx33) cw_L_35 rfl ⟨by decide, by decide⟩ (Nat.le_of_ble_eq_true rfl) rfl rfl dL_acts_646 rfl ?_
            refine ww_bipush (v := 101) 651 X dL_acts_649 rfl (by decide) ?_
            refine ww_isub 652 X dL_acts_651 rfl ?_
            obtain ⟨v34, ev34, h⟩ := hb_nm_of h
            rw [← ev34]
            refine ww_istore 654 X (L' := [some (.ref (G.2.2.2 r0)), none, some (.int p2), some (.int j3), some (.int j4), some (.int j5), some (.int j6), some (.int s0), some (.int v34), none, none, none, none, none, none, none]) dL_acts_652 rfl (Nat.le_of_ble_eq_true rfl) rfl rfl ?_
            refine ww_iload 656 X dL_acts_654 rfl rfl ?_
            refine ww_if_eq 663 659 X dL_acts_656 (by decide) rfl h (fun h => ?_) (fun h => ?_)
            · skip
              refine ww_aload_n 664 X dL_acts_663 rfl rfl ?_
              refine ww_iload 666 X dL_acts_664 rfl rfl ?_
              refine ww_iconst (v := 3) 667 X dL_acts_666 rfl (by decide) ?_
              obtain ⟨x35, hx35, h⟩ := hb_bind_of h
              refine ww_callV (ci := 5) (rest := []) (st' := [.int x35.1]) 670 X (ct_X5_page (hb_l Γ) G r0 hr0 j5 3 σ hx35) cw_L_19 rfl (by decide) hr0 rfl ⟨by decide, by decide⟩ (Nat.le_of_ble_eq_true rfl) rfl rfl dL_acts_667 rfl ?_
              refine ww_kill [2, 3, 4] (L' := [some (.ref (G.2.2.2 r0)), none, none, none, none, some (.int j5), some (.int j6), some (.int s0), some (.int v34), none, none, none, none, none, none, none]) rfl ?_
              exact jw_L_acts_670 X hr r0 hr0 p1 p2 j5 j6 s0 v34 x35.1 x35.2 h K
            · skip
              refine ww_iconst (v := 0) 660 X dL_acts_659 rfl (by decide) ?_
              refine ww_goto 670 X dL_acts_660 (by decide) ?_
              refine ww_kill [2, 3, 4] (L' := [some (.ref (G.2.2.2 r0)), none, none, none, none, some (.int j5), some (.int j6), some (.int s0), some (.int v34), none, none, none, none, none, none, none]) rfl ?_
              exact jw_L_acts_670 X hr r0 hr0 p1 p2 j5 j6 s0 v34 0 σ h K
          · skip
            refine ww_iload_n 783 X dL_acts_782 rfl rfl ?_
            refine ww_iconst (v := 3) 784 X dL_acts_783 rfl (by decide) ?_
            obtain ⟨x5, hx5, h⟩ := hb_bind_of h
            refine ww_callS (rest := []) (st' := [.int x5]) 787 X (ct_L_low (hb_l Γ) G p2 3 σ hx5) cw_L_35 rfl ⟨by decide, by decide⟩ (Nat.le_of_ble_eq_true rfl) rfl rfl dL_acts_784 rfl ?_
            refine ww_istore 789 X (L' := [some (.ref (G.2.2.2 r0)), none, some (.int p2), some (.int j3), some (.int j4), some (.int j5), some (.int j6), some (.int s0), some (.int x5), none, none, none, none, none, none, none]) dL_acts_787 rfl (Nat.le_of_ble_eq_true rfl) rfl rfl ?_
            refine ww_iload 791 X dL_acts_789 rfl rfl ?_
            refine ww_iconst (v := 2) 792 X dL_acts_791 rfl (by decide) ?_
            refine ww_icmp_ne 799 795 X dL_acts_792 (by decide) rfl h (fun h => ?_) (fun h => ?_)
            · skip
              refine ww_iconst (v := 1) 796 X dL_acts_795 rfl (by decide) ?_
              refine ww_goto 800 X dL_acts_796 (by decide) ?_
              refine ww_kill [5, 6, 7] (L' := [some (.ref (G.2.2.2 r0)), none, some (.int p2), some (.int j3), some (.int j4), none, none, none, some (.int x5), none, none, none, none, none, none, none]) rfl ?_
              exact jw_L_acts_800 X hr r0 hr0 p1 p2 j3 j4 x5 1 σ h K
            · skip
              refine ww_iconst (v := 0) 800 X dL_acts_799 rfl (by decide) ?_
              refine ww_kill [5, 6, 7] (L' := [some (.ref (G.2.2.2 r0)), none, some (.int p2), some (.int j3), some (.int j4), none, none, none, some (.int x5), none, none, none, none, none, none, none]) rfl ?_
              exact jw_L_acts_800 X hr r0 hr0 p1 p2 j3 j4 x5 0 σ h K
    · skip
      refine ww_iload_n 256 X dL_acts_255 rfl rfl ?_
      refine ww_iconst (v := 4) 257 X dL_acts_256 rfl (by decide) ?_
      refine ww_ishr 258 X dL_acts_257 rfl ?_
      refine ww_iload 260 X dL_acts_258 rfl rfl ?_
      refine ww_iconst (v := 1) 261 X dL_acts_260 rfl (by decide) ?_
      refine ww_iadd 262 X dL_acts_261 rfl ?_
      obtain ⟨x48, hx48, h⟩ := hb_bind_of h
      refine ww_callS (rest := []) (st' := [.int x48]) 265 X (ct_L_low (hb_l Γ) G (p2 >>> (4 &&& 31)) (j4 + 1) σ hx48) cw_L_35 rfl ⟨by decide, by decide⟩ (Nat.le_of_ble_eq_true rfl) rfl rfl dL_acts_262 rfl ?_
      refine ww_istore 267 X (L' := [some (.ref (G.2.2.2 r0)), none, some (.int p2), some (.int j3), some (.int j4), some (.int j5), some (.int j6), some (.int s0), some (.int x48), none, none, none, none, none, none, none]) dL_acts_265 rfl (Nat.le_of_ble_eq_true rfl) rfl rfl ?_
      refine ww_iload_n 268 X dL_acts_267 rfl rfl ?_
      refine ww_bipush (v := 7) 270 X dL_acts_268 rfl (by decide) ?_
      refine ww_ishr 271 X dL_acts_270 rfl ?_
      refine ww_iconst (v := 3) 272 X dL_acts_271 rfl (by decide) ?_
      obtain ⟨x49, hx49, h⟩ := hb_bind_of h
      refine ww_callS (rest := []) (st' := [.int x49]) 275 X (ct_L_low (hb_l Γ) G (p2 >>> (7 &&& 31)) 3 σ hx49) cw_L_35 rfl ⟨by decide, by decide⟩ (Nat.le_of_ble_eq_true rfl) rfl rfl dL_acts_272 rfl ?_
      refine ww_if_ne 292 278 X dL_acts_275 (by decide) rfl h (fun h => ?_) (fun h => ?_)
      · skip
        refine ww_iload_n 279 X dL_acts_278 rfl rfl ?_
        refine ww_bipush (v := 9) 281 X dL_acts_279 rfl (by decide) ?_
        refine ww_ishr 282 X dL_acts_281 rfl ?_
        refine ww_bipush (v := 34) 284 X dL_acts_282 rfl (by decide) ?_
        obtain ⟨x56, hx56, h⟩ := hb_bind_of h
        refine ww_callS (rest := []) (st' := [.int x56]) 287 X (ct_L_low (hb_l Γ) G (p2 >>> (9 &&& 31)) 34 σ hx56) cw_L_35 rfl ⟨by decide, by decide⟩ (Nat.le_of_ble_eq_true rfl) rfl rfl dL_acts_284 rfl ?_
        refine ww_iconst (v := 1) 288 X dL_acts_287 rfl (by decide) ?_
        refine ww_isub 289 X dL_acts_288 rfl ?_
        refine ww_goto 293 X dL_acts_289 (by decide) ?_
        refine ww_kill [3] (L' := [some (.ref (G.2.2.2 r0)), none, some (.int p2), none, some (.int j4), some (.int j5), some (.int j6), some (.int s0), some (.int x48), none, none, none, none, none, none, none]) rfl ?_
        exact jw_L_acts_293 X hr r0 hr0 p1 p2 j4 j5 j6 s0 x48 (x56 - 1) σ h K
      · skip
        refine ww_iconst (v := 0) 293 X dL_acts_292 rfl (by decide) ?_
        refine ww_kill [3] (L' := [some (.ref (G.2.2.2 r0)), none, some (.int p2), none, some (.int j4), some (.int j5), some (.int j6), some (.int s0), some (.int x48), none, none, none, none, none, none, none]) rfl ?_
        exact jw_L_acts_293 X hr r0 hr0 p1 p2 j4 j5 j6 s0 x48 0 σ h K
  · skip
    refine ww_iload_n 62 X dL_acts_61 rfl rfl ?_
    refine ww_sipush (v := 203) 65 X dL_acts_62 rfl (by decide) ?_
    obtain ⟨x57, hx57, h⟩ := hb_bind_of h
    refine ww_callS (rest := []) (st' := [.int x57]) 68 X (ct_L_low (hb_l Γ) G p2 203 σ hx57) cw_L_35 rfl ⟨by decide, by decide⟩ (Nat.le_of_ble_eq_true rfl) rfl rfl dL_acts_65 rfl ?_
    refine ww_bipush (v := 101) 70 X dL_acts_68 rfl (by decide) ?_
    refine ww_isub 71 X dL_acts_70 rfl ?_
    obtain ⟨v58, ev58, h⟩ := hb_nm_of h
    rw [← ev58]
    refine ww_istore 73 X (L' := [some (.ref (G.2.2.2 r0)), none, some (.int p2), some (.int j3), some (.int j4), some (.int j5), some (.int j6), some (.int s0), some (.int v58), none, none, none, none, none, none, none]) dL_acts_71 rfl (Nat.le_of_ble_eq_true rfl) rfl rfl ?_
    refine ww_iload_n 74 X dL_acts_73 rfl rfl ?_
    refine ww_bipush (v := 8) 76 X dL_acts_74 rfl (by decide) ?_
    refine ww_ishr 77 X dL_acts_76 rfl ?_
    refine ww_bipush (v := 34) 79 X dL_acts_77 rfl (by decide) ?_
    obtain ⟨x59, hx59, h⟩ := hb_bind_of h
    refine ww_callS (rest := []) (st' := [.int x59]) 82 X (ct_L_low (hb_l Γ) G (p2 >>> (8 &&& 31)) 34 σ hx59) cw_L_35 rfl ⟨by decide, by decide⟩ (Nat.le_of_ble_eq_true rfl) rfl rfl dL_acts_79 rfl ?_
    refine ww_iconst (v := 1) 83 X dL_acts_82 rfl (by decide) ?_
    refine ww_isub 84 X dL_acts_83 rfl ?_
    obtain ⟨v60, ev60, h⟩ := hb_nm_of h
    rw [← ev60]
    refine ww_istore 86 X (L' := [some (.ref (G.2.2.2 r0)), none, some (.int p2), some (.int j3), some (.int j4), some (.int j5), some (.int j6), some (.int s0), some (.int v58), some (.int v60), none, none, none, none, none, none]) dL_acts_84 rfl (Nat.le_of_ble_eq_true rfl) rfl rfl ?_
    refine ww_iload_n 87 X dL_acts_86 rfl rfl ?_
    refine ww_bipush (v := 11) 89 X dL_acts_87 rfl (by decide) ?_
    refine ww_ishr 90 X dL_acts_89 rfl ?_
    refine ww_iconst (v := 3) 91 X dL_acts_90 rfl (by decide) ?_
    obtain ⟨x61, hx61, h⟩ := hb_bind_of h
    refine ww_callS (rest := []) (st' := [.int x61]) 94 X (ct_L_low (hb_l Γ) G (p2 >>> (11 &&& 31)) 3 σ hx61) cw_L_35 rfl ⟨by decide, by decide⟩ (Nat.le_of_ble_eq_true rfl) rfl rfl dL_acts_91 rfl ?_
    refine ww_if_ne 109 97 X dL_acts_94 (by decide) rfl h (fun h => ?_) (fun h => ?_)
    · skip
      refine ww_iload_n 98 X dL_acts_97 rfl rfl ?_
      refine ww_bipush (v := 13) 100 X dL_acts_98 rfl (by decide) ?_
      refine ww_ishr 101 X dL_acts_100 rfl ?_
      refine ww_bipush (v := 33) 103 X dL_acts_101 rfl (by decide) ?_
      obtain ⟨x67, hx67, h⟩ := hb_bind_of h
      refine ww_callS (rest := []) (st' := [.int x67]) 106 X (ct_L_low (hb_l Γ) G (p2 >>> (13 &&& 31)) 33 σ hx67) cw_L_35 rfl ⟨by decide, by decide⟩ (Nat.le_of_ble_eq_true rfl) rfl rfl dL_acts_103 rfl ?_
      refine ww_goto 110 X dL_acts_106 (by decide) ?_
      refine ww_kill [2, 3, 5, 6, 7] (L' := [some (.ref (G.2.2.2 r0)), none, none, none, some (.int j4), none, none, none, some (.int v58), some (.int v60), none, none, none, none, none, none]) rfl ?_
      exact jw_L_acts_110 X hr r0 hr0 p1 p2 j4 v58 v60 x67 σ h K
    · skip
      refine ww_iconst (v := 0) 110 X dL_acts_109 rfl (by decide) ?_
      refine ww_kill [2, 3, 5, 6, 7] (L' := [some (.ref (G.2.2.2 r0)), none, none, none, some (.int j4), none, none, none, some (.int v58), some (.int v60), none, none, none, none, none, none]) rfl ?_
      exact jw_L_acts_110 X hr r0 hr0 p1 p2 j4 v58 v60 0 σ h K
def jn_L_acts_36 (r0 : Nat) (p1 : Int32) (p2 : Int32) (j3 : Int32) (j4 : Int32) (j5 : Int32) (s0 : Int32) (σ : hb_Mem) : Option (Int32 × hb_Mem) :=
if s0 = 0 then (
(fn_X5_page r0 j5 0 σ).bind fun x4 =>
jn_L_acts_54 r0 p1 p2 j3 j4 j5 s0 x4.1 x4.2)
else (
jn_L_acts_54 r0 p1 p2 j3 j4 j5 s0 0 σ)
set_option maxRecDepth 100000 in
set_option maxHeartbeats 4000000 in
theorem jw_L_acts_36 {Γ : hb_Ctx} {G : hb_Gam} {Q : State → Prop} (X : hb_X Γ cL_acts 16 RL ΛC G 9 208) (hr : hb_ret Γ = (some .boolean)) (r0 : Nat) (hr0 : hb_is ΛC r0 5) (p1 : Int32) (p2 : Int32) (j3 : Int32) (j4 : Int32) (j5 : Int32) (s0 : Int32) (σ : hb_Mem) {x : (Int32 × hb_Mem)} (h : jn_L_acts_36 r0 p1 p2 j3 j4 j5 s0 σ = some x) (K : Q = hb_Q Γ ΛC G (some (.int x.1)) x.2) : hb_W Γ ΛC G 16 Q σ [some (.ref (G.2.2.2 r0)), none, some (.int p2), some (.int j3), some (.int j4), some (.int j5), none, none, none, none, none, none, none, none, none, none] [.int s0] 36 := by
  unfold jn_L_acts_36 at h
  refine ww_istore 38 X (L' := [some (.ref (G.2.2.2 r0)), none, some (.int p2), some (.int j3), some (.int j4), some (.int j5), some (.int s0), none, none, none, none, none, none, none, none, none]) dL_acts_36 rfl (Nat.le_of_ble_eq_true rfl) rfl rfl ?_
  refine ww_iload 40 X dL_acts_38 rfl rfl ?_
  refine ww_if_eq 47 43 X dL_acts_40 (by decide) rfl h (fun h => ?_) (fun h => ?_)
  · skip
    refine ww_aload_n 48 X dL_acts_47 rfl rfl ?_
    refine ww_iload 50 X dL_acts_48 rfl rfl ?_
    refine ww_iconst (v := 0) 51 X dL_acts_50 rfl (by decide) ?_
    obtain ⟨x4, hx4, h⟩ := hb_bind_of h
    refine ww_callV (ci := 5) (rest := []) (st' := [.int x4.1]) 54 X (ct_X5_page (hb_l Γ) G r0 hr0 j5 0 σ hx4) cw_L_19 rfl (by decide) hr0 rfl ⟨by decide, by decide⟩ (Nat.le_of_ble_eq_true rfl) rfl rfl dL_acts_51 rfl ?_
    exact jw_L_acts_54 X hr r0 hr0 p1 p2 j3 j4 j5 s0 x4.1 x4.2 h K
  · skip
    refine ww_iconst (v := 0) 44 X dL_acts_43 rfl (by decide) ?_
    refine ww_goto 54 X dL_acts_44 (by decide) ?_
    exact jw_L_acts_54 X hr r0 hr0 p1 p2 j3 j4 j5 s0 0 σ h K
def fn_L_acts (r0 : Nat) (p1 : Int32) (p2 : Int32) (σ : hb_Mem) : Option (Int32 × hb_Mem) :=
(fn_L_low p1 20).bind fun x1 =>
(fn_X5_count r0 0 σ).bind fun x2 =>
(fn_L_low p2 (x2.1 + 1)).bind fun x3 =>
if x3 = x2.1 then (
jn_L_acts_36 r0 p1 p2 x1 x2.1 x3 1 x2.2)
else (
jn_L_acts_36 r0 p1 p2 x1 x2.1 x3 0 x2.2)
set_option maxRecDepth 100000 in
set_option maxHeartbeats 4000000 in
theorem wk_L_acts {Γ : hb_Ctx} {G : hb_Gam} {Q : State → Prop} (X : hb_X Γ cL_acts 16 RL ΛC G 9 208) (hr : hb_ret Γ = (some .boolean)) (r0 : Nat) (hr0 : hb_is ΛC r0 5) (p1 : Int32) (p2 : Int32) (σ : hb_Mem) {x : (Int32 × hb_Mem)} (h : fn_L_acts r0 p1 p2 σ = some x) (K : Q = hb_Q Γ ΛC G (some (.int x.1)) x.2) : hb_W Γ ΛC G 16 Q σ [some (.ref (G.2.2.2 r0)), some (.int p1), some (.int p2), none, none, none, none, none, none, none, none, none, none, none, none, none] [] 0 := by
  unfold fn_L_acts at h
  refine ww_iload_n 1 X dL_acts_0 rfl rfl ?_
  refine ww_bipush (v := 20) 3 X dL_acts_1 rfl (by decide) ?_
  obtain ⟨x1, hx1, h⟩ := hb_bind_of h
  refine ww_callS (rest := []) (st' := [.int x1]) 6 X (ct_L_low (hb_l Γ) G p1 20 σ hx1) cw_L_35 rfl ⟨by decide, by decide⟩ (Nat.le_of_ble_eq_true rfl) rfl rfl dL_acts_3 rfl ?_
  refine ww_istore_n 7 X (L' := [some (.ref (G.2.2.2 r0)), some (.int p1), some (.int p2), some (.int x1), none, none, none, none, none, none, none, none, none, none, none, none]) dL_acts_6 rfl (Nat.le_of_ble_eq_true rfl) rfl rfl ?_
  refine ww_aload_n 8 X dL_acts_7 rfl rfl ?_
  refine ww_iconst (v := 0) 9 X dL_acts_8 rfl (by decide) ?_
  obtain ⟨x2, hx2, h⟩ := hb_bind_of h
  refine ww_callV (ci := 5) (rest := []) (st' := [.int x2.1]) 12 X (ct_X5_count (hb_l Γ) G r0 hr0 0 σ hx2) cw_L_11 rfl (by decide) hr0 rfl ⟨by decide, by decide⟩ (Nat.le_of_ble_eq_true rfl) rfl rfl dL_acts_9 rfl ?_
  refine ww_istore 14 X (L' := [some (.ref (G.2.2.2 r0)), some (.int p1), some (.int p2), some (.int x1), some (.int x2.1), none, none, none, none, none, none, none, none, none, none, none]) dL_acts_12 rfl (Nat.le_of_ble_eq_true rfl) rfl rfl ?_
  refine ww_iload_n 15 X dL_acts_14 rfl rfl ?_
  refine ww_iload 17 X dL_acts_15 rfl rfl ?_
  refine ww_iconst (v := 1) 18 X dL_acts_17 rfl (by decide) ?_
  refine ww_iadd 19 X dL_acts_18 rfl ?_
  obtain ⟨x3, hx3, h⟩ := hb_bind_of h
  refine ww_callS (rest := []) (st' := [.int x3]) 22 X (ct_L_low (hb_l Γ) G p2 (x2.1 + 1) x2.2 hx3) cw_L_35 rfl ⟨by decide, by decide⟩ (Nat.le_of_ble_eq_true rfl) rfl rfl dL_acts_19 rfl ?_
  refine ww_istore 24 X (L' := [some (.ref (G.2.2.2 r0)), some (.int p1), some (.int p2), some (.int x1), some (.int x2.1), some (.int x3), none, none, none, none, none, none, none, none, none, none]) dL_acts_22 rfl (Nat.le_of_ble_eq_true rfl) rfl rfl ?_
  refine ww_iload 26 X dL_acts_24 rfl rfl ?_
  refine ww_iload 28 X dL_acts_26 rfl rfl ?_
  refine ww_icmp_ne 35 31 X dL_acts_28 (by decide) rfl h (fun h => ?_) (fun h => ?_)
  · skip
    refine ww_iconst (v := 1) 32 X dL_acts_31 rfl (by decide) ?_
    refine ww_goto 36 X dL_acts_32 (by decide) ?_
    refine ww_kill [1] (L' := [some (.ref (G.2.2.2 r0)), none, some (.int p2), some (.int x1), some (.int x2.1), some (.int x3), none, none, none, none, none, none, none, none, none, none]) rfl ?_
    exact jw_L_acts_36 X hr r0 hr0 p1 p2 x1 x2.1 x3 1 x2.2 h K
  · skip
    refine ww_iconst (v := 0) 36 X dL_acts_35 rfl (by decide) ?_
    refine ww_kill [1] (L' := [some (.ref (G.2.2.2 r0)), none, some (.int p2), some (.int x1), some (.int x2.1), some (.int x3), none, none, none, none, none, none, none, none, none, none]) rfl ?_
    exact jw_L_acts_36 X hr r0 hr0 p1 p2 x1 x2.1 x3 0 x2.2 h K
theorem ct_L_acts (l : Launch) (G : hb_Gam) (r0 : Nat) (hr0 : hb_is ΛC r0 5) (p1 : Int32) (p2 : Int32) (σ : hb_Mem) {x : (Int32 × hb_Mem)} (h : fn_L_acts r0 p1 p2 σ = some x) : hb_C l yL_acts cL_acts 16 (some .boolean) 9 208 ΛC G [.ref (G.2.2.2 r0), .int p1, .int p2] σ (some (.int x.1)) x.2 :=
  hb_C.of [some (.ref (G.2.2.2 r0)), some (.int p1), some (.int p2), none, none, none, none, none, none, none, none, none, none, none, none, none] (by decide +kernel) (Nat.le_of_ble_eq_true rfl) (by intro v hv; simp only [List.mem_cons, List.not_mem_nil, or_false] at hv; rcases hv with rfl | rfl | rfl <;> rfl) rfl (hb_pad [.ref (G.2.2.2 r0), .int p1, .int p2] 13) (fun Γ X hr => wk_L_acts X hr r0 hr0 p1 p2 σ h rfl)
