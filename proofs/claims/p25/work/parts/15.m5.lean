/-! methods (laid by wip/p25/gen.py) -/
def jn_L_law_365 (xs : Nat → Int32) (ln : Nat) (b : Nat) (j2 : Int32) (j3 : Int32) (σ : hb_Mem) : Option ((Int32 × Int32 × hb_Mem) ⊕ (Int32 × hb_Mem)) :=
hb_nm (j3 + 1) fun v8 =>
some (.inl (j2, v8, σ))
set_option maxRecDepth 100000 in
set_option maxHeartbeats 4000000 in
theorem jw_L_law_365 {Γ : hb_Ctx} {G : hb_Gam} {Q : State → Prop} (X : hb_X Γ cL_law 11 RL ΛC G 10 243)  (xs : Nat → Int32) (ln : Nat) (b : Nat) (hscr : hl_scr Γ G b ln xs) (j2 : Int32) (j3 : Int32) (σ : hb_Mem) {x : ((Int32 × Int32 × hb_Mem) ⊕ (Int32 × hb_Mem))} (h : jn_L_law_365 xs ln b j2 j3 σ = some x) (K : Sum.elim (fun s : (Int32 × Int32 × hb_Mem) => hb_W Γ ΛC G 11 Q s.2.2 [some (.ref b), some (.ref (G.2.2.2 0)), some (.int s.1), some (.int s.2.1), none, none, none, none, none, none, none] [] 49) (fun t : (Int32 × hb_Mem) => hb_W Γ ΛC G 11 Q t.2 [none, some (.ref (G.2.2.2 0)), some (.int t.1), none, none, none, none, none, none, none, none] [] 371) x) : hb_W Γ ΛC G 11 Q σ [some (.ref b), some (.ref (G.2.2.2 0)), some (.int j2), some (.int j3), none, none, none, none, none, none, none] [] 365 := by
  unfold jn_L_law_365 at h
  obtain ⟨v8, ev8, h⟩ := hb_nm_of h
  refine ww_iinc 368 X (L' := [some (.ref b), some (.ref (G.2.2.2 0)), some (.int j2), some (.int v8), none, none, none, none, none, none, none]) dL_law_365 rfl rfl ev8.symm rfl ?_
  refine ww_goto 49 X dL_law_368 (by decide) ?_
  obtain rfl := Option.some.inj h
  exact K
def jn_L_law_364 (xs : Nat → Int32) (ln : Nat) (b : Nat) (j3 : Int32) (s0 : Int32) (σ : hb_Mem) : Option ((Int32 × Int32 × hb_Mem) ⊕ (Int32 × hb_Mem)) :=
jn_L_law_365 xs ln b s0 j3 σ
set_option maxRecDepth 100000 in
set_option maxHeartbeats 4000000 in
theorem jw_L_law_364 {Γ : hb_Ctx} {G : hb_Gam} {Q : State → Prop} (X : hb_X Γ cL_law 11 RL ΛC G 10 243)  (xs : Nat → Int32) (ln : Nat) (b : Nat) (hscr : hl_scr Γ G b ln xs) (j3 : Int32) (s0 : Int32) (σ : hb_Mem) {x : ((Int32 × Int32 × hb_Mem) ⊕ (Int32 × hb_Mem))} (h : jn_L_law_364 xs ln b j3 s0 σ = some x) (K : Sum.elim (fun s : (Int32 × Int32 × hb_Mem) => hb_W Γ ΛC G 11 Q s.2.2 [some (.ref b), some (.ref (G.2.2.2 0)), some (.int s.1), some (.int s.2.1), none, none, none, none, none, none, none] [] 49) (fun t : (Int32 × hb_Mem) => hb_W Γ ΛC G 11 Q t.2 [none, some (.ref (G.2.2.2 0)), some (.int t.1), none, none, none, none, none, none, none, none] [] 371) x) : hb_W Γ ΛC G 11 Q σ [some (.ref b), some (.ref (G.2.2.2 0)), none, some (.int j3), none, none, none, none, none, none, none] [.int s0] 364 := by
  unfold jn_L_law_364 at h
  refine ww_istore_n 365 X (L' := [some (.ref b), some (.ref (G.2.2.2 0)), some (.int s0), some (.int j3), none, none, none, none, none, none, none]) dL_law_364 rfl (Nat.le_of_ble_eq_true rfl) rfl rfl ?_
  exact jw_L_law_365 X xs ln b hscr s0 j3 σ h K
def jn_L_law_356 (xs : Nat → Int32) (ln : Nat) (b : Nat) (j3 : Int32) (s0 : Int32) (s1 : Int32) (σ : hb_Mem) : Option ((Int32 × Int32 × hb_Mem) ⊕ (Int32 × hb_Mem)) :=
if s0 = s1 then (
jn_L_law_364 xs ln b j3 1 σ)
else (
jn_L_law_364 xs ln b j3 0 σ)
set_option maxRecDepth 100000 in
set_option maxHeartbeats 4000000 in
theorem jw_L_law_356 {Γ : hb_Ctx} {G : hb_Gam} {Q : State → Prop} (X : hb_X Γ cL_law 11 RL ΛC G 10 243)  (xs : Nat → Int32) (ln : Nat) (b : Nat) (hscr : hl_scr Γ G b ln xs) (j3 : Int32) (s0 : Int32) (s1 : Int32) (σ : hb_Mem) {x : ((Int32 × Int32 × hb_Mem) ⊕ (Int32 × hb_Mem))} (h : jn_L_law_356 xs ln b j3 s0 s1 σ = some x) (K : Sum.elim (fun s : (Int32 × Int32 × hb_Mem) => hb_W Γ ΛC G 11 Q s.2.2 [some (.ref b), some (.ref (G.2.2.2 0)), some (.int s.1), some (.int s.2.1), none, none, none, none, none, none, none] [] 49) (fun t : (Int32 × hb_Mem) => hb_W Γ ΛC G 11 Q t.2 [none, some (.ref (G.2.2.2 0)), some (.int t.1), none, none, none, none, none, none, none, none] [] 371) x) : hb_W Γ ΛC G 11 Q σ [some (.ref b), some (.ref (G.2.2.2 0)), none, some (.int j3), none, none, none, none, none, none, none] [.int s1, .int s0] 356 := by
  unfold jn_L_law_356 at h
  refine ww_icmp_ne 363 359 X dL_law_356 (by decide) rfl h (fun h => ?_) (fun h => ?_)
  · skip
    refine ww_iconst (v := 1) 360 X dL_law_359 rfl (by decide) ?_
    refine ww_goto 364 X dL_law_360 (by decide) ?_
    exact jw_L_law_364 X xs ln b hscr j3 1 σ h K
  · skip
    refine ww_iconst (v := 0) 364 X dL_law_363 rfl (by decide) ?_
    exact jw_L_law_364 X xs ln b hscr j3 0 σ h K
def jn_L_law_317 (xs : Nat → Int32) (ln : Nat) (b : Nat) (j2 : Int32) (j3 : Int32) (σ : hb_Mem) : Option ((Int32 × Int32 × hb_Mem) ⊕ (Int32 × hb_Mem)) :=
if j2 = 0 then (
jn_L_law_365 xs ln b j2 j3 σ)
else (
if (j3 - j3 / 9 * 9) = 8 then (
(fn_X5_count 0 10 σ).bind fun x9 =>
(fn_X5_undo 0 x9.2).bind fun x10 =>
if x9.1 = 0 then (
jn_L_law_356 xs ln b j3 x10.1 (-5) x10.2)
else (
jn_L_law_356 xs ln b j3 x10.1 (x9.1 - 1) x10.2))
else (
jn_L_law_365 xs ln b j2 j3 σ))
set_option maxRecDepth 100000 in
set_option maxHeartbeats 4000000 in
theorem jw_L_law_317 {Γ : hb_Ctx} {G : hb_Gam} {Q : State → Prop} (X : hb_X Γ cL_law 11 RL ΛC G 10 243)  (xs : Nat → Int32) (ln : Nat) (b : Nat) (hscr : hl_scr Γ G b ln xs) (j2 : Int32) (j3 : Int32) (σ : hb_Mem) {x : ((Int32 × Int32 × hb_Mem) ⊕ (Int32 × hb_Mem))} (h : jn_L_law_317 xs ln b j2 j3 σ = some x) (K : Sum.elim (fun s : (Int32 × Int32 × hb_Mem) => hb_W Γ ΛC G 11 Q s.2.2 [some (.ref b), some (.ref (G.2.2.2 0)), some (.int s.1), some (.int s.2.1), none, none, none, none, none, none, none] [] 49) (fun t : (Int32 × hb_Mem) => hb_W Γ ΛC G 11 Q t.2 [none, some (.ref (G.2.2.2 0)), some (.int t.1), none, none, none, none, none, none, none, none] [] 371) x) : hb_W Γ ΛC G 11 Q σ [some (.ref b), some (.ref (G.2.2.2 0)), some (.int j2), some (.int j3), none, none, none, none, none, none, none] [] 317 := by
  unfold jn_L_law_317 at h
  refine ww_iload_n 318 X dL_law_317 rfl rfl ?_
  refine ww_if_eq 365 321 X dL_law_318 (by decide) rfl h (fun h => ?_) (fun h => ?_)
  · skip
    exact jw_L_law_365 X xs ln b hscr j2 j3 σ h K
  · skip
    refine ww_iload_n 322 X dL_law_321 rfl rfl ?_
    refine ww_bipush (v := 9) 324 X dL_law_322 rfl (by decide) ?_
    refine ww_irem 325 X dL_law_324 rfl (by decide) ?_
    refine ww_bipush (v := 8) 327 X dL_law_325 rfl (by decide) ?_
    refine ww_icmp_ne 365 330 X dL_law_327 (by decide) rfl h (fun h => ?_) (fun h => ?_)
    · skip
      refine ww_aload_n 331 X dL_law_330 rfl rfl ?_
      refine ww_bipush (v := 10) 333 X dL_law_331 rfl (by decide) ?_
      obtain ⟨x9, hx9, h⟩ := hb_bind_of h
      refine ww_callV (ci := 5) (rest := []) (st' := [.int x9.1]) 336 X (ct_X5_count (hb_l Γ) G 0 hc_is0 10 σ hx9) cw_L_11 rfl (by decide) hc_is0 rfl ⟨by decide, by decide⟩ (Nat.le_of_ble_eq_true rfl) rfl rfl dL_law_333 rfl ?_
      refine ww_istore 338 X (L' := [some (.ref b), some (.ref (G.2.2.2 0)), some (.int j2), some (.int j3), none, none, none, none, none, none, some (.int x9.1)]) dL_law_336 rfl (Nat.le_of_ble_eq_true rfl) rfl rfl ?_
      refine ww_aload_n 339 X dL_law_338 rfl rfl ?_
      obtain ⟨x10, hx10, h⟩ := hb_bind_of h
      refine ww_callV (ci := 5) (rest := []) (st' := [.int x10.1]) 342 X (ct_X5_undo (hb_l Γ) G 0 hc_is0 x9.2 hx10) cw_L_102 rfl (by decide) hc_is0 rfl ⟨by decide, by decide⟩ (Nat.le_of_ble_eq_true rfl) rfl rfl dL_law_339 rfl ?_
      refine ww_iload 344 X dL_law_342 rfl rfl ?_
      refine ww_if_ne 352 347 X dL_law_344 (by decide) rfl h (fun h => ?_) (fun h => ?_)
      · skip
        refine ww_bipush (v := (-5)) 349 X dL_law_347 rfl (by decide) ?_
        refine ww_goto 356 X dL_law_349 (by decide) ?_
        refine ww_kill [2, 10] (L' := [some (.ref b), some (.ref (G.2.2.2 0)), none, some (.int j3), none, none, none, none, none, none, none]) rfl ?_
        exact jw_L_law_356 X xs ln b hscr j3 x10.1 (-5) x10.2 h K
      · skip
        refine ww_iload 354 X dL_law_352 rfl rfl ?_
        refine ww_iconst (v := 1) 355 X dL_law_354 rfl (by decide) ?_
        refine ww_isub 356 X dL_law_355 rfl ?_
        refine ww_kill [2, 10] (L' := [some (.ref b), some (.ref (G.2.2.2 0)), none, some (.int j3), none, none, none, none, none, none, none]) rfl ?_
        exact jw_L_law_356 X xs ln b hscr j3 x10.1 (x9.1 - 1) x10.2 h K
    · skip
      exact jw_L_law_365 X xs ln b hscr j2 j3 σ h K
def jn_L_law_316 (xs : Nat → Int32) (ln : Nat) (b : Nat) (j3 : Int32) (s0 : Int32) (σ : hb_Mem) : Option ((Int32 × Int32 × hb_Mem) ⊕ (Int32 × hb_Mem)) :=
jn_L_law_317 xs ln b s0 j3 σ
set_option maxRecDepth 100000 in
set_option maxHeartbeats 4000000 in
theorem jw_L_law_316 {Γ : hb_Ctx} {G : hb_Gam} {Q : State → Prop} (X : hb_X Γ cL_law 11 RL ΛC G 10 243)  (xs : Nat → Int32) (ln : Nat) (b : Nat) (hscr : hl_scr Γ G b ln xs) (j3 : Int32) (s0 : Int32) (σ : hb_Mem) {x : ((Int32 × Int32 × hb_Mem) ⊕ (Int32 × hb_Mem))} (h : jn_L_law_316 xs ln b j3 s0 σ = some x) (K : Sum.elim (fun s : (Int32 × Int32 × hb_Mem) => hb_W Γ ΛC G 11 Q s.2.2 [some (.ref b), some (.ref (G.2.2.2 0)), some (.int s.1), some (.int s.2.1), none, none, none, none, none, none, none] [] 49) (fun t : (Int32 × hb_Mem) => hb_W Γ ΛC G 11 Q t.2 [none, some (.ref (G.2.2.2 0)), some (.int t.1), none, none, none, none, none, none, none, none] [] 371) x) : hb_W Γ ΛC G 11 Q σ [some (.ref b), some (.ref (G.2.2.2 0)), none, some (.int j3), none, none, none, none, none, none, none] [.int s0] 316 := by
  unfold jn_L_law_316 at h
  refine ww_istore_n 317 X (L' := [some (.ref b), some (.ref (G.2.2.2 0)), some (.int s0), some (.int j3), none, none, none, none, none, none, none]) dL_law_316 rfl (Nat.le_of_ble_eq_true rfl) rfl rfl ?_
  exact jw_L_law_317 X xs ln b hscr s0 j3 σ h K
def jn_L_law_311 (xs : Nat → Int32) (ln : Nat) (b : Nat) (j3 : Int32) (σ : hb_Mem) : Option ((Int32 × Int32 × hb_Mem) ⊕ (Int32 × hb_Mem)) :=
jn_L_law_316 xs ln b j3 1 σ
set_option maxRecDepth 100000 in
set_option maxHeartbeats 4000000 in
theorem jw_L_law_311 {Γ : hb_Ctx} {G : hb_Gam} {Q : State → Prop} (X : hb_X Γ cL_law 11 RL ΛC G 10 243)  (xs : Nat → Int32) (ln : Nat) (b : Nat) (hscr : hl_scr Γ G b ln xs) (j3 : Int32) (σ : hb_Mem) {x : ((Int32 × Int32 × hb_Mem) ⊕ (Int32 × hb_Mem))} (h : jn_L_law_311 xs ln b j3 σ = some x) (K : Sum.elim (fun s : (Int32 × Int32 × hb_Mem) => hb_W Γ ΛC G 11 Q s.2.2 [some (.ref b), some (.ref (G.2.2.2 0)), some (.int s.1), some (.int s.2.1), none, none, none, none, none, none, none] [] 49) (fun t : (Int32 × hb_Mem) => hb_W Γ ΛC G 11 Q t.2 [none, some (.ref (G.2.2.2 0)), some (.int t.1), none, none, none, none, none, none, none, none] [] 371) x) : hb_W Γ ΛC G 11 Q σ [some (.ref b), some (.ref (G.2.2.2 0)), none, some (.int j3), none, none, none, none, none, none, none] [] 311 := by
  unfold jn_L_law_311 at h
  refine ww_iconst (v := 1) 312 X dL_law_311 rfl (by decide) ?_
  refine ww_goto 316 X dL_law_312 (by decide) ?_
  exact jw_L_law_316 X xs ln b hscr j3 1 σ h K
def jn_L_law_292 (xs : Nat → Int32) (ln : Nat) (b : Nat) (j3 : Int32) (s0 : Int32) (σ : hb_Mem) : Option ((Int32 × Int32 × hb_Mem) ⊕ (Int32 × hb_Mem)) :=
if s0 = (-5) then (
jn_L_law_311 xs ln b j3 σ)
else (
(fn_X5_count 0 0 σ).bind fun x13 =>
if s0 = x13.1 then (
jn_L_law_311 xs ln b j3 x13.2)
else (
jn_L_law_316 xs ln b j3 0 x13.2))
set_option maxRecDepth 100000 in
set_option maxHeartbeats 4000000 in
theorem jw_L_law_292 {Γ : hb_Ctx} {G : hb_Gam} {Q : State → Prop} (X : hb_X Γ cL_law 11 RL ΛC G 10 243)  (xs : Nat → Int32) (ln : Nat) (b : Nat) (hscr : hl_scr Γ G b ln xs) (j3 : Int32) (s0 : Int32) (σ : hb_Mem) {x : ((Int32 × Int32 × hb_Mem) ⊕ (Int32 × hb_Mem))} (h : jn_L_law_292 xs ln b j3 s0 σ = some x) (K : Sum.elim (fun s : (Int32 × Int32 × hb_Mem) => hb_W Γ ΛC G 11 Q s.2.2 [some (.ref b), some (.ref (G.2.2.2 0)), some (.int s.1), some (.int s.2.1), none, none, none, none, none, none, none] [] 49) (fun t : (Int32 × hb_Mem) => hb_W Γ ΛC G 11 Q t.2 [none, some (.ref (G.2.2.2 0)), some (.int t.1), none, none, none, none, none, none, none, none] [] 371) x) : hb_W Γ ΛC G 11 Q σ [some (.ref b), some (.ref (G.2.2.2 0)), none, some (.int j3), none, none, none, none, none, none, none] [.int s0] 292 := by
  unfold jn_L_law_292 at h
  refine ww_istore 294 X (L' := [some (.ref b), some (.ref (G.2.2.2 0)), none, some (.int j3), none, none, none, none, none, none, some (.int s0)]) dL_law_292 rfl (Nat.le_of_ble_eq_true rfl) rfl rfl ?_
  refine ww_iload 296 X dL_law_294 rfl rfl ?_
  refine ww_bipush (v := (-5)) 298 X dL_law_296 rfl (by decide) ?_
  refine ww_icmp_eq 311 301 X dL_law_298 (by decide) rfl h (fun h => ?_) (fun h => ?_)
  · skip
    refine ww_kill [10] (L' := [some (.ref b), some (.ref (G.2.2.2 0)), none, some (.int j3), none, none, none, none, none, none, none]) rfl ?_
    exact jw_L_law_311 X xs ln b hscr j3 σ h K
  · skip
    refine ww_iload 303 X dL_law_301 rfl rfl ?_
    refine ww_aload_n 304 X dL_law_303 rfl rfl ?_
    refine ww_iconst (v := 0) 305 X dL_law_304 rfl (by decide) ?_
    obtain ⟨x13, hx13, h⟩ := hb_bind_of h
    refine ww_callV (ci := 5) (rest := [.int s0]) (st' := [.int x13.1, .int s0]) 308 X (ct_X5_count (hb_l Γ) G 0 hc_is0 0 σ hx13) cw_L_11 rfl (by decide) hc_is0 rfl ⟨by decide, by decide⟩ (Nat.le_of_ble_eq_true rfl) rfl rfl dL_law_305 rfl ?_
    refine ww_icmp_ne 315 311 X dL_law_308 (by decide) rfl h (fun h => ?_) (fun h => ?_)
    · skip
      refine ww_kill [10] (L' := [some (.ref b), some (.ref (G.2.2.2 0)), none, some (.int j3), none, none, none, none, none, none, none]) rfl ?_
      exact jw_L_law_311 X xs ln b hscr j3 x13.2 h K
    · skip
      refine ww_iconst (v := 0) 316 X dL_law_315 rfl (by decide) ?_
      refine ww_kill [10] (L' := [some (.ref b), some (.ref (G.2.2.2 0)), none, some (.int j3), none, none, none, none, none, none, none]) rfl ?_
      exact jw_L_law_316 X xs ln b hscr j3 0 x13.2 h K
def jn_L_law_259 (xs : Nat → Int32) (ln : Nat) (b : Nat) (j2 : Int32) (j3 : Int32) (j5 : Int32) (σ : hb_Mem) : Option ((Int32 × Int32 × hb_Mem) ⊕ (Int32 × hb_Mem)) :=
if j2 = 0 then (
jn_L_law_317 xs ln b j2 j3 σ)
else (
if (j3 - j3 / 12 * 12) = 7 then (
(fn_L_low j5 2).bind fun x11 =>
if x11 = 0 then (
(fn_X5_restore 0 σ).bind fun x14 =>
jn_L_law_292 xs ln b j3 x14.1 x14.2)
else (
(fn_X5_keep 0 σ).bind fun x12 =>
jn_L_law_292 xs ln b j3 x12.1 x12.2))
else (
jn_L_law_317 xs ln b j2 j3 σ))
set_option maxRecDepth 100000 in
set_option maxHeartbeats 4000000 in
theorem jw_L_law_259 {Γ : hb_Ctx} {G : hb_Gam} {Q : State → Prop} (X : hb_X Γ cL_law 11 RL ΛC G 10 243)  (xs : Nat → Int32) (ln : Nat) (b : Nat) (hscr : hl_scr Γ G b ln xs) (j2 : Int32) (j3 : Int32) (j5 : Int32) (σ : hb_Mem) {x : ((Int32 × Int32 × hb_Mem) ⊕ (Int32 × hb_Mem))} (h : jn_L_law_259 xs ln b j2 j3 j5 σ = some x) (K : Sum.elim (fun s : (Int32 × Int32 × hb_Mem) => hb_W Γ ΛC G 11 Q s.2.2 [some (.ref b), some (.ref (G.2.2.2 0)), some (.int s.1), some (.int s.2.1), none, none, none, none, none, none, none] [] 49) (fun t : (Int32 × hb_Mem) => hb_W Γ ΛC G 11 Q t.2 [none, some (.ref (G.2.2.2 0)), some (.int t.1), none, none, none, none, none, none, none, none] [] 371) x) : hb_W Γ ΛC G 11 Q σ [some (.ref b), some (.ref (G.2.2.2 0)), some (.int j2), some (.int j3), none, some (.int j5), none, none, none, none, none] [] 259 := by
  unfold jn_L_law_259 at h
  refine ww_iload_n 260 X dL_law_259 rfl rfl ?_
  refine ww_if_eq 317 263 X dL_law_260 (by decide) rfl h (fun h => ?_) (fun h => ?_)
  · skip
    refine ww_kill [5] (L' := [some (.ref b), some (.ref (G.2.2.2 0)), some (.int j2), some (.int j3), none, none, none, none, none, none, none]) rfl ?_
    exact jw_L_law_317 X xs ln b hscr j2 j3 σ h K
  · skip
    refine ww_iload_n 264 X dL_law_263 rfl rfl ?_
    refine ww_bipush (v := 12) 266 X dL_law_264 rfl (by decide) ?_
    refine ww_irem 267 X dL_law_266 rfl (by decide) ?_
    refine ww_bipush (v := 7) 269 X dL_law_267 rfl (by decide) ?_
    refine ww_icmp_ne 317 272 X dL_law_269 (by decide) rfl h (fun h => ?_) (fun h => ?_)
    · skip
      refine ww_iload 274 X dL_law_272 rfl rfl ?_
      refine ww_iconst (v := 2) 275 X dL_law_274 rfl (by decide) ?_
      obtain ⟨x11, hx11, h⟩ := hb_bind_of h
      refine ww_callS (rest := []) (st' := [.int x11]) 278 X (ct_L_low (hb_l Γ) G j5 2 σ hx11) cw_L_35 rfl ⟨by decide, by decide⟩ (Nat.le_of_ble_eq_true rfl) rfl rfl dL_law_275 rfl ?_
      refine ww_if_ne 288 281 X dL_law_278 (by decide) rfl h (fun h => ?_) (fun h => ?_)
      · skip
        refine ww_aload_n 282 X dL_law_281 rfl rfl ?_
        obtain ⟨x14, hx14, h⟩ := hb_bind_of h
        refine ww_callV (ci := 5) (rest := []) (st' := [.int x14.1]) 285 X (ct_X5_restore (hb_l Γ) G 0 hc_is0 σ hx14) cw_L_105 rfl (by decide) hc_is0 rfl ⟨by decide, by decide⟩ (Nat.le_of_ble_eq_true rfl) rfl rfl dL_law_282 rfl ?_
        refine ww_goto 292 X dL_law_285 (by decide) ?_
        refine ww_kill [2, 5] (L' := [some (.ref b), some (.ref (G.2.2.2 0)), none, some (.int j3), none, none, none, none, none, none, none]) rfl ?_
        exact jw_L_law_292 X xs ln b hscr j3 x14.1 x14.2 h K
      · skip
        refine ww_aload_n 289 X dL_law_288 rfl rfl ?_
        obtain ⟨x12, hx12, h⟩ := hb_bind_of h
        refine ww_callV (ci := 5) (rest := []) (st' := [.int x12.1]) 292 X (ct_X5_keep (hb_l Γ) G 0 hc_is0 σ hx12) cw_L_119 rfl (by decide) hc_is0 rfl ⟨by decide, by decide⟩ (Nat.le_of_ble_eq_true rfl) rfl rfl dL_law_289 rfl ?_
        refine ww_kill [2, 5] (L' := [some (.ref b), some (.ref (G.2.2.2 0)), none, some (.int j3), none, none, none, none, none, none, none]) rfl ?_
        exact jw_L_law_292 X xs ln b hscr j3 x12.1 x12.2 h K
    · skip
      refine ww_kill [5] (L' := [some (.ref b), some (.ref (G.2.2.2 0)), some (.int j2), some (.int j3), none, none, none, none, none, none, none]) rfl ?_
      exact jw_L_law_317 X xs ln b hscr j2 j3 σ h K
def jn_L_law_258 (xs : Nat → Int32) (ln : Nat) (b : Nat) (j3 : Int32) (j5 : Int32) (s0 : Int32) (σ : hb_Mem) : Option ((Int32 × Int32 × hb_Mem) ⊕ (Int32 × hb_Mem)) :=
jn_L_law_259 xs ln b s0 j3 j5 σ
set_option maxRecDepth 100000 in
set_option maxHeartbeats 4000000 in
theorem jw_L_law_258 {Γ : hb_Ctx} {G : hb_Gam} {Q : State → Prop} (X : hb_X Γ cL_law 11 RL ΛC G 10 243)  (xs : Nat → Int32) (ln : Nat) (b : Nat) (hscr : hl_scr Γ G b ln xs) (j3 : Int32) (j5 : Int32) (s0 : Int32) (σ : hb_Mem) {x : ((Int32 × Int32 × hb_Mem) ⊕ (Int32 × hb_Mem))} (h : jn_L_law_258 xs ln b j3 j5 s0 σ = some x) (K : Sum.elim (fun s : (Int32 × Int32 × hb_Mem) => hb_W Γ ΛC G 11 Q s.2.2 [some (.ref b), some (.ref (G.2.2.2 0)), some (.int s.1), some (.int s.2.1), none, none, none, none, none, none, none] [] 49) (fun t : (Int32 × hb_Mem) => hb_W Γ ΛC G 11 Q t.2 [none, some (.ref (G.2.2.2 0)), some (.int t.1), none, none, none, none, none, none, none, none] [] 371) x) : hb_W Γ ΛC G 11 Q σ [some (.ref b), some (.ref (G.2.2.2 0)), none, some (.int j3), none, some (.int j5), none, none, none, none, none] [.int s0] 258 := by
  unfold jn_L_law_258 at h
  refine ww_istore_n 259 X (L' := [some (.ref b), some (.ref (G.2.2.2 0)), some (.int s0), some (.int j3), none, some (.int j5), none, none, none, none, none]) dL_law_258 rfl (Nat.le_of_ble_eq_true rfl) rfl rfl ?_
  exact jw_L_law_259 X xs ln b hscr s0 j3 j5 σ h K
def jn_L_law_257 (xs : Nat → Int32) (ln : Nat) (b : Nat) (j3 : Int32) (j5 : Int32) (σ : hb_Mem) : Option ((Int32 × Int32 × hb_Mem) ⊕ (Int32 × hb_Mem)) :=
jn_L_law_258 xs ln b j3 j5 0 σ
set_option maxRecDepth 100000 in
set_option maxHeartbeats 4000000 in
theorem jw_L_law_257 {Γ : hb_Ctx} {G : hb_Gam} {Q : State → Prop} (X : hb_X Γ cL_law 11 RL ΛC G 10 243)  (xs : Nat → Int32) (ln : Nat) (b : Nat) (hscr : hl_scr Γ G b ln xs) (j3 : Int32) (j5 : Int32) (σ : hb_Mem) {x : ((Int32 × Int32 × hb_Mem) ⊕ (Int32 × hb_Mem))} (h : jn_L_law_257 xs ln b j3 j5 σ = some x) (K : Sum.elim (fun s : (Int32 × Int32 × hb_Mem) => hb_W Γ ΛC G 11 Q s.2.2 [some (.ref b), some (.ref (G.2.2.2 0)), some (.int s.1), some (.int s.2.1), none, none, none, none, none, none, none] [] 49) (fun t : (Int32 × hb_Mem) => hb_W Γ ΛC G 11 Q t.2 [none, some (.ref (G.2.2.2 0)), some (.int t.1), none, none, none, none, none, none, none, none] [] 371) x) : hb_W Γ ΛC G 11 Q σ [some (.ref b), some (.ref (G.2.2.2 0)), none, some (.int j3), none, some (.int j5), none, none, none, none, none] [] 257 := by
  unfold jn_L_law_257 at h
  refine ww_iconst (v := 0) 258 X dL_law_257 rfl (by decide) ?_
  exact jw_L_law_258 X xs ln b hscr j3 j5 0 σ h K
def jn_L_law_208 (xs : Nat → Int32) (ln : Nat) (b : Nat) (j3 : Int32) (j5 : Int32) (j6 : Int64) (j8 : Int32) (j9 : Int32) (s0 : Int32) (σ : hb_Mem) : Option ((Int32 × Int32 × hb_Mem) ⊕ (Int32 × hb_Mem)) :=
if s0 = 0 then (
jn_L_law_259 xs ln b s0 j3 j5 σ)
else (
if j9 = (j8 + 1) then (
(fn_L_low (j5 >>> (8 &&& 31)) 3).bind fun x15 =>
if x15 = 0 then (
(fn_X5_undo 0 σ).bind fun x16 =>
if x16.1 = j8 then (
(fn_L_digest 0 x16.2).bind fun x17 =>
if (lg_cmp x17.1 j6) = 0 then (
jn_L_law_258 xs ln b j3 j5 1 x17.2)
else (
jn_L_law_257 xs ln b j3 j5 x17.2))
else (
jn_L_law_257 xs ln b j3 j5 x16.2))
else (
jn_L_law_259 xs ln b s0 j3 j5 σ))
else (
jn_L_law_259 xs ln b s0 j3 j5 σ))
set_option maxRecDepth 100000 in
set_option maxHeartbeats 4000000 in
theorem jw_L_law_208 {Γ : hb_Ctx} {G : hb_Gam} {Q : State → Prop} (X : hb_X Γ cL_law 11 RL ΛC G 10 243)  (xs : Nat → Int32) (ln : Nat) (b : Nat) (hscr : hl_scr Γ G b ln xs) (j3 : Int32) (j5 : Int32) (j6 : Int64) (j8 : Int32) (j9 : Int32) (s0 : Int32) (σ : hb_Mem) {x : ((Int32 × Int32 × hb_Mem) ⊕ (Int32 × hb_Mem))} (h : jn_L_law_208 xs ln b j3 j5 j6 j8 j9 s0 σ = some x) (K : Sum.elim (fun s : (Int32 × Int32 × hb_Mem) => hb_W Γ ΛC G 11 Q s.2.2 [some (.ref b), some (.ref (G.2.2.2 0)), some (.int s.1), some (.int s.2.1), none, none, none, none, none, none, none] [] 49) (fun t : (Int32 × hb_Mem) => hb_W Γ ΛC G 11 Q t.2 [none, some (.ref (G.2.2.2 0)), some (.int t.1), none, none, none, none, none, none, none, none] [] 371) x) : hb_W Γ ΛC G 11 Q σ [some (.ref b), some (.ref (G.2.2.2 0)), none, some (.int j3), none, some (.int j5), some (.long j6), none, some (.int j8), some (.int j9), none] [.int s0] 208 := by
  unfold jn_L_law_208 at h
  refine ww_istore_n 209 X (L' := [some (.ref b), some (.ref (G.2.2.2 0)), some (.int s0), some (.int j3), none, some (.int j5), some (.long j6), none, some (.int j8), some (.int j9), none]) dL_law_208 rfl (Nat.le_of_ble_eq_true rfl) rfl rfl ?_
  refine ww_iload_n 210 X dL_law_209 rfl rfl ?_
  refine ww_if_eq 259 213 X dL_law_210 (by decide) rfl h (fun h => ?_) (fun h => ?_)
  · skip
    refine ww_kill [6, 8, 9] (L' := [some (.ref b), some (.ref (G.2.2.2 0)), some (.int s0), some (.int j3), none, some (.int j5), none, none, none, none, none]) rfl ?_
    exact jw_L_law_259 X xs ln b hscr s0 j3 j5 σ h K
  · skip
    refine ww_iload 215 X dL_law_213 rfl rfl ?_
    refine ww_iload 217 X dL_law_215 rfl rfl ?_
    refine ww_iconst (v := 1) 218 X dL_law_217 rfl (by decide) ?_
    refine ww_iadd 219 X dL_law_218 rfl ?_
    refine ww_icmp_ne 259 222 X dL_law_219 (by decide) rfl h (fun h => ?_) (fun h => ?_)
    · skip
      refine ww_iload 224 X dL_law_222 rfl rfl ?_
      refine ww_bipush (v := 8) 226 X dL_law_224 rfl (by decide) ?_
      refine ww_ishr 227 X dL_law_226 rfl ?_
      refine ww_iconst (v := 3) 228 X dL_law_227 rfl (by decide) ?_
      obtain ⟨x15, hx15, h⟩ := hb_bind_of h
      refine ww_callS (rest := []) (st' := [.int x15]) 231 X (ct_L_low (hb_l Γ) G (j5 >>> (8 &&& 31)) 3 σ hx15) cw_L_35 rfl ⟨by decide, by decide⟩ (Nat.le_of_ble_eq_true rfl) rfl rfl dL_law_228 rfl ?_
      refine ww_if_ne 259 234 X dL_law_231 (by decide) rfl h (fun h => ?_) (fun h => ?_)
      · skip
        refine ww_aload_n 235 X dL_law_234 rfl rfl ?_
        obtain ⟨x16, hx16, h⟩ := hb_bind_of h
        refine ww_callV (ci := 5) (rest := []) (st' := [.int x16.1]) 238 X (ct_X5_undo (hb_l Γ) G 0 hc_is0 σ hx16) cw_L_102 rfl (by decide) hc_is0 rfl ⟨by decide, by decide⟩ (Nat.le_of_ble_eq_true rfl) rfl rfl dL_law_235 rfl ?_
        refine ww_iload 240 X dL_law_238 rfl rfl ?_
        refine ww_icmp_ne 257 243 X dL_law_240 (by decide) rfl h (fun h => ?_) (fun h => ?_)
        · skip
          refine ww_aload_n 244 X dL_law_243 rfl rfl ?_
          obtain ⟨x17, hx17, h⟩ := hb_bind_of h
          refine ww_callS (rest := []) (st' := [.long x17.1]) 247 X (ct_L_digest (hb_l Γ) G 0 hc_is0 x16.2 hx17) cw_L_112 rfl ⟨by decide, by decide⟩ (Nat.le_of_ble_eq_true rfl) rfl rfl dL_law_244 rfl ?_
          refine ww_lload 249 X dL_law_247 rfl rfl ?_
          refine ww_lcmp 250 X dL_law_249 rfl ?_
          refine ww_if_ne 257 253 X dL_law_250 (by decide) rfl h (fun h => ?_) (fun h => ?_)
          · skip
            refine ww_iconst (v := 1) 254 X dL_law_253 rfl (by decide) ?_
            refine ww_goto 258 X dL_law_254 (by decide) ?_
            refine ww_kill [2, 6, 8, 9] (L' := [some (.ref b), some (.ref (G.2.2.2 0)), none, some (.int j3), none, some (.int j5), none, none, none, none, none]) rfl ?_
            exact jw_L_law_258 X xs ln b hscr j3 j5 1 x17.2 h K
          · skip
            refine ww_kill [2, 6, 8, 9] (L' := [some (.ref b), some (.ref (G.2.2.2 0)), none, some (.int j3), none, some (.int j5), none, none, none, none, none]) rfl ?_
            exact jw_L_law_257 X xs ln b hscr j3 j5 x17.2 h K
        · skip
          refine ww_kill [2, 6, 8, 9] (L' := [some (.ref b), some (.ref (G.2.2.2 0)), none, some (.int j3), none, some (.int j5), none, none, none, none, none]) rfl ?_
          exact jw_L_law_257 X xs ln b hscr j3 j5 x16.2 h K
      · skip
        refine ww_kill [6, 8, 9] (L' := [some (.ref b), some (.ref (G.2.2.2 0)), some (.int s0), some (.int j3), none, some (.int j5), none, none, none, none, none]) rfl ?_
        exact jw_L_law_259 X xs ln b hscr s0 j3 j5 σ h K
    · skip
      refine ww_kill [6, 8, 9] (L' := [some (.ref b), some (.ref (G.2.2.2 0)), some (.int s0), some (.int j3), none, some (.int j5), none, none, none, none, none]) rfl ?_
      exact jw_L_law_259 X xs ln b hscr s0 j3 j5 σ h K
def jn_L_law_207 (xs : Nat → Int32) (ln : Nat) (b : Nat) (j3 : Int32) (j5 : Int32) (j6 : Int64) (j8 : Int32) (j9 : Int32) (σ : hb_Mem) : Option ((Int32 × Int32 × hb_Mem) ⊕ (Int32 × hb_Mem)) :=
jn_L_law_208 xs ln b j3 j5 j6 j8 j9 0 σ
set_option maxRecDepth 100000 in
set_option maxHeartbeats 4000000 in
theorem jw_L_law_207 {Γ : hb_Ctx} {G : hb_Gam} {Q : State → Prop} (X : hb_X Γ cL_law 11 RL ΛC G 10 243)  (xs : Nat → Int32) (ln : Nat) (b : Nat) (hscr : hl_scr Γ G b ln xs) (j3 : Int32) (j5 : Int32) (j6 : Int64) (j8 : Int32) (j9 : Int32) (σ : hb_Mem) {x : ((Int32 × Int32 × hb_Mem) ⊕ (Int32 × hb_Mem))} (h : jn_L_law_207 xs ln b j3 j5 j6 j8 j9 σ = some x) (K : Sum.elim (fun s : (Int32 × Int32 × hb_Mem) => hb_W Γ ΛC G 11 Q s.2.2 [some (.ref b), some (.ref (G.2.2.2 0)), some (.int s.1), some (.int s.2.1), none, none, none, none, none, none, none] [] 49) (fun t : (Int32 × hb_Mem) => hb_W Γ ΛC G 11 Q t.2 [none, some (.ref (G.2.2.2 0)), some (.int t.1), none, none, none, none, none, none, none, none] [] 371) x) : hb_W Γ ΛC G 11 Q σ [some (.ref b), some (.ref (G.2.2.2 0)), none, some (.int j3), none, some (.int j5), some (.long j6), none, some (.int j8), some (.int j9), none] [] 207 := by
  unfold jn_L_law_207 at h
  refine ww_iconst (v := 0) 208 X dL_law_207 rfl (by decide) ?_
  exact jw_L_law_208 X xs ln b hscr j3 j5 j6 j8 j9 0 σ h K
def jn_L_law_203 (xs : Nat → Int32) (ln : Nat) (b : Nat) (j3 : Int32) (j5 : Int32) (j6 : Int64) (j8 : Int32) (j9 : Int32) (σ : hb_Mem) : Option ((Int32 × Int32 × hb_Mem) ⊕ (Int32 × hb_Mem)) :=
jn_L_law_208 xs ln b j3 j5 j6 j8 j9 1 σ
set_option maxRecDepth 100000 in
set_option maxHeartbeats 4000000 in
theorem jw_L_law_203 {Γ : hb_Ctx} {G : hb_Gam} {Q : State → Prop} (X : hb_X Γ cL_law 11 RL ΛC G 10 243)  (xs : Nat → Int32) (ln : Nat) (b : Nat) (hscr : hl_scr Γ G b ln xs) (j3 : Int32) (j5 : Int32) (j6 : Int64) (j8 : Int32) (j9 : Int32) (σ : hb_Mem) {x : ((Int32 × Int32 × hb_Mem) ⊕ (Int32 × hb_Mem))} (h : jn_L_law_203 xs ln b j3 j5 j6 j8 j9 σ = some x) (K : Sum.elim (fun s : (Int32 × Int32 × hb_Mem) => hb_W Γ ΛC G 11 Q s.2.2 [some (.ref b), some (.ref (G.2.2.2 0)), some (.int s.1), some (.int s.2.1), none, none, none, none, none, none, none] [] 49) (fun t : (Int32 × hb_Mem) => hb_W Γ ΛC G 11 Q t.2 [none, some (.ref (G.2.2.2 0)), some (.int t.1), none, none, none, none, none, none, none, none] [] 371) x) : hb_W Γ ΛC G 11 Q σ [some (.ref b), some (.ref (G.2.2.2 0)), none, some (.int j3), none, some (.int j5), some (.long j6), none, some (.int j8), some (.int j9), none] [] 203 := by
  unfold jn_L_law_203 at h
  refine ww_iconst (v := 1) 204 X dL_law_203 rfl (by decide) ?_
  refine ww_goto 208 X dL_law_204 (by decide) ?_
  exact jw_L_law_208 X xs ln b hscr j3 j5 j6 j8 j9 1 σ h K
def jn_L_law_194 (xs : Nat → Int32) (ln : Nat) (b : Nat) (j3 : Int32) (j5 : Int32) (j6 : Int64) (j8 : Int32) (j9 : Int32) (σ : hb_Mem) : Option ((Int32 × Int32 × hb_Mem) ⊕ (Int32 × hb_Mem)) :=
if j9 = (j8 + 1) then (
jn_L_law_203 xs ln b j3 j5 j6 j8 j9 σ)
else (
jn_L_law_207 xs ln b j3 j5 j6 j8 j9 σ)
set_option maxRecDepth 100000 in
set_option maxHeartbeats 4000000 in
theorem jw_L_law_194 {Γ : hb_Ctx} {G : hb_Gam} {Q : State → Prop} (X : hb_X Γ cL_law 11 RL ΛC G 10 243)  (xs : Nat → Int32) (ln : Nat) (b : Nat) (hscr : hl_scr Γ G b ln xs) (j3 : Int32) (j5 : Int32) (j6 : Int64) (j8 : Int32) (j9 : Int32) (σ : hb_Mem) {x : ((Int32 × Int32 × hb_Mem) ⊕ (Int32 × hb_Mem))} (h : jn_L_law_194 xs ln b j3 j5 j6 j8 j9 σ = some x) (K : Sum.elim (fun s : (Int32 × Int32 × hb_Mem) => hb_W Γ ΛC G 11 Q s.2.2 [some (.ref b), some (.ref (G.2.2.2 0)), some (.int s.1), some (.int s.2.1), none, none, none, none, none, none, none] [] 49) (fun t : (Int32 × hb_Mem) => hb_W Γ ΛC G 11 Q t.2 [none, some (.ref (G.2.2.2 0)), some (.int t.1), none, none, none, none, none, none, none, none] [] 371) x) : hb_W Γ ΛC G 11 Q σ [some (.ref b), some (.ref (G.2.2.2 0)), none, some (.int j3), none, some (.int j5), some (.long j6), none, some (.int j8), some (.int j9), none] [] 194 := by
  unfold jn_L_law_194 at h
  refine ww_iload 196 X dL_law_194 rfl rfl ?_
  refine ww_iload 198 X dL_law_196 rfl rfl ?_
  refine ww_iconst (v := 1) 199 X dL_law_198 rfl (by decide) ?_
  refine ww_iadd 200 X dL_law_199 rfl ?_
  refine ww_icmp_ne 207 203 X dL_law_200 (by decide) rfl h (fun h => ?_) (fun h => ?_)
  · skip
    exact jw_L_law_203 X xs ln b hscr j3 j5 j6 j8 j9 σ h K
  · skip
    exact jw_L_law_207 X xs ln b hscr j3 j5 j6 j8 j9 σ h K
def jn_L_law_158 (xs : Nat → Int32) (ln : Nat) (b : Nat) (j3 : Int32) (j5 : Int32) (j6 : Int64) (j8 : Int32) (s0 : Int32) (σ : hb_Mem) : Option ((Int32 × Int32 × hb_Mem) ⊕ (Int32 × hb_Mem)) :=
(fn_X5_count 0 10 σ).bind fun x7 =>
if s0 = 0 then (
jn_L_law_207 xs ln b j3 j5 j6 j8 x7.1 x7.2)
else (
if x7.1 = j8 then (
if j8 = 4 then (
jn_L_law_203 xs ln b j3 j5 j6 j8 x7.1 x7.2)
else (
(fn_L_digest 0 x7.2).bind fun x18 =>
if (lg_cmp x18.1 j6) = 0 then (
jn_L_law_203 xs ln b j3 j5 j6 j8 x7.1 x18.2)
else (
jn_L_law_194 xs ln b j3 j5 j6 j8 x7.1 x18.2)))
else (
jn_L_law_194 xs ln b j3 j5 j6 j8 x7.1 x7.2))
set_option maxRecDepth 100000 in
set_option maxHeartbeats 4000000 in
theorem jw_L_law_158 {Γ : hb_Ctx} {G : hb_Gam} {Q : State → Prop} (X : hb_X Γ cL_law 11 RL ΛC G 10 243)  (xs : Nat → Int32) (ln : Nat) (b : Nat) (hscr : hl_scr Γ G b ln xs) (j3 : Int32) (j5 : Int32) (j6 : Int64) (j8 : Int32) (s0 : Int32) (σ : hb_Mem) {x : ((Int32 × Int32 × hb_Mem) ⊕ (Int32 × hb_Mem))} (h : jn_L_law_158 xs ln b j3 j5 j6 j8 s0 σ = some x) (K : Sum.elim (fun s : (Int32 × Int32 × hb_Mem) => hb_W Γ ΛC G 11 Q s.2.2 [some (.ref b), some (.ref (G.2.2.2 0)), some (.int s.1), some (.int s.2.1), none, none, none, none, none, none, none] [] 49) (fun t : (Int32 × hb_Mem) => hb_W Γ ΛC G 11 Q t.2 [none, some (.ref (G.2.2.2 0)), some (.int t.1), none, none, none, none, none, none, none, none] [] 371) x) : hb_W Γ ΛC G 11 Q σ [some (.ref b), some (.ref (G.2.2.2 0)), none, some (.int j3), none, some (.int j5), some (.long j6), none, some (.int j8), none, none] [.int s0] 158 := by
  unfold jn_L_law_158 at h
  refine ww_istore_n 159 X (L' := [some (.ref b), some (.ref (G.2.2.2 0)), some (.int s0), some (.int j3), none, some (.int j5), some (.long j6), none, some (.int j8), none, none]) dL_law_158 rfl (Nat.le_of_ble_eq_true rfl) rfl rfl ?_
  refine ww_aload_n 160 X dL_law_159 rfl rfl ?_
  refine ww_bipush (v := 10) 162 X dL_law_160 rfl (by decide) ?_
  obtain ⟨x7, hx7, h⟩ := hb_bind_of h
  refine ww_callV (ci := 5) (rest := []) (st' := [.int x7.1]) 165 X (ct_X5_count (hb_l Γ) G 0 hc_is0 10 σ hx7) cw_L_11 rfl (by decide) hc_is0 rfl ⟨by decide, by decide⟩ (Nat.le_of_ble_eq_true rfl) rfl rfl dL_law_162 rfl ?_
  refine ww_istore 167 X (L' := [some (.ref b), some (.ref (G.2.2.2 0)), some (.int s0), some (.int j3), none, some (.int j5), some (.long j6), none, some (.int j8), some (.int x7.1), none]) dL_law_165 rfl (Nat.le_of_ble_eq_true rfl) rfl rfl ?_
  refine ww_iload_n 168 X dL_law_167 rfl rfl ?_
  refine ww_if_eq 207 171 X dL_law_168 (by decide) rfl h (fun h => ?_) (fun h => ?_)
  · skip
    refine ww_kill [2] (L' := [some (.ref b), some (.ref (G.2.2.2 0)), none, some (.int j3), none, some (.int j5), some (.long j6), none, some (.int j8), some (.int x7.1), none]) rfl ?_
    exact jw_L_law_207 X xs ln b hscr j3 j5 j6 j8 x7.1 x7.2 h K
  · skip
    refine ww_iload 173 X dL_law_171 rfl rfl ?_
    refine ww_iload 175 X dL_law_173 rfl rfl ?_
    refine ww_icmp_ne 194 178 X dL_law_175 (by decide) rfl h (fun h => ?_) (fun h => ?_)
    · skip
      refine ww_iload 180 X dL_law_178 rfl rfl ?_
      refine ww_iconst (v := 4) 181 X dL_law_180 rfl (by decide) ?_
      refine ww_icmp_eq 203 184 X dL_law_181 (by decide) rfl h (fun h => ?_) (fun h => ?_)
      · skip
        refine ww_kill [2] (L' := [some (.ref b), some (.ref (G.2.2.2 0)), none, some (.int j3), none, some (.int j5), some (.long j6), none, some (.int j8), some (.int x7.1), none]) rfl ?_
        exact jw_L_law_203 X xs ln b hscr j3 j5 j6 j8 x7.1 x7.2 h K
      · skip
        refine ww_aload_n 185 X dL_law_184 rfl rfl ?_
        obtain ⟨x18, hx18, h⟩ := hb_bind_of h
        refine ww_callS (rest := []) (st' := [.long x18.1]) 188 X (ct_L_digest (hb_l Γ) G 0 hc_is0 x7.2 hx18) cw_L_112 rfl ⟨by decide, by decide⟩ (Nat.le_of_ble_eq_true rfl) rfl rfl dL_law_185 rfl ?_
        refine ww_lload 190 X dL_law_188 rfl rfl ?_
        refine ww_lcmp 191 X dL_law_190 rfl ?_
        refine ww_if_eq 203 194 X dL_law_191 (by decide) rfl h (fun h => ?_) (fun h => ?_)
        · skip
          refine ww_kill [2] (L' := [some (.ref b), some (.ref (G.2.2.2 0)), none, some (.int j3), none, some (.int j5), some (.long j6), none, some (.int j8), some (.int x7.1), none]) rfl ?_
          exact jw_L_law_203 X xs ln b hscr j3 j5 j6 j8 x7.1 x18.2 h K
        · skip
          refine ww_kill [2] (L' := [some (.ref b), some (.ref (G.2.2.2 0)), none, some (.int j3), none, some (.int j5), some (.long j6), none, some (.int j8), some (.int x7.1), none]) rfl ?_
          exact jw_L_law_194 X xs ln b hscr j3 j5 j6 j8 x7.1 x18.2 h K
    · skip
      refine ww_kill [2] (L' := [some (.ref b), some (.ref (G.2.2.2 0)), none, some (.int j3), none, some (.int j5), some (.long j6), none, some (.int j8), some (.int x7.1), none]) rfl ?_
      exact jw_L_law_194 X xs ln b hscr j3 j5 j6 j8 x7.1 x7.2 h K
def jn_L_law_157 (xs : Nat → Int32) (ln : Nat) (b : Nat) (j3 : Int32) (j5 : Int32) (j6 : Int64) (j8 : Int32) (σ : hb_Mem) : Option ((Int32 × Int32 × hb_Mem) ⊕ (Int32 × hb_Mem)) :=
jn_L_law_158 xs ln b j3 j5 j6 j8 0 σ
set_option maxRecDepth 100000 in
set_option maxHeartbeats 4000000 in
theorem jw_L_law_157 {Γ : hb_Ctx} {G : hb_Gam} {Q : State → Prop} (X : hb_X Γ cL_law 11 RL ΛC G 10 243)  (xs : Nat → Int32) (ln : Nat) (b : Nat) (hscr : hl_scr Γ G b ln xs) (j3 : Int32) (j5 : Int32) (j6 : Int64) (j8 : Int32) (σ : hb_Mem) {x : ((Int32 × Int32 × hb_Mem) ⊕ (Int32 × hb_Mem))} (h : jn_L_law_157 xs ln b j3 j5 j6 j8 σ = some x) (K : Sum.elim (fun s : (Int32 × Int32 × hb_Mem) => hb_W Γ ΛC G 11 Q s.2.2 [some (.ref b), some (.ref (G.2.2.2 0)), some (.int s.1), some (.int s.2.1), none, none, none, none, none, none, none] [] 49) (fun t : (Int32 × hb_Mem) => hb_W Γ ΛC G 11 Q t.2 [none, some (.ref (G.2.2.2 0)), some (.int t.1), none, none, none, none, none, none, none, none] [] 371) x) : hb_W Γ ΛC G 11 Q σ [some (.ref b), some (.ref (G.2.2.2 0)), none, some (.int j3), none, some (.int j5), some (.long j6), none, some (.int j8), none, none] [] 157 := by
  unfold jn_L_law_157 at h
  refine ww_iconst (v := 0) 158 X dL_law_157 rfl (by decide) ?_
  exact jw_L_law_158 X xs ln b hscr j3 j5 j6 j8 0 σ h K
def jn_L_law_153 (xs : Nat → Int32) (ln : Nat) (b : Nat) (j3 : Int32) (j5 : Int32) (j6 : Int64) (j8 : Int32) (σ : hb_Mem) : Option ((Int32 × Int32 × hb_Mem) ⊕ (Int32 × hb_Mem)) :=
jn_L_law_158 xs ln b j3 j5 j6 j8 1 σ
set_option maxRecDepth 100000 in
set_option maxHeartbeats 4000000 in
theorem jw_L_law_153 {Γ : hb_Ctx} {G : hb_Gam} {Q : State → Prop} (X : hb_X Γ cL_law 11 RL ΛC G 10 243)  (xs : Nat → Int32) (ln : Nat) (b : Nat) (hscr : hl_scr Γ G b ln xs) (j3 : Int32) (j5 : Int32) (j6 : Int64) (j8 : Int32) (σ : hb_Mem) {x : ((Int32 × Int32 × hb_Mem) ⊕ (Int32 × hb_Mem))} (h : jn_L_law_153 xs ln b j3 j5 j6 j8 σ = some x) (K : Sum.elim (fun s : (Int32 × Int32 × hb_Mem) => hb_W Γ ΛC G 11 Q s.2.2 [some (.ref b), some (.ref (G.2.2.2 0)), some (.int s.1), some (.int s.2.1), none, none, none, none, none, none, none] [] 49) (fun t : (Int32 × hb_Mem) => hb_W Γ ΛC G 11 Q t.2 [none, some (.ref (G.2.2.2 0)), some (.int t.1), none, none, none, none, none, none, none, none] [] 371) x) : hb_W Γ ΛC G 11 Q σ [some (.ref b), some (.ref (G.2.2.2 0)), none, some (.int j3), none, some (.int j5), some (.long j6), none, some (.int j8), none, none] [] 153 := by
  unfold jn_L_law_153 at h
  refine ww_iconst (v := 1) 154 X dL_law_153 rfl (by decide) ?_
  refine ww_goto 158 X dL_law_154 (by decide) ?_
  exact jw_L_law_158 X xs ln b hscr j3 j5 j6 j8 1 σ h K
def jn_L_law_136 (xs : Nat → Int32) (ln : Nat) (b : Nat) (j3 : Int32) (j5 : Int32) (j6 : Int64) (j8 : Int32) (σ : hb_Mem) : Option ((Int32 × Int32 × hb_Mem) ⊕ (Int32 × hb_Mem)) :=
if (j3 - j3 / 8 * 8) = 5 then (
(fn_L_would 0 j5 σ).bind fun x19 =>
if x19.1 = 0 then (
jn_L_law_157 xs ln b j3 j5 j6 j8 x19.2)
else (
jn_L_law_153 xs ln b j3 j5 j6 j8 x19.2))
else (
jn_L_law_153 xs ln b j3 j5 j6 j8 σ)
set_option maxRecDepth 100000 in
set_option maxHeartbeats 4000000 in
theorem jw_L_law_136 {Γ : hb_Ctx} {G : hb_Gam} {Q : State → Prop} (X : hb_X Γ cL_law 11 RL ΛC G 10 243)  (xs : Nat → Int32) (ln : Nat) (b : Nat) (hscr : hl_scr Γ G b ln xs) (j3 : Int32) (j5 : Int32) (j6 : Int64) (j8 : Int32) (σ : hb_Mem) {x : ((Int32 × Int32 × hb_Mem) ⊕ (Int32 × hb_Mem))} (h : jn_L_law_136 xs ln b j3 j5 j6 j8 σ = some x) (K : Sum.elim (fun s : (Int32 × Int32 × hb_Mem) => hb_W Γ ΛC G 11 Q s.2.2 [some (.ref b), some (.ref (G.2.2.2 0)), some (.int s.1), some (.int s.2.1), none, none, none, none, none, none, none] [] 49) (fun t : (Int32 × hb_Mem) => hb_W Γ ΛC G 11 Q t.2 [none, some (.ref (G.2.2.2 0)), some (.int t.1), none, none, none, none, none, none, none, none] [] 371) x) : hb_W Γ ΛC G 11 Q σ [some (.ref b), some (.ref (G.2.2.2 0)), none, some (.int j3), none, some (.int j5), some (.long j6), none, some (.int j8), none, none] [] 136 := by
  unfold jn_L_law_136 at h
  refine ww_iload_n 137 X dL_law_136 rfl rfl ?_
  refine ww_bipush (v := 8) 139 X dL_law_137 rfl (by decide) ?_
  refine ww_irem 140 X dL_law_139 rfl (by decide) ?_
  refine ww_iconst (v := 5) 141 X dL_law_140 rfl (by decide) ?_
  refine ww_icmp_ne 153 144 X dL_law_141 (by decide) rfl h (fun h => ?_) (fun h => ?_)
  · skip
    refine ww_aload_n 145 X dL_law_144 rfl rfl ?_
    refine ww_iload 147 X dL_law_145 rfl rfl ?_
    obtain ⟨x19, hx19, h⟩ := hb_bind_of h
    refine ww_callS (rest := []) (st' := [.int x19.1]) 150 X (ct_L_would (hb_l Γ) G 0 hc_is0 j5 σ hx19) cw_L_99 rfl ⟨by decide, by decide⟩ (Nat.le_of_ble_eq_true rfl) rfl rfl dL_law_147 rfl ?_
    refine ww_if_eq 157 153 X dL_law_150 (by decide) rfl h (fun h => ?_) (fun h => ?_)
    · skip
      exact jw_L_law_157 X xs ln b hscr j3 j5 j6 j8 x19.2 h K
    · skip
      exact jw_L_law_153 X xs ln b hscr j3 j5 j6 j8 x19.2 h K
  · skip
    exact jw_L_law_153 X xs ln b hscr j3 j5 j6 j8 σ h K
def jn_L_law_85 (xs : Nat → Int32) (ln : Nat) (b : Nat) (j3 : Int32) (s0 : Int32) (σ : hb_Mem) : Option ((Int32 × Int32 × hb_Mem) ⊕ (Int32 × hb_Mem)) :=
(hl_lot xs ln (((2 : Int32) * j3) + 1)).bind fun x3 =>
(fn_L_digest 0 σ).bind fun x4 =>
(fn_X5_count 0 10 x4.2).bind fun x5 =>
(fn_L_acts 0 s0 x3 x5.2).bind fun x6 =>
if x6.1 = 0 then (
jn_L_law_157 xs ln b j3 x3 x4.1 x5.1 x6.2)
else (
if 0 < (j3 - j3 / 3 * 3) then (
jn_L_law_136 xs ln b j3 x3 x4.1 x5.1 x6.2)
else (
(fn_L_holds 0 x6.2).bind fun x20 =>
if x20.1 = 0 then (
jn_L_law_157 xs ln b j3 x3 x4.1 x5.1 x20.2)
else (
jn_L_law_136 xs ln b j3 x3 x4.1 x5.1 x20.2)))
set_option maxRecDepth 100000 in
set_option maxHeartbeats 4000000 in
theorem jw_L_law_85 {Γ : hb_Ctx} {G : hb_Gam} {Q : State → Prop} (X : hb_X Γ cL_law 11 RL ΛC G 10 243)  (xs : Nat → Int32) (ln : Nat) (b : Nat) (hscr : hl_scr Γ G b ln xs) (j3 : Int32) (s0 : Int32) (σ : hb_Mem) {x : ((Int32 × Int32 × hb_Mem) ⊕ (Int32 × hb_Mem))} (h : jn_L_law_85 xs ln b j3 s0 σ = some x) (K : Sum.elim (fun s : (Int32 × Int32 × hb_Mem) => hb_W Γ ΛC G 11 Q s.2.2 [some (.ref b), some (.ref (G.2.2.2 0)), some (.int s.1), some (.int s.2.1), none, none, none, none, none, none, none] [] 49) (fun t : (Int32 × hb_Mem) => hb_W Γ ΛC G 11 Q t.2 [none, some (.ref (G.2.2.2 0)), some (.int t.1), none, none, none, none, none, none, none, none] [] 371) x) : hb_W Γ ΛC G 11 Q σ [some (.ref b), some (.ref (G.2.2.2 0)), none, some (.int j3), none, none, none, none, none, none, none] [.int s0] 85 := by
  unfold jn_L_law_85 at h
  refine ww_istore 87 X (L' := [some (.ref b), some (.ref (G.2.2.2 0)), none, some (.int j3), some (.int s0), none, none, none, none, none, none]) dL_law_85 rfl (Nat.le_of_ble_eq_true rfl) rfl rfl ?_
  refine ww_aload_n 88 X dL_law_87 rfl rfl ?_
  refine ww_iconst (v := 2) 89 X dL_law_88 rfl (by decide) ?_
  refine ww_iload_n 90 X dL_law_89 rfl rfl ?_
  refine ww_imul 91 X dL_law_90 rfl ?_
  refine ww_iconst (v := 1) 92 X dL_law_91 rfl (by decide) ?_
  refine ww_iadd 93 X dL_law_92 rfl ?_
  obtain ⟨x3, hx3, h⟩ := hb_bind_of h
  refine ww_lot (rest := []) 96 X hscr hx3 cw_L_108 ⟨by decide, by decide⟩ (Nat.le_of_ble_eq_true rfl) dL_law_93 rfl ?_
  refine ww_istore 98 X (L' := [some (.ref b), some (.ref (G.2.2.2 0)), none, some (.int j3), some (.int s0), some (.int x3), none, none, none, none, none]) dL_law_96 rfl (Nat.le_of_ble_eq_true rfl) rfl rfl ?_
  refine ww_aload_n 99 X dL_law_98 rfl rfl ?_
  obtain ⟨x4, hx4, h⟩ := hb_bind_of h
  refine ww_callS (rest := []) (st' := [.long x4.1]) 102 X (ct_L_digest (hb_l Γ) G 0 hc_is0 σ hx4) cw_L_112 rfl ⟨by decide, by decide⟩ (Nat.le_of_ble_eq_true rfl) rfl rfl dL_law_99 rfl ?_
  refine ww_lstore 104 X (L' := [some (.ref b), some (.ref (G.2.2.2 0)), none, some (.int j3), some (.int s0), some (.int x3), some (.long x4.1), none, none, none, none]) dL_law_102 rfl (Nat.le_of_ble_eq_true rfl) rfl rfl ?_
  refine ww_aload_n 105 X dL_law_104 rfl rfl ?_
  refine ww_bipush (v := 10) 107 X dL_law_105 rfl (by decide) ?_
  obtain ⟨x5, hx5, h⟩ := hb_bind_of h
  refine ww_callV (ci := 5) (rest := []) (st' := [.int x5.1]) 110 X (ct_X5_count (hb_l Γ) G 0 hc_is0 10 x4.2 hx5) cw_L_11 rfl (by decide) hc_is0 rfl ⟨by decide, by decide⟩ (Nat.le_of_ble_eq_true rfl) rfl rfl dL_law_107 rfl ?_
  refine ww_istore 112 X (L' := [some (.ref b), some (.ref (G.2.2.2 0)), none, some (.int j3), some (.int s0), some (.int x3), some (.long x4.1), none, some (.int x5.1), none, none]) dL_law_110 rfl (Nat.le_of_ble_eq_true rfl) rfl rfl ?_
  refine ww_aload_n 113 X dL_law_112 rfl rfl ?_
  refine ww_iload 115 X dL_law_113 rfl rfl ?_
  refine ww_iload 117 X dL_law_115 rfl rfl ?_
  obtain ⟨x6, hx6, h⟩ := hb_bind_of h
  refine ww_callS (rest := []) (st' := [.int x6.1]) 120 X (ct_L_acts (hb_l Γ) G 0 hc_is0 s0 x3 x5.2 hx6) cw_L_116 rfl ⟨by decide, by decide⟩ (Nat.le_of_ble_eq_true rfl) rfl rfl dL_law_117 rfl ?_
  refine ww_if_eq 157 123 X dL_law_120 (by decide) rfl h (fun h => ?_) (fun h => ?_)
  · skip
    refine ww_kill [4] (L' := [some (.ref b), some (.ref (G.2.2.2 0)), none, some (.int j3), none, some (.int x3), some (.long x4.1), none, some (.int x5.1), none, none]) rfl ?_
    exact jw_L_law_157 X xs ln b hscr j3 x3 x4.1 x5.1 x6.2 h K
  · skip
    refine ww_iload_n 124 X dL_law_123 rfl rfl ?_
    refine ww_iconst (v := 3) 125 X dL_law_124 rfl (by decide) ?_
    refine ww_irem 126 X dL_law_125 rfl (by decide) ?_
    refine ww_if_gt 136 129 X dL_law_126 (by decide) rfl h (fun h => ?_) (fun h => ?_)
    · skip
      refine ww_kill [4] (L' := [some (.ref b), some (.ref (G.2.2.2 0)), none, some (.int j3), none, some (.int x3), some (.long x4.1), none, some (.int x5.1), none, none]) rfl ?_
      exact jw_L_law_136 X xs ln b hscr j3 x3 x4.1 x5.1 x6.2 h K
    · skip
      refine ww_aload_n 130 X dL_law_129 rfl rfl ?_
      obtain ⟨x20, hx20, h⟩ := hb_bind_of h
      refine ww_callS (rest := []) (st' := [.int x20.1]) 133 X (ct_L_holds (hb_l Γ) G 0 hc_is0 x6.2 hx20) cw_L_95 rfl ⟨by decide, by decide⟩ (Nat.le_of_ble_eq_true rfl) rfl rfl dL_law_130 rfl ?_
      refine ww_if_eq 157 136 X dL_law_133 (by decide) rfl h (fun h => ?_) (fun h => ?_)
      · skip
        refine ww_kill [4] (L' := [some (.ref b), some (.ref (G.2.2.2 0)), none, some (.int j3), none, some (.int x3), some (.long x4.1), none, some (.int x5.1), none, none]) rfl ?_
        exact jw_L_law_157 X xs ln b hscr j3 x3 x4.1 x5.1 x20.2 h K
      · skip
        refine ww_kill [4] (L' := [some (.ref b), some (.ref (G.2.2.2 0)), none, some (.int j3), none, some (.int x3), some (.long x4.1), none, some (.int x5.1), none, none]) rfl ?_
        exact jw_L_law_136 X xs ln b hscr j3 x3 x4.1 x5.1 x20.2 h K
def lb_L_law_49 (xs : Nat → Int32) (ln : Nat) (b : Nat) (w2 : Int32) (w3 : Int32) (σ : hb_Mem) : Option ((Int32 × Int32 × hb_Mem) ⊕ (Int32 × hb_Mem)) :=
if 52 ≤ w3 then (
some (.inr (w2, σ)))
else (
if w2 = 0 then (
some (.inr (w2, σ)))
else (
if 5 ≤ w3 then (
if 11 ≤ w3 then (
(hl_lot xs ln ((2 : Int32) * w3)).bind fun x2 =>
jn_L_law_85 xs ln b w3 x2 σ)
else (
jn_L_law_85 xs ln b w3 3 σ))
else (
jn_L_law_85 xs ln b w3 0 σ)))
set_option maxRecDepth 100000 in
set_option maxHeartbeats 4000000 in
theorem lk_L_law_49 {Γ : hb_Ctx} {G : hb_Gam} {Q : State → Prop} (X : hb_X Γ cL_law 11 RL ΛC G 10 243)  (xs : Nat → Int32) (ln : Nat) (b : Nat) (hscr : hl_scr Γ G b ln xs) (w2 : Int32) (w3 : Int32) (σ : hb_Mem) {x : ((Int32 × Int32 × hb_Mem) ⊕ (Int32 × hb_Mem))} (h : lb_L_law_49 xs ln b w2 w3 σ = some x) (K : Sum.elim (fun s : (Int32 × Int32 × hb_Mem) => hb_W Γ ΛC G 11 Q s.2.2 [some (.ref b), some (.ref (G.2.2.2 0)), some (.int s.1), some (.int s.2.1), none, none, none, none, none, none, none] [] 49) (fun t : (Int32 × hb_Mem) => hb_W Γ ΛC G 11 Q t.2 [none, some (.ref (G.2.2.2 0)), some (.int t.1), none, none, none, none, none, none, none, none] [] 371) x) : hb_W Γ ΛC G 11 Q σ [some (.ref b), some (.ref (G.2.2.2 0)), some (.int w2), some (.int w3), none, none, none, none, none, none, none] [] 49 := by
  unfold lb_L_law_49 at h
  refine ww_iload_n 50 X dL_law_49 rfl rfl ?_
  refine ww_bipush (v := 52) 52 X dL_law_50 rfl (by decide) ?_
  refine ww_icmp_ge 371 55 X dL_law_52 (by decide) rfl h (fun h => ?_) (fun h => ?_)
  · skip
    obtain rfl := Option.some.inj h
    refine ww_kill [0, 3] (L' := [none, some (.ref (G.2.2.2 0)), some (.int w2), none, none, none, none, none, none, none, none]) rfl ?_
    exact K
  · skip
    refine ww_iload_n 56 X dL_law_55 rfl rfl ?_
    refine ww_if_eq 371 59 X dL_law_56 (by decide) rfl h (fun h => ?_) (fun h => ?_)
    · skip
      obtain rfl := Option.some.inj h
      refine ww_kill [0, 3] (L' := [none, some (.ref (G.2.2.2 0)), some (.int w2), none, none, none, none, none, none, none, none]) rfl ?_
      exact K
    · skip
      refine ww_iload_n 60 X dL_law_59 rfl rfl ?_
      refine ww_iconst (v := 5) 61 X dL_law_60 rfl (by decide) ?_
      refine ww_icmp_ge 68 64 X dL_law_61 (by decide) rfl h (fun h => ?_) (fun h => ?_)
      · skip
        refine ww_iload_n 69 X dL_law_68 rfl rfl ?_
        refine ww_bipush (v := 11) 71 X dL_law_69 rfl (by decide) ?_
        refine ww_icmp_ge 78 74 X dL_law_71 (by decide) rfl h (fun h => ?_) (fun h => ?_)
        · skip
          refine ww_aload_n 79 X dL_law_78 rfl rfl ?_
          refine ww_iconst (v := 2) 80 X dL_law_79 rfl (by decide) ?_
          refine ww_iload_n 81 X dL_law_80 rfl rfl ?_
          refine ww_imul 82 X dL_law_81 rfl ?_
          obtain ⟨x2, hx2, h⟩ := hb_bind_of h
          refine ww_lot (rest := []) 85 X hscr hx2 cw_L_108 ⟨by decide, by decide⟩ (Nat.le_of_ble_eq_true rfl) dL_law_82 rfl ?_
          refine ww_kill [2] (L' := [some (.ref b), some (.ref (G.2.2.2 0)), none, some (.int w3), none, none, none, none, none, none, none]) rfl ?_
          exact jw_L_law_85 X xs ln b hscr w3 x2 σ h K
        · skip
          refine ww_iconst (v := 3) 75 X dL_law_74 rfl (by decide) ?_
          refine ww_goto 85 X dL_law_75 (by decide) ?_
          refine ww_kill [2] (L' := [some (.ref b), some (.ref (G.2.2.2 0)), none, some (.int w3), none, none, none, none, none, none, none]) rfl ?_
          exact jw_L_law_85 X xs ln b hscr w3 3 σ h K
      · skip
        refine ww_iconst (v := 0) 65 X dL_law_64 rfl (by decide) ?_
        refine ww_goto 85 X dL_law_65 (by decide) ?_
        refine ww_kill [2] (L' := [some (.ref b), some (.ref (G.2.2.2 0)), none, some (.int w3), none, none, none, none, none, none, none]) rfl ?_
        exact jw_L_law_85 X xs ln b hscr w3 0 σ h K
def ll_L_law_49 (xs : Nat → Int32) (ln : Nat) (b : Nat) : (Int32 × Int32 × hb_Mem) → Option (Int32 × hb_Mem) := hb_lp (fun s => lb_L_law_49 xs ln b s.1 s.2.1 s.2.2) hb_F
theorem lw_L_law_49 {Γ : hb_Ctx} {G : hb_Gam} {Q : State → Prop} (X : hb_X Γ cL_law 11 RL ΛC G 10 243)  (xs : Nat → Int32) (ln : Nat) (b : Nat) (hscr : hl_scr Γ G b ln xs) (s : (Int32 × Int32 × hb_Mem)) (t : (Int32 × hb_Mem)) (h : ll_L_law_49 xs ln b s = some t) (K : (fun t : (Int32 × hb_Mem) => hb_W Γ ΛC G 11 Q t.2 [none, some (.ref (G.2.2.2 0)), some (.int t.1), none, none, none, none, none, none, none, none] [] 371) t) : hb_W Γ ΛC G 11 Q s.2.2 [some (.ref b), some (.ref (G.2.2.2 0)), some (.int s.1), some (.int s.2.1), none, none, none, none, none, none, none] [] 49 :=
  hb_lp_w (P := fun s : (Int32 × Int32 × hb_Mem) => hb_W Γ ΛC G 11 Q s.2.2 [some (.ref b), some (.ref (G.2.2.2 0)), some (.int s.1), some (.int s.2.1), none, none, none, none, none, none, none] [] 49) (E := (fun t : (Int32 × hb_Mem) => hb_W Γ ΛC G 11 Q t.2 [none, some (.ref (G.2.2.2 0)), some (.int t.1), none, none, none, none, none, none, none, none] [] 371)) (fun s x hx K => lk_L_law_49 X xs ln b hscr s.1 s.2.1 s.2.2 hx K) _ s t h K
def jn_L_law_371 (xs : Nat → Int32) (ln : Nat) (b : Nat) (j2 : Int32) (σ : hb_Mem) : Option (Int32 × hb_Mem) :=
if j2 = 0 then (
some (0, σ))
else (
(fn_L_holds 0 σ).bind fun x22 =>
if x22.1 = 0 then (
some (0, x22.2))
else (
some (1, x22.2)))
set_option maxRecDepth 100000 in
set_option maxHeartbeats 4000000 in
theorem jw_L_law_371 {Γ : hb_Ctx} {G : hb_Gam} {Q : State → Prop} (X : hb_X Γ cL_law 11 RL ΛC G 10 243) (hr : hb_ret Γ = (some .boolean)) (xs : Nat → Int32) (ln : Nat) (b : Nat) (hscr : hl_scr Γ G b ln xs) (j2 : Int32) (σ : hb_Mem) {x : (Int32 × hb_Mem)} (h : jn_L_law_371 xs ln b j2 σ = some x) (K : ∀ L, hb_W Γ ΛC G 11 Q x.2 L [.int x.1] 387) : hb_W Γ ΛC G 11 Q σ [none, some (.ref (G.2.2.2 0)), some (.int j2), none, none, none, none, none, none, none, none] [] 371 := by
  unfold jn_L_law_371 at h
  refine ww_iload_n 372 X dL_law_371 rfl rfl ?_
  refine ww_if_eq 386 375 X dL_law_372 (by decide) rfl h (fun h => ?_) (fun h => ?_)
  · skip
    refine ww_iconst (v := 0) 387 X dL_law_386 rfl (by decide) ?_
    obtain rfl := Option.some.inj h
    exact K _
  · skip
    refine ww_aload_n 376 X dL_law_375 rfl rfl ?_
    obtain ⟨x22, hx22, h⟩ := hb_bind_of h
    refine ww_callS (rest := []) (st' := [.int x22.1]) 379 X (ct_L_holds (hb_l Γ) G 0 hc_is0 σ hx22) cw_L_95 rfl ⟨by decide, by decide⟩ (Nat.le_of_ble_eq_true rfl) rfl rfl dL_law_376 rfl ?_
    refine ww_if_eq 386 382 X dL_law_379 (by decide) rfl h (fun h => ?_) (fun h => ?_)
    · skip
      refine ww_iconst (v := 0) 387 X dL_law_386 rfl (by decide) ?_
      obtain rfl := Option.some.inj h
      exact K _
    · skip
      refine ww_iconst (v := 1) 383 X dL_law_382 rfl (by decide) ?_
      refine ww_goto 387 X dL_law_383 (by decide) ?_
      obtain rfl := Option.some.inj h
      exact K _
def jn_L_law_46 (xs : Nat → Int32) (ln : Nat) (b : Nat) (s0 : Int32) (σ : hb_Mem) : Option (Int32 × hb_Mem) :=
(ll_L_law_49 xs ln b (s0, 0, σ)).bind fun t21 =>
jn_L_law_371 xs ln b t21.1 t21.2
set_option maxRecDepth 100000 in
set_option maxHeartbeats 4000000 in
theorem jw_L_law_46 {Γ : hb_Ctx} {G : hb_Gam} {Q : State → Prop} (X : hb_X Γ cL_law 11 RL ΛC G 10 243) (hr : hb_ret Γ = (some .boolean)) (xs : Nat → Int32) (ln : Nat) (b : Nat) (hscr : hl_scr Γ G b ln xs) (s0 : Int32) (σ : hb_Mem) {x : (Int32 × hb_Mem)} (h : jn_L_law_46 xs ln b s0 σ = some x) (K : ∀ L, hb_W Γ ΛC G 11 Q x.2 L [.int x.1] 387) : hb_W Γ ΛC G 11 Q σ [some (.ref b), some (.ref (G.2.2.2 0)), none, none, none, none, none, none, none, none, none] [.int s0] 46 := by
  unfold jn_L_law_46 at h
  refine ww_istore_n 47 X (L' := [some (.ref b), some (.ref (G.2.2.2 0)), some (.int s0), none, none, none, none, none, none, none, none]) dL_law_46 rfl (Nat.le_of_ble_eq_true rfl) rfl rfl ?_
  refine ww_iconst (v := 0) 48 X dL_law_47 rfl (by decide) ?_
  refine ww_istore_n 49 X (L' := [some (.ref b), some (.ref (G.2.2.2 0)), some (.int s0), some (.int 0), none, none, none, none, none, none, none]) dL_law_48 rfl (Nat.le_of_ble_eq_true rfl) rfl rfl ?_
  obtain ⟨t21, ht21, h⟩ := hb_bind_of h
  refine lw_L_law_49 X xs ln b hscr (s0, 0, σ) t21 ht21 ?_
  exact jw_L_law_371 X hr xs ln b hscr t21.1 t21.2 h K
def jn_L_law_45 (xs : Nat → Int32) (ln : Nat) (b : Nat) (σ : hb_Mem) : Option (Int32 × hb_Mem) :=
jn_L_law_46 xs ln b 0 σ
set_option maxRecDepth 100000 in
set_option maxHeartbeats 4000000 in
theorem jw_L_law_45 {Γ : hb_Ctx} {G : hb_Gam} {Q : State → Prop} (X : hb_X Γ cL_law 11 RL ΛC G 10 243) (hr : hb_ret Γ = (some .boolean)) (xs : Nat → Int32) (ln : Nat) (b : Nat) (hscr : hl_scr Γ G b ln xs) (σ : hb_Mem) {x : (Int32 × hb_Mem)} (h : jn_L_law_45 xs ln b σ = some x) (K : ∀ L, hb_W Γ ΛC G 11 Q x.2 L [.int x.1] 387) : hb_W Γ ΛC G 11 Q σ [some (.ref b), some (.ref (G.2.2.2 0)), none, none, none, none, none, none, none, none, none] [] 45 := by
  unfold jn_L_law_45 at h
  refine ww_iconst (v := 0) 46 X dL_law_45 rfl (by decide) ?_
  exact jw_L_law_46 X hr xs ln b hscr 0 σ h K
def fn_L_law (xs : Nat → Int32) (ln : Nat) (b : Nat) (σ : hb_Mem) : Option (Int32 × hb_Mem) :=
(fn_L_holds 0 σ).bind fun x1 =>
if x1.1 = 0 then (
jn_L_law_45 xs ln b x1.2)
else (
(fn_L_would 0 0 x1.2).bind fun x23 =>
if x23.1 = 0 then (
jn_L_law_45 xs ln b x23.2)
else (
(fn_X5_undo 0 x23.2).bind fun x24 =>
if x24.1 = (-5) then (
(fn_X5_restore 0 x24.2).bind fun x25 =>
if x25.1 = (-5) then (
jn_L_law_46 xs ln b 1 x25.2)
else (
jn_L_law_45 xs ln b x25.2))
else (
jn_L_law_45 xs ln b x24.2)))
set_option maxRecDepth 100000 in
set_option maxHeartbeats 4000000 in
theorem wk_L_law {Γ : hb_Ctx} {G : hb_Gam} {Q : State → Prop} (X : hb_X Γ cL_law 11 RL ΛC G 10 243) (hr : hb_ret Γ = (some .boolean)) (xs : Nat → Int32) (ln : Nat) (b : Nat) (hscr : hl_scr Γ G b ln xs) (σ : hb_Mem) {x : (Int32 × hb_Mem)} (h : fn_L_law xs ln b σ = some x) (K : ∀ L, hb_W Γ ΛC G 11 Q x.2 L [.int x.1] 387) : hb_W Γ ΛC G 11 Q σ [some (.ref b), some (.ref (G.2.2.2 0)), none, none, none, none, none, none, none, none, none] [] 8 := by
  unfold fn_L_law at h
  refine ww_aload_n 9 X dL_law_8 rfl rfl ?_
  obtain ⟨x1, hx1, h⟩ := hb_bind_of h
  refine ww_callS (rest := []) (st' := [.int x1.1]) 12 X (ct_L_holds (hb_l Γ) G 0 hc_is0 σ hx1) cw_L_95 rfl ⟨by decide, by decide⟩ (Nat.le_of_ble_eq_true rfl) rfl rfl dL_law_9 rfl ?_
  refine ww_if_eq 45 15 X dL_law_12 (by decide) rfl h (fun h => ?_) (fun h => ?_)
  · skip
    exact jw_L_law_45 X hr xs ln b hscr x1.2 h K
  · skip
    refine ww_aload_n 16 X dL_law_15 rfl rfl ?_
    refine ww_iconst (v := 0) 17 X dL_law_16 rfl (by decide) ?_
    obtain ⟨x23, hx23, h⟩ := hb_bind_of h
    refine ww_callS (rest := []) (st' := [.int x23.1]) 20 X (ct_L_would (hb_l Γ) G 0 hc_is0 0 x1.2 hx23) cw_L_99 rfl ⟨by decide, by decide⟩ (Nat.le_of_ble_eq_true rfl) rfl rfl dL_law_17 rfl ?_
    refine ww_if_eq 45 23 X dL_law_20 (by decide) rfl h (fun h => ?_) (fun h => ?_)
    · skip
      exact jw_L_law_45 X hr xs ln b hscr x23.2 h K
    · skip
      refine ww_aload_n 24 X dL_law_23 rfl rfl ?_
      obtain ⟨x24, hx24, h⟩ := hb_bind_of h
      refine ww_callV (ci := 5) (rest := []) (st' := [.int x24.1]) 27 X (ct_X5_undo (hb_l Γ) G 0 hc_is0 x23.2 hx24) cw_L_102 rfl (by decide) hc_is0 rfl ⟨by decide, by decide⟩ (Nat.le_of_ble_eq_true rfl) rfl rfl dL_law_24 rfl ?_
      refine ww_bipush (v := (-5)) 29 X dL_law_27 rfl (by decide) ?_
      refine ww_icmp_ne 45 32 X dL_law_29 (by decide) rfl h (fun h => ?_) (fun h => ?_)
      · skip
        refine ww_aload_n 33 X dL_law_32 rfl rfl ?_
        obtain ⟨x25, hx25, h⟩ := hb_bind_of h
        refine ww_callV (ci := 5) (rest := []) (st' := [.int x25.1]) 36 X (ct_X5_restore (hb_l Γ) G 0 hc_is0 x24.2 hx25) cw_L_105 rfl (by decide) hc_is0 rfl ⟨by decide, by decide⟩ (Nat.le_of_ble_eq_true rfl) rfl rfl dL_law_33 rfl ?_
        refine ww_bipush (v := (-5)) 38 X dL_law_36 rfl (by decide) ?_
        refine ww_icmp_ne 45 41 X dL_law_38 (by decide) rfl h (fun h => ?_) (fun h => ?_)
        · skip
          refine ww_iconst (v := 1) 42 X dL_law_41 rfl (by decide) ?_
          refine ww_goto 46 X dL_law_42 (by decide) ?_
          exact jw_L_law_46 X hr xs ln b hscr 1 x25.2 h K
        · skip
          exact jw_L_law_45 X hr xs ln b hscr x25.2 h K
      · skip
        exact jw_L_law_45 X hr xs ln b hscr x24.2 h K
