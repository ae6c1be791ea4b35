/-! the law from its entry -/
set_option maxRecDepth 100000 in
set_option maxHeartbeats 16000000 in
/-- the law, from its entry -/
theorem whole_start_of {p : Program} {e : Env} {s : State} {m : MethodId} {below : List Frame} {meth : Method} {c : Code} (l : Launch) (hflags : l.flags = flags0) {b L : Nat} {xs : Nat → Int32} (hL : L ≤ 260) (C0 : lw_At p s m meth c b L xs) : W p l e room_1 s m #[Value.ref b] below meth c s.heap [] 0 0 (lw_Z below #[Value.ref b] s) (entryFrame m ([Value.ref b] : List Value).toArray 11) := by
  obtain ⟨hx, hb, hr, hml, hown, hts, hX, hbl, hlocks, hgv⟩ := id C0
  refine W.base ?_
  have hd0 := Drawn.sameBut.refl s.drawn lw_cs
  have hT : hb_TB (s.setDrawn s.drawn) := hl_TB hts s.drawn
  obtain ⟨c0, i0, hK0⟩ := u_known (C := RX0) (T := TX0) (N := 3) (n := 3) hts inX0 (hts (.instantiable RX0 3) (by decide +kernel))
  obtain ⟨c1, i1, hK1⟩ := u_known (C := RX1) (T := TX1) (N := 1) (n := 1) hts inX1 (hts (.instantiable RX1 1) (by decide +kernel))
  obtain ⟨c2, i2, hK2⟩ := u_known (C := RX2) (T := TX2) (N := 11) (n := 11) hts inX2 (hts (.instantiable RX2 11) (by decide +kernel))
  obtain ⟨c3, i3, hK3⟩ := u_known (C := RX3) (T := TX3) (N := 12) (n := 12) hts inX3 (hts (.instantiable RX3 12) (by decide +kernel))
  obtain ⟨c4, i4, hK4⟩ := u_known (C := RX4) (T := TX4) (N := 9) (n := 9) hts inX4 (hts (.instantiable RX4 9) (by decide +kernel))
  obtain ⟨c5, i5, hK5⟩ := u_known (C := RX5) (T := TX5) (N := 7) (n := 7) hts inX5 (hts (.instantiable RX5 7) (by decide +kernel))
  obtain ⟨D, hKc⟩ : ∃ D : va_G, ∀ (k : Nat) (q : vw_C), vwCl[k]? = some q → u_Kn s q.1 q.2.1 q.2.2 (D.1 k) (D.2 k) := by
    refine ⟨(fun k => match k with | 0 => c0 | 1 => c1 | 2 => c2 | 3 => c3 | 4 => c4 | _ => c5, fun k => match k with | 0 => i0 | 1 => i1 | 2 => i2 | 3 => i3 | 4 => i4 | _ => i5), ?_⟩
    intro k q hq
    match k, hq with
    | 0, hq => cases hq; exact hK0
    | 1, hq => cases hq; exact hK1
    | 2, hq => cases hq; exact hK2
    | 3, hq => cases hq; exact hK3
    | 4, hq => cases hq; exact hK4
    | 5, hq => cases hq; exact hK5
    | k + 6, hq => simp [vwCl] at hq
  have hwI := hts (.arrayClass .int) (by decide +kernel)
  have hwS := hts (.arrayOver (.object "PathBook$State")) (by decide +kernel)
  obtain ⟨cI, hcI⟩ : ∃ cI : ClassId, ArrOfT s cI .int ∧ va_RA s cI .int := by
    obtain ⟨c, k, comp, h1, h2, h3⟩ := Cond.arrayClass_spec hwI
    exact ⟨c, fun N z => ⟨(fun k h => by cases h), k, h2, comp, h3⟩, h1⟩
  obtain ⟨cS, hcS⟩ : ∃ cS : ClassId, ArrOfT s cS (.object "PathBook$State") ∧ va_RA s cS (.object "PathBook$State") := by
    obtain ⟨comp, c, k, f1, f2, f3, f4, f5⟩ := Cond.arrayOver_spec hwS
    exact ⟨c, fun N z => ⟨(fun k h => by cases h), k, f3, comp, f4⟩, k, comp, f3, f4, f1, f5⟩
  have hK : va_K D vwCl (hn_tys cI cS) s := by
    refine ⟨hKc, fun k q hk => ?_⟩
    match k, hk with
    | 0, hk => cases hk; exact hcI
    | 1, hk => cases hk; exact hcS
    | k + 2, hk => simp at hk
  have hK' : va_K D vwCl (hn_tys cI cS) (s.setDrawn s.drawn) := va_K.moved (u := s) (Vm.Alike.refl _) hK
  have hO : va_AO "PathBook$State" (s.setDrawn s.drawn) := va_AO.of (dr_words hts s.drawn _ (by decide +kernel))
  have hl := lv_entry ([.ref b]) (n := 11) (Nat.le_of_ble_eq_true rfl)
  rw [lg_entry_eq]
  generalize (lg_sl ([.ref b]) ++ List.replicate (11 - (lg_sl ([.ref b])).length) Slot.unset).toArray = ls at hl ⊢
  have hLS : hb_LS 11 [some (.ref b), none, none, none, none, none, none, none, none, none, none] ls := by
    refine ⟨rfl, hl.1, hl.2.1, fun i v hv => ?_⟩
    have h1 := hb_pad [.ref b] 10 i v hv
    match i, h1 with
    | 0, h1 => cases h1; exact ⟨hl.2.2 (0, .ref b) (by simp [lv_args]), rfl⟩
    | i + 1, h1 => simp at h1
  generalize hs0 : s.setDrawn s.drawn = s0 at hT hK' hO ⊢
  have hheap : s0.heap = s.heap := by rw [← hs0]; rfl
  have hown0 : s0.vm.findClass R_law = some m.cls := by rw [← hs0]; exact hown
  have hXs : va_X b L xs s0 s0.heap := by rw [hheap]; exact va_X.moved (u := s) (by rw [← hs0]; exact Vm.Alike.refl _) hX
  have X : hn_X (p, l, e, room_1, s0, m, #[Value.ref b], below, meth, c) cL_law 11 RL meth.name D cI cS s0.heap.size 10 243 600000 7302250 := ⟨hx, hb, hml, hown0, hlocks, rfl, hK', hT, hO, Nat.le_refl _, Nat.le_of_ble_eq_true rfl, Nat.le_of_ble_eq_true rfl, Nat.le_refl _, Nat.le_refl _⟩
  have main : hn_W (p, l, e, room_1, s0, m, #[Value.ref b], below, meth, c) D 11 (lw_Z below #[Value.ref b] s) 0 0 s0.heap.size [] [some (.ref b), none, none, none, none, none, none, none, none, none, none] [] 0 := by
    refine nn_new (ci := 5) (fs := [.null, .null, .null, .int 0, .null, .null, .null]) (a := s0.heap.size) (es' := [.inr (5, [.null, .null, .null, .int 0, .null, .null, .null])]) (c2 := 1) (s2 := 7) 3 X cf_5 tyX5 tyX5_ok (List.mem_of_getElem? (i := 24) (by decide +kernel)) (List.mem_of_getElem? (i := 25) (by decide +kernel)) (List.mem_of_getElem? (i := 18) (by decide +kernel)) (fun j hj => by rcases (show j = 0 ∨ j = 1 ∨ j = 2 ∨ j = 3 ∨ j = 4 ∨ j = 5 ∨ j = 6 by omega) with rfl | rfl | rfl | rfl | rfl | rfl | rfl <;> rfl) rfl rfl (Nat.le_of_ble_eq_true rfl) (Nat.le_of_ble_eq_true rfl) rfl rfl dL_law_0 rfl ?_
    refine nn_dup 4 X dL_law_3 rfl rfl ?_
    refine nn_call (n := 0) (rest := [.ref (s0.heap.size)]) (pre := []) (suf := [.inr (5, [.null, .null, .null, .int 0, .null, .null, .null])]) (suf' := (ls_Book cI cS (s0.heap.size))) (es' := (ls_Book cI cS (s0.heap.size))) (c2 := 160) (s2 := 9394) 7 X (kt_X5_init (hn_l (p, l, e, room_1, s0, m, #[Value.ref b], below, meth, c)) D cI cS (s0.heap.size)) ⟨rfl, List.mem_of_getElem? (i := 26) (by decide +kernel), List.mem_of_getElem? (i := 27) (by decide +kernel), List.mem_of_getElem? (i := 28) (by decide +kernel), List.mem_of_getElem? (i := 18) (by decide +kernel), ⟨by decide +kernel, by decide +kernel⟩, by decide +kernel⟩ rfl ⟨by decide, by decide⟩ (Nat.le_of_ble_eq_true rfl) rfl rfl rfl rfl rfl rfl (Nat.le_of_ble_eq_true rfl) (Nat.le_of_ble_eq_true rfl) (Nat.le_of_ble_eq_true rfl) dL_law_4 rfl ?_
    refine nn_astore_n (L' := [some (.ref b), some (.ref s0.heap.size), none, none, none, none, none, none, none, none, none]) 8 X dL_law_7 rfl (Nat.le_of_ble_eq_true rfl) rfl ?_
    intro H locs ls hz hP hS hLs
    refine va_forget (fun q hq => hS.2.2 q hq) ?_
    have XL : hb_X (p, l, e, room_1, s0, m, #[Value.ref b], below, meth, c, 160, 9394) cL_law 11 RL ΛC (D, cI, cS, fun k => s0.heap.size + k) 10 243 := ⟨hx, hb, hml, hown0, hlocks, hK', hT, hl_DL, Nat.le_of_ble_eq_true rfl, Nat.le_of_ble_eq_true rfl, Nat.le_of_ble_eq_true rfl, Nat.le_of_ble_eq_true rfl⟩
    have hscr : hl_scr (p, l, e, room_1, s0, m, #[Value.ref b], below, meth, c, 160, 9394) (D, cI, cS, fun k => s0.heap.size + k) b L xs := ⟨hXs, by rw [hheap]; exact hbl, fun h => by have := hl_AA h; rw [hheap] at this; omega⟩
    obtain ⟨σ', hlaw⟩ := lw_all xs hL b
    have hwalk := wk_L_law XL hr xs L b hscr hc_s0 hlaw (Q := lw_Z below #[Value.ref b] s) (fun L' H1 locs1 ls1 hP1 hS1 hL1 => by
      refine va_forget (fun q hq => hl_AA (hS1.2.2 q hq)) ?_
      refine W.widen (k := 600000) (n := 7302250) (by decide) (by decide) ?_
      rw [← hs0]
      exact lw_ret hd0 hx hb hr hlocks dL_law_387)
    exact hwalk H [] ls (hc_make hP) ⟨hS.1, fun q h1 h2 => hS.2.1 q h1 (Nat.not_le.mpr h1), fun q hq => by cases hq⟩ hLs.J
  have h9 := main s0.heap [] ls (by simp) (fun k q h => by simp [hn_cw] at h) va_S.rf hLS
  rw [hheap] at h9
  exact h9
