/-! the first memories, and the law from its entry -/
def hc_s0 : hb_Mem := fun k => if hc_kd k = 2 then (fun j => if j = 10 then -1 else 0) else if k < 136 then (if hc_kd k = 7 then (if hc_off k = 16 then upd (upd (fun _ => 0) 0 (-1)) 1 (-1) else fun _ => 0) else fun _ => 0) else if k = 136 then (fun j => if j = 3 then 1 else 0) else if k = 147 then (fun j => if j = 10 then -1 else 0) else fun _ => 0
def hm_s0 : hb_Mem := fun k => if k = 1 then upd (upd (upd (fun _ => 0) 417 (-5)) 420 (-5)) 423 (-5) else fun _ => 0
/-- the ring as it is made -/
def hc_ring (cS : ClassId) (b : Nat) : va_E := .inl (cS, 4, .inr (.inr (.inr (.inr (va_up (va_up (va_up (va_up (fun _ => none) 0 (some (b + 60))) 1 (some (b + 79))) 2 (some (b + 98))) 3 (some (b + 117)))))))
set_option maxRecDepth 100000 in
theorem hc_make_eq (D : va_G) (cI cS : ClassId) (b : Nat) : ls_Book cI cS b = (List.range 160).map (fun j => if j = 59 then hc_ring cS b else hb_cell ΛC (D, cI, cS, fun k => b + k) hc_s0 j) := rfl
set_option maxRecDepth 100000 in
theorem hm_make_eq (D : va_G) (cI cS : ClassId) (b : Nat) : ls_Model cI cS b = (List.range 13).map (fun j => hb_cell ΛM (D, cI, cS, fun k => b + k) hm_s0 j) := rfl
theorem hc_ring_at {D : va_G} {cI cS : ClassId} {b : Nat} {H : Heap} (h : va_at D vwCl (b + 59, hc_ring cS b) H) : va_at D vwCl (b + 59, hb_cell ΛC (D, cI, cS, fun k => b + k) hc_s0 59) H := by
  show H[b + 59]? = some (vp_cell cS (4, .inr (.inr (.inr (.inr (fun j => some (b + hc_rf 59 j)))))))
  have h1 : H[b + 59]? = some (vp_cell cS (4, .inr (.inr (.inr (.inr (va_up (va_up (va_up (va_up (fun _ => none) 0 (some (b + 60))) 1 (some (b + 79))) 2 (some (b + 98))) 3 (some (b + 117)))))))) := h
  rw [h1, vp_cell_q, vp_cell_q]
  unfold arrV
  congr 2
theorem hc_make {D : va_G} {cI cS : ClassId} {b : Nat} {H : Heap} (h : va_P D vwCl (hn_cw b (ls_Book cI cS b)) H) : va_P D vwCl (hb_wL ΛC (D, cI, cS, fun k => b + k) hc_s0) H := by
  intro k q hk
  have hl : k < 160 := by have := (List.getElem?_eq_some_iff.mp hk).1; rw [hb_wL_len] at this; exact this
  rw [hb_wL_get (Λ := ΛC) hl] at hk
  cases hk
  have h1 := h k (b + k, if k = 59 then hc_ring cS b else hb_cell ΛC (D, cI, cS, fun k => b + k) hc_s0 k) (hn_at (by rw [hc_make_eq D cI cS b]; simp [hl]))
  by_cases h59 : k = 59
  · subst h59
    exact hc_ring_at h1
  · rw [if_neg h59] at h1
    exact h1
theorem hm_make {D : va_G} {cI cS : ClassId} {b : Nat} {H : Heap} (h : va_P D vwCl (hn_cw b (ls_Model cI cS b)) H) : va_P D vwCl (hb_wL ΛM (D, cI, cS, fun k => b + k) hm_s0) H := by
  intro k q hk
  have hl : k < 13 := by have := (List.getElem?_eq_some_iff.mp hk).1; rw [hb_wL_len] at this; exact this
  rw [hb_wL_get (Λ := ΛM) hl] at hk
  cases hk
  exact h k (b + k, hb_cell ΛM (D, cI, cS, fun k => b + k) hm_s0 k) (hn_at (by rw [hm_make_eq D cI cS b]; simp [hl]))
theorem hl_TB {av : Array Value} {s : State} (hts : ∀ w ∈ lw_tbl, w.before av s = true) (d : Drawn) : hb_TB (s.setDrawn d) := by
  intro w hw hg a
  have h0 := dr_words hts d w hw
  by_cases ho : w.onTables = true
  · exact va_Nw.use ho (va_Nw.of ho h0)
  · cases w <;> first | (exact absurd rfl ho; done) | (simp [goodWord, hb_isNest, Cond.onTables] at hg ho; done) | exact h0
theorem hl_AA {D : va_G} {cI cS : ClassId} {b q : Nat} (h : hb_AA ΛL (D, cI, cS, fun k => b + k) q) : b ≤ q := by
  obtain ⟨k, hk, e⟩ := h
  have e' : q = b + k := e
  omega
theorem hl_DL {D : va_G} {cI cS : ClassId} {b : Nat} : ∀ σ, va_D (hb_AA ΛL (D, cI, cS, fun k => b + k)) (hb_wL ΛL (D, cI, cS, fun k => b + k) σ) := by
  intro σ
  have hl : ∀ {k : Nat} {q : Nat × va_E}, (hb_wL ΛL (D, cI, cS, fun k => b + k) σ)[k]? = some q → k < 173 ∧ q.1 = b + k := by
    intro k q hk
    have hl : k < 173 := by have := (List.getElem?_eq_some_iff.mp hk).1; rw [hb_wL_len] at this; exact this
    rw [hb_wL_get (Λ := ΛL) hl] at hk
    cases hk
    exact ⟨hl, rfl⟩
  refine ⟨fun i j p q hi hj hpq => ?_, fun k q hk => ⟨k, (hl hk).1, (hl hk).2⟩⟩
  have h1 := (hl hi).2
  have h2 := (hl hj).2
  omega
set_option maxRecDepth 100000 in
set_option maxHeartbeats 16000000 in
/-- the law, from its entry, by a simulation that holds of the first memories -/
theorem whole_start_of {Sim : hb_Mem → hb_Mem → Prop} (hA : hs_all Sim) (hi : Sim hc_s0 hm_s0) {p : Program} {e : Env} {s : State} {m : MethodId} {below : List Frame} {meth : Method} {c : Code} (l : Launch) (hflags : l.flags = flags0) {b L : Nat} {xs : Nat → Int32} (hL : L ≤ 2560) (C0 : lw_At p s m meth c b L xs) : W p l e room_1 s m #[Value.ref b] below meth c s.heap [] 0 0 (lw_Z below #[Value.ref b] s) (entryFrame m ([Value.ref b] : List Value).toArray 4) := by
  obtain ⟨hx, hb, hr, hml, hown, hts, hX, hbl, hlocks, hgv⟩ := id C0
  refine W.base ?_
  have hd0 := Drawn.sameBut.refl s.drawn lw_cs
  have hT : hb_TB (s.setDrawn s.drawn) := hl_TB hts s.drawn
  obtain ⟨c0, i0, hK0⟩ := u_known (C := RX0) (T := TX0) (N := 3) (n := 3) hts inX0 (hts (.instantiable RX0 3) (by decide +kernel))
  obtain ⟨c1, i1, hK1⟩ := u_known (C := RX1) (T := TX1) (N := 1) (n := 1) hts inX1 (hts (.instantiable RX1 1) (by decide +kernel))
  obtain ⟨c2, i2, hK2⟩ := u_known (C := RX2) (T := TX2) (N := 11) (n := 11) hts inX2 (hts (.instantiable RX2 11) (by decide +kernel))
  obtain ⟨c3, i3, hK3⟩ := u_known (C := RX3) (T := TX3) (N := 12) (n := 12) hts inX3 (hts (.instantiable RX3 12) (by decide +kernel))
  obtain ⟨c4, i4, hK4⟩ := u_known (C := RX4) (T := TX4) (N := 9) (n := 9) hts inX4 (hts (.instantiable RX4 9) (by decide +kernel))
  obtain ⟨c5, i5, hK5⟩ := u_known (C := RX5) (T := TX5) (N := 7) (n := 7) hts inX5 (hts (.instantiable RX5 7) (by decide +kernel))
  obtain ⟨c6, i6, hK6⟩ := u_known (C := RX6) (T := TX6) (N := 20) (n := 20) hts inX6 (hts (.instantiable RX6 20) (by decide +kernel))
  obtain ⟨D, hKc⟩ : ∃ D : va_G, ∀ (k : Nat) (q : vw_C), vwCl[k]? = some q → u_Kn s q.1 q.2.1 q.2.2 (D.1 k) (D.2 k) := by
    refine ⟨(fun k => match k with | 0 => c0 | 1 => c1 | 2 => c2 | 3 => c3 | 4 => c4 | 5 => c5 | _ => c6, fun k => match k with | 0 => i0 | 1 => i1 | 2 => i2 | 3 => i3 | 4 => i4 | 5 => i5 | _ => i6), ?_⟩
    intro k q hq
    match k, hq with
    | 0, hq => cases hq; exact hK0
    | 1, hq => cases hq; exact hK1
    | 2, hq => cases hq; exact hK2
    | 3, hq => cases hq; exact hK3
    | 4, hq => cases hq; exact hK4
    | 5, hq => cases hq; exact hK5
    | 6, hq => cases hq; exact hK6
    | k + 7, hq => simp [vwCl] at hq
  have hwI := hts (.arrayClass .int) (by decide +kernel)
  have hwS := hts (.arrayOver (.object "PathBook$State")) (by decide +kernel)
  obtain ⟨cI, hcI⟩ : ∃ cI : ClassId, ArrOfT s cI .int ∧ va_RA s cI .int := by
    obtain ⟨c, k, comp, h1, h2, h3⟩ := Cond.arrayClass_spec hwI
    exact ⟨c, fun N z => ⟨(fun k h => by cases h), k, h2, comp, h3⟩, h1⟩
  obtain ⟨cS, hcS⟩ : ∃ cS : ClassId, ArrOfT s cS (.object "PathBook$State") ∧ va_RA s cS (.object "PathBook$State") := by
    obtain ⟨comp, c, k, f1, f2, f3, f4, f5⟩ := Cond.arrayOver_spec hwS
    exact ⟨c, fun N z => ⟨(fun k h => by cases h), k, f3, comp, f4⟩, k, comp, f3, f4, f1, f5⟩
  have hK : va_K D vwCl (hn_tys cI cS) s := by
    refine ⟨hKc, fun k q hk => ?_⟩
    match k, hk with
    | 0, hk => cases hk; exact hcI
    | 1, hk => cases hk; exact hcS
    | k + 2, hk => simp at hk
  have hK' : va_K D vwCl (hn_tys cI cS) (s.setDrawn s.drawn) := va_K.moved (u := s) (Vm.Alike.refl _) hK
  have hO : va_AO "PathBook$State" (s.setDrawn s.drawn) := va_AO.of (dr_words hts s.drawn _ (by decide +kernel))
  have hl := lv_entry ([.ref b]) (n := 4) (Nat.le_of_ble_eq_true rfl)
  rw [lg_entry_eq]
  generalize (lg_sl ([.ref b]) ++ List.replicate (4 - (lg_sl ([.ref b])).length) Slot.unset).toArray = ls at hl ⊢
  have hLS : hb_LS 4 [some (.ref b), none, none, none] ls := by
    refine ⟨rfl, hl.1, hl.2.1, fun i v hv => ?_⟩
    have h1 := hb_pad [.ref b] 3 i v hv
    match i, h1 with
    | 0, h1 => cases h1; exact ⟨hl.2.2 (0, .ref b) (by simp [lv_args]), rfl⟩
    | i + 1, h1 => simp at h1
  generalize hs0 : s.setDrawn s.drawn = s0 at hT hK' hO ⊢
  have hheap : s0.heap = s.heap := by rw [← hs0]; rfl
  have hown0 : s0.vm.findClass R_law = some m.cls := by rw [← hs0]; exact hown
  have hXs : va_X b L xs s0 s0.heap := by rw [hheap]; exact va_X.moved (u := s) (by rw [← hs0]; exact Vm.Alike.refl _) hX
  have X : hn_X (p, l, e, room_1, s0, m, #[Value.ref b], below, meth, c) cL_law 4 RL meth.name D cI cS s0.heap.size 11 408 600000 7302250 := ⟨hx, hb, hml, hown0, hlocks, rfl, hK', hT, hO, Nat.le_refl _, Nat.le_refl _, Nat.le_refl _, Nat.le_refl _, Nat.le_refl _⟩
  have main : hn_W (p, l, e, room_1, s0, m, #[Value.ref b], below, meth, c) D 4 (lw_Z below #[Value.ref b] s) 0 0 s0.heap.size [] [some (.ref b), none, none, none] [] 0 := by
    refine nn_new (ci := 5) (fs := [.null, .null, .null, .int 0, .null, .null, .null]) (a := s0.heap.size) (es' := [.inr (5, [.null, .null, .null, .int 0, .null, .null, .null])]) (c2 := 1) (s2 := 7) 3 X cf_5 tyX5 tyX5_ok (List.mem_of_getElem? (i := 70) (by decide +kernel)) (List.mem_of_getElem? (i := 71) (by decide +kernel)) (List.mem_of_getElem? (i := 62) (by decide +kernel)) (fun j hj => by rcases (show j = 0 ∨ j = 1 ∨ j = 2 ∨ j = 3 ∨ j = 4 ∨ j = 5 ∨ j = 6 by omega) with rfl | rfl | rfl | rfl | rfl | rfl | rfl <;> rfl) rfl rfl (Nat.le_of_ble_eq_true rfl) (Nat.le_of_ble_eq_true rfl) rfl rfl dL_law_0 rfl ?_
    refine nn_dup 4 X dL_law_3 rfl rfl ?_
    refine nn_call (n := 0) (rest := [.ref (s0.heap.size)]) (pre := []) (suf := [.inr (5, [.null, .null, .null, .int 0, .null, .null, .null])]) (suf' := (ls_Book cI cS (s0.heap.size))) (es' := (ls_Book cI cS (s0.heap.size))) (c2 := 160) (s2 := 9394) 7 X (kt_X5_init (hn_l (p, l, e, room_1, s0, m, #[Value.ref b], below, meth, c)) D cI cS (s0.heap.size)) ⟨rfl, List.mem_of_getElem? (i := 72) (by decide +kernel), List.mem_of_getElem? (i := 73) (by decide +kernel), List.mem_of_getElem? (i := 74) (by decide +kernel), List.mem_of_getElem? (i := 62) (by decide +kernel), ⟨by decide +kernel, by decide +kernel⟩, by decide +kernel⟩ rfl ⟨by decide, by decide⟩ (Nat.le_of_ble_eq_true rfl) rfl rfl rfl rfl rfl rfl (Nat.le_of_ble_eq_true rfl) (Nat.le_of_ble_eq_true rfl) (Nat.le_of_ble_eq_true rfl) dL_law_4 rfl ?_
    refine nn_astore_n (L' := [some (.ref b), some (.ref s0.heap.size), none, none]) 8 X dL_law_7 rfl (Nat.le_of_ble_eq_true rfl) rfl ?_
    refine nn_new (ci := 6) (fs := [.null, .null, .int 0, .null, .int 0, .null, .int 0, .null, .null, .null, .null, .int 0, .null, .null, .null, .int 0, .int 0, .int 0, .null, .int 0]) (a := (s0.heap.size + 160)) (es' := (ls_Book cI cS (s0.heap.size) ++ [.inr (6, [.null, .null, .int 0, .null, .int 0, .null, .int 0, .null, .null, .null, .null, .int 0, .null, .null, .null, .int 0, .int 0, .int 0, .null, .int 0])])) (c2 := 161) (s2 := 9414) 11 X cf_6 tyX6 tyX6_ok (List.mem_of_getElem? (i := 668) (by decide +kernel)) (List.mem_of_getElem? (i := 669) (by decide +kernel)) (List.mem_of_getElem? (i := 68) (by decide +kernel)) (fun j hj => by rcases (show j = 0 ∨ j = 1 ∨ j = 2 ∨ j = 3 ∨ j = 4 ∨ j = 5 ∨ j = 6 ∨ j = 7 ∨ j = 8 ∨ j = 9 ∨ j = 10 ∨ j = 11 ∨ j = 12 ∨ j = 13 ∨ j = 14 ∨ j = 15 ∨ j = 16 ∨ j = 17 ∨ j = 18 ∨ j = 19 by omega) with rfl | rfl | rfl | rfl | rfl | rfl | rfl | rfl | rfl | rfl | rfl | rfl | rfl | rfl | rfl | rfl | rfl | rfl | rfl | rfl <;> rfl) rfl rfl (Nat.le_of_ble_eq_true rfl) (Nat.le_of_ble_eq_true rfl) rfl rfl dL_law_8 rfl ?_
    refine nn_dup 12 X dL_law_11 rfl rfl ?_
    refine nn_call (n := 0) (rest := [.ref (s0.heap.size + 160)]) (pre := (ls_Book cI cS (s0.heap.size))) (suf := [.inr (6, [.null, .null, .int 0, .null, .int 0, .null, .int 0, .null, .null, .null, .null, .int 0, .null, .null, .null, .int 0, .int 0, .int 0, .null, .int 0])]) (suf' := (ls_Model cI cS (s0.heap.size + 160))) (es' := (ls_Book cI cS (s0.heap.size) ++ ls_Model cI cS (s0.heap.size + 160))) (c2 := 173) (s2 := 19312) 15 X (kt_X6_init (hn_l (p, l, e, room_1, s0, m, #[Value.ref b], below, meth, c)) D cI cS ((s0.heap.size + 160))) ⟨rfl, List.mem_of_getElem? (i := 670) (by decide +kernel), List.mem_of_getElem? (i := 671) (by decide +kernel), List.mem_of_getElem? (i := 672) (by decide +kernel), List.mem_of_getElem? (i := 68) (by decide +kernel), ⟨by decide +kernel, by decide +kernel⟩, by decide +kernel⟩ rfl ⟨by decide, by decide⟩ (Nat.le_of_ble_eq_true rfl) rfl rfl rfl rfl rfl rfl (Nat.le_of_ble_eq_true rfl) (Nat.le_of_ble_eq_true rfl) (Nat.le_of_ble_eq_true rfl) dL_law_12 rfl ?_
    refine nn_astore_n (L' := [some (.ref b), some (.ref s0.heap.size), some (.ref (s0.heap.size + 160)), none]) 16 X dL_law_15 rfl (Nat.le_of_ble_eq_true rfl) rfl ?_
    refine nn_iconst (v := 0) 17 X dL_law_16 rfl (by decide) ?_
    refine nn_istore_n (L' := [some (.ref b), some (.ref s0.heap.size), some (.ref (s0.heap.size + 160)), some (.int 0)]) 18 X dL_law_17 rfl (Nat.le_of_ble_eq_true rfl) rfl ?_
    intro H locs ls hz hP hS hLs
    refine va_forget (fun q hq => hS.2.2 q hq) ?_
    have hG2 : (fun k => s0.heap.size + (k + 160)) = fun k => s0.heap.size + 160 + k := by funext k; omega
    have hPr := hm_make (hn_P_r hP)
    have hPm : va_P (hl_G2 (D, cI, cS, fun k => s0.heap.size + k)).1 vwCl (hb_wL ΛM (hl_G2 (D, cI, cS, fun k => s0.heap.size + k)) hm_s0) H := by
      show va_P D vwCl (hb_wL ΛM (D, cI, cS, fun k => s0.heap.size + (k + 160)) hm_s0) H
      rw [hG2]
      exact hPr
    have XL : hb_X (p, l, e, room_1, s0, m, #[Value.ref b], below, meth, c, 173, 19312) cL_law 4 RL ΛL (D, cI, cS, fun k => s0.heap.size + k) 11 408 := ⟨hx, hb, hml, hown0, hlocks, hK', hT, hl_DL, Nat.le_refl _, Nat.le_refl _, Nat.le_of_ble_eq_true rfl, Nat.le_of_ble_eq_true rfl⟩
    have hscr : hl_scr (p, l, e, room_1, s0, m, #[Value.ref b], below, meth, c, 173, 19312) (D, cI, cS, fun k => s0.heap.size + k) b L xs := ⟨hXs, by rw [hheap]; exact hbl, fun h => by have := hl_AA h; rw [hheap] at this; omega⟩
    have hloop := law_loop hL XL hscr hA (Q := lw_Z below #[Value.ref b] s) (fun σ L' H1 locs1 ls1 hP1 hS1 hL1 => by
      refine va_forget (fun q hq => hl_AA (hS1.2.2 q hq)) ?_
      refine W.widen (k := 600000) (n := 7302250) (by decide) (by decide) ?_
      rw [← hs0]
      exact lw_ret hd0 hx hb hr hlocks dL_law_741) (L + 5) 0 0 (by omega) (Nat.zero_le _) rfl hc_s0 hm_s0 hi
    exact hloop H [] ls (hl_P (hc_make (hn_P_l hP)) hPm) ⟨hS.1, fun q h1 h2 => hS.2.1 q h1 (Nat.not_le.mpr h1), fun q hq => by cases hq⟩ hLs
  have h9 := main s0.heap [] ls (by simp) (fun k q h => by simp [hn_cw] at h) va_S.rf hLS
  rw [hheap] at h9
  exact h9
