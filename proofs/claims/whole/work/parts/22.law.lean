/-! the law: both systems' cells side by side (laid by wip/whole/genlaw.py) -/
def hl_kd (k : Nat) : Nat := if k < 160 then hc_kd k else hm_kd (k - 160)
def hl_rf (k j : Nat) : Nat := if k < 160 then hc_rf k j else 160 + hm_rf (k - 160) j
def hl_ln (k : Nat) : Nat := if k < 160 then hc_ln k else hm_ln (k - 160)
abbrev ΛL : hb_Lay := (173, hl_kd, hl_rf, hl_ln)
def hl_mix (σ μ : hb_Mem) : hb_Mem := fun k => if k < 160 then σ k else μ (k - 160)
abbrev hl_G2 (G : hb_Gam) : hb_Gam := (G.1, G.2.1, G.2.2.1, fun k => G.2.2.2 (k + 160))
theorem hl_fs1 {ad : Nat → Nat} {σ μ : hb_Mem} {k : Nat} (hk : k < 160) : hb_fs ΛL ad (hl_mix σ μ) k = hb_fs ΛC ad σ k := by
  simp only [hb_fs, hl_kd, hl_rf, hl_mix, if_pos hk]
theorem hl_cell1 {G : hb_Gam} {σ μ : hb_Mem} {k : Nat} (hk : k < 160) : hb_cell ΛL G (hl_mix σ μ) k = hb_cell ΛC G σ k := by
  simp only [hb_cell, hl_fs1 hk]
  simp only [hl_kd, hl_rf, hl_mix, hl_ln, if_pos hk]
theorem hl_fs2 {G : hb_Gam} {σ μ : hb_Mem} {k : Nat} : hb_fs ΛL G.2.2.2 (hl_mix σ μ) (k + 160) = hb_fs ΛM (hl_G2 G).2.2.2 μ k := by
  have h : ¬ k + 160 < 160 := by omega
  simp only [hb_fs, hl_kd, hl_rf, hl_mix, if_neg h, Nat.add_sub_cancel, hl_G2, Nat.add_comm 160]
theorem hl_cell2 {G : hb_Gam} {σ μ : hb_Mem} {k : Nat} : hb_cell ΛL G (hl_mix σ μ) (k + 160) = hb_cell ΛM (hl_G2 G) μ k := by
  have h : ¬ k + 160 < 160 := by omega
  simp only [hb_cell, hl_fs2]
  simp only [hl_kd, hl_rf, hl_mix, hl_ln, if_neg h, Nat.add_sub_cancel, hl_G2, Nat.add_comm 160]
theorem hl_P1 {G : hb_Gam} {σ μ : hb_Mem} {H : Heap} (h : va_P G.1 vwCl (hb_wL ΛL G (hl_mix σ μ)) H) : va_P G.1 vwCl (hb_wL ΛC G σ) H := by
  intro k q hk
  have hl : k < 160 := by have := (List.getElem?_eq_some_iff.mp hk).1; rw [hb_wL_len] at this; exact this
  rw [hb_wL_get (Λ := ΛC) hl] at hk
  exact h k q (by rw [hb_wL_get (Λ := ΛL) (show k < 173 by omega), hl_cell1 hl]; exact hk)
theorem hl_P2 {G : hb_Gam} {σ μ : hb_Mem} {H : Heap} (h : va_P G.1 vwCl (hb_wL ΛL G (hl_mix σ μ)) H) : va_P (hl_G2 G).1 vwCl (hb_wL ΛM (hl_G2 G) μ) H := by
  intro k q hk
  have hl : k < 13 := by have := (List.getElem?_eq_some_iff.mp hk).1; rw [hb_wL_len] at this; exact this
  rw [hb_wL_get (Λ := ΛM) hl] at hk
  exact h (k + 160) q (by rw [hb_wL_get (Λ := ΛL) (show k + 160 < 173 by omega), hl_cell2]; exact hk)
theorem hl_P {G : hb_Gam} {σ μ : hb_Mem} {H : Heap} (h1 : va_P G.1 vwCl (hb_wL ΛC G σ) H) (h2 : va_P (hl_G2 G).1 vwCl (hb_wL ΛM (hl_G2 G) μ) H) : va_P G.1 vwCl (hb_wL ΛL G (hl_mix σ μ)) H := by
  intro k q hk
  have hl : k < 173 := by have := (List.getElem?_eq_some_iff.mp hk).1; rw [hb_wL_len] at this; exact this
  rw [hb_wL_get (Λ := ΛL) hl] at hk
  by_cases hk1 : k < 160
  · rw [hl_cell1 hk1] at hk
    exact h1 k q (by rw [hb_wL_get (Λ := ΛC) hk1]; exact hk)
  · obtain ⟨j, rfl⟩ : ∃ j, k = j + 160 := ⟨k - 160, by omega⟩
    rw [hl_cell2] at hk
    exact h2 j q (by rw [hb_wL_get (Λ := ΛM) (show j < 13 by omega)]; exact hk)
/-- the addresses are apart -/
def hl_inj (G : hb_Gam) : Prop := ∀ i j, i < 173 → j < 173 → G.2.2.2 i = G.2.2.2 j → i = j
theorem hl_inj_of {G : hb_Gam} {σ : hb_Mem} (h : va_D (hb_AA ΛL G) (hb_wL ΛL G σ)) : hl_inj G := by
  intro i j hi hj hij
  exact h.1 i j _ _ (hb_wL_get (Λ := ΛL) hi) (hb_wL_get (Λ := ΛL) hj) hij
theorem hl_D1 {G : hb_Gam} (h : hl_inj G) : ∀ σ, va_D (hb_AA ΛC G) (hb_wL ΛC G σ) := by
  intro σ
  have hl : ∀ {k : Nat} {q : Nat × va_E}, (hb_wL ΛC G σ)[k]? = some q → k < 160 ∧ q.1 = G.2.2.2 k := by
    intro k q hk
    have hl : k < 160 := by have := (List.getElem?_eq_some_iff.mp hk).1; rw [hb_wL_len] at this; exact this
    rw [hb_wL_get (Λ := ΛC) hl] at hk
    cases hk
    exact ⟨hl, rfl⟩
  refine ⟨fun i j p q hi hj hpq => ?_, fun k q hk => ⟨k, (hl hk).1, (hl hk).2⟩⟩
  have h1 := hl hi
  have h2 := hl hj
  exact h i j (by omega) (by omega) (by rw [← h1.2, ← h2.2]; exact hpq)
theorem hl_D2 {G : hb_Gam} (h : hl_inj G) : ∀ σ, va_D (hb_AA ΛM (hl_G2 G)) (hb_wL ΛM (hl_G2 G) σ) := by
  intro σ
  have hl : ∀ {k : Nat} {q : Nat × va_E}, (hb_wL ΛM (hl_G2 G) σ)[k]? = some q → k < 13 ∧ q.1 = G.2.2.2 (k + 160) := by
    intro k q hk
    have hl : k < 13 := by have := (List.getElem?_eq_some_iff.mp hk).1; rw [hb_wL_len] at this; exact this
    rw [hb_wL_get (Λ := ΛM) hl] at hk
    cases hk
    exact ⟨hl, rfl⟩
  refine ⟨fun i j p q hi hj hpq => ?_, fun k q hk => ⟨k, (hl hk).1, (hl hk).2⟩⟩
  have h1 := hl hi
  have h2 := hl hj
  have := h (i + 160) (j + 160) (by omega) (by omega) (by rw [← h1.2, ← h2.2]; exact hpq)
  omega
theorem hl_A1 {G : hb_Gam} {q : Nat} (h : hb_AA ΛC G q) : hb_AA ΛL G q := by
  obtain ⟨k, hk, e⟩ := h
  exact ⟨k, Nat.lt_trans hk (by decide), e⟩
theorem hl_A2 {G : hb_Gam} {q : Nat} (h : hb_AA ΛM (hl_G2 G) q) : hb_AA ΛL G q := by
  obtain ⟨k, hk, e⟩ := h
  exact ⟨k + 160, Nat.add_lt_add_right hk 160, e⟩
theorem ww_lawX {Γ : hb_Ctx} {cc : ByteArray} {nL : Nat} {own : String} {G : hb_Gam} {nf nl : Nat} {Q : State → Prop} {σ μ σ' : hb_Mem} {L : List (Option Value)} {st : List Value} {pc : Nat} {idx nL' nf' nl' n : Nat} {y : MethodName} {cc' : ByteArray} {ret : Option FieldType} {As rest st' : List Value} {rv : Option Value} {T : u_T} {N : Nat} (q : Nat) (X : hb_X Γ cc nL own ΛL G nf nl) (hM : hb_C (hb_l Γ) y cc' nL' ret nf' nl' ΛC G (.ref (G.2.2.2 0) :: As) σ rv σ') (cw : hb_cV own idx y cc' nL' ret n) (hc : vwCl[5]? = some (y.cls, T, N)) (hn : As.length = n) (hR : nf' + 1 ≤ nf ∧ 8 + (nL' + 11) + nl' ≤ nl) (hrest : (rest.map fun v => v.category).sum ≤ 8) (hst : As.reverse ++ .ref (G.2.2.2 0) :: rest = st) (hst2 : rv.toList ++ rest = st') (d : decode cc pc = .ok (.invokevirtual idx, 3)) (hq : pc + 3 = q) (k : hb_W Γ ΛL G nL Q (hl_mix σ' μ) L st' q) : hb_W Γ ΛL G nL Q (hl_mix σ μ) L st pc := by
  subst hst2
  obtain ⟨p, l, e, R, s, m, args, below, meth, c, cells, slots⟩ := Γ
  obtain ⟨hx, hb, hml, hown, hlocks, hK, hT, hD, hnf, hnl, hcells, hslots⟩ := X
  obtain ⟨h1, h2, hsel, h3, h4, h5, h6⟩ := cw
  have hinj := hl_inj_of (hD σ)
  subst hq; subst hst
  intro H locs ls hP hS hL T hT2 X
  have hPx := hl_P1 hP
  have hrun := va_runV (own := own) (C := y.cls) (Ts := []) (p := p) (l := l) (e := e) (R := R) (s := s) (m := m) (args := args) (below := below) (meth := meth) (c := c) (H := H) (locs := locs) (cells := cells) (slots := slots) (g := F0 m pc ls (As.reverse ++ .ref (G.2.2.2 0) :: rest)) ⟨hx, hb, hml, hown, fun w h => by cases h⟩ hM ⟨⟨rfl, rfl, Nat.le_trans hR.1 hnf, Nat.le_trans hR.2 hnl, hb_codeW hT h3, List.mem_singleton.mpr rfl, hT _ h3 rfl _, hT _ h4 rfl _, h5, hb_len h6, hT _ h1 rfl _⟩, hT _ h2 rfl _, hT _ hsel rfl _⟩ ⟨hb_Pc_blind, va_recv (q0 := 0) hK hPx hc (hb_wL_get (Λ := ΛC) (by decide)), fun U hU hW => hb_Pc_at (G := G) hK hT (hl_D1 hinj) hPx U hU hW⟩ rfl hn hL.2.1 rfl (lv_room (pc := pc) hrest) d ⟨hcells, hslots⟩
  obtain ⟨v, st₀, t, T', L', h0, X', hL', e1, e2, ⟨hv, hP1, hz, hk1⟩, st⟩ := hrun T hT2 X
  cases hv
  rw [h0] at hz hk1
  have hoth : va_P G.1 vwCl (hb_wL ΛM (hl_G2 G) μ) T'.heap := by
    intro k q hk
    have hl : k < 13 := by have := (List.getElem?_eq_some_iff.mp hk).1; rw [hb_wL_len] at this; exact this
    have hk' := hk
    rw [hb_wL_get (Λ := ΛM) hl] at hk'
    cases hk'
    have hat := hl_P2 hP k _ hk
    refine hat.kept ?_
    rw [e1]
    refine hk1 _ hat.lt (fun hA => ?_)
    obtain ⟨j, hj, e⟩ := hA
    have hj2 : j < 160 := hj
    have := hinj (k + 160) j (by omega) (by omega) e
    omega
  obtain ⟨t2, a1, b1⟩ := k T'.heap (locs ++ L') ls (hl_P (by rw [e1]; exact hP1) hoth)
    ⟨Nat.le_trans hS.1 (by rw [e1]; exact hz), fun q h1 h2 => by rw [e1, hk1 q (Nat.lt_of_lt_of_le h1 hS.1) (fun z => h2 (hl_A1 z))]; exact hS.2.1 q h1 h2, fun q hq => by
      rcases List.mem_append.mp hq with h | h
      · exact hS.2.2 q h
      · exact hl_A1 (hL' q h)⟩ hL T' rfl X'
  exact ⟨t2, st t2 a1, b1⟩
theorem ww_lawM {Γ : hb_Ctx} {cc : ByteArray} {nL : Nat} {own : String} {G : hb_Gam} {nf nl : Nat} {Q : State → Prop} {σ μ μ' : hb_Mem} {L : List (Option Value)} {st : List Value} {pc : Nat} {idx nL' nf' nl' n : Nat} {y : MethodName} {cc' : ByteArray} {ret : Option FieldType} {As rest st' : List Value} {rv : Option Value} {T : u_T} {N : Nat} (q : Nat) (X : hb_X Γ cc nL own ΛL G nf nl) (hM : hb_C (hb_l Γ) y cc' nL' ret nf' nl' ΛM (hl_G2 G) (.ref (G.2.2.2 160) :: As) μ rv μ') (cw : hb_cV own idx y cc' nL' ret n) (hc : vwCl[6]? = some (y.cls, T, N)) (hn : As.length = n) (hR : nf' + 1 ≤ nf ∧ 8 + (nL' + 11) + nl' ≤ nl) (hrest : (rest.map fun v => v.category).sum ≤ 8) (hst : As.reverse ++ .ref (G.2.2.2 160) :: rest = st) (hst2 : rv.toList ++ rest = st') (d : decode cc pc = .ok (.invokevirtual idx, 3)) (hq : pc + 3 = q) (k : hb_W Γ ΛL G nL Q (hl_mix σ μ') L st' q) : hb_W Γ ΛL G nL Q (hl_mix σ μ) L st pc := by
  subst hst2
  obtain ⟨p, l, e, R, s, m, args, below, meth, c, cells, slots⟩ := Γ
  obtain ⟨hx, hb, hml, hown, hlocks, hK, hT, hD, hnf, hnl, hcells, hslots⟩ := X
  obtain ⟨h1, h2, hsel, h3, h4, h5, h6⟩ := cw
  have hinj := hl_inj_of (hD σ)
  subst hq; subst hst
  intro H locs ls hP hS hL T hT2 X
  have hPx := hl_P2 hP
  have hrun := va_runV (own := own) (C := y.cls) (Ts := []) (p := p) (l := l) (e := e) (R := R) (s := s) (m := m) (args := args) (below := below) (meth := meth) (c := c) (H := H) (locs := locs) (cells := cells) (slots := slots) (g := F0 m pc ls (As.reverse ++ .ref (G.2.2.2 160) :: rest)) ⟨hx, hb, hml, hown, fun w h => by cases h⟩ hM ⟨⟨rfl, rfl, Nat.le_trans hR.1 hnf, Nat.le_trans hR.2 hnl, hb_codeW hT h3, List.mem_singleton.mpr rfl, hT _ h3 rfl _, hT _ h4 rfl _, h5, hb_len h6, hT _ h1 rfl _⟩, hT _ h2 rfl _, hT _ hsel rfl _⟩ ⟨hb_Pc_blind, va_recv (q0 := 0) hK hPx hc (hb_wL_get (Λ := ΛM) (by decide)), fun U hU hW => hb_Pc_at (G := (hl_G2 G)) hK hT (hl_D2 hinj) hPx U hU hW⟩ rfl hn hL.2.1 rfl (lv_room (pc := pc) hrest) d ⟨hcells, hslots⟩
  obtain ⟨v, st₀, t, T', L', h0, X', hL', e1, e2, ⟨hv, hP1, hz, hk1⟩, st⟩ := hrun T hT2 X
  cases hv
  rw [h0] at hz hk1
  have hoth : va_P G.1 vwCl (hb_wL ΛC G σ) T'.heap := by
    intro k q hk
    have hl : k < 160 := by have := (List.getElem?_eq_some_iff.mp hk).1; rw [hb_wL_len] at this; exact this
    have hk' := hk
    rw [hb_wL_get (Λ := ΛC) hl] at hk'
    cases hk'
    have hat := hl_P1 hP k _ hk
    refine hat.kept ?_
    rw [e1]
    refine hk1 _ hat.lt (fun hA => ?_)
    obtain ⟨j, hj, e⟩ := hA
    have hj2 : j < 13 := hj
    have := hinj k (j + 160) (by omega) (by omega) e
    omega
  obtain ⟨t2, a1, b1⟩ := k T'.heap (locs ++ L') ls (hl_P hoth (by rw [e1]; exact hP1))
    ⟨Nat.le_trans hS.1 (by rw [e1]; exact hz), fun q h1 h2 => by rw [e1, hk1 q (Nat.lt_of_lt_of_le h1 hS.1) (fun z => h2 (hl_A2 z))]; exact hS.2.1 q h1 h2, fun q hq => by
      rcases List.mem_append.mp hq with h | h
      · exact hS.2.2 q h
      · exact hl_A2 (hL' q h)⟩ hL T' rfl X'
  exact ⟨t2, st t2 a1, b1⟩
/-- the script, apart from the world -/
def hl_scr (Γ : hb_Ctx) (G : hb_Gam) (b L : Nat) (xs : Nat → Int32) : Prop := match Γ with
  | (p, l, e, R, s, m, args, below, meth, c, cells, slots) => va_X b L xs s s.heap ∧ b < s.heap.size ∧ ¬ hb_AA ΛL G b
theorem ww_sld {Γ : hb_Ctx} {cc : ByteArray} {nL : Nat} {own : String} {G : hb_Gam} {nf nl : Nat} {Q : State → Prop} {σ : hb_Mem} {L : List (Option Value)} {st : List Value} {pc : Nat} {b Ln : Nat} {xs : Nat → Int32} {i : Int32} (q : Nat) (X : hb_X Γ cc nL own ΛL G nf nl) (hX : hl_scr Γ G b Ln xs) (hin : vp_in i Ln) (d : decode cc pc = .ok (.iaload, 1)) (hq : pc + 1 = q) (k : hb_W Γ ΛL G nL Q σ L (.int (xs i.toNatClampNeg) :: st) q) : hb_W Γ ΛL G nL Q σ L (.int i :: .ref b :: st) pc := by
  obtain ⟨p, l, e, R, s, m, args, below, meth, c, cells, slots⟩ := Γ
  obtain ⟨hx, hb, hml, hown, hlocks, hK, hT, hD, hnf, hnl, hcells, hslots⟩ := X
  obtain ⟨h1, h2, h3⟩ := hX
  subst hq
  intro H locs ls hP hS hL
  exact va_sld hx hb h1 h2 h3 hS hin d (k H locs ls hP hS hL)
theorem ww_slen {Γ : hb_Ctx} {cc : ByteArray} {nL : Nat} {own : String} {G : hb_Gam} {nf nl : Nat} {Q : State → Prop} {σ : hb_Mem} {L : List (Option Value)} {st : List Value} {pc : Nat} {b Ln : Nat} {xs : Nat → Int32} (q : Nat) (X : hb_X Γ cc nL own ΛL G nf nl) (hX : hl_scr Γ G b Ln xs) (d : decode cc pc = .ok (.arraylength, 1)) (hq : pc + 1 = q) (k : hb_W Γ ΛL G nL Q σ L (.int (Int32.ofNat Ln) :: st) q) : hb_W Γ ΛL G nL Q σ L (.ref b :: st) pc := by
  obtain ⟨p, l, e, R, s, m, args, below, meth, c, cells, slots⟩ := Γ
  obtain ⟨hx, hb, hml, hown, hlocks, hK, hT, hD, hnf, hnl, hcells, hslots⟩ := X
  obtain ⟨h1, h2, h3⟩ := hX
  subst hq
  intro H locs ls hP hS hL
  exact va_slen hx hb h1 h2 h3 hS d (k H locs ls hP hS hL)
theorem ww_icmp_eq_t {Γ : hb_Ctx} {cc : ByteArray} {nL : Nat} {own : String} {Λ : hb_Lay} {G : hb_Gam} {nf nl : Nat} {Q : State → Prop} {σ : hb_Mem} {L : List (Option Value)} {st : List Value} {pc : Nat} {x y : Int32} {off : Int} (q : Nat) (X : hb_X Γ cc nL own Λ G nf nl) (d : decode cc pc = .ok (.if_icmp .eq off, 3)) (hq : (pc : Int) + off = (q : Int)) (h : x = y) (k : hb_W Γ Λ G nL Q σ L st q) : hb_W Γ Λ G nL Q σ L (.int y :: .int x :: st) pc := by
  obtain ⟨p, l, e, R, s, m, args, below, meth, c, cells, slots⟩ := Γ
  obtain ⟨hx, hb, hml, hown, hlocks, hK, hT, hD, hnf, hnl, hcells, hslots⟩ := X
  intro H locs ls hP hS hL
  exact lv_icmp_eq hx hb d hq (fun _ => k H locs ls hP hS hL) (fun z => absurd h z)
theorem ww_icmp_gt2 {Γ : hb_Ctx} {cc : ByteArray} {nL : Nat} {own : String} {Λ : hb_Lay} {G : hb_Gam} {nf nl : Nat} {Q : State → Prop} {σ : hb_Mem} {L : List (Option Value)} {st : List Value} {pc : Nat} {x y : Int32} {off : Int} (q q2 : Nat) (X : hb_X Γ cc nL own Λ G nf nl) (d : decode cc pc = .ok (.if_icmp .gt off, 3)) (hq : (pc : Int) + off = (q : Int)) (hq2 : pc + 3 = q2) (k1 : y < x → hb_W Γ Λ G nL Q σ L st q) (k2 : ¬ y < x → hb_W Γ Λ G nL Q σ L st q2) : hb_W Γ Λ G nL Q σ L (.int y :: .int x :: st) pc := by
  obtain ⟨p, l, e, R, s, m, args, below, meth, c, cells, slots⟩ := Γ
  obtain ⟨hx, hb, hml, hown, hlocks, hK, hT, hD, hnf, hnl, hcells, hslots⟩ := X
  subst hq2
  intro H locs ls hP hS hL
  exact lv_icmp_gt hx hb d hq (fun z => k1 z H locs ls hP hS hL) (fun z => k2 z H locs ls hP hS hL)
def hs_addPage (Sim : hb_Mem → hb_Mem → Prop) : Prop := ∀ σ μ : hb_Mem, Sim σ μ → ∀ (a1 a2 a3 : Int32), ∃ (r : Int32) (σ' μ' : hb_Mem), fn_X5_addPage 0 a1 a2 a3 σ = some (r, σ') ∧ fn_X6_addPage 0 a1 a2 a3 μ = some (r, μ') ∧ Sim σ' μ'
def hs_setMood (Sim : hb_Mem → hb_Mem → Prop) : Prop := ∀ σ μ : hb_Mem, Sim σ μ → ∀ (a1 a2 : Int32), ∃ (r : Int32) (σ' μ' : hb_Mem), fn_X5_setMood 0 a1 a2 σ = some (r, σ') ∧ fn_X6_setMood 0 a1 a2 μ = some (r, μ') ∧ Sim σ' μ'
def hs_addChoice (Sim : hb_Mem → hb_Mem → Prop) : Prop := ∀ σ μ : hb_Mem, Sim σ μ → ∀ (a1 a2 a3 a4 : Int32), ∃ (r : Int32) (σ' μ' : hb_Mem), fn_X5_addChoice 0 a1 a2 a3 a4 σ = some (r, σ') ∧ fn_X6_addChoice 0 a1 a2 a3 a4 μ = some (r, μ') ∧ Sim σ' μ'
def hs_addChoices (Sim : hb_Mem → hb_Mem → Prop) : Prop := ∀ σ μ : hb_Mem, Sim σ μ → ∃ (r : Int32) (σ' μ' : hb_Mem), fn_X5_addChoices 0 σ = some (r, σ') ∧ fn_X6_addChoices 0 μ = some (r, μ') ∧ Sim σ' μ'
def hs_takeChoice (Sim : hb_Mem → hb_Mem → Prop) : Prop := ∀ σ μ : hb_Mem, Sim σ μ → ∀ (a1 a2 : Int32), ∃ (r : Int32) (σ' μ' : hb_Mem), fn_X5_takeChoice 0 a1 a2 σ = some (r, σ') ∧ fn_X6_takeChoice 0 a1 a2 μ = some (r, μ') ∧ Sim σ' μ'
def hs_exchange (Sim : hb_Mem → hb_Mem → Prop) : Prop := ∀ σ μ : hb_Mem, Sim σ μ → ∀ (a1 a2 : Int32), ∃ (r : Int32) (σ' μ' : hb_Mem), fn_X5_exchange 0 a1 a2 σ = some (r, σ') ∧ fn_X6_exchange 0 a1 a2 μ = some (r, μ') ∧ Sim σ' μ'
def hs_begin (Sim : hb_Mem → hb_Mem → Prop) : Prop := ∀ σ μ : hb_Mem, Sim σ μ → ∀ (a1 : Int32), ∃ (r : Int32) (σ' μ' : hb_Mem), fn_X5_begin 0 a1 σ = some (r, σ') ∧ fn_X6_begin 0 a1 μ = some (r, μ') ∧ Sim σ' μ'
def hs_choose (Sim : hb_Mem → hb_Mem → Prop) : Prop := ∀ σ μ : hb_Mem, Sim σ μ → ∀ (a1 a2 : Int32), ∃ (r : Int32) (σ' μ' : hb_Mem), fn_X5_choose 0 a1 a2 σ = some (r, σ') ∧ fn_X6_choose 0 a1 a2 μ = some (r, μ') ∧ Sim σ' μ'
def hs_mark (Sim : hb_Mem → hb_Mem → Prop) : Prop := ∀ σ μ : hb_Mem, Sim σ μ → ∀ (a1 : Int32), ∃ (r : Int32) (σ' μ' : hb_Mem), fn_X5_mark 0 a1 σ = some (r, σ') ∧ fn_X6_mark 0 a1 μ = some (r, μ') ∧ Sim σ' μ'
def hs_goToMark (Sim : hb_Mem → hb_Mem → Prop) : Prop := ∀ σ μ : hb_Mem, Sim σ μ → ∀ (a1 : Int32), ∃ (r : Int32) (σ' μ' : hb_Mem), fn_X5_goToMark 0 a1 σ = some (r, σ') ∧ fn_X6_goToMark 0 a1 μ = some (r, μ') ∧ Sim σ' μ'
def hs_type (Sim : hb_Mem → hb_Mem → Prop) : Prop := ∀ σ μ : hb_Mem, Sim σ μ → ∀ (a1 : Int32), ∃ (r : Int32) (σ' μ' : hb_Mem), fn_X5_type 0 ((a1.toUInt32 % 65536).toInt32) σ = some (r, σ') ∧ fn_X6_type 0 ((a1.toUInt32 % 65536).toInt32) μ = some (r, μ') ∧ Sim σ' μ'
def hs_clearText (Sim : hb_Mem → hb_Mem → Prop) : Prop := ∀ σ μ : hb_Mem, Sim σ μ → ∃ (r : Int32) (σ' μ' : hb_Mem), fn_X5_clearText 0 σ = some (r, σ') ∧ fn_X6_clearText 0 μ = some (r, μ') ∧ Sim σ' μ'
def hs_undo (Sim : hb_Mem → hb_Mem → Prop) : Prop := ∀ σ μ : hb_Mem, Sim σ μ → ∃ (r : Int32) (σ' μ' : hb_Mem), fn_X5_undo 0 σ = some (r, σ') ∧ fn_X6_undo 0 μ = some (r, μ') ∧ Sim σ' μ'
def hs_keep (Sim : hb_Mem → hb_Mem → Prop) : Prop := ∀ σ μ : hb_Mem, Sim σ μ → ∃ (r : Int32) (σ' μ' : hb_Mem), fn_X5_keep 0 σ = some (r, σ') ∧ fn_X6_keep 0 μ = some (r, μ') ∧ Sim σ' μ'
def hs_restore (Sim : hb_Mem → hb_Mem → Prop) : Prop := ∀ σ μ : hb_Mem, Sim σ μ → ∃ (r : Int32) (σ' μ' : hb_Mem), fn_X5_restore 0 σ = some (r, σ') ∧ fn_X6_restore 0 μ = some (r, μ') ∧ Sim σ' μ'
def hs_page (Sim : hb_Mem → hb_Mem → Prop) : Prop := ∀ σ μ : hb_Mem, Sim σ μ → ∀ (a1 a2 : Int32), ∃ (r : Int32) (σ' μ' : hb_Mem), fn_X5_page 0 a1 a2 σ = some (r, σ') ∧ fn_X6_page 0 a1 a2 μ = some (r, μ') ∧ Sim σ' μ'
def hs_choice (Sim : hb_Mem → hb_Mem → Prop) : Prop := ∀ σ μ : hb_Mem, Sim σ μ → ∀ (a1 a2 a3 : Int32), ∃ (r : Int32) (σ' μ' : hb_Mem), fn_X5_choice 0 a1 a2 a3 σ = some (r, σ') ∧ fn_X6_choice 0 a1 a2 a3 μ = some (r, μ') ∧ Sim σ' μ'
def hs_reader (Sim : hb_Mem → hb_Mem → Prop) : Prop := ∀ σ μ : hb_Mem, Sim σ μ → ∀ (a1 a2 : Int32), ∃ r : Int32, fn_X5_reader 0 a1 a2 σ = some r ∧ fn_X6_reader 0 a1 a2 μ = some r
def hs_why (Sim : hb_Mem → hb_Mem → Prop) : Prop := ∀ σ μ : hb_Mem, Sim σ μ → ∀ (a1 a2 : Int32), ∃ r : Int32, fn_X5_why 0 a1 a2 σ = some r ∧ fn_X6_why 0 a1 a2 μ = some r
def hs_way (Sim : hb_Mem → hb_Mem → Prop) : Prop := ∀ σ μ : hb_Mem, Sim σ μ → ∀ (a1 a2 : Int32), ∃ (r : Int32) (σ' μ' : hb_Mem), fn_X5_way 0 a1 a2 σ = some (r, σ') ∧ fn_X6_way 0 a1 a2 μ = some (r, μ') ∧ Sim σ' μ'
def hs_wayMood (Sim : hb_Mem → hb_Mem → Prop) : Prop := ∀ σ μ : hb_Mem, Sim σ μ → ∃ (r : Int32) (σ' μ' : hb_Mem), fn_X5_wayMood 0 σ = some (r, σ') ∧ fn_X6_wayMood 0 μ = some (r, μ') ∧ Sim σ' μ'
def hs_count (Sim : hb_Mem → hb_Mem → Prop) : Prop := ∀ σ μ : hb_Mem, Sim σ μ → ∀ (a1 : Int32), ∃ (r : Int32) (σ' μ' : hb_Mem), fn_X5_count 0 a1 σ = some (r, σ') ∧ fn_X6_count 0 a1 μ = some (r, μ') ∧ Sim σ' μ'
/-- what a simulation must say of every call -/
def hs_all (Sim : hb_Mem → hb_Mem → Prop) : Prop := hs_addPage Sim ∧ hs_setMood Sim ∧ hs_addChoice Sim ∧ hs_addChoices Sim ∧ hs_takeChoice Sim ∧ hs_exchange Sim ∧ hs_begin Sim ∧ hs_choose Sim ∧ hs_mark Sim ∧ hs_goToMark Sim ∧ hs_type Sim ∧ hs_clearText Sim ∧ hs_undo Sim ∧ hs_keep Sim ∧ hs_restore Sim ∧ hs_page Sim ∧ hs_choice Sim ∧ hs_reader Sim ∧ hs_why Sim ∧ hs_way Sim ∧ hs_wayMood Sim ∧ hs_count Sim
set_option maxRecDepth 100000 in
set_option maxHeartbeats 4000000 in
theorem lc_addPage {Γ : hb_Ctx} {G : hb_Gam} {Q : State → Prop} {b Ln : Nat} {xs : Nat → Int32} {i : Int32} (X : hb_X Γ cL_law 4 RL ΛL G 11 408) (hX : hl_scr Γ G b Ln xs) (h0 : vp_in i Ln) (h1 : vp_in (i + 1) Ln) (h2 : vp_in (i + 2) Ln) (h3 : vp_in (i + 3) Ln) (h4 : vp_in (i + 4) Ln) {Sim : hb_Mem → hb_Mem → Prop} {σ μ : hb_Mem} (hs : Sim σ μ) (hS : hs_addPage Sim) (hk : ∀ σ' μ', Sim σ' μ' → hb_W Γ ΛL G 4 Q (hl_mix σ' μ') [some (.ref b), some (.ref (G.2.2.2 0)), some (.ref (G.2.2.2 160)), some (.int i)] [] 734) : hb_W Γ ΛL G 4 Q (hl_mix σ μ) [some (.ref b), some (.ref (G.2.2.2 0)), some (.ref (G.2.2.2 160)), some (.int i)] [] 136 := by
  obtain ⟨r, σ', μ', e1, e2, hs'⟩ := hS σ μ hs (xs (i + 1).toNatClampNeg) (xs (i + 2).toNatClampNeg) (xs (i + 3).toNatClampNeg)
  refine ww_aload_n 137 X dL_law_136 rfl rfl ?_
  refine ww_aload_n 138 X dL_law_137 rfl rfl ?_
  refine ww_iload_n 139 X dL_law_138 rfl rfl ?_
  refine ww_iconst (v := 1) 140 X dL_law_139 rfl (by decide) ?_
  refine ww_iadd 141 X dL_law_140 rfl ?_
  refine ww_sld 142 X hX h1 dL_law_141 rfl ?_
  refine ww_aload_n 143 X dL_law_142 rfl rfl ?_
  refine ww_iload_n 144 X dL_law_143 rfl rfl ?_
  refine ww_iconst (v := 2) 145 X dL_law_144 rfl (by decide) ?_
  refine ww_iadd 146 X dL_law_145 rfl ?_
  refine ww_sld 147 X hX h2 dL_law_146 rfl ?_
  refine ww_aload_n 148 X dL_law_147 rfl rfl ?_
  refine ww_iload_n 149 X dL_law_148 rfl rfl ?_
  refine ww_iconst (v := 3) 150 X dL_law_149 rfl (by decide) ?_
  refine ww_iadd 151 X dL_law_150 rfl ?_
  refine ww_sld 152 X hX h3 dL_law_151 rfl ?_
  refine ww_lawX (n := 3) (σ' := σ') (rest := []) (st' := [.int r]) 155 X (ct_X5_addPage (hb_l Γ) G 0 ⟨by decide, rfl⟩ (xs (i + 1).toNatClampNeg) (xs (i + 2).toNatClampNeg) (xs (i + 3).toNatClampNeg) σ e1) ⟨List.mem_of_getElem? (i := 281) (by decide +kernel), List.mem_of_getElem? (i := 282) (by decide +kernel), List.mem_of_getElem? (i := 283) (by decide +kernel), List.mem_of_getElem? (i := 284) (by decide +kernel), List.mem_of_getElem? (i := 62) (by decide +kernel), ⟨by decide +kernel, by decide +kernel⟩, by decide +kernel⟩ rfl rfl ⟨by decide, by decide⟩ (Nat.le_of_ble_eq_true rfl) rfl rfl dL_law_152 rfl ?_
  refine ww_aload_n 156 X dL_law_155 rfl rfl ?_
  refine ww_aload_n 157 X dL_law_156 rfl rfl ?_
  refine ww_iload_n 158 X dL_law_157 rfl rfl ?_
  refine ww_iconst (v := 1) 159 X dL_law_158 rfl (by decide) ?_
  refine ww_iadd 160 X dL_law_159 rfl ?_
  refine ww_sld 161 X hX h1 dL_law_160 rfl ?_
  refine ww_aload_n 162 X dL_law_161 rfl rfl ?_
  refine ww_iload_n 163 X dL_law_162 rfl rfl ?_
  refine ww_iconst (v := 2) 164 X dL_law_163 rfl (by decide) ?_
  refine ww_iadd 165 X dL_law_164 rfl ?_
  refine ww_sld 166 X hX h2 dL_law_165 rfl ?_
  refine ww_aload_n 167 X dL_law_166 rfl rfl ?_
  refine ww_iload_n 168 X dL_law_167 rfl rfl ?_
  refine ww_iconst (v := 3) 169 X dL_law_168 rfl (by decide) ?_
  refine ww_iadd 170 X dL_law_169 rfl ?_
  refine ww_sld 171 X hX h3 dL_law_170 rfl ?_
  refine ww_lawM (n := 3) (μ' := μ') (rest := [.int r]) (st' := [.int r, .int r]) 174 X (ct_X6_addPage (hb_l Γ) (hl_G2 G) 0 ⟨by decide, rfl⟩ (xs (i + 1).toNatClampNeg) (xs (i + 2).toNatClampNeg) (xs (i + 3).toNatClampNeg) μ e2) ⟨List.mem_of_getElem? (i := 735) (by decide +kernel), List.mem_of_getElem? (i := 736) (by decide +kernel), List.mem_of_getElem? (i := 737) (by decide +kernel), List.mem_of_getElem? (i := 738) (by decide +kernel), List.mem_of_getElem? (i := 68) (by decide +kernel), ⟨by decide +kernel, by decide +kernel⟩, by decide +kernel⟩ rfl rfl ⟨by decide, by decide⟩ (Nat.le_of_ble_eq_true rfl) rfl rfl dL_law_171 rfl ?_
  refine ww_icmp_eq_t 734 X dL_law_174 (by decide) rfl ?_
  exact hk σ' μ' hs'
set_option maxRecDepth 100000 in
set_option maxHeartbeats 4000000 in
theorem lc_setMood {Γ : hb_Ctx} {G : hb_Gam} {Q : State → Prop} {b Ln : Nat} {xs : Nat → Int32} {i : Int32} (X : hb_X Γ cL_law 4 RL ΛL G 11 408) (hX : hl_scr Γ G b Ln xs) (h0 : vp_in i Ln) (h1 : vp_in (i + 1) Ln) (h2 : vp_in (i + 2) Ln) (h3 : vp_in (i + 3) Ln) (h4 : vp_in (i + 4) Ln) {Sim : hb_Mem → hb_Mem → Prop} {σ μ : hb_Mem} (hs : Sim σ μ) (hS : hs_setMood Sim) (hk : ∀ σ' μ', Sim σ' μ' → hb_W Γ ΛL G 4 Q (hl_mix σ' μ') [some (.ref b), some (.ref (G.2.2.2 0)), some (.ref (G.2.2.2 160)), some (.int i)] [] 734) : hb_W Γ ΛL G 4 Q (hl_mix σ μ) [some (.ref b), some (.ref (G.2.2.2 0)), some (.ref (G.2.2.2 160)), some (.int i)] [] 179 := by
  obtain ⟨r, σ', μ', e1, e2, hs'⟩ := hS σ μ hs (xs (i + 1).toNatClampNeg) (xs (i + 2).toNatClampNeg)
  refine ww_aload_n 180 X dL_law_179 rfl rfl ?_
  refine ww_aload_n 181 X dL_law_180 rfl rfl ?_
  refine ww_iload_n 182 X dL_law_181 rfl rfl ?_
  refine ww_iconst (v := 1) 183 X dL_law_182 rfl (by decide) ?_
  refine ww_iadd 184 X dL_law_183 rfl ?_
  refine ww_sld 185 X hX h1 dL_law_184 rfl ?_
  refine ww_aload_n 186 X dL_law_185 rfl rfl ?_
  refine ww_iload_n 187 X dL_law_186 rfl rfl ?_
  refine ww_iconst (v := 2) 188 X dL_law_187 rfl (by decide) ?_
  refine ww_iadd 189 X dL_law_188 rfl ?_
  refine ww_sld 190 X hX h2 dL_law_189 rfl ?_
  refine ww_lawX (n := 2) (σ' := σ') (rest := []) (st' := [.int r]) 193 X (ct_X5_setMood (hb_l Γ) G 0 ⟨by decide, rfl⟩ (xs (i + 1).toNatClampNeg) (xs (i + 2).toNatClampNeg) σ e1) ⟨List.mem_of_getElem? (i := 323) (by decide +kernel), List.mem_of_getElem? (i := 324) (by decide +kernel), List.mem_of_getElem? (i := 325) (by decide +kernel), List.mem_of_getElem? (i := 326) (by decide +kernel), List.mem_of_getElem? (i := 62) (by decide +kernel), ⟨by decide +kernel, by decide +kernel⟩, by decide +kernel⟩ rfl rfl ⟨by decide, by decide⟩ (Nat.le_of_ble_eq_true rfl) rfl rfl dL_law_190 rfl ?_
  refine ww_aload_n 194 X dL_law_193 rfl rfl ?_
  refine ww_aload_n 195 X dL_law_194 rfl rfl ?_
  refine ww_iload_n 196 X dL_law_195 rfl rfl ?_
  refine ww_iconst (v := 1) 197 X dL_law_196 rfl (by decide) ?_
  refine ww_iadd 198 X dL_law_197 rfl ?_
  refine ww_sld 199 X hX h1 dL_law_198 rfl ?_
  refine ww_aload_n 200 X dL_law_199 rfl rfl ?_
  refine ww_iload_n 201 X dL_law_200 rfl rfl ?_
  refine ww_iconst (v := 2) 202 X dL_law_201 rfl (by decide) ?_
  refine ww_iadd 203 X dL_law_202 rfl ?_
  refine ww_sld 204 X hX h2 dL_law_203 rfl ?_
  refine ww_lawM (n := 2) (μ' := μ') (rest := [.int r]) (st' := [.int r, .int r]) 207 X (ct_X6_setMood (hb_l Γ) (hl_G2 G) 0 ⟨by decide, rfl⟩ (xs (i + 1).toNatClampNeg) (xs (i + 2).toNatClampNeg) μ e2) ⟨List.mem_of_getElem? (i := 752) (by decide +kernel), List.mem_of_getElem? (i := 753) (by decide +kernel), List.mem_of_getElem? (i := 754) (by decide +kernel), List.mem_of_getElem? (i := 755) (by decide +kernel), List.mem_of_getElem? (i := 68) (by decide +kernel), ⟨by decide +kernel, by decide +kernel⟩, by decide +kernel⟩ rfl rfl ⟨by decide, by decide⟩ (Nat.le_of_ble_eq_true rfl) rfl rfl dL_law_204 rfl ?_
  refine ww_icmp_eq_t 734 X dL_law_207 (by decide) rfl ?_
  exact hk σ' μ' hs'
set_option maxRecDepth 100000 in
set_option maxHeartbeats 4000000 in
theorem lc_addChoice {Γ : hb_Ctx} {G : hb_Gam} {Q : State → Prop} {b Ln : Nat} {xs : Nat → Int32} {i : Int32} (X : hb_X Γ cL_law 4 RL ΛL G 11 408) (hX : hl_scr Γ G b Ln xs) (h0 : vp_in i Ln) (h1 : vp_in (i + 1) Ln) (h2 : vp_in (i + 2) Ln) (h3 : vp_in (i + 3) Ln) (h4 : vp_in (i + 4) Ln) {Sim : hb_Mem → hb_Mem → Prop} {σ μ : hb_Mem} (hs : Sim σ μ) (hS : hs_addChoice Sim) (hk : ∀ σ' μ', Sim σ' μ' → hb_W Γ ΛL G 4 Q (hl_mix σ' μ') [some (.ref b), some (.ref (G.2.2.2 0)), some (.ref (G.2.2.2 160)), some (.int i)] [] 734) : hb_W Γ ΛL G 4 Q (hl_mix σ μ) [some (.ref b), some (.ref (G.2.2.2 0)), some (.ref (G.2.2.2 160)), some (.int i)] [] 212 := by
  obtain ⟨r, σ', μ', e1, e2, hs'⟩ := hS σ μ hs (xs (i + 1).toNatClampNeg) (xs (i + 2).toNatClampNeg) (xs (i + 3).toNatClampNeg) (xs (i + 4).toNatClampNeg)
  refine ww_aload_n 213 X dL_law_212 rfl rfl ?_
  refine ww_aload_n 214 X dL_law_213 rfl rfl ?_
  refine ww_iload_n 215 X dL_law_214 rfl rfl ?_
  refine ww_iconst (v := 1) 216 X dL_law_215 rfl (by decide) ?_
  refine ww_iadd 217 X dL_law_216 rfl ?_
  refine ww_sld 218 X hX h1 dL_law_217 rfl ?_
  refine ww_aload_n 219 X dL_law_218 rfl rfl ?_
  refine ww_iload_n 220 X dL_law_219 rfl rfl ?_
  refine ww_iconst (v := 2) 221 X dL_law_220 rfl (by decide) ?_
  refine ww_iadd 222 X dL_law_221 rfl ?_
  refine ww_sld 223 X hX h2 dL_law_222 rfl ?_
  refine ww_aload_n 224 X dL_law_223 rfl rfl ?_
  refine ww_iload_n 225 X dL_law_224 rfl rfl ?_
  refine ww_iconst (v := 3) 226 X dL_law_225 rfl (by decide) ?_
  refine ww_iadd 227 X dL_law_226 rfl ?_
  refine ww_sld 228 X hX h3 dL_law_227 rfl ?_
  refine ww_aload_n 229 X dL_law_228 rfl rfl ?_
  refine ww_iload_n 230 X dL_law_229 rfl rfl ?_
  refine ww_iconst (v := 4) 231 X dL_law_230 rfl (by decide) ?_
  refine ww_iadd 232 X dL_law_231 rfl ?_
  refine ww_sld 233 X hX h4 dL_law_232 rfl ?_
  refine ww_lawX (n := 4) (σ' := σ') (rest := []) (st' := [.int r]) 236 X (ct_X5_addChoice (hb_l Γ) G 0 ⟨by decide, rfl⟩ (xs (i + 1).toNatClampNeg) (xs (i + 2).toNatClampNeg) (xs (i + 3).toNatClampNeg) (xs (i + 4).toNatClampNeg) σ e1) ⟨List.mem_of_getElem? (i := 333) (by decide +kernel), List.mem_of_getElem? (i := 334) (by decide +kernel), List.mem_of_getElem? (i := 335) (by decide +kernel), List.mem_of_getElem? (i := 336) (by decide +kernel), List.mem_of_getElem? (i := 62) (by decide +kernel), ⟨by decide +kernel, by decide +kernel⟩, by decide +kernel⟩ rfl rfl ⟨by decide, by decide⟩ (Nat.le_of_ble_eq_true rfl) rfl rfl dL_law_233 rfl ?_
  refine ww_aload_n 237 X dL_law_236 rfl rfl ?_
  refine ww_aload_n 238 X dL_law_237 rfl rfl ?_
  refine ww_iload_n 239 X dL_law_238 rfl rfl ?_
  refine ww_iconst (v := 1) 240 X dL_law_239 rfl (by decide) ?_
  refine ww_iadd 241 X dL_law_240 rfl ?_
  refine ww_sld 242 X hX h1 dL_law_241 rfl ?_
  refine ww_aload_n 243 X dL_law_242 rfl rfl ?_
  refine ww_iload_n 244 X dL_law_243 rfl rfl ?_
  refine ww_iconst (v := 2) 245 X dL_law_244 rfl (by decide) ?_
  refine ww_iadd 246 X dL_law_245 rfl ?_
  refine ww_sld 247 X hX h2 dL_law_246 rfl ?_
  refine ww_aload_n 248 X dL_law_247 rfl rfl ?_
  refine ww_iload_n 249 X dL_law_248 rfl rfl ?_
  refine ww_iconst (v := 3) 250 X dL_law_249 rfl (by decide) ?_
  refine ww_iadd 251 X dL_law_250 rfl ?_
  refine ww_sld 252 X hX h3 dL_law_251 rfl ?_
  refine ww_aload_n 253 X dL_law_252 rfl rfl ?_
  refine ww_iload_n 254 X dL_law_253 rfl rfl ?_
  refine ww_iconst (v := 4) 255 X dL_law_254 rfl (by decide) ?_
  refine ww_iadd 256 X dL_law_255 rfl ?_
  refine ww_sld 257 X hX h4 dL_law_256 rfl ?_
  refine ww_lawM (n := 4) (μ' := μ') (rest := [.int r]) (st' := [.int r, .int r]) 260 X (ct_X6_addChoice (hb_l Γ) (hl_G2 G) 0 ⟨by decide, rfl⟩ (xs (i + 1).toNatClampNeg) (xs (i + 2).toNatClampNeg) (xs (i + 3).toNatClampNeg) (xs (i + 4).toNatClampNeg) μ e2) ⟨List.mem_of_getElem? (i := 764) (by decide +kernel), List.mem_of_getElem? (i := 765) (by decide +kernel), List.mem_of_getElem? (i := 766) (by decide +kernel), List.mem_of_getElem? (i := 767) (by decide +kernel), List.mem_of_getElem? (i := 68) (by decide +kernel), ⟨by decide +kernel, by decide +kernel⟩, by decide +kernel⟩ rfl rfl ⟨by decide, by decide⟩ (Nat.le_of_ble_eq_true rfl) rfl rfl dL_law_257 rfl ?_
  refine ww_icmp_eq_t 734 X dL_law_260 (by decide) rfl ?_
  exact hk σ' μ' hs'
set_option maxRecDepth 100000 in
set_option maxHeartbeats 4000000 in
theorem lc_addChoices {Γ : hb_Ctx} {G : hb_Gam} {Q : State → Prop} {b Ln : Nat} {xs : Nat → Int32} {i : Int32} (X : hb_X Γ cL_law 4 RL ΛL G 11 408) (hX : hl_scr Γ G b Ln xs) (h0 : vp_in i Ln) (h1 : vp_in (i + 1) Ln) (h2 : vp_in (i + 2) Ln) (h3 : vp_in (i + 3) Ln) (h4 : vp_in (i + 4) Ln) {Sim : hb_Mem → hb_Mem → Prop} {σ μ : hb_Mem} (hs : Sim σ μ) (hS : hs_addChoices Sim) (hk : ∀ σ' μ', Sim σ' μ' → hb_W Γ ΛL G 4 Q (hl_mix σ' μ') [some (.ref b), some (.ref (G.2.2.2 0)), some (.ref (G.2.2.2 160)), some (.int i)] [] 734) : hb_W Γ ΛL G 4 Q (hl_mix σ μ) [some (.ref b), some (.ref (G.2.2.2 0)), some (.ref (G.2.2.2 160)), some (.int i)] [] 265 := by
  obtain ⟨r, σ', μ', e1, e2, hs'⟩ := hS σ μ hs
  refine ww_aload_n 266 X dL_law_265 rfl rfl ?_
  refine ww_lawX (n := 0) (σ' := σ') (rest := []) (st' := [.int r]) 269 X (ct_X5_addChoices (hb_l Γ) G 0 ⟨by decide, rfl⟩ σ e1) ⟨List.mem_of_getElem? (i := 351) (by decide +kernel), List.mem_of_getElem? (i := 352) (by decide +kernel), List.mem_of_getElem? (i := 353) (by decide +kernel), List.mem_of_getElem? (i := 354) (by decide +kernel), List.mem_of_getElem? (i := 62) (by decide +kernel), ⟨by decide +kernel, by decide +kernel⟩, by decide +kernel⟩ rfl rfl ⟨by decide, by decide⟩ (Nat.le_of_ble_eq_true rfl) rfl rfl dL_law_266 rfl ?_
  refine ww_aload_n 270 X dL_law_269 rfl rfl ?_
  refine ww_lawM (n := 0) (μ' := μ') (rest := [.int r]) (st' := [.int r, .int r]) 273 X (ct_X6_addChoices (hb_l Γ) (hl_G2 G) 0 ⟨by decide, rfl⟩ μ e2) ⟨List.mem_of_getElem? (i := 994) (by decide +kernel), List.mem_of_getElem? (i := 995) (by decide +kernel), List.mem_of_getElem? (i := 996) (by decide +kernel), List.mem_of_getElem? (i := 997) (by decide +kernel), List.mem_of_getElem? (i := 68) (by decide +kernel), ⟨by decide +kernel, by decide +kernel⟩, by decide +kernel⟩ rfl rfl ⟨by decide, by decide⟩ (Nat.le_of_ble_eq_true rfl) rfl rfl dL_law_270 rfl ?_
  refine ww_icmp_eq_t 734 X dL_law_273 (by decide) rfl ?_
  exact hk σ' μ' hs'
set_option maxRecDepth 100000 in
set_option maxHeartbeats 4000000 in
theorem lc_takeChoice {Γ : hb_Ctx} {G : hb_Gam} {Q : State → Prop} {b Ln : Nat} {xs : Nat → Int32} {i : Int32} (X : hb_X Γ cL_law 4 RL ΛL G 11 408) (hX : hl_scr Γ G b Ln xs) (h0 : vp_in i Ln) (h1 : vp_in (i + 1) Ln) (h2 : vp_in (i + 2) Ln) (h3 : vp_in (i + 3) Ln) (h4 : vp_in (i + 4) Ln) {Sim : hb_Mem → hb_Mem → Prop} {σ μ : hb_Mem} (hs : Sim σ μ) (hS : hs_takeChoice Sim) (hk : ∀ σ' μ', Sim σ' μ' → hb_W Γ ΛL G 4 Q (hl_mix σ' μ') [some (.ref b), some (.ref (G.2.2.2 0)), some (.ref (G.2.2.2 160)), some (.int i)] [] 734) : hb_W Γ ΛL G 4 Q (hl_mix σ μ) [some (.ref b), some (.ref (G.2.2.2 0)), some (.ref (G.2.2.2 160)), some (.int i)] [] 278 := by
  obtain ⟨r, σ', μ', e1, e2, hs'⟩ := hS σ μ hs (xs (i + 1).toNatClampNeg) (xs (i + 2).toNatClampNeg)
  refine ww_aload_n 279 X dL_law_278 rfl rfl ?_
  refine ww_aload_n 280 X dL_law_279 rfl rfl ?_
  refine ww_iload_n 281 X dL_law_280 rfl rfl ?_
  refine ww_iconst (v := 1) 282 X dL_law_281 rfl (by decide) ?_
  refine ww_iadd 283 X dL_law_282 rfl ?_
  refine ww_sld 284 X hX h1 dL_law_283 rfl ?_
  refine ww_aload_n 285 X dL_law_284 rfl rfl ?_
  refine ww_iload_n 286 X dL_law_285 rfl rfl ?_
  refine ww_iconst (v := 2) 287 X dL_law_286 rfl (by decide) ?_
  refine ww_iadd 288 X dL_law_287 rfl ?_
  refine ww_sld 289 X hX h2 dL_law_288 rfl ?_
  refine ww_lawX (n := 2) (σ' := σ') (rest := []) (st' := [.int r]) 292 X (ct_X5_takeChoice (hb_l Γ) G 0 ⟨by decide, rfl⟩ (xs (i + 1).toNatClampNeg) (xs (i + 2).toNatClampNeg) σ e1) ⟨List.mem_of_getElem? (i := 385) (by decide +kernel), List.mem_of_getElem? (i := 386) (by decide +kernel), List.mem_of_getElem? (i := 387) (by decide +kernel), List.mem_of_getElem? (i := 388) (by decide +kernel), List.mem_of_getElem? (i := 62) (by decide +kernel), ⟨by decide +kernel, by decide +kernel⟩, by decide +kernel⟩ rfl rfl ⟨by decide, by decide⟩ (Nat.le_of_ble_eq_true rfl) rfl rfl dL_law_289 rfl ?_
  refine ww_aload_n 293 X dL_law_292 rfl rfl ?_
  refine ww_aload_n 294 X dL_law_293 rfl rfl ?_
  refine ww_iload_n 295 X dL_law_294 rfl rfl ?_
  refine ww_iconst (v := 1) 296 X dL_law_295 rfl (by decide) ?_
  refine ww_iadd 297 X dL_law_296 rfl ?_
  refine ww_sld 298 X hX h1 dL_law_297 rfl ?_
  refine ww_aload_n 299 X dL_law_298 rfl rfl ?_
  refine ww_iload_n 300 X dL_law_299 rfl rfl ?_
  refine ww_iconst (v := 2) 301 X dL_law_300 rfl (by decide) ?_
  refine ww_iadd 302 X dL_law_301 rfl ?_
  refine ww_sld 303 X hX h2 dL_law_302 rfl ?_
  refine ww_lawM (n := 2) (μ' := μ') (rest := [.int r]) (st' := [.int r, .int r]) 306 X (ct_X6_takeChoice (hb_l Γ) (hl_G2 G) 0 ⟨by decide, rfl⟩ (xs (i + 1).toNatClampNeg) (xs (i + 2).toNatClampNeg) μ e2) ⟨List.mem_of_getElem? (i := 776) (by decide +kernel), List.mem_of_getElem? (i := 777) (by decide +kernel), List.mem_of_getElem? (i := 778) (by decide +kernel), List.mem_of_getElem? (i := 779) (by decide +kernel), List.mem_of_getElem? (i := 68) (by decide +kernel), ⟨by decide +kernel, by decide +kernel⟩, by decide +kernel⟩ rfl rfl ⟨by decide, by decide⟩ (Nat.le_of_ble_eq_true rfl) rfl rfl dL_law_303 rfl ?_
  refine ww_icmp_eq_t 734 X dL_law_306 (by decide) rfl ?_
  exact hk σ' μ' hs'
set_option maxRecDepth 100000 in
set_option maxHeartbeats 4000000 in
theorem lc_exchange {Γ : hb_Ctx} {G : hb_Gam} {Q : State → Prop} {b Ln : Nat} {xs : Nat → Int32} {i : Int32} (X : hb_X Γ cL_law 4 RL ΛL G 11 408) (hX : hl_scr Γ G b Ln xs) (h0 : vp_in i Ln) (h1 : vp_in (i + 1) Ln) (h2 : vp_in (i + 2) Ln) (h3 : vp_in (i + 3) Ln) (h4 : vp_in (i + 4) Ln) {Sim : hb_Mem → hb_Mem → Prop} {σ μ : hb_Mem} (hs : Sim σ μ) (hS : hs_exchange Sim) (hk : ∀ σ' μ', Sim σ' μ' → hb_W Γ ΛL G 4 Q (hl_mix σ' μ') [some (.ref b), some (.ref (G.2.2.2 0)), some (.ref (G.2.2.2 160)), some (.int i)] [] 734) : hb_W Γ ΛL G 4 Q (hl_mix σ μ) [some (.ref b), some (.ref (G.2.2.2 0)), some (.ref (G.2.2.2 160)), some (.int i)] [] 311 := by
  obtain ⟨r, σ', μ', e1, e2, hs'⟩ := hS σ μ hs (xs (i + 1).toNatClampNeg) (xs (i + 2).toNatClampNeg)
  refine ww_aload_n 312 X dL_law_311 rfl rfl ?_
  refine ww_aload_n 313 X dL_law_312 rfl rfl ?_
  refine ww_iload_n 314 X dL_law_313 rfl rfl ?_
  refine ww_iconst (v := 1) 315 X dL_law_314 rfl (by decide) ?_
  refine ww_iadd 316 X dL_law_315 rfl ?_
  refine ww_sld 317 X hX h1 dL_law_316 rfl ?_
  refine ww_aload_n 318 X dL_law_317 rfl rfl ?_
  refine ww_iload_n 319 X dL_law_318 rfl rfl ?_
  refine ww_iconst (v := 2) 320 X dL_law_319 rfl (by decide) ?_
  refine ww_iadd 321 X dL_law_320 rfl ?_
  refine ww_sld 322 X hX h2 dL_law_321 rfl ?_
  refine ww_lawX (n := 2) (σ' := σ') (rest := []) (st' := [.int r]) 325 X (ct_X5_exchange (hb_l Γ) G 0 ⟨by decide, rfl⟩ (xs (i + 1).toNatClampNeg) (xs (i + 2).toNatClampNeg) σ e1) ⟨List.mem_of_getElem? (i := 397) (by decide +kernel), List.mem_of_getElem? (i := 398) (by decide +kernel), List.mem_of_getElem? (i := 399) (by decide +kernel), List.mem_of_getElem? (i := 400) (by decide +kernel), List.mem_of_getElem? (i := 62) (by decide +kernel), ⟨by decide +kernel, by decide +kernel⟩, by decide +kernel⟩ rfl rfl ⟨by decide, by decide⟩ (Nat.le_of_ble_eq_true rfl) rfl rfl dL_law_322 rfl ?_
  refine ww_aload_n 326 X dL_law_325 rfl rfl ?_
  refine ww_aload_n 327 X dL_law_326 rfl rfl ?_
  refine ww_iload_n 328 X dL_law_327 rfl rfl ?_
  refine ww_iconst (v := 1) 329 X dL_law_328 rfl (by decide) ?_
  refine ww_iadd 330 X dL_law_329 rfl ?_
  refine ww_sld 331 X hX h1 dL_law_330 rfl ?_
  refine ww_aload_n 332 X dL_law_331 rfl rfl ?_
  refine ww_iload_n 333 X dL_law_332 rfl rfl ?_
  refine ww_iconst (v := 2) 334 X dL_law_333 rfl (by decide) ?_
  refine ww_iadd 335 X dL_law_334 rfl ?_
  refine ww_sld 336 X hX h2 dL_law_335 rfl ?_
  refine ww_lawM (n := 2) (μ' := μ') (rest := [.int r]) (st' := [.int r, .int r]) 339 X (ct_X6_exchange (hb_l Γ) (hl_G2 G) 0 ⟨by decide, rfl⟩ (xs (i + 1).toNatClampNeg) (xs (i + 2).toNatClampNeg) μ e2) ⟨List.mem_of_getElem? (i := 788) (by decide +kernel), List.mem_of_getElem? (i := 789) (by decide +kernel), List.mem_of_getElem? (i := 790) (by decide +kernel), List.mem_of_getElem? (i := 791) (by decide +kernel), List.mem_of_getElem? (i := 68) (by decide +kernel), ⟨by decide +kernel, by decide +kernel⟩, by decide +kernel⟩ rfl rfl ⟨by decide, by decide⟩ (Nat.le_of_ble_eq_true rfl) rfl rfl dL_law_336 rfl ?_
  refine ww_icmp_eq_t 734 X dL_law_339 (by decide) rfl ?_
  exact hk σ' μ' hs'
set_option maxRecDepth 100000 in
set_option maxHeartbeats 4000000 in
theorem lc_begin {Γ : hb_Ctx} {G : hb_Gam} {Q : State → Prop} {b Ln : Nat} {xs : Nat → Int32} {i : Int32} (X : hb_X Γ cL_law 4 RL ΛL G 11 408) (hX : hl_scr Γ G b Ln xs) (h0 : vp_in i Ln) (h1 : vp_in (i + 1) Ln) (h2 : vp_in (i + 2) Ln) (h3 : vp_in (i + 3) Ln) (h4 : vp_in (i + 4) Ln) {Sim : hb_Mem → hb_Mem → Prop} {σ μ : hb_Mem} (hs : Sim σ μ) (hS : hs_begin Sim) (hk : ∀ σ' μ', Sim σ' μ' → hb_W Γ ΛL G 4 Q (hl_mix σ' μ') [some (.ref b), some (.ref (G.2.2.2 0)), some (.ref (G.2.2.2 160)), some (.int i)] [] 734) : hb_W Γ ΛL G 4 Q (hl_mix σ μ) [some (.ref b), some (.ref (G.2.2.2 0)), some (.ref (G.2.2.2 160)), some (.int i)] [] 344 := by
  obtain ⟨r, σ', μ', e1, e2, hs'⟩ := hS σ μ hs (xs (i + 1).toNatClampNeg)
  refine ww_aload_n 345 X dL_law_344 rfl rfl ?_
  refine ww_aload_n 346 X dL_law_345 rfl rfl ?_
  refine ww_iload_n 347 X dL_law_346 rfl rfl ?_
  refine ww_iconst (v := 1) 348 X dL_law_347 rfl (by decide) ?_
  refine ww_iadd 349 X dL_law_348 rfl ?_
  refine ww_sld 350 X hX h1 dL_law_349 rfl ?_
  refine ww_lawX (n := 1) (σ' := σ') (rest := []) (st' := [.int r]) 353 X (ct_X5_begin (hb_l Γ) G 0 ⟨by decide, rfl⟩ (xs (i + 1).toNatClampNeg) σ e1) ⟨List.mem_of_getElem? (i := 432) (by decide +kernel), List.mem_of_getElem? (i := 433) (by decide +kernel), List.mem_of_getElem? (i := 434) (by decide +kernel), List.mem_of_getElem? (i := 435) (by decide +kernel), List.mem_of_getElem? (i := 62) (by decide +kernel), ⟨by decide +kernel, by decide +kernel⟩, by decide +kernel⟩ rfl rfl ⟨by decide, by decide⟩ (Nat.le_of_ble_eq_true rfl) rfl rfl dL_law_350 rfl ?_
  refine ww_aload_n 354 X dL_law_353 rfl rfl ?_
  refine ww_aload_n 355 X dL_law_354 rfl rfl ?_
  refine ww_iload_n 356 X dL_law_355 rfl rfl ?_
  refine ww_iconst (v := 1) 357 X dL_law_356 rfl (by decide) ?_
  refine ww_iadd 358 X dL_law_357 rfl ?_
  refine ww_sld 359 X hX h1 dL_law_358 rfl ?_
  refine ww_lawM (n := 1) (μ' := μ') (rest := [.int r]) (st' := [.int r, .int r]) 362 X (ct_X6_begin (hb_l Γ) (hl_G2 G) 0 ⟨by decide, rfl⟩ (xs (i + 1).toNatClampNeg) μ e2) ⟨List.mem_of_getElem? (i := 799) (by decide +kernel), List.mem_of_getElem? (i := 800) (by decide +kernel), List.mem_of_getElem? (i := 801) (by decide +kernel), List.mem_of_getElem? (i := 802) (by decide +kernel), List.mem_of_getElem? (i := 68) (by decide +kernel), ⟨by decide +kernel, by decide +kernel⟩, by decide +kernel⟩ rfl rfl ⟨by decide, by decide⟩ (Nat.le_of_ble_eq_true rfl) rfl rfl dL_law_359 rfl ?_
  refine ww_icmp_eq_t 734 X dL_law_362 (by decide) rfl ?_
  exact hk σ' μ' hs'
set_option maxRecDepth 100000 in
set_option maxHeartbeats 4000000 in
theorem lc_choose {Γ : hb_Ctx} {G : hb_Gam} {Q : State → Prop} {b Ln : Nat} {xs : Nat → Int32} {i : Int32} (X : hb_X Γ cL_law 4 RL ΛL G 11 408) (hX : hl_scr Γ G b Ln xs) (h0 : vp_in i Ln) (h1 : vp_in (i + 1) Ln) (h2 : vp_in (i + 2) Ln) (h3 : vp_in (i + 3) Ln) (h4 : vp_in (i + 4) Ln) {Sim : hb_Mem → hb_Mem → Prop} {σ μ : hb_Mem} (hs : Sim σ μ) (hS : hs_choose Sim) (hk : ∀ σ' μ', Sim σ' μ' → hb_W Γ ΛL G 4 Q (hl_mix σ' μ') [some (.ref b), some (.ref (G.2.2.2 0)), some (.ref (G.2.2.2 160)), some (.int i)] [] 734) : hb_W Γ ΛL G 4 Q (hl_mix σ μ) [some (.ref b), some (.ref (G.2.2.2 0)), some (.ref (G.2.2.2 160)), some (.int i)] [] 367 := by
  obtain ⟨r, σ', μ', e1, e2, hs'⟩ := hS σ μ hs (xs (i + 1).toNatClampNeg) (xs (i + 2).toNatClampNeg)
  refine ww_aload_n 368 X dL_law_367 rfl rfl ?_
  refine ww_aload_n 369 X dL_law_368 rfl rfl ?_
  refine ww_iload_n 370 X dL_law_369 rfl rfl ?_
  refine ww_iconst (v := 1) 371 X dL_law_370 rfl (by decide) ?_
  refine ww_iadd 372 X dL_law_371 rfl ?_
  refine ww_sld 373 X hX h1 dL_law_372 rfl ?_
  refine ww_aload_n 374 X dL_law_373 rfl rfl ?_
  refine ww_iload_n 375 X dL_law_374 rfl rfl ?_
  refine ww_iconst (v := 2) 376 X dL_law_375 rfl (by decide) ?_
  refine ww_iadd 377 X dL_law_376 rfl ?_
  refine ww_sld 378 X hX h2 dL_law_377 rfl ?_
  refine ww_lawX (n := 2) (σ' := σ') (rest := []) (st' := [.int r]) 381 X (ct_X5_choose (hb_l Γ) G 0 ⟨by decide, rfl⟩ (xs (i + 1).toNatClampNeg) (xs (i + 2).toNatClampNeg) σ e1) ⟨List.mem_of_getElem? (i := 452) (by decide +kernel), List.mem_of_getElem? (i := 453) (by decide +kernel), List.mem_of_getElem? (i := 454) (by decide +kernel), List.mem_of_getElem? (i := 455) (by decide +kernel), List.mem_of_getElem? (i := 62) (by decide +kernel), ⟨by decide +kernel, by decide +kernel⟩, by decide +kernel⟩ rfl rfl ⟨by decide, by decide⟩ (Nat.le_of_ble_eq_true rfl) rfl rfl dL_law_378 rfl ?_
  refine ww_aload_n 382 X dL_law_381 rfl rfl ?_
  refine ww_aload_n 383 X dL_law_382 rfl rfl ?_
  refine ww_iload_n 384 X dL_law_383 rfl rfl ?_
  refine ww_iconst (v := 1) 385 X dL_law_384 rfl (by decide) ?_
  refine ww_iadd 386 X dL_law_385 rfl ?_
  refine ww_sld 387 X hX h1 dL_law_386 rfl ?_
  refine ww_aload_n 388 X dL_law_387 rfl rfl ?_
  refine ww_iload_n 389 X dL_law_388 rfl rfl ?_
  refine ww_iconst (v := 2) 390 X dL_law_389 rfl (by decide) ?_
  refine ww_iadd 391 X dL_law_390 rfl ?_
  refine ww_sld 392 X hX h2 dL_law_391 rfl ?_
  refine ww_lawM (n := 2) (μ' := μ') (rest := [.int r]) (st' := [.int r, .int r]) 395 X (ct_X6_choose (hb_l Γ) (hl_G2 G) 0 ⟨by decide, rfl⟩ (xs (i + 1).toNatClampNeg) (xs (i + 2).toNatClampNeg) μ e2) ⟨List.mem_of_getElem? (i := 830) (by decide +kernel), List.mem_of_getElem? (i := 831) (by decide +kernel), List.mem_of_getElem? (i := 832) (by decide +kernel), List.mem_of_getElem? (i := 833) (by decide +kernel), List.mem_of_getElem? (i := 68) (by decide +kernel), ⟨by decide +kernel, by decide +kernel⟩, by decide +kernel⟩ rfl rfl ⟨by decide, by decide⟩ (Nat.le_of_ble_eq_true rfl) rfl rfl dL_law_392 rfl ?_
  refine ww_icmp_eq_t 734 X dL_law_395 (by decide) rfl ?_
  exact hk σ' μ' hs'
set_option maxRecDepth 100000 in
set_option maxHeartbeats 4000000 in
theorem lc_mark {Γ : hb_Ctx} {G : hb_Gam} {Q : State → Prop} {b Ln : Nat} {xs : Nat → Int32} {i : Int32} (X : hb_X Γ cL_law 4 RL ΛL G 11 408) (hX : hl_scr Γ G b Ln xs) (h0 : vp_in i Ln) (h1 : vp_in (i + 1) Ln) (h2 : vp_in (i + 2) Ln) (h3 : vp_in (i + 3) Ln) (h4 : vp_in (i + 4) Ln) {Sim : hb_Mem → hb_Mem → Prop} {σ μ : hb_Mem} (hs : Sim σ μ) (hS : hs_mark Sim) (hk : ∀ σ' μ', Sim σ' μ' → hb_W Γ ΛL G 4 Q (hl_mix σ' μ') [some (.ref b), some (.ref (G.2.2.2 0)), some (.ref (G.2.2.2 160)), some (.int i)] [] 734) : hb_W Γ ΛL G 4 Q (hl_mix σ μ) [some (.ref b), some (.ref (G.2.2.2 0)), some (.ref (G.2.2.2 160)), some (.int i)] [] 400 := by
  obtain ⟨r, σ', μ', e1, e2, hs'⟩ := hS σ μ hs (xs (i + 1).toNatClampNeg)
  refine ww_aload_n 401 X dL_law_400 rfl rfl ?_
  refine ww_aload_n 402 X dL_law_401 rfl rfl ?_
  refine ww_iload_n 403 X dL_law_402 rfl rfl ?_
  refine ww_iconst (v := 1) 404 X dL_law_403 rfl (by decide) ?_
  refine ww_iadd 405 X dL_law_404 rfl ?_
  refine ww_sld 406 X hX h1 dL_law_405 rfl ?_
  refine ww_lawX (n := 1) (σ' := σ') (rest := []) (st' := [.int r]) 409 X (ct_X5_mark (hb_l Γ) G 0 ⟨by decide, rfl⟩ (xs (i + 1).toNatClampNeg) σ e1) ⟨List.mem_of_getElem? (i := 472) (by decide +kernel), List.mem_of_getElem? (i := 473) (by decide +kernel), List.mem_of_getElem? (i := 474) (by decide +kernel), List.mem_of_getElem? (i := 475) (by decide +kernel), List.mem_of_getElem? (i := 62) (by decide +kernel), ⟨by decide +kernel, by decide +kernel⟩, by decide +kernel⟩ rfl rfl ⟨by decide, by decide⟩ (Nat.le_of_ble_eq_true rfl) rfl rfl dL_law_406 rfl ?_
  refine ww_aload_n 410 X dL_law_409 rfl rfl ?_
  refine ww_aload_n 411 X dL_law_410 rfl rfl ?_
  refine ww_iload_n 412 X dL_law_411 rfl rfl ?_
  refine ww_iconst (v := 1) 413 X dL_law_412 rfl (by decide) ?_
  refine ww_iadd 414 X dL_law_413 rfl ?_
  refine ww_sld 415 X hX h1 dL_law_414 rfl ?_
  refine ww_lawM (n := 1) (μ' := μ') (rest := [.int r]) (st' := [.int r, .int r]) 418 X (ct_X6_mark (hb_l Γ) (hl_G2 G) 0 ⟨by decide, rfl⟩ (xs (i + 1).toNatClampNeg) μ e2) ⟨List.mem_of_getElem? (i := 835) (by decide +kernel), List.mem_of_getElem? (i := 836) (by decide +kernel), List.mem_of_getElem? (i := 837) (by decide +kernel), List.mem_of_getElem? (i := 838) (by decide +kernel), List.mem_of_getElem? (i := 68) (by decide +kernel), ⟨by decide +kernel, by decide +kernel⟩, by decide +kernel⟩ rfl rfl ⟨by decide, by decide⟩ (Nat.le_of_ble_eq_true rfl) rfl rfl dL_law_415 rfl ?_
  refine ww_icmp_eq_t 734 X dL_law_418 (by decide) rfl ?_
  exact hk σ' μ' hs'
set_option maxRecDepth 100000 in
set_option maxHeartbeats 4000000 in
theorem lc_goToMark {Γ : hb_Ctx} {G : hb_Gam} {Q : State → Prop} {b Ln : Nat} {xs : Nat → Int32} {i : Int32} (X : hb_X Γ cL_law 4 RL ΛL G 11 408) (hX : hl_scr Γ G b Ln xs) (h0 : vp_in i Ln) (h1 : vp_in (i + 1) Ln) (h2 : vp_in (i + 2) Ln) (h3 : vp_in (i + 3) Ln) (h4 : vp_in (i + 4) Ln) {Sim : hb_Mem → hb_Mem → Prop} {σ μ : hb_Mem} (hs : Sim σ μ) (hS : hs_goToMark Sim) (hk : ∀ σ' μ', Sim σ' μ' → hb_W Γ ΛL G 4 Q (hl_mix σ' μ') [some (.ref b), some (.ref (G.2.2.2 0)), some (.ref (G.2.2.2 160)), some (.int i)] [] 734) : hb_W Γ ΛL G 4 Q (hl_mix σ μ) [some (.ref b), some (.ref (G.2.2.2 0)), some (.ref (G.2.2.2 160)), some (.int i)] [] 423 := by
  obtain ⟨r, σ', μ', e1, e2, hs'⟩ := hS σ μ hs (xs (i + 1).toNatClampNeg)
  refine ww_aload_n 424 X dL_law_423 rfl rfl ?_
  refine ww_aload_n 425 X dL_law_424 rfl rfl ?_
  refine ww_iload_n 426 X dL_law_425 rfl rfl ?_
  refine ww_iconst (v := 1) 427 X dL_law_426 rfl (by decide) ?_
  refine ww_iadd 428 X dL_law_427 rfl ?_
  refine ww_sld 429 X hX h1 dL_law_428 rfl ?_
  refine ww_lawX (n := 1) (σ' := σ') (rest := []) (st' := [.int r]) 432 X (ct_X5_goToMark (hb_l Γ) G 0 ⟨by decide, rfl⟩ (xs (i + 1).toNatClampNeg) σ e1) ⟨List.mem_of_getElem? (i := 476) (by decide +kernel), List.mem_of_getElem? (i := 477) (by decide +kernel), List.mem_of_getElem? (i := 478) (by decide +kernel), List.mem_of_getElem? (i := 479) (by decide +kernel), List.mem_of_getElem? (i := 62) (by decide +kernel), ⟨by decide +kernel, by decide +kernel⟩, by decide +kernel⟩ rfl rfl ⟨by decide, by decide⟩ (Nat.le_of_ble_eq_true rfl) rfl rfl dL_law_429 rfl ?_
  refine ww_aload_n 433 X dL_law_432 rfl rfl ?_
  refine ww_aload_n 434 X dL_law_433 rfl rfl ?_
  refine ww_iload_n 435 X dL_law_434 rfl rfl ?_
  refine ww_iconst (v := 1) 436 X dL_law_435 rfl (by decide) ?_
  refine ww_iadd 437 X dL_law_436 rfl ?_
  refine ww_sld 438 X hX h1 dL_law_437 rfl ?_
  refine ww_lawM (n := 1) (μ' := μ') (rest := [.int r]) (st' := [.int r, .int r]) 441 X (ct_X6_goToMark (hb_l Γ) (hl_G2 G) 0 ⟨by decide, rfl⟩ (xs (i + 1).toNatClampNeg) μ e2) ⟨List.mem_of_getElem? (i := 843) (by decide +kernel), List.mem_of_getElem? (i := 844) (by decide +kernel), List.mem_of_getElem? (i := 845) (by decide +kernel), List.mem_of_getElem? (i := 846) (by decide +kernel), List.mem_of_getElem? (i := 68) (by decide +kernel), ⟨by decide +kernel, by decide +kernel⟩, by decide +kernel⟩ rfl rfl ⟨by decide, by decide⟩ (Nat.le_of_ble_eq_true rfl) rfl rfl dL_law_438 rfl ?_
  refine ww_icmp_eq_t 734 X dL_law_441 (by decide) rfl ?_
  exact hk σ' μ' hs'
set_option maxRecDepth 100000 in
set_option maxHeartbeats 4000000 in
theorem lc_type {Γ : hb_Ctx} {G : hb_Gam} {Q : State → Prop} {b Ln : Nat} {xs : Nat → Int32} {i : Int32} (X : hb_X Γ cL_law 4 RL ΛL G 11 408) (hX : hl_scr Γ G b Ln xs) (h0 : vp_in i Ln) (h1 : vp_in (i + 1) Ln) (h2 : vp_in (i + 2) Ln) (h3 : vp_in (i + 3) Ln) (h4 : vp_in (i + 4) Ln) {Sim : hb_Mem → hb_Mem → Prop} {σ μ : hb_Mem} (hs : Sim σ μ) (hS : hs_type Sim) (hk : ∀ σ' μ', Sim σ' μ' → hb_W Γ ΛL G 4 Q (hl_mix σ' μ') [some (.ref b), some (.ref (G.2.2.2 0)), some (.ref (G.2.2.2 160)), some (.int i)] [] 734) : hb_W Γ ΛL G 4 Q (hl_mix σ μ) [some (.ref b), some (.ref (G.2.2.2 0)), some (.ref (G.2.2.2 160)), some (.int i)] [] 446 := by
  obtain ⟨r, σ', μ', e1, e2, hs'⟩ := hS σ μ hs (xs (i + 1).toNatClampNeg)
  refine ww_aload_n 447 X dL_law_446 rfl rfl ?_
  refine ww_aload_n 448 X dL_law_447 rfl rfl ?_
  refine ww_iload_n 449 X dL_law_448 rfl rfl ?_
  refine ww_iconst (v := 1) 450 X dL_law_449 rfl (by decide) ?_
  refine ww_iadd 451 X dL_law_450 rfl ?_
  refine ww_sld 452 X hX h1 dL_law_451 rfl ?_
  refine ww_i2c 453 X dL_law_452 rfl ?_
  refine ww_lawX (n := 1) (σ' := σ') (rest := []) (st' := [.int r]) 456 X (ct_X5_type (hb_l Γ) G 0 ⟨by decide, rfl⟩ (((xs (i + 1).toNatClampNeg).toUInt32 % 65536).toInt32) σ e1) ⟨List.mem_of_getElem? (i := 480) (by decide +kernel), List.mem_of_getElem? (i := 481) (by decide +kernel), List.mem_of_getElem? (i := 482) (by decide +kernel), List.mem_of_getElem? (i := 483) (by decide +kernel), List.mem_of_getElem? (i := 62) (by decide +kernel), ⟨by decide +kernel, by decide +kernel⟩, by decide +kernel⟩ rfl rfl ⟨by decide, by decide⟩ (Nat.le_of_ble_eq_true rfl) rfl rfl dL_law_453 rfl ?_
  refine ww_aload_n 457 X dL_law_456 rfl rfl ?_
  refine ww_aload_n 458 X dL_law_457 rfl rfl ?_
  refine ww_iload_n 459 X dL_law_458 rfl rfl ?_
  refine ww_iconst (v := 1) 460 X dL_law_459 rfl (by decide) ?_
  refine ww_iadd 461 X dL_law_460 rfl ?_
  refine ww_sld 462 X hX h1 dL_law_461 rfl ?_
  refine ww_i2c 463 X dL_law_462 rfl ?_
  refine ww_lawM (n := 1) (μ' := μ') (rest := [.int r]) (st' := [.int r, .int r]) 466 X (ct_X6_type (hb_l Γ) (hl_G2 G) 0 ⟨by decide, rfl⟩ (((xs (i + 1).toNatClampNeg).toUInt32 % 65536).toInt32) μ e2) ⟨List.mem_of_getElem? (i := 986) (by decide +kernel), List.mem_of_getElem? (i := 987) (by decide +kernel), List.mem_of_getElem? (i := 988) (by decide +kernel), List.mem_of_getElem? (i := 989) (by decide +kernel), List.mem_of_getElem? (i := 68) (by decide +kernel), ⟨by decide +kernel, by decide +kernel⟩, by decide +kernel⟩ rfl rfl ⟨by decide, by decide⟩ (Nat.le_of_ble_eq_true rfl) rfl rfl dL_law_463 rfl ?_
  refine ww_icmp_eq_t 734 X dL_law_466 (by decide) rfl ?_
  exact hk σ' μ' hs'
set_option maxRecDepth 100000 in
set_option maxHeartbeats 4000000 in
theorem lc_clearText {Γ : hb_Ctx} {G : hb_Gam} {Q : State → Prop} {b Ln : Nat} {xs : Nat → Int32} {i : Int32} (X : hb_X Γ cL_law 4 RL ΛL G 11 408) (hX : hl_scr Γ G b Ln xs) (h0 : vp_in i Ln) (h1 : vp_in (i + 1) Ln) (h2 : vp_in (i + 2) Ln) (h3 : vp_in (i + 3) Ln) (h4 : vp_in (i + 4) Ln) {Sim : hb_Mem → hb_Mem → Prop} {σ μ : hb_Mem} (hs : Sim σ μ) (hS : hs_clearText Sim) (hk : ∀ σ' μ', Sim σ' μ' → hb_W Γ ΛL G 4 Q (hl_mix σ' μ') [some (.ref b), some (.ref (G.2.2.2 0)), some (.ref (G.2.2.2 160)), some (.int i)] [] 734) : hb_W Γ ΛL G 4 Q (hl_mix σ μ) [some (.ref b), some (.ref (G.2.2.2 0)), some (.ref (G.2.2.2 160)), some (.int i)] [] 471 := by
  obtain ⟨r, σ', μ', e1, e2, hs'⟩ := hS σ μ hs
  refine ww_aload_n 472 X dL_law_471 rfl rfl ?_
  refine ww_lawX (n := 0) (σ' := σ') (rest := []) (st' := [.int r]) 475 X (ct_X5_clearText (hb_l Γ) G 0 ⟨by decide, rfl⟩ σ e1) ⟨List.mem_of_getElem? (i := 488) (by decide +kernel), List.mem_of_getElem? (i := 489) (by decide +kernel), List.mem_of_getElem? (i := 490) (by decide +kernel), List.mem_of_getElem? (i := 491) (by decide +kernel), List.mem_of_getElem? (i := 62) (by decide +kernel), ⟨by decide +kernel, by decide +kernel⟩, by decide +kernel⟩ rfl rfl ⟨by decide, by decide⟩ (Nat.le_of_ble_eq_true rfl) rfl rfl dL_law_472 rfl ?_
  refine ww_aload_n 476 X dL_law_475 rfl rfl ?_
  refine ww_lawM (n := 0) (μ' := μ') (rest := [.int r]) (st' := [.int r, .int r]) 479 X (ct_X6_clearText (hb_l Γ) (hl_G2 G) 0 ⟨by decide, rfl⟩ μ e2) ⟨List.mem_of_getElem? (i := 990) (by decide +kernel), List.mem_of_getElem? (i := 991) (by decide +kernel), List.mem_of_getElem? (i := 992) (by decide +kernel), List.mem_of_getElem? (i := 993) (by decide +kernel), List.mem_of_getElem? (i := 68) (by decide +kernel), ⟨by decide +kernel, by decide +kernel⟩, by decide +kernel⟩ rfl rfl ⟨by decide, by decide⟩ (Nat.le_of_ble_eq_true rfl) rfl rfl dL_law_476 rfl ?_
  refine ww_icmp_eq_t 734 X dL_law_479 (by decide) rfl ?_
  exact hk σ' μ' hs'
set_option maxRecDepth 100000 in
set_option maxHeartbeats 4000000 in
theorem lc_undo {Γ : hb_Ctx} {G : hb_Gam} {Q : State → Prop} {b Ln : Nat} {xs : Nat → Int32} {i : Int32} (X : hb_X Γ cL_law 4 RL ΛL G 11 408) (hX : hl_scr Γ G b Ln xs) (h0 : vp_in i Ln) (h1 : vp_in (i + 1) Ln) (h2 : vp_in (i + 2) Ln) (h3 : vp_in (i + 3) Ln) (h4 : vp_in (i + 4) Ln) {Sim : hb_Mem → hb_Mem → Prop} {σ μ : hb_Mem} (hs : Sim σ μ) (hS : hs_undo Sim) (hk : ∀ σ' μ', Sim σ' μ' → hb_W Γ ΛL G 4 Q (hl_mix σ' μ') [some (.ref b), some (.ref (G.2.2.2 0)), some (.ref (G.2.2.2 160)), some (.int i)] [] 734) : hb_W Γ ΛL G 4 Q (hl_mix σ μ) [some (.ref b), some (.ref (G.2.2.2 0)), some (.ref (G.2.2.2 160)), some (.int i)] [] 484 := by
  obtain ⟨r, σ', μ', e1, e2, hs'⟩ := hS σ μ hs
  refine ww_aload_n 485 X dL_law_484 rfl rfl ?_
  refine ww_lawX (n := 0) (σ' := σ') (rest := []) (st' := [.int r]) 488 X (ct_X5_undo (hb_l Γ) G 0 ⟨by decide, rfl⟩ σ e1) ⟨List.mem_of_getElem? (i := 492) (by decide +kernel), List.mem_of_getElem? (i := 493) (by decide +kernel), List.mem_of_getElem? (i := 494) (by decide +kernel), List.mem_of_getElem? (i := 495) (by decide +kernel), List.mem_of_getElem? (i := 62) (by decide +kernel), ⟨by decide +kernel, by decide +kernel⟩, by decide +kernel⟩ rfl rfl ⟨by decide, by decide⟩ (Nat.le_of_ble_eq_true rfl) rfl rfl dL_law_485 rfl ?_
  refine ww_aload_n 489 X dL_law_488 rfl rfl ?_
  refine ww_lawM (n := 0) (μ' := μ') (rest := [.int r]) (st' := [.int r, .int r]) 492 X (ct_X6_undo (hb_l Γ) (hl_G2 G) 0 ⟨by decide, rfl⟩ μ e2) ⟨List.mem_of_getElem? (i := 974) (by decide +kernel), List.mem_of_getElem? (i := 975) (by decide +kernel), List.mem_of_getElem? (i := 976) (by decide +kernel), List.mem_of_getElem? (i := 977) (by decide +kernel), List.mem_of_getElem? (i := 68) (by decide +kernel), ⟨by decide +kernel, by decide +kernel⟩, by decide +kernel⟩ rfl rfl ⟨by decide, by decide⟩ (Nat.le_of_ble_eq_true rfl) rfl rfl dL_law_489 rfl ?_
  refine ww_icmp_eq_t 734 X dL_law_492 (by decide) rfl ?_
  exact hk σ' μ' hs'
set_option maxRecDepth 100000 in
set_option maxHeartbeats 4000000 in
theorem lc_keep {Γ : hb_Ctx} {G : hb_Gam} {Q : State → Prop} {b Ln : Nat} {xs : Nat → Int32} {i : Int32} (X : hb_X Γ cL_law 4 RL ΛL G 11 408) (hX : hl_scr Γ G b Ln xs) (h0 : vp_in i Ln) (h1 : vp_in (i + 1) Ln) (h2 : vp_in (i + 2) Ln) (h3 : vp_in (i + 3) Ln) (h4 : vp_in (i + 4) Ln) {Sim : hb_Mem → hb_Mem → Prop} {σ μ : hb_Mem} (hs : Sim σ μ) (hS : hs_keep Sim) (hk : ∀ σ' μ', Sim σ' μ' → hb_W Γ ΛL G 4 Q (hl_mix σ' μ') [some (.ref b), some (.ref (G.2.2.2 0)), some (.ref (G.2.2.2 160)), some (.int i)] [] 734) : hb_W Γ ΛL G 4 Q (hl_mix σ μ) [some (.ref b), some (.ref (G.2.2.2 0)), some (.ref (G.2.2.2 160)), some (.int i)] [] 497 := by
  obtain ⟨r, σ', μ', e1, e2, hs'⟩ := hS σ μ hs
  refine ww_aload_n 498 X dL_law_497 rfl rfl ?_
  refine ww_lawX (n := 0) (σ' := σ') (rest := []) (st' := [.int r]) 501 X (ct_X5_keep (hb_l Γ) G 0 ⟨by decide, rfl⟩ σ e1) ⟨List.mem_of_getElem? (i := 500) (by decide +kernel), List.mem_of_getElem? (i := 501) (by decide +kernel), List.mem_of_getElem? (i := 502) (by decide +kernel), List.mem_of_getElem? (i := 503) (by decide +kernel), List.mem_of_getElem? (i := 62) (by decide +kernel), ⟨by decide +kernel, by decide +kernel⟩, by decide +kernel⟩ rfl rfl ⟨by decide, by decide⟩ (Nat.le_of_ble_eq_true rfl) rfl rfl dL_law_498 rfl ?_
  refine ww_aload_n 502 X dL_law_501 rfl rfl ?_
  refine ww_lawM (n := 0) (μ' := μ') (rest := [.int r]) (st' := [.int r, .int r]) 505 X (ct_X6_keep (hb_l Γ) (hl_G2 G) 0 ⟨by decide, rfl⟩ μ e2) ⟨List.mem_of_getElem? (i := 978) (by decide +kernel), List.mem_of_getElem? (i := 979) (by decide +kernel), List.mem_of_getElem? (i := 980) (by decide +kernel), List.mem_of_getElem? (i := 981) (by decide +kernel), List.mem_of_getElem? (i := 68) (by decide +kernel), ⟨by decide +kernel, by decide +kernel⟩, by decide +kernel⟩ rfl rfl ⟨by decide, by decide⟩ (Nat.le_of_ble_eq_true rfl) rfl rfl dL_law_502 rfl ?_
  refine ww_icmp_eq_t 734 X dL_law_505 (by decide) rfl ?_
  exact hk σ' μ' hs'
set_option maxRecDepth 100000 in
set_option maxHeartbeats 4000000 in
theorem lc_restore {Γ : hb_Ctx} {G : hb_Gam} {Q : State → Prop} {b Ln : Nat} {xs : Nat → Int32} {i : Int32} (X : hb_X Γ cL_law 4 RL ΛL G 11 408) (hX : hl_scr Γ G b Ln xs) (h0 : vp_in i Ln) (h1 : vp_in (i + 1) Ln) (h2 : vp_in (i + 2) Ln) (h3 : vp_in (i + 3) Ln) (h4 : vp_in (i + 4) Ln) {Sim : hb_Mem → hb_Mem → Prop} {σ μ : hb_Mem} (hs : Sim σ μ) (hS : hs_restore Sim) (hk : ∀ σ' μ', Sim σ' μ' → hb_W Γ ΛL G 4 Q (hl_mix σ' μ') [some (.ref b), some (.ref (G.2.2.2 0)), some (.ref (G.2.2.2 160)), some (.int i)] [] 734) : hb_W Γ ΛL G 4 Q (hl_mix σ μ) [some (.ref b), some (.ref (G.2.2.2 0)), some (.ref (G.2.2.2 160)), some (.int i)] [] 510 := by
  obtain ⟨r, σ', μ', e1, e2, hs'⟩ := hS σ μ hs
  refine ww_aload_n 511 X dL_law_510 rfl rfl ?_
  refine ww_lawX (n := 0) (σ' := σ') (rest := []) (st' := [.int r]) 514 X (ct_X5_restore (hb_l Γ) G 0 ⟨by decide, rfl⟩ σ e1) ⟨List.mem_of_getElem? (i := 504) (by decide +kernel), List.mem_of_getElem? (i := 505) (by decide +kernel), List.mem_of_getElem? (i := 506) (by decide +kernel), List.mem_of_getElem? (i := 507) (by decide +kernel), List.mem_of_getElem? (i := 62) (by decide +kernel), ⟨by decide +kernel, by decide +kernel⟩, by decide +kernel⟩ rfl rfl ⟨by decide, by decide⟩ (Nat.le_of_ble_eq_true rfl) rfl rfl dL_law_511 rfl ?_
  refine ww_aload_n 515 X dL_law_514 rfl rfl ?_
  refine ww_lawM (n := 0) (μ' := μ') (rest := [.int r]) (st' := [.int r, .int r]) 518 X (ct_X6_restore (hb_l Γ) (hl_G2 G) 0 ⟨by decide, rfl⟩ μ e2) ⟨List.mem_of_getElem? (i := 982) (by decide +kernel), List.mem_of_getElem? (i := 983) (by decide +kernel), List.mem_of_getElem? (i := 984) (by decide +kernel), List.mem_of_getElem? (i := 985) (by decide +kernel), List.mem_of_getElem? (i := 68) (by decide +kernel), ⟨by decide +kernel, by decide +kernel⟩, by decide +kernel⟩ rfl rfl ⟨by decide, by decide⟩ (Nat.le_of_ble_eq_true rfl) rfl rfl dL_law_515 rfl ?_
  refine ww_icmp_eq_t 734 X dL_law_518 (by decide) rfl ?_
  exact hk σ' μ' hs'
set_option maxRecDepth 100000 in
set_option maxHeartbeats 4000000 in
theorem lc_page {Γ : hb_Ctx} {G : hb_Gam} {Q : State → Prop} {b Ln : Nat} {xs : Nat → Int32} {i : Int32} (X : hb_X Γ cL_law 4 RL ΛL G 11 408) (hX : hl_scr Γ G b Ln xs) (h0 : vp_in i Ln) (h1 : vp_in (i + 1) Ln) (h2 : vp_in (i + 2) Ln) (h3 : vp_in (i + 3) Ln) (h4 : vp_in (i + 4) Ln) {Sim : hb_Mem → hb_Mem → Prop} {σ μ : hb_Mem} (hs : Sim σ μ) (hS : hs_page Sim) (hk : ∀ σ' μ', Sim σ' μ' → hb_W Γ ΛL G 4 Q (hl_mix σ' μ') [some (.ref b), some (.ref (G.2.2.2 0)), some (.ref (G.2.2.2 160)), some (.int i)] [] 734) : hb_W Γ ΛL G 4 Q (hl_mix σ μ) [some (.ref b), some (.ref (G.2.2.2 0)), some (.ref (G.2.2.2 160)), some (.int i)] [] 523 := by
  obtain ⟨r, σ', μ', e1, e2, hs'⟩ := hS σ μ hs (xs (i + 1).toNatClampNeg) (xs (i + 2).toNatClampNeg)
  refine ww_aload_n 524 X dL_law_523 rfl rfl ?_
  refine ww_aload_n 525 X dL_law_524 rfl rfl ?_
  refine ww_iload_n 526 X dL_law_525 rfl rfl ?_
  refine ww_iconst (v := 1) 527 X dL_law_526 rfl (by decide) ?_
  refine ww_iadd 528 X dL_law_527 rfl ?_
  refine ww_sld 529 X hX h1 dL_law_528 rfl ?_
  refine ww_aload_n 530 X dL_law_529 rfl rfl ?_
  refine ww_iload_n 531 X dL_law_530 rfl rfl ?_
  refine ww_iconst (v := 2) 532 X dL_law_531 rfl (by decide) ?_
  refine ww_iadd 533 X dL_law_532 rfl ?_
  refine ww_sld 534 X hX h2 dL_law_533 rfl ?_
  refine ww_lawX (n := 2) (σ' := σ') (rest := []) (st' := [.int r]) 537 X (ct_X5_page (hb_l Γ) G 0 ⟨by decide, rfl⟩ (xs (i + 1).toNatClampNeg) (xs (i + 2).toNatClampNeg) σ e1) ⟨List.mem_of_getElem? (i := 508) (by decide +kernel), List.mem_of_getElem? (i := 509) (by decide +kernel), List.mem_of_getElem? (i := 510) (by decide +kernel), List.mem_of_getElem? (i := 511) (by decide +kernel), List.mem_of_getElem? (i := 62) (by decide +kernel), ⟨by decide +kernel, by decide +kernel⟩, by decide +kernel⟩ rfl rfl ⟨by decide, by decide⟩ (Nat.le_of_ble_eq_true rfl) rfl rfl dL_law_534 rfl ?_
  refine ww_aload_n 538 X dL_law_537 rfl rfl ?_
  refine ww_aload_n 539 X dL_law_538 rfl rfl ?_
  refine ww_iload_n 540 X dL_law_539 rfl rfl ?_
  refine ww_iconst (v := 1) 541 X dL_law_540 rfl (by decide) ?_
  refine ww_iadd 542 X dL_law_541 rfl ?_
  refine ww_sld 543 X hX h1 dL_law_542 rfl ?_
  refine ww_aload_n 544 X dL_law_543 rfl rfl ?_
  refine ww_iload_n 545 X dL_law_544 rfl rfl ?_
  refine ww_iconst (v := 2) 546 X dL_law_545 rfl (by decide) ?_
  refine ww_iadd 547 X dL_law_546 rfl ?_
  refine ww_sld 548 X hX h2 dL_law_547 rfl ?_
  refine ww_lawM (n := 2) (μ' := μ') (rest := [.int r]) (st' := [.int r, .int r]) 551 X (ct_X6_page (hb_l Γ) (hl_G2 G) 0 ⟨by decide, rfl⟩ (xs (i + 1).toNatClampNeg) (xs (i + 2).toNatClampNeg) μ e2) ⟨List.mem_of_getElem? (i := 855) (by decide +kernel), List.mem_of_getElem? (i := 856) (by decide +kernel), List.mem_of_getElem? (i := 857) (by decide +kernel), List.mem_of_getElem? (i := 858) (by decide +kernel), List.mem_of_getElem? (i := 68) (by decide +kernel), ⟨by decide +kernel, by decide +kernel⟩, by decide +kernel⟩ rfl rfl ⟨by decide, by decide⟩ (Nat.le_of_ble_eq_true rfl) rfl rfl dL_law_548 rfl ?_
  refine ww_icmp_eq_t 734 X dL_law_551 (by decide) rfl ?_
  exact hk σ' μ' hs'
set_option maxRecDepth 100000 in
set_option maxHeartbeats 4000000 in
theorem lc_choice {Γ : hb_Ctx} {G : hb_Gam} {Q : State → Prop} {b Ln : Nat} {xs : Nat → Int32} {i : Int32} (X : hb_X Γ cL_law 4 RL ΛL G 11 408) (hX : hl_scr Γ G b Ln xs) (h0 : vp_in i Ln) (h1 : vp_in (i + 1) Ln) (h2 : vp_in (i + 2) Ln) (h3 : vp_in (i + 3) Ln) (h4 : vp_in (i + 4) Ln) {Sim : hb_Mem → hb_Mem → Prop} {σ μ : hb_Mem} (hs : Sim σ μ) (hS : hs_choice Sim) (hk : ∀ σ' μ', Sim σ' μ' → hb_W Γ ΛL G 4 Q (hl_mix σ' μ') [some (.ref b), some (.ref (G.2.2.2 0)), some (.ref (G.2.2.2 160)), some (.int i)] [] 734) : hb_W Γ ΛL G 4 Q (hl_mix σ μ) [some (.ref b), some (.ref (G.2.2.2 0)), some (.ref (G.2.2.2 160)), some (.int i)] [] 556 := by
  obtain ⟨r, σ', μ', e1, e2, hs'⟩ := hS σ μ hs (xs (i + 1).toNatClampNeg) (xs (i + 2).toNatClampNeg) (xs (i + 3).toNatClampNeg)
  refine ww_aload_n 557 X dL_law_556 rfl rfl ?_
  refine ww_aload_n 558 X dL_law_557 rfl rfl ?_
  refine ww_iload_n 559 X dL_law_558 rfl rfl ?_
  refine ww_iconst (v := 1) 560 X dL_law_559 rfl (by decide) ?_
  refine ww_iadd 561 X dL_law_560 rfl ?_
  refine ww_sld 562 X hX h1 dL_law_561 rfl ?_
  refine ww_aload_n 563 X dL_law_562 rfl rfl ?_
  refine ww_iload_n 564 X dL_law_563 rfl rfl ?_
  refine ww_iconst (v := 2) 565 X dL_law_564 rfl (by decide) ?_
  refine ww_iadd 566 X dL_law_565 rfl ?_
  refine ww_sld 567 X hX h2 dL_law_566 rfl ?_
  refine ww_aload_n 568 X dL_law_567 rfl rfl ?_
  refine ww_iload_n 569 X dL_law_568 rfl rfl ?_
  refine ww_iconst (v := 3) 570 X dL_law_569 rfl (by decide) ?_
  refine ww_iadd 571 X dL_law_570 rfl ?_
  refine ww_sld 572 X hX h3 dL_law_571 rfl ?_
  refine ww_lawX (n := 3) (σ' := σ') (rest := []) (st' := [.int r]) 575 X (ct_X5_choice (hb_l Γ) G 0 ⟨by decide, rfl⟩ (xs (i + 1).toNatClampNeg) (xs (i + 2).toNatClampNeg) (xs (i + 3).toNatClampNeg) σ e1) ⟨List.mem_of_getElem? (i := 610) (by decide +kernel), List.mem_of_getElem? (i := 611) (by decide +kernel), List.mem_of_getElem? (i := 612) (by decide +kernel), List.mem_of_getElem? (i := 613) (by decide +kernel), List.mem_of_getElem? (i := 62) (by decide +kernel), ⟨by decide +kernel, by decide +kernel⟩, by decide +kernel⟩ rfl rfl ⟨by decide, by decide⟩ (Nat.le_of_ble_eq_true rfl) rfl rfl dL_law_572 rfl ?_
  refine ww_aload_n 576 X dL_law_575 rfl rfl ?_
  refine ww_aload_n 577 X dL_law_576 rfl rfl ?_
  refine ww_iload_n 578 X dL_law_577 rfl rfl ?_
  refine ww_iconst (v := 1) 579 X dL_law_578 rfl (by decide) ?_
  refine ww_iadd 580 X dL_law_579 rfl ?_
  refine ww_sld 581 X hX h1 dL_law_580 rfl ?_
  refine ww_aload_n 582 X dL_law_581 rfl rfl ?_
  refine ww_iload_n 583 X dL_law_582 rfl rfl ?_
  refine ww_iconst (v := 2) 584 X dL_law_583 rfl (by decide) ?_
  refine ww_iadd 585 X dL_law_584 rfl ?_
  refine ww_sld 586 X hX h2 dL_law_585 rfl ?_
  refine ww_aload_n 587 X dL_law_586 rfl rfl ?_
  refine ww_iload_n 588 X dL_law_587 rfl rfl ?_
  refine ww_iconst (v := 3) 589 X dL_law_588 rfl (by decide) ?_
  refine ww_iadd 590 X dL_law_589 rfl ?_
  refine ww_sld 591 X hX h3 dL_law_590 rfl ?_
  refine ww_lawM (n := 3) (μ' := μ') (rest := [.int r]) (st' := [.int r, .int r]) 594 X (ct_X6_choice (hb_l Γ) (hl_G2 G) 0 ⟨by decide, rfl⟩ (xs (i + 1).toNatClampNeg) (xs (i + 2).toNatClampNeg) (xs (i + 3).toNatClampNeg) μ e2) ⟨List.mem_of_getElem? (i := 934) (by decide +kernel), List.mem_of_getElem? (i := 935) (by decide +kernel), List.mem_of_getElem? (i := 936) (by decide +kernel), List.mem_of_getElem? (i := 937) (by decide +kernel), List.mem_of_getElem? (i := 68) (by decide +kernel), ⟨by decide +kernel, by decide +kernel⟩, by decide +kernel⟩ rfl rfl ⟨by decide, by decide⟩ (Nat.le_of_ble_eq_true rfl) rfl rfl dL_law_591 rfl ?_
  refine ww_icmp_eq_t 734 X dL_law_594 (by decide) rfl ?_
  exact hk σ' μ' hs'
set_option maxRecDepth 100000 in
set_option maxHeartbeats 4000000 in
theorem lc_reader {Γ : hb_Ctx} {G : hb_Gam} {Q : State → Prop} {b Ln : Nat} {xs : Nat → Int32} {i : Int32} (X : hb_X Γ cL_law 4 RL ΛL G 11 408) (hX : hl_scr Γ G b Ln xs) (h0 : vp_in i Ln) (h1 : vp_in (i + 1) Ln) (h2 : vp_in (i + 2) Ln) (h3 : vp_in (i + 3) Ln) (h4 : vp_in (i + 4) Ln) {Sim : hb_Mem → hb_Mem → Prop} {σ μ : hb_Mem} (hs : Sim σ μ) (hS : hs_reader Sim) (hk : ∀ σ' μ', Sim σ' μ' → hb_W Γ ΛL G 4 Q (hl_mix σ' μ') [some (.ref b), some (.ref (G.2.2.2 0)), some (.ref (G.2.2.2 160)), some (.int i)] [] 734) : hb_W Γ ΛL G 4 Q (hl_mix σ μ) [some (.ref b), some (.ref (G.2.2.2 0)), some (.ref (G.2.2.2 160)), some (.int i)] [] 599 := by
  obtain ⟨r, e1, e2⟩ := hS σ μ hs (xs (i + 1).toNatClampNeg) (xs (i + 2).toNatClampNeg)
  refine ww_aload_n 600 X dL_law_599 rfl rfl ?_
  refine ww_aload_n 601 X dL_law_600 rfl rfl ?_
  refine ww_iload_n 602 X dL_law_601 rfl rfl ?_
  refine ww_iconst (v := 1) 603 X dL_law_602 rfl (by decide) ?_
  refine ww_iadd 604 X dL_law_603 rfl ?_
  refine ww_sld 605 X hX h1 dL_law_604 rfl ?_
  refine ww_aload_n 606 X dL_law_605 rfl rfl ?_
  refine ww_iload_n 607 X dL_law_606 rfl rfl ?_
  refine ww_iconst (v := 2) 608 X dL_law_607 rfl (by decide) ?_
  refine ww_iadd 609 X dL_law_608 rfl ?_
  refine ww_sld 610 X hX h2 dL_law_609 rfl ?_
  refine ww_lawX (n := 2) (σ' := σ) (rest := []) (st' := [.int r]) 613 X (ct_X5_reader (hb_l Γ) G 0 ⟨by decide, rfl⟩ (xs (i + 1).toNatClampNeg) (xs (i + 2).toNatClampNeg) σ e1) ⟨List.mem_of_getElem? (i := 620) (by decide +kernel), List.mem_of_getElem? (i := 621) (by decide +kernel), List.mem_of_getElem? (i := 622) (by decide +kernel), List.mem_of_getElem? (i := 623) (by decide +kernel), List.mem_of_getElem? (i := 62) (by decide +kernel), ⟨by decide +kernel, by decide +kernel⟩, by decide +kernel⟩ rfl rfl ⟨by decide, by decide⟩ (Nat.le_of_ble_eq_true rfl) rfl rfl dL_law_610 rfl ?_
  refine ww_aload_n 614 X dL_law_613 rfl rfl ?_
  refine ww_aload_n 615 X dL_law_614 rfl rfl ?_
  refine ww_iload_n 616 X dL_law_615 rfl rfl ?_
  refine ww_iconst (v := 1) 617 X dL_law_616 rfl (by decide) ?_
  refine ww_iadd 618 X dL_law_617 rfl ?_
  refine ww_sld 619 X hX h1 dL_law_618 rfl ?_
  refine ww_aload_n 620 X dL_law_619 rfl rfl ?_
  refine ww_iload_n 621 X dL_law_620 rfl rfl ?_
  refine ww_iconst (v := 2) 622 X dL_law_621 rfl (by decide) ?_
  refine ww_iadd 623 X dL_law_622 rfl ?_
  refine ww_sld 624 X hX h2 dL_law_623 rfl ?_
  refine ww_lawM (n := 2) (μ' := μ) (rest := [.int r]) (st' := [.int r, .int r]) 627 X (ct_X6_reader (hb_l Γ) (hl_G2 G) 0 ⟨by decide, rfl⟩ (xs (i + 1).toNatClampNeg) (xs (i + 2).toNatClampNeg) μ e2) ⟨List.mem_of_getElem? (i := 847) (by decide +kernel), List.mem_of_getElem? (i := 848) (by decide +kernel), List.mem_of_getElem? (i := 849) (by decide +kernel), List.mem_of_getElem? (i := 850) (by decide +kernel), List.mem_of_getElem? (i := 68) (by decide +kernel), ⟨by decide +kernel, by decide +kernel⟩, by decide +kernel⟩ rfl rfl ⟨by decide, by decide⟩ (Nat.le_of_ble_eq_true rfl) rfl rfl dL_law_624 rfl ?_
  refine ww_icmp_eq_t 734 X dL_law_627 (by decide) rfl ?_
  exact hk σ μ hs
set_option maxRecDepth 100000 in
set_option maxHeartbeats 4000000 in
theorem lc_why {Γ : hb_Ctx} {G : hb_Gam} {Q : State → Prop} {b Ln : Nat} {xs : Nat → Int32} {i : Int32} (X : hb_X Γ cL_law 4 RL ΛL G 11 408) (hX : hl_scr Γ G b Ln xs) (h0 : vp_in i Ln) (h1 : vp_in (i + 1) Ln) (h2 : vp_in (i + 2) Ln) (h3 : vp_in (i + 3) Ln) (h4 : vp_in (i + 4) Ln) {Sim : hb_Mem → hb_Mem → Prop} {σ μ : hb_Mem} (hs : Sim σ μ) (hS : hs_why Sim) (hk : ∀ σ' μ', Sim σ' μ' → hb_W Γ ΛL G 4 Q (hl_mix σ' μ') [some (.ref b), some (.ref (G.2.2.2 0)), some (.ref (G.2.2.2 160)), some (.int i)] [] 734) : hb_W Γ ΛL G 4 Q (hl_mix σ μ) [some (.ref b), some (.ref (G.2.2.2 0)), some (.ref (G.2.2.2 160)), some (.int i)] [] 632 := by
  obtain ⟨r, e1, e2⟩ := hS σ μ hs (xs (i + 1).toNatClampNeg) (xs (i + 2).toNatClampNeg)
  refine ww_aload_n 633 X dL_law_632 rfl rfl ?_
  refine ww_aload_n 634 X dL_law_633 rfl rfl ?_
  refine ww_iload_n 635 X dL_law_634 rfl rfl ?_
  refine ww_iconst (v := 1) 636 X dL_law_635 rfl (by decide) ?_
  refine ww_iadd 637 X dL_law_636 rfl ?_
  refine ww_sld 638 X hX h1 dL_law_637 rfl ?_
  refine ww_aload_n 639 X dL_law_638 rfl rfl ?_
  refine ww_iload_n 640 X dL_law_639 rfl rfl ?_
  refine ww_iconst (v := 2) 641 X dL_law_640 rfl (by decide) ?_
  refine ww_iadd 642 X dL_law_641 rfl ?_
  refine ww_sld 643 X hX h2 dL_law_642 rfl ?_
  refine ww_lawX (n := 2) (σ' := σ) (rest := []) (st' := [.int r]) 646 X (ct_X5_why (hb_l Γ) G 0 ⟨by decide, rfl⟩ (xs (i + 1).toNatClampNeg) (xs (i + 2).toNatClampNeg) σ e1) ⟨List.mem_of_getElem? (i := 625) (by decide +kernel), List.mem_of_getElem? (i := 626) (by decide +kernel), List.mem_of_getElem? (i := 627) (by decide +kernel), List.mem_of_getElem? (i := 628) (by decide +kernel), List.mem_of_getElem? (i := 62) (by decide +kernel), ⟨by decide +kernel, by decide +kernel⟩, by decide +kernel⟩ rfl rfl ⟨by decide, by decide⟩ (Nat.le_of_ble_eq_true rfl) rfl rfl dL_law_643 rfl ?_
  refine ww_aload_n 647 X dL_law_646 rfl rfl ?_
  refine ww_aload_n 648 X dL_law_647 rfl rfl ?_
  refine ww_iload_n 649 X dL_law_648 rfl rfl ?_
  refine ww_iconst (v := 1) 650 X dL_law_649 rfl (by decide) ?_
  refine ww_iadd 651 X dL_law_650 rfl ?_
  refine ww_sld 652 X hX h1 dL_law_651 rfl ?_
  refine ww_aload_n 653 X dL_law_652 rfl rfl ?_
  refine ww_iload_n 654 X dL_law_653 rfl rfl ?_
  refine ww_iconst (v := 2) 655 X dL_law_654 rfl (by decide) ?_
  refine ww_iadd 656 X dL_law_655 rfl ?_
  refine ww_sld 657 X hX h2 dL_law_656 rfl ?_
  refine ww_lawM (n := 2) (μ' := μ) (rest := [.int r]) (st' := [.int r, .int r]) 660 X (ct_X6_why (hb_l Γ) (hl_G2 G) 0 ⟨by decide, rfl⟩ (xs (i + 1).toNatClampNeg) (xs (i + 2).toNatClampNeg) μ e2) ⟨List.mem_of_getElem? (i := 818) (by decide +kernel), List.mem_of_getElem? (i := 819) (by decide +kernel), List.mem_of_getElem? (i := 820) (by decide +kernel), List.mem_of_getElem? (i := 821) (by decide +kernel), List.mem_of_getElem? (i := 68) (by decide +kernel), ⟨by decide +kernel, by decide +kernel⟩, by decide +kernel⟩ rfl rfl ⟨by decide, by decide⟩ (Nat.le_of_ble_eq_true rfl) rfl rfl dL_law_657 rfl ?_
  refine ww_icmp_eq_t 734 X dL_law_660 (by decide) rfl ?_
  exact hk σ μ hs
set_option maxRecDepth 100000 in
set_option maxHeartbeats 4000000 in
theorem lc_way {Γ : hb_Ctx} {G : hb_Gam} {Q : State → Prop} {b Ln : Nat} {xs : Nat → Int32} {i : Int32} (X : hb_X Γ cL_law 4 RL ΛL G 11 408) (hX : hl_scr Γ G b Ln xs) (h0 : vp_in i Ln) (h1 : vp_in (i + 1) Ln) (h2 : vp_in (i + 2) Ln) (h3 : vp_in (i + 3) Ln) (h4 : vp_in (i + 4) Ln) {Sim : hb_Mem → hb_Mem → Prop} {σ μ : hb_Mem} (hs : Sim σ μ) (hS : hs_way Sim) (hk : ∀ σ' μ', Sim σ' μ' → hb_W Γ ΛL G 4 Q (hl_mix σ' μ') [some (.ref b), some (.ref (G.2.2.2 0)), some (.ref (G.2.2.2 160)), some (.int i)] [] 734) : hb_W Γ ΛL G 4 Q (hl_mix σ μ) [some (.ref b), some (.ref (G.2.2.2 0)), some (.ref (G.2.2.2 160)), some (.int i)] [] 665 := by
  obtain ⟨r, σ', μ', e1, e2, hs'⟩ := hS σ μ hs (xs (i + 1).toNatClampNeg) (xs (i + 2).toNatClampNeg)
  refine ww_aload_n 666 X dL_law_665 rfl rfl ?_
  refine ww_aload_n 667 X dL_law_666 rfl rfl ?_
  refine ww_iload_n 668 X dL_law_667 rfl rfl ?_
  refine ww_iconst (v := 1) 669 X dL_law_668 rfl (by decide) ?_
  refine ww_iadd 670 X dL_law_669 rfl ?_
  refine ww_sld 671 X hX h1 dL_law_670 rfl ?_
  refine ww_aload_n 672 X dL_law_671 rfl rfl ?_
  refine ww_iload_n 673 X dL_law_672 rfl rfl ?_
  refine ww_iconst (v := 2) 674 X dL_law_673 rfl (by decide) ?_
  refine ww_iadd 675 X dL_law_674 rfl ?_
  refine ww_sld 676 X hX h2 dL_law_675 rfl ?_
  refine ww_lawX (n := 2) (σ' := σ') (rest := []) (st' := [.int r]) 679 X (ct_X5_way (hb_l Γ) G 0 ⟨by decide, rfl⟩ (xs (i + 1).toNatClampNeg) (xs (i + 2).toNatClampNeg) σ e1) ⟨List.mem_of_getElem? (i := 629) (by decide +kernel), List.mem_of_getElem? (i := 630) (by decide +kernel), List.mem_of_getElem? (i := 631) (by decide +kernel), List.mem_of_getElem? (i := 632) (by decide +kernel), List.mem_of_getElem? (i := 62) (by decide +kernel), ⟨by decide +kernel, by decide +kernel⟩, by decide +kernel⟩ rfl rfl ⟨by decide, by decide⟩ (Nat.le_of_ble_eq_true rfl) rfl rfl dL_law_676 rfl ?_
  refine ww_aload_n 680 X dL_law_679 rfl rfl ?_
  refine ww_aload_n 681 X dL_law_680 rfl rfl ?_
  refine ww_iload_n 682 X dL_law_681 rfl rfl ?_
  refine ww_iconst (v := 1) 683 X dL_law_682 rfl (by decide) ?_
  refine ww_iadd 684 X dL_law_683 rfl ?_
  refine ww_sld 685 X hX h1 dL_law_684 rfl ?_
  refine ww_aload_n 686 X dL_law_685 rfl rfl ?_
  refine ww_iload_n 687 X dL_law_686 rfl rfl ?_
  refine ww_iconst (v := 2) 688 X dL_law_687 rfl (by decide) ?_
  refine ww_iadd 689 X dL_law_688 rfl ?_
  refine ww_sld 690 X hX h2 dL_law_689 rfl ?_
  refine ww_lawM (n := 2) (μ' := μ') (rest := [.int r]) (st' := [.int r, .int r]) 693 X (ct_X6_way (hb_l Γ) (hl_G2 G) 0 ⟨by decide, rfl⟩ (xs (i + 1).toNatClampNeg) (xs (i + 2).toNatClampNeg) μ e2) ⟨List.mem_of_getElem? (i := 942) (by decide +kernel), List.mem_of_getElem? (i := 943) (by decide +kernel), List.mem_of_getElem? (i := 944) (by decide +kernel), List.mem_of_getElem? (i := 945) (by decide +kernel), List.mem_of_getElem? (i := 68) (by decide +kernel), ⟨by decide +kernel, by decide +kernel⟩, by decide +kernel⟩ rfl rfl ⟨by decide, by decide⟩ (Nat.le_of_ble_eq_true rfl) rfl rfl dL_law_690 rfl ?_
  refine ww_icmp_eq_t 734 X dL_law_693 (by decide) rfl ?_
  exact hk σ' μ' hs'
set_option maxRecDepth 100000 in
set_option maxHeartbeats 4000000 in
theorem lc_wayMood {Γ : hb_Ctx} {G : hb_Gam} {Q : State → Prop} {b Ln : Nat} {xs : Nat → Int32} {i : Int32} (X : hb_X Γ cL_law 4 RL ΛL G 11 408) (hX : hl_scr Γ G b Ln xs) (h0 : vp_in i Ln) (h1 : vp_in (i + 1) Ln) (h2 : vp_in (i + 2) Ln) (h3 : vp_in (i + 3) Ln) (h4 : vp_in (i + 4) Ln) {Sim : hb_Mem → hb_Mem → Prop} {σ μ : hb_Mem} (hs : Sim σ μ) (hS : hs_wayMood Sim) (hk : ∀ σ' μ', Sim σ' μ' → hb_W Γ ΛL G 4 Q (hl_mix σ' μ') [some (.ref b), some (.ref (G.2.2.2 0)), some (.ref (G.2.2.2 160)), some (.int i)] [] 734) : hb_W Γ ΛL G 4 Q (hl_mix σ μ) [some (.ref b), some (.ref (G.2.2.2 0)), some (.ref (G.2.2.2 160)), some (.int i)] [] 698 := by
  obtain ⟨r, σ', μ', e1, e2, hs'⟩ := hS σ μ hs
  refine ww_aload_n 699 X dL_law_698 rfl rfl ?_
  refine ww_lawX (n := 0) (σ' := σ') (rest := []) (st' := [.int r]) 702 X (ct_X5_wayMood (hb_l Γ) G 0 ⟨by decide, rfl⟩ σ e1) ⟨List.mem_of_getElem? (i := 637) (by decide +kernel), List.mem_of_getElem? (i := 638) (by decide +kernel), List.mem_of_getElem? (i := 639) (by decide +kernel), List.mem_of_getElem? (i := 640) (by decide +kernel), List.mem_of_getElem? (i := 62) (by decide +kernel), ⟨by decide +kernel, by decide +kernel⟩, by decide +kernel⟩ rfl rfl ⟨by decide, by decide⟩ (Nat.le_of_ble_eq_true rfl) rfl rfl dL_law_699 rfl ?_
  refine ww_aload_n 703 X dL_law_702 rfl rfl ?_
  refine ww_lawM (n := 0) (μ' := μ') (rest := [.int r]) (st' := [.int r, .int r]) 706 X (ct_X6_wayMood (hb_l Γ) (hl_G2 G) 0 ⟨by decide, rfl⟩ μ e2) ⟨List.mem_of_getElem? (i := 950) (by decide +kernel), List.mem_of_getElem? (i := 951) (by decide +kernel), List.mem_of_getElem? (i := 952) (by decide +kernel), List.mem_of_getElem? (i := 953) (by decide +kernel), List.mem_of_getElem? (i := 68) (by decide +kernel), ⟨by decide +kernel, by decide +kernel⟩, by decide +kernel⟩ rfl rfl ⟨by decide, by decide⟩ (Nat.le_of_ble_eq_true rfl) rfl rfl dL_law_703 rfl ?_
  refine ww_icmp_eq_t 734 X dL_law_706 (by decide) rfl ?_
  exact hk σ' μ' hs'
set_option maxRecDepth 100000 in
set_option maxHeartbeats 4000000 in
theorem lc_count {Γ : hb_Ctx} {G : hb_Gam} {Q : State → Prop} {b Ln : Nat} {xs : Nat → Int32} {i : Int32} (X : hb_X Γ cL_law 4 RL ΛL G 11 408) (hX : hl_scr Γ G b Ln xs) (h0 : vp_in i Ln) (h1 : vp_in (i + 1) Ln) (h2 : vp_in (i + 2) Ln) (h3 : vp_in (i + 3) Ln) (h4 : vp_in (i + 4) Ln) {Sim : hb_Mem → hb_Mem → Prop} {σ μ : hb_Mem} (hs : Sim σ μ) (hS : hs_count Sim) (hk : ∀ σ' μ', Sim σ' μ' → hb_W Γ ΛL G 4 Q (hl_mix σ' μ') [some (.ref b), some (.ref (G.2.2.2 0)), some (.ref (G.2.2.2 160)), some (.int i)] [] 734) : hb_W Γ ΛL G 4 Q (hl_mix σ μ) [some (.ref b), some (.ref (G.2.2.2 0)), some (.ref (G.2.2.2 160)), some (.int i)] [] 711 := by
  obtain ⟨r, σ', μ', e1, e2, hs'⟩ := hS σ μ hs (xs (i + 1).toNatClampNeg)
  refine ww_aload_n 712 X dL_law_711 rfl rfl ?_
  refine ww_aload_n 713 X dL_law_712 rfl rfl ?_
  refine ww_iload_n 714 X dL_law_713 rfl rfl ?_
  refine ww_iconst (v := 1) 715 X dL_law_714 rfl (by decide) ?_
  refine ww_iadd 716 X dL_law_715 rfl ?_
  refine ww_sld 717 X hX h1 dL_law_716 rfl ?_
  refine ww_lawX (n := 1) (σ' := σ') (rest := []) (st' := [.int r]) 720 X (ct_X5_count (hb_l Γ) G 0 ⟨by decide, rfl⟩ (xs (i + 1).toNatClampNeg) σ e1) ⟨List.mem_of_getElem? (i := 641) (by decide +kernel), List.mem_of_getElem? (i := 642) (by decide +kernel), List.mem_of_getElem? (i := 643) (by decide +kernel), List.mem_of_getElem? (i := 644) (by decide +kernel), List.mem_of_getElem? (i := 62) (by decide +kernel), ⟨by decide +kernel, by decide +kernel⟩, by decide +kernel⟩ rfl rfl ⟨by decide, by decide⟩ (Nat.le_of_ble_eq_true rfl) rfl rfl dL_law_717 rfl ?_
  refine ww_aload_n 721 X dL_law_720 rfl rfl ?_
  refine ww_aload_n 722 X dL_law_721 rfl rfl ?_
  refine ww_iload_n 723 X dL_law_722 rfl rfl ?_
  refine ww_iconst (v := 1) 724 X dL_law_723 rfl (by decide) ?_
  refine ww_iadd 725 X dL_law_724 rfl ?_
  refine ww_sld 726 X hX h1 dL_law_725 rfl ?_
  refine ww_lawM (n := 1) (μ' := μ') (rest := [.int r]) (st' := [.int r, .int r]) 729 X (ct_X6_count (hb_l Γ) (hl_G2 G) 0 ⟨by decide, rfl⟩ (xs (i + 1).toNatClampNeg) μ e2) ⟨List.mem_of_getElem? (i := 954) (by decide +kernel), List.mem_of_getElem? (i := 955) (by decide +kernel), List.mem_of_getElem? (i := 956) (by decide +kernel), List.mem_of_getElem? (i := 957) (by decide +kernel), List.mem_of_getElem? (i := 68) (by decide +kernel), ⟨by decide +kernel, by decide +kernel⟩, by decide +kernel⟩ rfl rfl ⟨by decide, by decide⟩ (Nat.le_of_ble_eq_true rfl) rfl rfl dL_law_726 rfl ?_
  refine ww_icmp_eq_t 734 X dL_law_729 (by decide) rfl ?_
  exact hk σ' μ' hs'
set_option maxRecDepth 100000 in
set_option maxHeartbeats 4000000 in
/-- the law's loop -/
theorem law_loop {Γ : hb_Ctx} {G : hb_Gam} {Q : State → Prop} {b Ln : Nat} {xs : Nat → Int32} (hLn : Ln ≤ 2560) (X : hb_X Γ cL_law 4 RL ΛL G 11 408) (hX : hl_scr Γ G b Ln xs) {Sim : hb_Mem → hb_Mem → Prop} (hA : hs_all Sim) (hend : ∀ σ L, hb_W Γ ΛL G 4 Q σ L [.int 1] 741) : ∀ (n : Nat) (j : Nat) (i : Int32), Ln + 5 ≤ j + n → j ≤ Ln → i = nI j → ∀ σ μ : hb_Mem, Sim σ μ → hb_W Γ ΛL G 4 Q (hl_mix σ μ) [some (.ref b), some (.ref (G.2.2.2 0)), some (.ref (G.2.2.2 160)), some (.int i)] [] 18 := by
  intro n
  induction n with
  | zero => intro j i h1 h2; omega
  | succ n ih =>
    intro j i hn hj hi σ μ hs
    have hiT : i.toInt = j := by rw [hi]; exact nI_toInt (by omega)
    have hLT : (Int32.ofNat Ln).toInt = Ln := nI_toInt (n := Ln) (by omega)
    have hL5 : (Int32.ofNat Ln - 5).toInt = (Ln : Int) - 5 := by
      rw [Int32.toInt_sub, hLT, show (5 : Int32).toInt = 5 from rfl]
      rw [Int.bmod_def]
      omega
    refine ww_iload_n 19 X dL_law_18 rfl rfl ?_
    refine ww_aload_n 20 X dL_law_19 rfl rfl ?_
    refine ww_slen 21 X hX dL_law_20 rfl ?_
    refine ww_iconst (v := 5) 22 X dL_law_21 rfl (by decide) ?_
    refine ww_isub 23 X dL_law_22 rfl ?_
    refine ww_icmp_gt2 740 26 X dL_law_23 (by decide) rfl (fun _ => ?_) (fun hle => ?_)
    · refine ww_iconst (v := 1) 741 X dL_law_740 rfl (by decide) ?_
      exact hend _ _
    · have hle' : j + 5 ≤ Ln := by
        rw [Int32.lt_iff_toInt_lt, hL5, hiT] at hle
        omega
      have hat : ∀ c : Nat, c < 5 → vp_in (nI (j + c)) Ln := fun c hc => nI_in (by omega) (by omega)
      have hadd : ∀ c : Nat, i + nI c = nI (j + c) := fun c => by rw [hi, nI_add]
      have h0 : vp_in i Ln := by rw [hi]; exact hat 0 (by omega)
      have h1 : vp_in (i + 1) Ln := by have := hat 1 (by omega); rw [← hadd] at this; exact this
      have h2 : vp_in (i + 2) Ln := by have := hat 2 (by omega); rw [← hadd] at this; exact this
      have h3 : vp_in (i + 3) Ln := by have := hat 3 (by omega); rw [← hadd] at this; exact this
      have h4 : vp_in (i + 4) Ln := by have := hat 4 (by omega); rw [← hadd] at this; exact this
      have hk : ∀ σ' μ', Sim σ' μ' → hb_W Γ ΛL G 4 Q (hl_mix σ' μ') [some (.ref b), some (.ref (G.2.2.2 0)), some (.ref (G.2.2.2 160)), some (.int i)] [] 734 := by
        intro σ' μ' hs'
        refine ww_iinc (v := i + 5) (L' := [some (.ref b), some (.ref (G.2.2.2 0)), some (.ref (G.2.2.2 160)), some (.int (i + 5))]) 737 X dL_law_734 rfl rfl rfl rfl ?_
        refine ww_goto 18 X dL_law_737 (by decide) ?_
        exact ih (j + 5) (i + 5) (by omega) hle' (by rw [hi]; exact nI_add j 5) σ' μ' hs'
      refine ww_aload_n 27 X dL_law_26 rfl rfl ?_
      refine ww_iload_n 28 X dL_law_27 rfl rfl ?_
      refine ww_sld 29 X hX h0 dL_law_28 rfl ?_
      refine ww_bipush (v := 31) 31 X dL_law_29 rfl (by decide) ?_
      refine ww_iand 32 X dL_law_31 rfl ?_
      generalize xs i.toNatClampNeg &&& 31 = x
      by_cases c0 : x = 0
      · refine ww_tabIn (104) 136 X dL_law_32 (by rw [c0]; decide) (by rw [c0]; decide) (by rw [c0]; rfl) (by decide) ?_
        exact lc_addPage X hX h0 h1 h2 h3 h4 hs hA.1 hk
      by_cases c1 : x = 1
      · refine ww_tabIn (147) 179 X dL_law_32 (by rw [c1]; decide) (by rw [c1]; decide) (by rw [c1]; rfl) (by decide) ?_
        exact lc_setMood X hX h0 h1 h2 h3 h4 hs hA.2.1 hk
      by_cases c2 : x = 2
      · refine ww_tabIn (180) 212 X dL_law_32 (by rw [c2]; decide) (by rw [c2]; decide) (by rw [c2]; rfl) (by decide) ?_
        exact lc_addChoice X hX h0 h1 h2 h3 h4 hs hA.2.2.1 hk
      by_cases c3 : x = 3
      · refine ww_tabIn (233) 265 X dL_law_32 (by rw [c3]; decide) (by rw [c3]; decide) (by rw [c3]; rfl) (by decide) ?_
        exact lc_addChoices X hX h0 h1 h2 h3 h4 hs hA.2.2.2.1 hk
      by_cases c4 : x = 4
      · refine ww_tabIn (246) 278 X dL_law_32 (by rw [c4]; decide) (by rw [c4]; decide) (by rw [c4]; rfl) (by decide) ?_
        exact lc_takeChoice X hX h0 h1 h2 h3 h4 hs hA.2.2.2.2.1 hk
      by_cases c5 : x = 5
      · refine ww_tabIn (279) 311 X dL_law_32 (by rw [c5]; decide) (by rw [c5]; decide) (by rw [c5]; rfl) (by decide) ?_
        exact lc_exchange X hX h0 h1 h2 h3 h4 hs hA.2.2.2.2.2.1 hk
      by_cases c6 : x = 6
      · refine ww_tabIn (312) 344 X dL_law_32 (by rw [c6]; decide) (by rw [c6]; decide) (by rw [c6]; rfl) (by decide) ?_
        exact lc_begin X hX h0 h1 h2 h3 h4 hs hA.2.2.2.2.2.2.1 hk
      by_cases c7 : x = 7
      · refine ww_tabIn (335) 367 X dL_law_32 (by rw [c7]; decide) (by rw [c7]; decide) (by rw [c7]; rfl) (by decide) ?_
        exact lc_choose X hX h0 h1 h2 h3 h4 hs hA.2.2.2.2.2.2.2.1 hk
      by_cases c8 : x = 8
      · refine ww_tabIn (368) 400 X dL_law_32 (by rw [c8]; decide) (by rw [c8]; decide) (by rw [c8]; rfl) (by decide) ?_
        exact lc_mark X hX h0 h1 h2 h3 h4 hs hA.2.2.2.2.2.2.2.2.1 hk
      by_cases c9 : x = 9
      · refine ww_tabIn (391) 423 X dL_law_32 (by rw [c9]; decide) (by rw [c9]; decide) (by rw [c9]; rfl) (by decide) ?_
        exact lc_goToMark X hX h0 h1 h2 h3 h4 hs hA.2.2.2.2.2.2.2.2.2.1 hk
      by_cases c10 : x = 10
      · refine ww_tabIn (414) 446 X dL_law_32 (by rw [c10]; decide) (by rw [c10]; decide) (by rw [c10]; rfl) (by decide) ?_
        exact lc_type X hX h0 h1 h2 h3 h4 hs hA.2.2.2.2.2.2.2.2.2.2.1 hk
      by_cases c11 : x = 11
      · refine ww_tabIn (439) 471 X dL_law_32 (by rw [c11]; decide) (by rw [c11]; decide) (by rw [c11]; rfl) (by decide) ?_
        exact lc_clearText X hX h0 h1 h2 h3 h4 hs hA.2.2.2.2.2.2.2.2.2.2.2.1 hk
      by_cases c12 : x = 12
      · refine ww_tabIn (452) 484 X dL_law_32 (by rw [c12]; decide) (by rw [c12]; decide) (by rw [c12]; rfl) (by decide) ?_
        exact lc_undo X hX h0 h1 h2 h3 h4 hs hA.2.2.2.2.2.2.2.2.2.2.2.2.1 hk
      by_cases c13 : x = 13
      · refine ww_tabIn (465) 497 X dL_law_32 (by rw [c13]; decide) (by rw [c13]; decide) (by rw [c13]; rfl) (by decide) ?_
        exact lc_keep X hX h0 h1 h2 h3 h4 hs hA.2.2.2.2.2.2.2.2.2.2.2.2.2.1 hk
      by_cases c14 : x = 14
      · refine ww_tabIn (478) 510 X dL_law_32 (by rw [c14]; decide) (by rw [c14]; decide) (by rw [c14]; rfl) (by decide) ?_
        exact lc_restore X hX h0 h1 h2 h3 h4 hs hA.2.2.2.2.2.2.2.2.2.2.2.2.2.2.1 hk
      by_cases c15 : x = 15
      · refine ww_tabIn (491) 523 X dL_law_32 (by rw [c15]; decide) (by rw [c15]; decide) (by rw [c15]; rfl) (by decide) ?_
        exact lc_page X hX h0 h1 h2 h3 h4 hs hA.2.2.2.2.2.2.2.2.2.2.2.2.2.2.2.1 hk
      by_cases c16 : x = 16
      · refine ww_tabIn (524) 556 X dL_law_32 (by rw [c16]; decide) (by rw [c16]; decide) (by rw [c16]; rfl) (by decide) ?_
        exact lc_choice X hX h0 h1 h2 h3 h4 hs hA.2.2.2.2.2.2.2.2.2.2.2.2.2.2.2.2.1 hk
      by_cases c17 : x = 17
      · refine ww_tabIn (567) 599 X dL_law_32 (by rw [c17]; decide) (by rw [c17]; decide) (by rw [c17]; rfl) (by decide) ?_
        exact lc_reader X hX h0 h1 h2 h3 h4 hs hA.2.2.2.2.2.2.2.2.2.2.2.2.2.2.2.2.2.1 hk
      by_cases c18 : x = 18
      · refine ww_tabIn (600) 632 X dL_law_32 (by rw [c18]; decide) (by rw [c18]; decide) (by rw [c18]; rfl) (by decide) ?_
        exact lc_why X hX h0 h1 h2 h3 h4 hs hA.2.2.2.2.2.2.2.2.2.2.2.2.2.2.2.2.2.2.1 hk
      by_cases c19 : x = 19
      · refine ww_tabIn (633) 665 X dL_law_32 (by rw [c19]; decide) (by rw [c19]; decide) (by rw [c19]; rfl) (by decide) ?_
        exact lc_way X hX h0 h1 h2 h3 h4 hs hA.2.2.2.2.2.2.2.2.2.2.2.2.2.2.2.2.2.2.2.1 hk
      by_cases c20 : x = 20
      · refine ww_tabIn (666) 698 X dL_law_32 (by rw [c20]; decide) (by rw [c20]; decide) (by rw [c20]; rfl) (by decide) ?_
        exact lc_wayMood X hX h0 h1 h2 h3 h4 hs hA.2.2.2.2.2.2.2.2.2.2.2.2.2.2.2.2.2.2.2.2.1 hk
      by_cases c21 : x = 21
      · refine ww_tabIn (679) 711 X dL_law_32 (by rw [c21]; decide) (by rw [c21]; decide) (by rw [c21]; rfl) (by decide) ?_
        exact lc_count X hX h0 h1 h2 h3 h4 hs hA.2.2.2.2.2.2.2.2.2.2.2.2.2.2.2.2.2.2.2.2.2 hk
      refine ww_tabOut 734 X dL_law_32 (by have := hb_ne_toInt c0 (c := 0) rfl; have := hb_ne_toInt c1 (c := 1) rfl; have := hb_ne_toInt c2 (c := 2) rfl; have := hb_ne_toInt c3 (c := 3) rfl; have := hb_ne_toInt c4 (c := 4) rfl; have := hb_ne_toInt c5 (c := 5) rfl; have := hb_ne_toInt c6 (c := 6) rfl; have := hb_ne_toInt c7 (c := 7) rfl; have := hb_ne_toInt c8 (c := 8) rfl; have := hb_ne_toInt c9 (c := 9) rfl; have := hb_ne_toInt c10 (c := 10) rfl; have := hb_ne_toInt c11 (c := 11) rfl; have := hb_ne_toInt c12 (c := 12) rfl; have := hb_ne_toInt c13 (c := 13) rfl; have := hb_ne_toInt c14 (c := 14) rfl; have := hb_ne_toInt c15 (c := 15) rfl; have := hb_ne_toInt c16 (c := 16) rfl; have := hb_ne_toInt c17 (c := 17) rfl; have := hb_ne_toInt c18 (c := 18) rfl; have := hb_ne_toInt c19 (c := 19) rfl; have := hb_ne_toInt c20 (c := 20) rfl; have := hb_ne_toInt c21 (c := 21) rfl; omega) (by decide) ?_
      exact hk σ μ hs
