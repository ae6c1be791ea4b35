/-! the script, and the law's method that reads it -/
def hb_nz (y : Int32) : Option Unit := if y = 0 then none else some ()
theorem hb_nz_of {y : Int32} {z : Unit} (h : hb_nz y = some z) : ¬ y = 0 := by
  unfold hb_nz at h
  split at h
  · cases h
  · assumption
theorem hc_is0 : hb_is ΛC 0 5 := ⟨by decide, by decide⟩
def hl_scr (Γ : hb_Ctx) (G : hb_Gam) (b L : Nat) (xs : Nat → Int32) : Prop := match Γ with
  | (p, l, e, R, s, m, args, below, meth, c, cells, slots) => va_X b L xs s s.heap ∧ b < s.heap.size ∧ ¬ hb_AA ΛC G b
theorem ww_sld {Γ : hb_Ctx} {cc : ByteArray} {nL : Nat} {own : String} {G : hb_Gam} {nf nl : Nat} {Q : State → Prop} {σ : hb_Mem} {L : List (Option Value)} {st : List Value} {pc : Nat} {b Ln : Nat} {xs : Nat → Int32} {i : Int32} (q : Nat) (X : hb_X Γ cc nL own ΛC G nf nl) (hX : hl_scr Γ G b Ln xs) (hin : vp_in i Ln) (d : decode cc pc = .ok (.iaload, 1)) (hq : pc + 1 = q) (k : hb_W Γ ΛC G nL Q σ L (.int (xs i.toNatClampNeg) :: st) q) : hb_W Γ ΛC G nL Q σ L (.int i :: .ref b :: st) pc := by
  obtain ⟨p, l, e, R, s, m, args, below, meth, c, cells, slots⟩ := Γ
  obtain ⟨hx, hb, hml, hown, hlocks, hK, hT, hD, hnf, hnl, hcells, hslots⟩ := X
  obtain ⟨h1, h2, h3⟩ := hX
  subst hq
  intro H locs ls hP hS hL
  exact va_sld hx hb h1 h2 h3 hS hin d (k H locs ls hP hS hL)
theorem ww_slen {Γ : hb_Ctx} {cc : ByteArray} {nL : Nat} {own : String} {G : hb_Gam} {nf nl : Nat} {Q : State → Prop} {σ : hb_Mem} {L : List (Option Value)} {st : List Value} {pc : Nat} {b Ln : Nat} {xs : Nat → Int32} (q : Nat) (X : hb_X Γ cc nL own ΛC G nf nl) (hX : hl_scr Γ G b Ln xs) (d : decode cc pc = .ok (.arraylength, 1)) (hq : pc + 1 = q) (k : hb_W Γ ΛC G nL Q σ L (.int (Int32.ofNat Ln) :: st) q) : hb_W Γ ΛC G nL Q σ L (.ref b :: st) pc := by
  obtain ⟨p, l, e, R, s, m, args, below, meth, c, cells, slots⟩ := Γ
  obtain ⟨hx, hb, hml, hown, hlocks, hK, hT, hD, hnf, hnl, hcells, hslots⟩ := X
  obtain ⟨h1, h2, h3⟩ := hX
  subst hq
  intro H locs ls hP hS hL
  exact va_slen hx hb h1 h2 h3 hS d (k H locs ls hP hS hL)
/-- what lot answers -/
def hl_lot (xs : Nat → Int32) (ln : Nat) (k : Int32) : Option Int32 := if k < 0 ∨ 260 < ln then none else some (if Int32.ofNat ln ≤ k then (-1981749909) * (k + 3853) + 3631 else xs k.toNatClampNeg)
theorem hl_lot_in {k : Int32} {ln : Nat} (h0 : ¬ k < 0) (hl : ln ≤ 260) (h : ¬ Int32.ofNat ln ≤ k) : vp_in k ln := by
  intro hh
  rcases hh with hh | hh
  · exact h0 hh
  · apply h
    have h1 : k.toInt = (k.toNatClampNeg : Int) := by
      have h2 : 0 ≤ k.toInt := by
        have : ¬ k.toInt < (0 : Int32).toInt := fun q => h0 (Int32.lt_iff_toInt_lt.mpr q)
        have e : (0 : Int32).toInt = 0 := by decide
        omega
      unfold Int32.toNatClampNeg
      omega
    rw [Int32.le_iff_toInt_le, h1, Int32.toInt_ofNat_of_lt (by omega)]
    omega
def hl_Pc (G : hb_Gam) (b ln : Nat) (xs : Nat → Int32) (k : Int32) (σ : hb_Mem) : Array Value → State → Prop := fun v U => hb_Pc ΛC G [.ref b, .int k] σ v U ∧ va_X b ln xs U U.heap ∧ b < U.heap.size ∧ ¬ hb_AA ΛC G b
theorem ct_L_lot (l : Launch) (G : hb_Gam) (b ln : Nat) (xs : Nat → Int32) (k : Int32) (σ : hb_Mem) {x : Int32} (h : hl_lot xs ln k = some x) : Met l yL_lot [.code yL_lot cL_lot 2 (some .int)] { frames := 0, cells := 0, slots := 0, locals := 0 } (hl_Pc G b ln xs k σ) (hb_Qc ΛC G (some (.int x)) σ) 0 0 (hb_AA ΛC G) := by
  refine hb_ofW (cc := cL_lot) (maxL := 2) (ret := some .int) (by decide +kernel) rfl ?_
  intro p e s m args below meth c s₁ B hml hv
  obtain ⟨⟨rfl, hP, hK, hT, hD⟩, hX, hbl, hbA⟩ := hv
  have hbody : ∀ Γ : hb_Ctx, hb_X Γ cL_lot 2 RL ΛC G 0 0 → hb_ret Γ = some .int → hl_scr Γ G b ln xs → hb_W Γ ΛC G 2 (hb_Q Γ ΛC G (some (.int x)) σ) σ [some (.ref b), some (.int k)] [] 0 := by
    intro Γ X hr hs
    unfold hl_lot at h
    by_cases hc : k < 0 ∨ 260 < ln
    · rw [if_pos hc] at h
      cases h
    · rw [if_neg hc] at h
      refine ww_iload_n 1 X dL_lot_0 rfl rfl ?_
      refine ww_aload_n 2 X dL_lot_1 rfl rfl ?_
      refine ww_slen 3 X hs dL_lot_2 rfl ?_
      refine ww_icmp_ge (T := Int32) (a := some ((-1981749909) * (k + 3853) + 3631)) (b := if Int32.ofNat ln ≤ k then none else some (xs k.toNatClampNeg)) (r := x) 12 6 X dL_lot_3 (by decide) rfl (by
        rw [← h]
        by_cases hq : Int32.ofNat ln ≤ k
        · rw [if_pos hq, if_pos hq]
        · rw [if_neg hq, if_neg hq, if_neg hq]) (fun h1 => ?_) (fun h1 => ?_)
      · refine ww_ldc (v := -1981749909) 14 X dL_lot_12 rfl (by decide +kernel) ?_
        refine ww_iload_n 15 X dL_lot_14 rfl rfl ?_
        refine ww_sipush (v := 3853) 18 X dL_lot_15 rfl (by decide) ?_
        refine ww_iadd 19 X dL_lot_18 rfl ?_
        refine ww_imul 20 X dL_lot_19 rfl ?_
        refine ww_sipush (v := 3631) 23 X dL_lot_20 rfl (by decide) ?_
        refine ww_iadd 24 X dL_lot_23 rfl ?_
        obtain rfl := Option.some.inj h1
        exact ww_ret_i X hr rfl dL_lot_24
      · have hn : ¬ Int32.ofNat ln ≤ k := by
          intro hq
          rw [if_pos hq] at h1
          cases h1
        rw [if_neg hn] at h1
        refine ww_aload_n 7 X dL_lot_6 rfl rfl ?_
        refine ww_iload_n 8 X dL_lot_7 rfl rfl ?_
        refine ww_sld 9 X hs (hl_lot_in (fun q => hc (Or.inl q)) (by omega) hn) dL_lot_8 rfl ?_
        refine ww_goto 24 X dL_lot_9 (by decide) ?_
        obtain rfl := Option.some.inj h1
        exact ww_ret_i X hr rfl dL_lot_24
  have hb := hbody (p, l, e, ({ frames := 0, cells := 0, slots := 0, locals := 0 } : Room), s, m, ([.ref b, .int k] : List Value).toArray, below, meth, c, 0, 0) ⟨B.exec, B.bytes, hml, findClass_of_methodNamed B.named, B.notSynchronized, hK, hT, hD, Nat.le_refl _, Nat.le_refl _, Nat.le_refl _, Nat.le_refl _⟩ B.returns ⟨hX, hbl, hbA⟩
  have hl := lv_entry ([.ref b, .int k] : List Value) (n := 2) (Nat.le_of_ble_eq_true rfl)
  rw [lg_entry_eq]
  refine hb s.heap [] _ hP va_S.rf ?_
  refine ⟨rfl, hl.1, hl.2.1, fun i v hi => ?_⟩
  match i, hi with
  | 0, hi => cases hi; exact ⟨hl.2.2 (0, .ref b) (by simp [lv_args]), Or.inl rfl⟩
  | 1, hi => cases hi; exact ⟨hl.2.2 (1, .int k) (by simp [lv_args, Value.category]), Or.inl rfl⟩
  | i + 2, hi => simp at hi
theorem hl_Pc_blind {G : hb_Gam} {b ln : Nat} {xs : Nat → Int32} {k : Int32} {σ : hb_Mem} : FrameBlind (hl_Pc G b ln xs k σ) := by
  intro a U g mk h
  obtain ⟨h1, h2, h3, h4⟩ := h
  exact ⟨hb_Pc_blind a U g mk h1, va_X.moved (u := U) (U := U.calling g mk a) (Vm.Alike.refl U.vm) h2, h3, h4⟩
theorem ww_lot {Γ : hb_Ctx} {cc : ByteArray} {nL : Nat} {own : String} {G : hb_Gam} {nf nl : Nat} {Q : State → Prop} {σ : hb_Mem} {L : List (Option Value)} {pc : Nat} {b ln : Nat} {xs : Nat → Int32} {k x : Int32} {idx : Nat} {rest : List Value} (q : Nat) (X : hb_X Γ cc nL own ΛC G nf nl) (hs : hl_scr Γ G b ln xs) (h : hl_lot xs ln k = some x) (cw : hb_cS own idx yL_lot cL_lot 2 (some .int) 2) (hR : 0 + 1 ≤ nf ∧ 8 + (2 + 11) + 0 ≤ nl) (hrest : (rest.map fun v => v.category).sum ≤ 8) (d : decode cc pc = .ok (.invokestatic idx, 3)) (hq : pc + 3 = q) (kk : hb_W Γ ΛC G nL Q σ L (.int x :: rest) q) : hb_W Γ ΛC G nL Q σ L (.int k :: .ref b :: rest) pc := by
  obtain ⟨p, l, e, R, s, m, args, below, meth, c, cells, slots⟩ := Γ
  subst hq
  intro H locs ls hP hS hL
  obtain ⟨hx, hb, hml, hown, hlocks, hK, hT, hD, hnf, hnl, hcells, hslots⟩ := X
  obtain ⟨h1, h2, h3, h4, h5, h6⟩ := cw
  obtain ⟨s1, s2, s3⟩ := hs
  have hrun : va_Run p l e R s m args below meth c H locs cells slots 0 0 (F0 m pc ls (.int k :: .ref b :: rest)) rest (hb_Qc ΛC G (some (.int x)) σ #[.ref b, .int k]) (hb_AA ΛC G) :=
    va_runS (own := own) (Ts := []) ⟨hx, hb, hml, hown, fun w h => by cases h⟩ (ct_L_lot l G b ln xs k σ h) ⟨⟨rfl, rfl, Nat.le_trans hR.1 hnf, Nat.le_trans hR.2 hnl, hb_codeW hT h3, List.mem_singleton.mpr rfl, hT _ h3 rfl _, hT _ h4 rfl _, h5, hb_len h6, hT _ h1 rfl _⟩, hT _ h2 rfl _⟩ ⟨hl_Pc_blind, fun U hU hW => ⟨hb_Pc_at hK hT hD hP U hU hW, va_X.moved (u := s) hW.alike (s1.kept (by rw [hU]; exact hS.2.1 b s2 s3)), by rw [hU]; exact Nat.lt_of_lt_of_le s2 hS.1, s3⟩⟩ rfl rfl hL.2.1 rfl (lv_room hrest) d ⟨hcells, hslots⟩
  intro T hT X
  obtain ⟨v, st₀, t, T', L', h0, X', hL', e1, e2, ⟨hv, hP1, hz, hk⟩, st⟩ := hrun T hT X
  cases hv
  rw [h0] at hz hk
  obtain ⟨t2, a1, b1⟩ := kk T'.heap (locs ++ L') ls (by rw [e1]; exact hP1)
    ⟨Nat.le_trans hS.1 (by rw [e1]; exact hz), fun q h1 h2 => by rw [e1, hk q (Nat.lt_of_lt_of_le h1 hS.1) h2]; exact hS.2.1 q h1 h2, fun q hq => by
      rcases List.mem_append.mp hq with h | h
      · exact hS.2.2 q h
      · exact hL' q h⟩ hL T' rfl X'
  exact ⟨t2, st t2 a1, b1⟩
