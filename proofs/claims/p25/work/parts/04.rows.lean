/-! ROWS over hb_W: an instruction each (laid by wip/p25/genrows.py) -/
abbrev hb_is (Λ : hb_Lay) (k c : Nat) : Prop := k < Λ.1 ∧ Λ.2.1 k = c
def hb_nn (z : UInt32) : Option UInt32 := if z &&& 0x7fffffff ≤ 0x7f800000 then some z else none
theorem hb_nn_of {z w : UInt32} (h : hb_nn z = some w) : vf_n32 z ∧ z = w := by
  unfold hb_nn at h
  split at h
  · rename_i h1
    exact ⟨h1, Option.some.inj h⟩
  · cases h
section HBL
variable {p : Program} {l : Launch} {e : Env} {R : Room} {s : State} {m : MethodId} {args : Array Value} {below : List Frame} {meth : Method} {c : Code} {H : Heap} {locs : List Loc} {cells slots : Nat} {Q : State → Prop} {cc : ByteArray} {pc : Nat} {ls : Array Slot} {rest : List Value}
theorem hb_ldcfw0 {T : State} (X : Stand p l e R s m args below meth c T locs cells slots) (hexec : p.tables.exec = Jvm.exec) {own : String} {index : Nat} {v : UInt32} (hown : s.vm.findClass own = some m.cls)
    (hconst : (Cond.constantFloat own index v).before args s = true) {g : JFrame} (hg : g.method = m) (hdg : decode c.code g.pc = .ok (.ldc_w index, 3)) :
    ∀ target, Steps p.tables e below (T.setTop { g with pc := g.pc + 3, stack := .float v :: g.stack }) target → Steps p.tables e below (T.setTop g) target := by
  obtain ⟨k, cf, hk, hcf, hc⟩ := Cond.constantFloat_spec hown hconst
  obtain ⟨k', hk', he⟩ := X.warmed.alike.2.2 _ _ hk
  intro target hrest
  subst hg
  jvm_step X.here [hexec, hdg, ldc_w.wp_float (s := T) (f := g) X.here.top hk' (by rw [he]; exact hcf) hc]
  exact hrest
theorem hb_ldcfw (hexec : p.tables.exec = Jvm.exec) (hb : c.code = cc) {own : String} {index : Nat} {v : UInt32} (hown : s.vm.findClass own = some m.cls) (hconst : (Jvm.Cond.constantFloat own index v).before args s = true) (hdg : decode cc pc = .ok (.ldc_w index, 3)) (k : W p l e R s m args below meth c H locs cells slots Q (F0 m (pc + 3) ls (.float v :: rest))) : W p l e R s m args below meth c H locs cells slots Q (F0 m pc ls rest) := by
  intro T hT X
  obtain ⟨t, a, b⟩ := k T hT X
  exact ⟨t, hb_ldcfw0 X hexec hown hconst (g := F0 m pc ls rest) rfl (by rw [hb]; exact hdg) t a, b⟩
theorem hb_iinc (hexec : p.tables.exec = Jvm.exec) (hb : c.code = cc) {i nL : Nat} {n : Int} {x v : Int32} {L : List (Option Value)} (hdg : decode cc pc = .ok (.iinc i n, 3)) (hL : hb_LJ nL L ls) (hx : L[i]? = some (some (.int x))) (hv : x + Int32.ofInt n = v)
    (kk : ∀ ls' : Array Slot, hb_LJ nL (L.set i (some (.int v))) ls' → W p l e R s m args below meth c H locs cells slots Q (F0 m (pc + 3) ls' rest)) : W p l e R s m args below meth c H locs cells slots Q (F0 m pc ls rest) := by
  have hmem : (i, Value.int x) ∈ hb_asc 0 L := (hb_asc_mem L 0 (i, Value.int x)).mpr ⟨i, by simp, hx⟩
  obtain ⟨k, hk⟩ := List.getElem?_of_mem hmem
  have hi : i < nL := by
    rw [← hL.1]
    rcases Nat.lt_or_ge i L.length with h | h
    · exact h
    · rw [List.getElem?_eq_none h] at hx; cases hx
  have hsf : hb_sf L i = true := by
    cases i with
    | zero => rfl
    | succ j =>
      rw [hb_sf]
      split
      · rename_i w hw
        rcases (hL.2.2.2 j w hw).2 with hc | ⟨_, hc⟩
        · rw [hc]; rfl
        · rw [hx] at hc
          cases hc
      · rfl
  exact lv_iinc hexec hb hdg hL.has hk hv hi rfl (fun ls' hl' => kk ls' (hL.set hsf rfl hl'))
end HBL
theorem ww_iconst {Γ : hb_Ctx} {cc : ByteArray} {nL : Nat} {own : String} {Λ : hb_Lay} {G : hb_Gam} {nf nl : Nat} {Q : State → Prop} {σ : hb_Mem} {L : List (Option Value)} {st : List Value} {pc : Nat} {n : Int} {v : Int32} (q : Nat) (X : hb_X Γ cc nL own Λ G nf nl) (d : decode cc pc = .ok (.iconst n, 1)) (hq : pc + 1 = q) (hv : Int32.ofInt n = v) (k : hb_W Γ Λ G nL Q σ L (.int v :: st) q) : hb_W Γ Λ G nL Q σ L st pc := by
  obtain ⟨p, l, e, R, s, m, args, below, meth, c, cells, slots⟩ := Γ
  obtain ⟨hx, hb, hml, hown, hlocks, hK, hT, hD, hnf, hnl, hcells, hslots⟩ := X
  subst hq
  intro H locs ls hP hS hL
  exact lv_iconst hx hb d hv (k H locs ls hP hS hL)
theorem ww_bipush {Γ : hb_Ctx} {cc : ByteArray} {nL : Nat} {own : String} {Λ : hb_Lay} {G : hb_Gam} {nf nl : Nat} {Q : State → Prop} {σ : hb_Mem} {L : List (Option Value)} {st : List Value} {pc : Nat} {n : Int} {v : Int32} (q : Nat) (X : hb_X Γ cc nL own Λ G nf nl) (d : decode cc pc = .ok (.bipush n, 2)) (hq : pc + 2 = q) (hv : (Int8.ofInt n).toInt32 = v) (k : hb_W Γ Λ G nL Q σ L (.int v :: st) q) : hb_W Γ Λ G nL Q σ L st pc := by
  obtain ⟨p, l, e, R, s, m, args, below, meth, c, cells, slots⟩ := Γ
  obtain ⟨hx, hb, hml, hown, hlocks, hK, hT, hD, hnf, hnl, hcells, hslots⟩ := X
  subst hq
  intro H locs ls hP hS hL
  exact lv_bipush hx hb d hv (k H locs ls hP hS hL)
theorem ww_sipush {Γ : hb_Ctx} {cc : ByteArray} {nL : Nat} {own : String} {Λ : hb_Lay} {G : hb_Gam} {nf nl : Nat} {Q : State → Prop} {σ : hb_Mem} {L : List (Option Value)} {st : List Value} {pc : Nat} {n : Int} {v : Int32} (q : Nat) (X : hb_X Γ cc nL own Λ G nf nl) (d : decode cc pc = .ok (.sipush n, 3)) (hq : pc + 3 = q) (hv : (Int16.ofInt n).toInt32 = v) (k : hb_W Γ Λ G nL Q σ L (.int v :: st) q) : hb_W Γ Λ G nL Q σ L st pc := by
  obtain ⟨p, l, e, R, s, m, args, below, meth, c, cells, slots⟩ := Γ
  obtain ⟨hx, hb, hml, hown, hlocks, hK, hT, hD, hnf, hnl, hcells, hslots⟩ := X
  subst hq
  intro H locs ls hP hS hL
  exact lv_sipush hx hb d hv (k H locs ls hP hS hL)
theorem ww_null {Γ : hb_Ctx} {cc : ByteArray} {nL : Nat} {own : String} {Λ : hb_Lay} {G : hb_Gam} {nf nl : Nat} {Q : State → Prop} {σ : hb_Mem} {L : List (Option Value)} {st : List Value} {pc : Nat}  (q : Nat) (X : hb_X Γ cc nL own Λ G nf nl) (d : decode cc pc = .ok (.aconst_null, 1)) (hq : pc + 1 = q)  (k : hb_W Γ Λ G nL Q σ L (.null :: st) q) : hb_W Γ Λ G nL Q σ L st pc := by
  obtain ⟨p, l, e, R, s, m, args, below, meth, c, cells, slots⟩ := Γ
  obtain ⟨hx, hb, hml, hown, hlocks, hK, hT, hD, hnf, hnl, hcells, hslots⟩ := X
  subst hq
  intro H locs ls hP hS hL
  exact lv_null hx hb d (k H locs ls hP hS hL)
theorem ww_fconst0 {Γ : hb_Ctx} {cc : ByteArray} {nL : Nat} {own : String} {Λ : hb_Lay} {G : hb_Gam} {nf nl : Nat} {Q : State → Prop} {σ : hb_Mem} {L : List (Option Value)} {st : List Value} {pc : Nat}  (q : Nat) (X : hb_X Γ cc nL own Λ G nf nl) (d : decode cc pc = .ok (.fconst 0, 1)) (hq : pc + 1 = q)  (k : hb_W Γ Λ G nL Q σ L (.float FP.fconst0 :: st) q) : hb_W Γ Λ G nL Q σ L st pc := by
  obtain ⟨p, l, e, R, s, m, args, below, meth, c, cells, slots⟩ := Γ
  obtain ⟨hx, hb, hml, hown, hlocks, hK, hT, hD, hnf, hnl, hcells, hslots⟩ := X
  subst hq
  intro H locs ls hP hS hL
  exact lv_fconst0 hx hb d (k H locs ls hP hS hL)
theorem ww_fconst2 {Γ : hb_Ctx} {cc : ByteArray} {nL : Nat} {own : String} {Λ : hb_Lay} {G : hb_Gam} {nf nl : Nat} {Q : State → Prop} {σ : hb_Mem} {L : List (Option Value)} {st : List Value} {pc : Nat}  (q : Nat) (X : hb_X Γ cc nL own Λ G nf nl) (d : decode cc pc = .ok (.fconst 2, 1)) (hq : pc + 1 = q)  (k : hb_W Γ Λ G nL Q σ L (.float FP.fconst2 :: st) q) : hb_W Γ Λ G nL Q σ L st pc := by
  obtain ⟨p, l, e, R, s, m, args, below, meth, c, cells, slots⟩ := Γ
  obtain ⟨hx, hb, hml, hown, hlocks, hK, hT, hD, hnf, hnl, hcells, hslots⟩ := X
  subst hq
  intro H locs ls hP hS hL
  exact lv_fconst2 hx hb d (k H locs ls hP hS hL)
theorem ww_ldc {Γ : hb_Ctx} {cc : ByteArray} {nL : Nat} {own : String} {Λ : hb_Lay} {G : hb_Gam} {nf nl : Nat} {Q : State → Prop} {σ : hb_Mem} {L : List (Option Value)} {st : List Value} {pc : Nat} {i : Nat} {v : Int32} (q : Nat) (X : hb_X Γ cc nL own Λ G nf nl) (d : decode cc pc = .ok (.ldc i, 2)) (hq : pc + 2 = q) (hw : (Cond.constant own i v) ∈ lw_tbl) (k : hb_W Γ Λ G nL Q σ L (.int v :: st) q) : hb_W Γ Λ G nL Q σ L st pc := by
  obtain ⟨p, l, e, R, s, m, args, below, meth, c, cells, slots⟩ := Γ
  obtain ⟨hx, hb, hml, hown, hlocks, hK, hT, hD, hnf, hnl, hcells, hslots⟩ := X
  subst hq
  intro H locs ls hP hS hL
  exact lv_ldc hx hb hown (hT _ hw rfl _) d (k H locs ls hP hS hL)
theorem ww_ldcw {Γ : hb_Ctx} {cc : ByteArray} {nL : Nat} {own : String} {Λ : hb_Lay} {G : hb_Gam} {nf nl : Nat} {Q : State → Prop} {σ : hb_Mem} {L : List (Option Value)} {st : List Value} {pc : Nat} {i : Nat} {v : Int32} (q : Nat) (X : hb_X Γ cc nL own Λ G nf nl) (d : decode cc pc = .ok (.ldc_w i, 3)) (hq : pc + 3 = q) (hw : (Cond.constant own i v) ∈ lw_tbl) (k : hb_W Γ Λ G nL Q σ L (.int v :: st) q) : hb_W Γ Λ G nL Q σ L st pc := by
  obtain ⟨p, l, e, R, s, m, args, below, meth, c, cells, slots⟩ := Γ
  obtain ⟨hx, hb, hml, hown, hlocks, hK, hT, hD, hnf, hnl, hcells, hslots⟩ := X
  subst hq
  intro H locs ls hP hS hL
  exact lv_ldcw hx hb hown (hT _ hw rfl _) d (k H locs ls hP hS hL)
theorem ww_ldcf {Γ : hb_Ctx} {cc : ByteArray} {nL : Nat} {own : String} {Λ : hb_Lay} {G : hb_Gam} {nf nl : Nat} {Q : State → Prop} {σ : hb_Mem} {L : List (Option Value)} {st : List Value} {pc : Nat} {i : Nat} {v : UInt32} (q : Nat) (X : hb_X Γ cc nL own Λ G nf nl) (d : decode cc pc = .ok (.ldc i, 2)) (hq : pc + 2 = q) (hw : (Cond.constantFloat own i v) ∈ lw_tbl) (k : hb_W Γ Λ G nL Q σ L (.float v :: st) q) : hb_W Γ Λ G nL Q σ L st pc := by
  obtain ⟨p, l, e, R, s, m, args, below, meth, c, cells, slots⟩ := Γ
  obtain ⟨hx, hb, hml, hown, hlocks, hK, hT, hD, hnf, hnl, hcells, hslots⟩ := X
  subst hq
  intro H locs ls hP hS hL
  exact lv_ldcf hx hb hown (hT _ hw rfl _) d (k H locs ls hP hS hL)
theorem ww_ldcfw {Γ : hb_Ctx} {cc : ByteArray} {nL : Nat} {own : String} {Λ : hb_Lay} {G : hb_Gam} {nf nl : Nat} {Q : State → Prop} {σ : hb_Mem} {L : List (Option Value)} {st : List Value} {pc : Nat} {i : Nat} {v : UInt32} (q : Nat) (X : hb_X Γ cc nL own Λ G nf nl) (d : decode cc pc = .ok (.ldc_w i, 3)) (hq : pc + 3 = q) (hw : (Cond.constantFloat own i v) ∈ lw_tbl) (k : hb_W Γ Λ G nL Q σ L (.float v :: st) q) : hb_W Γ Λ G nL Q σ L st pc := by
  obtain ⟨p, l, e, R, s, m, args, below, meth, c, cells, slots⟩ := Γ
  obtain ⟨hx, hb, hml, hown, hlocks, hK, hT, hD, hnf, hnl, hcells, hslots⟩ := X
  subst hq
  intro H locs ls hP hS hL
  exact hb_ldcfw hx hb hown (hT _ hw rfl _) d (k H locs ls hP hS hL)
theorem ww_iload_n {Γ : hb_Ctx} {cc : ByteArray} {nL : Nat} {own : String} {Λ : hb_Lay} {G : hb_Gam} {nf nl : Nat} {Q : State → Prop} {σ : hb_Mem} {L : List (Option Value)} {st : List Value} {pc : Nat} {n : Fin 4} {x : Int32} (q : Nat) (X : hb_X Γ cc nL own Λ G nf nl) (d : decode cc pc = .ok (.iload_n n, 1)) (hq : pc + 1 = q) (hv : L[(n : Nat)]? = some (some (.int x))) (k : hb_W Γ Λ G nL Q σ L (.int x :: st) q) : hb_W Γ Λ G nL Q σ L st pc := by
  obtain ⟨p, l, e, R, s, m, args, below, meth, c, cells, slots⟩ := Γ
  obtain ⟨hx, hb, hml, hown, hlocks, hK, hT, hD, hnf, hnl, hcells, hslots⟩ := X
  subst hq
  intro H locs ls hP hS hL
  exact lv_iload_n hx hb d rfl (hL.2.2.2 _ _ hv).1 (k H locs ls hP hS hL)
theorem ww_fload_n {Γ : hb_Ctx} {cc : ByteArray} {nL : Nat} {own : String} {Λ : hb_Lay} {G : hb_Gam} {nf nl : Nat} {Q : State → Prop} {σ : hb_Mem} {L : List (Option Value)} {st : List Value} {pc : Nat} {n : Fin 4} {x : UInt32} (q : Nat) (X : hb_X Γ cc nL own Λ G nf nl) (d : decode cc pc = .ok (.fload_n n, 1)) (hq : pc + 1 = q) (hv : L[(n : Nat)]? = some (some (.float x))) (k : hb_W Γ Λ G nL Q σ L (.float x :: st) q) : hb_W Γ Λ G nL Q σ L st pc := by
  obtain ⟨p, l, e, R, s, m, args, below, meth, c, cells, slots⟩ := Γ
  obtain ⟨hx, hb, hml, hown, hlocks, hK, hT, hD, hnf, hnl, hcells, hslots⟩ := X
  subst hq
  intro H locs ls hP hS hL
  exact lv_fload_n hx hb d rfl (hL.2.2.2 _ _ hv).1 (k H locs ls hP hS hL)
theorem ww_aload_n {Γ : hb_Ctx} {cc : ByteArray} {nL : Nat} {own : String} {Λ : hb_Lay} {G : hb_Gam} {nf nl : Nat} {Q : State → Prop} {σ : hb_Mem} {L : List (Option Value)} {st : List Value} {pc : Nat} {n : Fin 4} {x : Nat} (q : Nat) (X : hb_X Γ cc nL own Λ G nf nl) (d : decode cc pc = .ok (.aload_n n, 1)) (hq : pc + 1 = q) (hv : L[(n : Nat)]? = some (some (.ref x))) (k : hb_W Γ Λ G nL Q σ L (.ref x :: st) q) : hb_W Γ Λ G nL Q σ L st pc := by
  obtain ⟨p, l, e, R, s, m, args, below, meth, c, cells, slots⟩ := Γ
  obtain ⟨hx, hb, hml, hown, hlocks, hK, hT, hD, hnf, hnl, hcells, hslots⟩ := X
  subst hq
  intro H locs ls hP hS hL
  exact lv_aload_n hx hb d rfl (hL.2.2.2 _ _ hv).1 (k H locs ls hP hS hL)
theorem ww_aload_nN {Γ : hb_Ctx} {cc : ByteArray} {nL : Nat} {own : String} {Λ : hb_Lay} {G : hb_Gam} {nf nl : Nat} {Q : State → Prop} {σ : hb_Mem} {L : List (Option Value)} {st : List Value} {pc : Nat} {n : Fin 4} (q : Nat) (X : hb_X Γ cc nL own Λ G nf nl) (d : decode cc pc = .ok (.aload_n n, 1)) (hq : pc + 1 = q) (hv : L[(n : Nat)]? = some (some (.null))) (k : hb_W Γ Λ G nL Q σ L (.null :: st) q) : hb_W Γ Λ G nL Q σ L st pc := by
  obtain ⟨p, l, e, R, s, m, args, below, meth, c, cells, slots⟩ := Γ
  obtain ⟨hx, hb, hml, hown, hlocks, hK, hT, hD, hnf, hnl, hcells, hslots⟩ := X
  subst hq
  intro H locs ls hP hS hL
  exact lv_aload_nN hx hb d rfl (hL.2.2.2 _ _ hv).1 (k H locs ls hP hS hL)
theorem ww_iload {Γ : hb_Ctx} {cc : ByteArray} {nL : Nat} {own : String} {Λ : hb_Lay} {G : hb_Gam} {nf nl : Nat} {Q : State → Prop} {σ : hb_Mem} {L : List (Option Value)} {st : List Value} {pc : Nat} {n : Nat} {x : Int32} (q : Nat) (X : hb_X Γ cc nL own Λ G nf nl) (d : decode cc pc = .ok (.iload n, 2)) (hq : pc + 2 = q) (hv : L[n]? = some (some (.int x))) (k : hb_W Γ Λ G nL Q σ L (.int x :: st) q) : hb_W Γ Λ G nL Q σ L st pc := by
  obtain ⟨p, l, e, R, s, m, args, below, meth, c, cells, slots⟩ := Γ
  obtain ⟨hx, hb, hml, hown, hlocks, hK, hT, hD, hnf, hnl, hcells, hslots⟩ := X
  subst hq
  intro H locs ls hP hS hL
  exact lv_iload hx hb d (hL.2.2.2 _ _ hv).1 (k H locs ls hP hS hL)
theorem ww_aload {Γ : hb_Ctx} {cc : ByteArray} {nL : Nat} {own : String} {Λ : hb_Lay} {G : hb_Gam} {nf nl : Nat} {Q : State → Prop} {σ : hb_Mem} {L : List (Option Value)} {st : List Value} {pc : Nat} {n : Nat} {x : Nat} (q : Nat) (X : hb_X Γ cc nL own Λ G nf nl) (d : decode cc pc = .ok (.aload n, 2)) (hq : pc + 2 = q) (hv : L[n]? = some (some (.ref x))) (k : hb_W Γ Λ G nL Q σ L (.ref x :: st) q) : hb_W Γ Λ G nL Q σ L st pc := by
  obtain ⟨p, l, e, R, s, m, args, below, meth, c, cells, slots⟩ := Γ
  obtain ⟨hx, hb, hml, hown, hlocks, hK, hT, hD, hnf, hnl, hcells, hslots⟩ := X
  subst hq
  intro H locs ls hP hS hL
  exact lv_aload hx hb d (hL.2.2.2 _ _ hv).1 (k H locs ls hP hS hL)
theorem ww_istore_n {Γ : hb_Ctx} {cc : ByteArray} {nL : Nat} {own : String} {Λ : hb_Lay} {G : hb_Gam} {nf nl : Nat} {Q : State → Prop} {σ : hb_Mem} {L : List (Option Value)} {st : List Value} {pc : Nat} {n : Fin 4} {x : Int32} {L' : List (Option Value)} (q : Nat) (X : hb_X Γ cc nL own Λ G nf nl) (d : decode cc pc = .ok (.istore_n n, 1)) (hq : pc + 1 = q) (hn : (n : Nat) < L.length) (hl : L.set (n : Nat) (some (.int x)) = L') (hsf : hb_sf L (n : Nat) = true) (k : hb_W Γ Λ G nL Q σ L' st q) : hb_W Γ Λ G nL Q σ L (.int x :: st) pc := by
  obtain ⟨p, l, e, R, s, m, args, below, meth, c, cells, slots⟩ := Γ
  obtain ⟨hx, hb, hml, hown, hlocks, hK, hT, hD, hnf, hnl, hcells, hslots⟩ := X
  subst hq
  subst hl
  intro H locs ls hP hS hL
  exact lv_istore_n hx hb d rfl hL.has (by rw [← hL.1]; exact hn) rfl (fun ls' hl' => k H locs ls' hP hS (hL.set hsf rfl hl'))
theorem ww_fstore_n {Γ : hb_Ctx} {cc : ByteArray} {nL : Nat} {own : String} {Λ : hb_Lay} {G : hb_Gam} {nf nl : Nat} {Q : State → Prop} {σ : hb_Mem} {L : List (Option Value)} {st : List Value} {pc : Nat} {n : Fin 4} {x : UInt32} {L' : List (Option Value)} (q : Nat) (X : hb_X Γ cc nL own Λ G nf nl) (d : decode cc pc = .ok (.fstore_n n, 1)) (hq : pc + 1 = q) (hn : (n : Nat) < L.length) (hl : L.set (n : Nat) (some (.float x)) = L') (hsf : hb_sf L (n : Nat) = true) (k : hb_W Γ Λ G nL Q σ L' st q) : hb_W Γ Λ G nL Q σ L (.float x :: st) pc := by
  obtain ⟨p, l, e, R, s, m, args, below, meth, c, cells, slots⟩ := Γ
  obtain ⟨hx, hb, hml, hown, hlocks, hK, hT, hD, hnf, hnl, hcells, hslots⟩ := X
  subst hq
  subst hl
  intro H locs ls hP hS hL
  exact lv_fstore_n hx hb d rfl hL.has (by rw [← hL.1]; exact hn) rfl (fun ls' hl' => k H locs ls' hP hS (hL.set hsf rfl hl'))
theorem ww_astore_n {Γ : hb_Ctx} {cc : ByteArray} {nL : Nat} {own : String} {Λ : hb_Lay} {G : hb_Gam} {nf nl : Nat} {Q : State → Prop} {σ : hb_Mem} {L : List (Option Value)} {st : List Value} {pc : Nat} {n : Fin 4} {x : Nat} {L' : List (Option Value)} (q : Nat) (X : hb_X Γ cc nL own Λ G nf nl) (d : decode cc pc = .ok (.astore_n n, 1)) (hq : pc + 1 = q) (hn : (n : Nat) < L.length) (hl : L.set (n : Nat) (some (.ref x)) = L') (hsf : hb_sf L (n : Nat) = true) (k : hb_W Γ Λ G nL Q σ L' st q) : hb_W Γ Λ G nL Q σ L (.ref x :: st) pc := by
  obtain ⟨p, l, e, R, s, m, args, below, meth, c, cells, slots⟩ := Γ
  obtain ⟨hx, hb, hml, hown, hlocks, hK, hT, hD, hnf, hnl, hcells, hslots⟩ := X
  subst hq
  subst hl
  intro H locs ls hP hS hL
  exact lv_astore_n hx hb d rfl hL.has (by rw [← hL.1]; exact hn) rfl (fun ls' hl' => k H locs ls' hP hS (hL.set hsf rfl hl'))
theorem ww_istore {Γ : hb_Ctx} {cc : ByteArray} {nL : Nat} {own : String} {Λ : hb_Lay} {G : hb_Gam} {nf nl : Nat} {Q : State → Prop} {σ : hb_Mem} {L : List (Option Value)} {st : List Value} {pc : Nat} {n : Nat} {x : Int32} {L' : List (Option Value)} (q : Nat) (X : hb_X Γ cc nL own Λ G nf nl) (d : decode cc pc = .ok (.istore n, 2)) (hq : pc + 2 = q) (hn : (n : Nat) < L.length) (hl : L.set (n : Nat) (some (.int x)) = L') (hsf : hb_sf L (n : Nat) = true) (k : hb_W Γ Λ G nL Q σ L' st q) : hb_W Γ Λ G nL Q σ L (.int x :: st) pc := by
  obtain ⟨p, l, e, R, s, m, args, below, meth, c, cells, slots⟩ := Γ
  obtain ⟨hx, hb, hml, hown, hlocks, hK, hT, hD, hnf, hnl, hcells, hslots⟩ := X
  subst hq
  subst hl
  intro H locs ls hP hS hL
  exact lv_istore hx hb d hL.has (by rw [← hL.1]; exact hn) rfl (fun ls' hl' => k H locs ls' hP hS (hL.set hsf rfl hl'))
theorem ww_iinc {Γ : hb_Ctx} {cc : ByteArray} {nL : Nat} {own : String} {Λ : hb_Lay} {G : hb_Gam} {nf nl : Nat} {Q : State → Prop} {σ : hb_Mem} {L : List (Option Value)} {st : List Value} {pc : Nat} {i : Nat} {n : Int} {x v : Int32} {L' : List (Option Value)} (q : Nat) (X : hb_X Γ cc nL own Λ G nf nl) (d : decode cc pc = .ok (.iinc i n, 3)) (hq : pc + 3 = q) (hx0 : L[i]? = some (some (.int x))) (hv : x + Int32.ofInt n = v) (hl : L.set i (some (.int v)) = L') (k : hb_W Γ Λ G nL Q σ L' st q) : hb_W Γ Λ G nL Q σ L st pc := by
  obtain ⟨p, l, e, R, s, m, args, below, meth, c, cells, slots⟩ := Γ
  obtain ⟨hx, hb, hml, hown, hlocks, hK, hT, hD, hnf, hnl, hcells, hslots⟩ := X
  subst hq
  subst hl
  intro H locs ls hP hS hL
  exact hb_iinc hx hb d hL hx0 hv (fun ls' hl' => k H locs ls' hP hS hl')
theorem ww_iadd {Γ : hb_Ctx} {cc : ByteArray} {nL : Nat} {own : String} {Λ : hb_Lay} {G : hb_Gam} {nf nl : Nat} {Q : State → Prop} {σ : hb_Mem} {L : List (Option Value)} {st : List Value} {pc : Nat} {x y : Int32} (q : Nat) (X : hb_X Γ cc nL own Λ G nf nl) (d : decode cc pc = .ok (.iadd, 1)) (hq : pc + 1 = q)  (k : hb_W Γ Λ G nL Q σ L (.int (x + y) :: st) q) : hb_W Γ Λ G nL Q σ L (.int y :: .int x :: st) pc := by
  obtain ⟨p, l, e, R, s, m, args, below, meth, c, cells, slots⟩ := Γ
  obtain ⟨hx, hb, hml, hown, hlocks, hK, hT, hD, hnf, hnl, hcells, hslots⟩ := X
  subst hq
  intro H locs ls hP hS hL
  exact lv_iadd hx hb d (k H locs ls hP hS hL)
theorem ww_isub {Γ : hb_Ctx} {cc : ByteArray} {nL : Nat} {own : String} {Λ : hb_Lay} {G : hb_Gam} {nf nl : Nat} {Q : State → Prop} {σ : hb_Mem} {L : List (Option Value)} {st : List Value} {pc : Nat} {x y : Int32} (q : Nat) (X : hb_X Γ cc nL own Λ G nf nl) (d : decode cc pc = .ok (.isub, 1)) (hq : pc + 1 = q)  (k : hb_W Γ Λ G nL Q σ L (.int (x - y) :: st) q) : hb_W Γ Λ G nL Q σ L (.int y :: .int x :: st) pc := by
  obtain ⟨p, l, e, R, s, m, args, below, meth, c, cells, slots⟩ := Γ
  obtain ⟨hx, hb, hml, hown, hlocks, hK, hT, hD, hnf, hnl, hcells, hslots⟩ := X
  subst hq
  intro H locs ls hP hS hL
  exact lv_isub hx hb d (k H locs ls hP hS hL)
theorem ww_imul {Γ : hb_Ctx} {cc : ByteArray} {nL : Nat} {own : String} {Λ : hb_Lay} {G : hb_Gam} {nf nl : Nat} {Q : State → Prop} {σ : hb_Mem} {L : List (Option Value)} {st : List Value} {pc : Nat} {x y : Int32} (q : Nat) (X : hb_X Γ cc nL own Λ G nf nl) (d : decode cc pc = .ok (.imul, 1)) (hq : pc + 1 = q)  (k : hb_W Γ Λ G nL Q σ L (.int (x * y) :: st) q) : hb_W Γ Λ G nL Q σ L (.int y :: .int x :: st) pc := by
  obtain ⟨p, l, e, R, s, m, args, below, meth, c, cells, slots⟩ := Γ
  obtain ⟨hx, hb, hml, hown, hlocks, hK, hT, hD, hnf, hnl, hcells, hslots⟩ := X
  subst hq
  intro H locs ls hP hS hL
  exact lv_imul hx hb d (k H locs ls hP hS hL)
theorem ww_iand {Γ : hb_Ctx} {cc : ByteArray} {nL : Nat} {own : String} {Λ : hb_Lay} {G : hb_Gam} {nf nl : Nat} {Q : State → Prop} {σ : hb_Mem} {L : List (Option Value)} {st : List Value} {pc : Nat} {x y : Int32} (q : Nat) (X : hb_X Γ cc nL own Λ G nf nl) (d : decode cc pc = .ok (.iand, 1)) (hq : pc + 1 = q)  (k : hb_W Γ Λ G nL Q σ L (.int (x &&& y) :: st) q) : hb_W Γ Λ G nL Q σ L (.int y :: .int x :: st) pc := by
  obtain ⟨p, l, e, R, s, m, args, below, meth, c, cells, slots⟩ := Γ
  obtain ⟨hx, hb, hml, hown, hlocks, hK, hT, hD, hnf, hnl, hcells, hslots⟩ := X
  subst hq
  intro H locs ls hP hS hL
  exact lv_iand hx hb d (k H locs ls hP hS hL)
theorem ww_ior {Γ : hb_Ctx} {cc : ByteArray} {nL : Nat} {own : String} {Λ : hb_Lay} {G : hb_Gam} {nf nl : Nat} {Q : State → Prop} {σ : hb_Mem} {L : List (Option Value)} {st : List Value} {pc : Nat} {x y : Int32} (q : Nat) (X : hb_X Γ cc nL own Λ G nf nl) (d : decode cc pc = .ok (.ior, 1)) (hq : pc + 1 = q)  (k : hb_W Γ Λ G nL Q σ L (.int (x ||| y) :: st) q) : hb_W Γ Λ G nL Q σ L (.int y :: .int x :: st) pc := by
  obtain ⟨p, l, e, R, s, m, args, below, meth, c, cells, slots⟩ := Γ
  obtain ⟨hx, hb, hml, hown, hlocks, hK, hT, hD, hnf, hnl, hcells, hslots⟩ := X
  subst hq
  intro H locs ls hP hS hL
  exact lv_ior hx hb d (k H locs ls hP hS hL)
theorem ww_ixor {Γ : hb_Ctx} {cc : ByteArray} {nL : Nat} {own : String} {Λ : hb_Lay} {G : hb_Gam} {nf nl : Nat} {Q : State → Prop} {σ : hb_Mem} {L : List (Option Value)} {st : List Value} {pc : Nat} {x y : Int32} (q : Nat) (X : hb_X Γ cc nL own Λ G nf nl) (d : decode cc pc = .ok (.ixor, 1)) (hq : pc + 1 = q)  (k : hb_W Γ Λ G nL Q σ L (.int (x ^^^ y) :: st) q) : hb_W Γ Λ G nL Q σ L (.int y :: .int x :: st) pc := by
  obtain ⟨p, l, e, R, s, m, args, below, meth, c, cells, slots⟩ := Γ
  obtain ⟨hx, hb, hml, hown, hlocks, hK, hT, hD, hnf, hnl, hcells, hslots⟩ := X
  subst hq
  intro H locs ls hP hS hL
  exact lv_ixor hx hb d (k H locs ls hP hS hL)
theorem ww_ishl {Γ : hb_Ctx} {cc : ByteArray} {nL : Nat} {own : String} {Λ : hb_Lay} {G : hb_Gam} {nf nl : Nat} {Q : State → Prop} {σ : hb_Mem} {L : List (Option Value)} {st : List Value} {pc : Nat} {x y : Int32} (q : Nat) (X : hb_X Γ cc nL own Λ G nf nl) (d : decode cc pc = .ok (.ishl, 1)) (hq : pc + 1 = q)  (k : hb_W Γ Λ G nL Q σ L (.int (x <<< (y &&& 31)) :: st) q) : hb_W Γ Λ G nL Q σ L (.int y :: .int x :: st) pc := by
  obtain ⟨p, l, e, R, s, m, args, below, meth, c, cells, slots⟩ := Γ
  obtain ⟨hx, hb, hml, hown, hlocks, hK, hT, hD, hnf, hnl, hcells, hslots⟩ := X
  subst hq
  intro H locs ls hP hS hL
  exact lv_ishl hx hb d (k H locs ls hP hS hL)
theorem ww_ishr {Γ : hb_Ctx} {cc : ByteArray} {nL : Nat} {own : String} {Λ : hb_Lay} {G : hb_Gam} {nf nl : Nat} {Q : State → Prop} {σ : hb_Mem} {L : List (Option Value)} {st : List Value} {pc : Nat} {x y : Int32} (q : Nat) (X : hb_X Γ cc nL own Λ G nf nl) (d : decode cc pc = .ok (.ishr, 1)) (hq : pc + 1 = q)  (k : hb_W Γ Λ G nL Q σ L (.int (x >>> (y &&& 31)) :: st) q) : hb_W Γ Λ G nL Q σ L (.int y :: .int x :: st) pc := by
  obtain ⟨p, l, e, R, s, m, args, below, meth, c, cells, slots⟩ := Γ
  obtain ⟨hx, hb, hml, hown, hlocks, hK, hT, hD, hnf, hnl, hcells, hslots⟩ := X
  subst hq
  intro H locs ls hP hS hL
  exact lv_ishr hx hb d (k H locs ls hP hS hL)
theorem ww_iushr {Γ : hb_Ctx} {cc : ByteArray} {nL : Nat} {own : String} {Λ : hb_Lay} {G : hb_Gam} {nf nl : Nat} {Q : State → Prop} {σ : hb_Mem} {L : List (Option Value)} {st : List Value} {pc : Nat} {x y : Int32} (q : Nat) (X : hb_X Γ cc nL own Λ G nf nl) (d : decode cc pc = .ok (.iushr, 1)) (hq : pc + 1 = q)  (k : hb_W Γ Λ G nL Q σ L (.int ((x.toUInt32 >>> (y.toUInt32 &&& Int32.toUInt32 31)).toInt32) :: st) q) : hb_W Γ Λ G nL Q σ L (.int y :: .int x :: st) pc := by
  obtain ⟨p, l, e, R, s, m, args, below, meth, c, cells, slots⟩ := Γ
  obtain ⟨hx, hb, hml, hown, hlocks, hK, hT, hD, hnf, hnl, hcells, hslots⟩ := X
  subst hq
  intro H locs ls hP hS hL
  exact lv_iushr hx hb d rfl (k H locs ls hP hS hL)
theorem ww_idiv {Γ : hb_Ctx} {cc : ByteArray} {nL : Nat} {own : String} {Λ : hb_Lay} {G : hb_Gam} {nf nl : Nat} {Q : State → Prop} {σ : hb_Mem} {L : List (Option Value)} {st : List Value} {pc : Nat} {x y : Int32} (q : Nat) (X : hb_X Γ cc nL own Λ G nf nl) (d : decode cc pc = .ok (.idiv, 1)) (hq : pc + 1 = q) (hne : ¬ y = 0) (k : hb_W Γ Λ G nL Q σ L (.int (x / y) :: st) q) : hb_W Γ Λ G nL Q σ L (.int y :: .int x :: st) pc := by
  obtain ⟨p, l, e, R, s, m, args, below, meth, c, cells, slots⟩ := Γ
  obtain ⟨hx, hb, hml, hown, hlocks, hK, hT, hD, hnf, hnl, hcells, hslots⟩ := X
  subst hq
  intro H locs ls hP hS hL
  exact lv_idiv hx hb d hne (k H locs ls hP hS hL)
theorem ww_irem {Γ : hb_Ctx} {cc : ByteArray} {nL : Nat} {own : String} {Λ : hb_Lay} {G : hb_Gam} {nf nl : Nat} {Q : State → Prop} {σ : hb_Mem} {L : List (Option Value)} {st : List Value} {pc : Nat} {x y : Int32} (q : Nat) (X : hb_X Γ cc nL own Λ G nf nl) (d : decode cc pc = .ok (.irem, 1)) (hq : pc + 1 = q) (hne : ¬ y = 0) (k : hb_W Γ Λ G nL Q σ L (.int (x - x / y * y) :: st) q) : hb_W Γ Λ G nL Q σ L (.int y :: .int x :: st) pc := by
  obtain ⟨p, l, e, R, s, m, args, below, meth, c, cells, slots⟩ := Γ
  obtain ⟨hx, hb, hml, hown, hlocks, hK, hT, hD, hnf, hnl, hcells, hslots⟩ := X
  subst hq
  intro H locs ls hP hS hL
  exact lv_irem hx hb d hne (k H locs ls hP hS hL)
theorem ww_i2c {Γ : hb_Ctx} {cc : ByteArray} {nL : Nat} {own : String} {Λ : hb_Lay} {G : hb_Gam} {nf nl : Nat} {Q : State → Prop} {σ : hb_Mem} {L : List (Option Value)} {st : List Value} {pc : Nat} {x : Int32} (q : Nat) (X : hb_X Γ cc nL own Λ G nf nl) (d : decode cc pc = .ok (.i2c, 1)) (hq : pc + 1 = q)  (k : hb_W Γ Λ G nL Q σ L (.int ((x.toUInt32 % 65536).toInt32) :: st) q) : hb_W Γ Λ G nL Q σ L (.int x :: st) pc := by
  obtain ⟨p, l, e, R, s, m, args, below, meth, c, cells, slots⟩ := Γ
  obtain ⟨hx, hb, hml, hown, hlocks, hK, hT, hD, hnf, hnl, hcells, hslots⟩ := X
  subst hq
  intro H locs ls hP hS hL
  exact lv_i2c hx hb d rfl (k H locs ls hP hS hL)
theorem ww_i2f {Γ : hb_Ctx} {cc : ByteArray} {nL : Nat} {own : String} {Λ : hb_Lay} {G : hb_Gam} {nf nl : Nat} {Q : State → Prop} {σ : hb_Mem} {L : List (Option Value)} {st : List Value} {pc : Nat} {x : Int32} (q : Nat) (X : hb_X Γ cc nL own Λ G nf nl) (d : decode cc pc = .ok (.i2f, 1)) (hq : pc + 1 = q)  (k : hb_W Γ Λ G nL Q σ L (.float (FP.i2f x) :: st) q) : hb_W Γ Λ G nL Q σ L (.int x :: st) pc := by
  obtain ⟨p, l, e, R, s, m, args, below, meth, c, cells, slots⟩ := Γ
  obtain ⟨hx, hb, hml, hown, hlocks, hK, hT, hD, hnf, hnl, hcells, hslots⟩ := X
  subst hq
  intro H locs ls hP hS hL
  exact lv_i2f hx hb d (k H locs ls hP hS hL)
theorem ww_f2i {Γ : hb_Ctx} {cc : ByteArray} {nL : Nat} {own : String} {Λ : hb_Lay} {G : hb_Gam} {nf nl : Nat} {Q : State → Prop} {σ : hb_Mem} {L : List (Option Value)} {st : List Value} {pc : Nat} {x : UInt32} (q : Nat) (X : hb_X Γ cc nL own Λ G nf nl) (d : decode cc pc = .ok (.f2i, 1)) (hq : pc + 1 = q)  (k : hb_W Γ Λ G nL Q σ L (.int (FP.f2i x) :: st) q) : hb_W Γ Λ G nL Q σ L (.float x :: st) pc := by
  obtain ⟨p, l, e, R, s, m, args, below, meth, c, cells, slots⟩ := Γ
  obtain ⟨hx, hb, hml, hown, hlocks, hK, hT, hD, hnf, hnl, hcells, hslots⟩ := X
  subst hq
  intro H locs ls hP hS hL
  exact lv_f2i hx hb d (k H locs ls hP hS hL)
theorem ww_fneg {Γ : hb_Ctx} {cc : ByteArray} {nL : Nat} {own : String} {Λ : hb_Lay} {G : hb_Gam} {nf nl : Nat} {Q : State → Prop} {σ : hb_Mem} {L : List (Option Value)} {st : List Value} {pc : Nat} {x : UInt32} (q : Nat) (X : hb_X Γ cc nL own Λ G nf nl) (d : decode cc pc = .ok (.fneg, 1)) (hq : pc + 1 = q)  (k : hb_W Γ Λ G nL Q σ L (.float (FP.fneg x) :: st) q) : hb_W Γ Λ G nL Q σ L (.float x :: st) pc := by
  obtain ⟨p, l, e, R, s, m, args, below, meth, c, cells, slots⟩ := Γ
  obtain ⟨hx, hb, hml, hown, hlocks, hK, hT, hD, hnf, hnl, hcells, hslots⟩ := X
  subst hq
  intro H locs ls hP hS hL
  exact lv_fneg hx hb d (k H locs ls hP hS hL)
theorem ww_fadd {Γ : hb_Ctx} {cc : ByteArray} {nL : Nat} {own : String} {Λ : hb_Lay} {G : hb_Gam} {nf nl : Nat} {Q : State → Prop} {σ : hb_Mem} {L : List (Option Value)} {st : List Value} {pc : Nat} {x y z : UInt32} (q : Nat) (X : hb_X Γ cc nL own Λ G nf nl) (d : decode cc pc = .ok (.fadd, 1)) (hq : pc + 1 = q) (hz : hb_nn (FP.fadd x y) = some z) (k : hb_W Γ Λ G nL Q σ L (.float z :: st) q) : hb_W Γ Λ G nL Q σ L (.float y :: .float x :: st) pc := by
  obtain ⟨p, l, e, R, s, m, args, below, meth, c, cells, slots⟩ := Γ
  obtain ⟨hx, hb, hml, hown, hlocks, hK, hT, hD, hnf, hnl, hcells, hslots⟩ := X
  subst hq
  intro H locs ls hP hS hL
  exact lv_fadd hx hb d (hb_nn_of hz).1 (by rw [(hb_nn_of hz).2]; exact (k H locs ls hP hS hL))
theorem ww_fmul {Γ : hb_Ctx} {cc : ByteArray} {nL : Nat} {own : String} {Λ : hb_Lay} {G : hb_Gam} {nf nl : Nat} {Q : State → Prop} {σ : hb_Mem} {L : List (Option Value)} {st : List Value} {pc : Nat} {x y z : UInt32} (q : Nat) (X : hb_X Γ cc nL own Λ G nf nl) (d : decode cc pc = .ok (.fmul, 1)) (hq : pc + 1 = q) (hz : hb_nn (FP.fmul x y) = some z) (k : hb_W Γ Λ G nL Q σ L (.float z :: st) q) : hb_W Γ Λ G nL Q σ L (.float y :: .float x :: st) pc := by
  obtain ⟨p, l, e, R, s, m, args, below, meth, c, cells, slots⟩ := Γ
  obtain ⟨hx, hb, hml, hown, hlocks, hK, hT, hD, hnf, hnl, hcells, hslots⟩ := X
  subst hq
  intro H locs ls hP hS hL
  exact lv_fmul hx hb d (hb_nn_of hz).1 (by rw [(hb_nn_of hz).2]; exact (k H locs ls hP hS hL))
theorem ww_fdiv {Γ : hb_Ctx} {cc : ByteArray} {nL : Nat} {own : String} {Λ : hb_Lay} {G : hb_Gam} {nf nl : Nat} {Q : State → Prop} {σ : hb_Mem} {L : List (Option Value)} {st : List Value} {pc : Nat} {x y z : UInt32} (q : Nat) (X : hb_X Γ cc nL own Λ G nf nl) (d : decode cc pc = .ok (.fdiv, 1)) (hq : pc + 1 = q) (hz : hb_nn (FP.fdiv x y) = some z) (k : hb_W Γ Λ G nL Q σ L (.float z :: st) q) : hb_W Γ Λ G nL Q σ L (.float y :: .float x :: st) pc := by
  obtain ⟨p, l, e, R, s, m, args, below, meth, c, cells, slots⟩ := Γ
  obtain ⟨hx, hb, hml, hown, hlocks, hK, hT, hD, hnf, hnl, hcells, hslots⟩ := X
  subst hq
  intro H locs ls hP hS hL
  exact lv_fdiv hx hb d (hb_nn_of hz).1 (by rw [(hb_nn_of hz).2]; exact (k H locs ls hP hS hL))
theorem ww_fcmp {Γ : hb_Ctx} {cc : ByteArray} {nL : Nat} {own : String} {Λ : hb_Lay} {G : hb_Gam} {nf nl : Nat} {Q : State → Prop} {σ : hb_Mem} {L : List (Option Value)} {st : List Value} {pc : Nat} {x y : UInt32} {op : CmpOp} (q : Nat) (X : hb_X Γ cc nL own Λ G nf nl) (d : decode cc pc = .ok (.fcmp op, 1)) (hq : pc + 1 = q)  (k : hb_W Γ Λ G nL Q σ L (.int (Op.cmpValue (FP.fcmp x y) op) :: st) q) : hb_W Γ Λ G nL Q σ L (.float y :: .float x :: st) pc := by
  obtain ⟨p, l, e, R, s, m, args, below, meth, c, cells, slots⟩ := Γ
  obtain ⟨hx, hb, hml, hown, hlocks, hK, hT, hD, hnf, hnl, hcells, hslots⟩ := X
  subst hq
  intro H locs ls hP hS hL
  exact lv_fcmp hx hb d (k H locs ls hP hS hL)
theorem ww_dup {Γ : hb_Ctx} {cc : ByteArray} {nL : Nat} {own : String} {Λ : hb_Lay} {G : hb_Gam} {nf nl : Nat} {Q : State → Prop} {σ : hb_Mem} {L : List (Option Value)} {st : List Value} {pc : Nat} {v : Value} (q : Nat) (X : hb_X Γ cc nL own Λ G nf nl) (d : decode cc pc = .ok (.dup, 1)) (hq : pc + 1 = q) (hc : v.category = 1) (k : hb_W Γ Λ G nL Q σ L (v :: v :: st) q) : hb_W Γ Λ G nL Q σ L (v :: st) pc := by
  obtain ⟨p, l, e, R, s, m, args, below, meth, c, cells, slots⟩ := Γ
  obtain ⟨hx, hb, hml, hown, hlocks, hK, hT, hD, hnf, hnl, hcells, hslots⟩ := X
  subst hq
  intro H locs ls hP hS hL
  exact lv_dup hx hb d hc (k H locs ls hP hS hL)
theorem ww_dup2 {Γ : hb_Ctx} {cc : ByteArray} {nL : Nat} {own : String} {Λ : hb_Lay} {G : hb_Gam} {nf nl : Nat} {Q : State → Prop} {σ : hb_Mem} {L : List (Option Value)} {st : List Value} {pc : Nat} {v w : Value} (q : Nat) (X : hb_X Γ cc nL own Λ G nf nl) (d : decode cc pc = .ok (.dup2, 1)) (hq : pc + 1 = q) (hc : v.category = 1) (hc2 : w.category = 1) (k : hb_W Γ Λ G nL Q σ L (v :: w :: v :: w :: st) q) : hb_W Γ Λ G nL Q σ L (v :: w :: st) pc := by
  obtain ⟨p, l, e, R, s, m, args, below, meth, c, cells, slots⟩ := Γ
  obtain ⟨hx, hb, hml, hown, hlocks, hK, hT, hD, hnf, hnl, hcells, hslots⟩ := X
  subst hq
  intro H locs ls hP hS hL
  exact lv_dup2_11 hx hb d hc hc2 (k H locs ls hP hS hL)
theorem ww_pop {Γ : hb_Ctx} {cc : ByteArray} {nL : Nat} {own : String} {Λ : hb_Lay} {G : hb_Gam} {nf nl : Nat} {Q : State → Prop} {σ : hb_Mem} {L : List (Option Value)} {st : List Value} {pc : Nat} {v : Value} (q : Nat) (X : hb_X Γ cc nL own Λ G nf nl) (d : decode cc pc = .ok (.pop, 1)) (hq : pc + 1 = q) (hc : v.category = 1) (k : hb_W Γ Λ G nL Q σ L st q) : hb_W Γ Λ G nL Q σ L (v :: st) pc := by
  obtain ⟨p, l, e, R, s, m, args, below, meth, c, cells, slots⟩ := Γ
  obtain ⟨hx, hb, hml, hown, hlocks, hK, hT, hD, hnf, hnl, hcells, hslots⟩ := X
  subst hq
  intro H locs ls hP hS hL
  exact lv_pop hx hb d hc (k H locs ls hP hS hL)
theorem ww_ldc2 {Γ : hb_Ctx} {cc : ByteArray} {nL : Nat} {own : String} {Λ : hb_Lay} {G : hb_Gam} {nf nl : Nat} {Q : State → Prop} {σ : hb_Mem} {L : List (Option Value)} {st : List Value} {pc : Nat} {i : Nat} {v : Int64} (q : Nat) (X : hb_X Γ cc nL own Λ G nf nl) (d : decode cc pc = .ok (.ldc2_w i, 3)) (hq : pc + 3 = q) (hw : (Cond.constantLong own i v) ∈ lw_tbl) (k : hb_W Γ Λ G nL Q σ L (.long v :: st) q) : hb_W Γ Λ G nL Q σ L st pc := by
  obtain ⟨p, l, e, R, s, m, args, below, meth, c, cells, slots⟩ := Γ
  obtain ⟨hx, hb, hml, hown, hlocks, hK, hT, hD, hnf, hnl, hcells, hslots⟩ := X
  subst hq
  intro H locs ls hP hS hL
  exact lv_ldc2 hx hb hown (hT _ hw rfl _) d (k H locs ls hP hS hL)
theorem ww_lload_n {Γ : hb_Ctx} {cc : ByteArray} {nL : Nat} {own : String} {Λ : hb_Lay} {G : hb_Gam} {nf nl : Nat} {Q : State → Prop} {σ : hb_Mem} {L : List (Option Value)} {st : List Value} {pc : Nat} {n : Fin 4} {x : Int64} (q : Nat) (X : hb_X Γ cc nL own Λ G nf nl) (d : decode cc pc = .ok (.lload_n n, 1)) (hq : pc + 1 = q) (hv : L[(n : Nat)]? = some (some (.long x))) (k : hb_W Γ Λ G nL Q σ L (.long x :: st) q) : hb_W Γ Λ G nL Q σ L st pc := by
  obtain ⟨p, l, e, R, s, m, args, below, meth, c, cells, slots⟩ := Γ
  obtain ⟨hx, hb, hml, hown, hlocks, hK, hT, hD, hnf, hnl, hcells, hslots⟩ := X
  subst hq
  intro H locs ls hP hS hL
  exact lv_lload_n hx hb d rfl (hL.2.2.2 _ _ hv).1 (k H locs ls hP hS hL)
theorem ww_lload {Γ : hb_Ctx} {cc : ByteArray} {nL : Nat} {own : String} {Λ : hb_Lay} {G : hb_Gam} {nf nl : Nat} {Q : State → Prop} {σ : hb_Mem} {L : List (Option Value)} {st : List Value} {pc : Nat} {n : Nat} {x : Int64} (q : Nat) (X : hb_X Γ cc nL own Λ G nf nl) (d : decode cc pc = .ok (.lload n, 2)) (hq : pc + 2 = q) (hv : L[n]? = some (some (.long x))) (k : hb_W Γ Λ G nL Q σ L (.long x :: st) q) : hb_W Γ Λ G nL Q σ L st pc := by
  obtain ⟨p, l, e, R, s, m, args, below, meth, c, cells, slots⟩ := Γ
  obtain ⟨hx, hb, hml, hown, hlocks, hK, hT, hD, hnf, hnl, hcells, hslots⟩ := X
  subst hq
  intro H locs ls hP hS hL
  exact lv_lload hx hb d (hL.2.2.2 _ _ hv).1 (k H locs ls hP hS hL)
theorem ww_lstore_n {Γ : hb_Ctx} {cc : ByteArray} {nL : Nat} {own : String} {Λ : hb_Lay} {G : hb_Gam} {nf nl : Nat} {Q : State → Prop} {σ : hb_Mem} {L : List (Option Value)} {st : List Value} {pc : Nat} {n : Fin 4} {x : Int64} {L' : List (Option Value)} (q : Nat) (X : hb_X Γ cc nL own Λ G nf nl) (d : decode cc pc = .ok (.lstore_n n, 1)) (hq : pc + 1 = q) (hn : (n : Nat) + 1 < L.length) (hl : (L.set (n : Nat) (some (.long x))).set ((n : Nat) + 1) none = L') (hsf : hb_sf L (n : Nat) = true) (k : hb_W Γ Λ G nL Q σ L' st q) : hb_W Γ Λ G nL Q σ L (.long x :: st) pc := by
  obtain ⟨p, l, e, R, s, m, args, below, meth, c, cells, slots⟩ := Γ
  obtain ⟨hx, hb, hml, hown, hlocks, hK, hT, hD, hnf, hnl, hcells, hslots⟩ := X
  subst hq
  subst hl
  intro H locs ls hP hS hL
  exact lv_lstore_n hx hb d rfl hL.has (by rw [← hL.1]; exact hn) rfl (fun ls' hl' => k H locs ls' hP hS (hL.set2 hsf rfl hn hl'))
theorem ww_lstore {Γ : hb_Ctx} {cc : ByteArray} {nL : Nat} {own : String} {Λ : hb_Lay} {G : hb_Gam} {nf nl : Nat} {Q : State → Prop} {σ : hb_Mem} {L : List (Option Value)} {st : List Value} {pc : Nat} {n : Nat} {x : Int64} {L' : List (Option Value)} (q : Nat) (X : hb_X Γ cc nL own Λ G nf nl) (d : decode cc pc = .ok (.lstore n, 2)) (hq : pc + 2 = q) (hn : (n : Nat) + 1 < L.length) (hl : (L.set (n : Nat) (some (.long x))).set ((n : Nat) + 1) none = L') (hsf : hb_sf L (n : Nat) = true) (k : hb_W Γ Λ G nL Q σ L' st q) : hb_W Γ Λ G nL Q σ L (.long x :: st) pc := by
  obtain ⟨p, l, e, R, s, m, args, below, meth, c, cells, slots⟩ := Γ
  obtain ⟨hx, hb, hml, hown, hlocks, hK, hT, hD, hnf, hnl, hcells, hslots⟩ := X
  subst hq
  subst hl
  intro H locs ls hP hS hL
  exact lv_lstore hx hb d hL.has (by rw [← hL.1]; exact hn) rfl (fun ls' hl' => k H locs ls' hP hS (hL.set2 hsf rfl hn hl'))
theorem ww_ladd {Γ : hb_Ctx} {cc : ByteArray} {nL : Nat} {own : String} {Λ : hb_Lay} {G : hb_Gam} {nf nl : Nat} {Q : State → Prop} {σ : hb_Mem} {L : List (Option Value)} {st : List Value} {pc : Nat} {x y : Int64} (q : Nat) (X : hb_X Γ cc nL own Λ G nf nl) (d : decode cc pc = .ok (.ladd, 1)) (hq : pc + 1 = q)  (k : hb_W Γ Λ G nL Q σ L (.long (x + y) :: st) q) : hb_W Γ Λ G nL Q σ L (.long y :: .long x :: st) pc := by
  obtain ⟨p, l, e, R, s, m, args, below, meth, c, cells, slots⟩ := Γ
  obtain ⟨hx, hb, hml, hown, hlocks, hK, hT, hD, hnf, hnl, hcells, hslots⟩ := X
  subst hq
  intro H locs ls hP hS hL
  exact lv_ladd hx hb d (k H locs ls hP hS hL)
theorem ww_lmul {Γ : hb_Ctx} {cc : ByteArray} {nL : Nat} {own : String} {Λ : hb_Lay} {G : hb_Gam} {nf nl : Nat} {Q : State → Prop} {σ : hb_Mem} {L : List (Option Value)} {st : List Value} {pc : Nat} {x y : Int64} (q : Nat) (X : hb_X Γ cc nL own Λ G nf nl) (d : decode cc pc = .ok (.lmul, 1)) (hq : pc + 1 = q)  (k : hb_W Γ Λ G nL Q σ L (.long (x * y) :: st) q) : hb_W Γ Λ G nL Q σ L (.long y :: .long x :: st) pc := by
  obtain ⟨p, l, e, R, s, m, args, below, meth, c, cells, slots⟩ := Γ
  obtain ⟨hx, hb, hml, hown, hlocks, hK, hT, hD, hnf, hnl, hcells, hslots⟩ := X
  subst hq
  intro H locs ls hP hS hL
  exact lv_lmul hx hb d (k H locs ls hP hS hL)
theorem ww_i2l {Γ : hb_Ctx} {cc : ByteArray} {nL : Nat} {own : String} {Λ : hb_Lay} {G : hb_Gam} {nf nl : Nat} {Q : State → Prop} {σ : hb_Mem} {L : List (Option Value)} {st : List Value} {pc : Nat} {x : Int32} (q : Nat) (X : hb_X Γ cc nL own Λ G nf nl) (d : decode cc pc = .ok (.i2l, 1)) (hq : pc + 1 = q)  (k : hb_W Γ Λ G nL Q σ L (.long (x.toInt64) :: st) q) : hb_W Γ Λ G nL Q σ L (.int x :: st) pc := by
  obtain ⟨p, l, e, R, s, m, args, below, meth, c, cells, slots⟩ := Γ
  obtain ⟨hx, hb, hml, hown, hlocks, hK, hT, hD, hnf, hnl, hcells, hslots⟩ := X
  subst hq
  intro H locs ls hP hS hL
  exact lv_i2l hx hb d rfl (k H locs ls hP hS hL)
theorem ww_lcmp {Γ : hb_Ctx} {cc : ByteArray} {nL : Nat} {own : String} {Λ : hb_Lay} {G : hb_Gam} {nf nl : Nat} {Q : State → Prop} {σ : hb_Mem} {L : List (Option Value)} {st : List Value} {pc : Nat} {x y : Int64} (q : Nat) (X : hb_X Γ cc nL own Λ G nf nl) (d : decode cc pc = .ok (.lcmp, 1)) (hq : pc + 1 = q)  (k : hb_W Γ Λ G nL Q σ L (.int (lg_cmp x y) :: st) q) : hb_W Γ Λ G nL Q σ L (.long y :: .long x :: st) pc := by
  obtain ⟨p, l, e, R, s, m, args, below, meth, c, cells, slots⟩ := Γ
  obtain ⟨hx, hb, hml, hown, hlocks, hK, hT, hD, hnf, hnl, hcells, hslots⟩ := X
  subst hq
  intro H locs ls hP hS hL
  exact W.lcmp hx hb d (k H locs ls hP hS hL)
theorem ww_goto {Γ : hb_Ctx} {cc : ByteArray} {nL : Nat} {own : String} {Λ : hb_Lay} {G : hb_Gam} {nf nl : Nat} {Q : State → Prop} {σ : hb_Mem} {L : List (Option Value)} {st : List Value} {pc : Nat} {off : Int} (q : Nat) (X : hb_X Γ cc nL own Λ G nf nl) (d : decode cc pc = .ok (.goto off, 3)) (hq : (pc : Int) + off = (q : Int)) (k : hb_W Γ Λ G nL Q σ L st q) : hb_W Γ Λ G nL Q σ L st pc := by
  obtain ⟨p, l, e, R, s, m, args, below, meth, c, cells, slots⟩ := Γ
  obtain ⟨hx, hb, hml, hown, hlocks, hK, hT, hD, hnf, hnl, hcells, hslots⟩ := X
  intro H locs ls hP hS hL
  exact lv_goto hx hb d hq (k H locs ls hP hS hL)
theorem ww_icmp_eq {Γ : hb_Ctx} {cc : ByteArray} {nL : Nat} {own : String} {Λ : hb_Lay} {G : hb_Gam} {nf nl : Nat} {Q : State → Prop} {σ : hb_Mem} {L : List (Option Value)} {st : List Value} {pc : Nat} {T : Type} {x y : Int32} {off : Int} {a b : Option T} {r : T} (q q2 : Nat) (X : hb_X Γ cc nL own Λ G nf nl) (d : decode cc pc = .ok (.if_icmp .eq off, 3)) (hq : (pc : Int) + off = (q : Int)) (hq2 : pc + 3 = q2) (h : (if x = y then a else b) = some r) (k1 : a = some r → hb_W Γ Λ G nL Q σ L st q) (k2 : b = some r → hb_W Γ Λ G nL Q σ L st q2) : hb_W Γ Λ G nL Q σ L (.int y :: .int x :: st) pc := by
  obtain ⟨p, l, e, R, s, m, args, below, meth, c, cells, slots⟩ := Γ
  obtain ⟨hx, hb, hml, hown, hlocks, hK, hT, hD, hnf, hnl, hcells, hslots⟩ := X
  subst hq2
  intro H locs ls hP hS hL
  exact lv_icmp_eq hx hb d hq (fun z => k1 (by rw [if_pos z] at h; exact h) H locs ls hP hS hL) (fun z => k2 (by rw [if_neg z] at h; exact h) H locs ls hP hS hL)
theorem ww_icmp_ne {Γ : hb_Ctx} {cc : ByteArray} {nL : Nat} {own : String} {Λ : hb_Lay} {G : hb_Gam} {nf nl : Nat} {Q : State → Prop} {σ : hb_Mem} {L : List (Option Value)} {st : List Value} {pc : Nat} {T : Type} {x y : Int32} {off : Int} {a b : Option T} {r : T} (q q2 : Nat) (X : hb_X Γ cc nL own Λ G nf nl) (d : decode cc pc = .ok (.if_icmp .ne off, 3)) (hq : (pc : Int) + off = (q : Int)) (hq2 : pc + 3 = q2) (h : (if x = y then a else b) = some r) (k1 : a = some r → hb_W Γ Λ G nL Q σ L st q2) (k2 : b = some r → hb_W Γ Λ G nL Q σ L st q) : hb_W Γ Λ G nL Q σ L (.int y :: .int x :: st) pc := by
  obtain ⟨p, l, e, R, s, m, args, below, meth, c, cells, slots⟩ := Γ
  obtain ⟨hx, hb, hml, hown, hlocks, hK, hT, hD, hnf, hnl, hcells, hslots⟩ := X
  subst hq2
  intro H locs ls hP hS hL
  exact lv_icmp_ne hx hb d hq (fun z => k2 (by rw [if_neg z] at h; exact h) H locs ls hP hS hL) (fun z => k1 (by rw [if_pos z] at h; exact h) H locs ls hP hS hL)
theorem ww_icmp_lt {Γ : hb_Ctx} {cc : ByteArray} {nL : Nat} {own : String} {Λ : hb_Lay} {G : hb_Gam} {nf nl : Nat} {Q : State → Prop} {σ : hb_Mem} {L : List (Option Value)} {st : List Value} {pc : Nat} {T : Type} {x y : Int32} {off : Int} {a b : Option T} {r : T} (q q2 : Nat) (X : hb_X Γ cc nL own Λ G nf nl) (d : decode cc pc = .ok (.if_icmp .lt off, 3)) (hq : (pc : Int) + off = (q : Int)) (hq2 : pc + 3 = q2) (h : (if x < y then a else b) = some r) (k1 : a = some r → hb_W Γ Λ G nL Q σ L st q) (k2 : b = some r → hb_W Γ Λ G nL Q σ L st q2) : hb_W Γ Λ G nL Q σ L (.int y :: .int x :: st) pc := by
  obtain ⟨p, l, e, R, s, m, args, below, meth, c, cells, slots⟩ := Γ
  obtain ⟨hx, hb, hml, hown, hlocks, hK, hT, hD, hnf, hnl, hcells, hslots⟩ := X
  subst hq2
  intro H locs ls hP hS hL
  exact lv_icmp_lt hx hb d hq (fun z => k1 (by rw [if_pos z] at h; exact h) H locs ls hP hS hL) (fun z => k2 (by rw [if_neg z] at h; exact h) H locs ls hP hS hL)
theorem ww_icmp_ge {Γ : hb_Ctx} {cc : ByteArray} {nL : Nat} {own : String} {Λ : hb_Lay} {G : hb_Gam} {nf nl : Nat} {Q : State → Prop} {σ : hb_Mem} {L : List (Option Value)} {st : List Value} {pc : Nat} {T : Type} {x y : Int32} {off : Int} {a b : Option T} {r : T} (q q2 : Nat) (X : hb_X Γ cc nL own Λ G nf nl) (d : decode cc pc = .ok (.if_icmp .ge off, 3)) (hq : (pc : Int) + off = (q : Int)) (hq2 : pc + 3 = q2) (h : (if y ≤ x then a else b) = some r) (k1 : a = some r → hb_W Γ Λ G nL Q σ L st q) (k2 : b = some r → hb_W Γ Λ G nL Q σ L st q2) : hb_W Γ Λ G nL Q σ L (.int y :: .int x :: st) pc := by
  obtain ⟨p, l, e, R, s, m, args, below, meth, c, cells, slots⟩ := Γ
  obtain ⟨hx, hb, hml, hown, hlocks, hK, hT, hD, hnf, hnl, hcells, hslots⟩ := X
  subst hq2
  intro H locs ls hP hS hL
  exact lv_icmp_ge hx hb d hq (fun z => k1 (by rw [if_pos z] at h; exact h) H locs ls hP hS hL) (fun z => k2 (by rw [if_neg z] at h; exact h) H locs ls hP hS hL)
theorem ww_icmp_gt {Γ : hb_Ctx} {cc : ByteArray} {nL : Nat} {own : String} {Λ : hb_Lay} {G : hb_Gam} {nf nl : Nat} {Q : State → Prop} {σ : hb_Mem} {L : List (Option Value)} {st : List Value} {pc : Nat} {T : Type} {x y : Int32} {off : Int} {a b : Option T} {r : T} (q q2 : Nat) (X : hb_X Γ cc nL own Λ G nf nl) (d : decode cc pc = .ok (.if_icmp .gt off, 3)) (hq : (pc : Int) + off = (q : Int)) (hq2 : pc + 3 = q2) (h : (if y < x then a else b) = some r) (k1 : a = some r → hb_W Γ Λ G nL Q σ L st q) (k2 : b = some r → hb_W Γ Λ G nL Q σ L st q2) : hb_W Γ Λ G nL Q σ L (.int y :: .int x :: st) pc := by
  obtain ⟨p, l, e, R, s, m, args, below, meth, c, cells, slots⟩ := Γ
  obtain ⟨hx, hb, hml, hown, hlocks, hK, hT, hD, hnf, hnl, hcells, hslots⟩ := X
  subst hq2
  intro H locs ls hP hS hL
  exact lv_icmp_gt hx hb d hq (fun z => k1 (by rw [if_pos z] at h; exact h) H locs ls hP hS hL) (fun z => k2 (by rw [if_neg z] at h; exact h) H locs ls hP hS hL)
theorem ww_icmp_le {Γ : hb_Ctx} {cc : ByteArray} {nL : Nat} {own : String} {Λ : hb_Lay} {G : hb_Gam} {nf nl : Nat} {Q : State → Prop} {σ : hb_Mem} {L : List (Option Value)} {st : List Value} {pc : Nat} {T : Type} {x y : Int32} {off : Int} {a b : Option T} {r : T} (q q2 : Nat) (X : hb_X Γ cc nL own Λ G nf nl) (d : decode cc pc = .ok (.if_icmp .le off, 3)) (hq : (pc : Int) + off = (q : Int)) (hq2 : pc + 3 = q2) (h : (if x ≤ y then a else b) = some r) (k1 : a = some r → hb_W Γ Λ G nL Q σ L st q) (k2 : b = some r → hb_W Γ Λ G nL Q σ L st q2) : hb_W Γ Λ G nL Q σ L (.int y :: .int x :: st) pc := by
  obtain ⟨p, l, e, R, s, m, args, below, meth, c, cells, slots⟩ := Γ
  obtain ⟨hx, hb, hml, hown, hlocks, hK, hT, hD, hnf, hnl, hcells, hslots⟩ := X
  subst hq2
  intro H locs ls hP hS hL
  exact lv_icmp_le hx hb d hq (fun z => k1 (by rw [if_pos z] at h; exact h) H locs ls hP hS hL) (fun z => k2 (by rw [if_neg z] at h; exact h) H locs ls hP hS hL)
theorem ww_if_eq {Γ : hb_Ctx} {cc : ByteArray} {nL : Nat} {own : String} {Λ : hb_Lay} {G : hb_Gam} {nf nl : Nat} {Q : State → Prop} {σ : hb_Mem} {L : List (Option Value)} {st : List Value} {pc : Nat} {T : Type} {x : Int32} {off : Int} {a b : Option T} {r : T} (q q2 : Nat) (X : hb_X Γ cc nL own Λ G nf nl) (d : decode cc pc = .ok (.ifCond .eq off, 3)) (hq : (pc : Int) + off = (q : Int)) (hq2 : pc + 3 = q2) (h : (if x = 0 then a else b) = some r) (k1 : a = some r → hb_W Γ Λ G nL Q σ L st q) (k2 : b = some r → hb_W Γ Λ G nL Q σ L st q2) : hb_W Γ Λ G nL Q σ L (.int x :: st) pc := by
  obtain ⟨p, l, e, R, s, m, args, below, meth, c, cells, slots⟩ := Γ
  obtain ⟨hx, hb, hml, hown, hlocks, hK, hT, hD, hnf, hnl, hcells, hslots⟩ := X
  subst hq2
  intro H locs ls hP hS hL
  exact lv_if_eq hx hb d hq (fun z => k1 (by rw [if_pos z] at h; exact h) H locs ls hP hS hL) (fun z => k2 (by rw [if_neg z] at h; exact h) H locs ls hP hS hL)
theorem ww_if_ne {Γ : hb_Ctx} {cc : ByteArray} {nL : Nat} {own : String} {Λ : hb_Lay} {G : hb_Gam} {nf nl : Nat} {Q : State → Prop} {σ : hb_Mem} {L : List (Option Value)} {st : List Value} {pc : Nat} {T : Type} {x : Int32} {off : Int} {a b : Option T} {r : T} (q q2 : Nat) (X : hb_X Γ cc nL own Λ G nf nl) (d : decode cc pc = .ok (.ifCond .ne off, 3)) (hq : (pc : Int) + off = (q : Int)) (hq2 : pc + 3 = q2) (h : (if x = 0 then a else b) = some r) (k1 : a = some r → hb_W Γ Λ G nL Q σ L st q2) (k2 : b = some r → hb_W Γ Λ G nL Q σ L st q) : hb_W Γ Λ G nL Q σ L (.int x :: st) pc := by
  obtain ⟨p, l, e, R, s, m, args, below, meth, c, cells, slots⟩ := Γ
  obtain ⟨hx, hb, hml, hown, hlocks, hK, hT, hD, hnf, hnl, hcells, hslots⟩ := X
  subst hq2
  intro H locs ls hP hS hL
  exact lv_if_ne hx hb d hq (fun z => k2 (by rw [if_neg z] at h; exact h) H locs ls hP hS hL) (fun z => k1 (by rw [if_pos z] at h; exact h) H locs ls hP hS hL)
theorem ww_if_lt {Γ : hb_Ctx} {cc : ByteArray} {nL : Nat} {own : String} {Λ : hb_Lay} {G : hb_Gam} {nf nl : Nat} {Q : State → Prop} {σ : hb_Mem} {L : List (Option Value)} {st : List Value} {pc : Nat} {T : Type} {x : Int32} {off : Int} {a b : Option T} {r : T} (q q2 : Nat) (X : hb_X Γ cc nL own Λ G nf nl) (d : decode cc pc = .ok (.ifCond .lt off, 3)) (hq : (pc : Int) + off = (q : Int)) (hq2 : pc + 3 = q2) (h : (if x < 0 then a else b) = some r) (k1 : a = some r → hb_W Γ Λ G nL Q σ L st q) (k2 : b = some r → hb_W Γ Λ G nL Q σ L st q2) : hb_W Γ Λ G nL Q σ L (.int x :: st) pc := by
  obtain ⟨p, l, e, R, s, m, args, below, meth, c, cells, slots⟩ := Γ
  obtain ⟨hx, hb, hml, hown, hlocks, hK, hT, hD, hnf, hnl, hcells, hslots⟩ := X
  subst hq2
  intro H locs ls hP hS hL
  exact lv_if_lt hx hb d hq (fun z => k1 (by rw [if_pos z] at h; exact h) H locs ls hP hS hL) (fun z => k2 (by rw [if_neg z] at h; exact h) H locs ls hP hS hL)
theorem ww_if_ge {Γ : hb_Ctx} {cc : ByteArray} {nL : Nat} {own : String} {Λ : hb_Lay} {G : hb_Gam} {nf nl : Nat} {Q : State → Prop} {σ : hb_Mem} {L : List (Option Value)} {st : List Value} {pc : Nat} {T : Type} {x : Int32} {off : Int} {a b : Option T} {r : T} (q q2 : Nat) (X : hb_X Γ cc nL own Λ G nf nl) (d : decode cc pc = .ok (.ifCond .ge off, 3)) (hq : (pc : Int) + off = (q : Int)) (hq2 : pc + 3 = q2) (h : (if 0 ≤ x then a else b) = some r) (k1 : a = some r → hb_W Γ Λ G nL Q σ L st q) (k2 : b = some r → hb_W Γ Λ G nL Q σ L st q2) : hb_W Γ Λ G nL Q σ L (.int x :: st) pc := by
  obtain ⟨p, l, e, R, s, m, args, below, meth, c, cells, slots⟩ := Γ
  obtain ⟨hx, hb, hml, hown, hlocks, hK, hT, hD, hnf, hnl, hcells, hslots⟩ := X
  subst hq2
  intro H locs ls hP hS hL
  exact lv_if_ge hx hb d hq (fun z => k1 (by rw [if_pos z] at h; exact h) H locs ls hP hS hL) (fun z => k2 (by rw [if_neg z] at h; exact h) H locs ls hP hS hL)
theorem ww_if_gt {Γ : hb_Ctx} {cc : ByteArray} {nL : Nat} {own : String} {Λ : hb_Lay} {G : hb_Gam} {nf nl : Nat} {Q : State → Prop} {σ : hb_Mem} {L : List (Option Value)} {st : List Value} {pc : Nat} {T : Type} {x : Int32} {off : Int} {a b : Option T} {r : T} (q q2 : Nat) (X : hb_X Γ cc nL own Λ G nf nl) (d : decode cc pc = .ok (.ifCond .gt off, 3)) (hq : (pc : Int) + off = (q : Int)) (hq2 : pc + 3 = q2) (h : (if 0 < x then a else b) = some r) (k1 : a = some r → hb_W Γ Λ G nL Q σ L st q) (k2 : b = some r → hb_W Γ Λ G nL Q σ L st q2) : hb_W Γ Λ G nL Q σ L (.int x :: st) pc := by
  obtain ⟨p, l, e, R, s, m, args, below, meth, c, cells, slots⟩ := Γ
  obtain ⟨hx, hb, hml, hown, hlocks, hK, hT, hD, hnf, hnl, hcells, hslots⟩ := X
  subst hq2
  intro H locs ls hP hS hL
  exact lv_if_gt hx hb d hq (fun z => k1 (by rw [if_pos z] at h; exact h) H locs ls hP hS hL) (fun z => k2 (by rw [if_neg z] at h; exact h) H locs ls hP hS hL)
theorem ww_if_le {Γ : hb_Ctx} {cc : ByteArray} {nL : Nat} {own : String} {Λ : hb_Lay} {G : hb_Gam} {nf nl : Nat} {Q : State → Prop} {σ : hb_Mem} {L : List (Option Value)} {st : List Value} {pc : Nat} {T : Type} {x : Int32} {off : Int} {a b : Option T} {r : T} (q q2 : Nat) (X : hb_X Γ cc nL own Λ G nf nl) (d : decode cc pc = .ok (.ifCond .le off, 3)) (hq : (pc : Int) + off = (q : Int)) (hq2 : pc + 3 = q2) (h : (if x ≤ 0 then a else b) = some r) (k1 : a = some r → hb_W Γ Λ G nL Q σ L st q) (k2 : b = some r → hb_W Γ Λ G nL Q σ L st q2) : hb_W Γ Λ G nL Q σ L (.int x :: st) pc := by
  obtain ⟨p, l, e, R, s, m, args, below, meth, c, cells, slots⟩ := Γ
  obtain ⟨hx, hb, hml, hown, hlocks, hK, hT, hD, hnf, hnl, hcells, hslots⟩ := X
  subst hq2
  intro H locs ls hP hS hL
  exact lv_if_le hx hb d hq (fun z => k1 (by rw [if_pos z] at h; exact h) H locs ls hP hS hL) (fun z => k2 (by rw [if_neg z] at h; exact h) H locs ls hP hS hL)
theorem ww_ifnull_r {Γ : hb_Ctx} {cc : ByteArray} {nL : Nat} {own : String} {Λ : hb_Lay} {G : hb_Gam} {nf nl : Nat} {Q : State → Prop} {σ : hb_Mem} {L : List (Option Value)} {st : List Value} {pc : Nat} {x : Nat} {off : Int} (q : Nat) (X : hb_X Γ cc nL own Λ G nf nl) (d : decode cc pc = .ok (.ifnull off, 3)) (hq : pc + 3 = q)  (k : hb_W Γ Λ G nL Q σ L st q) : hb_W Γ Λ G nL Q σ L (.ref x :: st) pc := by
  obtain ⟨p, l, e, R, s, m, args, below, meth, c, cells, slots⟩ := Γ
  obtain ⟨hx, hb, hml, hown, hlocks, hK, hT, hD, hnf, hnl, hcells, hslots⟩ := X
  subst hq
  intro H locs ls hP hS hL
  exact lv_ifnull hx hb d (k H locs ls hP hS hL)
theorem ww_ifnull_n {Γ : hb_Ctx} {cc : ByteArray} {nL : Nat} {own : String} {Λ : hb_Lay} {G : hb_Gam} {nf nl : Nat} {Q : State → Prop} {σ : hb_Mem} {L : List (Option Value)} {st : List Value} {pc : Nat} {off : Int} (q : Nat) (X : hb_X Γ cc nL own Λ G nf nl) (d : decode cc pc = .ok (.ifnull off, 3)) (hq : (pc : Int) + off = (q : Int)) (k : hb_W Γ Λ G nL Q σ L st q) : hb_W Γ Λ G nL Q σ L (.null :: st) pc := by
  obtain ⟨p, l, e, R, s, m, args, below, meth, c, cells, slots⟩ := Γ
  obtain ⟨hx, hb, hml, hown, hlocks, hK, hT, hD, hnf, hnl, hcells, hslots⟩ := X
  intro H locs ls hP hS hL
  exact lv_ifnullN hx hb d hq (k H locs ls hP hS hL)
theorem ww_tabIn {Γ : hb_Ctx} {cc : ByteArray} {nL : Nat} {own : String} {Λ : hb_Lay} {G : hb_Gam} {nf nl : Nat} {Q : State → Prop} {σ : hb_Mem} {L : List (Option Value)} {st : List Value} {pc : Nat} {dflt lo hi : Int} {offs : Array Int} {len : Nat} {x : Int32} (off : Int) (q : Nat) (X : hb_X Γ cc nL own Λ G nf nl) (d : decode cc pc = .ok (.tableswitch dflt lo hi offs, len)) (h1 : ¬ x.toInt < lo) (h2 : ¬ hi < x.toInt) (ho : offs[(x.toInt - lo).toNat]? = some off) (hq : (pc : Int) + off = (q : Int)) (k : hb_W Γ Λ G nL Q σ L st q) : hb_W Γ Λ G nL Q σ L (.int x :: st) pc := by
  obtain ⟨p, l, e, R, s, m, args, below, meth, c, cells, slots⟩ := Γ
  obtain ⟨hx, hb, hml, hown, hlocks, hK, hT, hD, hnf, hnl, hcells, hslots⟩ := X
  intro H locs ls hP hS hL
  exact lv_tableIn hx hb d h1 h2 ho hq (k H locs ls hP hS hL)
theorem ww_tabOut {Γ : hb_Ctx} {cc : ByteArray} {nL : Nat} {own : String} {Λ : hb_Lay} {G : hb_Gam} {nf nl : Nat} {Q : State → Prop} {σ : hb_Mem} {L : List (Option Value)} {st : List Value} {pc : Nat} {dflt lo hi : Int} {offs : Array Int} {len : Nat} {x : Int32} (q : Nat) (X : hb_X Γ cc nL own Λ G nf nl) (d : decode cc pc = .ok (.tableswitch dflt lo hi offs, len)) (h : x.toInt < lo ∨ hi < x.toInt) (hq : (pc : Int) + dflt = (q : Int)) (k : hb_W Γ Λ G nL Q σ L st q) : hb_W Γ Λ G nL Q σ L (.int x :: st) pc := by
  obtain ⟨p, l, e, R, s, m, args, below, meth, c, cells, slots⟩ := Γ
  obtain ⟨hx, hb, hml, hown, hlocks, hK, hT, hD, hnf, hnl, hcells, hslots⟩ := X
  intro H locs ls hP hS hL
  exact lv_tableOut hx hb d h hq (k H locs ls hP hS hL)
theorem ww_look {Γ : hb_Ctx} {cc : ByteArray} {nL : Nat} {own : String} {Λ : hb_Lay} {G : hb_Gam} {nf nl : Nat} {Q : State → Prop} {σ : hb_Mem} {L : List (Option Value)} {st : List Value} {pc : Nat} {dflt : Int} {ps : Array (Int × Int)} {len : Nat} {x : Int32} (off : Int) (q : Nat) (X : hb_X Γ cc nL own Λ G nf nl) (d : decode cc pc = .ok (.lookupswitch dflt ps, len)) (hp : (ps.toList.zip (ps.toList.drop 1)).all (fun (a, next) => a.1 < next.1) = true) (ho : Op.lookupswitch.offset ps.toList dflt x.toInt = off) (hq : (pc : Int) + off = (q : Int)) (k : hb_W Γ Λ G nL Q σ L st q) : hb_W Γ Λ G nL Q σ L (.int x :: st) pc := by
  obtain ⟨p, l, e, R, s, m, args, below, meth, c, cells, slots⟩ := Γ
  obtain ⟨hx, hb, hml, hown, hlocks, hK, hT, hD, hnf, hnl, hcells, hslots⟩ := X
  intro H locs ls hP hS hL
  exact lv_lookup hx hb d hp ho hq (k H locs ls hP hS hL)
theorem hb_ne_toInt {x y : Int32} (h : ¬ x = y) (c : Int) (hc : y.toInt = c) : ¬ x.toInt = c := fun z => h (Int32.toInt_inj.mp (z.trans hc.symm))
theorem ww_f2raw {Γ : hb_Ctx} {cc : ByteArray} {nL : Nat} {own : String} {Λ : hb_Lay} {G : hb_Gam} {nf nl : Nat} {Q : State → Prop} {σ : hb_Mem} {L : List (Option Value)} {st : List Value} {pc : Nat} {idx : Nat} {b : UInt32} (q : Nat) (X : hb_X Γ cc nL own Λ G nf nl) (w1 : (Cond.methodLink own idx ⟨"java/lang/Float", "floatToRawIntBits", "(F)I"⟩) ∈ lw_tbl) (w2 : (Cond.native ⟨"java/lang/Float", "floatToRawIntBits", "(F)I"⟩) ∈ lw_tbl) (w3 : (Cond.static ⟨"java/lang/Float", "floatToRawIntBits", "(F)I"⟩) ∈ lw_tbl) (w4 : (Cond.initialized "java/lang/Float") ∈ lw_tbl) (hf : 1 ≤ nf) (hl : 23 ≤ nl) (hrest : (st.map fun v => v.category).sum ≤ 8) (d : decode cc pc = .ok (.invokestatic idx, 3)) (hq : pc + 3 = q) (k : hb_W Γ Λ G nL Q σ L (.int (b.toInt32) :: st) q) : hb_W Γ Λ G nL Q σ L (.float b :: st) pc := by
  obtain ⟨p, l, e, R, s, m, args, below, meth, c, cells, slots⟩ := Γ
  obtain ⟨hx, hb, hml, hown, hlocks, hK, hT, hD, hnf, hnl, hcells, hslots⟩ := X
  subst hq
  intro H locs ls hP hS hL
  exact vn_f2i hx hb (hml.trans hL.2.1.symm) hown (hT _ w1 rfl _) (hT _ w2 rfl _) (hT _ w3 rfl _) (hT _ w4 rfl _) (Nat.le_trans hf hnf) (Nat.le_trans (Nat.add_le_add_right hrest 15) (Nat.le_trans hl hnl)) d (k H locs ls hP hS hL)
def hb_kill : List Nat → List (Option Value) → List (Option Value)
  | [], L => L
  | i :: is, L => (hb_kill is L).set i none
theorem hb_kill_len : ∀ (is : List Nat) (L : List (Option Value)), (hb_kill is L).length = L.length
  | [], L => rfl
  | i :: is, L => by rw [hb_kill, List.length_set, hb_kill_len is L]
theorem hb_kill_get : ∀ (is : List Nat) (L : List (Option Value)) (j : Nat) (v : Value), (hb_kill is L)[j]? = some (some v) → L[j]? = some (some v)
  | [], L, j, v, h => h
  | i :: is, L, j, v, h => by
    rw [hb_kill] at h
    by_cases hij : i = j
    · subst hij
      by_cases hl : i < (hb_kill is L).length
      · rw [List.getElem?_set_self hl] at h
        cases h
      · rw [List.getElem?_eq_none (by rw [List.length_set]; omega)] at h
        cases h
    · rw [List.getElem?_set_ne hij] at h
      exact hb_kill_get is L j v h
theorem hb_kill_none : ∀ (is : List Nat) (L : List (Option Value)) (j : Nat), L[j]? = some none → (hb_kill is L)[j]? = some none
  | [], L, j, h => h
  | i :: is, L, j, h => by
    rw [hb_kill]
    have h1 := hb_kill_none is L j h
    by_cases hij : i = j
    · subst hij
      exact List.getElem?_set_self (List.getElem?_eq_some_iff.mp h1).1
    · rw [List.getElem?_set_ne hij]
      exact h1
theorem ww_kill {Γ : hb_Ctx} {nL : Nat} {Λ : hb_Lay} {G : hb_Gam} {Q : State → Prop} {σ : hb_Mem} {L : List (Option Value)} {st : List Value} {pc : Nat} {L' : List (Option Value)} (is : List Nat) (hl : hb_kill is L = L') (k : hb_W Γ Λ G nL Q σ L' st pc) : hb_W Γ Λ G nL Q σ L st pc := by
  obtain ⟨p, l, e, R, s, m, args, below, meth, c, cells, slots⟩ := Γ
  subst hl
  intro H locs ls hP hS hL
  exact k H locs ls hP hS ⟨by rw [hb_kill_len]; exact hL.1, hL.2.1, hL.2.2.1, fun i v hv => ⟨(hL.2.2.2 i v (hb_kill_get is L i v hv)).1, (hL.2.2.2 i v (hb_kill_get is L i v hv)).2.imp (fun q => q) (fun q => ⟨q.1, hb_kill_none is L _ q.2⟩)⟩⟩
theorem ww_geti {Γ : hb_Ctx} {cc : ByteArray} {nL : Nat} {own : String} {Λ : hb_Lay} {G : hb_Gam} {nf nl : Nat} {Q : State → Prop} {σ : hb_Mem} {L : List (Option Value)} {st : List Value} {pc : Nat} {a ci j idx N : Nat} {C : String} {T : u_T} (q : Nat) (X : hb_X Γ cc nL own Λ G nf nl) (F : vwCl[ci]? = some (C, T, N) ∧ (∀ w ∈ u_ws C T N, w ∈ lw_tbl) ∧ (∀ w ∈ u_ws C T N, goodWord w = true) ∧ ci < 7 ∧ hb_nf ci = N) (hw : (Cond.fieldLink own idx (T j).1 (T j).2.1 (T j).2.2.1) ∈ lw_tbl) (hj : j < N) (hr : hb_rf ci j = false) (ha0 : hb_is Λ a ci) (d : decode cc pc = .ok (.getfield idx, 3)) (hq : pc + 3 = q) (k : hb_W Γ Λ G nL Q σ L (.int (σ a j) :: st) q) : hb_W Γ Λ G nL Q σ L (.ref (G.2.2.2 a) :: st) pc := by
  obtain ⟨p, l, e, R, s, m, args, below, meth, c, cells, slots⟩ := Γ
  obtain ⟨hx, hb, hml, hown, hlocks, hK, hT, hD, hnf, hnl, hcells, hslots⟩ := X
  obtain ⟨hlt, ha⟩ := ha0
  obtain ⟨hc, hin, hgw, h7, hN⟩ := F
  subst hq
  intro H locs ls hP hS hL
  have hg := hb_fs_get (ad := G.2.2.2) (Λ := Λ) (σ := σ) (k := a) (j := j) (by rw [ha, hN]; exact hj)
  rw [ha, hr] at hg
  exact va_get (ws := hb_wL Λ G σ) (Ts := u_ws C T N) hx hb (fun w h => hT w (hin w h) (by rw [hgw w h]; rfl) args) (fun _ h => h) hown hK hP a (fs := hb_fs Λ G.2.2.2 σ a) (by rw [hb_wL_get hlt, hb_cell_obj ha h7]) hc j hj (hT _ hw (by rfl) args) (fun _ h => h) hg d (k H locs ls hP hS hL)
theorem ww_getr {Γ : hb_Ctx} {cc : ByteArray} {nL : Nat} {own : String} {Λ : hb_Lay} {G : hb_Gam} {nf nl : Nat} {Q : State → Prop} {σ : hb_Mem} {L : List (Option Value)} {st : List Value} {pc : Nat} {a ci j idx N : Nat} {C : String} {T : u_T} (q : Nat) (X : hb_X Γ cc nL own Λ G nf nl) (F : vwCl[ci]? = some (C, T, N) ∧ (∀ w ∈ u_ws C T N, w ∈ lw_tbl) ∧ (∀ w ∈ u_ws C T N, goodWord w = true) ∧ ci < 7 ∧ hb_nf ci = N) (hw : (Cond.fieldLink own idx (T j).1 (T j).2.1 (T j).2.2.1) ∈ lw_tbl) (hj : j < N) (hr : hb_rf ci j = true) (ha0 : hb_is Λ a ci) (d : decode cc pc = .ok (.getfield idx, 3)) (hq : pc + 3 = q) (k : hb_W Γ Λ G nL Q σ L (.ref (G.2.2.2 (Λ.2.2.1 a j)) :: st) q) : hb_W Γ Λ G nL Q σ L (.ref (G.2.2.2 a) :: st) pc := by
  obtain ⟨p, l, e, R, s, m, args, below, meth, c, cells, slots⟩ := Γ
  obtain ⟨hx, hb, hml, hown, hlocks, hK, hT, hD, hnf, hnl, hcells, hslots⟩ := X
  obtain ⟨hlt, ha⟩ := ha0
  obtain ⟨hc, hin, hgw, h7, hN⟩ := F
  subst hq
  intro H locs ls hP hS hL
  have hg := hb_fs_get (ad := G.2.2.2) (Λ := Λ) (σ := σ) (k := a) (j := j) (by rw [ha, hN]; exact hj)
  rw [ha, hr] at hg
  exact va_get (ws := hb_wL Λ G σ) (Ts := u_ws C T N) hx hb (fun w h => hT w (hin w h) (by rw [hgw w h]; rfl) args) (fun _ h => h) hown hK hP a (fs := hb_fs Λ G.2.2.2 σ a) (by rw [hb_wL_get hlt, hb_cell_obj ha h7]) hc j hj (hT _ hw (by rfl) args) (fun _ h => h) hg d (k H locs ls hP hS hL)
theorem ww_put {Γ : hb_Ctx} {cc : ByteArray} {nL : Nat} {own : String} {Λ : hb_Lay} {G : hb_Gam} {nf nl : Nat} {Q : State → Prop} {σ : hb_Mem} {L : List (Option Value)} {st : List Value} {pc : Nat} {a ci j idx N : Nat} {C : String} {T : u_T} {v : Int32} {ty : FieldType} {σ' : hb_Mem} (q : Nat) (X : hb_X Γ cc nL own Λ G nf nl) (F : vwCl[ci]? = some (C, T, N) ∧ (∀ w ∈ u_ws C T N, w ∈ lw_tbl) ∧ (∀ w ∈ u_ws C T N, goodWord w = true) ∧ ci < 7 ∧ hb_nf ci = N) (F2 : ∃ ty0 : Nat → FieldType, (∀ k, k < N → parseFieldDescriptor (T k).2.2.1 = some (ty0 k)) ∧ ∀ a, a < N → ∀ b, b < N → a ≠ b → (T a).2.1 ≠ (T b).2.1) (hw : (Cond.fieldLink own idx (T j).1 (T j).2.1 (T j).2.2.1) ∈ lw_tbl) (hj : j < N) (hr : hb_rf ci j = false) (hfin : (T j).2.2.2 = false) (hd : parseFieldDescriptor (T j).2.2.1 = some ty) (hn : narrow ty (.int v) = .int v) (hfit : fits ty (.int v) = true) (ha0 : hb_is Λ a ci) (hs : hb_up σ a j v = σ') (d : decode cc pc = .ok (.putfield idx, 3)) (hq : pc + 3 = q) (k : hb_W Γ Λ G nL Q σ' L st q) : hb_W Γ Λ G nL Q σ L (.int v :: .ref (G.2.2.2 a) :: st) pc := by
  obtain ⟨p, l, e, R, s, m, args, below, meth, c, cells, slots⟩ := Γ
  obtain ⟨hx, hb, hml, hown, hlocks, hK, hT, hD, hnf, hnl, hcells, hslots⟩ := X
  obtain ⟨hlt, ha⟩ := ha0
  obtain ⟨hc, hin, hgw, h7, hN⟩ := F
  obtain ⟨ty0, hty, hnm⟩ := F2
  subst hq; subst hs
  intro H locs ls hP hS hL
  refine va_put (ws := hb_wL Λ G σ) (Ts := u_ws C T N) hx hb (fun w h => hT w (hin w h) (by rw [hgw w h]; rfl) args) (fun _ h => h) ty0 hty hnm hown hK hP (hD σ) hS a (fs := hb_fs Λ G.2.2.2 σ a) (by rw [hb_wL_get hlt, hb_cell_obj ha h7]) hc j hj (hT _ hw (by rfl) args) (fun _ h => h) hfin hd hn hfit (by rw [hb_fs_len, ha, hN]; exact hj) d (fun H1 locs1 hP1 hD1 hS1 => ?_)
  rw [hb_wL_up_obj hlt ha h7 hr] at hP1
  exact k H1 locs1 ls hP1 hS1 hL
theorem ww_getiN {Γ : hb_Ctx} {cc : ByteArray} {nL : Nat} {own : String} {Λ : hb_Lay} {G : hb_Gam} {nf nl : Nat} {Q : State → Prop} {σ : hb_Mem} {L : List (Option Value)} {st : List Value} {pc : Nat} {a ci j idx N : Nat} {C : String} {T : u_T} {host : String} (q : Nat) (X : hb_X Γ cc nL own Λ G nf nl) (F : vwCl[ci]? = some (C, T, N) ∧ (∀ w ∈ u_ws C T N, w ∈ lw_tbl) ∧ (∀ w ∈ u_ws C T N, goodWord w = true) ∧ ci < 7 ∧ hb_nf ci = N) (hw : (Cond.fieldLinkNest own idx (T j).1 (T j).2.1 (T j).2.2.1 host) ∈ lw_tbl) (hj : j < N) (hr : hb_rf ci j = false) (ha0 : hb_is Λ a ci) (d : decode cc pc = .ok (.getfield idx, 3)) (hq : pc + 3 = q) (k : hb_W Γ Λ G nL Q σ L (.int (σ a j) :: st) q) : hb_W Γ Λ G nL Q σ L (.ref (G.2.2.2 a) :: st) pc := by
  obtain ⟨p, l, e, R, s, m, args, below, meth, c, cells, slots⟩ := Γ
  obtain ⟨hx, hb, hml, hown, hlocks, hK, hT, hD, hnf, hnl, hcells, hslots⟩ := X
  obtain ⟨hlt, ha⟩ := ha0
  obtain ⟨hc, hin, hgw, h7, hN⟩ := F
  subst hq
  intro H locs ls hP hS hL
  have hg := hb_fs_get (ad := G.2.2.2) (Λ := Λ) (σ := σ) (k := a) (j := j) (by rw [ha, hN]; exact hj)
  rw [ha, hr] at hg
  exact va_getN (ws := hb_wL Λ G σ) (Ts := u_ws C T N) hx hb (fun w h => hT w (hin w h) (by rw [hgw w h]; rfl) args) (fun _ h => h) hown hK hP a (fs := hb_fs Λ G.2.2.2 σ a) (by rw [hb_wL_get hlt, hb_cell_obj ha h7]) hc j hj (hT _ hw (by rfl) args) (fun _ h => h) hg d (k H locs ls hP hS hL)
theorem ww_getrN {Γ : hb_Ctx} {cc : ByteArray} {nL : Nat} {own : String} {Λ : hb_Lay} {G : hb_Gam} {nf nl : Nat} {Q : State → Prop} {σ : hb_Mem} {L : List (Option Value)} {st : List Value} {pc : Nat} {a ci j idx N : Nat} {C : String} {T : u_T} {host : String} (q : Nat) (X : hb_X Γ cc nL own Λ G nf nl) (F : vwCl[ci]? = some (C, T, N) ∧ (∀ w ∈ u_ws C T N, w ∈ lw_tbl) ∧ (∀ w ∈ u_ws C T N, goodWord w = true) ∧ ci < 7 ∧ hb_nf ci = N) (hw : (Cond.fieldLinkNest own idx (T j).1 (T j).2.1 (T j).2.2.1 host) ∈ lw_tbl) (hj : j < N) (hr : hb_rf ci j = true) (ha0 : hb_is Λ a ci) (d : decode cc pc = .ok (.getfield idx, 3)) (hq : pc + 3 = q) (k : hb_W Γ Λ G nL Q σ L (.ref (G.2.2.2 (Λ.2.2.1 a j)) :: st) q) : hb_W Γ Λ G nL Q σ L (.ref (G.2.2.2 a) :: st) pc := by
  obtain ⟨p, l, e, R, s, m, args, below, meth, c, cells, slots⟩ := Γ
  obtain ⟨hx, hb, hml, hown, hlocks, hK, hT, hD, hnf, hnl, hcells, hslots⟩ := X
  obtain ⟨hlt, ha⟩ := ha0
  obtain ⟨hc, hin, hgw, h7, hN⟩ := F
  subst hq
  intro H locs ls hP hS hL
  have hg := hb_fs_get (ad := G.2.2.2) (Λ := Λ) (σ := σ) (k := a) (j := j) (by rw [ha, hN]; exact hj)
  rw [ha, hr] at hg
  exact va_getN (ws := hb_wL Λ G σ) (Ts := u_ws C T N) hx hb (fun w h => hT w (hin w h) (by rw [hgw w h]; rfl) args) (fun _ h => h) hown hK hP a (fs := hb_fs Λ G.2.2.2 σ a) (by rw [hb_wL_get hlt, hb_cell_obj ha h7]) hc j hj (hT _ hw (by rfl) args) (fun _ h => h) hg d (k H locs ls hP hS hL)
theorem ww_putN {Γ : hb_Ctx} {cc : ByteArray} {nL : Nat} {own : String} {Λ : hb_Lay} {G : hb_Gam} {nf nl : Nat} {Q : State → Prop} {σ : hb_Mem} {L : List (Option Value)} {st : List Value} {pc : Nat} {a ci j idx N : Nat} {C : String} {T : u_T} {v : Int32} {ty : FieldType} {σ' : hb_Mem} {host : String} (q : Nat) (X : hb_X Γ cc nL own Λ G nf nl) (F : vwCl[ci]? = some (C, T, N) ∧ (∀ w ∈ u_ws C T N, w ∈ lw_tbl) ∧ (∀ w ∈ u_ws C T N, goodWord w = true) ∧ ci < 7 ∧ hb_nf ci = N) (F2 : ∃ ty0 : Nat → FieldType, (∀ k, k < N → parseFieldDescriptor (T k).2.2.1 = some (ty0 k)) ∧ ∀ a, a < N → ∀ b, b < N → a ≠ b → (T a).2.1 ≠ (T b).2.1) (hw : (Cond.fieldLinkNest own idx (T j).1 (T j).2.1 (T j).2.2.1 host) ∈ lw_tbl) (hj : j < N) (hr : hb_rf ci j = false) (hfin : (T j).2.2.2 = false) (hd : parseFieldDescriptor (T j).2.2.1 = some ty) (hn : narrow ty (.int v) = .int v) (hfit : fits ty (.int v) = true) (ha0 : hb_is Λ a ci) (hs : hb_up σ a j v = σ') (d : decode cc pc = .ok (.putfield idx, 3)) (hq : pc + 3 = q) (k : hb_W Γ Λ G nL Q σ' L st q) : hb_W Γ Λ G nL Q σ L (.int v :: .ref (G.2.2.2 a) :: st) pc := by
  obtain ⟨p, l, e, R, s, m, args, below, meth, c, cells, slots⟩ := Γ
  obtain ⟨hx, hb, hml, hown, hlocks, hK, hT, hD, hnf, hnl, hcells, hslots⟩ := X
  obtain ⟨hlt, ha⟩ := ha0
  obtain ⟨hc, hin, hgw, h7, hN⟩ := F
  obtain ⟨ty0, hty, hnm⟩ := F2
  subst hq; subst hs
  intro H locs ls hP hS hL
  refine va_putN (ws := hb_wL Λ G σ) (Ts := u_ws C T N) hx hb (fun w h => hT w (hin w h) (by rw [hgw w h]; rfl) args) (fun _ h => h) ty0 hty hnm hown hK hP (hD σ) hS a (fs := hb_fs Λ G.2.2.2 σ a) (by rw [hb_wL_get hlt, hb_cell_obj ha h7]) hc j hj (hT _ hw (by rfl) args) (fun _ h => h) hfin hd hn hfit (by rw [hb_fs_len, ha, hN]; exact hj) d (fun H1 locs1 hP1 hD1 hS1 => ?_)
  rw [hb_wL_up_obj hlt ha h7 hr] at hP1
  exact k H1 locs1 ls hP1 hS1 hL
def hb_ld (Λ : hb_Lay) (σ : hb_Mem) (a : Nat) (i : Int32) : Option Int32 := if i < 0 ∨ Λ.2.2.2 a ≤ i.toNatClampNeg then none else some (σ a i.toNatClampNeg)
def hb_st (Λ : hb_Lay) (σ : hb_Mem) (a : Nat) (i v : Int32) : Option hb_Mem := if i < 0 ∨ Λ.2.2.2 a ≤ i.toNatClampNeg then none else some (hb_up σ a i.toNatClampNeg v)
def hb_ldr (Λ : hb_Lay) (a : Nat) (i : Int32) : Option Nat := if i < 0 ∨ Λ.2.2.2 a ≤ i.toNatClampNeg then none else some (Λ.2.2.1 a i.toNatClampNeg)
theorem ww_iald {Γ : hb_Ctx} {cc : ByteArray} {nL : Nat} {own : String} {Λ : hb_Lay} {G : hb_Gam} {nf nl : Nat} {Q : State → Prop} {σ : hb_Mem} {L : List (Option Value)} {st : List Value} {pc : Nat} {a : Nat} {i v : Int32} (q : Nat) (X : hb_X Γ cc nL own Λ G nf nl) (ha0 : hb_is Λ a 7) (hv : hb_ld Λ σ a i = some v) (d : decode cc pc = .ok (.iaload, 1)) (hq : pc + 1 = q) (k : hb_W Γ Λ G nL Q σ L (.int v :: st) q) : hb_W Γ Λ G nL Q σ L (.int i :: .ref (G.2.2.2 a) :: st) pc := by
  obtain ⟨p, l, e, R, s, m, args, below, meth, c, cells, slots⟩ := Γ
  obtain ⟨hx, hb, hml, hown, hlocks, hK, hT, hD, hnf, hnl, hcells, hslots⟩ := X
  obtain ⟨hlt, ha⟩ := ha0
  subst hq
  intro H locs ls hP hS hL
  unfold hb_ld at hv
  split at hv
  · cases hv
  · rename_i hin
    cases hv
    exact va_iald (ws := hb_wL Λ G σ) hx hb hK hP a 0 (by rw [hb_wL_get hlt, hb_cell_arr ha]) rfl hin d (k H locs ls hP hS hL)
theorem ww_iast {Γ : hb_Ctx} {cc : ByteArray} {nL : Nat} {own : String} {Λ : hb_Lay} {G : hb_Gam} {nf nl : Nat} {Q : State → Prop} {σ : hb_Mem} {L : List (Option Value)} {st : List Value} {pc : Nat} {a : Nat} {i v : Int32} {σ' : hb_Mem} (q : Nat) (X : hb_X Γ cc nL own Λ G nf nl) (ha0 : hb_is Λ a 7) (hv : hb_st Λ σ a i v = some σ') (d : decode cc pc = .ok (.iastore, 1)) (hq : pc + 1 = q) (k : hb_W Γ Λ G nL Q σ' L st q) : hb_W Γ Λ G nL Q σ L (.int v :: .int i :: .ref (G.2.2.2 a) :: st) pc := by
  obtain ⟨p, l, e, R, s, m, args, below, meth, c, cells, slots⟩ := Γ
  obtain ⟨hx, hb, hml, hown, hlocks, hK, hT, hD, hnf, hnl, hcells, hslots⟩ := X
  obtain ⟨hlt, ha⟩ := ha0
  subst hq
  intro H locs ls hP hS hL
  unfold hb_st at hv
  split at hv
  · cases hv
  · rename_i hin
    cases hv
    refine va_iast (ws := hb_wL Λ G σ) hx hb hK hP (hD σ) hS a 0 (by rw [hb_wL_get hlt, hb_cell_arr ha]) rfl hin d (fun H1 locs1 hP1 hD1 hS1 => ?_)
    rw [hb_wL_up_arr hlt ha] at hP1
    exact k H1 locs1 ls hP1 hS1 hL
theorem ww_alen {Γ : hb_Ctx} {cc : ByteArray} {nL : Nat} {own : String} {Λ : hb_Lay} {G : hb_Gam} {nf nl : Nat} {Q : State → Prop} {σ : hb_Mem} {L : List (Option Value)} {st : List Value} {pc : Nat} {a : Nat} {v : Int32} (q : Nat) (X : hb_X Γ cc nL own Λ G nf nl) (ha0 : hb_is Λ a 7) (hv : Int32.ofNat (Λ.2.2.2 a) = v) (d : decode cc pc = .ok (.arraylength, 1)) (hq : pc + 1 = q) (k : hb_W Γ Λ G nL Q σ L (.int v :: st) q) : hb_W Γ Λ G nL Q σ L (.ref (G.2.2.2 a) :: st) pc := by
  obtain ⟨p, l, e, R, s, m, args, below, meth, c, cells, slots⟩ := Γ
  obtain ⟨hx, hb, hml, hown, hlocks, hK, hT, hD, hnf, hnl, hcells, hslots⟩ := X
  obtain ⟨hlt, ha⟩ := ha0
  subst hq
  intro H locs ls hP hS hL
  exact va_alen (ws := hb_wL Λ G σ) hx hb hK hP a 0 (x := (Λ.2.2.2 a, .inl (σ a))) (by rw [hb_wL_get hlt, hb_cell_arr ha]) rfl hv d (k H locs ls hP hS hL)
theorem ww_alenq {Γ : hb_Ctx} {cc : ByteArray} {nL : Nat} {own : String} {Λ : hb_Lay} {G : hb_Gam} {nf nl : Nat} {Q : State → Prop} {σ : hb_Mem} {L : List (Option Value)} {st : List Value} {pc : Nat} {a : Nat} {v : Int32} (q : Nat) (X : hb_X Γ cc nL own Λ G nf nl) (ha0 : hb_is Λ a 8) (hv : Int32.ofNat (Λ.2.2.2 a) = v) (d : decode cc pc = .ok (.arraylength, 1)) (hq : pc + 1 = q) (k : hb_W Γ Λ G nL Q σ L (.int v :: st) q) : hb_W Γ Λ G nL Q σ L (.ref (G.2.2.2 a) :: st) pc := by
  obtain ⟨p, l, e, R, s, m, args, below, meth, c, cells, slots⟩ := Γ
  obtain ⟨hx, hb, hml, hown, hlocks, hK, hT, hD, hnf, hnl, hcells, hslots⟩ := X
  obtain ⟨hlt, ha⟩ := ha0
  subst hq
  intro H locs ls hP hS hL
  exact va_alen (ws := hb_wL Λ G σ) hx hb hK hP a 1 (x := (Λ.2.2.2 a, .inr (.inr (.inr (.inr (fun j => some (G.2.2.2 (Λ.2.2.1 a j)))))))) (by rw [hb_wL_get hlt, hb_cell_arq ha]) rfl hv d (k H locs ls hP hS hL)
theorem ww_aald {Γ : hb_Ctx} {cc : ByteArray} {nL : Nat} {own : String} {Λ : hb_Lay} {G : hb_Gam} {nf nl : Nat} {Q : State → Prop} {σ : hb_Mem} {L : List (Option Value)} {st : List Value} {pc : Nat} {a b : Nat} {i : Int32} (q : Nat) (X : hb_X Γ cc nL own Λ G nf nl) (ha0 : hb_is Λ a 8) (hv : hb_ldr Λ a i = some b) (d : decode cc pc = .ok (.aaload, 1)) (hq : pc + 1 = q) (k : hb_W Γ Λ G nL Q σ L (.ref (G.2.2.2 b) :: st) q) : hb_W Γ Λ G nL Q σ L (.int i :: .ref (G.2.2.2 a) :: st) pc := by
  obtain ⟨p, l, e, R, s, m, args, below, meth, c, cells, slots⟩ := Γ
  obtain ⟨hx, hb, hml, hown, hlocks, hK, hT, hD, hnf, hnl, hcells, hslots⟩ := X
  obtain ⟨hlt, ha⟩ := ha0
  subst hq
  intro H locs ls hP hS hL
  unfold hb_ldr at hv
  split at hv
  · cases hv
  · rename_i hin
    cases hv
    exact va_aldq (ws := hb_wL Λ G σ) (f := fun j => some (G.2.2.2 (Λ.2.2.1 a j))) hx hb hK hP a 1 (by rw [hb_wL_get hlt, hb_cell_arq ha]) rfl hin d (k H locs ls hP hS hL)
theorem ww_ret_v {Γ : hb_Ctx} {cc : ByteArray} {nL : Nat} {own : String} {Λ : hb_Lay} {G : hb_Gam} {nf nl : Nat} {Q : State → Prop} {σ : hb_Mem} {L : List (Option Value)} {pc : Nat} (X : hb_X Γ cc nL own Λ G nf nl) (hr : hb_ret Γ = none) (hQ : Q = hb_Q Γ Λ G none σ) (d : decode cc pc = .ok (.return_, 1)) : hb_W Γ Λ G nL Q σ L [] pc := by
  subst hQ
  obtain ⟨p, l, e, R, s, m, args, below, meth, c, cells, slots⟩ := Γ
  obtain ⟨hx, hb, hml, hown, hlocks, hK, hT, hD, hnf, hnl, hcells, hslots⟩ := X
  intro H locs ls hP hS hL
  exact W.vret hx hb hr (fun t ht hW => ⟨rfl, by rw [ht]; exact hP, hS.F ht⟩) hS.2.2 d hlocks
theorem ww_ret_i {Γ : hb_Ctx} {cc : ByteArray} {nL : Nat} {own : String} {Λ : hb_Lay} {G : hb_Gam} {nf nl : Nat} {Q : State → Prop} {σ : hb_Mem} {L : List (Option Value)} {pc : Nat} {v : Int32} (X : hb_X Γ cc nL own Λ G nf nl) (hr : hb_ret Γ = some .int) (hQ : Q = hb_Q Γ Λ G (some (.int v)) σ) (d : decode cc pc = .ok (.ireturn, 1)) : hb_W Γ Λ G nL Q σ L [.int v] pc := by
  subst hQ
  obtain ⟨p, l, e, R, s, m, args, below, meth, c, cells, slots⟩ := Γ
  obtain ⟨hx, hb, hml, hown, hlocks, hK, hT, hD, hnf, hnl, hcells, hslots⟩ := X
  intro H locs ls hP hS hL
  exact W.iret hx hb hr (fun t ht hW => ⟨rfl, by rw [ht]; exact hP, hS.F ht⟩) hS.2.2 d hlocks
theorem ww_ret_z {Γ : hb_Ctx} {cc : ByteArray} {nL : Nat} {own : String} {Λ : hb_Lay} {G : hb_Gam} {nf nl : Nat} {Q : State → Prop} {σ : hb_Mem} {L : List (Option Value)} {pc : Nat} {v : Int32} (X : hb_X Γ cc nL own Λ G nf nl) (hr : hb_ret Γ = some .boolean) (hv : v = 0 ∨ v = 1) (hQ : Q = hb_Q Γ Λ G (some (.int v)) σ) (d : decode cc pc = .ok (.ireturn, 1)) : hb_W Γ Λ G nL Q σ L [.int v] pc := by
  subst hQ
  obtain ⟨p, l, e, R, s, m, args, below, meth, c, cells, slots⟩ := Γ
  obtain ⟨hx, hb, hml, hown, hlocks, hK, hT, hD, hnf, hnl, hcells, hslots⟩ := X
  intro H locs ls hP hS hL
  exact W.zret hx hb hr (by rcases hv with rfl | rfl <;> rfl) (fun t ht hW => ⟨rfl, by rw [ht]; exact hP, hS.F ht⟩) hS.2.2 d hlocks
theorem ww_ret_f {Γ : hb_Ctx} {cc : ByteArray} {nL : Nat} {own : String} {Λ : hb_Lay} {G : hb_Gam} {nf nl : Nat} {Q : State → Prop} {σ : hb_Mem} {L : List (Option Value)} {pc : Nat} {v : UInt32} (X : hb_X Γ cc nL own Λ G nf nl) (hr : hb_ret Γ = some .float) (hQ : Q = hb_Q Γ Λ G (some (.float v)) σ) (d : decode cc pc = .ok (.freturn, 1)) : hb_W Γ Λ G nL Q σ L [.float v] pc := by
  subst hQ
  obtain ⟨p, l, e, R, s, m, args, below, meth, c, cells, slots⟩ := Γ
  obtain ⟨hx, hb, hml, hown, hlocks, hK, hT, hD, hnf, hnl, hcells, hslots⟩ := X
  intro H locs ls hP hS hL
  exact W.fret hx hb hr (fun t ht hW => ⟨rfl, by rw [ht]; exact hP, hS.F ht⟩) hS.2.2 d hlocks
theorem ww_ret_l {Γ : hb_Ctx} {cc : ByteArray} {nL : Nat} {own : String} {Λ : hb_Lay} {G : hb_Gam} {nf nl : Nat} {Q : State → Prop} {σ : hb_Mem} {L : List (Option Value)} {pc : Nat} {v : Int64} (X : hb_X Γ cc nL own Λ G nf nl) (hr : hb_ret Γ = some .long) (hQ : Q = hb_Q Γ Λ G (some (.long v)) σ) (d : decode cc pc = .ok (.lreturn, 1)) : hb_W Γ Λ G nL Q σ L [.long v] pc := by
  subst hQ
  obtain ⟨p, l, e, R, s, m, args, below, meth, c, cells, slots⟩ := Γ
  obtain ⟨hx, hb, hml, hown, hlocks, hK, hT, hD, hnf, hnl, hcells, hslots⟩ := X
  intro H locs ls hP hS hL
  exact W.lret hx hb hr (fun t ht hW => ⟨rfl, by rw [ht]; exact hP, hS.F ht⟩) hS.2.2 d hlocks
theorem ww_ret_a {Γ : hb_Ctx} {cc : ByteArray} {nL : Nat} {own : String} {Λ : hb_Lay} {G : hb_Gam} {nf nl : Nat} {Q : State → Prop} {σ : hb_Mem} {L : List (Option Value)} {pc : Nat} {v : Value} {n : String} (X : hb_X Γ cc nL own Λ G nf nl) (hr : hb_ret Γ = some (.object n)) (hv : v = .null ∨ ∃ a, v = .ref a) (hQ : Q = hb_Q Γ Λ G (some v) σ) (d : decode cc pc = .ok (.areturn, 1)) : hb_W Γ Λ G nL Q σ L [v] pc := by
  subst hQ
  obtain ⟨p, l, e, R, s, m, args, below, meth, c, cells, slots⟩ := Γ
  obtain ⟨hx, hb, hml, hown, hlocks, hK, hT, hD, hnf, hnl, hcells, hslots⟩ := X
  intro H locs ls hP hS hL
  exact W.aret hx hb hr (Or.inl ⟨n, rfl⟩) hv (fun t ht hW => ⟨rfl, by rw [ht]; exact hP, hS.F ht⟩) hS.2.2 d hlocks
theorem hb_Pc_blind {Λ : hb_Lay} {G : hb_Gam} {av : List Value} {σ : hb_Mem} : FrameBlind (hb_Pc Λ G av σ) := by
  intro a U g mk h
  obtain ⟨h1, h2, h3, h4, h5⟩ := h
  exact ⟨h1, h2, va_K.moved (u := U) (U := U.calling g mk a) (Vm.Alike.refl U.vm) h3, h4.calling g mk a, h5⟩
theorem hb_Pc_at {Λ : hb_Lay} {G : hb_Gam} {av : List Value} {σ : hb_Mem} {s : State} {H : Heap} (hK : va_K G.1 vwCl (hb_tys G) s) (hT : hb_TB s) (hD : ∀ σ, va_D (hb_AA Λ G) (hb_wL Λ G σ)) (hP : va_P G.1 vwCl (hb_wL Λ G σ) H) (U : State) (hU : U.heap = H) (hW : s.WarmedH U.vm) : hb_Pc Λ G av σ av.toArray U :=
  ⟨rfl, by rw [hU]; exact hP, va_K.moved hW.alike hK, hT.warm hW, hD⟩
def hb_l (Γ : hb_Ctx) : Launch := Γ.2.1
theorem ww_run {Γ : hb_Ctx} {nL : Nat} {Λ : hb_Lay} {G : hb_Gam} {Q : State → Prop} {σ : hb_Mem} {L : List (Option Value)} {st : List Value} {pc : Nat} {σ' : hb_Mem} {rv : Option Value} {rest : List Value} {a : Array Value} (q : Nat) (hq : pc + 3 = q)
    (hr : match Γ with | (p, l, e, R, s, m, args, below, meth, c, cells, slots) => ∀ (H : Heap) (locs : List Loc) (ls : Array Slot), va_P G.1 vwCl (hb_wL Λ G σ) H → hb_LJ nL L ls → va_Run p l e R s m args below meth c H locs cells slots 0 0 (F0 m pc ls st) rest (hb_Qc Λ G rv σ' a) (hb_AA Λ G))
    (k : hb_W Γ Λ G nL Q σ' L (rv.toList ++ rest) q) : hb_W Γ Λ G nL Q σ L st pc := by
  obtain ⟨p, l, e, R, s, m, args, below, meth, c, cells, slots⟩ := Γ
  subst hq
  intro H locs ls hP hS hL T hT X
  obtain ⟨v, st₀, t, T', L', h0, X', hL', e1, e2, ⟨hv, hP1, hz, hk⟩, st⟩ := hr H locs ls hP hL T hT X
  cases hv
  rw [h0] at hz hk
  obtain ⟨t2, a1, b1⟩ := k T'.heap (locs ++ L') ls (by rw [e1]; exact hP1)
    ⟨Nat.le_trans hS.1 (by rw [e1]; exact hz), fun q h1 h2 => by rw [e1, hk q (Nat.lt_of_lt_of_le h1 hS.1) h2]; exact hS.2.1 q h1 h2, fun q hq => by
      rcases List.mem_append.mp hq with h | h
      · exact hS.2.2 q h
      · exact hL' q h⟩ hL T' rfl X'
  exact ⟨t2, st t2 a1, b1⟩
/-- the words of a call of a static method of the own class -/
abbrev hb_cS (own : String) (idx : Nat) (y : MethodName) (cc' : ByteArray) (nL' : Nat) (ret : Option FieldType) (n : Nat) : Prop := (Cond.methodLink own idx y) ∈ lw_tbl ∧ (Cond.static y) ∈ lw_tbl ∧ (Cond.code y cc' nL' ret) ∈ lw_tbl ∧ (Cond.initialized y.cls) ∈ lw_tbl ∧ (y.cls ≠ "java/lang/invoke/MethodHandle" ∧ y.cls ≠ "java/lang/invoke/VarHandle") ∧ (parseMethodDescriptor y.desc).map (fun d => d.parameters.length) = some n
abbrev hb_cSN (own host : String) (idx : Nat) (y : MethodName) (cc' : ByteArray) (nL' : Nat) (ret : Option FieldType) (n : Nat) : Prop := (Cond.methodLinkNest own idx y host) ∈ lw_tbl ∧ (Cond.static y) ∈ lw_tbl ∧ (Cond.code y cc' nL' ret) ∈ lw_tbl ∧ (Cond.initialized y.cls) ∈ lw_tbl ∧ (y.cls ≠ "java/lang/invoke/MethodHandle" ∧ y.cls ≠ "java/lang/invoke/VarHandle") ∧ (parseMethodDescriptor y.desc).map (fun d => d.parameters.length) = some n
abbrev hb_cV (own : String) (idx : Nat) (y : MethodName) (cc' : ByteArray) (nL' : Nat) (ret : Option FieldType) (n : Nat) : Prop := (Cond.methodLink own idx y) ∈ lw_tbl ∧ (Cond.instanceMethod y) ∈ lw_tbl ∧ (Cond.selects y.cls y y) ∈ lw_tbl ∧ (Cond.code y cc' nL' ret) ∈ lw_tbl ∧ (Cond.initialized y.cls) ∈ lw_tbl ∧ (y.cls ≠ "java/lang/invoke/MethodHandle" ∧ y.cls ≠ "java/lang/invoke/VarHandle") ∧ (parseMethodDescriptor y.desc).map (fun d => d.parameters.length) = some n
theorem hb_len {y : MethodName} {n : Nat} (h : (parseMethodDescriptor y.desc).map (fun d => d.parameters.length) = some n) : ∀ sig, parseMethodDescriptor y.desc = some sig → n = sig.parameters.length := by
  intro sig hs
  rw [hs] at h
  exact (Option.some.inj h).symm
theorem hb_codeW {y : MethodName} {cc' : ByteArray} {nL' : Nat} {ret : Option FieldType} {s : State} (hT : hb_TB s) (h : (Cond.code y cc' nL' ret) ∈ lw_tbl) : ∀ w ∈ [Cond.code y cc' nL' ret], ∀ (a' : Array Value) (U : State), s.WarmedH U.vm → w.before a' U = true := by
  intro w hw a' U hW
  rw [List.mem_singleton] at hw
  subst hw
  exact hT.warm hW _ h rfl a'
theorem ww_callS {Γ : hb_Ctx} {cc : ByteArray} {nL : Nat} {own : String} {Λ : hb_Lay} {G : hb_Gam} {nf nl : Nat} {Q : State → Prop} {σ : hb_Mem} {L : List (Option Value)} {st : List Value} {pc : Nat} {idx nL' nf' nl' n : Nat} {y : MethodName} {cc' : ByteArray} {ret : Option FieldType} {As rest st' : List Value} {rv : Option Value} {σ' : hb_Mem} (q : Nat) (X : hb_X Γ cc nL own Λ G nf nl) (hM : hb_C (hb_l Γ) y cc' nL' ret nf' nl' Λ G As σ rv σ') (cw : hb_cS own idx y cc' nL' ret n) (hn : As.length = n) (hR : nf' + 1 ≤ nf ∧ 8 + (nL' + 11) + nl' ≤ nl) (hrest : (rest.map fun v => v.category).sum ≤ 8) (hst : As.reverse ++ rest = st) (hst2 : rv.toList ++ rest = st') (d : decode cc pc = .ok (.invokestatic idx, 3)) (hq : pc + 3 = q) (k : hb_W Γ Λ G nL Q σ' L st' q) : hb_W Γ Λ G nL Q σ L st pc := by
  subst hst2
  refine ww_run (rv := rv) (rest := rest) (a := As.toArray) q hq ?_ k
  obtain ⟨p, l, e, R, s, m, args, below, meth, c, cells, slots⟩ := Γ
  obtain ⟨hx, hb, hml, hown, hlocks, hK, hT, hD, hnf, hnl, hcells, hslots⟩ := X
  obtain ⟨h1, h2, h3, h4, h5, h6⟩ := cw
  intro H locs ls hP hL
  subst hst
  exact va_runS (own := own) (Ts := []) ⟨hx, hb, hml, hown, fun w h => by cases h⟩ hM ⟨⟨rfl, rfl, Nat.le_trans hR.1 hnf, Nat.le_trans hR.2 hnl, hb_codeW hT h3, List.mem_singleton.mpr rfl, hT _ h3 rfl _, hT _ h4 rfl _, h5, hb_len h6, hT _ h1 rfl _⟩, hT _ h2 rfl _⟩ ⟨hb_Pc_blind, fun U hU hW => hb_Pc_at hK hT hD hP U hU hW⟩ rfl hn hL.2.1 rfl (lv_room hrest) d ⟨hcells, hslots⟩
theorem ww_callSN {Γ : hb_Ctx} {cc : ByteArray} {nL : Nat} {own : String} {Λ : hb_Lay} {G : hb_Gam} {nf nl : Nat} {Q : State → Prop} {σ : hb_Mem} {L : List (Option Value)} {st : List Value} {pc : Nat} {idx nL' nf' nl' n : Nat} {y : MethodName} {cc' : ByteArray} {ret : Option FieldType} {As rest st' : List Value} {rv : Option Value} {σ' : hb_Mem} {host : String} (q : Nat) (X : hb_X Γ cc nL own Λ G nf nl) (hM : hb_C (hb_l Γ) y cc' nL' ret nf' nl' Λ G As σ rv σ') (cw : hb_cSN own host idx y cc' nL' ret n) (hn : As.length = n) (hR : nf' + 1 ≤ nf ∧ 8 + (nL' + 11) + nl' ≤ nl) (hrest : (rest.map fun v => v.category).sum ≤ 8) (hst : As.reverse ++ rest = st) (hst2 : rv.toList ++ rest = st') (d : decode cc pc = .ok (.invokestatic idx, 3)) (hq : pc + 3 = q) (k : hb_W Γ Λ G nL Q σ' L st' q) : hb_W Γ Λ G nL Q σ L st pc := by
  subst hst2
  refine ww_run (rv := rv) (rest := rest) (a := As.toArray) q hq ?_ k
  obtain ⟨p, l, e, R, s, m, args, below, meth, c, cells, slots⟩ := Γ
  obtain ⟨hx, hb, hml, hown, hlocks, hK, hT, hD, hnf, hnl, hcells, hslots⟩ := X
  obtain ⟨h1, h2, h3, h4, h5, h6⟩ := cw
  intro H locs ls hP hL
  subst hst
  exact va_runSN (own := own) (host := host) (Ts := []) ⟨hx, hb, hml, hown, fun w h => by cases h⟩ hM ⟨⟨⟨rfl, rfl, Nat.le_trans hR.1 hnf, Nat.le_trans hR.2 hnl, hb_codeW hT h3, List.mem_singleton.mpr rfl⟩, hT _ h3 rfl _, hT _ h4 rfl _, h5, hb_len h6, hT _ h1 rfl _⟩, hT _ h2 rfl _, trivial⟩ ⟨hb_Pc_blind, fun U hU hW => hb_Pc_at hK hT hD hP U hU hW⟩ rfl hn hL.2.1 rfl (lv_room hrest) d ⟨hcells, hslots⟩
theorem ww_callV {Γ : hb_Ctx} {cc : ByteArray} {nL : Nat} {own : String} {Λ : hb_Lay} {G : hb_Gam} {nf nl : Nat} {Q : State → Prop} {σ : hb_Mem} {L : List (Option Value)} {st : List Value} {pc : Nat} {b ci idx nL' nf' nl' n : Nat} {y : MethodName} {cc' : ByteArray} {ret : Option FieldType} {As rest st' : List Value} {rv : Option Value} {σ' : hb_Mem} {T : u_T} {N : Nat} (q : Nat) (X : hb_X Γ cc nL own Λ G nf nl) (hM : hb_C (hb_l Γ) y cc' nL' ret nf' nl' Λ G (.ref (G.2.2.2 b) :: As) σ rv σ') (cw : hb_cV own idx y cc' nL' ret n) (hc : vwCl[ci]? = some (y.cls, T, N)) (h7 : ci < 7) (hb0 : hb_is Λ b ci) (hn : As.length = n) (hR : nf' + 1 ≤ nf ∧ 8 + (nL' + 11) + nl' ≤ nl) (hrest : (rest.map fun v => v.category).sum ≤ 8) (hst : As.reverse ++ .ref (G.2.2.2 b) :: rest = st) (hst2 : rv.toList ++ rest = st') (d : decode cc pc = .ok (.invokevirtual idx, 3)) (hq : pc + 3 = q) (k : hb_W Γ Λ G nL Q σ' L st' q) : hb_W Γ Λ G nL Q σ L st pc := by
  subst hst2
  refine ww_run (rv := rv) (rest := rest) (a := (Value.ref (G.2.2.2 b) :: As).toArray) q hq ?_ k
  obtain ⟨p, l, e, R, s, m, args, below, meth, c, cells, slots⟩ := Γ
  obtain ⟨hx, hb, hml, hown, hlocks, hK, hT, hD, hnf, hnl, hcells, hslots⟩ := X
  obtain ⟨h1, h2, hsel, h3, h4, h5, h6⟩ := cw
  obtain ⟨hlt, hkb⟩ := hb0
  intro H locs ls hP hL
  subst hst
  exact va_runV (own := own) (C := y.cls) (Ts := []) ⟨hx, hb, hml, hown, fun w h => by cases h⟩ hM ⟨⟨rfl, rfl, Nat.le_trans hR.1 hnf, Nat.le_trans hR.2 hnl, hb_codeW hT h3, List.mem_singleton.mpr rfl, hT _ h3 rfl _, hT _ h4 rfl _, h5, hb_len h6, hT _ h1 rfl _⟩, hT _ h2 rfl _, hT _ hsel rfl _⟩ ⟨hb_Pc_blind, va_recv (q0 := b) hK hP hc (by rw [hb_wL_get hlt, hb_cell_obj hkb h7]), fun U hU hW => hb_Pc_at hK hT hD hP U hU hW⟩ rfl hn hL.2.1 rfl (lv_room hrest) d ⟨hcells, hslots⟩
