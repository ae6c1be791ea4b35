/-! constructors: the cells stand at rising addresses from 'base' on, in the order in which they are made (laid by wip/p25/genmake.py) -/
section HBS
variable {p : Program} {l : Launch} {e : Env} {R : Room} {s : State} {m : MethodId} {args : Array Value} {below : List Frame} {meth : Method} {c : Code} {H : Heap} {locs : List Loc} {cells slots : Nat} {Q : State → Prop} {cc : ByteArray} {pc : Nat} {ls : Array Slot} {rest : List Value}
theorem hb_iincS (hexec : p.tables.exec = Jvm.exec) (hb : c.code = cc) {i nL : Nat} {n : Int} {x v : Int32} {L : List (Option Value)} (hdg : decode cc pc = .ok (.iinc i n, 3)) (hL : hb_LS nL L ls) (hx : L[i]? = some (some (.int x))) (hv : x + Int32.ofInt n = v)
    (kk : ∀ ls' : Array Slot, hb_LS nL (L.set i (some (.int v))) ls' → W p l e R s m args below meth c H locs cells slots Q (F0 m (pc + 3) ls' rest)) : W p l e R s m args below meth c H locs cells slots Q (F0 m pc ls rest) := by
  have hmem : (i, Value.int x) ∈ hb_asc 0 L := (hb_asc_mem L 0 (i, Value.int x)).mpr ⟨i, by simp, hx⟩
  obtain ⟨k, hk⟩ := List.getElem?_of_mem hmem
  have hi : i < nL := by
    rw [← hL.1]
    rcases Nat.lt_or_ge i L.length with h | h
    · exact h
    · rw [List.getElem?_eq_none h] at hx; cases hx
  exact lv_iinc hexec hb hdg hL.has hk hv hi rfl (fun ls' hl' => kk ls' (hL.set rfl hl'))
end HBS
def hn_cw : Nat → List va_E → va_W
  | _, [] => []
  | b, e :: es => (b, e) :: hn_cw (b + 1) es
theorem hn_get : ∀ (es : List va_E) (b i : Nat), (hn_cw b es)[i]? = (es[i]?).map (fun e => (b + i, e))
  | [], b, i => by simp [hn_cw]
  | e :: es, b, 0 => by simp [hn_cw]
  | e :: es, b, i + 1 => by
    rw [hn_cw, List.getElem?_cons_succ, List.getElem?_cons_succ, hn_get es (b + 1) i]
    rw [show b + 1 + i = b + (i + 1) by omega]
theorem hn_mem {es : List va_E} {b k : Nat} {q : Nat × va_E} (h : (hn_cw b es)[k]? = some q) : q.1 = b + k ∧ es[k]? = some q.2 ∧ k < es.length := by
  rw [hn_get] at h
  cases he : es[k]? with
  | none => rw [he] at h; cases h
  | some e =>
    rw [he] at h
    cases h
    exact ⟨rfl, rfl, (List.getElem?_eq_some_iff.mp he).1⟩
theorem hn_at {es : List va_E} {b k : Nat} {e : va_E} (h : es[k]? = some e) : (hn_cw b es)[k]? = some (b + k, e) := by rw [hn_get, h]; rfl
theorem hn_D {A : Nat → Prop} {b : Nat} (es : List va_E) (h : ∀ q, b ≤ q → A q) : va_D A (hn_cw b es) := by
  refine ⟨fun i j p q hi hj hpq => ?_, fun k q hk => ?_⟩
  · have h1 := (hn_mem hi).1
    have h2 := (hn_mem hj).1
    omega
  · have h1 := (hn_mem hk).1
    exact h _ (by omega)
theorem hn_set : ∀ (es : List va_E) (b i : Nat) (e : va_E), (hn_cw b es).set i (b + i, e) = hn_cw b (es.set i e)
  | [], b, i, e => by simp [hn_cw]
  | x :: es, b, 0, e => by simp [hn_cw]
  | x :: es, b, i + 1, e => by
    rw [hn_cw, List.set_cons_succ, List.set_cons_succ, hn_cw, show b + (i + 1) = b + 1 + i by omega, hn_set es (b + 1) i e]
theorem hn_app : ∀ (es fs : List va_E) (b : Nat), hn_cw b (es ++ fs) = hn_cw b es ++ hn_cw (b + es.length) fs
  | [], fs, b => by simp [hn_cw]
  | x :: es, fs, b => by
    rw [List.cons_append, hn_cw, hn_cw, hn_app es fs (b + 1), List.length_cons, List.cons_append, show b + 1 + es.length = b + (es.length + 1) by omega]
theorem hn_P_l {D : va_G} {es fs : List va_E} {b : Nat} {H : Heap} (h : va_P D vwCl (hn_cw b (es ++ fs)) H) : va_P D vwCl (hn_cw b es) H := by
  rw [hn_app] at h
  intro k q hk
  exact h k q (by rw [List.getElem?_append_left (List.getElem?_eq_some_iff.mp hk).1]; exact hk)
theorem hn_P_r {D : va_G} {es fs : List va_E} {b : Nat} {H : Heap} (h : va_P D vwCl (hn_cw b (es ++ fs)) H) : va_P D vwCl (hn_cw (b + es.length) fs) H := by
  rw [hn_app] at h
  intro k q hk
  exact h ((hn_cw b es).length + k) q (by rw [List.getElem?_append_right (by omega), Nat.add_sub_cancel_left]; exact hk)
theorem hn_P_app {D : va_G} {es fs : List va_E} {b : Nat} {H : Heap} (h1 : va_P D vwCl (hn_cw b es) H) (h2 : va_P D vwCl (hn_cw (b + es.length) fs) H) : va_P D vwCl (hn_cw b (es ++ fs)) H := by
  rw [hn_app]
  exact h1.app h2
theorem hn_P_kept {D : va_G} {es : List va_E} {b n : Nat} {H H1 : Heap} (h : va_P D vwCl (hn_cw b es) H) (hn : b + es.length ≤ n) (hq : ∀ q, q < n → H1[q]? = H[q]?) : va_P D vwCl (hn_cw b es) H1 :=
  h.kept fun k q hk => hq q.1 (by have h1 := hn_mem hk; omega)
abbrev hn_Ctx : Type := Program × Launch × Env × Room × State × MethodId × Array Value × List Frame × Method × Code
abbrev hn_tys (cI cS : ClassId) : List (ClassId × FieldType) := [(cI, .int), (cS, .object "PathBook$State")]
def hn_W (Γ : hn_Ctx) (D : va_G) (nL : Nat) (Q : State → Prop) (cells slots base : Nat) (es : List va_E) (L : List (Option Value)) (st : List Value) (pc : Nat) : Prop := match Γ with
  | (p, l, e, R, s, m, args, below, meth, c) => ∀ (H : Heap) (locs : List Loc) (ls : Array Slot), H.size = base + es.length → va_P D vwCl (hn_cw base es) H → va_S (fun q => base ≤ q) s.heap H locs → hb_LS nL L ls → W p l e R s m args below meth c H locs cells slots Q (F0 m pc ls st)
def hn_X (Γ : hn_Ctx) (cc : ByteArray) (nL : Nat) (own nm : String) (D : va_G) (cI cS : ClassId) (base nf nl mc ms : Nat) : Prop := match Γ with
  | (p, l, e, R, s, m, args, below, meth, c) => p.tables.exec = Jvm.exec ∧ c.code = cc ∧ c.maxLocals = nL ∧ s.vm.findClass own = some m.cls ∧ meth.locks = false ∧ meth.name = nm ∧ va_K D vwCl (hn_tys cI cS) s ∧ hb_TB s ∧ va_AO "PathBook$State" s ∧ base ≤ s.heap.size ∧ nf ≤ R.frames ∧ nl ≤ R.locals ∧ mc ≤ R.cells ∧ ms ≤ R.slots
def hn_ret (Γ : hn_Ctx) : Option FieldType := match Γ with
  | (_, _, _, _, _, _, _, _, meth, _) => meth.sig.returnType
def hn_Pc (D : va_G) (cI cS : ClassId) (base : Nat) (av : List Value) (es : List va_E) : Array Value → State → Prop := fun v U => v = av.toArray ∧ U.heap.size = base + es.length ∧ va_P D vwCl (hn_cw base es) U.heap ∧ va_K D vwCl (hn_tys cI cS) U ∧ hb_TB U ∧ va_AO "PathBook$State" U
def hn_Qc (D : va_G) (base : Nat) (es : List va_E) : Array Value → State → Outcome → State → Prop := fun _ st oc t => oc = .returned none ∧ t.heap.size = base + es.length ∧ va_P D vwCl (hn_cw base es) t.heap ∧ ∀ q : Nat, q < base → t.heap[q]? = st.heap[q]?
def hn_C (l : Launch) (y : MethodName) (cc : ByteArray) (nL nf nl mc ms : Nat) (D : va_G) (cI cS : ClassId) (base : Nat) (av : List Value) (es es' : List va_E) : Prop :=
  Met l y [.code y cc nL none] { frames := nf, cells := mc, slots := ms, locals := nl } (hn_Pc D cI cS base av es) (hn_Qc D base es') mc ms (fun q => base ≤ q)
def hn_Q (Γ : hn_Ctx) (D : va_G) (mc ms base : Nat) (es : List va_E) : State → Prop := match Γ with
  | (p, l, e, R, s, m, args, below, meth, c) => MQ below (hn_Qc D base es) args s mc ms (fun q => base ≤ q)
def hn_l (Γ : hn_Ctx) : Launch := Γ.2.1
theorem hn_C.of {l : Launch} {y : MethodName} {cc : ByteArray} {nL nf nl mc ms : Nat} {D : va_G} {cI cS : ClassId} {base : Nat} {av : List Value} {es es' : List va_E} (L : List (Option Value)) (hy : plainFor y = true) (hlen : (lg_sl av).length ≤ nL) (hcat : ∀ v ∈ av, v.category = 1) (hL : L.length = nL) (hav : ∀ (i : Nat) (v : Value), L[i]? = some (some v) → av[i]? = some v)
    (body : ∀ Γ : hn_Ctx, hn_X Γ cc nL y.cls y.name D cI cS base nf nl mc ms → hn_ret Γ = none → hn_W Γ D nL (hn_Q Γ D mc ms base es') 0 0 base es L [] 0) : hn_C l y cc nL nf nl mc ms D cI cS base av es es' := by
  refine hb_ofW (cc := cc) (maxL := nL) (ret := none) hy rfl ?_
  intro p e s m args below meth c s₁ B hml hv
  obtain ⟨rfl, hsz, hP, hK, hT, hO⟩ := hv
  have hb := body (p, l, e, ({ frames := nf, cells := mc, slots := ms, locals := nl } : Room), s, m, av.toArray, below, meth, c) ⟨B.exec, B.bytes, hml, findClass_of_methodNamed B.named, B.notSynchronized, (name_of_methodNamed B.named B.method).1, hK, hT, hO, by omega, Nat.le_refl _, Nat.le_refl _, Nat.le_refl _, Nat.le_refl _⟩ B.returns
  have hl := lv_entry av (n := nL) hlen
  rw [lg_entry_eq]
  refine hb s.heap [] _ hsz hP va_S.rf ?_
  have hargs : ∀ (vs : List Value) (i k : Nat) (v : Value), (∀ v ∈ vs, v.category = 1) → vs[k]? = some v → (i + k, v) ∈ lv_args i vs := by
    intro vs
    induction vs with
    | nil => intro i k v _ h; simp at h
    | cons a vs ih =>
      intro i k v hc h
      rw [lv_args]
      cases k with
      | zero =>
        simp at h
        subst h
        exact List.mem_cons_self
      | succ k =>
        have ha := hc a List.mem_cons_self
        rw [if_neg (by rw [ha]; decide)]
        have := ih (i + 1) k v (fun w hw => hc w (List.mem_cons_of_mem _ hw)) (by simpa using h)
        rw [show i + (k + 1) = i + 1 + k by omega]
        exact List.mem_cons_of_mem _ this
  refine ⟨hL, hl.1, hl.2.1, fun i v hi => ?_⟩
  have h1 := hav i v hi
  have h2 := hargs av 0 i v hcat h1
  rw [Nat.zero_add] at h2
  exact ⟨hl.2.2 (i, v) h2, hcat v (List.mem_of_getElem? h1)⟩
theorem nn_iconst {Γ : hn_Ctx} {cc : ByteArray} {nL : Nat} {own nm : String} {D : va_G} {cI cS : ClassId} {base nf nl mc ms : Nat} {Q : State → Prop} {cells slots : Nat} {es : List va_E} {L : List (Option Value)} {st : List Value} {pc : Nat} {n : Int} {v : Int32} (q : Nat) (X : hn_X Γ cc nL own nm D cI cS base nf nl mc ms) (d : decode cc pc = .ok (.iconst n, 1)) (hq : pc + 1 = q) (hv : Int32.ofInt n = v) (k : hn_W Γ D nL Q cells slots base es L (.int v :: st) q) : hn_W Γ D nL Q cells slots base es L st pc := by
  obtain ⟨p, l, e, R, s, m, args, below, meth, c⟩ := Γ
  obtain ⟨hx, hb, hml, hown, hlocks, hnm, hK, hT, hO, hbase, hnf, hnl, hmc, hms⟩ := X
  subst hq
  intro H locs ls hz hP hS hL
  exact lv_iconst hx hb d hv (k H locs ls hz hP hS hL)
theorem nn_bipush {Γ : hn_Ctx} {cc : ByteArray} {nL : Nat} {own nm : String} {D : va_G} {cI cS : ClassId} {base nf nl mc ms : Nat} {Q : State → Prop} {cells slots : Nat} {es : List va_E} {L : List (Option Value)} {st : List Value} {pc : Nat} {n : Int} {v : Int32} (q : Nat) (X : hn_X Γ cc nL own nm D cI cS base nf nl mc ms) (d : decode cc pc = .ok (.bipush n, 2)) (hq : pc + 2 = q) (hv : (Int8.ofInt n).toInt32 = v) (k : hn_W Γ D nL Q cells slots base es L (.int v :: st) q) : hn_W Γ D nL Q cells slots base es L st pc := by
  obtain ⟨p, l, e, R, s, m, args, below, meth, c⟩ := Γ
  obtain ⟨hx, hb, hml, hown, hlocks, hnm, hK, hT, hO, hbase, hnf, hnl, hmc, hms⟩ := X
  subst hq
  intro H locs ls hz hP hS hL
  exact lv_bipush hx hb d hv (k H locs ls hz hP hS hL)
theorem nn_sipush {Γ : hn_Ctx} {cc : ByteArray} {nL : Nat} {own nm : String} {D : va_G} {cI cS : ClassId} {base nf nl mc ms : Nat} {Q : State → Prop} {cells slots : Nat} {es : List va_E} {L : List (Option Value)} {st : List Value} {pc : Nat} {n : Int} {v : Int32} (q : Nat) (X : hn_X Γ cc nL own nm D cI cS base nf nl mc ms) (d : decode cc pc = .ok (.sipush n, 3)) (hq : pc + 3 = q) (hv : (Int16.ofInt n).toInt32 = v) (k : hn_W Γ D nL Q cells slots base es L (.int v :: st) q) : hn_W Γ D nL Q cells slots base es L st pc := by
  obtain ⟨p, l, e, R, s, m, args, below, meth, c⟩ := Γ
  obtain ⟨hx, hb, hml, hown, hlocks, hnm, hK, hT, hO, hbase, hnf, hnl, hmc, hms⟩ := X
  subst hq
  intro H locs ls hz hP hS hL
  exact lv_sipush hx hb d hv (k H locs ls hz hP hS hL)
theorem nn_iload_n {Γ : hn_Ctx} {cc : ByteArray} {nL : Nat} {own nm : String} {D : va_G} {cI cS : ClassId} {base nf nl mc ms : Nat} {Q : State → Prop} {cells slots : Nat} {es : List va_E} {L : List (Option Value)} {st : List Value} {pc : Nat} {n : Fin 4} {x : Int32} (q : Nat) (X : hn_X Γ cc nL own nm D cI cS base nf nl mc ms) (d : decode cc pc = .ok (.iload_n n, 1)) (hq : pc + 1 = q) (hv : L[(n : Nat)]? = some (some (.int x))) (k : hn_W Γ D nL Q cells slots base es L (.int x :: st) q) : hn_W Γ D nL Q cells slots base es L st pc := by
  obtain ⟨p, l, e, R, s, m, args, below, meth, c⟩ := Γ
  obtain ⟨hx, hb, hml, hown, hlocks, hnm, hK, hT, hO, hbase, hnf, hnl, hmc, hms⟩ := X
  subst hq
  intro H locs ls hz hP hS hL
  exact lv_iload_n hx hb d rfl (hL.2.2.2 _ _ hv).1 (k H locs ls hz hP hS hL)
theorem nn_aload_n {Γ : hn_Ctx} {cc : ByteArray} {nL : Nat} {own nm : String} {D : va_G} {cI cS : ClassId} {base nf nl mc ms : Nat} {Q : State → Prop} {cells slots : Nat} {es : List va_E} {L : List (Option Value)} {st : List Value} {pc : Nat} {n : Fin 4} {x : Nat} (q : Nat) (X : hn_X Γ cc nL own nm D cI cS base nf nl mc ms) (d : decode cc pc = .ok (.aload_n n, 1)) (hq : pc + 1 = q) (hv : L[(n : Nat)]? = some (some (.ref x))) (k : hn_W Γ D nL Q cells slots base es L (.ref x :: st) q) : hn_W Γ D nL Q cells slots base es L st pc := by
  obtain ⟨p, l, e, R, s, m, args, below, meth, c⟩ := Γ
  obtain ⟨hx, hb, hml, hown, hlocks, hnm, hK, hT, hO, hbase, hnf, hnl, hmc, hms⟩ := X
  subst hq
  intro H locs ls hz hP hS hL
  exact lv_aload_n hx hb d rfl (hL.2.2.2 _ _ hv).1 (k H locs ls hz hP hS hL)
theorem nn_istore_n {Γ : hn_Ctx} {cc : ByteArray} {nL : Nat} {own nm : String} {D : va_G} {cI cS : ClassId} {base nf nl mc ms : Nat} {Q : State → Prop} {cells slots : Nat} {es : List va_E} {L : List (Option Value)} {st : List Value} {pc : Nat} {n : Fin 4} {x : Int32} {L' : List (Option Value)} (q : Nat) (X : hn_X Γ cc nL own nm D cI cS base nf nl mc ms) (d : decode cc pc = .ok (.istore_n n, 1)) (hq : pc + 1 = q) (hn : (n : Nat) < L.length) (hl : L.set (n : Nat) (some (.int x)) = L') (k : hn_W Γ D nL Q cells slots base es L' st q) : hn_W Γ D nL Q cells slots base es L (.int x :: st) pc := by
  obtain ⟨p, l, e, R, s, m, args, below, meth, c⟩ := Γ
  obtain ⟨hx, hb, hml, hown, hlocks, hnm, hK, hT, hO, hbase, hnf, hnl, hmc, hms⟩ := X
  subst hq
  subst hl
  intro H locs ls hz hP hS hL
  exact lv_istore_n hx hb d rfl hL.has (by rw [← hL.1]; exact hn) rfl (fun ls' hl' => k H locs ls' hz hP hS (hL.set rfl hl'))
theorem nn_astore_n {Γ : hn_Ctx} {cc : ByteArray} {nL : Nat} {own nm : String} {D : va_G} {cI cS : ClassId} {base nf nl mc ms : Nat} {Q : State → Prop} {cells slots : Nat} {es : List va_E} {L : List (Option Value)} {st : List Value} {pc : Nat} {n : Fin 4} {x : Nat} {L' : List (Option Value)} (q : Nat) (X : hn_X Γ cc nL own nm D cI cS base nf nl mc ms) (d : decode cc pc = .ok (.astore_n n, 1)) (hq : pc + 1 = q) (hn : (n : Nat) < L.length) (hl : L.set (n : Nat) (some (.ref x)) = L') (k : hn_W Γ D nL Q cells slots base es L' st q) : hn_W Γ D nL Q cells slots base es L (.ref x :: st) pc := by
  obtain ⟨p, l, e, R, s, m, args, below, meth, c⟩ := Γ
  obtain ⟨hx, hb, hml, hown, hlocks, hnm, hK, hT, hO, hbase, hnf, hnl, hmc, hms⟩ := X
  subst hq
  subst hl
  intro H locs ls hz hP hS hL
  exact lv_astore_n hx hb d rfl hL.has (by rw [← hL.1]; exact hn) rfl (fun ls' hl' => k H locs ls' hz hP hS (hL.set rfl hl'))
theorem nn_iinc {Γ : hn_Ctx} {cc : ByteArray} {nL : Nat} {own nm : String} {D : va_G} {cI cS : ClassId} {base nf nl mc ms : Nat} {Q : State → Prop} {cells slots : Nat} {es : List va_E} {L : List (Option Value)} {st : List Value} {pc : Nat} {i : Nat} {n : Int} {x v : Int32} {L' : List (Option Value)} (q : Nat) (X : hn_X Γ cc nL own nm D cI cS base nf nl mc ms) (d : decode cc pc = .ok (.iinc i n, 3)) (hq : pc + 3 = q) (hx0 : L[i]? = some (some (.int x))) (hv : x + Int32.ofInt n = v) (hl : L.set i (some (.int v)) = L') (k : hn_W Γ D nL Q cells slots base es L' st q) : hn_W Γ D nL Q cells slots base es L st pc := by
  obtain ⟨p, l, e, R, s, m, args, below, meth, c⟩ := Γ
  obtain ⟨hx, hb, hml, hown, hlocks, hnm, hK, hT, hO, hbase, hnf, hnl, hmc, hms⟩ := X
  subst hq
  subst hl
  intro H locs ls hz hP hS hL
  exact hb_iincS hx hb d hL hx0 hv (fun ls' hl' => k H locs ls' hz hP hS hl')
theorem nn_dup {Γ : hn_Ctx} {cc : ByteArray} {nL : Nat} {own nm : String} {D : va_G} {cI cS : ClassId} {base nf nl mc ms : Nat} {Q : State → Prop} {cells slots : Nat} {es : List va_E} {L : List (Option Value)} {st : List Value} {pc : Nat} {v : Value} (q : Nat) (X : hn_X Γ cc nL own nm D cI cS base nf nl mc ms) (d : decode cc pc = .ok (.dup, 1)) (hq : pc + 1 = q) (hc : v.category = 1) (k : hn_W Γ D nL Q cells slots base es L (v :: v :: st) q) : hn_W Γ D nL Q cells slots base es L (v :: st) pc := by
  obtain ⟨p, l, e, R, s, m, args, below, meth, c⟩ := Γ
  obtain ⟨hx, hb, hml, hown, hlocks, hnm, hK, hT, hO, hbase, hnf, hnl, hmc, hms⟩ := X
  subst hq
  intro H locs ls hz hP hS hL
  exact lv_dup hx hb d hc (k H locs ls hz hP hS hL)
theorem nn_goto {Γ : hn_Ctx} {cc : ByteArray} {nL : Nat} {own nm : String} {D : va_G} {cI cS : ClassId} {base nf nl mc ms : Nat} {Q : State → Prop} {cells slots : Nat} {es : List va_E} {L : List (Option Value)} {st : List Value} {pc : Nat} {off : Int} (q : Nat) (X : hn_X Γ cc nL own nm D cI cS base nf nl mc ms) (d : decode cc pc = .ok (.goto off, 3)) (hq : (pc : Int) + off = (q : Int)) (k : hn_W Γ D nL Q cells slots base es L st q) : hn_W Γ D nL Q cells slots base es L st pc := by
  obtain ⟨p, l, e, R, s, m, args, below, meth, c⟩ := Γ
  obtain ⟨hx, hb, hml, hown, hlocks, hnm, hK, hT, hO, hbase, hnf, hnl, hmc, hms⟩ := X
  intro H locs ls hz hP hS hL
  exact lv_goto hx hb d hq (k H locs ls hz hP hS hL)
theorem nn_if_ge_t {Γ : hn_Ctx} {cc : ByteArray} {nL : Nat} {own nm : String} {D : va_G} {cI cS : ClassId} {base nf nl mc ms : Nat} {Q : State → Prop} {cells slots : Nat} {es : List va_E} {L : List (Option Value)} {st : List Value} {pc : Nat} {x : Int32} {off : Int} (q : Nat) (X : hn_X Γ cc nL own nm D cI cS base nf nl mc ms) (d : decode cc pc = .ok (.ifCond .ge off, 3)) (hq : (pc : Int) + off = (q : Int)) (h : 0 ≤ x) (k : hn_W Γ D nL Q cells slots base es L st q) : hn_W Γ D nL Q cells slots base es L (.int x :: st) pc := by
  obtain ⟨p, l, e, R, s, m, args, below, meth, c⟩ := Γ
  obtain ⟨hx, hb, hml, hown, hlocks, hnm, hK, hT, hO, hbase, hnf, hnl, hmc, hms⟩ := X
  intro H locs ls hz hP hS hL
  exact lv_if_ge hx hb d hq (fun _ => (k H locs ls hz hP hS hL)) (fun z => absurd h z)
theorem nn_if_ge_f {Γ : hn_Ctx} {cc : ByteArray} {nL : Nat} {own nm : String} {D : va_G} {cI cS : ClassId} {base nf nl mc ms : Nat} {Q : State → Prop} {cells slots : Nat} {es : List va_E} {L : List (Option Value)} {st : List Value} {pc : Nat} {x : Int32} {off : Int} (q q2 : Nat) (X : hn_X Γ cc nL own nm D cI cS base nf nl mc ms) (d : decode cc pc = .ok (.ifCond .ge off, 3)) (hq : (pc : Int) + off = (q : Int)) (hq2 : pc + 3 = q2) (h : ¬ 0 ≤ x) (k : hn_W Γ D nL Q cells slots base es L st q2) : hn_W Γ D nL Q cells slots base es L (.int x :: st) pc := by
  obtain ⟨p, l, e, R, s, m, args, below, meth, c⟩ := Γ
  obtain ⟨hx, hb, hml, hown, hlocks, hnm, hK, hT, hO, hbase, hnf, hnl, hmc, hms⟩ := X
  subst hq2
  intro H locs ls hz hP hS hL
  exact lv_if_ge hx hb d hq (fun z => absurd z h) (fun _ => (k H locs ls hz hP hS hL))
theorem nn_icmp_ge_t {Γ : hn_Ctx} {cc : ByteArray} {nL : Nat} {own nm : String} {D : va_G} {cI cS : ClassId} {base nf nl mc ms : Nat} {Q : State → Prop} {cells slots : Nat} {es : List va_E} {L : List (Option Value)} {st : List Value} {pc : Nat} {x y : Int32} {off : Int} (q : Nat) (X : hn_X Γ cc nL own nm D cI cS base nf nl mc ms) (d : decode cc pc = .ok (.if_icmp .ge off, 3)) (hq : (pc : Int) + off = (q : Int)) (h : y ≤ x) (k : hn_W Γ D nL Q cells slots base es L st q) : hn_W Γ D nL Q cells slots base es L (.int y :: .int x :: st) pc := by
  obtain ⟨p, l, e, R, s, m, args, below, meth, c⟩ := Γ
  obtain ⟨hx, hb, hml, hown, hlocks, hnm, hK, hT, hO, hbase, hnf, hnl, hmc, hms⟩ := X
  intro H locs ls hz hP hS hL
  exact lv_icmp_ge hx hb d hq (fun _ => (k H locs ls hz hP hS hL)) (fun z => absurd h z)
theorem nn_icmp_ge_f {Γ : hn_Ctx} {cc : ByteArray} {nL : Nat} {own nm : String} {D : va_G} {cI cS : ClassId} {base nf nl mc ms : Nat} {Q : State → Prop} {cells slots : Nat} {es : List va_E} {L : List (Option Value)} {st : List Value} {pc : Nat} {x y : Int32} {off : Int} (q q2 : Nat) (X : hn_X Γ cc nL own nm D cI cS base nf nl mc ms) (d : decode cc pc = .ok (.if_icmp .ge off, 3)) (hq : (pc : Int) + off = (q : Int)) (hq2 : pc + 3 = q2) (h : ¬ y ≤ x) (k : hn_W Γ D nL Q cells slots base es L st q2) : hn_W Γ D nL Q cells slots base es L (.int y :: .int x :: st) pc := by
  obtain ⟨p, l, e, R, s, m, args, below, meth, c⟩ := Γ
  obtain ⟨hx, hb, hml, hown, hlocks, hnm, hK, hT, hO, hbase, hnf, hnl, hmc, hms⟩ := X
  subst hq2
  intro H locs ls hz hP hS hL
  exact lv_icmp_ge hx hb d hq (fun z => absurd z h) (fun _ => (k H locs ls hz hP hS hL))
theorem nn_obj {Γ : hn_Ctx} {cc : ByteArray} {nL : Nat} {own nm : String} {D : va_G} {cI cS : ClassId} {base nf nl mc ms : Nat} {Q : State → Prop} {cells slots : Nat} {es : List va_E} {L : List (Option Value)} {st : List Value} {pc : Nat} {idx a : Nat} (q : Nat) (X : hn_X Γ cc nL own nm D cI cS base nf nl mc ms) (w1 : (Cond.methodLink own idx objectInit) ∈ lw_tbl) (w2 : (Cond.instanceMethod objectInit) ∈ lw_tbl) (w3 : (Cond.code objectInit ⟨#[0xb1]⟩ 1 none) ∈ lw_tbl) (hst : (st.map fun v => v.category).sum ≤ 8) (hf : 1 ≤ nf) (hl2 : 20 ≤ nl) (d : decode cc pc = .ok (.invokespecial idx, 3)) (hq : pc + 3 = q) (k : hn_W Γ D nL Q cells slots base es L st q) : hn_W Γ D nL Q cells slots base es L (.ref a :: st) pc := by
  obtain ⟨p, l, e, R, s, m, args, below, meth, c⟩ := Γ
  obtain ⟨hx, hb, hml, hown, hlocks, hnm, hK, hT, hO, hbase, hnf, hnl, hmc, hms⟩ := X
  subst hq
  intro H locs ls hz hP hS hL
  refine W.objInit hx hb hown (hT _ w1 rfl _) (hT _ w2 rfl _) (hT _ w3 rfl _) rfl (by rw [hml]; exact hL.2.1) rfl d (Nat.le_trans hf hnf) (by show 2 * 0 + _ + 12 ≤ _; omega) ?_
  exact (k H locs ls hz hP hS hL)
theorem nn_new {Γ : hn_Ctx} {cc : ByteArray} {nL : Nat} {own nm : String} {D : va_G} {cI cS : ClassId} {base nf nl mc ms : Nat} {Q : State → Prop} {cells slots : Nat} {es : List va_E} {L : List (Option Value)} {st : List Value} {pc : Nat} {C : String} {T : u_T} {N ci idx a : Nat} {fs : List Value} {es' : List va_E} {c2 s2 : Nat} (q : Nat) (X : hn_X Γ cc nL own nm D cI cS base nf nl mc ms) (F : vwCl[ci]? = some (C, T, N) ∧ (∀ w ∈ u_ws C T N, w ∈ lw_tbl) ∧ (∀ w ∈ u_ws C T N, goodWord w = true) ∧ ci < 7 ∧ hb_nf ci = N) (ty : Nat → FieldType) (hty : ∀ k, k < N → parseFieldDescriptor (T k).2.2.1 = some (ty k)) (w1 : (Cond.classLink own idx C) ∈ lw_tbl) (w2 : (Cond.instantiable C N) ∈ lw_tbl) (w3 : (Cond.initialized C) ∈ lw_tbl) (hfs : ∀ j, j < N → defaultValue (ty j) = vp_V fs j) (hc2 : cells + 1 = c2) (hs2 : slots + N = s2) (hc3 : c2 ≤ mc) (hs3 : s2 ≤ ms) (ha : base + es.length = a) (he : es ++ [.inr (ci, fs)] = es') (d : decode cc pc = .ok (.new idx, 3)) (hq : pc + 3 = q) (k : hn_W Γ D nL Q c2 s2 base es' L (.ref a :: st) q) : hn_W Γ D nL Q cells slots base es L st pc := by
  obtain ⟨p, l, e, R, s, m, args, below, meth, c⟩ := Γ
  obtain ⟨hx, hb, hml, hown, hlocks, hnm, hK, hT, hO, hbase, hnf, hnl, hmc, hms⟩ := X
  obtain ⟨hc, hin, hgw, h7, hN⟩ := F
  subst hq; subst he; subst hc2; subst hs2; subst ha
  intro H locs ls hz hP hS hL
  have hKn := hK.1 ci _ hc
  refine W.newcK hx hb hown (hT _ w1 rfl _) (hT _ w2 rfl _) (hT _ w3 rfl _) rfl d (Nat.le_trans hc3 hmc) (Nat.le_trans hs3 hms) hKn.2.1 hz fun H1 kC hkC e1 z1 o1 => ?_
  refine k H1 locs ls (by rw [z1, List.length_append]; rfl) (hn_P_app (hn_P_kept hP (Nat.le_refl _) o1) ?_) ⟨by have := hS.1; omega, fun x h1 h2 => (o1 x (by have := hS.1; omega)).trans (hS.2.1 x h1 h2), hS.2.2⟩ hL
  intro j x hj
  have h1 := hn_mem hj
  have hj0 : j = 0 := by have := h1.2.2; simp at this; omega
  subst hj0
  obtain ⟨xa, xe⟩ := x
  have h2 := h1.2.1
  have h3 := h1.1
  simp at h2 h3
  subst h2; subst h3
  exact ⟨_, hc, (u_born (ws := u_ws C T N) ty (fun w h => hT w (hin w h) (by rw [hgw w h]; rfl) args) (fun _ h => h) hKn hkC e1 hty).to hfs⟩
theorem nn_newa {Γ : hn_Ctx} {cc : ByteArray} {nL : Nat} {own nm : String} {D : va_G} {cI cS : ClassId} {base nf nl mc ms : Nat} {Q : State → Prop} {cells slots : Nat} {es : List va_E} {L : List (Option Value)} {st : List Value} {pc : Nat} {n : Int32} {N a : Nat} {es' : List va_E} {c2 s2 : Nat} (q : Nat) (X : hn_X Γ cc nL own nm D cI cS base nf nl mc ms) (w1 : (Cond.arrayClass .int) ∈ lw_tbl) (hn : ¬ n < 0) (hN : n.toNatClampNeg = N) (hby : N ≤ 100000) (hc2 : cells + 1 = c2) (hs2 : slots + N = s2) (hc3 : c2 ≤ mc) (hs3 : s2 ≤ ms) (ha : base + es.length = a) (he : es ++ [.inl (cI, N, .inl (fun _ => 0))] = es') (d : decode cc pc = .ok (.newarray .int, 2)) (hq : pc + 2 = q) (k : hn_W Γ D nL Q c2 s2 base es' L (.ref a :: st) q) : hn_W Γ D nL Q cells slots base es L (.int n :: st) pc := by
  obtain ⟨p, l, e, R, s, m, args, below, meth, c⟩ := Γ
  obtain ⟨hx, hb, hml, hown, hlocks, hnm, hK, hT, hO, hbase, hnf, hnl, hmc, hms⟩ := X
  subst hq; subst he; subst hc2; subst hs2; subst ha
  intro H locs ls hz hP hS hL
  refine va_newaK (atype := .int) hx hb (hT _ w1 rfl _) rfl d rfl hn hN (by show N * 4 ≤ _; omega) (Nat.le_trans hc3 hmc) (Nat.le_trans hs3 hms) hz fun H1 cA e1 z1 o1 hAr hNm => ?_
  have hcA : cA = cI := by
    have h1 : s.vm.findClass ("[" ++ (FieldType.int).toString) = some cI := (hK.2 0 _ rfl).2
    exact Option.some.inj (hNm.symm.trans h1)
  subst hcA
  refine k H1 locs ls (by rw [z1, List.length_append]; rfl) (hn_P_app (hn_P_kept hP (Nat.le_refl _) o1) ?_) ⟨by have := hS.1; omega, fun x h1 h2 => (o1 x (by have := hS.1; omega)).trans (hS.2.1 x h1 h2), hS.2.2⟩ hL
  intro j x hj
  have h1 := hn_mem hj
  have hj0 : j = 0 := by have := h1.2.2; simp at this; omega
  subst hj0
  obtain ⟨xa, xe⟩ := x
  have h2 := h1.2.1
  have h3 := h1.1
  simp at h2 h3
  subst h2; subst h3
  exact e1
theorem nn_anewa {Γ : hn_Ctx} {cc : ByteArray} {nL : Nat} {own nm : String} {D : va_G} {cI cS : ClassId} {base nf nl mc ms : Nat} {Q : State → Prop} {cells slots : Nat} {es : List va_E} {L : List (Option Value)} {st : List Value} {pc : Nat} {n : Int32} {N a idx : Nat} {es' : List va_E} {c2 s2 : Nat} (q : Nat) (X : hn_X Γ cc nL own nm D cI cS base nf nl mc ms) (w1 : (Cond.classLink own idx "PathBook$State") ∈ lw_tbl) (hn : ¬ n < 0) (hN : n.toNatClampNeg = N) (hby : N ≤ 100000) (hc2 : cells + 1 = c2) (hs2 : slots + N = s2) (hc3 : c2 ≤ mc) (hs3 : s2 ≤ ms) (ha : base + es.length = a) (he : es ++ [.inl (cS, N, .inr (.inr (.inr (.inr (fun _ => none)))))] = es') (d : decode cc pc = .ok (.anewarray idx, 3)) (hq : pc + 3 = q) (k : hn_W Γ D nL Q c2 s2 base es' L (.ref a :: st) q) : hn_W Γ D nL Q cells slots base es L (.int n :: st) pc := by
  obtain ⟨p, l, e, R, s, m, args, below, meth, c⟩ := Γ
  obtain ⟨hx, hb, hml, hown, hlocks, hnm, hK, hT, hO, hbase, hnf, hnl, hmc, hms⟩ := X
  subst hq; subst he; subst hc2; subst hs2; subst ha; subst hN
  intro H locs ls hz hP hS hL
  refine W.anew hx hb hown (hT _ w1 rfl _) (va_AO.use hO) rfl d rfl hn (by omega) (Nat.le_trans hc3 hmc) (Nat.le_trans hs3 hms) fun cA kA comp f1 f2 f3 f4 => ?_
  have hcA : cA = cS := by
    obtain ⟨kA', comp', g1, g2, g3, g4⟩ : va_RA s cS (.object "PathBook$State") := (hK.2 1 _ rfl).2
    exact Option.some.inj (f1.symm.trans g4)
  subst hcA
  generalize hH1 : H.push ({ cls := cA, slots := Array.replicate n.toNatClampNeg .null, vm := .none } : Cell) = H1
  have z1 : H1.size = H.size + 1 := by rw [← hH1, Array.size_push]
  have e1 : H1[H.size]? = some (arrV cA n.toNatClampNeg (fun _ => .null)) := by rw [← hH1, Array.getElem?_push_size, ← arrV_new]
  have o1 : ∀ q : Nat, q < H.size → H1[q]? = H[q]? := fun q hq => by rw [← hH1, Array.getElem?_push, if_neg (Nat.ne_of_lt hq)]
  rw [hz] at z1 e1 o1 ⊢
  refine k H1 locs ls (by rw [z1, List.length_append]; rfl) (hn_P_app (hn_P_kept hP (Nat.le_refl _) o1) ?_) ⟨by have := hS.1; omega, fun x h1 h2 => (o1 x (by have := hS.1; omega)).trans (hS.2.1 x h1 h2), hS.2.2⟩ hL
  intro j x hj
  have h1 := hn_mem hj
  have hj0 : j = 0 := by have := h1.2.2; simp at this; omega
  subst hj0
  obtain ⟨xa, xe⟩ := x
  have h2 := h1.2.1
  have h3 := h1.1
  simp at h2 h3
  subst h2; subst h3
  exact e1
theorem nn_put {Γ : hn_Ctx} {cc : ByteArray} {nL : Nat} {own nm : String} {D : va_G} {cI cS : ClassId} {base nf nl mc ms : Nat} {Q : State → Prop} {cells slots : Nat} {es : List va_E} {L : List (Option Value)} {st : List Value} {pc : Nat} {C : String} {T : u_T} {N ci idx a i j : Nat} {fs : List Value} {es' : List va_E} {v : Value} {ty : FieldType} (q : Nat) (X : hn_X Γ cc nL own nm D cI cS base nf nl mc ms) (F : vwCl[ci]? = some (C, T, N) ∧ (∀ w ∈ u_ws C T N, w ∈ lw_tbl) ∧ (∀ w ∈ u_ws C T N, goodWord w = true) ∧ ci < 7 ∧ hb_nf ci = N) (F2 : ∃ ty0 : Nat → FieldType, (∀ k, k < N → parseFieldDescriptor (T k).2.2.1 = some (ty0 k)) ∧ ∀ a, a < N → ∀ b, b < N → a ≠ b → (T a).2.1 ≠ (T b).2.1) (hw : (Cond.fieldLink own idx (T j).1 (T j).2.1 (T j).2.2.1) ∈ lw_tbl) (hj : j < N) (hfin : (T j).2.2.2 = false) (hd : parseFieldDescriptor (T j).2.2.1 = some ty) (hn : narrow ty v = v) (hfit : fits ty v = true) (he : es[i]? = some (.inr (ci, fs))) (hlen : j < fs.length) (ha : base + i = a) (he' : es.set i (.inr (ci, fs.set j v)) = es') (d : decode cc pc = .ok (.putfield idx, 3)) (hq : pc + 3 = q) (k : hn_W Γ D nL Q cells slots base es' L st q) : hn_W Γ D nL Q cells slots base es L (v :: .ref a :: st) pc := by
  obtain ⟨p, l, e, R, s, m, args, below, meth, c⟩ := Γ
  obtain ⟨hx, hb, hml, hown, hlocks, hnm, hK, hT, hO, hbase, hnf, hnl, hmc, hms⟩ := X
  obtain ⟨hc, hin, hgw, h7, hN⟩ := F
  obtain ⟨ty0, hty, hnmm⟩ := F2
  subst hq; subst he'; subst ha
  intro H locs ls hz hP hS hL
  have hts : ∀ w ∈ u_ws C T N, w.before args s = true := fun w h => hT w (hin w h) (by rw [hgw w h]; rfl) args
  have hap := va_apart (own := own) hts (fun _ h => h) ty0 hty hnmm hK hc
  have he0 := hn_at (b := base) he
  obtain ⟨r, h1, cell, q1, q2, q3, q4⟩ := hP i _ he0
  have hr : r = (C, T, N) := Option.some.inj (h1.symm.trans hc)
  subst hr
  obtain ⟨hSl, hfc, kC, hkC, hkind⟩ := hK.1 ci _ hc
  obtain ⟨cf, kf, fi, f, hi, hsl⟩ := hSl j hj
  have hlay := hts _ (u_in_lay hj)
  unfold u_lay at hlay
  rw [if_neg (by rw [hfin]; decide)] at hlay
  have hst := (u_facts hfc hkC (u_lays hts (fun _ h => h) hj) hi).1
  have h6 := u_store hfc hkC hkind hlay hi hd hn hfit
  refine W.putK hx hb (f := f) ⟨hown, hT _ hw rfl _, ⟨_, _, _, hi⟩, hst⟩ (by rw [q2]; exact h6) q1 q3 (by rw [hsl]; exact k2_hasslot (q4 j hj)) rfl rfl d fun H' e1 e2 e3 => ?_
  rw [hsl] at e1 ⊢
  have hD := hn_D (A := fun q => base ≤ q) (b := base) es (fun _ h => h)
  have hP' := hP.set hD he0 (e := .inr (ci, fs.set j v)) ⟨_, hc, t_OB.to (V := updV (vp_V fs) j v) ⟨_, e1, q2, q3, t_set q4 hap hj v⟩ (fun j _ => vp_updV_set hlen v j)⟩ e3
  rw [hn_set] at hP'
  exact k H' _ ls (by rw [e2, hz, List.length_set]) hP' (hS.put e2 e3 (hD.2 i _ he0)) hL
theorem nn_putF {Γ : hn_Ctx} {cc : ByteArray} {nL : Nat} {own nm : String} {D : va_G} {cI cS : ClassId} {base nf nl mc ms : Nat} {Q : State → Prop} {cells slots : Nat} {es : List va_E} {L : List (Option Value)} {st : List Value} {pc : Nat} {C : String} {T : u_T} {N ci idx a i j : Nat} {fs : List Value} {es' : List va_E} {v : Value} {ty : FieldType} (q : Nat) (X : hn_X Γ cc nL own nm D cI cS base nf nl mc ms) (F : vwCl[ci]? = some (C, T, N) ∧ (∀ w ∈ u_ws C T N, w ∈ lw_tbl) ∧ (∀ w ∈ u_ws C T N, goodWord w = true) ∧ ci < 7 ∧ hb_nf ci = N) (F2 : ∃ ty0 : Nat → FieldType, (∀ k, k < N → parseFieldDescriptor (T k).2.2.1 = some (ty0 k)) ∧ ∀ a, a < N → ∀ b, b < N → a ≠ b → (T a).2.1 ≠ (T b).2.1) (hw : (Cond.fieldLink own idx (T j).1 (T j).2.1 (T j).2.2.1) ∈ lw_tbl) (hj : j < N) (hfin : (T j).2.2.2 = true) (hini : nm = "<init>") (hdecl : (T j).1 = own) (hd : parseFieldDescriptor (T j).2.2.1 = some ty) (hn : narrow ty v = v) (hfit : fits ty v = true) (he : es[i]? = some (.inr (ci, fs))) (hlen : j < fs.length) (ha : base + i = a) (he' : es.set i (.inr (ci, fs.set j v)) = es') (d : decode cc pc = .ok (.putfield idx, 3)) (hq : pc + 3 = q) (k : hn_W Γ D nL Q cells slots base es' L st q) : hn_W Γ D nL Q cells slots base es L (v :: .ref a :: st) pc := by
  obtain ⟨p, l, e, R, s, m, args, below, meth, c⟩ := Γ
  obtain ⟨hx, hb, hml, hown, hlocks, hnm, hK, hT, hO, hbase, hnf, hnl, hmc, hms⟩ := X
  obtain ⟨hc, hin, hgw, h7, hN⟩ := F
  obtain ⟨ty0, hty, hnmm⟩ := F2
  subst hq; subst he'; subst ha
  intro H locs ls hz hP hS hL
  have hts : ∀ w ∈ u_ws C T N, w.before args s = true := fun w h => hT w (hin w h) (by rw [hgw w h]; rfl) args
  have hap := va_apart (own := own) hts (fun _ h => h) ty0 hty hnmm hK hc
  have he0 := hn_at (b := base) he
  obtain ⟨r, h1, cell, q1, q2, q3, q4⟩ := hP i _ he0
  have hr : r = (C, T, N) := Option.some.inj (h1.symm.trans hc)
  subst hr
  obtain ⟨hSl, hfc, kC, hkC, hkind⟩ := hK.1 ci _ hc
  obtain ⟨cf, kf, fi, f, hi, hsl⟩ := hSl j hj
  have hlay := hts _ (u_in_lay hj)
  unfold u_lay at hlay
  rw [if_pos hfin] at hlay
  have hst := (u_facts hfc hkC (u_lays hts (fun _ h => h) hj) hi).1
  have hcf : m.cls = cf := by
    obtain ⟨_, _, c', _, _, _, -, -, hf', -, -, -, hown2, -⟩ := Cond.laysFinal_spec hlay
    have e1 : c' = cf := by have := hi.symm.trans hf'; simp at this; exact this.1.symm
    rw [hdecl] at hown2
    rw [← e1]; exact Option.some.inj (hown.symm.trans hown2)
  have h6 := u_fits hfc hkC hkind (Or.inr hlay) hi hd hn hfit
  refine W.putFinK hx hb hown (hT _ hw rfl _) hi hst hcf (hnm.trans hini) (by rw [q2]; exact h6) q1 q3 (by rw [hsl]; exact k2_hasslot (q4 j hj)) rfl rfl d fun H' e1 e2 e3 => ?_
  rw [hsl] at e1 ⊢
  have hD := hn_D (A := fun q => base ≤ q) (b := base) es (fun _ h => h)
  have hP' := hP.set hD he0 (e := .inr (ci, fs.set j v)) ⟨_, hc, t_OB.to (V := updV (vp_V fs) j v) ⟨_, e1, q2, q3, t_set q4 hap hj v⟩ (fun j _ => vp_updV_set hlen v j)⟩ e3
  rw [hn_set] at hP'
  exact k H' _ ls (by rw [e2, hz, List.length_set]) hP' (hS.put e2 e3 (hD.2 i _ he0)) hL
theorem nn_get {Γ : hn_Ctx} {cc : ByteArray} {nL : Nat} {own nm : String} {D : va_G} {cI cS : ClassId} {base nf nl mc ms : Nat} {Q : State → Prop} {cells slots : Nat} {es : List va_E} {L : List (Option Value)} {st : List Value} {pc : Nat} {C : String} {T : u_T} {N ci idx a i j : Nat} {fs : List Value} {v : Value} (q : Nat) (X : hn_X Γ cc nL own nm D cI cS base nf nl mc ms) (F : vwCl[ci]? = some (C, T, N) ∧ (∀ w ∈ u_ws C T N, w ∈ lw_tbl) ∧ (∀ w ∈ u_ws C T N, goodWord w = true) ∧ ci < 7 ∧ hb_nf ci = N) (hw : (Cond.fieldLink own idx (T j).1 (T j).2.1 (T j).2.2.1) ∈ lw_tbl) (hj : j < N) (he : es[i]? = some (.inr (ci, fs))) (hv : fs[j]? = some v) (ha : base + i = a) (d : decode cc pc = .ok (.getfield idx, 3)) (hq : pc + 3 = q) (k : hn_W Γ D nL Q cells slots base es L (v :: st) q) : hn_W Γ D nL Q cells slots base es L (.ref a :: st) pc := by
  obtain ⟨p, l, e, R, s, m, args, below, meth, c⟩ := Γ
  obtain ⟨hx, hb, hml, hown, hlocks, hnm, hK, hT, hO, hbase, hnf, hnl, hmc, hms⟩ := X
  obtain ⟨hc, hin, hgw, h7, hN⟩ := F
  subst hq; subst ha
  intro H locs ls hz hP hS hL
  exact va_get (Ts := u_ws C T N) hx hb (fun w h => hT w (hin w h) (by rw [hgw w h]; rfl) args) (fun _ h => h) hown hK hP i (hn_at he) hc j hj (hT _ hw rfl _) (fun _ h => h) hv d (k H locs ls hz hP hS hL)
theorem nn_alen {Γ : hn_Ctx} {cc : ByteArray} {nL : Nat} {own nm : String} {D : va_G} {cI cS : ClassId} {base nf nl mc ms : Nat} {Q : State → Prop} {cells slots : Nat} {es : List va_E} {L : List (Option Value)} {st : List Value} {pc : Nat} {a i : Nat} {x : vp_A} {v : Int32} {cA : ClassId} {ty : FieldType} (t0 : Nat) (q : Nat) (X : hn_X Γ cc nL own nm D cI cS base nf nl mc ms) (he : es[i]? = some (.inl (cA, x))) (ht : (hn_tys cI cS)[t0]? = some (cA, ty)) (hv : Int32.ofNat x.1 = v) (ha : base + i = a) (d : decode cc pc = .ok (.arraylength, 1)) (hq : pc + 1 = q) (k : hn_W Γ D nL Q cells slots base es L (.int v :: st) q) : hn_W Γ D nL Q cells slots base es L (.ref a :: st) pc := by
  obtain ⟨p, l, e, R, s, m, args, below, meth, c⟩ := Γ
  obtain ⟨hx, hb, hml, hown, hlocks, hnm, hK, hT, hO, hbase, hnf, hnl, hmc, hms⟩ := X
  subst hq; subst ha
  intro H locs ls hz hP hS hL
  exact va_alen hx hb hK hP i t0 (hn_at he) ht hv d (k H locs ls hz hP hS hL)
theorem nn_iast {Γ : hn_Ctx} {cc : ByteArray} {nL : Nat} {own nm : String} {D : va_G} {cI cS : ClassId} {base nf nl mc ms : Nat} {Q : State → Prop} {cells slots : Nat} {es : List va_E} {L : List (Option Value)} {st : List Value} {pc : Nat} {a i n : Nat} {f : Nat → Int32} {j x : Int32} {es' : List va_E} (q : Nat) (X : hn_X Γ cc nL own nm D cI cS base nf nl mc ms) (he : es[i]? = some (.inl (cI, n, .inl f))) (hin : vp_in j n) (ha : base + i = a) (he' : es.set i (.inl (cI, n, .inl (upd f j.toNatClampNeg x))) = es') (d : decode cc pc = .ok (.iastore, 1)) (hq : pc + 1 = q) (k : hn_W Γ D nL Q cells slots base es' L st q) : hn_W Γ D nL Q cells slots base es L (.int x :: .int j :: .ref a :: st) pc := by
  obtain ⟨p, l, e, R, s, m, args, below, meth, c⟩ := Γ
  obtain ⟨hx, hb, hml, hown, hlocks, hnm, hK, hT, hO, hbase, hnf, hnl, hmc, hms⟩ := X
  subst hq; subst ha; subst he'
  intro H locs ls hz hP hS hL
  have hD := hn_D (A := fun q => base ≤ q) (b := base) es (fun _ h => h)
  have he0 := hn_at (b := base) he
  refine W.iast hx hb (hP i _ he0) ((hK.2 0 _ rfl).1 n (fun j => .int (f j))) (fun q => by cases q) (by show ¬ (j < 0 ∨ (arrV _ _ _).slots.size ≤ _); rw [arrV_size]; exact hin) rfl rfl d fun H1 e z oq => ?_
  have hP' := hP.set hD he0 (e := .inl (cI, n, .inl (upd f j.toNatClampNeg x))) (H1 := H1) (by
    show H1[base + i]? = some (vp_cell _ _)
    rw [e]
    rw [vp_cell_i, vp_cell_i, arrV_store]
    congr 2
    funext q
    by_cases hq : q = j.toNatClampNeg
    · subst hq
      simp [updV, upd]
    · simp [updV, upd, hq]) oq
  rw [hn_set] at hP'
  exact k H1 _ ls (by rw [z, hz, List.length_set]) hP' (hS.put z oq (hD.2 i _ he0)) hL
theorem nn_astq {Γ : hn_Ctx} {cc : ByteArray} {nL : Nat} {own nm : String} {D : va_G} {cI cS : ClassId} {base nf nl mc ms : Nat} {Q : State → Prop} {cells slots : Nat} {es : List va_E} {L : List (Option Value)} {st : List Value} {pc : Nat} {a i v ik n : Nat} {f : Nat → Option Nat} {j : Int32} {fs : List Value} {es' : List va_E} (q : Nat) (X : hn_X Γ cc nL own nm D cI cS base nf nl mc ms) (he : es[i]? = some (.inl (cS, n, .inr (.inr (.inr (.inr f)))))) (hk : es[ik]? = some (.inr (2, fs))) (hin : vp_in j n) (ha : base + i = a) (hv : base + ik = v) (he' : es.set i (.inl (cS, n, .inr (.inr (.inr (.inr (va_up f j.toNatClampNeg (some v))))))) = es') (d : decode cc pc = .ok (.aastore, 1)) (hq : pc + 1 = q) (k : hn_W Γ D nL Q cells slots base es' L st q) : hn_W Γ D nL Q cells slots base es L (.ref v :: .int j :: .ref a :: st) pc := by
  obtain ⟨p, l, e, R, s, m, args, below, meth, c⟩ := Γ
  obtain ⟨hx, hb, hml, hown, hlocks, hnm, hK, hT, hO, hbase, hnf, hnl, hmc, hms⟩ := X
  subst hq; subst ha; subst he'; subst hv
  intro H locs ls hz hP hS hL
  have hD := hn_D (A := fun q => base ≤ q) (b := base) es (fun _ h => h)
  have he0 := hn_at (b := base) he
  have hlt : j.toNatClampNeg < n := Nat.not_le.mp fun q => hin (Or.inr q)
  have h0 : ¬ j < 0 := fun q => hin (Or.inl q)
  obtain ⟨r', hr', cellV, g1, g2, g3, -⟩ := hP ik _ (hn_at hk)
  have hcls := (hK.1 2 (RX2, TX2, 11) rfl).2
  obtain ⟨kA, comp, k1, k2, k3, -⟩ : va_RA s cS (.object "PathBook$State") := (hK.2 1 _ rfl).2
  have hcomp : comp = D.1 2 := Option.some.inj (k3.symm.trans hcls.1)
  subst hcomp
  obtain ⟨kC, hkC, -⟩ := hcls.2
  refine W.aast hx hb (hP i _ he0) (fun q h => by cases h) (fun h => by cases h) k1 k2 rfl hkC ⟨h0, by show _ < (arrV _ _ _).slots.size; rw [arrV_size]; exact hlt⟩ g1 (fun q h => by rw [g3] at h; cases h) (by rw [g2]; exact hkC) (by rw [g2]; exact va_assign hcls) rfl rfl d fun H1 e z oq => ?_
  have hP' := hP.set hD he0 (e := .inl (cS, n, .inr (.inr (.inr (.inr (va_up f j.toNatClampNeg (some (base + ik)))))))) (H1 := H1) (by
    show H1[base + i]? = some (vp_cell _ _)
    rw [e]
    rw [vp_cell_q, vp_cell_q, arrV_store]
    congr 2
    funext q
    by_cases hq : q = j.toNatClampNeg
    · subst hq
      simp [updV, va_up, va_rf]
    · simp [updV, va_up, hq]) oq
  rw [hn_set] at hP'
  exact k H1 _ ls (by rw [z, hz, List.length_set]) hP' (hS.put z oq (hD.2 i _ he0)) hL
theorem nn_ret {Γ : hn_Ctx} {cc : ByteArray} {nL : Nat} {own nm : String} {D : va_G} {cI cS : ClassId} {base nf nl mc ms : Nat} {Q : State → Prop} {cells slots : Nat} {es : List va_E} {L : List (Option Value)} {pc : Nat} (X : hn_X Γ cc nL own nm D cI cS base nf nl mc ms) (hrt : hn_ret Γ = none) (hQ : Q = hn_Q Γ D cells slots base es) (d : decode cc pc = .ok (.return_, 1)) : hn_W Γ D nL Q cells slots base es L [] pc := by
  subst hQ
  obtain ⟨p, l, e, R, s, m, args, below, meth, c⟩ := Γ
  obtain ⟨hx, hb, hml, hown, hlocks, hnm, hK, hT, hO, hbase, hnf, hnl, hmc, hms⟩ := X
  intro H locs ls hz hP hS hL
  exact W.vret hx hb hrt (fun t ht hW => ⟨rfl, by rw [ht]; exact hz, by rw [ht]; exact hP, fun q hq => by rw [ht]; exact hS.2.1 q (by omega) (by show ¬ base ≤ q; omega)⟩) hS.2.2 d hlocks
theorem hn_Pc_blind {D : va_G} {cI cS : ClassId} {base : Nat} {av : List Value} {es : List va_E} : FrameBlind (hn_Pc D cI cS base av es) := by
  intro a U g mk h
  obtain ⟨h1, h2, h3, h4, h5, h6⟩ := h
  exact ⟨h1, h2, h3, va_K.moved (u := U) (U := U.calling g mk a) (Vm.Alike.refl U.vm) h4, h5.calling g mk a, va_AO.moved (u := U) (U := U.calling g mk a) (Vm.Alike.refl U.vm) h6⟩
theorem hn_Pc_at {D : va_G} {cI cS : ClassId} {base : Nat} {av : List Value} {es : List va_E} {s : State} {H : Heap} (hK : va_K D vwCl (hn_tys cI cS) s) (hT : hb_TB s) (hO : va_AO "PathBook$State" s) (hz : H.size = base + es.length) (hP : va_P D vwCl (hn_cw base es) H) (U : State) (hU : U.heap = H) (hW : s.WarmedH U.vm) : hn_Pc D cI cS base av es av.toArray U :=
  ⟨rfl, by rw [hU]; exact hz, by rw [hU]; exact hP, va_K.moved hW.alike hK, hT.warm hW, va_AO.moved hW.alike hO⟩
theorem nn_run {Γ : hn_Ctx} {D : va_G} {nL : Nat} {Q : State → Prop} {cells slots base base' mc' ms' c2 s2 : Nat} {es pre suf suf' es' : List va_E} {L : List (Option Value)} {st rest : List Value} {pc : Nat} {a : Array Value} (q : Nat) (hq : pc + 3 = q) (he : es = pre ++ suf) (he' : pre ++ suf' = es') (hb' : base + pre.length = base') (hc2 : cells + mc' = c2) (hs2 : slots + ms' = s2) (hle : suf.length ≤ suf'.length)
    (hr : match Γ with | (p, l, e, R, s, m, args, below, meth, c) => ∀ (H : Heap) (locs : List Loc) (ls : Array Slot), H.size = base' + suf.length → va_P D vwCl (hn_cw base' suf) H → hb_LS nL L ls → va_Run p l e R s m args below meth c H locs cells slots mc' ms' (F0 m pc ls st) rest (hn_Qc D base' suf' a) (fun q => base' ≤ q))
    (k : hn_W Γ D nL Q c2 s2 base es' L rest q) : hn_W Γ D nL Q cells slots base es L st pc := by
  obtain ⟨p, l, e, R, s, m, args, below, meth, c⟩ := Γ
  subst hq; subst he; subst he'; subst hc2; subst hs2; subst hb'
  intro H locs ls hz hP hS hL T hT X
  rw [List.length_append] at hz
  obtain ⟨v, st₀, t, T', L', h0, X', hL', e1, e2, ⟨hv, hz1, hP1, hk⟩, st⟩ := hr H locs ls (by omega) (hn_P_r hP) hL T hT X
  cases hv
  rw [h0] at hk
  obtain ⟨t2, a1, b1⟩ := k T'.heap (locs ++ L') ls (by rw [e1, hz1, List.length_append]; omega) (hn_P_app (hn_P_kept (hn_P_l hP) (Nat.le_refl _) (fun q hq => by rw [e1]; exact hk q hq)) (by rw [e1]; exact hP1))
    ⟨by rw [e1, hz1]; have := hS.1; omega, fun q h1 h2 => by
      have h3 : ¬ base ≤ q := h2
      rw [e1, hk q (by omega)]
      exact hS.2.1 q h1 h2, fun q hq => by
      rcases List.mem_append.mp hq with h | h
      · exact hS.2.2 q h
      · have h3 : base + pre.length ≤ q.base := hL' q h
        show base ≤ q.base
        omega⟩ hL T' rfl X'
  exact ⟨t2, st t2 a1, b1⟩
/-- the words of a constructor's call -/
abbrev hn_cI (own : String) (idx : Nat) (y : MethodName) (cc' : ByteArray) (nL' : Nat) (n : Nat) : Prop := y.name = "<init>" ∧ (Cond.methodLink own idx y) ∈ lw_tbl ∧ (Cond.instanceMethod y) ∈ lw_tbl ∧ (Cond.code y cc' nL' none) ∈ lw_tbl ∧ (Cond.initialized y.cls) ∈ lw_tbl ∧ (y.cls ≠ "java/lang/invoke/MethodHandle" ∧ y.cls ≠ "java/lang/invoke/VarHandle") ∧ (parseMethodDescriptor y.desc).map (fun d => d.parameters.length) = some n
theorem nn_call {Γ : hn_Ctx} {cc : ByteArray} {nL : Nat} {own nm : String} {D : va_G} {cI cS : ClassId} {base nf nl mc ms : Nat} {Q : State → Prop} {cells slots : Nat} {es : List va_E} {L : List (Option Value)} {st : List Value} {pc : Nat} {idx nL' nf' nl' n base' mc' ms' c2 s2 : Nat} {y : MethodName} {cc' : ByteArray} {As rest : List Value} {pre suf suf' es' : List va_E} (q : Nat) (X : hn_X Γ cc nL own nm D cI cS base nf nl mc ms) (hM : hn_C (hn_l Γ) y cc' nL' nf' nl' mc' ms' D cI cS base' (.ref base' :: As) suf suf') (cw : hn_cI own idx y cc' nL' n) (hn : As.length = n) (hR : nf' + 1 ≤ nf ∧ 8 + (nL' + 11) + nl' ≤ nl) (hrest : (rest.map fun v => v.category).sum ≤ 8) (hst : As.reverse ++ .ref base' :: rest = st) (he : es = pre ++ suf) (he' : pre ++ suf' = es') (hb' : base + pre.length = base') (hc2 : cells + mc' = c2) (hs2 : slots + ms' = s2) (hc3 : c2 ≤ mc) (hs3 : s2 ≤ ms) (hle : suf.length ≤ suf'.length) (d : decode cc pc = .ok (.invokespecial idx, 3)) (hq : pc + 3 = q) (k : hn_W Γ D nL Q c2 s2 base es' L rest q) : hn_W Γ D nL Q cells slots base es L st pc := by
  refine nn_run (rest := rest) (a := (Value.ref base' :: As).toArray) q hq he he' hb' hc2 hs2 hle ?_ k
  obtain ⟨p, l, e, R, s, m, args, below, meth, c⟩ := Γ
  obtain ⟨hx, hb, hml, hown, hlocks, hnm, hK, hT, hO, hbase, hnf, hnl, hmc, hms⟩ := X
  obtain ⟨h0, h1, h2, h3, h4, h5, h6⟩ := cw
  intro H locs ls hz hP hL
  subst hst; subst hc2; subst hs2
  exact va_runI (own := own) (Ts := []) ⟨hx, hb, hml, hown, fun w h => by cases h⟩ hM ⟨⟨rfl, rfl, Nat.le_trans hR.1 hnf, Nat.le_trans hR.2 hnl, hb_codeW hT h3, List.mem_singleton.mpr rfl, hT _ h3 rfl _, hT _ h4 rfl _, h5, hb_len h6, hT _ h1 rfl _⟩, h0, hT _ h2 rfl _⟩ ⟨hn_Pc_blind, fun U hU hW => hn_Pc_at hK hT hO hz hP U hU hW⟩ rfl hn hL.2.1 rfl (lv_room hrest) d ⟨Nat.le_trans hc3 hmc, Nat.le_trans hs3 hms⟩
theorem nn_callV {Γ : hn_Ctx} {cc : ByteArray} {nL : Nat} {own nm : String} {D : va_G} {cI cS : ClassId} {base nf nl mc ms : Nat} {Q : State → Prop} {cells slots : Nat} {es : List va_E} {L : List (Option Value)} {st : List Value} {pc : Nat} {T : u_T} {N ci idx nL' nf' nl' n base' : Nat} {fs : List Value} {y : MethodName} {cc' : ByteArray} {As rest : List Value} {pre suf suf' es' : List va_E} (q : Nat) (X : hn_X Γ cc nL own nm D cI cS base nf nl mc ms) (hM : hn_C (hn_l Γ) y cc' nL' nf' nl' 0 0 D cI cS base' (.ref base' :: As) suf suf') (cw : hb_cV own idx y cc' nL' none n) (hc : vwCl[ci]? = some (y.cls, T, N)) (hs0 : suf[0]? = some (.inr (ci, fs))) (hn : As.length = n) (hR : nf' + 1 ≤ nf ∧ 8 + (nL' + 11) + nl' ≤ nl) (hrest : (rest.map fun v => v.category).sum ≤ 8) (hst : As.reverse ++ .ref base' :: rest = st) (he : es = pre ++ suf) (he' : pre ++ suf' = es') (hb' : base + pre.length = base') (hc3 : cells ≤ mc) (hs3 : slots ≤ ms) (hle : suf.length ≤ suf'.length) (d : decode cc pc = .ok (.invokevirtual idx, 3)) (hq : pc + 3 = q) (k : hn_W Γ D nL Q cells slots base es' L rest q) : hn_W Γ D nL Q cells slots base es L st pc := by
  refine nn_run (mc' := 0) (ms' := 0) (rest := rest) (a := (Value.ref base' :: As).toArray) q hq he he' hb' rfl rfl hle ?_ k
  obtain ⟨p, l, e, R, s, m, args, below, meth, c⟩ := Γ
  obtain ⟨hx, hb, hml, hown, hlocks, hnm, hK, hT, hO, hbase, hnf, hnl, hmc, hms⟩ := X
  obtain ⟨h1, h2, hsel, h3, h4, h5, h6⟩ := cw
  intro H locs ls hz hP hL
  subst hst
  exact va_runV (own := own) (C := y.cls) (Ts := []) ⟨hx, hb, hml, hown, fun w h => by cases h⟩ hM ⟨⟨rfl, rfl, Nat.le_trans hR.1 hnf, Nat.le_trans hR.2 hnl, hb_codeW hT h3, List.mem_singleton.mpr rfl, hT _ h3 rfl _, hT _ h4 rfl _, h5, hb_len h6, hT _ h1 rfl _⟩, hT _ h2 rfl _, hT _ hsel rfl _⟩ ⟨hn_Pc_blind, va_recv (q0 := 0) hK hP hc (hn_at hs0), fun U hU hW => hn_Pc_at hK hT hO hz hP U hU hW⟩ rfl hn hL.2.1 rfl (lv_room hrest) d ⟨Nat.le_trans hc3 hmc, Nat.le_trans hs3 hms⟩
