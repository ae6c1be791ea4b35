/-! THE HAND BASE: flat memory, layouts of cells, worlds, and the judgement 'ww' over them -/
abbrev hb_Mem : Type := Nat → Nat → Int32
/-- how many cells; the kind of each; the cell that a slot refers to; an array's length -/
abbrev hb_Lay : Type := Nat × (Nat → Nat) × (Nat → Nat → Nat) × (Nat → Nat)
/-- the classes' numbers; the array classes of int and of the states; the addresses -/
abbrev hb_Gam : Type := va_G × ClassId × ClassId × (Nat → Nat)
def hb_nf (c : Nat) : Nat := match c with
  | 0 => 3
  | 1 => 1
  | 2 => 11
  | 3 => 12
  | 4 => 9
  | _ => 7
/-- whether slot j of an object of class c holds a reference -/
def hb_rf (c j : Nat) : Bool := match c with
  | 0 => j == 0
  | 1 => true
  | 2 => decide (1 ≤ j) && decide (j ≤ 9)
  | 3 => (decide (3 ≤ j) && decide (j ≤ 7)) || j == 11
  | 4 => j == 0 || decide (5 ≤ j)
  | _ => j != 3
def hb_fs (Λ : hb_Lay) (ad : Nat → Nat) (σ : hb_Mem) (k : Nat) : List Value := (List.range (hb_nf (Λ.2.1 k))).map (fun j => if hb_rf (Λ.2.1 k) j = true then .ref (ad (Λ.2.2.1 k j)) else .int (σ k j))
def hb_cell (Λ : hb_Lay) (G : hb_Gam) (σ : hb_Mem) (k : Nat) : va_E :=
  if Λ.2.1 k = 7 then .inl (G.2.1, Λ.2.2.2 k, .inl (σ k)) else if Λ.2.1 k = 8 then .inl (G.2.2.1, Λ.2.2.2 k, .inr (.inr (.inr (.inr (fun j => some (G.2.2.2 (Λ.2.2.1 k j))))))) else .inr (Λ.2.1 k, hb_fs Λ G.2.2.2 σ k)
def hb_wL (Λ : hb_Lay) (G : hb_Gam) (σ : hb_Mem) : va_W := (List.range Λ.1).map (fun k => (G.2.2.2 k, hb_cell Λ G σ k))
def hb_up (σ : hb_Mem) (k j : Nat) (v : Int32) : hb_Mem := fun k' => if k' = k then upd (σ k) j v else σ k'
/-- the cells of the world -/
def hb_AA (Λ : hb_Lay) (G : hb_Gam) : Nat → Prop := fun q => ∃ k, k < Λ.1 ∧ q = G.2.2.2 k
abbrev hb_tys (G : hb_Gam) : List (ClassId × FieldType) := [(G.2.1, .int), (G.2.2.1, .object "PathBook$State")]
def hb_isNest : Cond → Bool
  | .methodLinkNest .. => true
  | .fieldLinkNest .. => true
  | _ => false
/-- all words of the tables -/
def hb_TB (U : State) : Prop := ∀ w ∈ lw_tbl, (goodWord w || hb_isNest w) = true → ∀ a : Array Value, w.before a U = true
theorem hb_TB.warm {s U : State} (hW : s.WarmedH U.vm) (h : hb_TB s) : hb_TB U := by
  intro w hw hg a
  cases hn : hb_isNest w with
  | false =>
    rw [hn, Bool.or_false] at hg
    exact word_at (args := #[]) hW (good_of_word hg) (h w hw (by rw [hg]; rfl) #[])
  | true =>
    have h0 : va_Nw w s := h w hw hg #[]
    cases w <;> first | (simp [hb_isNest] at hn; done) | exact (va_Nw.warmM hW h0).use rfl | exact (va_Nw.warmF hW h0).use rfl
theorem hb_TB.calling {U : State} (g : JFrame) (mk : MethodId) (b : Array Value) (h : hb_TB U) : hb_TB (U.calling g mk b) := by
  intro w hw hg a
  have h0 := h w hw hg
  have h1 : (U.calling g mk b).vm = U.vm := rfl
  by_cases ho : w.onTables = true
  · exact va_Nw.use ho (va_Nw.same ho h1.symm (h0 #[]))
  · cases w <;> first | (exact absurd rfl ho; done) | (simp [goodWord, hb_isNest, Cond.onTables] at hg ho; done) | exact h0 a
theorem hb_wL_get {Λ : hb_Lay} {G : hb_Gam} {σ : hb_Mem} {k : Nat} (hk : k < Λ.1) : (hb_wL Λ G σ)[k]? = some (G.2.2.2 k, hb_cell Λ G σ k) := by
  simp [hb_wL, hk]
theorem hb_wL_len {Λ : hb_Lay} {G : hb_Gam} {σ : hb_Mem} : (hb_wL Λ G σ).length = Λ.1 := by simp [hb_wL]
theorem hb_wL_set {Λ : hb_Lay} {G : hb_Gam} {σ σ' : hb_Mem} {k : Nat} (hk : k < Λ.1) {e : va_E} (he : hb_cell Λ G σ' k = e) (ho : ∀ j, j ≠ k → hb_cell Λ G σ' j = hb_cell Λ G σ j) : (hb_wL Λ G σ).set k (G.2.2.2 k, e) = hb_wL Λ G σ' := by
  apply List.ext_getElem?
  intro i
  by_cases hi : i < Λ.1
  · by_cases hik : i = k
    · subst hik
      rw [List.getElem?_set_self (by rw [hb_wL_len]; exact hk), hb_wL_get hk, he]
    · rw [List.getElem?_set_ne (Ne.symm hik), hb_wL_get hi, hb_wL_get hi, ho i hik]
  · rw [List.getElem?_eq_none (by rw [List.length_set, hb_wL_len]; omega), List.getElem?_eq_none (by rw [hb_wL_len]; omega)]
theorem hb_up_ne {σ : hb_Mem} {k j : Nat} {v : Int32} {i : Nat} (h : i ≠ k) : hb_up σ k j v i = σ i := by simp [hb_up, h]
theorem hb_up_eq {σ : hb_Mem} {k j : Nat} {v : Int32} : hb_up σ k j v k = upd (σ k) j v := by simp [hb_up]
theorem hb_cell_up_ne {Λ : hb_Lay} {G : hb_Gam} {σ : hb_Mem} {k j : Nat} {v : Int32} (i : Nat) (h : i ≠ k) : hb_cell Λ G (hb_up σ k j v) i = hb_cell Λ G σ i := by
  simp only [hb_cell, hb_fs, hb_up_ne h]
theorem hb_fs_get {Λ : hb_Lay} {ad : Nat → Nat} {σ : hb_Mem} {k j : Nat} (hj : j < hb_nf (Λ.2.1 k)) : (hb_fs Λ ad σ k)[j]? = some (if hb_rf (Λ.2.1 k) j = true then .ref (ad (Λ.2.2.1 k j)) else .int (σ k j)) := by
  simp [hb_fs, hj]
theorem hb_fs_len {Λ : hb_Lay} {ad : Nat → Nat} {σ : hb_Mem} {k : Nat} : (hb_fs Λ ad σ k).length = hb_nf (Λ.2.1 k) := by simp [hb_fs]
theorem hb_fs_up {Λ : hb_Lay} {ad : Nat → Nat} {σ : hb_Mem} {k j : Nat} {v : Int32} (hr : hb_rf (Λ.2.1 k) j = false) : (hb_fs Λ ad σ k).set j (.int v) = hb_fs Λ ad (hb_up σ k j v) k := by
  apply List.ext_getElem?
  intro i
  by_cases hi : i < hb_nf (Λ.2.1 k)
  · by_cases hij : i = j
    · subst hij
      rw [List.getElem?_set_self (by rw [hb_fs_len]; exact hi), hb_fs_get hi, hr, hb_up_eq]
      simp [upd]
    · rw [List.getElem?_set_ne (Ne.symm hij), hb_fs_get hi, hb_fs_get hi, hb_up_eq]
      simp [upd, hij]
  · rw [List.getElem?_eq_none (by rw [List.length_set, hb_fs_len]; omega), List.getElem?_eq_none (by rw [hb_fs_len]; omega)]
theorem hb_cell_obj {Λ : hb_Lay} {G : hb_Gam} {σ : hb_Mem} {k ci : Nat} (hk : Λ.2.1 k = ci) (h7 : ci < 7) : hb_cell Λ G σ k = .inr (ci, hb_fs Λ G.2.2.2 σ k) := by
  subst hk
  simp only [hb_cell]
  rw [if_neg (by omega), if_neg (by omega)]
theorem hb_cell_arr {Λ : hb_Lay} {G : hb_Gam} {σ : hb_Mem} {k : Nat} (hk : Λ.2.1 k = 7) : hb_cell Λ G σ k = .inl (G.2.1, Λ.2.2.2 k, .inl (σ k)) := by
  simp only [hb_cell]
  rw [if_pos hk]
theorem hb_cell_arq {Λ : hb_Lay} {G : hb_Gam} {σ : hb_Mem} {k : Nat} (hk : Λ.2.1 k = 8) : hb_cell Λ G σ k = .inl (G.2.2.1, Λ.2.2.2 k, .inr (.inr (.inr (.inr (fun j => some (G.2.2.2 (Λ.2.2.1 k j))))))) := by
  simp only [hb_cell]
  rw [if_neg (by omega), if_pos hk]
theorem hb_wL_up_obj {Λ : hb_Lay} {G : hb_Gam} {σ : hb_Mem} {k ci j : Nat} {v : Int32} (hlt : k < Λ.1) (hk : Λ.2.1 k = ci) (h7 : ci < 7) (hr : hb_rf ci j = false) : (hb_wL Λ G σ).set k (G.2.2.2 k, .inr (ci, (hb_fs Λ G.2.2.2 σ k).set j (.int v))) = hb_wL Λ G (hb_up σ k j v) := by
  refine hb_wL_set hlt ?_ (fun i hi => hb_cell_up_ne i hi)
  rw [hb_cell_obj hk h7, hb_fs_up (by rw [hk]; exact hr)]
theorem hb_wL_up_arr {Λ : hb_Lay} {G : hb_Gam} {σ : hb_Mem} {k j : Nat} {v : Int32} (hlt : k < Λ.1) (hk : Λ.2.1 k = 7) : (hb_wL Λ G σ).set k (G.2.2.2 k, .inl (G.2.1, Λ.2.2.2 k, .inl (upd (σ k) j v))) = hb_wL Λ G (hb_up σ k j v) := by
  refine hb_wL_set hlt ?_ (fun i hi => hb_cell_up_ne i hi)
  rw [hb_cell_arr hk, hb_up_eq]
/-- locals: each place's value, where it is known; numbers and references alone -/
def hb_LS (nL : Nat) (L : List (Option Value)) (ls : Array Slot) : Prop := L.length = nL ∧ ls.size = nL ∧ lv_wf ls ∧ ∀ (i : Nat) (v : Value), L[i]? = some (some v) → ls[i]? = some (.val v) ∧ v.category = 1
def hb_asc : Nat → List (Option Value) → List (Nat × Value)
  | _, [] => []
  | i, none :: L => hb_asc (i + 1) L
  | i, some v :: L => (i, v) :: hb_asc (i + 1) L
theorem hb_asc_mem : ∀ (L : List (Option Value)) (i : Nat) (q : Nat × Value), q ∈ hb_asc i L ↔ ∃ j, q.1 = i + j ∧ L[j]? = some (some q.2)
  | [], i, q => by simp [hb_asc]
  | none :: L, i, q => by
    rw [hb_asc, hb_asc_mem L (i + 1) q]
    constructor
    · rintro ⟨j, h1, h2⟩
      exact ⟨j + 1, by omega, by simpa using h2⟩
    · rintro ⟨j, h1, h2⟩
      cases j with
      | zero => simp at h2
      | succ j => exact ⟨j, by omega, by simpa using h2⟩
  | some v :: L, i, q => by
    rw [hb_asc, List.mem_cons, hb_asc_mem L (i + 1) q]
    constructor
    · rintro (h | ⟨j, h1, h2⟩)
      · subst h
        exact ⟨0, by simp, by simp⟩
      · exact ⟨j + 1, by omega, by simpa using h2⟩
    · rintro ⟨j, h1, h2⟩
      cases j with
      | zero =>
        left
        obtain ⟨a, b⟩ := q
        simp at h1 h2
        rw [h1, h2]
      | succ j => exact Or.inr ⟨j, by omega, by simpa using h2⟩
theorem hb_LS.has {nL : Nat} {L : List (Option Value)} {ls : Array Slot} (h : hb_LS nL L ls) : lv_has ls nL (hb_asc 0 L) := by
  refine ⟨h.2.1, h.2.2.1, fun q hq => ?_⟩
  obtain ⟨j, h1, h2⟩ := (hb_asc_mem L 0 q).mp hq
  rw [show q.1 = j by omega]
  exact (h.2.2.2 j q.2 h2).1
theorem hb_LS.set {nL : Nat} {L : List (Option Value)} {ls ls' : Array Slot} (h : hb_LS nL L ls) {i : Nat} {v : Value} (hv : v.category = 1) (h' : lv_has ls' nL ((i, v) :: (hb_asc 0 L).filter (fun q => !(q.1 == i) && !(q.1 + 1 == i && q.2.category == 2)))) : hb_LS nL (L.set i (some v)) ls' := by
  refine ⟨by rw [List.length_set]; exact h.1, h'.1, h'.2.1, fun j w hj => ?_⟩
  by_cases hij : j = i
  · subst hij
    by_cases hl : j < L.length
    · rw [List.getElem?_set_self hl] at hj
      have hw : v = w := by simpa using hj
      subst hw
      exact ⟨h'.2.2 (j, v) List.mem_cons_self, hv⟩
    · rw [List.getElem?_eq_none (by rw [List.length_set]; omega)] at hj
      cases hj
  · rw [List.getElem?_set_ne (Ne.symm hij)] at hj
    have hc := (h.2.2.2 j w hj).2
    refine ⟨h'.2.2 (j, w) (List.mem_cons_of_mem _ (List.mem_filter.mpr ⟨(hb_asc_mem L 0 (j, w)).mpr ⟨j, by simp, hj⟩, ?_⟩)), hc⟩
    simp [hij, hc]
/-- locals that may hold longs: a long's upper place is unknown -/
def hb_LJ (nL : Nat) (L : List (Option Value)) (ls : Array Slot) : Prop := L.length = nL ∧ ls.size = nL ∧ lv_wf ls ∧ ∀ (i : Nat) (v : Value), L[i]? = some (some v) → ls[i]? = some (.val v) ∧ (v.category = 1 ∨ (v.category = 2 ∧ L[i + 1]? = some none))
theorem hb_LS.J {nL : Nat} {L : List (Option Value)} {ls : Array Slot} (h : hb_LS nL L ls) : hb_LJ nL L ls := ⟨h.1, h.2.1, h.2.2.1, fun i v hv => ⟨(h.2.2.2 i v hv).1, Or.inl (h.2.2.2 i v hv).2⟩⟩
/-- no long begins just below place i -/
def hb_sf (L : List (Option Value)) : Nat → Bool
  | 0 => true
  | i + 1 => match L[i]? with
    | some (some v) => v.category == 1
    | _ => true
theorem hb_sf_of {L : List (Option Value)} {i j : Nat} {v : Value} (h : hb_sf L i = true) (hj : L[j]? = some (some v)) (hji : j + 1 = i) : v.category = 1 := by
  subst hji
  simp only [hb_sf, hj] at h
  exact eq_of_beq h
theorem hb_LJ.has {nL : Nat} {L : List (Option Value)} {ls : Array Slot} (h : hb_LJ nL L ls) : lv_has ls nL (hb_asc 0 L) := by
  refine ⟨h.2.1, h.2.2.1, fun q hq => ?_⟩
  obtain ⟨j, h1, h2⟩ := (hb_asc_mem L 0 q).mp hq
  rw [show q.1 = j by omega]
  exact (h.2.2.2 j q.2 h2).1
theorem hb_LJ.set {nL : Nat} {L : List (Option Value)} {ls ls' : Array Slot} (h : hb_LJ nL L ls) {i : Nat} {v : Value} (hs : hb_sf L i = true) (hv : v.category = 1) (h' : lv_has ls' nL ((i, v) :: (hb_asc 0 L).filter (fun q => !(q.1 == i) && !(q.1 + 1 == i && q.2.category == 2)))) : hb_LJ nL (L.set i (some v)) ls' := by
  refine ⟨by rw [List.length_set]; exact h.1, h'.1, h'.2.1, fun j w hj => ?_⟩
  by_cases hij : j = i
  · subst hij
    by_cases hl : j < L.length
    · rw [List.getElem?_set_self hl] at hj
      have hw : v = w := by simpa using hj
      subst hw
      exact ⟨h'.2.2 (j, v) List.mem_cons_self, Or.inl hv⟩
    · rw [List.getElem?_eq_none (by rw [List.length_set]; omega)] at hj
      cases hj
  · rw [List.getElem?_set_ne (Ne.symm hij)] at hj
    have hc := (h.2.2.2 j w hj).2
    by_cases hji : j + 1 = i
    · have hw := hb_sf_of hs hj hji
      refine ⟨h'.2.2 (j, w) (List.mem_cons_of_mem _ (List.mem_filter.mpr ⟨(hb_asc_mem L 0 (j, w)).mpr ⟨j, by simp, hj⟩, ?_⟩)), Or.inl hw⟩
      simp [hij, hw]
    · refine ⟨h'.2.2 (j, w) (List.mem_cons_of_mem _ (List.mem_filter.mpr ⟨(hb_asc_mem L 0 (j, w)).mpr ⟨j, by simp, hj⟩, ?_⟩)), ?_⟩
      · simp [hij, hji]
      · rcases hc with hc | ⟨hc, hn⟩
        · exact Or.inl hc
        · exact Or.inr ⟨hc, by rw [List.getElem?_set_ne (fun e => hji e.symm)]; exact hn⟩
theorem hb_LJ.set2 {nL : Nat} {L : List (Option Value)} {ls ls' : Array Slot} (h : hb_LJ nL L ls) {i : Nat} {v : Value} (hs : hb_sf L i = true) (hv : v.category = 2) (hn : i + 1 < L.length) (h' : lv_has ls' nL ((i, v) :: (hb_asc 0 L).filter (fun q => !(q.1 == i) && (!(q.1 == i + 1) && !(q.1 + 1 == i && q.2.category == 2))))) : hb_LJ nL ((L.set i (some v)).set (i + 1) none) ls' := by
  refine ⟨by rw [List.length_set, List.length_set]; exact h.1, h'.1, h'.2.1, fun j w hj => ?_⟩
  have hne : i + 1 ≠ i := by omega
  by_cases hj1 : j = i + 1
  · subst hj1
    rw [List.getElem?_set_self (by rw [List.length_set]; omega)] at hj
    cases hj
  · rw [List.getElem?_set_ne (Ne.symm hj1)] at hj
    by_cases hij : j = i
    · subst hij
      rw [List.getElem?_set_self (by omega)] at hj
      have hw : v = w := by simpa using hj
      subst hw
      exact ⟨h'.2.2 (j, v) List.mem_cons_self, Or.inr ⟨hv, List.getElem?_set_self (by rw [List.length_set]; omega)⟩⟩
    · rw [List.getElem?_set_ne (Ne.symm hij)] at hj
      have hc := (h.2.2.2 j w hj).2
      by_cases hji : j + 1 = i
      · have hw := hb_sf_of hs hj hji
        refine ⟨h'.2.2 (j, w) (List.mem_cons_of_mem _ (List.mem_filter.mpr ⟨(hb_asc_mem L 0 (j, w)).mpr ⟨j, by simp, hj⟩, ?_⟩)), Or.inl hw⟩
        simp [hij, hj1, hw]
      · refine ⟨h'.2.2 (j, w) (List.mem_cons_of_mem _ (List.mem_filter.mpr ⟨(hb_asc_mem L 0 (j, w)).mpr ⟨j, by simp, hj⟩, ?_⟩)), ?_⟩
        · simp [hij, hj1, hji]
        · rcases hc with hc | ⟨hc, hn2⟩
          · exact Or.inl hc
          · refine Or.inr ⟨hc, ?_⟩
            rw [List.getElem?_set_ne (by omega), List.getElem?_set_ne (fun e => hji e.symm)]
            exact hn2
abbrev hb_Ctx : Type := Program × Launch × Env × Room × State × MethodId × Array Value × List Frame × Method × Code × Nat × Nat
/-- the judgement: the machine, at pc, with the memory σ, the locals L, the stack st, comes to Q -/
def hb_W (Γ : hb_Ctx) (Λ : hb_Lay) (G : hb_Gam) (nL : Nat) (Q : State → Prop) (σ : hb_Mem) (L : List (Option Value)) (st : List Value) (pc : Nat) : Prop := match Γ with
  | (p, l, e, R, s, m, args, below, meth, c, cells, slots) => ∀ (H : Heap) (locs : List Loc) (ls : Array Slot), va_P G.1 vwCl (hb_wL Λ G σ) H → va_S (hb_AA Λ G) s.heap H locs → hb_LJ nL L ls → W p l e R s m args below meth c H locs cells slots Q (F0 m pc ls st)
def hb_X (Γ : hb_Ctx) (cc : ByteArray) (nL : Nat) (own : String) (Λ : hb_Lay) (G : hb_Gam) (nf nl : Nat) : Prop := match Γ with
  | (p, l, e, R, s, m, args, below, meth, c, cells, slots) => p.tables.exec = Jvm.exec ∧ c.code = cc ∧ c.maxLocals = nL ∧ s.vm.findClass own = some m.cls ∧ meth.locks = false ∧ va_K G.1 vwCl (hb_tys G) s ∧ hb_TB s ∧ (∀ σ, va_D (hb_AA Λ G) (hb_wL Λ G σ)) ∧ nf ≤ R.frames ∧ nl ≤ R.locals ∧ cells ≤ R.cells ∧ slots ≤ R.slots
def hb_ret (Γ : hb_Ctx) : Option FieldType := match Γ with
  | (_, _, _, _, _, _, _, _, meth, _) => meth.sig.returnType
/-- a method's end: its answer, the new memory, nothing else changed -/
def hb_Qc (Λ : hb_Lay) (G : hb_Gam) (rv : Option Value) (σ : hb_Mem) : Array Value → State → Outcome → State → Prop := fun _ st oc t => oc = .returned rv ∧ va_P G.1 vwCl (hb_wL Λ G σ) t.heap ∧ va_F (hb_AA Λ G) st t
def hb_Pc (Λ : hb_Lay) (G : hb_Gam) (av : List Value) (σ : hb_Mem) : Array Value → State → Prop := fun v U => v = av.toArray ∧ va_P G.1 vwCl (hb_wL Λ G σ) U.heap ∧ va_K G.1 vwCl (hb_tys G) U ∧ hb_TB U ∧ (∀ σ, va_D (hb_AA Λ G) (hb_wL Λ G σ))
def hb_C (l : Launch) (y : MethodName) (cc : ByteArray) (nL : Nat) (ret : Option FieldType) (nf nl : Nat) (Λ : hb_Lay) (G : hb_Gam) (av : List Value) (σ : hb_Mem) (rv : Option Value) (σ' : hb_Mem) : Prop :=
  Met l y [.code y cc nL ret] { frames := nf, cells := 0, slots := 0, locals := nl } (hb_Pc Λ G av σ) (hb_Qc Λ G rv σ') 0 0 (hb_AA Λ G)
def hb_Q (Γ : hb_Ctx) (Λ : hb_Lay) (G : hb_Gam) (rv : Option Value) (σ : hb_Mem) : State → Prop := match Γ with
  | (p, l, e, R, s, m, args, below, meth, c, cells, slots) => MQ below (hb_Qc Λ G rv σ) args s cells slots (hb_AA Λ G)
theorem hb_ofW {l : Launch} {y : MethodName} {ws ws' : List Cond} {rm : Room} {Pc : Array Value → State → Prop} {Qc : Array Value → State → Outcome → State → Prop} {mc ms : Nat} {free : Addr → Prop} {cc : ByteArray} {maxL : Nat} {ret : Option FieldType}
    (hy : plainFor y = true) (hw : ws = Cond.code y cc maxL ret :: ws')
    (body : ∀ p e s m args below meth c s₁, BodyLoose p l y (headSpec ws rm) cc maxL ret e s m args below meth c s₁ → c.maxLocals = maxL → Pc args s →
      W p l e (headSpec ws rm).room s m args below meth c s.heap [] 0 0 (MQ below Qc args s mc ms free) (entryFrame m args maxL)) : Met l y ws rm Pc Qc mc ms free := by
  refine MetFree.of_bodySF (code := cc) (maxLocals := maxL) (ret := ret) hy ?_ ?_
  · intro args s m h hn
    obtain ⟨meth, c, h1, h2, h3, h4, h5, h6, -, -⟩ := Cond.code_spec hn (atoms_spec (ws := ws) h _ (by rw [hw]; exact List.mem_cons_self))
    exact ⟨meth, c, h1, h2, h3, h4, h5, h6⟩
  · intro p e s m args below meth c s₁ B hml hP _
    have hh0 : s₁.heap = s.heap := by rw [B.state]; rfl
    obtain ⟨t, a1, o, b1, b2, b3⟩ := body p e s m args below meth c s₁ B hml hP s₁ hh0 (Stand.of_body B)
    exact ⟨t, o, a1, b1, b2, ⟨b3.1, b3.2⟩⟩
theorem hb_C.of {l : Launch} {y : MethodName} {cc : ByteArray} {nL : Nat} {ret : Option FieldType} {nf nl : Nat} {Λ : hb_Lay} {G : hb_Gam} {av : List Value} {σ σ' : hb_Mem} {rv : Option Value} (L : List (Option Value)) (hy : plainFor y = true) (hlen : (lg_sl av).length ≤ nL) (hcat : ∀ v ∈ av, v.category = 1) (hL : L.length = nL) (hav : ∀ (i : Nat) (v : Value), L[i]? = some (some v) → av[i]? = some v)
    (body : ∀ Γ : hb_Ctx, hb_X Γ cc nL y.cls Λ G nf nl → hb_ret Γ = ret → hb_W Γ Λ G nL (hb_Q Γ Λ G rv σ') σ L [] 0) : hb_C l y cc nL ret nf nl Λ G av σ rv σ' := by
  refine hb_ofW (cc := cc) (maxL := nL) (ret := ret) hy rfl ?_
  intro p e s m args below meth c s₁ B hml hv
  obtain ⟨rfl, hP, hK, hT, hD⟩ := hv
  have hb := body (p, l, e, ({ frames := nf, cells := 0, slots := 0, locals := nl } : Room), s, m, av.toArray, below, meth, c, 0, 0) ⟨B.exec, B.bytes, hml, findClass_of_methodNamed B.named, B.notSynchronized, hK, hT, hD, Nat.le_refl _, Nat.le_refl _, Nat.le_refl _, Nat.le_refl _⟩ B.returns
  have hl := lv_entry av (n := nL) hlen
  rw [lg_entry_eq]
  refine hb s.heap [] _ hP va_S.rf ?_
  have hargs : ∀ (vs : List Value) (i k : Nat) (v : Value), (∀ v ∈ vs, v.category = 1) → vs[k]? = some v → (i + k, v) ∈ lv_args i vs := by
    intro vs
    induction vs with
    | nil => intro i k v _ h; simp at h
    | cons a vs ih =>
      intro i k v hc h
      rw [lv_args]
      cases k with
      | zero =>
        simp at h
        subst h
        exact List.mem_cons_self
      | succ k =>
        have ha := hc a List.mem_cons_self
        rw [if_neg (by rw [ha]; decide)]
        have := ih (i + 1) k v (fun w hw => hc w (List.mem_cons_of_mem _ hw)) (by simpa using h)
        rw [show i + (k + 1) = i + 1 + k by omega]
        exact List.mem_cons_of_mem _ this
  refine ⟨hL, hl.1, hl.2.1, fun i v hi => ?_⟩
  have h1 := hav i v hi
  have h2 := hargs av 0 i v hcat h1
  rw [Nat.zero_add] at h2
  exact ⟨hl.2.2 (i, v) h2, Or.inl (hcat v (List.mem_of_getElem? h1))⟩
