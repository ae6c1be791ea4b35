/-! the first memories, and the law from its entry -/
def hc_s0 : hb_Mem := fun k => if hc_kd k = 2 then (fun j => if j = 10 then -1 else 0) else if k < 136 then (if hc_kd k = 7 then (if hc_off k = 16 then upd (upd (fun _ => 0) 0 (-1)) 1 (-1) else fun _ => 0) else fun _ => 0) else if k = 136 then (fun j => if j = 3 then 1 else 0) else if k = 147 then (fun j => if j = 10 then -1 else 0) else fun _ => 0
/-- the ring as it is made -/
def hc_ring (cS : ClassId) (b : Nat) : va_E := .inl (cS, 4, .inr (.inr (.inr (.inr (va_up (va_up (va_up (va_up (fun _ => none) 0 (some (b + 60))) 1 (some (b + 79))) 2 (some (b + 98))) 3 (some (b + 117)))))))
set_option maxRecDepth 100000 in
theorem hc_make_eq (D : va_G) (cI cS : ClassId) (b : Nat) : ls_Book cI cS b = (List.range 160).map (fun j => if j = 59 then hc_ring cS b else hb_cell ΛC (D, cI, cS, fun k => b + k) hc_s0 j) := rfl
theorem hc_ring_at {D : va_G} {cI cS : ClassId} {b : Nat} {H : Heap} (h : va_at D vwCl (b + 59, hc_ring cS b) H) : va_at D vwCl (b + 59, hb_cell ΛC (D, cI, cS, fun k => b + k) hc_s0 59) H := by
  show H[b + 59]? = some (vp_cell cS (4, .inr (.inr (.inr (.inr (fun j => some (b + hc_rf 59 j)))))))
  have h1 : H[b + 59]? = some (vp_cell cS (4, .inr (.inr (.inr (.inr (va_up (va_up (va_up (va_up (fun _ => none) 0 (some (b + 60))) 1 (some (b + 79))) 2 (some (b + 98))) 3 (some (b + 117)))))))) := h
  rw [h1, vp_cell_q, vp_cell_q]
  unfold arrV
  congr 2
theorem hc_make {D : va_G} {cI cS : ClassId} {b : Nat} {H : Heap} (h : va_P D vwCl (hn_cw b (ls_Book cI cS b)) H) : va_P D vwCl (hb_wL ΛC (D, cI, cS, fun k => b + k) hc_s0) H := by
  intro k q hk
  have hl : k < 160 := by have := (List.getElem?_eq_some_iff.mp hk).1; rw [hb_wL_len] at this; exact this
  rw [hb_wL_get (Λ := ΛC) hl] at hk
  cases hk
  have h1 := h k (b + k, if k = 59 then hc_ring cS b else hb_cell ΛC (D, cI, cS, fun k => b + k) hc_s0 k) (hn_at (by rw [hc_make_eq D cI cS b]; simp [hl]))
  by_cases h59 : k = 59
  · subst h59
    exact hc_ring_at h1
  · rw [if_neg h59] at h1
    exact h1
theorem hl_TB {av : Array Value} {s : State} (hts : ∀ w ∈ lw_tbl, w.before av s = true) (d : Drawn) : hb_TB (s.setDrawn d) := by
  intro w hw hg a
  have h0 := dr_words hts d w hw
  by_cases ho : w.onTables = true
  · exact va_Nw.use ho (va_Nw.of ho h0)
  · cases w <;> first | (exact absurd rfl ho; done) | (simp [goodWord, hb_isNest, Cond.onTables] at hg ho; done) | exact h0
theorem hl_AA {D : va_G} {cI cS : ClassId} {b q : Nat} (h : hb_AA ΛC (D, cI, cS, fun k => b + k) q) : b ≤ q := by
  obtain ⟨k, hk, e⟩ := h
  have e' : q = b + k := e
  omega
theorem hl_DL {D : va_G} {cI cS : ClassId} {b : Nat} : ∀ σ, va_D (hb_AA ΛC (D, cI, cS, fun k => b + k)) (hb_wL ΛC (D, cI, cS, fun k => b + k) σ) := by
  intro σ
  have hl : ∀ {k : Nat} {q : Nat × va_E}, (hb_wL ΛC (D, cI, cS, fun k => b + k) σ)[k]? = some q → k < 160 ∧ q.1 = b + k := by
    intro k q hk
    have hl : k < 160 := by have := (List.getElem?_eq_some_iff.mp hk).1; rw [hb_wL_len] at this; exact this
    rw [hb_wL_get (Λ := ΛC) hl] at hk
    cases hk
    exact ⟨hl, rfl⟩
  refine ⟨fun i j p q hi hj hpq => ?_, fun k q hk => ⟨k, (hl hk).1, (hl hk).2⟩⟩
  have h1 := (hl hi).2
  have h2 := (hl hj).2
  omega
