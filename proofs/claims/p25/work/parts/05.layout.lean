/-! what the functions are made of, and the layout of the class's cells (hc_) -/
/-- a name for a value -/
def hb_nm {α β : Type} (a : α) (f : α → Option β) : Option β := f a
theorem hb_nm_of {α β : Type} {a : α} {f : α → Option β} {r : β} (h : hb_nm a f = some r) : ∃ x, x = a ∧ f x = some r := ⟨a, rfl, h⟩
theorem hb_bind_of {α β : Type} {a : Option α} {f : α → Option β} {r : β} (h : a.bind f = some r) : ∃ x, a = some x ∧ f x = some r := by
  cases a with
  | none => cases h
  | some x => exact ⟨x, rfl, h⟩
theorem hb_inl_of {α β γ : Type} {f : α → γ} {g : β → γ} {a : α} {r : γ} (h : Sum.elim f g (.inl a) = r) : f a = r := h
theorem hb_inr_of {α β γ : Type} {f : α → γ} {g : β → γ} {b : β} {r : γ} (h : Sum.elim f g (.inr b) = r) : g b = r := h
/-- a loop: at most so many rounds -/
def hb_lp {S T : Type} (f : S → Option (S ⊕ T)) : Nat → S → Option T
  | 0, _ => none
  | n + 1, s => (f s).bind (Sum.elim (fun s' => hb_lp f n s') (fun t => some t))
def hb_F : Nat := 1000000
theorem hb_lp_w {S T : Type} {f : S → Option (S ⊕ T)} {P : S → Prop} {E : T → Prop} (hb : ∀ (s : S) (x : S ⊕ T), f s = some x → Sum.elim P E x → P s) : ∀ (n : Nat) (s : S) (t : T), hb_lp f n s = some t → E t → P s
  | 0, s, t, h, _ => by cases h
  | n + 1, s, t, h, hE => by
    rw [hb_lp] at h
    obtain ⟨x, hx, h⟩ := hb_bind_of h
    cases x with
    | inl s' => exact hb s _ hx (hb_lp_w hb n s' t h hE)
    | inr t' =>
      cases h
      exact hb s _ hx hE
/-- a truth value -/
def hb_bz (v : Int32) : Option Int32 := if v = 0 ∨ v = 1 then some v else none
theorem hb_bz_of {v w : Int32} (h : hb_bz v = some w) : (v = 0 ∨ v = 1) ∧ w = v := by
  unfold hb_bz at h
  split at h
  · rename_i h1
    exact ⟨h1, (Option.some.inj h).symm⟩
  · cases h
theorem hb_bz_n {v : Int32} (h : v = 0 ∨ v = 1) : narrow .boolean (.int v) = .int v := by rcases h with rfl | rfl <;> rfl
theorem hb_bz_f {v : Int32} (h : v = 0 ∨ v = 1) : fits .boolean (.int v) = true := by rcases h with rfl | rfl <;> rfl
abbrev hb_or (G : hb_Gam) (r : Option Nat) : Value := match r with
  | none => .null
  | some k => .ref (G.2.2.2 k)
theorem hb_pad (av : List Value) (n : Nat) : ∀ (i : Nat) (v : Value), (av.map some ++ List.replicate n none)[i]? = some (some v) → av[i]? = some v := by
  intro i v h
  by_cases hi : i < av.length
  · rw [List.getElem?_append_left (by rw [List.length_map]; exact hi), List.getElem?_map] at h
    cases ha : av[i]? with
    | none => rw [ha] at h; cases h
    | some w => rw [ha] at h; cases h; rfl
  · rw [List.getElem?_append_right (by rw [List.length_map]; omega), List.getElem?_replicate] at h
    split at h <;> cases h
-- the class's cells in the order in which they are made: 0 the book; 1, 20, 39 the states now, draft, snapshot; 58 the history, 59 its ring, 60, 79, 98, 117 its states; 136 the text; 147 the survey
def hc_off (k : Nat) : Nat := if k < 58 then (k - 1) % 19 else (k - 60) % 19
def hc_kd (k : Nat) : Nat := if k = 0 then 5 else if k = 58 then 0 else if k = 59 then 8 else if k < 136 then (if hc_off k = 0 then 2 else if hc_off k % 2 = 1 then 1 else 7) else if k = 136 then 4 else if k < 147 then (if k % 2 = 1 then 1 else 7) else if k = 147 then 3 else if k < 160 then (if k % 2 = 0 then 1 else 7) else 9
def hc_rf (k j : Nat) : Nat := if k = 0 then (if j = 0 then 1 else if j = 1 then 20 else if j = 2 then 39 else if j = 4 then 58 else if j = 5 then 136 else 147) else if k = 58 then 59 else if k = 59 then 60 + 19 * j else if k < 136 then (if hc_off k = 0 then k + 2 * j - 1 else k + 1) else if k = 136 then (if j = 0 then 137 else 139 + 2 * (j - 5)) else if k < 147 then k + 1 else if k = 147 then (if j = 11 then 158 else 148 + 2 * (j - 3)) else k + 1
def hc_ln (k : Nat) : Nat := if k = 59 then 4 else if k < 136 then (if hc_off k < 10 then 32 else if hc_off k < 16 then 96 else 2) else if k = 138 then 60 else if k < 147 then 16 else 1024
abbrev ΛC : hb_Lay := (160, hc_kd, hc_rf, hc_ln)
theorem cf_0 : vwCl[0]? = some (RX0, TX0, 3) ∧ (∀ w ∈ u_ws RX0 TX0 3, w ∈ lw_tbl) ∧ (∀ w ∈ u_ws RX0 TX0 3, goodWord w = true) ∧ 0 < 7 ∧ hb_nf 0 = 3 := ⟨rfl, inX0, by decide +kernel, by decide, rfl⟩
theorem cg_0 : ∃ ty0 : Nat → FieldType, (∀ k, k < 3 → parseFieldDescriptor (TX0 k).2.2.1 = some (ty0 k)) ∧ ∀ a, a < 3 → ∀ b, b < 3 → a ≠ b → (TX0 a).2.1 ≠ (TX0 b).2.1 := ⟨tyX0, tyX0_ok, nmX0⟩
theorem hc_kr_0_0 {k : Nat} (h : hb_is ΛC k 0) : hb_is ΛC (hc_rf k 0) 8 := (by decide +kernel : ∀ k, k < 160 → hc_kd k = 0 → hc_rf k 0 < 160 ∧ hc_kd (hc_rf k 0) = 8) k h.1 h.2
theorem cf_1 : vwCl[1]? = some (RX1, TX1, 1) ∧ (∀ w ∈ u_ws RX1 TX1 1, w ∈ lw_tbl) ∧ (∀ w ∈ u_ws RX1 TX1 1, goodWord w = true) ∧ 1 < 7 ∧ hb_nf 1 = 1 := ⟨rfl, inX1, by decide +kernel, by decide, rfl⟩
theorem cg_1 : ∃ ty0 : Nat → FieldType, (∀ k, k < 1 → parseFieldDescriptor (TX1 k).2.2.1 = some (ty0 k)) ∧ ∀ a, a < 1 → ∀ b, b < 1 → a ≠ b → (TX1 a).2.1 ≠ (TX1 b).2.1 := ⟨tyX1, tyX1_ok, nmX1⟩
theorem hc_kr_1_0 {k : Nat} (h : hb_is ΛC k 1) : hb_is ΛC (hc_rf k 0) 7 := (by decide +kernel : ∀ k, k < 160 → hc_kd k = 1 → hc_rf k 0 < 160 ∧ hc_kd (hc_rf k 0) = 7) k h.1 h.2
theorem cf_2 : vwCl[2]? = some (RX2, TX2, 11) ∧ (∀ w ∈ u_ws RX2 TX2 11, w ∈ lw_tbl) ∧ (∀ w ∈ u_ws RX2 TX2 11, goodWord w = true) ∧ 2 < 7 ∧ hb_nf 2 = 11 := ⟨rfl, inX2, by decide +kernel, by decide, rfl⟩
theorem cg_2 : ∃ ty0 : Nat → FieldType, (∀ k, k < 11 → parseFieldDescriptor (TX2 k).2.2.1 = some (ty0 k)) ∧ ∀ a, a < 11 → ∀ b, b < 11 → a ≠ b → (TX2 a).2.1 ≠ (TX2 b).2.1 := ⟨tyX2, tyX2_ok, nmX2⟩
theorem hc_kr_2_1 {k : Nat} (h : hb_is ΛC k 2) : hb_is ΛC (hc_rf k 1) 1 := (by decide +kernel : ∀ k, k < 160 → hc_kd k = 2 → hc_rf k 1 < 160 ∧ hc_kd (hc_rf k 1) = 1) k h.1 h.2
theorem hc_kr_2_2 {k : Nat} (h : hb_is ΛC k 2) : hb_is ΛC (hc_rf k 2) 1 := (by decide +kernel : ∀ k, k < 160 → hc_kd k = 2 → hc_rf k 2 < 160 ∧ hc_kd (hc_rf k 2) = 1) k h.1 h.2
theorem hc_kr_2_3 {k : Nat} (h : hb_is ΛC k 2) : hb_is ΛC (hc_rf k 3) 1 := (by decide +kernel : ∀ k, k < 160 → hc_kd k = 2 → hc_rf k 3 < 160 ∧ hc_kd (hc_rf k 3) = 1) k h.1 h.2
theorem hc_kr_2_4 {k : Nat} (h : hb_is ΛC k 2) : hb_is ΛC (hc_rf k 4) 1 := (by decide +kernel : ∀ k, k < 160 → hc_kd k = 2 → hc_rf k 4 < 160 ∧ hc_kd (hc_rf k 4) = 1) k h.1 h.2
theorem hc_kr_2_5 {k : Nat} (h : hb_is ΛC k 2) : hb_is ΛC (hc_rf k 5) 1 := (by decide +kernel : ∀ k, k < 160 → hc_kd k = 2 → hc_rf k 5 < 160 ∧ hc_kd (hc_rf k 5) = 1) k h.1 h.2
theorem hc_kr_2_6 {k : Nat} (h : hb_is ΛC k 2) : hb_is ΛC (hc_rf k 6) 1 := (by decide +kernel : ∀ k, k < 160 → hc_kd k = 2 → hc_rf k 6 < 160 ∧ hc_kd (hc_rf k 6) = 1) k h.1 h.2
theorem hc_kr_2_7 {k : Nat} (h : hb_is ΛC k 2) : hb_is ΛC (hc_rf k 7) 1 := (by decide +kernel : ∀ k, k < 160 → hc_kd k = 2 → hc_rf k 7 < 160 ∧ hc_kd (hc_rf k 7) = 1) k h.1 h.2
theorem hc_kr_2_8 {k : Nat} (h : hb_is ΛC k 2) : hb_is ΛC (hc_rf k 8) 1 := (by decide +kernel : ∀ k, k < 160 → hc_kd k = 2 → hc_rf k 8 < 160 ∧ hc_kd (hc_rf k 8) = 1) k h.1 h.2
theorem hc_kr_2_9 {k : Nat} (h : hb_is ΛC k 2) : hb_is ΛC (hc_rf k 9) 1 := (by decide +kernel : ∀ k, k < 160 → hc_kd k = 2 → hc_rf k 9 < 160 ∧ hc_kd (hc_rf k 9) = 1) k h.1 h.2
theorem cf_3 : vwCl[3]? = some (RX3, TX3, 12) ∧ (∀ w ∈ u_ws RX3 TX3 12, w ∈ lw_tbl) ∧ (∀ w ∈ u_ws RX3 TX3 12, goodWord w = true) ∧ 3 < 7 ∧ hb_nf 3 = 12 := ⟨rfl, inX3, by decide +kernel, by decide, rfl⟩
theorem cg_3 : ∃ ty0 : Nat → FieldType, (∀ k, k < 12 → parseFieldDescriptor (TX3 k).2.2.1 = some (ty0 k)) ∧ ∀ a, a < 12 → ∀ b, b < 12 → a ≠ b → (TX3 a).2.1 ≠ (TX3 b).2.1 := ⟨tyX3, tyX3_ok, nmX3⟩
theorem hc_kr_3_3 {k : Nat} (h : hb_is ΛC k 3) : hb_is ΛC (hc_rf k 3) 1 := (by decide +kernel : ∀ k, k < 160 → hc_kd k = 3 → hc_rf k 3 < 160 ∧ hc_kd (hc_rf k 3) = 1) k h.1 h.2
theorem hc_kr_3_4 {k : Nat} (h : hb_is ΛC k 3) : hb_is ΛC (hc_rf k 4) 1 := (by decide +kernel : ∀ k, k < 160 → hc_kd k = 3 → hc_rf k 4 < 160 ∧ hc_kd (hc_rf k 4) = 1) k h.1 h.2
theorem hc_kr_3_5 {k : Nat} (h : hb_is ΛC k 3) : hb_is ΛC (hc_rf k 5) 1 := (by decide +kernel : ∀ k, k < 160 → hc_kd k = 3 → hc_rf k 5 < 160 ∧ hc_kd (hc_rf k 5) = 1) k h.1 h.2
theorem hc_kr_3_6 {k : Nat} (h : hb_is ΛC k 3) : hb_is ΛC (hc_rf k 6) 1 := (by decide +kernel : ∀ k, k < 160 → hc_kd k = 3 → hc_rf k 6 < 160 ∧ hc_kd (hc_rf k 6) = 1) k h.1 h.2
theorem hc_kr_3_7 {k : Nat} (h : hb_is ΛC k 3) : hb_is ΛC (hc_rf k 7) 1 := (by decide +kernel : ∀ k, k < 160 → hc_kd k = 3 → hc_rf k 7 < 160 ∧ hc_kd (hc_rf k 7) = 1) k h.1 h.2
theorem hc_kr_3_11 {k : Nat} (h : hb_is ΛC k 3) : hb_is ΛC (hc_rf k 11) 1 := (by decide +kernel : ∀ k, k < 160 → hc_kd k = 3 → hc_rf k 11 < 160 ∧ hc_kd (hc_rf k 11) = 1) k h.1 h.2
theorem cf_4 : vwCl[4]? = some (RX4, TX4, 9) ∧ (∀ w ∈ u_ws RX4 TX4 9, w ∈ lw_tbl) ∧ (∀ w ∈ u_ws RX4 TX4 9, goodWord w = true) ∧ 4 < 7 ∧ hb_nf 4 = 9 := ⟨rfl, inX4, by decide +kernel, by decide, rfl⟩
theorem cg_4 : ∃ ty0 : Nat → FieldType, (∀ k, k < 9 → parseFieldDescriptor (TX4 k).2.2.1 = some (ty0 k)) ∧ ∀ a, a < 9 → ∀ b, b < 9 → a ≠ b → (TX4 a).2.1 ≠ (TX4 b).2.1 := ⟨tyX4, tyX4_ok, nmX4⟩
theorem hc_kr_4_0 {k : Nat} (h : hb_is ΛC k 4) : hb_is ΛC (hc_rf k 0) 1 := (by decide +kernel : ∀ k, k < 160 → hc_kd k = 4 → hc_rf k 0 < 160 ∧ hc_kd (hc_rf k 0) = 1) k h.1 h.2
theorem hc_kr_4_5 {k : Nat} (h : hb_is ΛC k 4) : hb_is ΛC (hc_rf k 5) 1 := (by decide +kernel : ∀ k, k < 160 → hc_kd k = 4 → hc_rf k 5 < 160 ∧ hc_kd (hc_rf k 5) = 1) k h.1 h.2
theorem hc_kr_4_6 {k : Nat} (h : hb_is ΛC k 4) : hb_is ΛC (hc_rf k 6) 1 := (by decide +kernel : ∀ k, k < 160 → hc_kd k = 4 → hc_rf k 6 < 160 ∧ hc_kd (hc_rf k 6) = 1) k h.1 h.2
theorem hc_kr_4_7 {k : Nat} (h : hb_is ΛC k 4) : hb_is ΛC (hc_rf k 7) 1 := (by decide +kernel : ∀ k, k < 160 → hc_kd k = 4 → hc_rf k 7 < 160 ∧ hc_kd (hc_rf k 7) = 1) k h.1 h.2
theorem hc_kr_4_8 {k : Nat} (h : hb_is ΛC k 4) : hb_is ΛC (hc_rf k 8) 1 := (by decide +kernel : ∀ k, k < 160 → hc_kd k = 4 → hc_rf k 8 < 160 ∧ hc_kd (hc_rf k 8) = 1) k h.1 h.2
theorem cf_5 : vwCl[5]? = some (RX5, TX5, 7) ∧ (∀ w ∈ u_ws RX5 TX5 7, w ∈ lw_tbl) ∧ (∀ w ∈ u_ws RX5 TX5 7, goodWord w = true) ∧ 5 < 7 ∧ hb_nf 5 = 7 := ⟨rfl, inX5, by decide +kernel, by decide, rfl⟩
theorem cg_5 : ∃ ty0 : Nat → FieldType, (∀ k, k < 7 → parseFieldDescriptor (TX5 k).2.2.1 = some (ty0 k)) ∧ ∀ a, a < 7 → ∀ b, b < 7 → a ≠ b → (TX5 a).2.1 ≠ (TX5 b).2.1 := ⟨tyX5, tyX5_ok, nmX5⟩
theorem hc_kr_5_0 {k : Nat} (h : hb_is ΛC k 5) : hb_is ΛC (hc_rf k 0) 2 := (by decide +kernel : ∀ k, k < 160 → hc_kd k = 5 → hc_rf k 0 < 160 ∧ hc_kd (hc_rf k 0) = 2) k h.1 h.2
theorem hc_kr_5_1 {k : Nat} (h : hb_is ΛC k 5) : hb_is ΛC (hc_rf k 1) 2 := (by decide +kernel : ∀ k, k < 160 → hc_kd k = 5 → hc_rf k 1 < 160 ∧ hc_kd (hc_rf k 1) = 2) k h.1 h.2
theorem hc_kr_5_2 {k : Nat} (h : hb_is ΛC k 5) : hb_is ΛC (hc_rf k 2) 2 := (by decide +kernel : ∀ k, k < 160 → hc_kd k = 5 → hc_rf k 2 < 160 ∧ hc_kd (hc_rf k 2) = 2) k h.1 h.2
theorem hc_kr_5_4 {k : Nat} (h : hb_is ΛC k 5) : hb_is ΛC (hc_rf k 4) 0 := (by decide +kernel : ∀ k, k < 160 → hc_kd k = 5 → hc_rf k 4 < 160 ∧ hc_kd (hc_rf k 4) = 0) k h.1 h.2
theorem hc_kr_5_5 {k : Nat} (h : hb_is ΛC k 5) : hb_is ΛC (hc_rf k 5) 4 := (by decide +kernel : ∀ k, k < 160 → hc_kd k = 5 → hc_rf k 5 < 160 ∧ hc_kd (hc_rf k 5) = 4) k h.1 h.2
theorem hc_kr_5_6 {k : Nat} (h : hb_is ΛC k 5) : hb_is ΛC (hc_rf k 6) 3 := (by decide +kernel : ∀ k, k < 160 → hc_kd k = 5 → hc_rf k 6 < 160 ∧ hc_kd (hc_rf k 6) = 3) k h.1 h.2
theorem hc_ldr_kind {a b : Nat} {i : Int32} (ha : hb_is ΛC a 8) (h : hb_ldr ΛC a i = some b) : hb_is ΛC b 2 := by
  have h59 : a = 59 := (by decide +kernel : ∀ k, k < 160 → hc_kd k = 8 → k = 59) a ha.1 ha.2
  subst h59
  unfold hb_ldr at h
  split at h
  · cases h
  · rename_i hin
    cases h
    have h4 : i.toNatClampNeg < 4 := Nat.not_le.mp fun q => hin (Or.inr q)
    exact (by decide +kernel : ∀ j, j < 4 → hc_rf 59 j < 160 ∧ hc_kd (hc_rf 59 j) = 2) _ h4
