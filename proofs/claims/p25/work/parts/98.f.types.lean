/-! the law types a text -/
theorem cs_letters {t n sz nx len : Nat} {B : Nat → Int32} {σ : hb_Mem} (h : Rl t n B sz nx len σ) (hl : len + 6 ≤ 60) (c s : Int32) : ∃ len' σ', fn_L_letters 0 c s σ = some (1, σ') ∧ Rl t n B sz nx len' σ' ∧ len' ≤ len + 6 := by
  have z1 : ¬ (1 : Int32) = 0 := by decide
  have key : ∀ (len1 : Nat) (σ1 : hb_Mem), Rl t n B sz nx len1 σ1 → len1 + 5 ≤ 60 → ∃ len' σ', jn_L_letters_13 0 c s σ1 = some (1, σ') ∧ Rl t n B sz nx len' σ' ∧ len' ≤ len1 + 5 := by
    intro len1 σ1 h1 hl1
    have hlp : ∃ u, ll_L_letters_22 0 c s (1, 0, σ1) = some u ∧ u.1 = 1 ∧ ∃ l', Rl t n B sz nx l' u.2 ∧ l' ≤ len1 + 5 := by
      unfold ll_L_letters_22
      refine pl_inv (f := fun s' => lb_L_letters_22 0 c s s'.1 s'.2.1 s'.2.2) (s := ((1 : Int32), (0 : Int32), σ1)) 5 (fun i x => x.1 = 1 ∧ x.2.1 = nI i ∧ ∃ l', Rl t n B sz nx l' x.2.2 ∧ l' ≤ len1 + i) (fun u => u.1 = 1 ∧ ∃ l', Rl t n B sz nx l' u.2 ∧ l' ≤ len1 + 5) ⟨rfl, rfl, len1, h1, by omega⟩ ?_ ?_ (by rw [pl_F]; omega)
      · intro i x hi ⟨e1, e2, l', r1, r2⟩
        obtain ⟨x1, x2, τ⟩ := x
        dsimp only at e1 e2 r1
        subst e1
        subst e2
        left
        show ∃ s', lb_L_letters_22 0 c s 1 (nI i) τ = some (.inl s') ∧ _
        unfold lb_L_letters_22 jn_L_letters_54 jn_L_letters_59
        rw [if_neg (by show ¬ nI 5 ≤ nI i; rw [nI_leI (by omega) (by omega)]; omega), if_neg z1]
        simp only [hb_nm, nI_1]
        by_cases q : (s >>> (nI i &&& 31)) &&& 1 = 0
        · rw [if_pos q]
          exact ⟨_, rfl, rfl, rfl, l', r1, by omega⟩
        · obtain ⟨τ', a1, a2⟩ := cs_type r1 (by omega) ((((97 : Int32) + nI i).toUInt32 % 65536).toInt32)
          rw [if_neg q, a1, Option.bind_some]
          try dsimp only
          rw [if_neg (nI_nle (by omega) (by omega))]
          exact ⟨_, rfl, rfl, rfl, l' + 1, a2, by omega⟩
      · intro x ⟨e1, e2, l', r1, r2⟩
        obtain ⟨x1, x2, τ⟩ := x
        dsimp only at e1 e2 r1
        subst e1
        subst e2
        show ∃ u, lb_L_letters_22 0 c s 1 (nI 5) τ = some (.inr u) ∧ _
        unfold lb_L_letters_22
        rw [if_pos (show (5 : Int32) ≤ nI 5 from Int32.le_refl _)]
        exact ⟨_, rfl, rfl, l', r1, r2⟩
    obtain ⟨u, u1, u2, l', r1, r2⟩ := hlp
    unfold jn_L_letters_13 jn_L_letters_18
    rw [u1, Option.bind_some, u2, show hb_bz 1 = some 1 from rfl, Option.bind_some]
    exact ⟨l', u.2, rfl, r1, r2⟩
  unfold fn_L_letters
  by_cases q : s = 0
  · rw [if_pos q]
    obtain ⟨l', σ', a1, a2, a3⟩ := key len σ h (by omega)
    exact ⟨l', σ', a1, a2, by omega⟩
  · obtain ⟨τ', a1, a2⟩ := cs_type h (by omega) ((c.toUInt32 % 65536).toInt32)
    rw [if_neg q, a1, Option.bind_some]
    try dsimp only
    rw [if_neg (nI_nle (by omega) (by omega))]
    obtain ⟨l', σ', b1, b2, b3⟩ := key (len + 1) τ' a2 (by omega)
    exact ⟨l', σ', b1, b2, by omega⟩
theorem cs_numb {t n sz nx len : Nat} {B : Nat → Int32} {σ : hb_Mem} (h : Rl t n B sz nx len σ) (hl : len + 2 ≤ 60) (v : Int32) : ∃ len' σ', fn_L_number 0 v σ = some (1, σ') ∧ Rl t n B sz nx len' σ' ∧ len' ≤ len + 2 := by
  have key : ∀ (len1 : Nat) (σ1 : hb_Mem), Rl t n B sz nx len1 σ1 → len1 + 1 ≤ 60 → ∃ σ', jn_L_number_21 0 v σ1 = some (1, σ') ∧ Rl t n B sz nx (len1 + 1) σ' := by
    intro len1 σ1 h1 hl1
    obtain ⟨τ', a1, a2⟩ := cs_type h1 (by omega) ((((48 : Int32) + (v - v / 10 * 10)).toUInt32 % 65536).toInt32)
    unfold jn_L_number_21
    rw [a1, Option.bind_some]
    try dsimp only
    rw [if_neg (nI_nle (by omega) (by omega))]
    exact ⟨τ', rfl, a2⟩
  unfold fn_L_number
  by_cases q : v < 10
  · rw [if_pos q]
    obtain ⟨σ', a1, a2⟩ := key len σ h (by omega)
    exact ⟨len + 1, σ', a1, a2, by omega⟩
  · obtain ⟨τ', a1, a2⟩ := cs_type h (by omega) ((((48 : Int32) + (v / 10)).toUInt32 % 65536).toInt32)
    rw [if_neg q, a1, Option.bind_some]
    try dsimp only
    rw [if_neg (nI_nle (by omega) (by omega))]
    obtain ⟨σ', b1, b2⟩ := key (len + 1) τ' a2 (by omega)
    exact ⟨len + 1 + 1, σ', b1, b2, by omega⟩
theorem cs_t85 {t n sz nx len P : Nat} {B : Nat → Int32} {σ : hb_Mem} (h : Rl t n B sz nx len σ) (hl : len + 17 ≤ 60) (hP : 0 < P) (hP2 : P < 100) (x i2 : Int32) (i : Nat) (v : Int32) : ∃ len' σ', jn_L_types_85 0 x i2 (nI P) (nI i) v σ = some (.inl (1, nI (i + 1), σ')) ∧ Rl t n B sz nx len' σ' ∧ len' ≤ len + 17 := by
  have z1 : ¬ (1 : Int32) = 0 := by decide
  obtain ⟨q1, -, e1⟩ := cs_low v hP (by omega)
  obtain ⟨l1, σ1, a1, r1, b1⟩ := cs_numb h (by omega) (nI q1)
  obtain ⟨q2, -, e2⟩ := cs_low (x >>> (23 &&& 31)) (m := 11) (by omega) (by omega)
  have k167 : ∀ (l0 : Nat) (τ : hb_Mem), Rl t n B sz nx l0 τ → l0 + 12 ≤ 60 → ∀ s2, ∃ l' σ', jn_L_types_167 0 x i2 (nI P) (nI i) v 43 s2 τ = some (.inl (1, nI (i + 1), σ')) ∧ Rl t n B sz nx l' σ' ∧ l' ≤ l0 + 12 := by
    intro l0 τ h0 hl0 s2
    obtain ⟨l1, σ1, a1, r1, b1⟩ := cs_letters h0 (by omega) 43 s2
    obtain ⟨q, -, e⟩ := cs_low (v >>> (7 &&& 31)) (m := 3) (by omega) (by omega)
    have k202 : ∀ s2, ∃ l' σ', jn_L_types_202 0 x i2 (nI P) (nI i) 45 s2 σ1 = some (.inl (1, nI (i + 1), σ')) ∧ Rl t n B sz nx l' σ' ∧ l' ≤ l0 + 12 := by
      intro s2
      obtain ⟨l2, σ2, a2, r2, b2⟩ := cs_letters r1 (by omega) 45 s2
      unfold jn_L_types_202 jn_L_types_213
      rw [a2, Option.bind_some]
      try dsimp only
      rw [if_neg z1]
      simp only [hb_nm, nI_1]
      exact ⟨l2, σ2, rfl, r2, by omega⟩
    unfold jn_L_types_167
    have e' : fn_L_low (v >>> (7 &&& 31)) 3 = some (nI q) := e
    rw [a1, Option.bind_some]
    try dsimp only
    rw [if_neg z1, e', Option.bind_some]
    by_cases hq : nI q = 0
    · obtain ⟨q', -, e''⟩ := cs_low (v >>> (8 &&& 31)) (m := 32) (by omega) (by omega)
      have e'' : fn_L_low (v >>> (8 &&& 31)) 32 = some (nI q') := e''
      rw [if_pos hq, e'', Option.bind_some]
      exact k202 _
    · rw [if_neg hq]
      exact k202 _
  have k118 : ∀ s, ∃ l' σ', jn_L_types_118 0 x i2 (nI P) (nI i) v s σ1 = some (.inl (1, nI (i + 1), σ')) ∧ Rl t n B sz nx l' σ' ∧ l' ≤ len + 17 := by
    intro s
    obtain ⟨σ2, a2, r2⟩ := cs_type r1 (by omega) s
    obtain ⟨q3, -, e3⟩ := cs_low (v >>> (3 &&& 31)) hP (by omega)
    obtain ⟨l3, σ3, a3, r3, b3⟩ := cs_numb r2 (by omega) (nI q3)
    obtain ⟨q4, -, e4⟩ := cs_low (v >>> (5 &&& 31)) (m := 3) (by omega) (by omega)
    have e4 : fn_L_low (v >>> (5 &&& 31)) 3 = some (nI q4) := e4
    unfold jn_L_types_118
    rw [a2, Option.bind_some]
    try dsimp only
    rw [if_neg (nI_nle (by omega) (by omega)), e3, Option.bind_some, a3, Option.bind_some]
    try dsimp only
    rw [if_neg z1, e4, Option.bind_some]
    by_cases hq : nI q4 = 0
    · obtain ⟨q5, -, e5⟩ := cs_low (v >>> (6 &&& 31)) (m := 32) (by omega) (by omega)
      have e5 : fn_L_low (v >>> (6 &&& 31)) 32 = some (nI q5) := e5
      rw [if_pos hq, e5, Option.bind_some]
      obtain ⟨l', σ', c1, c2, c3⟩ := k167 l3 σ3 r3 (by omega) (nI q5)
      exact ⟨l', σ', c1, c2, by omega⟩
    · rw [if_neg hq]
      obtain ⟨l', σ', c1, c2, c3⟩ := k167 l3 σ3 r3 (by omega) 0
      exact ⟨l', σ', c1, c2, by omega⟩
  have e2 : fn_L_low (x >>> (23 &&& 31)) 11 = some (nI q2) := e2
  unfold jn_L_types_85
  rw [e1, Option.bind_some, a1, Option.bind_some]
  try dsimp only
  rw [if_neg z1, e2, Option.bind_some]
  by_cases hq : nI q2 = 0
  · rw [if_pos hq]
    exact k118 61
  · rw [if_neg hq]
    exact k118 62
theorem cs_types {t n sz nx len : Nat} {B : Nat → Int32} {σ : hb_Mem} (h : Rl t n B sz nx len σ) (x : Int32) : ∃ len' σ', fn_L_types 0 x σ = some (1, σ') ∧ Rl t n B sz nx len' σ' := by
  have z1 : ¬ (1 : Int32) = 0 := by decide
  have hn := h.1.1.1
  obtain ⟨k, hk, ek⟩ := cs_low x (m := 4) (by omega) (by omega)
  have ek : fn_L_low x 4 = some (nI k) := ek
  obtain ⟨q, -, eq⟩ := cs_low (x >>> (20 &&& 31)) (m := 5) (by omega) (by omega)
  have eq : fn_L_low (x >>> (20 &&& 31)) 5 = some (nI q) := eq
  have key : ∀ (P : Nat) (s : Int32), nI n + s = nI P → P < 100 → ∃ len' σ', jn_L_types_27 0 x (nI k) (nI n) s σ = some (1, σ') ∧ Rl t n B sz nx len' σ' := by
    intro P s hP hP2
    obtain ⟨σ1, a1, r1⟩ := cs_clear h
    have hlen := h.2.2.2.2.2.1
    unfold jn_L_types_27
    simp only [hb_nm]
    rw [a1, Option.bind_some]
    try dsimp only
    rw [if_neg (nI_pos (by omega)), hP]
    have hlp : ∃ u, ll_L_types_46 0 x (nI k) (nI P) (1, 0, σ1) = some u ∧ u.1 = 1 ∧ ∃ l', Rl t n B sz nx l' u.2 := by
      unfold ll_L_types_46
      refine pl_inv (f := fun s' => lb_L_types_46 0 x (nI k) (nI P) s'.1 s'.2.1 s'.2.2) (s := ((1 : Int32), (0 : Int32), σ1)) k (fun i x => x.1 = 1 ∧ x.2.1 = nI i ∧ ∃ l', Rl t n B sz nx l' x.2.2 ∧ l' ≤ 18 * i) (fun u => u.1 = 1 ∧ ∃ l', Rl t n B sz nx l' u.2) ⟨rfl, rfl, 0, r1, by omega⟩ ?_ ?_ (by rw [pl_F]; omega)
      · intro i x' hi ⟨e1, e2, l', r1, r2⟩
        obtain ⟨x1, x2, τ⟩ := x'
        dsimp only at e1 e2 r1
        subst e1
        subst e2
        show (∃ s', lb_L_types_46 0 x (nI k) (nI P) 1 (nI i) τ = some (.inl s') ∧ _) ∨ ∃ u, lb_L_types_46 0 x (nI k) (nI P) 1 (nI i) τ = some (.inr u) ∧ _
        unfold lb_L_types_46
        rw [if_neg (by rw [nI_leI (by omega) (by omega)]; omega)]
        simp only [hb_nm]
        by_cases hP0 : P = 0
        · right
          rw [if_pos (show nI P ≤ 0 by rw [hP0]; decide)]
          exact ⟨_, rfl, rfl, l', r1⟩
        · left
          rw [if_neg (nI_nle (by omega) (by omega)), if_neg z1]
          by_cases hi0 : i = 0
          · rw [if_pos (show nI i = 0 by rw [hi0]; rfl)]
            obtain ⟨l2, σ2, c1, c2, c3⟩ := cs_t85 r1 (by omega) (by omega) hP2 x (nI k) i (x >>> (((2 : Int32) + ((5 : Int32) * nI i)) &&& 31))
            rw [c1]
            exact ⟨_, rfl, rfl, rfl, l2, c2, by omega⟩
          · obtain ⟨σ3, a3, r3⟩ := cs_type r1 (by omega) 59
            rw [if_neg (nI_ne0 (by omega) (by omega)), a3, Option.bind_some]
            try dsimp only
            rw [if_neg (nI_nle (by omega) (by omega))]
            obtain ⟨l2, σ2, c1, c2, c3⟩ := cs_t85 r3 (by omega) (by omega) hP2 x (nI k) i (x >>> (((2 : Int32) + ((5 : Int32) * nI i)) &&& 31))
            rw [c1]
            exact ⟨_, rfl, rfl, rfl, l2, c2, by omega⟩
      · intro x' ⟨e1, e2, l', r1, r2⟩
        obtain ⟨x1, x2, τ⟩ := x'
        dsimp only at e1 e2 r1
        subst e1
        subst e2
        show ∃ u, lb_L_types_46 0 x (nI k) (nI P) 1 (nI k) τ = some (.inr u) ∧ _
        unfold lb_L_types_46
        rw [if_pos (Int32.le_refl _)]
        exact ⟨_, rfl, rfl, l', r1⟩
    obtain ⟨u, u1, u2, l', r2⟩ := hlp
    unfold jn_L_types_41
    rw [u1, Option.bind_some, u2, show hb_bz 1 = some 1 from rfl, Option.bind_some]
    exact ⟨l', u.2, rfl, r2⟩
  unfold fn_L_types
  rw [ek, Option.bind_some, cs_count0 h.1.1 h.2.1, Option.bind_some, eq, Option.bind_some]
  by_cases hq : nI q = 0
  · rw [if_pos hq]
    exact key (n + 1) 1 (nI_1 n) (by omega)
  · rw [if_neg hq]
    exact key n 0 (Int32.add_zero _) (by omega)
