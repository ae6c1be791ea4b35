-- ===== PART A: goes FIRST, ahead of the names: the tables' words, and 'selects' of the private methods out of them =====
/-- a private method of a class that the tables say can be made, by its rows of tables_1 -/
def lw_okq (q : MethodName × Nat) : Prop := (q.1.cls ≠ "java/lang/invoke/MethodHandle" ∧ q.1.cls ≠ "java/lang/invoke/VarHandle") ∧ Cond.instantiable q.1.cls q.2 ∈ tables_1 ∧ Cond.privateMethod q.1 ∈ tables_1 ∧ Cond.instanceMethod q.1 ∈ tables_1
theorem lw_p0 : lw_okq (⟨"PathBook$History", "stateAt", "(I)LPathBook$State;"⟩, 3) := ⟨⟨by decide +kernel, by decide +kernel⟩, List.mem_of_getElem? (i := 83) (by decide +kernel), List.mem_of_getElem? (i := 227) (by decide +kernel), List.mem_of_getElem? (i := 228) (by decide +kernel)⟩
theorem lw_p1 : lw_okq (⟨"PathBook", "record", "()V"⟩, 7) := ⟨⟨by decide +kernel, by decide +kernel⟩, List.mem_of_getElem? (i := 8) (by decide +kernel), List.mem_of_getElem? (i := 252) (by decide +kernel), List.mem_of_getElem? (i := 253) (by decide +kernel)⟩
theorem lw_p2 : lw_okq (⟨"PathBook", "surveyed", "()LPathBook$Survey;"⟩, 7) := ⟨⟨by decide +kernel, by decide +kernel⟩, List.mem_of_getElem? (i := 8) (by decide +kernel), List.mem_of_getElem? (i := 269) (by decide +kernel), List.mem_of_getElem? (i := 270) (by decide +kernel)⟩
theorem lw_p3 : lw_okq (⟨"PathBook$Survey", "findPlaces", "(LPathBook$State;)V"⟩, 12) := ⟨⟨by decide +kernel, by decide +kernel⟩, List.mem_of_getElem? (i := 146) (by decide +kernel), List.mem_of_getElem? (i := 277) (by decide +kernel), List.mem_of_getElem? (i := 278) (by decide +kernel)⟩
theorem lw_p4 : lw_okq (⟨"PathBook$Survey", "addPlace", "(IIII)V"⟩, 12) := ⟨⟨by decide +kernel, by decide +kernel⟩, List.mem_of_getElem? (i := 146) (by decide +kernel), List.mem_of_getElem? (i := 293) (by decide +kernel), List.mem_of_getElem? (i := 294) (by decide +kernel)⟩
theorem lw_p5 : lw_okq (⟨"PathBook$Survey", "isReached", "(I)Z"⟩, 12) := ⟨⟨by decide +kernel, by decide +kernel⟩, List.mem_of_getElem? (i := 146) (by decide +kernel), List.mem_of_getElem? (i := 297) (by decide +kernel), List.mem_of_getElem? (i := 298) (by decide +kernel)⟩
theorem lw_p6 : lw_okq (⟨"PathBook$Survey", "findAhead", "(LPathBook$State;)V"⟩, 12) := ⟨⟨by decide +kernel, by decide +kernel⟩, List.mem_of_getElem? (i := 146) (by decide +kernel), List.mem_of_getElem? (i := 330) (by decide +kernel), List.mem_of_getElem? (i := 331) (by decide +kernel)⟩
theorem lw_p7 : lw_okq (⟨"PathBook$Survey", "growAhead", "(LPathBook$State;)Z"⟩, 12) := ⟨⟨by decide +kernel, by decide +kernel⟩, List.mem_of_getElem? (i := 146) (by decide +kernel), List.mem_of_getElem? (i := 334) (by decide +kernel), List.mem_of_getElem? (i := 335) (by decide +kernel)⟩
theorem lw_p8 : lw_okq (⟨"PathBook$Survey", "findEnds", "(LPathBook$State;)V"⟩, 12) := ⟨⟨by decide +kernel, by decide +kernel⟩, List.mem_of_getElem? (i := 146) (by decide +kernel), List.mem_of_getElem? (i := 339) (by decide +kernel), List.mem_of_getElem? (i := 340) (by decide +kernel)⟩
theorem lw_p9 : lw_okq (⟨"PathBook$Survey", "findWay", "()V"⟩, 12) := ⟨⟨by decide +kernel, by decide +kernel⟩, List.mem_of_getElem? (i := 146) (by decide +kernel), List.mem_of_getElem? (i := 355) (by decide +kernel), List.mem_of_getElem? (i := 356) (by decide +kernel)⟩
theorem lw_p10 : lw_okq (⟨"PathBook$Survey", "layWay", "(I)V"⟩, 12) := ⟨⟨by decide +kernel, by decide +kernel⟩, List.mem_of_getElem? (i := 146) (by decide +kernel), List.mem_of_getElem? (i := 359) (by decide +kernel), List.mem_of_getElem? (i := 360) (by decide +kernel)⟩
theorem lw_p11 : lw_okq (⟨"PathBook$Survey", "isStuck", "(I)Z"⟩, 12) := ⟨⟨by decide +kernel, by decide +kernel⟩, List.mem_of_getElem? (i := 146) (by decide +kernel), List.mem_of_getElem? (i := 392) (by decide +kernel), List.mem_of_getElem? (i := 393) (by decide +kernel)⟩
theorem lw_p12 : lw_okq (⟨"PathBook$Text", "parseChoice", "()V"⟩, 9) := ⟨⟨by decide +kernel, by decide +kernel⟩, List.mem_of_getElem? (i := 103) (by decide +kernel), List.mem_of_getElem? (i := 613) (by decide +kernel), List.mem_of_getElem? (i := 614) (by decide +kernel)⟩
theorem lw_p13 : lw_okq (⟨"PathBook$Text", "parseNumber", "()I"⟩, 9) := ⟨⟨by decide +kernel, by decide +kernel⟩, List.mem_of_getElem? (i := 103) (by decide +kernel), List.mem_of_getElem? (i := 617) (by decide +kernel), List.mem_of_getElem? (i := 618) (by decide +kernel)⟩
theorem lw_p14 : lw_okq (⟨"PathBook$Text", "sign", "()I"⟩, 9) := ⟨⟨by decide +kernel, by decide +kernel⟩, List.mem_of_getElem? (i := 103) (by decide +kernel), List.mem_of_getElem? (i := 621) (by decide +kernel), List.mem_of_getElem? (i := 622) (by decide +kernel)⟩
theorem lw_p15 : lw_okq (⟨"PathBook$Text", "parseArrow", "()V"⟩, 9) := ⟨⟨by decide +kernel, by decide +kernel⟩, List.mem_of_getElem? (i := 103) (by decide +kernel), List.mem_of_getElem? (i := 629) (by decide +kernel), List.mem_of_getElem? (i := 630) (by decide +kernel)⟩
def lw_privs_1 : List (MethodName × Nat) := [(⟨"PathBook$History", "stateAt", "(I)LPathBook$State;"⟩, 3), (⟨"PathBook", "record", "()V"⟩, 7), (⟨"PathBook", "surveyed", "()LPathBook$Survey;"⟩, 7), (⟨"PathBook$Survey", "findPlaces", "(LPathBook$State;)V"⟩, 12), (⟨"PathBook$Survey", "addPlace", "(IIII)V"⟩, 12), (⟨"PathBook$Survey", "isReached", "(I)Z"⟩, 12), (⟨"PathBook$Survey", "findAhead", "(LPathBook$State;)V"⟩, 12), (⟨"PathBook$Survey", "growAhead", "(LPathBook$State;)Z"⟩, 12), (⟨"PathBook$Survey", "findEnds", "(LPathBook$State;)V"⟩, 12), (⟨"PathBook$Survey", "findWay", "()V"⟩, 12), (⟨"PathBook$Survey", "layWay", "(I)V"⟩, 12), (⟨"PathBook$Survey", "isStuck", "(I)Z"⟩, 12), (⟨"PathBook$Text", "parseChoice", "()V"⟩, 9), (⟨"PathBook$Text", "parseNumber", "()I"⟩, 9), (⟨"PathBook$Text", "sign", "()I"⟩, 9), (⟨"PathBook$Text", "parseArrow", "()V"⟩, 9)]
theorem lw_r1 : ∀ q ∈ lw_privs_1, lw_okq q := List.forall_mem_cons.mpr ⟨lw_p0, List.forall_mem_cons.mpr ⟨lw_p1, List.forall_mem_cons.mpr ⟨lw_p2, List.forall_mem_cons.mpr ⟨lw_p3, List.forall_mem_cons.mpr ⟨lw_p4, List.forall_mem_cons.mpr ⟨lw_p5, List.forall_mem_cons.mpr ⟨lw_p6, List.forall_mem_cons.mpr ⟨lw_p7, List.forall_mem_cons.mpr ⟨lw_p8, List.forall_mem_cons.mpr ⟨lw_p9, List.forall_mem_cons.mpr ⟨lw_p10, List.forall_mem_cons.mpr ⟨lw_p11, List.forall_mem_cons.mpr ⟨lw_p12, List.forall_mem_cons.mpr ⟨lw_p13, List.forall_mem_cons.mpr ⟨lw_p14, List.forall_mem_cons.mpr ⟨lw_p15, fun _ h => absurd h List.not_mem_nil⟩⟩⟩⟩⟩⟩⟩⟩⟩⟩⟩⟩⟩⟩⟩⟩
theorem lw_p16 : lw_okq (⟨"PathBook$Text", "parseFlags", "(C)I"⟩, 9) := ⟨⟨by decide +kernel, by decide +kernel⟩, List.mem_of_getElem? (i := 103) (by decide +kernel), List.mem_of_getElem? (i := 633) (by decide +kernel), List.mem_of_getElem? (i := 634) (by decide +kernel)⟩
def lw_privs_2 : List (MethodName × Nat) := [(⟨"PathBook$Text", "parseFlags", "(C)I"⟩, 9)]
theorem lw_r2 : ∀ q ∈ lw_privs_2, lw_okq q := List.forall_mem_cons.mpr ⟨lw_p16, fun _ h => absurd h List.not_mem_nil⟩
def lw_privs : List (MethodName × Nat) := lw_privs_1 ++ (lw_privs_2)
def lw_tbl : List Cond := k2_sels lw_privs ++ tables_1
theorem lw_privs_ok : ∀ q ∈ lw_privs, lw_okq q := by
  show ∀ q ∈ lw_privs_1 ++ (lw_privs_2), lw_okq q
  exact List.forall_mem_append.mpr ⟨lw_r1, lw_r2⟩
/-- the streams that the claim lets the run draw from -/
abbrev lw_cs : List Choice := [Jvm.Choice.named "NaN.bits"]
theorem lw_bits : nanBits ∈ lw_cs := by first | decide | exact List.mem_cons_self | simp [lw_cs, nanBits]
/-! ===== BEGIN words of one list among another's, by their places ===== -/
theorem goodIn_r {big : List Cond} (ws : List Cond) (ps : List Nat) (hp : ws = ps.filterMap (fun i => big[i]?)) (h : ws.all goodWord = true) : GoodIn big ws := by
  intro w hw
  have h1 := List.all_eq_true.mp h w hw
  rw [hp] at hw
  obtain ⟨i, -, hi⟩ := List.mem_filterMap.mp hw
  have hm : w ∈ big := by first | exact List.mem_of_getElem? hi | exact List.getElem?_mem hi
  exact ⟨hm, good_of_word h1⟩
theorem goodIn_app {big a b : List Cond} (ha : GoodIn big a) (hb : GoodIn big b) : GoodIn big (a ++ b) := fun w h => (List.mem_append.mp h).elim (ha w) (hb w)
theorem goodIn_ca {big a b : List Cond} {c : Cond} (ha : GoodIn big (c :: a)) (hb : GoodIn big b) : GoodIn big (c :: (a ++ b)) := fun w h => (List.mem_cons.mp h).elim (fun e => ha w (List.mem_cons.mpr (Or.inl e))) (fun h => (List.mem_append.mp h).elim (fun h => ha w (List.mem_cons.mpr (Or.inr h))) (hb w))
theorem goodIn_sub {big ws : List Cond} (hm : ∀ w ∈ ws, w ∈ big) (h : ws.all goodWord = true) : GoodIn big ws := fun w hw => ⟨hm w hw, good_of_word (List.all_eq_true.mp h w hw)⟩
/-! ===== END ===== -/
def RX0 : String := "PathBook$History"
def TX0 : u_T := fun k => match k with
  | 0 => ("PathBook$History", "ring", "[LPathBook$State;", true)
  | 1 => ("PathBook$History", "next", "I", false)
  | _ => ("PathBook$History", "size", "I", false)
def tyX0 : Nat → FieldType := fun k => match k with
  | 0 => .array (.object "PathBook$State")
  | 1 => .int
  | _ => .int
abbrev wsX00 : List Cond := u_ws RX0 TX0 3
theorem nmX0 : ∀ a, a < 3 → ∀ b, b < 3 → a ≠ b → (TX0 a).2.1 ≠ (TX0 b).2.1 := by decide +kernel
theorem tyX0_ok : ∀ k, k < 3 → parseFieldDescriptor (TX0 k).2.2.1 = some (tyX0 k) := by decide +kernel
abbrev cX0_init : ByteArray := prog_2_method_1_code
def yX0_init : MethodName := ⟨RX0, "<init>", "()V"⟩
abbrev cX0_push : ByteArray := prog_2_method_2_code
def yX0_push : MethodName := ⟨RX0, "push", "(LPathBook$State;)V"⟩
abbrev cX0_pop : ByteArray := prog_2_method_3_code
def yX0_pop : MethodName := ⟨RX0, "pop", "(LPathBook$State;)V"⟩
abbrev cX0_stateAt : ByteArray := prog_2_method_4_code
def yX0_stateAt : MethodName := ⟨RX0, "stateAt", "(I)LPathBook$State;"⟩
def RX1 : String := "PathBook$Row"
def TX1 : u_T := fun k => match k with
  | _ => ("PathBook$Row", "cells", "[I", true)
def tyX1 : Nat → FieldType := fun k => match k with
  | _ => .array .int
abbrev wsX10 : List Cond := u_ws RX1 TX1 1
theorem nmX1 : ∀ a, a < 1 → ∀ b, b < 1 → a ≠ b → (TX1 a).2.1 ≠ (TX1 b).2.1 := by decide +kernel
theorem tyX1_ok : ∀ k, k < 1 → parseFieldDescriptor (TX1 k).2.2.1 = some (tyX1 k) := by decide +kernel
abbrev cX1_init : ByteArray := prog_3_method_1_code
def yX1_init : MethodName := ⟨RX1, "<init>", "(I)V"⟩
abbrev cX1_at : ByteArray := prog_3_method_2_code
def yX1_at : MethodName := ⟨RX1, "at", "(I)I"⟩
abbrev cX1_put : ByteArray := prog_3_method_3_code
def yX1_put : MethodName := ⟨RX1, "put", "(II)V"⟩
abbrev cX1_fill : ByteArray := prog_3_method_4_code
def yX1_fill : MethodName := ⟨RX1, "fill", "(I)V"⟩
abbrev cX1_swap : ByteArray := prog_3_method_5_code
def yX1_swap : MethodName := ⟨RX1, "swap", "(II)V"⟩
abbrev cX1_copyFrom : ByteArray := prog_3_method_6_code
def yX1_copyFrom : MethodName := ⟨RX1, "copyFrom", "(LPathBook$Row;)V"⟩
def RX2 : String := "PathBook$State"
def TX2 : u_T := fun k => match k with
  | 0 => ("PathBook$State", "pages", "I", false)
  | 1 => ("PathBook$State", "tenths", "LPathBook$Row;", true)
  | 2 => ("PathBook$State", "sets", "LPathBook$Row;", true)
  | 3 => ("PathBook$State", "takes", "LPathBook$Row;", true)
  | 4 => ("PathBook$State", "sizes", "LPathBook$Row;", true)
  | 5 => ("PathBook$State", "to", "LPathBook$Row;", true)
  | 6 => ("PathBook$State", "needs", "LPathBook$Row;", true)
  | 7 => ("PathBook$State", "bars", "LPathBook$Row;", true)
  | 8 => ("PathBook$State", "places", "LPathBook$Row;", true)
  | 9 => ("PathBook$State", "taken", "LPathBook$Row;", true)
  | _ => ("PathBook$State", "bookmark", "I", false)
def tyX2 : Nat → FieldType := fun k => match k with
  | 0 => .int
  | 1 => .object "PathBook$Row"
  | 2 => .object "PathBook$Row"
  | 3 => .object "PathBook$Row"
  | 4 => .object "PathBook$Row"
  | 5 => .object "PathBook$Row"
  | 6 => .object "PathBook$Row"
  | 7 => .object "PathBook$Row"
  | 8 => .object "PathBook$Row"
  | 9 => .object "PathBook$Row"
  | _ => .int
abbrev wsX20 : List Cond := u_ws RX2 TX2 11
theorem nmX2 : ∀ a, a < 11 → ∀ b, b < 11 → a ≠ b → (TX2 a).2.1 ≠ (TX2 b).2.1 := by decide +kernel
theorem tyX2_ok : ∀ k, k < 11 → parseFieldDescriptor (TX2 k).2.2.1 = some (tyX2 k) := by decide +kernel
abbrev cX2_init : ByteArray := prog_4_method_1_code
def yX2_init : MethodName := ⟨RX2, "<init>", "()V"⟩
abbrev cX2_copyFrom : ByteArray := prog_4_method_2_code
def yX2_copyFrom : MethodName := ⟨RX2, "copyFrom", "(LPathBook$State;)V"⟩
abbrev cX2_hasPage : ByteArray := prog_4_method_3_code
def yX2_hasPage : MethodName := ⟨RX2, "hasPage", "(I)Z"⟩
abbrev cX2_hasChoice : ByteArray := prog_4_method_4_code
def yX2_hasChoice : MethodName := ⟨RX2, "hasChoice", "(II)Z"⟩
abbrev cX2_bindPage : ByteArray := prog_4_method_5_code
def yX2_bindPage : MethodName := ⟨RX2, "bindPage", "(III)I"⟩
abbrev cX2_errorOfChoice : ByteArray := prog_4_method_6_code
def yX2_errorOfChoice : MethodName := ⟨RX2, "errorOfChoice", "(IIII)I"⟩
abbrev cX2_appendChoice : ByteArray := prog_4_method_7_code
def yX2_appendChoice : MethodName := ⟨RX2, "appendChoice", "(IIII)I"⟩
abbrev cX2_removeChoice : ByteArray := prog_4_method_8_code
def yX2_removeChoice : MethodName := ⟨RX2, "removeChoice", "(II)I"⟩
abbrev cX2_swapPages : ByteArray := prog_4_method_9_code
def yX2_swapPages : MethodName := ⟨RX2, "swapPages", "(II)V"⟩
abbrev cX2_renumbered : ByteArray := prog_4_method_10_code
def yX2_renumbered : MethodName := ⟨RX2, "renumbered", "(III)I"⟩
abbrev cX2_moved : ByteArray := prog_4_method_11_code
def yX2_moved : MethodName := ⟨RX2, "moved", "(III)I"⟩
abbrev cX2_allChoices : ByteArray := prog_4_method_12_code
def yX2_allChoices : MethodName := ⟨RX2, "allChoices", "()I"⟩
abbrev cX2_choicesTo : ByteArray := prog_4_method_13_code
def yX2_choicesTo : MethodName := ⟨RX2, "choicesTo", "(I)I"⟩
abbrev cX2_moodOf : ByteArray := prog_4_method_14_code
def yX2_moodOf : MethodName := ⟨RX2, "moodOf", "(I)F"⟩
abbrev cX2_kindOf : ByteArray := prog_4_method_15_code
def yX2_kindOf : MethodName := ⟨RX2, "kindOf", "(I)I"⟩
abbrev cX2_placeComingTo : ByteArray := prog_4_method_16_code
def yX2_placeComingTo : MethodName := ⟨RX2, "placeComingTo", "(II)I"⟩
abbrev cX2_firstPlace : ByteArray := prog_4_method_17_code
def yX2_firstPlace : MethodName := ⟨RX2, "firstPlace", "()I"⟩
abbrev cX2_placeBehind : ByteArray := prog_4_method_18_code
def yX2_placeBehind : MethodName := ⟨RX2, "placeBehind", "(II)I"⟩
abbrev cX2_reasonAt : ByteArray := prog_4_method_19_code
def yX2_reasonAt : MethodName := ⟨RX2, "reasonAt", "(II)I"⟩
abbrev cX2_reasonAgainst : ByteArray := prog_4_method_20_code
def yX2_reasonAgainst : MethodName := ⟨RX2, "reasonAgainst", "(II)I"⟩
abbrev cX2_openChoices : ByteArray := prog_4_method_21_code
def yX2_openChoices : MethodName := ⟨RX2, "openChoices", "(I)I"⟩
abbrev cX2_putReader : ByteArray := prog_4_method_22_code
def yX2_putReader : MethodName := ⟨RX2, "putReader", "(III)V"⟩
def RX3 : String := "PathBook$Survey"
def TX3 : u_T := fun k => match k with
  | 0 => ("PathBook$Survey", "known", "Z", false)
  | 1 => ("PathBook$Survey", "pages", "I", false)
  | 2 => ("PathBook$Survey", "found", "I", false)
  | 3 => ("PathBook$Survey", "order", "LPathBook$Row;", true)
  | 4 => ("PathBook$Survey", "distance", "LPathBook$Row;", true)
  | 5 => ("PathBook$Survey", "before", "LPathBook$Row;", true)
  | 6 => ("PathBook$Survey", "by", "LPathBook$Row;", true)
  | 7 => ("PathBook$Survey", "ahead", "LPathBook$Row;", true)
  | 8 => ("PathBook$Survey", "ends", "I", false)
  | 9 => ("PathBook$Survey", "happyEnds", "I", false)
  | 10 => ("PathBook$Survey", "wayLength", "I", false)
  | _ => ("PathBook$Survey", "way", "LPathBook$Row;", true)
def tyX3 : Nat → FieldType := fun k => match k with
  | 0 => .boolean
  | 1 => .int
  | 2 => .int
  | 3 => .object "PathBook$Row"
  | 4 => .object "PathBook$Row"
  | 5 => .object "PathBook$Row"
  | 6 => .object "PathBook$Row"
  | 7 => .object "PathBook$Row"
  | 8 => .int
  | 9 => .int
  | 10 => .int
  | _ => .object "PathBook$Row"
abbrev wsX30 : List Cond := u_ws RX3 TX3 12
theorem nmX3 : ∀ a, a < 12 → ∀ b, b < 12 → a ≠ b → (TX3 a).2.1 ≠ (TX3 b).2.1 := by decide +kernel
theorem tyX3_ok : ∀ k, k < 12 → parseFieldDescriptor (TX3 k).2.2.1 = some (tyX3 k) := by decide +kernel
abbrev cX3_init : ByteArray := prog_5_method_1_code
def yX3_init : MethodName := ⟨RX3, "<init>", "()V"⟩
abbrev cX3_make : ByteArray := prog_5_method_2_code
def yX3_make : MethodName := ⟨RX3, "make", "(LPathBook$State;)V"⟩
abbrev cX3_findPlaces : ByteArray := prog_5_method_3_code
def yX3_findPlaces : MethodName := ⟨RX3, "findPlaces", "(LPathBook$State;)V"⟩
abbrev cX3_addPlace : ByteArray := prog_5_method_4_code
def yX3_addPlace : MethodName := ⟨RX3, "addPlace", "(IIII)V"⟩
abbrev cX3_findAhead : ByteArray := prog_5_method_5_code
def yX3_findAhead : MethodName := ⟨RX3, "findAhead", "(LPathBook$State;)V"⟩
abbrev cX3_growAhead : ByteArray := prog_5_method_6_code
def yX3_growAhead : MethodName := ⟨RX3, "growAhead", "(LPathBook$State;)Z"⟩
abbrev cX3_findEnds : ByteArray := prog_5_method_7_code
def yX3_findEnds : MethodName := ⟨RX3, "findEnds", "(LPathBook$State;)V"⟩
abbrev cX3_findWay : ByteArray := prog_5_method_8_code
def yX3_findWay : MethodName := ⟨RX3, "findWay", "()V"⟩
abbrev cX3_layWay : ByteArray := prog_5_method_9_code
def yX3_layWay : MethodName := ⟨RX3, "layWay", "(I)V"⟩
abbrev cX3_choiceOnWay : ByteArray := prog_5_method_10_code
def yX3_choiceOnWay : MethodName := ⟨RX3, "choiceOnWay", "(I)I"⟩
abbrev cX3_isIn : ByteArray := prog_5_method_11_code
def yX3_isIn : MethodName := ⟨RX3, "isIn", "(II)Z"⟩
abbrev cX3_isReached : ByteArray := prog_5_method_12_code
def yX3_isReached : MethodName := ⟨RX3, "isReached", "(I)Z"⟩
abbrev cX3_isStuck : ByteArray := prog_5_method_13_code
def yX3_isStuck : MethodName := ⟨RX3, "isStuck", "(I)Z"⟩
abbrev cX3_placesWith : ByteArray := prog_5_method_14_code
def yX3_placesWith : MethodName := ⟨RX3, "placesWith", "(I)I"⟩
abbrev cX3_isDead : ByteArray := prog_5_method_15_code
def yX3_isDead : MethodName := ⟨RX3, "isDead", "(I)Z"⟩
abbrev cX3_comesAgain : ByteArray := prog_5_method_16_code
def yX3_comesAgain : MethodName := ⟨RX3, "comesAgain", "(I)Z"⟩
abbrev cX3_stuckPlacesWith : ByteArray := prog_5_method_17_code
def yX3_stuckPlacesWith : MethodName := ⟨RX3, "stuckPlacesWith", "(I)I"⟩
abbrev cX3_fewestChoicesTo : ByteArray := prog_5_method_18_code
def yX3_fewestChoicesTo : MethodName := ⟨RX3, "fewestChoicesTo", "(I)I"⟩
abbrev cX3_deadPages : ByteArray := prog_5_method_19_code
def yX3_deadPages : MethodName := ⟨RX3, "deadPages", "()I"⟩
abbrev cX3_pagesThatComeAgain : ByteArray := prog_5_method_20_code
def yX3_pagesThatComeAgain : MethodName := ⟨RX3, "pagesThatComeAgain", "()I"⟩
abbrev cX3_stuckPlaces : ByteArray := prog_5_method_21_code
def yX3_stuckPlaces : MethodName := ⟨RX3, "stuckPlaces", "()I"⟩
abbrev cX3_livePagesOf : ByteArray := prog_5_method_22_code
def yX3_livePagesOf : MethodName := ⟨RX3, "livePagesOf", "(I)I"⟩
abbrev cX3_isEverOpen : ByteArray := prog_5_method_23_code
def yX3_isEverOpen : MethodName := ⟨RX3, "isEverOpen", "(LPathBook$State;II)Z"⟩
def RX4 : String := "PathBook$Text"
def TX4 : u_T := fun k => match k with
  | 0 => ("PathBook$Text", "signs", "LPathBook$Row;", true)
  | 1 => ("PathBook$Text", "length", "I", false)
  | 2 => ("PathBook$Text", "at", "I", false)
  | 3 => ("PathBook$Text", "sound", "Z", false)
  | 4 => ("PathBook$Text", "choices", "I", false)
  | 5 => ("PathBook$Text", "from", "LPathBook$Row;", true)
  | 6 => ("PathBook$Text", "to", "LPathBook$Row;", true)
  | 7 => ("PathBook$Text", "needs", "LPathBook$Row;", true)
  | _ => ("PathBook$Text", "bars", "LPathBook$Row;", true)
def tyX4 : Nat → FieldType := fun k => match k with
  | 0 => .object "PathBook$Row"
  | 1 => .int
  | 2 => .int
  | 3 => .boolean
  | 4 => .int
  | 5 => .object "PathBook$Row"
  | 6 => .object "PathBook$Row"
  | 7 => .object "PathBook$Row"
  | _ => .object "PathBook$Row"
abbrev wsX40 : List Cond := u_ws RX4 TX4 9
theorem nmX4 : ∀ a, a < 9 → ∀ b, b < 9 → a ≠ b → (TX4 a).2.1 ≠ (TX4 b).2.1 := by decide +kernel
theorem tyX4_ok : ∀ k, k < 9 → parseFieldDescriptor (TX4 k).2.2.1 = some (tyX4 k) := by decide +kernel
abbrev cX4_init : ByteArray := prog_6_method_1_code
def yX4_init : MethodName := ⟨RX4, "<init>", "()V"⟩
abbrev cX4_append : ByteArray := prog_6_method_2_code
def yX4_append : MethodName := ⟨RX4, "append", "(C)I"⟩
abbrev cX4_parse : ByteArray := prog_6_method_3_code
def yX4_parse : MethodName := ⟨RX4, "parse", "()Z"⟩
abbrev cX4_sign : ByteArray := prog_6_method_4_code
def yX4_sign : MethodName := ⟨RX4, "sign", "()I"⟩
abbrev cX4_parseChoice : ByteArray := prog_6_method_5_code
def yX4_parseChoice : MethodName := ⟨RX4, "parseChoice", "()V"⟩
abbrev cX4_parseNumber : ByteArray := prog_6_method_6_code
def yX4_parseNumber : MethodName := ⟨RX4, "parseNumber", "()I"⟩
abbrev cX4_parseArrow : ByteArray := prog_6_method_7_code
def yX4_parseArrow : MethodName := ⟨RX4, "parseArrow", "()V"⟩
abbrev cX4_parseFlags : ByteArray := prog_6_method_8_code
def yX4_parseFlags : MethodName := ⟨RX4, "parseFlags", "(C)I"⟩
abbrev cX4_isDigit : ByteArray := prog_6_method_9_code
def yX4_isDigit : MethodName := ⟨RX4, "isDigit", "(I)Z"⟩
def RX5 : String := "PathBook"
def TX5 : u_T := fun k => match k with
  | 0 => ("PathBook", "now", "LPathBook$State;", true)
  | 1 => ("PathBook", "draft", "LPathBook$State;", true)
  | 2 => ("PathBook", "snapshot", "LPathBook$State;", true)
  | 3 => ("PathBook", "hasSnapshot", "Z", false)
  | 4 => ("PathBook", "history", "LPathBook$History;", true)
  | 5 => ("PathBook", "text", "LPathBook$Text;", true)
  | _ => ("PathBook", "survey", "LPathBook$Survey;", true)
def tyX5 : Nat → FieldType := fun k => match k with
  | 0 => .object "PathBook$State"
  | 1 => .object "PathBook$State"
  | 2 => .object "PathBook$State"
  | 3 => .boolean
  | 4 => .object "PathBook$History"
  | 5 => .object "PathBook$Text"
  | _ => .object "PathBook$Survey"
abbrev wsX50 : List Cond := u_ws RX5 TX5 7
theorem nmX5 : ∀ a, a < 7 → ∀ b, b < 7 → a ≠ b → (TX5 a).2.1 ≠ (TX5 b).2.1 := by decide +kernel
theorem tyX5_ok : ∀ k, k < 7 → parseFieldDescriptor (TX5 k).2.2.1 = some (tyX5 k) := by decide +kernel
abbrev cX5_init : ByteArray := prog_1_method_1_code
def yX5_init : MethodName := ⟨RX5, "<init>", "()V"⟩
abbrev cX5_addPage : ByteArray := prog_1_method_2_code
def yX5_addPage : MethodName := ⟨RX5, "addPage", "(III)I"⟩
abbrev cX5_setMood : ByteArray := prog_1_method_3_code
def yX5_setMood : MethodName := ⟨RX5, "setMood", "(II)I"⟩
abbrev cX5_addChoice : ByteArray := prog_1_method_4_code
def yX5_addChoice : MethodName := ⟨RX5, "addChoice", "(IIII)I"⟩
abbrev cX5_addChoices : ByteArray := prog_1_method_5_code
def yX5_addChoices : MethodName := ⟨RX5, "addChoices", "()I"⟩
abbrev cX5_takeChoice : ByteArray := prog_1_method_6_code
def yX5_takeChoice : MethodName := ⟨RX5, "takeChoice", "(II)I"⟩
abbrev cX5_exchange : ByteArray := prog_1_method_7_code
def yX5_exchange : MethodName := ⟨RX5, "exchange", "(II)I"⟩
abbrev cX5_begin : ByteArray := prog_1_method_8_code
def yX5_begin : MethodName := ⟨RX5, "begin", "(I)I"⟩
abbrev cX5_choose : ByteArray := prog_1_method_9_code
def yX5_choose : MethodName := ⟨RX5, "choose", "(II)I"⟩
abbrev cX5_mark : ByteArray := prog_1_method_10_code
def yX5_mark : MethodName := ⟨RX5, "mark", "(I)I"⟩
abbrev cX5_goToMark : ByteArray := prog_1_method_11_code
def yX5_goToMark : MethodName := ⟨RX5, "goToMark", "(I)I"⟩
abbrev cX5_type : ByteArray := prog_1_method_12_code
def yX5_type : MethodName := ⟨RX5, "type", "(C)I"⟩
abbrev cX5_clearText : ByteArray := prog_1_method_13_code
def yX5_clearText : MethodName := ⟨RX5, "clearText", "()I"⟩
abbrev cX5_undo : ByteArray := prog_1_method_14_code
def yX5_undo : MethodName := ⟨RX5, "undo", "()I"⟩
abbrev cX5_keep : ByteArray := prog_1_method_15_code
def yX5_keep : MethodName := ⟨RX5, "keep", "()I"⟩
abbrev cX5_restore : ByteArray := prog_1_method_16_code
def yX5_restore : MethodName := ⟨RX5, "restore", "()I"⟩
abbrev cX5_page : ByteArray := prog_1_method_17_code
def yX5_page : MethodName := ⟨RX5, "page", "(II)I"⟩
abbrev cX5_choice : ByteArray := prog_1_method_18_code
def yX5_choice : MethodName := ⟨RX5, "choice", "(III)I"⟩
abbrev cX5_reader : ByteArray := prog_1_method_19_code
def yX5_reader : MethodName := ⟨RX5, "reader", "(II)I"⟩
abbrev cX5_why : ByteArray := prog_1_method_20_code
def yX5_why : MethodName := ⟨RX5, "why", "(II)I"⟩
abbrev cX5_way : ByteArray := prog_1_method_21_code
def yX5_way : MethodName := ⟨RX5, "way", "(II)I"⟩
abbrev cX5_wayMood : ByteArray := prog_1_method_22_code
def yX5_wayMood : MethodName := ⟨RX5, "wayMood", "()I"⟩
abbrev cX5_count : ByteArray := prog_1_method_23_code
def yX5_count : MethodName := ⟨RX5, "count", "(I)I"⟩
abbrev cX5_record : ByteArray := prog_1_method_24_code
def yX5_record : MethodName := ⟨RX5, "record", "()V"⟩
abbrev cX5_surveyed : ByteArray := prog_1_method_25_code
def yX5_surveyed : MethodName := ⟨RX5, "surveyed", "()LPathBook$Survey;"⟩
abbrev cX5_isMood : ByteArray := prog_1_method_26_code
def yX5_isMood : MethodName := ⟨RX5, "isMood", "(I)Z"⟩
abbrev cX5_isFlagSet : ByteArray := prog_1_method_27_code
def yX5_isFlagSet : MethodName := ⟨RX5, "isFlagSet", "(I)Z"⟩
abbrev cX5_isReader : ByteArray := prog_1_method_28_code
def yX5_isReader : MethodName := ⟨RX5, "isReader", "(I)Z"⟩
abbrev cX5_isChoiceNumber : ByteArray := prog_1_method_29_code
def yX5_isChoiceNumber : MethodName := ⟨RX5, "isChoiceNumber", "(I)Z"⟩
abbrev cX5_oneIf : ByteArray := prog_1_method_30_code
def yX5_oneIf : MethodName := ⟨RX5, "oneIf", "(Z)I"⟩
abbrev cX5_slotOf : ByteArray := prog_1_method_31_code
def yX5_slotOf : MethodName := ⟨RX5, "slotOf", "(II)I"⟩
abbrev cX5_placeOf : ByteArray := prog_1_method_32_code
def yX5_placeOf : MethodName := ⟨RX5, "placeOf", "(II)I"⟩
abbrev cX5_pageAt : ByteArray := prog_1_method_33_code
def yX5_pageAt : MethodName := ⟨RX5, "pageAt", "(I)I"⟩
abbrev cX5_flagsAt : ByteArray := prog_1_method_34_code
def yX5_flagsAt : MethodName := ⟨RX5, "flagsAt", "(I)I"⟩
abbrev cX5_bitsOf : ByteArray := prog_1_method_35_code
def yX5_bitsOf : MethodName := ⟨RX5, "bitsOf", "(F)I"⟩
def RX6 : String := "PathBookModel"
def TX6 : u_T := fun k => match k with
  | _ => ("", "", "", false)
def tyX6 : Nat → FieldType := fun k => match k with
  | _ => .int
abbrev wsX60 : List Cond := u_ws RX6 TX6 0
theorem nmX6 : ∀ a, a < 0 → ∀ b, b < 0 → a ≠ b → (TX6 a).2.1 ≠ (TX6 b).2.1 := by decide +kernel
theorem tyX6_ok : ∀ k, k < 0 → parseFieldDescriptor (TX6 k).2.2.1 = some (tyX6 k) := by decide +kernel
def RL : String := "PathBookLaw"
abbrev cL_lot : ByteArray := method_2_code
def yL_lot : MethodName := ⟨RL, "lot", "([II)I"⟩
abbrev cL_low : ByteArray := method_3_code
def yL_low : MethodName := ⟨RL, "low", "(II)I"⟩
abbrev cL_digest : ByteArray := method_4_code
def yL_digest : MethodName := ⟨RL, "digest", "(LPathBook;)J"⟩
abbrev cL_holds : ByteArray := method_5_code
def yL_holds : MethodName := ⟨RL, "holds", "(LPathBook;)Z"⟩
abbrev cL_would : ByteArray := method_6_code
def yL_would : MethodName := ⟨RL, "would", "(LPathBook;I)Z"⟩
abbrev cL_letters : ByteArray := method_7_code
def yL_letters : MethodName := ⟨RL, "letters", "(LPathBook;II)Z"⟩
abbrev cL_number : ByteArray := method_8_code
def yL_number : MethodName := ⟨RL, "number", "(LPathBook;I)Z"⟩
abbrev cL_types : ByteArray := method_9_code
def yL_types : MethodName := ⟨RL, "types", "(LPathBook;I)Z"⟩
abbrev cL_acts : ByteArray := method_10_code
def yL_acts : MethodName := ⟨RL, "acts", "(LPathBook;II)Z"⟩
abbrev cL_law : ByteArray := code
def yL_law : MethodName := ⟨RL, "law", "([I)Z"⟩
set_option maxRecDepth 20000 in
theorem inX0 : ∀ w ∈ wsX00, w ∈ lw_tbl := by decide +kernel
theorem inX1 : ∀ w ∈ wsX10, w ∈ lw_tbl := by decide +kernel
theorem inX2 : ∀ w ∈ wsX20, w ∈ lw_tbl := by decide +kernel
theorem inX3 : ∀ w ∈ wsX30, w ∈ lw_tbl := by decide +kernel
theorem inX4 : ∀ w ∈ wsX40, w ∈ lw_tbl := by decide +kernel
theorem inX5 : ∀ w ∈ wsX50, w ∈ lw_tbl := by decide +kernel
abbrev vwCl : List vw_C := [(RX0, TX0, 3), (RX1, TX1, 1), (RX2, TX2, 11), (RX3, TX3, 12), (RX4, TX4, 9), (RX5, TX5, 7)]
