section
-- ===== PART A: goes FIRST, ahead of the names: the tables' words, and 'selects' of the private methods out of them =====
/-- a private method of a class that the tables say can be made, by its rows of tables_1 -/
def lw_okq (q : MethodName × Nat) : Prop := (q.1.cls ≠ "java/lang/invoke/MethodHandle" ∧ q.1.cls ≠ "java/lang/invoke/VarHandle") ∧ Cond.instantiable q.1.cls q.2 ∈ tables_1 ∧ Cond.privateMethod q.1 ∈ tables_1 ∧ Cond.instanceMethod q.1 ∈ tables_1
theorem lw_p0 : lw_okq (⟨"PathBook", "record", "()V"⟩, 7) := ⟨⟨by decide +kernel, by decide +kernel⟩, List.mem_of_getElem? (i := 10) (by decide +kernel), List.mem_of_getElem? (i := 231) (by decide +kernel), List.mem_of_getElem? (i := 232) (by decide +kernel)⟩
theorem lw_p1 : lw_okq (⟨"PathBook$History", "stateAt", "(I)LPathBook$State;"⟩, 3) := ⟨⟨by decide +kernel, by decide +kernel⟩, List.mem_of_getElem? (i := 85) (by decide +kernel), List.mem_of_getElem? (i := 239) (by decide +kernel), List.mem_of_getElem? (i := 240) (by decide +kernel)⟩
theorem lw_p2 : lw_okq (⟨"PathBook$Text", "parseChoice", "()V"⟩, 9) := ⟨⟨by decide +kernel, by decide +kernel⟩, List.mem_of_getElem? (i := 105) (by decide +kernel), List.mem_of_getElem? (i := 299) (by decide +kernel), List.mem_of_getElem? (i := 300) (by decide +kernel)⟩
theorem lw_p3 : lw_okq (⟨"PathBook$Text", "parseNumber", "()I"⟩, 9) := ⟨⟨by decide +kernel, by decide +kernel⟩, List.mem_of_getElem? (i := 105) (by decide +kernel), List.mem_of_getElem? (i := 303) (by decide +kernel), List.mem_of_getElem? (i := 304) (by decide +kernel)⟩
theorem lw_p4 : lw_okq (⟨"PathBook$Text", "sign", "()I"⟩, 9) := ⟨⟨by decide +kernel, by decide +kernel⟩, List.mem_of_getElem? (i := 105) (by decide +kernel), List.mem_of_getElem? (i := 307) (by decide +kernel), List.mem_of_getElem? (i := 308) (by decide +kernel)⟩
theorem lw_p5 : lw_okq (⟨"PathBook$Text", "parseArrow", "()V"⟩, 9) := ⟨⟨by decide +kernel, by decide +kernel⟩, List.mem_of_getElem? (i := 105) (by decide +kernel), List.mem_of_getElem? (i := 315) (by decide +kernel), List.mem_of_getElem? (i := 316) (by decide +kernel)⟩
theorem lw_p6 : lw_okq (⟨"PathBook$Text", "parseFlags", "(C)I"⟩, 9) := ⟨⟨by decide +kernel, by decide +kernel⟩, List.mem_of_getElem? (i := 105) (by decide +kernel), List.mem_of_getElem? (i := 319) (by decide +kernel), List.mem_of_getElem? (i := 320) (by decide +kernel)⟩
theorem lw_p7 : lw_okq (⟨"PathBook", "surveyed", "()LPathBook$Survey;"⟩, 7) := ⟨⟨by decide +kernel, by decide +kernel⟩, List.mem_of_getElem? (i := 10) (by decide +kernel), List.mem_of_getElem? (i := 468) (by decide +kernel), List.mem_of_getElem? (i := 469) (by decide +kernel)⟩
theorem lw_p8 : lw_okq (⟨"PathBook$Survey", "findPlaces", "(LPathBook$State;)V"⟩, 12) := ⟨⟨by decide +kernel, by decide +kernel⟩, List.mem_of_getElem? (i := 148) (by decide +kernel), List.mem_of_getElem? (i := 476) (by decide +kernel), List.mem_of_getElem? (i := 477) (by decide +kernel)⟩
theorem lw_p9 : lw_okq (⟨"PathBook$Survey", "addPlace", "(IIII)V"⟩, 12) := ⟨⟨by decide +kernel, by decide +kernel⟩, List.mem_of_getElem? (i := 148) (by decide +kernel), List.mem_of_getElem? (i := 482) (by decide +kernel), List.mem_of_getElem? (i := 483) (by decide +kernel)⟩
theorem lw_p10 : lw_okq (⟨"PathBook$Survey", "isReached", "(I)Z"⟩, 12) := ⟨⟨by decide +kernel, by decide +kernel⟩, List.mem_of_getElem? (i := 148) (by decide +kernel), List.mem_of_getElem? (i := 486) (by decide +kernel), List.mem_of_getElem? (i := 487) (by decide +kernel)⟩
theorem lw_p11 : lw_okq (⟨"PathBook$Survey", "findAhead", "(LPathBook$State;)V"⟩, 12) := ⟨⟨by decide +kernel, by decide +kernel⟩, List.mem_of_getElem? (i := 148) (by decide +kernel), List.mem_of_getElem? (i := 500) (by decide +kernel), List.mem_of_getElem? (i := 501) (by decide +kernel)⟩
theorem lw_p12 : lw_okq (⟨"PathBook$Survey", "growAhead", "(LPathBook$State;)Z"⟩, 12) := ⟨⟨by decide +kernel, by decide +kernel⟩, List.mem_of_getElem? (i := 148) (by decide +kernel), List.mem_of_getElem? (i := 504) (by decide +kernel), List.mem_of_getElem? (i := 505) (by decide +kernel)⟩
theorem lw_p13 : lw_okq (⟨"PathBook$Survey", "findEnds", "(LPathBook$State;)V"⟩, 12) := ⟨⟨by decide +kernel, by decide +kernel⟩, List.mem_of_getElem? (i := 148) (by decide +kernel), List.mem_of_getElem? (i := 509) (by decide +kernel), List.mem_of_getElem? (i := 510) (by decide +kernel)⟩
theorem lw_p14 : lw_okq (⟨"PathBook$Survey", "findWay", "()V"⟩, 12) := ⟨⟨by decide +kernel, by decide +kernel⟩, List.mem_of_getElem? (i := 148) (by decide +kernel), List.mem_of_getElem? (i := 515) (by decide +kernel), List.mem_of_getElem? (i := 516) (by decide +kernel)⟩
theorem lw_p15 : lw_okq (⟨"PathBook$Survey", "layWay", "(I)V"⟩, 12) := ⟨⟨by decide +kernel, by decide +kernel⟩, List.mem_of_getElem? (i := 148) (by decide +kernel), List.mem_of_getElem? (i := 519) (by decide +kernel), List.mem_of_getElem? (i := 520) (by decide +kernel)⟩
def lw_privs_1 : List (MethodName × Nat) := [(⟨"PathBook", "record", "()V"⟩, 7), (⟨"PathBook$History", "stateAt", "(I)LPathBook$State;"⟩, 3), (⟨"PathBook$Text", "parseChoice", "()V"⟩, 9), (⟨"PathBook$Text", "parseNumber", "()I"⟩, 9), (⟨"PathBook$Text", "sign", "()I"⟩, 9), (⟨"PathBook$Text", "parseArrow", "()V"⟩, 9), (⟨"PathBook$Text", "parseFlags", "(C)I"⟩, 9), (⟨"PathBook", "surveyed", "()LPathBook$Survey;"⟩, 7), (⟨"PathBook$Survey", "findPlaces", "(LPathBook$State;)V"⟩, 12), (⟨"PathBook$Survey", "addPlace", "(IIII)V"⟩, 12), (⟨"PathBook$Survey", "isReached", "(I)Z"⟩, 12), (⟨"PathBook$Survey", "findAhead", "(LPathBook$State;)V"⟩, 12), (⟨"PathBook$Survey", "growAhead", "(LPathBook$State;)Z"⟩, 12), (⟨"PathBook$Survey", "findEnds", "(LPathBook$State;)V"⟩, 12), (⟨"PathBook$Survey", "findWay", "()V"⟩, 12), (⟨"PathBook$Survey", "layWay", "(I)V"⟩, 12)]
theorem lw_r1 : ∀ q ∈ lw_privs_1, lw_okq q := List.forall_mem_cons.mpr ⟨lw_p0, List.forall_mem_cons.mpr ⟨lw_p1, List.forall_mem_cons.mpr ⟨lw_p2, List.forall_mem_cons.mpr ⟨lw_p3, List.forall_mem_cons.mpr ⟨lw_p4, List.forall_mem_cons.mpr ⟨lw_p5, List.forall_mem_cons.mpr ⟨lw_p6, List.forall_mem_cons.mpr ⟨lw_p7, List.forall_mem_cons.mpr ⟨lw_p8, List.forall_mem_cons.mpr ⟨lw_p9, List.forall_mem_cons.mpr ⟨lw_p10, List.forall_mem_cons.mpr ⟨lw_p11, List.forall_mem_cons.mpr ⟨lw_p12, List.forall_mem_cons.mpr ⟨lw_p13, List.forall_mem_cons.mpr ⟨lw_p14, List.forall_mem_cons.mpr ⟨lw_p15, fun _ h => absurd h List.not_mem_nil⟩⟩⟩⟩⟩⟩⟩⟩⟩⟩⟩⟩⟩⟩⟩⟩
theorem lw_p16 : lw_okq (⟨"PathBook$Survey", "isStuck", "(I)Z"⟩, 12) := ⟨⟨by decide +kernel, by decide +kernel⟩, List.mem_of_getElem? (i := 148) (by decide +kernel), List.mem_of_getElem? (i := 541) (by decide +kernel), List.mem_of_getElem? (i := 542) (by decide +kernel)⟩
theorem lw_p17 : lw_okq (⟨"PathBookModel", "records", "()V"⟩, 20) := ⟨⟨by decide +kernel, by decide +kernel⟩, List.mem_of_getElem? (i := 608) (by decide +kernel), List.mem_of_getElem? (i := 688) (by decide +kernel), List.mem_of_getElem? (i := 689) (by decide +kernel)⟩
theorem lw_p18 : lw_okq (⟨"PathBookModel", "isPage", "(I)Z"⟩, 20) := ⟨⟨by decide +kernel, by decide +kernel⟩, List.mem_of_getElem? (i := 608) (by decide +kernel), List.mem_of_getElem? (i := 696) (by decide +kernel), List.mem_of_getElem? (i := 697) (by decide +kernel)⟩
theorem lw_p19 : lw_okq (⟨"PathBookModel", "of", "(II)I"⟩, 20) := ⟨⟨by decide +kernel, by decide +kernel⟩, List.mem_of_getElem? (i := 608) (by decide +kernel), List.mem_of_getElem? (i := 700) (by decide +kernel), List.mem_of_getElem? (i := 701) (by decide +kernel)⟩
theorem lw_p20 : lw_okq (⟨"PathBookModel", "whyNot", "(II)I"⟩, 20) := ⟨⟨by decide +kernel, by decide +kernel⟩, List.mem_of_getElem? (i := 608) (by decide +kernel), List.mem_of_getElem? (i := 708) (by decide +kernel), List.mem_of_getElem? (i := 709) (by decide +kernel)⟩
theorem lw_p21 : lw_okq (⟨"PathBookModel", "adds", "(IIII)I"⟩, 20) := ⟨⟨by decide +kernel, by decide +kernel⟩, List.mem_of_getElem? (i := 608) (by decide +kernel), List.mem_of_getElem? (i := 712) (by decide +kernel), List.mem_of_getElem? (i := 713) (by decide +kernel)⟩
theorem lw_p22 : lw_okq (⟨"PathBookModel", "isChoice", "(II)Z"⟩, 20) := ⟨⟨by decide +kernel, by decide +kernel⟩, List.mem_of_getElem? (i := 608) (by decide +kernel), List.mem_of_getElem? (i := 720) (by decide +kernel), List.mem_of_getElem? (i := 721) (by decide +kernel)⟩
theorem lw_p23 : lw_okq (⟨"PathBookModel", "ofChoice", "(III)I"⟩, 20) := ⟨⟨by decide +kernel, by decide +kernel⟩, List.mem_of_getElem? (i := 608) (by decide +kernel), List.mem_of_getElem? (i := 724) (by decide +kernel), List.mem_of_getElem? (i := 725) (by decide +kernel)⟩
theorem lw_p24 : lw_okq (⟨"PathBookModel", "leadingTo", "(I)I"⟩, 20) := ⟨⟨by decide +kernel, by decide +kernel⟩, List.mem_of_getElem? (i := 608) (by decide +kernel), List.mem_of_getElem? (i := 732) (by decide +kernel), List.mem_of_getElem? (i := 733) (by decide +kernel)⟩
theorem lw_p25 : lw_okq (⟨"PathBookModel", "firstPlace", "()I"⟩, 20) := ⟨⟨by decide +kernel, by decide +kernel⟩, List.mem_of_getElem? (i := 608) (by decide +kernel), List.mem_of_getElem? (i := 746) (by decide +kernel), List.mem_of_getElem? (i := 747) (by decide +kernel)⟩
theorem lw_p26 : lw_okq (⟨"PathBookModel", "coming", "(II)I"⟩, 20) := ⟨⟨by decide +kernel, by decide +kernel⟩, List.mem_of_getElem? (i := 608) (by decide +kernel), List.mem_of_getElem? (i := 750) (by decide +kernel), List.mem_of_getElem? (i := 751) (by decide +kernel)⟩
theorem lw_p27 : lw_okq (⟨"PathBookModel", "goes", "(IIII)V"⟩, 20) := ⟨⟨by decide +kernel, by decide +kernel⟩, List.mem_of_getElem? (i := 608) (by decide +kernel), List.mem_of_getElem? (i := 754) (by decide +kernel), List.mem_of_getElem? (i := 755) (by decide +kernel)⟩
theorem lw_p28 : lw_okq (⟨"PathBookModel", "reason", "(II)I"⟩, 20) := ⟨⟨by decide +kernel, by decide +kernel⟩, List.mem_of_getElem? (i := 608) (by decide +kernel), List.mem_of_getElem? (i := 762) (by decide +kernel), List.mem_of_getElem? (i := 763) (by decide +kernel)⟩
theorem lw_p29 : lw_okq (⟨"PathBookModel", "ofReader", "(II)I"⟩, 20) := ⟨⟨by decide +kernel, by decide +kernel⟩, List.mem_of_getElem? (i := 608) (by decide +kernel), List.mem_of_getElem? (i := 766) (by decide +kernel), List.mem_of_getElem? (i := 767) (by decide +kernel)⟩
theorem lw_p30 : lw_okq (⟨"PathBookModel", "isMarked", "(I)Z"⟩, 20) := ⟨⟨by decide +kernel, by decide +kernel⟩, List.mem_of_getElem? (i := 608) (by decide +kernel), List.mem_of_getElem? (i := 779) (by decide +kernel), List.mem_of_getElem? (i := 780) (by decide +kernel)⟩
theorem lw_p31 : lw_okq (⟨"PathBookModel", "choicesNow", "(I)I"⟩, 20) := ⟨⟨by decide +kernel, by decide +kernel⟩, List.mem_of_getElem? (i := 608) (by decide +kernel), List.mem_of_getElem? (i := 791) (by decide +kernel), List.mem_of_getElem? (i := 792) (by decide +kernel)⟩
def lw_privs_2 : List (MethodName × Nat) := [(⟨"PathBook$Survey", "isStuck", "(I)Z"⟩, 12), (⟨"PathBookModel", "records", "()V"⟩, 20), (⟨"PathBookModel", "isPage", "(I)Z"⟩, 20), (⟨"PathBookModel", "of", "(II)I"⟩, 20), (⟨"PathBookModel", "whyNot", "(II)I"⟩, 20), (⟨"PathBookModel", "adds", "(IIII)I"⟩, 20), (⟨"PathBookModel", "isChoice", "(II)Z"⟩, 20), (⟨"PathBookModel", "ofChoice", "(III)I"⟩, 20), (⟨"PathBookModel", "leadingTo", "(I)I"⟩, 20), (⟨"PathBookModel", "firstPlace", "()I"⟩, 20), (⟨"PathBookModel", "coming", "(II)I"⟩, 20), (⟨"PathBookModel", "goes", "(IIII)V"⟩, 20), (⟨"PathBookModel", "reason", "(II)I"⟩, 20), (⟨"PathBookModel", "ofReader", "(II)I"⟩, 20), (⟨"PathBookModel", "isMarked", "(I)Z"⟩, 20), (⟨"PathBookModel", "choicesNow", "(I)I"⟩, 20)]
theorem lw_r2 : ∀ q ∈ lw_privs_2, lw_okq q := List.forall_mem_cons.mpr ⟨lw_p16, List.forall_mem_cons.mpr ⟨lw_p17, List.forall_mem_cons.mpr ⟨lw_p18, List.forall_mem_cons.mpr ⟨lw_p19, List.forall_mem_cons.mpr ⟨lw_p20, List.forall_mem_cons.mpr ⟨lw_p21, List.forall_mem_cons.mpr ⟨lw_p22, List.forall_mem_cons.mpr ⟨lw_p23, List.forall_mem_cons.mpr ⟨lw_p24, List.forall_mem_cons.mpr ⟨lw_p25, List.forall_mem_cons.mpr ⟨lw_p26, List.forall_mem_cons.mpr ⟨lw_p27, List.forall_mem_cons.mpr ⟨lw_p28, List.forall_mem_cons.mpr ⟨lw_p29, List.forall_mem_cons.mpr ⟨lw_p30, List.forall_mem_cons.mpr ⟨lw_p31, fun _ h => absurd h List.not_mem_nil⟩⟩⟩⟩⟩⟩⟩⟩⟩⟩⟩⟩⟩⟩⟩⟩
theorem lw_p32 : lw_okq (⟨"PathBookModel", "mood", "(I)F"⟩, 20) := ⟨⟨by decide +kernel, by decide +kernel⟩, List.mem_of_getElem? (i := 608) (by decide +kernel), List.mem_of_getElem? (i := 799) (by decide +kernel), List.mem_of_getElem? (i := 800) (by decide +kernel)⟩
theorem lw_p33 : lw_okq (⟨"PathBookModel", "isEnd", "(I)Z"⟩, 20) := ⟨⟨by decide +kernel, by decide +kernel⟩, List.mem_of_getElem? (i := 608) (by decide +kernel), List.mem_of_getElem? (i := 814) (by decide +kernel), List.mem_of_getElem? (i := 815) (by decide +kernel)⟩
theorem lw_p34 : lw_okq (⟨"PathBookModel", "isHappy", "(I)Z"⟩, 20) := ⟨⟨by decide +kernel, by decide +kernel⟩, List.mem_of_getElem? (i := 608) (by decide +kernel), List.mem_of_getElem? (i := 818) (by decide +kernel), List.mem_of_getElem? (i := 819) (by decide +kernel)⟩
theorem lw_p35 : lw_okq (⟨"PathBookModel", "placesOf", "(I)I"⟩, 20) := ⟨⟨by decide +kernel, by decide +kernel⟩, List.mem_of_getElem? (i := 608) (by decide +kernel), List.mem_of_getElem? (i := 822) (by decide +kernel), List.mem_of_getElem? (i := 823) (by decide +kernel)⟩
theorem lw_p36 : lw_okq (⟨"PathBookModel", "reaches", "()V"⟩, 20) := ⟨⟨by decide +kernel, by decide +kernel⟩, List.mem_of_getElem? (i := 608) (by decide +kernel), List.mem_of_getElem? (i := 826) (by decide +kernel), List.mem_of_getElem? (i := 827) (by decide +kernel)⟩
theorem lw_p37 : lw_okq (⟨"PathBookModel", "forgets", "()V"⟩, 20) := ⟨⟨by decide +kernel, by decide +kernel⟩, List.mem_of_getElem? (i := 608) (by decide +kernel), List.mem_of_getElem? (i := 830) (by decide +kernel), List.mem_of_getElem? (i := 831) (by decide +kernel)⟩
theorem lw_p38 : lw_okq (⟨"PathBookModel", "comesTo", "(IIII)V"⟩, 20) := ⟨⟨by decide +kernel, by decide +kernel⟩, List.mem_of_getElem? (i := 608) (by decide +kernel), List.mem_of_getElem? (i := 834) (by decide +kernel), List.mem_of_getElem? (i := 835) (by decide +kernel)⟩
theorem lw_p39 : lw_okq (⟨"PathBookModel", "spreads", "()V"⟩, 20) := ⟨⟨by decide +kernel, by decide +kernel⟩, List.mem_of_getElem? (i := 608) (by decide +kernel), List.mem_of_getElem? (i := 838) (by decide +kernel), List.mem_of_getElem? (i := 839) (by decide +kernel)⟩
theorem lw_p40 : lw_okq (⟨"PathBookModel", "behind", "(II)I"⟩, 20) := ⟨⟨by decide +kernel, by decide +kernel⟩, List.mem_of_getElem? (i := 608) (by decide +kernel), List.mem_of_getElem? (i := 842) (by decide +kernel), List.mem_of_getElem? (i := 843) (by decide +kernel)⟩
theorem lw_p41 : lw_okq (⟨"PathBookModel", "canTake", "(III)Z"⟩, 20) := ⟨⟨by decide +kernel, by decide +kernel⟩, List.mem_of_getElem? (i := 608) (by decide +kernel), List.mem_of_getElem? (i := 846) (by decide +kernel), List.mem_of_getElem? (i := 847) (by decide +kernel)⟩
theorem lw_p42 : lw_okq (⟨"PathBookModel", "keepsPlaces", "()V"⟩, 20) := ⟨⟨by decide +kernel, by decide +kernel⟩, List.mem_of_getElem? (i := 608) (by decide +kernel), List.mem_of_getElem? (i := 850) (by decide +kernel), List.mem_of_getElem? (i := 851) (by decide +kernel)⟩
theorem lw_p43 : lw_okq (⟨"PathBookModel", "comesAgain", "(I)Z"⟩, 20) := ⟨⟨by decide +kernel, by decide +kernel⟩, List.mem_of_getElem? (i := 608) (by decide +kernel), List.mem_of_getElem? (i := 854) (by decide +kernel), List.mem_of_getElem? (i := 855) (by decide +kernel)⟩
theorem lw_p44 : lw_okq (⟨"PathBookModel", "stuckIn", "(II)I"⟩, 20) := ⟨⟨by decide +kernel, by decide +kernel⟩, List.mem_of_getElem? (i := 608) (by decide +kernel), List.mem_of_getElem? (i := 858) (by decide +kernel), List.mem_of_getElem? (i := 859) (by decide +kernel)⟩
theorem lw_p45 : lw_okq (⟨"PathBookModel", "findsEnds", "()V"⟩, 20) := ⟨⟨by decide +kernel, by decide +kernel⟩, List.mem_of_getElem? (i := 608) (by decide +kernel), List.mem_of_getElem? (i := 862) (by decide +kernel), List.mem_of_getElem? (i := 863) (by decide +kernel)⟩
theorem lw_p46 : lw_okq (⟨"PathBookModel", "leadsOn", "(I)Z"⟩, 20) := ⟨⟨by decide +kernel, by decide +kernel⟩, List.mem_of_getElem? (i := 608) (by decide +kernel), List.mem_of_getElem? (i := 866) (by decide +kernel), List.mem_of_getElem? (i := 867) (by decide +kernel)⟩
theorem lw_p47 : lw_okq (⟨"PathBookModel", "fewest", "(I)I"⟩, 20) := ⟨⟨by decide +kernel, by decide +kernel⟩, List.mem_of_getElem? (i := 608) (by decide +kernel), List.mem_of_getElem? (i := 870) (by decide +kernel), List.mem_of_getElem? (i := 871) (by decide +kernel)⟩
def lw_privs_3 : List (MethodName × Nat) := [(⟨"PathBookModel", "mood", "(I)F"⟩, 20), (⟨"PathBookModel", "isEnd", "(I)Z"⟩, 20), (⟨"PathBookModel", "isHappy", "(I)Z"⟩, 20), (⟨"PathBookModel", "placesOf", "(I)I"⟩, 20), (⟨"PathBookModel", "reaches", "()V"⟩, 20), (⟨"PathBookModel", "forgets", "()V"⟩, 20), (⟨"PathBookModel", "comesTo", "(IIII)V"⟩, 20), (⟨"PathBookModel", "spreads", "()V"⟩, 20), (⟨"PathBookModel", "behind", "(II)I"⟩, 20), (⟨"PathBookModel", "canTake", "(III)Z"⟩, 20), (⟨"PathBookModel", "keepsPlaces", "()V"⟩, 20), (⟨"PathBookModel", "comesAgain", "(I)Z"⟩, 20), (⟨"PathBookModel", "stuckIn", "(II)I"⟩, 20), (⟨"PathBookModel", "findsEnds", "()V"⟩, 20), (⟨"PathBookModel", "leadsOn", "(I)Z"⟩, 20), (⟨"PathBookModel", "fewest", "(I)I"⟩, 20)]
theorem lw_r3 : ∀ q ∈ lw_privs_3, lw_okq q := List.forall_mem_cons.mpr ⟨lw_p32, List.forall_mem_cons.mpr ⟨lw_p33, List.forall_mem_cons.mpr ⟨lw_p34, List.forall_mem_cons.mpr ⟨lw_p35, List.forall_mem_cons.mpr ⟨lw_p36, List.forall_mem_cons.mpr ⟨lw_p37, List.forall_mem_cons.mpr ⟨lw_p38, List.forall_mem_cons.mpr ⟨lw_p39, List.forall_mem_cons.mpr ⟨lw_p40, List.forall_mem_cons.mpr ⟨lw_p41, List.forall_mem_cons.mpr ⟨lw_p42, List.forall_mem_cons.mpr ⟨lw_p43, List.forall_mem_cons.mpr ⟨lw_p44, List.forall_mem_cons.mpr ⟨lw_p45, List.forall_mem_cons.mpr ⟨lw_p46, List.forall_mem_cons.mpr ⟨lw_p47, fun _ h => absurd h List.not_mem_nil⟩⟩⟩⟩⟩⟩⟩⟩⟩⟩⟩⟩⟩⟩⟩⟩
theorem lw_p48 : lw_okq (⟨"PathBookModel", "canBeTaken", "(II)I"⟩, 20) := ⟨⟨by decide +kernel, by decide +kernel⟩, List.mem_of_getElem? (i := 608) (by decide +kernel), List.mem_of_getElem? (i := 878) (by decide +kernel), List.mem_of_getElem? (i := 879) (by decide +kernel)⟩
theorem lw_p49 : lw_okq (⟨"PathBookModel", "findsWay", "()Z"⟩, 20) := ⟨⟨by decide +kernel, by decide +kernel⟩, List.mem_of_getElem? (i := 608) (by decide +kernel), List.mem_of_getElem? (i := 886) (by decide +kernel), List.mem_of_getElem? (i := 887) (by decide +kernel)⟩
theorem lw_p50 : lw_okq (⟨"PathBookModel", "choices", "()I"⟩, 20) := ⟨⟨by decide +kernel, by decide +kernel⟩, List.mem_of_getElem? (i := 608) (by decide +kernel), List.mem_of_getElem? (i := 898) (by decide +kernel), List.mem_of_getElem? (i := 899) (by decide +kernel)⟩
theorem lw_p51 : lw_okq (⟨"PathBookModel", "pagesThere", "(I)I"⟩, 20) := ⟨⟨by decide +kernel, by decide +kernel⟩, List.mem_of_getElem? (i := 608) (by decide +kernel), List.mem_of_getElem? (i := 902) (by decide +kernel), List.mem_of_getElem? (i := 903) (by decide +kernel)⟩
theorem lw_p52 : lw_okq (⟨"PathBookModel", "again", "()I"⟩, 20) := ⟨⟨by decide +kernel, by decide +kernel⟩, List.mem_of_getElem? (i := 608) (by decide +kernel), List.mem_of_getElem? (i := 906) (by decide +kernel), List.mem_of_getElem? (i := 907) (by decide +kernel)⟩
theorem lw_p53 : lw_okq (⟨"PathBookModel", "places", "()I"⟩, 20) := ⟨⟨by decide +kernel, by decide +kernel⟩, List.mem_of_getElem? (i := 608) (by decide +kernel), List.mem_of_getElem? (i := 910) (by decide +kernel), List.mem_of_getElem? (i := 911) (by decide +kernel)⟩
theorem lw_p54 : lw_okq (⟨"PathBookModel", "isRight", "()Z"⟩, 20) := ⟨⟨by decide +kernel, by decide +kernel⟩, List.mem_of_getElem? (i := 608) (by decide +kernel), List.mem_of_getElem? (i := 938) (by decide +kernel), List.mem_of_getElem? (i := 939) (by decide +kernel)⟩
theorem lw_p55 : lw_okq (⟨"PathBookModel", "takesChoice", "()V"⟩, 20) := ⟨⟨by decide +kernel, by decide +kernel⟩, List.mem_of_getElem? (i := 608) (by decide +kernel), List.mem_of_getElem? (i := 942) (by decide +kernel), List.mem_of_getElem? (i := 943) (by decide +kernel)⟩
theorem lw_p56 : lw_okq (⟨"PathBookModel", "number", "()I"⟩, 20) := ⟨⟨by decide +kernel, by decide +kernel⟩, List.mem_of_getElem? (i := 608) (by decide +kernel), List.mem_of_getElem? (i := 946) (by decide +kernel), List.mem_of_getElem? (i := 947) (by decide +kernel)⟩
theorem lw_p57 : lw_okq (⟨"PathBookModel", "here", "()I"⟩, 20) := ⟨⟨by decide +kernel, by decide +kernel⟩, List.mem_of_getElem? (i := 608) (by decide +kernel), List.mem_of_getElem? (i := 950) (by decide +kernel), List.mem_of_getElem? (i := 951) (by decide +kernel)⟩
theorem lw_p58 : lw_okq (⟨"PathBookModel", "takes", "(Z)V"⟩, 20) := ⟨⟨by decide +kernel, by decide +kernel⟩, List.mem_of_getElem? (i := 608) (by decide +kernel), List.mem_of_getElem? (i := 954) (by decide +kernel), List.mem_of_getElem? (i := 955) (by decide +kernel)⟩
theorem lw_p59 : lw_okq (⟨"PathBookModel", "flags", "(I)I"⟩, 20) := ⟨⟨by decide +kernel, by decide +kernel⟩, List.mem_of_getElem? (i := 608) (by decide +kernel), List.mem_of_getElem? (i := 958) (by decide +kernel), List.mem_of_getElem? (i := 959) (by decide +kernel)⟩
theorem lw_p60 : lw_okq (⟨"PathBookModel", "whyNotAll", "()I"⟩, 20) := ⟨⟨by decide +kernel, by decide +kernel⟩, List.mem_of_getElem? (i := 608) (by decide +kernel), List.mem_of_getElem? (i := 962) (by decide +kernel), List.mem_of_getElem? (i := 963) (by decide +kernel)⟩
def lw_privs_4 : List (MethodName × Nat) := [(⟨"PathBookModel", "canBeTaken", "(II)I"⟩, 20), (⟨"PathBookModel", "findsWay", "()Z"⟩, 20), (⟨"PathBookModel", "choices", "()I"⟩, 20), (⟨"PathBookModel", "pagesThere", "(I)I"⟩, 20), (⟨"PathBookModel", "again", "()I"⟩, 20), (⟨"PathBookModel", "places", "()I"⟩, 20), (⟨"PathBookModel", "isRight", "()Z"⟩, 20), (⟨"PathBookModel", "takesChoice", "()V"⟩, 20), (⟨"PathBookModel", "number", "()I"⟩, 20), (⟨"PathBookModel", "here", "()I"⟩, 20), (⟨"PathBookModel", "takes", "(Z)V"⟩, 20), (⟨"PathBookModel", "flags", "(I)I"⟩, 20), (⟨"PathBookModel", "whyNotAll", "()I"⟩, 20)]
theorem lw_r4 : ∀ q ∈ lw_privs_4, lw_okq q := List.forall_mem_cons.mpr ⟨lw_p48, List.forall_mem_cons.mpr ⟨lw_p49, List.forall_mem_cons.mpr ⟨lw_p50, List.forall_mem_cons.mpr ⟨lw_p51, List.forall_mem_cons.mpr ⟨lw_p52, List.forall_mem_cons.mpr ⟨lw_p53, List.forall_mem_cons.mpr ⟨lw_p54, List.forall_mem_cons.mpr ⟨lw_p55, List.forall_mem_cons.mpr ⟨lw_p56, List.forall_mem_cons.mpr ⟨lw_p57, List.forall_mem_cons.mpr ⟨lw_p58, List.forall_mem_cons.mpr ⟨lw_p59, List.forall_mem_cons.mpr ⟨lw_p60, fun _ h => absurd h List.not_mem_nil⟩⟩⟩⟩⟩⟩⟩⟩⟩⟩⟩⟩⟩
def lw_privs : List (MethodName × Nat) := lw_privs_1 ++ (lw_privs_2 ++ (lw_privs_3 ++ (lw_privs_4)))
def lw_tbl : List Cond := k2_sels lw_privs ++ tables_1
theorem lw_privs_ok : ∀ q ∈ lw_privs, lw_okq q := by
  show ∀ q ∈ lw_privs_1 ++ (lw_privs_2 ++ (lw_privs_3 ++ (lw_privs_4))), lw_okq q
  exact List.forall_mem_append.mpr ⟨lw_r1, List.forall_mem_append.mpr ⟨lw_r2, List.forall_mem_append.mpr ⟨lw_r3, lw_r4⟩⟩⟩
/-- the streams that the claim lets the run draw from -/
abbrev lw_cs : List Choice := [Jvm.Choice.named "NaN.bits"]
theorem lw_bits : nanBits ∈ lw_cs := by first | decide | exact List.mem_cons_self | simp [lw_cs, nanBits]
/-! ===== BEGIN words of one list among another's, by their places ===== -/
theorem goodIn_r {big : List Cond} (ws : List Cond) (ps : List Nat) (hp : ws = ps.filterMap (fun i => big[i]?)) (h : ws.all goodWord = true) : GoodIn big ws := by
  intro w hw
  have h1 := List.all_eq_true.mp h w hw
  rw [hp] at hw
  obtain ⟨i, -, hi⟩ := List.mem_filterMap.mp hw
  have hm : w ∈ big := by first | exact List.mem_of_getElem? hi | exact List.getElem?_mem hi
  exact ⟨hm, good_of_word h1⟩
theorem goodIn_app {big a b : List Cond} (ha : GoodIn big a) (hb : GoodIn big b) : GoodIn big (a ++ b) := fun w h => (List.mem_append.mp h).elim (ha w) (hb w)
theorem goodIn_ca {big a b : List Cond} {c : Cond} (ha : GoodIn big (c :: a)) (hb : GoodIn big b) : GoodIn big (c :: (a ++ b)) := fun w h => (List.mem_cons.mp h).elim (fun e => ha w (List.mem_cons.mpr (Or.inl e))) (fun h => (List.mem_append.mp h).elim (fun h => ha w (List.mem_cons.mpr (Or.inr h))) (hb w))
theorem goodIn_sub {big ws : List Cond} (hm : ∀ w ∈ ws, w ∈ big) (h : ws.all goodWord = true) : GoodIn big ws := fun w hw => ⟨hm w hw, good_of_word (List.all_eq_true.mp h w hw)⟩
/-! ===== END ===== -/

/-! ===== BEGIN printed: names, fields, word lists, decode rows ===== -/
def RX0 : String := "PathBook$History"
def TX0 : u_T := fun k => match k with
  | 0 => ("PathBook$History", "ring", "[LPathBook$State;", true)
  | 1 => ("PathBook$History", "next", "I", false)
  | _ => ("PathBook$History", "size", "I", false)
def tyX0 : Nat → FieldType := fun k => match k with
  | 0 => .array (.object "PathBook$State")
  | 1 => .int
  | _ => .int
abbrev wsX00 : List Cond := u_ws RX0 TX0 3
theorem nmX0 : ∀ a, a < 3 → ∀ b, b < 3 → a ≠ b → (TX0 a).2.1 ≠ (TX0 b).2.1 := by decide +kernel
theorem tyX0_ok : ∀ k, k < 3 → parseFieldDescriptor (TX0 k).2.2.1 = some (tyX0 k) := by decide +kernel
abbrev cX0_init : ByteArray := prog_2_method_1_code
def yX0_init : MethodName := ⟨RX0, "<init>", "()V"⟩
abbrev cX0_push : ByteArray := prog_2_method_2_code
def yX0_push : MethodName := ⟨RX0, "push", "(LPathBook$State;)V"⟩
abbrev cX0_pop : ByteArray := prog_2_method_3_code
def yX0_pop : MethodName := ⟨RX0, "pop", "(LPathBook$State;)V"⟩
abbrev cX0_stateAt : ByteArray := prog_2_method_4_code
def yX0_stateAt : MethodName := ⟨RX0, "stateAt", "(I)LPathBook$State;"⟩
def RX1 : String := "PathBook$Row"
def TX1 : u_T := fun k => match k with
  | _ => ("PathBook$Row", "cells", "[I", true)
def tyX1 : Nat → FieldType := fun k => match k with
  | _ => .array .int
abbrev wsX10 : List Cond := u_ws RX1 TX1 1
theorem nmX1 : ∀ a, a < 1 → ∀ b, b < 1 → a ≠ b → (TX1 a).2.1 ≠ (TX1 b).2.1 := by decide +kernel
theorem tyX1_ok : ∀ k, k < 1 → parseFieldDescriptor (TX1 k).2.2.1 = some (tyX1 k) := by decide +kernel
abbrev cX1_init : ByteArray := prog_3_method_1_code
def yX1_init : MethodName := ⟨RX1, "<init>", "(I)V"⟩
abbrev cX1_at : ByteArray := prog_3_method_2_code
def yX1_at : MethodName := ⟨RX1, "at", "(I)I"⟩
abbrev cX1_put : ByteArray := prog_3_method_3_code
def yX1_put : MethodName := ⟨RX1, "put", "(II)V"⟩
abbrev cX1_fill : ByteArray := prog_3_method_4_code
def yX1_fill : MethodName := ⟨RX1, "fill", "(I)V"⟩
abbrev cX1_swap : ByteArray := prog_3_method_5_code
def yX1_swap : MethodName := ⟨RX1, "swap", "(II)V"⟩
abbrev cX1_copyFrom : ByteArray := prog_3_method_6_code
def yX1_copyFrom : MethodName := ⟨RX1, "copyFrom", "(LPathBook$Row;)V"⟩
def RX2 : String := "PathBook$State"
def TX2 : u_T := fun k => match k with
  | 0 => ("PathBook$State", "pages", "I", false)
  | 1 => ("PathBook$State", "tenths", "LPathBook$Row;", true)
  | 2 => ("PathBook$State", "sets", "LPathBook$Row;", true)
  | 3 => ("PathBook$State", "takes", "LPathBook$Row;", true)
  | 4 => ("PathBook$State", "sizes", "LPathBook$Row;", true)
  | 5 => ("PathBook$State", "to", "LPathBook$Row;", true)
  | 6 => ("PathBook$State", "needs", "LPathBook$Row;", true)
  | 7 => ("PathBook$State", "bars", "LPathBook$Row;", true)
  | 8 => ("PathBook$State", "places", "LPathBook$Row;", true)
  | 9 => ("PathBook$State", "taken", "LPathBook$Row;", true)
  | _ => ("PathBook$State", "bookmark", "I", false)
def tyX2 : Nat → FieldType := fun k => match k with
  | 0 => .int
  | 1 => .object "PathBook$Row"
  | 2 => .object "PathBook$Row"
  | 3 => .object "PathBook$Row"
  | 4 => .object "PathBook$Row"
  | 5 => .object "PathBook$Row"
  | 6 => .object "PathBook$Row"
  | 7 => .object "PathBook$Row"
  | 8 => .object "PathBook$Row"
  | 9 => .object "PathBook$Row"
  | _ => .int
abbrev wsX20 : List Cond := u_ws RX2 TX2 11
theorem nmX2 : ∀ a, a < 11 → ∀ b, b < 11 → a ≠ b → (TX2 a).2.1 ≠ (TX2 b).2.1 := by decide +kernel
theorem tyX2_ok : ∀ k, k < 11 → parseFieldDescriptor (TX2 k).2.2.1 = some (tyX2 k) := by decide +kernel
abbrev cX2_init : ByteArray := prog_4_method_1_code
def yX2_init : MethodName := ⟨RX2, "<init>", "()V"⟩
abbrev cX2_copyFrom : ByteArray := prog_4_method_2_code
def yX2_copyFrom : MethodName := ⟨RX2, "copyFrom", "(LPathBook$State;)V"⟩
abbrev cX2_hasPage : ByteArray := prog_4_method_3_code
def yX2_hasPage : MethodName := ⟨RX2, "hasPage", "(I)Z"⟩
abbrev cX2_hasChoice : ByteArray := prog_4_method_4_code
def yX2_hasChoice : MethodName := ⟨RX2, "hasChoice", "(II)Z"⟩
abbrev cX2_bindPage : ByteArray := prog_4_method_5_code
def yX2_bindPage : MethodName := ⟨RX2, "bindPage", "(III)I"⟩
abbrev cX2_errorOfChoice : ByteArray := prog_4_method_6_code
def yX2_errorOfChoice : MethodName := ⟨RX2, "errorOfChoice", "(IIII)I"⟩
abbrev cX2_appendChoice : ByteArray := prog_4_method_7_code
def yX2_appendChoice : MethodName := ⟨RX2, "appendChoice", "(IIII)I"⟩
abbrev cX2_removeChoice : ByteArray := prog_4_method_8_code
def yX2_removeChoice : MethodName := ⟨RX2, "removeChoice", "(II)I"⟩
abbrev cX2_swapPages : ByteArray := prog_4_method_9_code
def yX2_swapPages : MethodName := ⟨RX2, "swapPages", "(II)V"⟩
abbrev cX2_renumbered : ByteArray := prog_4_method_10_code
def yX2_renumbered : MethodName := ⟨RX2, "renumbered", "(III)I"⟩
abbrev cX2_moved : ByteArray := prog_4_method_11_code
def yX2_moved : MethodName := ⟨RX2, "moved", "(III)I"⟩
abbrev cX2_allChoices : ByteArray := prog_4_method_12_code
def yX2_allChoices : MethodName := ⟨RX2, "allChoices", "()I"⟩
abbrev cX2_choicesTo : ByteArray := prog_4_method_13_code
def yX2_choicesTo : MethodName := ⟨RX2, "choicesTo", "(I)I"⟩
abbrev cX2_moodOf : ByteArray := prog_4_method_14_code
def yX2_moodOf : MethodName := ⟨RX2, "moodOf", "(I)F"⟩
abbrev cX2_kindOf : ByteArray := prog_4_method_15_code
def yX2_kindOf : MethodName := ⟨RX2, "kindOf", "(I)I"⟩
abbrev cX2_placeComingTo : ByteArray := prog_4_method_16_code
def yX2_placeComingTo : MethodName := ⟨RX2, "placeComingTo", "(II)I"⟩
abbrev cX2_firstPlace : ByteArray := prog_4_method_17_code
def yX2_firstPlace : MethodName := ⟨RX2, "firstPlace", "()I"⟩
abbrev cX2_placeBehind : ByteArray := prog_4_method_18_code
def yX2_placeBehind : MethodName := ⟨RX2, "placeBehind", "(II)I"⟩
abbrev cX2_reasonAt : ByteArray := prog_4_method_19_code
def yX2_reasonAt : MethodName := ⟨RX2, "reasonAt", "(II)I"⟩
abbrev cX2_reasonAgainst : ByteArray := prog_4_method_20_code
def yX2_reasonAgainst : MethodName := ⟨RX2, "reasonAgainst", "(II)I"⟩
abbrev cX2_openChoices : ByteArray := prog_4_method_21_code
def yX2_openChoices : MethodName := ⟨RX2, "openChoices", "(I)I"⟩
abbrev cX2_putReader : ByteArray := prog_4_method_22_code
def yX2_putReader : MethodName := ⟨RX2, "putReader", "(III)V"⟩
def RX3 : String := "PathBook$Survey"
def TX3 : u_T := fun k => match k with
  | 0 => ("PathBook$Survey", "known", "Z", false)
  | 1 => ("PathBook$Survey", "pages", "I", false)
  | 2 => ("PathBook$Survey", "found", "I", false)
  | 3 => ("PathBook$Survey", "order", "LPathBook$Row;", true)
  | 4 => ("PathBook$Survey", "distance", "LPathBook$Row;", true)
  | 5 => ("PathBook$Survey", "before", "LPathBook$Row;", true)
  | 6 => ("PathBook$Survey", "by", "LPathBook$Row;", true)
  | 7 => ("PathBook$Survey", "ahead", "LPathBook$Row;", true)
  | 8 => ("PathBook$Survey", "ends", "I", false)
  | 9 => ("PathBook$Survey", "happyEnds", "I", false)
  | 10 => ("PathBook$Survey", "wayLength", "I", false)
  | _ => ("PathBook$Survey", "way", "LPathBook$Row;", true)
def tyX3 : Nat → FieldType := fun k => match k with
  | 0 => .boolean
  | 1 => .int
  | 2 => .int
  | 3 => .object "PathBook$Row"
  | 4 => .object "PathBook$Row"
  | 5 => .object "PathBook$Row"
  | 6 => .object "PathBook$Row"
  | 7 => .object "PathBook$Row"
  | 8 => .int
  | 9 => .int
  | 10 => .int
  | _ => .object "PathBook$Row"
abbrev wsX30 : List Cond := u_ws RX3 TX3 12
theorem nmX3 : ∀ a, a < 12 → ∀ b, b < 12 → a ≠ b → (TX3 a).2.1 ≠ (TX3 b).2.1 := by decide +kernel
theorem tyX3_ok : ∀ k, k < 12 → parseFieldDescriptor (TX3 k).2.2.1 = some (tyX3 k) := by decide +kernel
abbrev cX3_init : ByteArray := prog_5_method_1_code
def yX3_init : MethodName := ⟨RX3, "<init>", "()V"⟩
abbrev cX3_make : ByteArray := prog_5_method_2_code
def yX3_make : MethodName := ⟨RX3, "make", "(LPathBook$State;)V"⟩
abbrev cX3_findPlaces : ByteArray := prog_5_method_3_code
def yX3_findPlaces : MethodName := ⟨RX3, "findPlaces", "(LPathBook$State;)V"⟩
abbrev cX3_addPlace : ByteArray := prog_5_method_4_code
def yX3_addPlace : MethodName := ⟨RX3, "addPlace", "(IIII)V"⟩
abbrev cX3_findAhead : ByteArray := prog_5_method_5_code
def yX3_findAhead : MethodName := ⟨RX3, "findAhead", "(LPathBook$State;)V"⟩
abbrev cX3_growAhead : ByteArray := prog_5_method_6_code
def yX3_growAhead : MethodName := ⟨RX3, "growAhead", "(LPathBook$State;)Z"⟩
abbrev cX3_findEnds : ByteArray := prog_5_method_7_code
def yX3_findEnds : MethodName := ⟨RX3, "findEnds", "(LPathBook$State;)V"⟩
abbrev cX3_findWay : ByteArray := prog_5_method_8_code
def yX3_findWay : MethodName := ⟨RX3, "findWay", "()V"⟩
abbrev cX3_layWay : ByteArray := prog_5_method_9_code
def yX3_layWay : MethodName := ⟨RX3, "layWay", "(I)V"⟩
abbrev cX3_choiceOnWay : ByteArray := prog_5_method_10_code
def yX3_choiceOnWay : MethodName := ⟨RX3, "choiceOnWay", "(I)I"⟩
abbrev cX3_isIn : ByteArray := prog_5_method_11_code
def yX3_isIn : MethodName := ⟨RX3, "isIn", "(II)Z"⟩
abbrev cX3_isReached : ByteArray := prog_5_method_12_code
def yX3_isReached : MethodName := ⟨RX3, "isReached", "(I)Z"⟩
abbrev cX3_isStuck : ByteArray := prog_5_method_13_code
def yX3_isStuck : MethodName := ⟨RX3, "isStuck", "(I)Z"⟩
abbrev cX3_placesWith : ByteArray := prog_5_method_14_code
def yX3_placesWith : MethodName := ⟨RX3, "placesWith", "(I)I"⟩
abbrev cX3_isDead : ByteArray := prog_5_method_15_code
def yX3_isDead : MethodName := ⟨RX3, "isDead", "(I)Z"⟩
abbrev cX3_comesAgain : ByteArray := prog_5_method_16_code
def yX3_comesAgain : MethodName := ⟨RX3, "comesAgain", "(I)Z"⟩
abbrev cX3_stuckPlacesWith : ByteArray := prog_5_method_17_code
def yX3_stuckPlacesWith : MethodName := ⟨RX3, "stuckPlacesWith", "(I)I"⟩
abbrev cX3_fewestChoicesTo : ByteArray := prog_5_method_18_code
def yX3_fewestChoicesTo : MethodName := ⟨RX3, "fewestChoicesTo", "(I)I"⟩
abbrev cX3_deadPages : ByteArray := prog_5_method_19_code
def yX3_deadPages : MethodName := ⟨RX3, "deadPages", "()I"⟩
abbrev cX3_pagesThatComeAgain : ByteArray := prog_5_method_20_code
def yX3_pagesThatComeAgain : MethodName := ⟨RX3, "pagesThatComeAgain", "()I"⟩
abbrev cX3_stuckPlaces : ByteArray := prog_5_method_21_code
def yX3_stuckPlaces : MethodName := ⟨RX3, "stuckPlaces", "()I"⟩
abbrev cX3_livePagesOf : ByteArray := prog_5_method_22_code
def yX3_livePagesOf : MethodName := ⟨RX3, "livePagesOf", "(I)I"⟩
abbrev cX3_isEverOpen : ByteArray := prog_5_method_23_code
def yX3_isEverOpen : MethodName := ⟨RX3, "isEverOpen", "(LPathBook$State;II)Z"⟩
def RX4 : String := "PathBook$Text"
def TX4 : u_T := fun k => match k with
  | 0 => ("PathBook$Text", "signs", "LPathBook$Row;", true)
  | 1 => ("PathBook$Text", "length", "I", false)
  | 2 => ("PathBook$Text", "at", "I", false)
  | 3 => ("PathBook$Text", "sound", "Z", false)
  | 4 => ("PathBook$Text", "choices", "I", false)
  | 5 => ("PathBook$Text", "from", "LPathBook$Row;", true)
  | 6 => ("PathBook$Text", "to", "LPathBook$Row;", true)
  | 7 => ("PathBook$Text", "needs", "LPathBook$Row;", true)
  | _ => ("PathBook$Text", "bars", "LPathBook$Row;", true)
def tyX4 : Nat → FieldType := fun k => match k with
  | 0 => .object "PathBook$Row"
  | 1 => .int
  | 2 => .int
  | 3 => .boolean
  | 4 => .int
  | 5 => .object "PathBook$Row"
  | 6 => .object "PathBook$Row"
  | 7 => .object "PathBook$Row"
  | _ => .object "PathBook$Row"
abbrev wsX40 : List Cond := u_ws RX4 TX4 9
theorem nmX4 : ∀ a, a < 9 → ∀ b, b < 9 → a ≠ b → (TX4 a).2.1 ≠ (TX4 b).2.1 := by decide +kernel
theorem tyX4_ok : ∀ k, k < 9 → parseFieldDescriptor (TX4 k).2.2.1 = some (tyX4 k) := by decide +kernel
abbrev cX4_init : ByteArray := prog_6_method_1_code
def yX4_init : MethodName := ⟨RX4, "<init>", "()V"⟩
abbrev cX4_append : ByteArray := prog_6_method_2_code
def yX4_append : MethodName := ⟨RX4, "append", "(C)I"⟩
abbrev cX4_parse : ByteArray := prog_6_method_3_code
def yX4_parse : MethodName := ⟨RX4, "parse", "()Z"⟩
abbrev cX4_sign : ByteArray := prog_6_method_4_code
def yX4_sign : MethodName := ⟨RX4, "sign", "()I"⟩
abbrev cX4_parseChoice : ByteArray := prog_6_method_5_code
def yX4_parseChoice : MethodName := ⟨RX4, "parseChoice", "()V"⟩
abbrev cX4_parseNumber : ByteArray := prog_6_method_6_code
def yX4_parseNumber : MethodName := ⟨RX4, "parseNumber", "()I"⟩
abbrev cX4_parseArrow : ByteArray := prog_6_method_7_code
def yX4_parseArrow : MethodName := ⟨RX4, "parseArrow", "()V"⟩
abbrev cX4_parseFlags : ByteArray := prog_6_method_8_code
def yX4_parseFlags : MethodName := ⟨RX4, "parseFlags", "(C)I"⟩
abbrev cX4_isDigit : ByteArray := prog_6_method_9_code
def yX4_isDigit : MethodName := ⟨RX4, "isDigit", "(I)Z"⟩
def RX5 : String := "PathBook"
def TX5 : u_T := fun k => match k with
  | 0 => ("PathBook", "now", "LPathBook$State;", true)
  | 1 => ("PathBook", "draft", "LPathBook$State;", true)
  | 2 => ("PathBook", "snapshot", "LPathBook$State;", true)
  | 3 => ("PathBook", "hasSnapshot", "Z", false)
  | 4 => ("PathBook", "history", "LPathBook$History;", true)
  | 5 => ("PathBook", "text", "LPathBook$Text;", true)
  | _ => ("PathBook", "survey", "LPathBook$Survey;", true)
def tyX5 : Nat → FieldType := fun k => match k with
  | 0 => .object "PathBook$State"
  | 1 => .object "PathBook$State"
  | 2 => .object "PathBook$State"
  | 3 => .boolean
  | 4 => .object "PathBook$History"
  | 5 => .object "PathBook$Text"
  | _ => .object "PathBook$Survey"
abbrev wsX50 : List Cond := u_ws RX5 TX5 7
theorem nmX5 : ∀ a, a < 7 → ∀ b, b < 7 → a ≠ b → (TX5 a).2.1 ≠ (TX5 b).2.1 := by decide +kernel
theorem tyX5_ok : ∀ k, k < 7 → parseFieldDescriptor (TX5 k).2.2.1 = some (tyX5 k) := by decide +kernel
abbrev cX5_init : ByteArray := prog_1_method_1_code
def yX5_init : MethodName := ⟨RX5, "<init>", "()V"⟩
abbrev cX5_addPage : ByteArray := prog_1_method_2_code
def yX5_addPage : MethodName := ⟨RX5, "addPage", "(III)I"⟩
abbrev cX5_setMood : ByteArray := prog_1_method_3_code
def yX5_setMood : MethodName := ⟨RX5, "setMood", "(II)I"⟩
abbrev cX5_addChoice : ByteArray := prog_1_method_4_code
def yX5_addChoice : MethodName := ⟨RX5, "addChoice", "(IIII)I"⟩
abbrev cX5_addChoices : ByteArray := prog_1_method_5_code
def yX5_addChoices : MethodName := ⟨RX5, "addChoices", "()I"⟩
abbrev cX5_takeChoice : ByteArray := prog_1_method_6_code
def yX5_takeChoice : MethodName := ⟨RX5, "takeChoice", "(II)I"⟩
abbrev cX5_exchange : ByteArray := prog_1_method_7_code
def yX5_exchange : MethodName := ⟨RX5, "exchange", "(II)I"⟩
abbrev cX5_begin : ByteArray := prog_1_method_8_code
def yX5_begin : MethodName := ⟨RX5, "begin", "(I)I"⟩
abbrev cX5_choose : ByteArray := prog_1_method_9_code
def yX5_choose : MethodName := ⟨RX5, "choose", "(II)I"⟩
abbrev cX5_mark : ByteArray := prog_1_method_10_code
def yX5_mark : MethodName := ⟨RX5, "mark", "(I)I"⟩
abbrev cX5_goToMark : ByteArray := prog_1_method_11_code
def yX5_goToMark : MethodName := ⟨RX5, "goToMark", "(I)I"⟩
abbrev cX5_type : ByteArray := prog_1_method_12_code
def yX5_type : MethodName := ⟨RX5, "type", "(C)I"⟩
abbrev cX5_clearText : ByteArray := prog_1_method_13_code
def yX5_clearText : MethodName := ⟨RX5, "clearText", "()I"⟩
abbrev cX5_undo : ByteArray := prog_1_method_14_code
def yX5_undo : MethodName := ⟨RX5, "undo", "()I"⟩
abbrev cX5_keep : ByteArray := prog_1_method_15_code
def yX5_keep : MethodName := ⟨RX5, "keep", "()I"⟩
abbrev cX5_restore : ByteArray := prog_1_method_16_code
def yX5_restore : MethodName := ⟨RX5, "restore", "()I"⟩
abbrev cX5_page : ByteArray := prog_1_method_17_code
def yX5_page : MethodName := ⟨RX5, "page", "(II)I"⟩
abbrev cX5_choice : ByteArray := prog_1_method_18_code
def yX5_choice : MethodName := ⟨RX5, "choice", "(III)I"⟩
abbrev cX5_reader : ByteArray := prog_1_method_19_code
def yX5_reader : MethodName := ⟨RX5, "reader", "(II)I"⟩
abbrev cX5_why : ByteArray := prog_1_method_20_code
def yX5_why : MethodName := ⟨RX5, "why", "(II)I"⟩
abbrev cX5_way : ByteArray := prog_1_method_21_code
def yX5_way : MethodName := ⟨RX5, "way", "(II)I"⟩
abbrev cX5_wayMood : ByteArray := prog_1_method_22_code
def yX5_wayMood : MethodName := ⟨RX5, "wayMood", "()I"⟩
abbrev cX5_count : ByteArray := prog_1_method_23_code
def yX5_count : MethodName := ⟨RX5, "count", "(I)I"⟩
abbrev cX5_record : ByteArray := prog_1_method_24_code
def yX5_record : MethodName := ⟨RX5, "record", "()V"⟩
abbrev cX5_surveyed : ByteArray := prog_1_method_25_code
def yX5_surveyed : MethodName := ⟨RX5, "surveyed", "()LPathBook$Survey;"⟩
abbrev cX5_isMood : ByteArray := prog_1_method_26_code
def yX5_isMood : MethodName := ⟨RX5, "isMood", "(I)Z"⟩
abbrev cX5_isFlagSet : ByteArray := prog_1_method_27_code
def yX5_isFlagSet : MethodName := ⟨RX5, "isFlagSet", "(I)Z"⟩
abbrev cX5_isReader : ByteArray := prog_1_method_28_code
def yX5_isReader : MethodName := ⟨RX5, "isReader", "(I)Z"⟩
abbrev cX5_isChoiceNumber : ByteArray := prog_1_method_29_code
def yX5_isChoiceNumber : MethodName := ⟨RX5, "isChoiceNumber", "(I)Z"⟩
abbrev cX5_oneIf : ByteArray := prog_1_method_30_code
def yX5_oneIf : MethodName := ⟨RX5, "oneIf", "(Z)I"⟩
abbrev cX5_slotOf : ByteArray := prog_1_method_31_code
def yX5_slotOf : MethodName := ⟨RX5, "slotOf", "(II)I"⟩
abbrev cX5_placeOf : ByteArray := prog_1_method_32_code
def yX5_placeOf : MethodName := ⟨RX5, "placeOf", "(II)I"⟩
abbrev cX5_pageAt : ByteArray := prog_1_method_33_code
def yX5_pageAt : MethodName := ⟨RX5, "pageAt", "(I)I"⟩
abbrev cX5_flagsAt : ByteArray := prog_1_method_34_code
def yX5_flagsAt : MethodName := ⟨RX5, "flagsAt", "(I)I"⟩
abbrev cX5_bitsOf : ByteArray := prog_1_method_35_code
def yX5_bitsOf : MethodName := ⟨RX5, "bitsOf", "(F)I"⟩
def RX6 : String := "PathBookModel"
def TX6 : u_T := fun k => match k with
  | 0 => ("PathBookModel", "s", "[I", true)
  | 1 => ("PathBookModel", "slot", "[I", true)
  | 2 => ("PathBookModel", "isKept", "Z", false)
  | 3 => ("PathBookModel", "past", "[I", true)
  | 4 => ("PathBookModel", "states", "I", false)
  | 5 => ("PathBookModel", "text", "[I", true)
  | 6 => ("PathBookModel", "length", "I", false)
  | 7 => ("PathBookModel", "away", "[I", true)
  | 8 => ("PathBookModel", "from", "[I", true)
  | 9 => ("PathBookModel", "by", "[I", true)
  | 10 => ("PathBookModel", "queue", "[I", true)
  | 11 => ("PathBookModel", "queued", "I", false)
  | 12 => ("PathBookModel", "there", "[I", true)
  | 13 => ("PathBookModel", "canEnd", "[I", true)
  | 14 => ("PathBookModel", "steps", "[I", true)
  | 15 => ("PathBookModel", "wayLong", "I", false)
  | 16 => ("PathBookModel", "spot", "I", false)
  | 17 => ("PathBookModel", "isForm", "Z", false)
  | 18 => ("PathBookModel", "list", "[I", true)
  | _ => ("PathBookModel", "listed", "I", false)
def tyX6 : Nat → FieldType := fun k => match k with
  | 0 => .array .int
  | 1 => .array .int
  | 2 => .boolean
  | 3 => .array .int
  | 4 => .int
  | 5 => .array .int
  | 6 => .int
  | 7 => .array .int
  | 8 => .array .int
  | 9 => .array .int
  | 10 => .array .int
  | 11 => .int
  | 12 => .array .int
  | 13 => .array .int
  | 14 => .array .int
  | 15 => .int
  | 16 => .int
  | 17 => .boolean
  | 18 => .array .int
  | _ => .int
abbrev wsX60 : List Cond := u_ws RX6 TX6 20
theorem nmX6 : ∀ a, a < 20 → ∀ b, b < 20 → a ≠ b → (TX6 a).2.1 ≠ (TX6 b).2.1 := by decide +kernel
theorem tyX6_ok : ∀ k, k < 20 → parseFieldDescriptor (TX6 k).2.2.1 = some (tyX6 k) := by decide +kernel
abbrev cX6_init : ByteArray := prog_8_method_1_code
def yX6_init : MethodName := ⟨RX6, "<init>", "()V"⟩
abbrev cX6_in : ByteArray := prog_8_method_3_code
def yX6_in : MethodName := ⟨RX6, "in", "(III)Z"⟩
abbrev cX6_records : ByteArray := prog_8_method_4_code
def yX6_records : MethodName := ⟨RX6, "records", "()V"⟩
abbrev cX6_isPage : ByteArray := prog_8_method_5_code
def yX6_isPage : MethodName := ⟨RX6, "isPage", "(I)Z"⟩
abbrev cX6_isChoice : ByteArray := prog_8_method_6_code
def yX6_isChoice : MethodName := ⟨RX6, "isChoice", "(II)Z"⟩
abbrev cX6_of : ByteArray := prog_8_method_7_code
def yX6_of : MethodName := ⟨RX6, "of", "(II)I"⟩
abbrev cX6_ofChoice : ByteArray := prog_8_method_8_code
def yX6_ofChoice : MethodName := ⟨RX6, "ofChoice", "(III)I"⟩
abbrev cX6_canTake : ByteArray := prog_8_method_9_code
def yX6_canTake : MethodName := ⟨RX6, "canTake", "(III)Z"⟩
abbrev cX6_coming : ByteArray := prog_8_method_10_code
def yX6_coming : MethodName := ⟨RX6, "coming", "(II)I"⟩
abbrev cX6_isEnd : ByteArray := prog_8_method_11_code
def yX6_isEnd : MethodName := ⟨RX6, "isEnd", "(I)Z"⟩
abbrev cX6_isHappy : ByteArray := prog_8_method_12_code
def yX6_isHappy : MethodName := ⟨RX6, "isHappy", "(I)Z"⟩
abbrev cX6_mood : ByteArray := prog_8_method_13_code
def yX6_mood : MethodName := ⟨RX6, "mood", "(I)F"⟩
abbrev cX6_behind : ByteArray := prog_8_method_14_code
def yX6_behind : MethodName := ⟨RX6, "behind", "(II)I"⟩
abbrev cX6_forgets : ByteArray := prog_8_method_15_code
def yX6_forgets : MethodName := ⟨RX6, "forgets", "()V"⟩
abbrev cX6_comesTo : ByteArray := prog_8_method_16_code
def yX6_comesTo : MethodName := ⟨RX6, "comesTo", "(IIII)V"⟩
abbrev cX6_spreads : ByteArray := prog_8_method_17_code
def yX6_spreads : MethodName := ⟨RX6, "spreads", "()V"⟩
abbrev cX6_firstPlace : ByteArray := prog_8_method_18_code
def yX6_firstPlace : MethodName := ⟨RX6, "firstPlace", "()I"⟩
abbrev cX6_reaches : ByteArray := prog_8_method_19_code
def yX6_reaches : MethodName := ⟨RX6, "reaches", "()V"⟩
abbrev cX6_keepsPlaces : ByteArray := prog_8_method_20_code
def yX6_keepsPlaces : MethodName := ⟨RX6, "keepsPlaces", "()V"⟩
abbrev cX6_placesOf : ByteArray := prog_8_method_21_code
def yX6_placesOf : MethodName := ⟨RX6, "placesOf", "(I)I"⟩
abbrev cX6_fewest : ByteArray := prog_8_method_22_code
def yX6_fewest : MethodName := ⟨RX6, "fewest", "(I)I"⟩
abbrev cX6_comesAgain : ByteArray := prog_8_method_23_code
def yX6_comesAgain : MethodName := ⟨RX6, "comesAgain", "(I)Z"⟩
abbrev cX6_leadsOn : ByteArray := prog_8_method_24_code
def yX6_leadsOn : MethodName := ⟨RX6, "leadsOn", "(I)Z"⟩
abbrev cX6_findsEnds : ByteArray := prog_8_method_25_code
def yX6_findsEnds : MethodName := ⟨RX6, "findsEnds", "()V"⟩
abbrev cX6_stuckIn : ByteArray := prog_8_method_26_code
def yX6_stuckIn : MethodName := ⟨RX6, "stuckIn", "(II)I"⟩
abbrev cX6_isTenths : ByteArray := prog_8_method_27_code
def yX6_isTenths : MethodName := ⟨RX6, "isTenths", "(I)Z"⟩
abbrev cX6_areFlags : ByteArray := prog_8_method_28_code
def yX6_areFlags : MethodName := ⟨RX6, "areFlags", "(I)Z"⟩
abbrev cX6_addPage : ByteArray := prog_8_method_29_code
def yX6_addPage : MethodName := ⟨RX6, "addPage", "(III)I"⟩
abbrev cX6_setMood : ByteArray := prog_8_method_30_code
def yX6_setMood : MethodName := ⟨RX6, "setMood", "(II)I"⟩
abbrev cX6_whyNot : ByteArray := prog_8_method_31_code
def yX6_whyNot : MethodName := ⟨RX6, "whyNot", "(II)I"⟩
abbrev cX6_adds : ByteArray := prog_8_method_32_code
def yX6_adds : MethodName := ⟨RX6, "adds", "(IIII)I"⟩
abbrev cX6_addChoice : ByteArray := prog_8_method_33_code
def yX6_addChoice : MethodName := ⟨RX6, "addChoice", "(IIII)I"⟩
abbrev cX6_takeChoice : ByteArray := prog_8_method_34_code
def yX6_takeChoice : MethodName := ⟨RX6, "takeChoice", "(II)I"⟩
abbrev cX6_other : ByteArray := prog_8_method_35_code
def yX6_other : MethodName := ⟨RX6, "other", "(III)I"⟩
abbrev cX6_leadingTo : ByteArray := prog_8_method_36_code
def yX6_leadingTo : MethodName := ⟨RX6, "leadingTo", "(I)I"⟩
abbrev cX6_exchange : ByteArray := prog_8_method_37_code
def yX6_exchange : MethodName := ⟨RX6, "exchange", "(II)I"⟩
abbrev cX6_isReader : ByteArray := prog_8_method_38_code
def yX6_isReader : MethodName := ⟨RX6, "isReader", "(I)Z"⟩
abbrev cX6_ofReader : ByteArray := prog_8_method_39_code
def yX6_ofReader : MethodName := ⟨RX6, "ofReader", "(II)I"⟩
abbrev cX6_goes : ByteArray := prog_8_method_40_code
def yX6_goes : MethodName := ⟨RX6, "goes", "(IIII)V"⟩
abbrev cX6_begin : ByteArray := prog_8_method_41_code
def yX6_begin : MethodName := ⟨RX6, "begin", "(I)I"⟩
abbrev cX6_reason : ByteArray := prog_8_method_42_code
def yX6_reason : MethodName := ⟨RX6, "reason", "(II)I"⟩
abbrev cX6_why : ByteArray := prog_8_method_43_code
def yX6_why : MethodName := ⟨RX6, "why", "(II)I"⟩
abbrev cX6_choose : ByteArray := prog_8_method_44_code
def yX6_choose : MethodName := ⟨RX6, "choose", "(II)I"⟩
abbrev cX6_isMarked : ByteArray := prog_8_method_45_code
def yX6_isMarked : MethodName := ⟨RX6, "isMarked", "(I)Z"⟩
abbrev cX6_mark : ByteArray := prog_8_method_46_code
def yX6_mark : MethodName := ⟨RX6, "mark", "(I)I"⟩
abbrev cX6_goToMark : ByteArray := prog_8_method_47_code
def yX6_goToMark : MethodName := ⟨RX6, "goToMark", "(I)I"⟩
abbrev cX6_choicesNow : ByteArray := prog_8_method_48_code
def yX6_choicesNow : MethodName := ⟨RX6, "choicesNow", "(I)I"⟩
abbrev cX6_reader : ByteArray := prog_8_method_49_code
def yX6_reader : MethodName := ⟨RX6, "reader", "(II)I"⟩
abbrev cX6_page : ByteArray := prog_8_method_50_code
def yX6_page : MethodName := ⟨RX6, "page", "(II)I"⟩
abbrev cX6_canBeTaken : ByteArray := prog_8_method_51_code
def yX6_canBeTaken : MethodName := ⟨RX6, "canBeTaken", "(II)I"⟩
abbrev cX6_choice : ByteArray := prog_8_method_52_code
def yX6_choice : MethodName := ⟨RX6, "choice", "(III)I"⟩
abbrev cX6_findsWay : ByteArray := prog_8_method_53_code
def yX6_findsWay : MethodName := ⟨RX6, "findsWay", "()Z"⟩
abbrev cX6_way : ByteArray := prog_8_method_54_code
def yX6_way : MethodName := ⟨RX6, "way", "(II)I"⟩
abbrev cX6_wayMood : ByteArray := prog_8_method_55_code
def yX6_wayMood : MethodName := ⟨RX6, "wayMood", "()I"⟩
abbrev cX6_choices : ByteArray := prog_8_method_56_code
def yX6_choices : MethodName := ⟨RX6, "choices", "()I"⟩
abbrev cX6_again : ByteArray := prog_8_method_57_code
def yX6_again : MethodName := ⟨RX6, "again", "()I"⟩
abbrev cX6_pagesThere : ByteArray := prog_8_method_58_code
def yX6_pagesThere : MethodName := ⟨RX6, "pagesThere", "(I)I"⟩
abbrev cX6_places : ByteArray := prog_8_method_59_code
def yX6_places : MethodName := ⟨RX6, "places", "()I"⟩
abbrev cX6_count : ByteArray := prog_8_method_60_code
def yX6_count : MethodName := ⟨RX6, "count", "(I)I"⟩
abbrev cX6_undo : ByteArray := prog_8_method_61_code
def yX6_undo : MethodName := ⟨RX6, "undo", "()I"⟩
abbrev cX6_keep : ByteArray := prog_8_method_62_code
def yX6_keep : MethodName := ⟨RX6, "keep", "()I"⟩
abbrev cX6_restore : ByteArray := prog_8_method_63_code
def yX6_restore : MethodName := ⟨RX6, "restore", "()I"⟩
abbrev cX6_type : ByteArray := prog_8_method_64_code
def yX6_type : MethodName := ⟨RX6, "type", "(C)I"⟩
abbrev cX6_clearText : ByteArray := prog_8_method_65_code
def yX6_clearText : MethodName := ⟨RX6, "clearText", "()I"⟩
abbrev cX6_here : ByteArray := prog_8_method_66_code
def yX6_here : MethodName := ⟨RX6, "here", "()I"⟩
abbrev cX6_takes : ByteArray := prog_8_method_67_code
def yX6_takes : MethodName := ⟨RX6, "takes", "(Z)V"⟩
abbrev cX6_number : ByteArray := prog_8_method_68_code
def yX6_number : MethodName := ⟨RX6, "number", "()I"⟩
abbrev cX6_flags : ByteArray := prog_8_method_69_code
def yX6_flags : MethodName := ⟨RX6, "flags", "(I)I"⟩
abbrev cX6_takesChoice : ByteArray := prog_8_method_70_code
def yX6_takesChoice : MethodName := ⟨RX6, "takesChoice", "()V"⟩
abbrev cX6_isRight : ByteArray := prog_8_method_71_code
def yX6_isRight : MethodName := ⟨RX6, "isRight", "()Z"⟩
abbrev cX6_whyNotAll : ByteArray := prog_8_method_72_code
def yX6_whyNotAll : MethodName := ⟨RX6, "whyNotAll", "()I"⟩
abbrev cX6_addChoices : ByteArray := prog_8_method_73_code
def yX6_addChoices : MethodName := ⟨RX6, "addChoices", "()I"⟩
def RJxf58ca : String := "java/lang/Float"
def TJxf58ca : u_T := fun k => match k with
  | _ => ("", "", "", false)
def tyJxf58ca : Nat → FieldType := fun k => match k with
  | _ => .int
abbrev wsJxf58ca0 : List Cond := u_ws RJxf58ca TJxf58ca 0
theorem nmJxf58ca : ∀ a, a < 0 → ∀ b, b < 0 → a ≠ b → (TJxf58ca a).2.1 ≠ (TJxf58ca b).2.1 := by decide +kernel
theorem tyJxf58ca_ok : ∀ k, k < 0 → parseFieldDescriptor (TJxf58ca k).2.2.1 = some (tyJxf58ca k) := by decide +kernel
abbrev cJxf58ca_isNaN_12338 : ByteArray := prog_9_method_6_code
def yJxf58ca_isNaN_12338 : MethodName := ⟨RJxf58ca, "isNaN", "(F)Z"⟩
abbrev cJxf58ca_floatToIntBits_5c35a : ByteArray := prog_9_method_24_code
def yJxf58ca_floatToIntBits_5c35a : MethodName := ⟨RJxf58ca, "floatToIntBits", "(F)I"⟩
def RL : String := "PathBookLaw"
abbrev cL_law : ByteArray := code
def yL_law : MethodName := ⟨RL, "law", "([I)Z"⟩
def wsJxf58ca_isNaN_12338 : List Cond := .code yJxf58ca_isNaN_12338 cJxf58ca_isNaN_12338 1 (some .boolean) :: ([])
def wsJxf58ca_floatToIntBits_5c35a : List Cond := .code yJxf58ca_floatToIntBits_5c35a cJxf58ca_floatToIntBits_5c35a 1 (some .int) :: ([.methodLink RJxf58ca 74 ⟨"java/lang/Float", "floatToRawIntBits", "(F)I"⟩, .native ⟨"java/lang/Float", "floatToRawIntBits", "(F)I"⟩, .static ⟨"java/lang/Float", "floatToRawIntBits", "(F)I"⟩, .initialized "java/lang/Float", .constant RJxf58ca 77 (2143289344), .methodLink RJxf58ca 59 yJxf58ca_isNaN_12338, .static yJxf58ca_isNaN_12338, .initialized RJxf58ca, .code yJxf58ca_isNaN_12338 cJxf58ca_isNaN_12338 1 (some .boolean)])
set_option maxRecDepth 20000 in
theorem inX0 : ∀ w ∈ wsX00, w ∈ lw_tbl := by decide +kernel
theorem inX1 : ∀ w ∈ wsX10, w ∈ lw_tbl := by decide +kernel
theorem inX2 : ∀ w ∈ wsX20, w ∈ lw_tbl := by decide +kernel
theorem inX3 : ∀ w ∈ wsX30, w ∈ lw_tbl := by decide +kernel
theorem inX4 : ∀ w ∈ wsX40, w ∈ lw_tbl := by decide +kernel
theorem inX5 : ∀ w ∈ wsX50, w ∈ lw_tbl := by decide +kernel
theorem inX6 : ∀ w ∈ wsX60, w ∈ lw_tbl := by decide +kernel
theorem inJxf58ca : ∀ w ∈ wsJxf58ca0, w ∈ lw_tbl := by decide +kernel
theorem dJxf58ca_isNaN_12338_0 : decode cJxf58ca_isNaN_12338 0 = .ok (.fload_n 0, 1) := by decide +kernel
theorem dJxf58ca_isNaN_12338_1 : decode cJxf58ca_isNaN_12338 1 = .ok (.fload_n 0, 1) := by decide +kernel
theorem dJxf58ca_isNaN_12338_2 : decode cJxf58ca_isNaN_12338 2 = .ok (.fcmp .l, 1) := by decide +kernel
theorem dJxf58ca_isNaN_12338_3 : decode cJxf58ca_isNaN_12338 3 = .ok (.ifCond .eq 7, 3) := by decide +kernel
theorem dJxf58ca_isNaN_12338_6 : decode cJxf58ca_isNaN_12338 6 = .ok (.iconst 1, 1) := by decide +kernel
theorem dJxf58ca_isNaN_12338_7 : decode cJxf58ca_isNaN_12338 7 = .ok (.goto 4, 3) := by decide +kernel
theorem dJxf58ca_isNaN_12338_10 : decode cJxf58ca_isNaN_12338 10 = .ok (.iconst 0, 1) := by decide +kernel
theorem dJxf58ca_isNaN_12338_11 : decode cJxf58ca_isNaN_12338 11 = .ok (.ireturn, 1) := by decide +kernel
set_option maxRecDepth 20000 in
theorem ggJxf58ca_floatToIntBits_5c35a_Jxf58ca_isNaN_12338 : GoodIn wsJxf58ca_floatToIntBits_5c35a wsJxf58ca_isNaN_12338 := goodIn_r _ [9] (by decide +kernel) (by decide +kernel)
set_option maxRecDepth 20000 in
theorem gJxf58ca_floatToIntBits_5c35a_Jxf58ca_isNaN_12338 : GoodIn wsJxf58ca_floatToIntBits_5c35a (va_wsS RJxf58ca 59 yJxf58ca_isNaN_12338 wsJxf58ca_isNaN_12338) := goodIn_app (goodIn_of _ (by decide +kernel)) ggJxf58ca_floatToIntBits_5c35a_Jxf58ca_isNaN_12338
theorem dJxf58ca_floatToIntBits_5c35a_0 : decode cJxf58ca_floatToIntBits_5c35a 0 = .ok (.fload_n 0, 1) := by decide +kernel
theorem dJxf58ca_floatToIntBits_5c35a_1 : decode cJxf58ca_floatToIntBits_5c35a 1 = .ok (.invokestatic 59, 3) := by decide +kernel
theorem dJxf58ca_floatToIntBits_5c35a_4 : decode cJxf58ca_floatToIntBits_5c35a 4 = .ok (.ifCond .ne 8, 3) := by decide +kernel
theorem dJxf58ca_floatToIntBits_5c35a_7 : decode cJxf58ca_floatToIntBits_5c35a 7 = .ok (.fload_n 0, 1) := by decide +kernel
theorem dJxf58ca_floatToIntBits_5c35a_8 : decode cJxf58ca_floatToIntBits_5c35a 8 = .ok (.invokestatic 74, 3) := by decide +kernel
theorem dJxf58ca_floatToIntBits_5c35a_11 : decode cJxf58ca_floatToIntBits_5c35a 11 = .ok (.ireturn, 1) := by decide +kernel
theorem dJxf58ca_floatToIntBits_5c35a_12 : decode cJxf58ca_floatToIntBits_5c35a 12 = .ok (.ldc 77, 2) := by decide +kernel
theorem dJxf58ca_floatToIntBits_5c35a_14 : decode cJxf58ca_floatToIntBits_5c35a 14 = .ok (.ireturn, 1) := by decide +kernel
abbrev vwCl : List vw_C := [(RX0, TX0, 3), (RX1, TX1, 1), (RX2, TX2, 11), (RX3, TX3, 12), (RX4, TX4, 9), (RX5, TX5, 7), (RX6, TX6, 20)]
end
section
theorem dX0_init_0 : decode cX0_init 0 = .ok (.aload_n 0, 1) := by decide +kernel
theorem dX0_init_1 : decode cX0_init 1 = .ok (.invokespecial 3, 3) := by decide +kernel
theorem dX0_init_4 : decode cX0_init 4 = .ok (.aload_n 0, 1) := by decide +kernel
theorem dX0_init_5 : decode cX0_init 5 = .ok (.iconst 4, 1) := by decide +kernel
theorem dX0_init_6 : decode cX0_init 6 = .ok (.anewarray 9, 3) := by decide +kernel
theorem dX0_init_9 : decode cX0_init 9 = .ok (.putfield 11, 3) := by decide +kernel
theorem dX0_init_12 : decode cX0_init 12 = .ok (.iconst 0, 1) := by decide +kernel
theorem dX0_init_13 : decode cX0_init 13 = .ok (.istore_n 1, 1) := by decide +kernel
theorem dX0_init_14 : decode cX0_init 14 = .ok (.iload_n 1, 1) := by decide +kernel
theorem dX0_init_15 : decode cX0_init 15 = .ok (.aload_n 0, 1) := by decide +kernel
theorem dX0_init_16 : decode cX0_init 16 = .ok (.getfield 11, 3) := by decide +kernel
theorem dX0_init_19 : decode cX0_init 19 = .ok (.arraylength, 1) := by decide +kernel
theorem dX0_init_20 : decode cX0_init 20 = .ok (.if_icmp .ge 22, 3) := by decide +kernel
theorem dX0_init_23 : decode cX0_init 23 = .ok (.aload_n 0, 1) := by decide +kernel
theorem dX0_init_24 : decode cX0_init 24 = .ok (.getfield 11, 3) := by decide +kernel
theorem dX0_init_27 : decode cX0_init 27 = .ok (.iload_n 1, 1) := by decide +kernel
theorem dX0_init_28 : decode cX0_init 28 = .ok (.new 9, 3) := by decide +kernel
theorem dX0_init_31 : decode cX0_init 31 = .ok (.dup, 1) := by decide +kernel
theorem dX0_init_32 : decode cX0_init 32 = .ok (.invokespecial 17, 3) := by decide +kernel
theorem dX0_init_35 : decode cX0_init 35 = .ok (.aastore, 1) := by decide +kernel
theorem dX0_init_36 : decode cX0_init 36 = .ok (.iinc 1 1, 3) := by decide +kernel
theorem dX0_init_39 : decode cX0_init 39 = .ok (.goto (-25), 3) := by decide +kernel
theorem dX0_init_42 : decode cX0_init 42 = .ok (.aload_n 0, 1) := by decide +kernel
theorem dX0_init_43 : decode cX0_init 43 = .ok (.iconst 0, 1) := by decide +kernel
theorem dX0_init_44 : decode cX0_init 44 = .ok (.putfield 18, 3) := by decide +kernel
theorem dX0_init_47 : decode cX0_init 47 = .ok (.aload_n 0, 1) := by decide +kernel
theorem dX0_init_48 : decode cX0_init 48 = .ok (.iconst 0, 1) := by decide +kernel
theorem dX0_init_49 : decode cX0_init 49 = .ok (.putfield 22, 3) := by decide +kernel
theorem dX0_init_52 : decode cX0_init 52 = .ok (.return_, 1) := by decide +kernel
theorem dX0_push_0 : decode cX0_push 0 = .ok (.aload_n 0, 1) := by decide +kernel
theorem dX0_push_1 : decode cX0_push 1 = .ok (.aload_n 0, 1) := by decide +kernel
theorem dX0_push_2 : decode cX0_push 2 = .ok (.getfield 18, 3) := by decide +kernel
theorem dX0_push_5 : decode cX0_push 5 = .ok (.invokevirtual 25, 3) := by decide +kernel
theorem dX0_push_8 : decode cX0_push 8 = .ok (.astore_n 2, 1) := by decide +kernel
theorem dX0_push_9 : decode cX0_push 9 = .ok (.aload_n 2, 1) := by decide +kernel
theorem dX0_push_10 : decode cX0_push 10 = .ok (.ifnull 8, 3) := by decide +kernel
theorem dX0_push_13 : decode cX0_push 13 = .ok (.aload_n 2, 1) := by decide +kernel
theorem dX0_push_14 : decode cX0_push 14 = .ok (.aload_n 1, 1) := by decide +kernel
theorem dX0_push_15 : decode cX0_push 15 = .ok (.invokevirtual 29, 3) := by decide +kernel
theorem dX0_push_18 : decode cX0_push 18 = .ok (.aload_n 0, 1) := by decide +kernel
theorem dX0_push_19 : decode cX0_push 19 = .ok (.aload_n 0, 1) := by decide +kernel
theorem dX0_push_20 : decode cX0_push 20 = .ok (.getfield 18, 3) := by decide +kernel
theorem dX0_push_23 : decode cX0_push 23 = .ok (.iconst 1, 1) := by decide +kernel
theorem dX0_push_24 : decode cX0_push 24 = .ok (.iadd, 1) := by decide +kernel
theorem dX0_push_25 : decode cX0_push 25 = .ok (.iconst 4, 1) := by decide +kernel
theorem dX0_push_26 : decode cX0_push 26 = .ok (.if_icmp .ge 12, 3) := by decide +kernel
theorem dX0_push_29 : decode cX0_push 29 = .ok (.aload_n 0, 1) := by decide +kernel
theorem dX0_push_30 : decode cX0_push 30 = .ok (.getfield 18, 3) := by decide +kernel
theorem dX0_push_33 : decode cX0_push 33 = .ok (.iconst 1, 1) := by decide +kernel
theorem dX0_push_34 : decode cX0_push 34 = .ok (.iadd, 1) := by decide +kernel
theorem dX0_push_35 : decode cX0_push 35 = .ok (.goto 4, 3) := by decide +kernel
theorem dX0_push_38 : decode cX0_push 38 = .ok (.iconst 0, 1) := by decide +kernel
theorem dX0_push_39 : decode cX0_push 39 = .ok (.putfield 18, 3) := by decide +kernel
theorem dX0_push_42 : decode cX0_push 42 = .ok (.aload_n 0, 1) := by decide +kernel
theorem dX0_push_43 : decode cX0_push 43 = .ok (.aload_n 0, 1) := by decide +kernel
theorem dX0_push_44 : decode cX0_push 44 = .ok (.getfield 22, 3) := by decide +kernel
theorem dX0_push_47 : decode cX0_push 47 = .ok (.iconst 4, 1) := by decide +kernel
theorem dX0_push_48 : decode cX0_push 48 = .ok (.if_icmp .ge 12, 3) := by decide +kernel
theorem dX0_push_51 : decode cX0_push 51 = .ok (.aload_n 0, 1) := by decide +kernel
theorem dX0_push_52 : decode cX0_push 52 = .ok (.getfield 22, 3) := by decide +kernel
theorem dX0_push_55 : decode cX0_push 55 = .ok (.iconst 1, 1) := by decide +kernel
theorem dX0_push_56 : decode cX0_push 56 = .ok (.iadd, 1) := by decide +kernel
theorem dX0_push_57 : decode cX0_push 57 = .ok (.goto 4, 3) := by decide +kernel
theorem dX0_push_60 : decode cX0_push 60 = .ok (.iconst 4, 1) := by decide +kernel
theorem dX0_push_61 : decode cX0_push 61 = .ok (.putfield 22, 3) := by decide +kernel
theorem dX0_push_64 : decode cX0_push 64 = .ok (.return_, 1) := by decide +kernel
theorem dX0_pop_0 : decode cX0_pop 0 = .ok (.aload_n 0, 1) := by decide +kernel
theorem dX0_pop_1 : decode cX0_pop 1 = .ok (.aload_n 0, 1) := by decide +kernel
theorem dX0_pop_2 : decode cX0_pop 2 = .ok (.getfield 18, 3) := by decide +kernel
theorem dX0_pop_5 : decode cX0_pop 5 = .ok (.ifCond .le 12, 3) := by decide +kernel
theorem dX0_pop_8 : decode cX0_pop 8 = .ok (.aload_n 0, 1) := by decide +kernel
theorem dX0_pop_9 : decode cX0_pop 9 = .ok (.getfield 18, 3) := by decide +kernel
theorem dX0_pop_12 : decode cX0_pop 12 = .ok (.iconst 1, 1) := by decide +kernel
theorem dX0_pop_13 : decode cX0_pop 13 = .ok (.isub, 1) := by decide +kernel
theorem dX0_pop_14 : decode cX0_pop 14 = .ok (.goto 4, 3) := by decide +kernel
theorem dX0_pop_17 : decode cX0_pop 17 = .ok (.iconst 3, 1) := by decide +kernel
theorem dX0_pop_18 : decode cX0_pop 18 = .ok (.putfield 18, 3) := by decide +kernel
theorem dX0_pop_21 : decode cX0_pop 21 = .ok (.aload_n 0, 1) := by decide +kernel
theorem dX0_pop_22 : decode cX0_pop 22 = .ok (.aload_n 0, 1) := by decide +kernel
theorem dX0_pop_23 : decode cX0_pop 23 = .ok (.getfield 22, 3) := by decide +kernel
theorem dX0_pop_26 : decode cX0_pop 26 = .ok (.iconst 1, 1) := by decide +kernel
theorem dX0_pop_27 : decode cX0_pop 27 = .ok (.isub, 1) := by decide +kernel
theorem dX0_pop_28 : decode cX0_pop 28 = .ok (.putfield 22, 3) := by decide +kernel
theorem dX0_pop_31 : decode cX0_pop 31 = .ok (.aload_n 0, 1) := by decide +kernel
theorem dX0_pop_32 : decode cX0_pop 32 = .ok (.aload_n 0, 1) := by decide +kernel
theorem dX0_pop_33 : decode cX0_pop 33 = .ok (.getfield 18, 3) := by decide +kernel
theorem dX0_pop_36 : decode cX0_pop 36 = .ok (.invokevirtual 25, 3) := by decide +kernel
theorem dX0_pop_39 : decode cX0_pop 39 = .ok (.astore_n 2, 1) := by decide +kernel
theorem dX0_pop_40 : decode cX0_pop 40 = .ok (.aload_n 2, 1) := by decide +kernel
theorem dX0_pop_41 : decode cX0_pop 41 = .ok (.ifnull 8, 3) := by decide +kernel
theorem dX0_pop_44 : decode cX0_pop 44 = .ok (.aload_n 1, 1) := by decide +kernel
theorem dX0_pop_45 : decode cX0_pop 45 = .ok (.aload_n 2, 1) := by decide +kernel
theorem dX0_pop_46 : decode cX0_pop 46 = .ok (.invokevirtual 29, 3) := by decide +kernel
theorem dX0_pop_49 : decode cX0_pop 49 = .ok (.return_, 1) := by decide +kernel
theorem dX0_stateAt_0 : decode cX0_stateAt 0 = .ok (.iload_n 1, 1) := by decide +kernel
theorem dX0_stateAt_1 : decode cX0_stateAt 1 = .ok (.ifCond .lt 21, 3) := by decide +kernel
theorem dX0_stateAt_4 : decode cX0_stateAt 4 = .ok (.iload_n 1, 1) := by decide +kernel
theorem dX0_stateAt_5 : decode cX0_stateAt 5 = .ok (.aload_n 0, 1) := by decide +kernel
theorem dX0_stateAt_6 : decode cX0_stateAt 6 = .ok (.getfield 11, 3) := by decide +kernel
theorem dX0_stateAt_9 : decode cX0_stateAt 9 = .ok (.arraylength, 1) := by decide +kernel
theorem dX0_stateAt_10 : decode cX0_stateAt 10 = .ok (.if_icmp .ge 12, 3) := by decide +kernel
theorem dX0_stateAt_13 : decode cX0_stateAt 13 = .ok (.aload_n 0, 1) := by decide +kernel
theorem dX0_stateAt_14 : decode cX0_stateAt 14 = .ok (.getfield 11, 3) := by decide +kernel
theorem dX0_stateAt_17 : decode cX0_stateAt 17 = .ok (.iload_n 1, 1) := by decide +kernel
theorem dX0_stateAt_18 : decode cX0_stateAt 18 = .ok (.aaload, 1) := by decide +kernel
theorem dX0_stateAt_19 : decode cX0_stateAt 19 = .ok (.goto 4, 3) := by decide +kernel
theorem dX0_stateAt_22 : decode cX0_stateAt 22 = .ok (.aconst_null, 1) := by decide +kernel
theorem dX0_stateAt_23 : decode cX0_stateAt 23 = .ok (.areturn, 1) := by decide +kernel
theorem dX1_init_0 : decode cX1_init 0 = .ok (.aload_n 0, 1) := by decide +kernel
theorem dX1_init_1 : decode cX1_init 1 = .ok (.invokespecial 1, 3) := by decide +kernel
theorem dX1_init_4 : decode cX1_init 4 = .ok (.aload_n 0, 1) := by decide +kernel
theorem dX1_init_5 : decode cX1_init 5 = .ok (.iload_n 1, 1) := by decide +kernel
theorem dX1_init_6 : decode cX1_init 6 = .ok (.ifCond .ge 7, 3) := by decide +kernel
theorem dX1_init_9 : decode cX1_init 9 = .ok (.iconst 0, 1) := by decide +kernel
theorem dX1_init_10 : decode cX1_init 10 = .ok (.goto 4, 3) := by decide +kernel
theorem dX1_init_13 : decode cX1_init 13 = .ok (.iload_n 1, 1) := by decide +kernel
theorem dX1_init_14 : decode cX1_init 14 = .ok (.newarray .int, 2) := by decide +kernel
theorem dX1_init_16 : decode cX1_init 16 = .ok (.putfield 7, 3) := by decide +kernel
theorem dX1_init_19 : decode cX1_init 19 = .ok (.return_, 1) := by decide +kernel
theorem dX1_at_0 : decode cX1_at 0 = .ok (.iload_n 1, 1) := by decide +kernel
theorem dX1_at_1 : decode cX1_at 1 = .ok (.ifCond .lt 21, 3) := by decide +kernel
theorem dX1_at_4 : decode cX1_at 4 = .ok (.iload_n 1, 1) := by decide +kernel
theorem dX1_at_5 : decode cX1_at 5 = .ok (.aload_n 0, 1) := by decide +kernel
theorem dX1_at_6 : decode cX1_at 6 = .ok (.getfield 7, 3) := by decide +kernel
theorem dX1_at_9 : decode cX1_at 9 = .ok (.arraylength, 1) := by decide +kernel
theorem dX1_at_10 : decode cX1_at 10 = .ok (.if_icmp .ge 12, 3) := by decide +kernel
theorem dX1_at_13 : decode cX1_at 13 = .ok (.aload_n 0, 1) := by decide +kernel
theorem dX1_at_14 : decode cX1_at 14 = .ok (.getfield 7, 3) := by decide +kernel
theorem dX1_at_17 : decode cX1_at 17 = .ok (.iload_n 1, 1) := by decide +kernel
theorem dX1_at_18 : decode cX1_at 18 = .ok (.iaload, 1) := by decide +kernel
theorem dX1_at_19 : decode cX1_at 19 = .ok (.goto 4, 3) := by decide +kernel
theorem dX1_at_22 : decode cX1_at 22 = .ok (.iconst 0, 1) := by decide +kernel
theorem dX1_at_23 : decode cX1_at 23 = .ok (.ireturn, 1) := by decide +kernel
theorem dX1_put_0 : decode cX1_put 0 = .ok (.iload_n 1, 1) := by decide +kernel
theorem dX1_put_1 : decode cX1_put 1 = .ok (.ifCond .lt 19, 3) := by decide +kernel
theorem dX1_put_4 : decode cX1_put 4 = .ok (.iload_n 1, 1) := by decide +kernel
theorem dX1_put_5 : decode cX1_put 5 = .ok (.aload_n 0, 1) := by decide +kernel
theorem dX1_put_6 : decode cX1_put 6 = .ok (.getfield 7, 3) := by decide +kernel
theorem dX1_put_9 : decode cX1_put 9 = .ok (.arraylength, 1) := by decide +kernel
theorem dX1_put_10 : decode cX1_put 10 = .ok (.if_icmp .ge 10, 3) := by decide +kernel
theorem dX1_put_13 : decode cX1_put 13 = .ok (.aload_n 0, 1) := by decide +kernel
theorem dX1_put_14 : decode cX1_put 14 = .ok (.getfield 7, 3) := by decide +kernel
theorem dX1_put_17 : decode cX1_put 17 = .ok (.iload_n 1, 1) := by decide +kernel
theorem dX1_put_18 : decode cX1_put 18 = .ok (.iload_n 2, 1) := by decide +kernel
theorem dX1_put_19 : decode cX1_put 19 = .ok (.iastore, 1) := by decide +kernel
theorem dX1_put_20 : decode cX1_put 20 = .ok (.return_, 1) := by decide +kernel
theorem dX1_fill_0 : decode cX1_fill 0 = .ok (.iconst 0, 1) := by decide +kernel
theorem dX1_fill_1 : decode cX1_fill 1 = .ok (.istore_n 2, 1) := by decide +kernel
theorem dX1_fill_2 : decode cX1_fill 2 = .ok (.iload_n 2, 1) := by decide +kernel
theorem dX1_fill_3 : decode cX1_fill 3 = .ok (.aload_n 0, 1) := by decide +kernel
theorem dX1_fill_4 : decode cX1_fill 4 = .ok (.getfield 7, 3) := by decide +kernel
theorem dX1_fill_7 : decode cX1_fill 7 = .ok (.arraylength, 1) := by decide +kernel
theorem dX1_fill_8 : decode cX1_fill 8 = .ok (.if_icmp .ge 16, 3) := by decide +kernel
theorem dX1_fill_11 : decode cX1_fill 11 = .ok (.aload_n 0, 1) := by decide +kernel
theorem dX1_fill_12 : decode cX1_fill 12 = .ok (.getfield 7, 3) := by decide +kernel
theorem dX1_fill_15 : decode cX1_fill 15 = .ok (.iload_n 2, 1) := by decide +kernel
theorem dX1_fill_16 : decode cX1_fill 16 = .ok (.iload_n 1, 1) := by decide +kernel
theorem dX1_fill_17 : decode cX1_fill 17 = .ok (.iastore, 1) := by decide +kernel
theorem dX1_fill_18 : decode cX1_fill 18 = .ok (.iinc 2 1, 3) := by decide +kernel
theorem dX1_fill_21 : decode cX1_fill 21 = .ok (.goto (-19), 3) := by decide +kernel
theorem dX1_fill_24 : decode cX1_fill 24 = .ok (.return_, 1) := by decide +kernel
theorem dX1_swap_0 : decode cX1_swap 0 = .ok (.aload_n 0, 1) := by decide +kernel
theorem dX1_swap_1 : decode cX1_swap 1 = .ok (.iload_n 1, 1) := by decide +kernel
theorem dX1_swap_2 : decode cX1_swap 2 = .ok (.invokevirtual 13, 3) := by decide +kernel
theorem dX1_swap_5 : decode cX1_swap 5 = .ok (.istore_n 3, 1) := by decide +kernel
theorem dX1_swap_6 : decode cX1_swap 6 = .ok (.aload_n 0, 1) := by decide +kernel
theorem dX1_swap_7 : decode cX1_swap 7 = .ok (.iload_n 1, 1) := by decide +kernel
theorem dX1_swap_8 : decode cX1_swap 8 = .ok (.aload_n 0, 1) := by decide +kernel
theorem dX1_swap_9 : decode cX1_swap 9 = .ok (.iload_n 2, 1) := by decide +kernel
theorem dX1_swap_10 : decode cX1_swap 10 = .ok (.invokevirtual 13, 3) := by decide +kernel
theorem dX1_swap_13 : decode cX1_swap 13 = .ok (.invokevirtual 17, 3) := by decide +kernel
theorem dX1_swap_16 : decode cX1_swap 16 = .ok (.aload_n 0, 1) := by decide +kernel
theorem dX1_swap_17 : decode cX1_swap 17 = .ok (.iload_n 2, 1) := by decide +kernel
theorem dX1_swap_18 : decode cX1_swap 18 = .ok (.iload_n 3, 1) := by decide +kernel
theorem dX1_swap_19 : decode cX1_swap 19 = .ok (.invokevirtual 17, 3) := by decide +kernel
theorem dX1_swap_22 : decode cX1_swap 22 = .ok (.return_, 1) := by decide +kernel
theorem dX1_copyFrom_0 : decode cX1_copyFrom 0 = .ok (.iconst 0, 1) := by decide +kernel
theorem dX1_copyFrom_1 : decode cX1_copyFrom 1 = .ok (.istore_n 2, 1) := by decide +kernel
theorem dX1_copyFrom_2 : decode cX1_copyFrom 2 = .ok (.iload_n 2, 1) := by decide +kernel
theorem dX1_copyFrom_3 : decode cX1_copyFrom 3 = .ok (.aload_n 0, 1) := by decide +kernel
theorem dX1_copyFrom_4 : decode cX1_copyFrom 4 = .ok (.getfield 7, 3) := by decide +kernel
theorem dX1_copyFrom_7 : decode cX1_copyFrom 7 = .ok (.arraylength, 1) := by decide +kernel
theorem dX1_copyFrom_8 : decode cX1_copyFrom 8 = .ok (.if_icmp .ge 20, 3) := by decide +kernel
theorem dX1_copyFrom_11 : decode cX1_copyFrom 11 = .ok (.aload_n 0, 1) := by decide +kernel
theorem dX1_copyFrom_12 : decode cX1_copyFrom 12 = .ok (.getfield 7, 3) := by decide +kernel
theorem dX1_copyFrom_15 : decode cX1_copyFrom 15 = .ok (.iload_n 2, 1) := by decide +kernel
theorem dX1_copyFrom_16 : decode cX1_copyFrom 16 = .ok (.aload_n 1, 1) := by decide +kernel
theorem dX1_copyFrom_17 : decode cX1_copyFrom 17 = .ok (.iload_n 2, 1) := by decide +kernel
theorem dX1_copyFrom_18 : decode cX1_copyFrom 18 = .ok (.invokevirtual 13, 3) := by decide +kernel
theorem dX1_copyFrom_21 : decode cX1_copyFrom 21 = .ok (.iastore, 1) := by decide +kernel
theorem dX1_copyFrom_22 : decode cX1_copyFrom 22 = .ok (.iinc 2 1, 3) := by decide +kernel
theorem dX1_copyFrom_25 : decode cX1_copyFrom 25 = .ok (.goto (-23), 3) := by decide +kernel
theorem dX1_copyFrom_28 : decode cX1_copyFrom 28 = .ok (.return_, 1) := by decide +kernel
theorem dX2_init_0 : decode cX2_init 0 = .ok (.aload_n 0, 1) := by decide +kernel
theorem dX2_init_1 : decode cX2_init 1 = .ok (.invokespecial 3, 3) := by decide +kernel
theorem dX2_init_4 : decode cX2_init 4 = .ok (.aload_n 0, 1) := by decide +kernel
theorem dX2_init_5 : decode cX2_init 5 = .ok (.iconst 0, 1) := by decide +kernel
theorem dX2_init_6 : decode cX2_init 6 = .ok (.putfield 9, 3) := by decide +kernel
theorem dX2_init_9 : decode cX2_init 9 = .ok (.aload_n 0, 1) := by decide +kernel
theorem dX2_init_10 : decode cX2_init 10 = .ok (.new 15, 3) := by decide +kernel
theorem dX2_init_13 : decode cX2_init 13 = .ok (.dup, 1) := by decide +kernel
theorem dX2_init_14 : decode cX2_init 14 = .ok (.bipush 32, 2) := by decide +kernel
theorem dX2_init_16 : decode cX2_init 16 = .ok (.invokespecial 17, 3) := by decide +kernel
theorem dX2_init_19 : decode cX2_init 19 = .ok (.putfield 20, 3) := by decide +kernel
theorem dX2_init_22 : decode cX2_init 22 = .ok (.aload_n 0, 1) := by decide +kernel
theorem dX2_init_23 : decode cX2_init 23 = .ok (.new 15, 3) := by decide +kernel
theorem dX2_init_26 : decode cX2_init 26 = .ok (.dup, 1) := by decide +kernel
theorem dX2_init_27 : decode cX2_init 27 = .ok (.bipush 32, 2) := by decide +kernel
theorem dX2_init_29 : decode cX2_init 29 = .ok (.invokespecial 17, 3) := by decide +kernel
theorem dX2_init_32 : decode cX2_init 32 = .ok (.putfield 24, 3) := by decide +kernel
theorem dX2_init_35 : decode cX2_init 35 = .ok (.aload_n 0, 1) := by decide +kernel
theorem dX2_init_36 : decode cX2_init 36 = .ok (.new 15, 3) := by decide +kernel
theorem dX2_init_39 : decode cX2_init 39 = .ok (.dup, 1) := by decide +kernel
theorem dX2_init_40 : decode cX2_init 40 = .ok (.bipush 32, 2) := by decide +kernel
theorem dX2_init_42 : decode cX2_init 42 = .ok (.invokespecial 17, 3) := by decide +kernel
theorem dX2_init_45 : decode cX2_init 45 = .ok (.putfield 27, 3) := by decide +kernel
theorem dX2_init_48 : decode cX2_init 48 = .ok (.aload_n 0, 1) := by decide +kernel
theorem dX2_init_49 : decode cX2_init 49 = .ok (.new 15, 3) := by decide +kernel
theorem dX2_init_52 : decode cX2_init 52 = .ok (.dup, 1) := by decide +kernel
theorem dX2_init_53 : decode cX2_init 53 = .ok (.bipush 32, 2) := by decide +kernel
theorem dX2_init_55 : decode cX2_init 55 = .ok (.invokespecial 17, 3) := by decide +kernel
theorem dX2_init_58 : decode cX2_init 58 = .ok (.putfield 30, 3) := by decide +kernel
theorem dX2_init_61 : decode cX2_init 61 = .ok (.aload_n 0, 1) := by decide +kernel
theorem dX2_init_62 : decode cX2_init 62 = .ok (.new 15, 3) := by decide +kernel
theorem dX2_init_65 : decode cX2_init 65 = .ok (.dup, 1) := by decide +kernel
theorem dX2_init_66 : decode cX2_init 66 = .ok (.bipush 96, 2) := by decide +kernel
theorem dX2_init_68 : decode cX2_init 68 = .ok (.invokespecial 17, 3) := by decide +kernel
theorem dX2_init_71 : decode cX2_init 71 = .ok (.putfield 33, 3) := by decide +kernel
theorem dX2_init_74 : decode cX2_init 74 = .ok (.aload_n 0, 1) := by decide +kernel
theorem dX2_init_75 : decode cX2_init 75 = .ok (.new 15, 3) := by decide +kernel
theorem dX2_init_78 : decode cX2_init 78 = .ok (.dup, 1) := by decide +kernel
theorem dX2_init_79 : decode cX2_init 79 = .ok (.bipush 96, 2) := by decide +kernel
theorem dX2_init_81 : decode cX2_init 81 = .ok (.invokespecial 17, 3) := by decide +kernel
theorem dX2_init_84 : decode cX2_init 84 = .ok (.putfield 36, 3) := by decide +kernel
theorem dX2_init_87 : decode cX2_init 87 = .ok (.aload_n 0, 1) := by decide +kernel
theorem dX2_init_88 : decode cX2_init 88 = .ok (.new 15, 3) := by decide +kernel
theorem dX2_init_91 : decode cX2_init 91 = .ok (.dup, 1) := by decide +kernel
theorem dX2_init_92 : decode cX2_init 92 = .ok (.bipush 96, 2) := by decide +kernel
theorem dX2_init_94 : decode cX2_init 94 = .ok (.invokespecial 17, 3) := by decide +kernel
theorem dX2_init_97 : decode cX2_init 97 = .ok (.putfield 39, 3) := by decide +kernel
theorem dX2_init_100 : decode cX2_init 100 = .ok (.aload_n 0, 1) := by decide +kernel
theorem dX2_init_101 : decode cX2_init 101 = .ok (.new 15, 3) := by decide +kernel
theorem dX2_init_104 : decode cX2_init 104 = .ok (.dup, 1) := by decide +kernel
theorem dX2_init_105 : decode cX2_init 105 = .ok (.iconst 2, 1) := by decide +kernel
theorem dX2_init_106 : decode cX2_init 106 = .ok (.invokespecial 17, 3) := by decide +kernel
theorem dX2_init_109 : decode cX2_init 109 = .ok (.putfield 42, 3) := by decide +kernel
theorem dX2_init_112 : decode cX2_init 112 = .ok (.aload_n 0, 1) := by decide +kernel
theorem dX2_init_113 : decode cX2_init 113 = .ok (.getfield 42, 3) := by decide +kernel
theorem dX2_init_116 : decode cX2_init 116 = .ok (.iconst (-1), 1) := by decide +kernel
theorem dX2_init_117 : decode cX2_init 117 = .ok (.invokevirtual 45, 3) := by decide +kernel
theorem dX2_init_120 : decode cX2_init 120 = .ok (.aload_n 0, 1) := by decide +kernel
theorem dX2_init_121 : decode cX2_init 121 = .ok (.new 15, 3) := by decide +kernel
theorem dX2_init_124 : decode cX2_init 124 = .ok (.dup, 1) := by decide +kernel
theorem dX2_init_125 : decode cX2_init 125 = .ok (.iconst 2, 1) := by decide +kernel
theorem dX2_init_126 : decode cX2_init 126 = .ok (.invokespecial 17, 3) := by decide +kernel
theorem dX2_init_129 : decode cX2_init 129 = .ok (.putfield 48, 3) := by decide +kernel
theorem dX2_init_132 : decode cX2_init 132 = .ok (.aload_n 0, 1) := by decide +kernel
theorem dX2_init_133 : decode cX2_init 133 = .ok (.iconst (-1), 1) := by decide +kernel
theorem dX2_init_134 : decode cX2_init 134 = .ok (.putfield 51, 3) := by decide +kernel
theorem dX2_init_137 : decode cX2_init 137 = .ok (.return_, 1) := by decide +kernel
theorem dX2_copyFrom_0 : decode cX2_copyFrom 0 = .ok (.aload_n 0, 1) := by decide +kernel
theorem dX2_copyFrom_1 : decode cX2_copyFrom 1 = .ok (.aload_n 1, 1) := by decide +kernel
theorem dX2_copyFrom_2 : decode cX2_copyFrom 2 = .ok (.getfield 9, 3) := by decide +kernel
theorem dX2_copyFrom_5 : decode cX2_copyFrom 5 = .ok (.putfield 9, 3) := by decide +kernel
theorem dX2_copyFrom_8 : decode cX2_copyFrom 8 = .ok (.aload_n 0, 1) := by decide +kernel
theorem dX2_copyFrom_9 : decode cX2_copyFrom 9 = .ok (.getfield 20, 3) := by decide +kernel
theorem dX2_copyFrom_12 : decode cX2_copyFrom 12 = .ok (.aload_n 1, 1) := by decide +kernel
theorem dX2_copyFrom_13 : decode cX2_copyFrom 13 = .ok (.getfield 20, 3) := by decide +kernel
theorem dX2_copyFrom_16 : decode cX2_copyFrom 16 = .ok (.invokevirtual 54, 3) := by decide +kernel
theorem dX2_copyFrom_19 : decode cX2_copyFrom 19 = .ok (.aload_n 0, 1) := by decide +kernel
theorem dX2_copyFrom_20 : decode cX2_copyFrom 20 = .ok (.getfield 24, 3) := by decide +kernel
theorem dX2_copyFrom_23 : decode cX2_copyFrom 23 = .ok (.aload_n 1, 1) := by decide +kernel
theorem dX2_copyFrom_24 : decode cX2_copyFrom 24 = .ok (.getfield 24, 3) := by decide +kernel
theorem dX2_copyFrom_27 : decode cX2_copyFrom 27 = .ok (.invokevirtual 54, 3) := by decide +kernel
theorem dX2_copyFrom_30 : decode cX2_copyFrom 30 = .ok (.aload_n 0, 1) := by decide +kernel
theorem dX2_copyFrom_31 : decode cX2_copyFrom 31 = .ok (.getfield 27, 3) := by decide +kernel
theorem dX2_copyFrom_34 : decode cX2_copyFrom 34 = .ok (.aload_n 1, 1) := by decide +kernel
theorem dX2_copyFrom_35 : decode cX2_copyFrom 35 = .ok (.getfield 27, 3) := by decide +kernel
theorem dX2_copyFrom_38 : decode cX2_copyFrom 38 = .ok (.invokevirtual 54, 3) := by decide +kernel
theorem dX2_copyFrom_41 : decode cX2_copyFrom 41 = .ok (.aload_n 0, 1) := by decide +kernel
theorem dX2_copyFrom_42 : decode cX2_copyFrom 42 = .ok (.getfield 30, 3) := by decide +kernel
theorem dX2_copyFrom_45 : decode cX2_copyFrom 45 = .ok (.aload_n 1, 1) := by decide +kernel
theorem dX2_copyFrom_46 : decode cX2_copyFrom 46 = .ok (.getfield 30, 3) := by decide +kernel
theorem dX2_copyFrom_49 : decode cX2_copyFrom 49 = .ok (.invokevirtual 54, 3) := by decide +kernel
theorem dX2_copyFrom_52 : decode cX2_copyFrom 52 = .ok (.aload_n 0, 1) := by decide +kernel
theorem dX2_copyFrom_53 : decode cX2_copyFrom 53 = .ok (.getfield 33, 3) := by decide +kernel
theorem dX2_copyFrom_56 : decode cX2_copyFrom 56 = .ok (.aload_n 1, 1) := by decide +kernel
theorem dX2_copyFrom_57 : decode cX2_copyFrom 57 = .ok (.getfield 33, 3) := by decide +kernel
theorem dX2_copyFrom_60 : decode cX2_copyFrom 60 = .ok (.invokevirtual 54, 3) := by decide +kernel
theorem dX2_copyFrom_63 : decode cX2_copyFrom 63 = .ok (.aload_n 0, 1) := by decide +kernel
theorem dX2_copyFrom_64 : decode cX2_copyFrom 64 = .ok (.getfield 36, 3) := by decide +kernel
theorem dX2_copyFrom_67 : decode cX2_copyFrom 67 = .ok (.aload_n 1, 1) := by decide +kernel
theorem dX2_copyFrom_68 : decode cX2_copyFrom 68 = .ok (.getfield 36, 3) := by decide +kernel
theorem dX2_copyFrom_71 : decode cX2_copyFrom 71 = .ok (.invokevirtual 54, 3) := by decide +kernel
theorem dX2_copyFrom_74 : decode cX2_copyFrom 74 = .ok (.aload_n 0, 1) := by decide +kernel
theorem dX2_copyFrom_75 : decode cX2_copyFrom 75 = .ok (.getfield 39, 3) := by decide +kernel
theorem dX2_copyFrom_78 : decode cX2_copyFrom 78 = .ok (.aload_n 1, 1) := by decide +kernel
theorem dX2_copyFrom_79 : decode cX2_copyFrom 79 = .ok (.getfield 39, 3) := by decide +kernel
theorem dX2_copyFrom_82 : decode cX2_copyFrom 82 = .ok (.invokevirtual 54, 3) := by decide +kernel
theorem dX2_copyFrom_85 : decode cX2_copyFrom 85 = .ok (.aload_n 0, 1) := by decide +kernel
theorem dX2_copyFrom_86 : decode cX2_copyFrom 86 = .ok (.getfield 42, 3) := by decide +kernel
theorem dX2_copyFrom_89 : decode cX2_copyFrom 89 = .ok (.aload_n 1, 1) := by decide +kernel
theorem dX2_copyFrom_90 : decode cX2_copyFrom 90 = .ok (.getfield 42, 3) := by decide +kernel
theorem dX2_copyFrom_93 : decode cX2_copyFrom 93 = .ok (.invokevirtual 54, 3) := by decide +kernel
theorem dX2_copyFrom_96 : decode cX2_copyFrom 96 = .ok (.aload_n 0, 1) := by decide +kernel
theorem dX2_copyFrom_97 : decode cX2_copyFrom 97 = .ok (.getfield 48, 3) := by decide +kernel
theorem dX2_copyFrom_100 : decode cX2_copyFrom 100 = .ok (.aload_n 1, 1) := by decide +kernel
theorem dX2_copyFrom_101 : decode cX2_copyFrom 101 = .ok (.getfield 48, 3) := by decide +kernel
theorem dX2_copyFrom_104 : decode cX2_copyFrom 104 = .ok (.invokevirtual 54, 3) := by decide +kernel
theorem dX2_copyFrom_107 : decode cX2_copyFrom 107 = .ok (.aload_n 0, 1) := by decide +kernel
theorem dX2_copyFrom_108 : decode cX2_copyFrom 108 = .ok (.aload_n 1, 1) := by decide +kernel
theorem dX2_copyFrom_109 : decode cX2_copyFrom 109 = .ok (.getfield 51, 3) := by decide +kernel
theorem dX2_copyFrom_112 : decode cX2_copyFrom 112 = .ok (.putfield 51, 3) := by decide +kernel
theorem dX2_copyFrom_115 : decode cX2_copyFrom 115 = .ok (.return_, 1) := by decide +kernel
theorem dX2_hasPage_0 : decode cX2_hasPage 0 = .ok (.iload_n 1, 1) := by decide +kernel
theorem dX2_hasPage_1 : decode cX2_hasPage 1 = .ok (.ifCond .lt 15, 3) := by decide +kernel
theorem dX2_hasPage_4 : decode cX2_hasPage 4 = .ok (.iload_n 1, 1) := by decide +kernel
theorem dX2_hasPage_5 : decode cX2_hasPage 5 = .ok (.aload_n 0, 1) := by decide +kernel
theorem dX2_hasPage_6 : decode cX2_hasPage 6 = .ok (.getfield 9, 3) := by decide +kernel
theorem dX2_hasPage_9 : decode cX2_hasPage 9 = .ok (.if_icmp .ge 7, 3) := by decide +kernel
theorem dX2_hasPage_12 : decode cX2_hasPage 12 = .ok (.iconst 1, 1) := by decide +kernel
theorem dX2_hasPage_13 : decode cX2_hasPage 13 = .ok (.goto 4, 3) := by decide +kernel
theorem dX2_hasPage_16 : decode cX2_hasPage 16 = .ok (.iconst 0, 1) := by decide +kernel
theorem dX2_hasPage_17 : decode cX2_hasPage 17 = .ok (.ireturn, 1) := by decide +kernel
theorem dX2_hasChoice_0 : decode cX2_hasChoice 0 = .ok (.aload_n 0, 1) := by decide +kernel
theorem dX2_hasChoice_1 : decode cX2_hasChoice 1 = .ok (.iload_n 1, 1) := by decide +kernel
theorem dX2_hasChoice_2 : decode cX2_hasChoice 2 = .ok (.invokevirtual 58, 3) := by decide +kernel
theorem dX2_hasChoice_5 : decode cX2_hasChoice 5 = .ok (.ifCond .eq 23, 3) := by decide +kernel
theorem dX2_hasChoice_8 : decode cX2_hasChoice 8 = .ok (.iload_n 2, 1) := by decide +kernel
theorem dX2_hasChoice_9 : decode cX2_hasChoice 9 = .ok (.ifCond .lt 19, 3) := by decide +kernel
theorem dX2_hasChoice_12 : decode cX2_hasChoice 12 = .ok (.iload_n 2, 1) := by decide +kernel
theorem dX2_hasChoice_13 : decode cX2_hasChoice 13 = .ok (.aload_n 0, 1) := by decide +kernel
theorem dX2_hasChoice_14 : decode cX2_hasChoice 14 = .ok (.getfield 30, 3) := by decide +kernel
theorem dX2_hasChoice_17 : decode cX2_hasChoice 17 = .ok (.iload_n 1, 1) := by decide +kernel
theorem dX2_hasChoice_18 : decode cX2_hasChoice 18 = .ok (.invokevirtual 62, 3) := by decide +kernel
theorem dX2_hasChoice_21 : decode cX2_hasChoice 21 = .ok (.if_icmp .ge 7, 3) := by decide +kernel
theorem dX2_hasChoice_24 : decode cX2_hasChoice 24 = .ok (.iconst 1, 1) := by decide +kernel
theorem dX2_hasChoice_25 : decode cX2_hasChoice 25 = .ok (.goto 4, 3) := by decide +kernel
theorem dX2_hasChoice_28 : decode cX2_hasChoice 28 = .ok (.iconst 0, 1) := by decide +kernel
theorem dX2_hasChoice_29 : decode cX2_hasChoice 29 = .ok (.ireturn, 1) := by decide +kernel
theorem dX2_bindPage_0 : decode cX2_bindPage 0 = .ok (.aload_n 0, 1) := by decide +kernel
theorem dX2_bindPage_1 : decode cX2_bindPage 1 = .ok (.getfield 9, 3) := by decide +kernel
theorem dX2_bindPage_4 : decode cX2_bindPage 4 = .ok (.istore 4, 2) := by decide +kernel
theorem dX2_bindPage_6 : decode cX2_bindPage 6 = .ok (.aload_n 0, 1) := by decide +kernel
theorem dX2_bindPage_7 : decode cX2_bindPage 7 = .ok (.getfield 20, 3) := by decide +kernel
theorem dX2_bindPage_10 : decode cX2_bindPage 10 = .ok (.iload 4, 2) := by decide +kernel
theorem dX2_bindPage_12 : decode cX2_bindPage 12 = .ok (.iload_n 1, 1) := by decide +kernel
theorem dX2_bindPage_13 : decode cX2_bindPage 13 = .ok (.invokevirtual 66, 3) := by decide +kernel
theorem dX2_bindPage_16 : decode cX2_bindPage 16 = .ok (.aload_n 0, 1) := by decide +kernel
theorem dX2_bindPage_17 : decode cX2_bindPage 17 = .ok (.getfield 24, 3) := by decide +kernel
theorem dX2_bindPage_20 : decode cX2_bindPage 20 = .ok (.iload 4, 2) := by decide +kernel
theorem dX2_bindPage_22 : decode cX2_bindPage 22 = .ok (.iload_n 2, 1) := by decide +kernel
theorem dX2_bindPage_23 : decode cX2_bindPage 23 = .ok (.invokevirtual 66, 3) := by decide +kernel
theorem dX2_bindPage_26 : decode cX2_bindPage 26 = .ok (.aload_n 0, 1) := by decide +kernel
theorem dX2_bindPage_27 : decode cX2_bindPage 27 = .ok (.getfield 27, 3) := by decide +kernel
theorem dX2_bindPage_30 : decode cX2_bindPage 30 = .ok (.iload 4, 2) := by decide +kernel
theorem dX2_bindPage_32 : decode cX2_bindPage 32 = .ok (.iload_n 3, 1) := by decide +kernel
theorem dX2_bindPage_33 : decode cX2_bindPage 33 = .ok (.invokevirtual 66, 3) := by decide +kernel
theorem dX2_bindPage_36 : decode cX2_bindPage 36 = .ok (.aload_n 0, 1) := by decide +kernel
theorem dX2_bindPage_37 : decode cX2_bindPage 37 = .ok (.getfield 30, 3) := by decide +kernel
theorem dX2_bindPage_40 : decode cX2_bindPage 40 = .ok (.iload 4, 2) := by decide +kernel
theorem dX2_bindPage_42 : decode cX2_bindPage 42 = .ok (.iconst 0, 1) := by decide +kernel
theorem dX2_bindPage_43 : decode cX2_bindPage 43 = .ok (.invokevirtual 66, 3) := by decide +kernel
theorem dX2_bindPage_46 : decode cX2_bindPage 46 = .ok (.aload_n 0, 1) := by decide +kernel
theorem dX2_bindPage_47 : decode cX2_bindPage 47 = .ok (.iload 4, 2) := by decide +kernel
theorem dX2_bindPage_49 : decode cX2_bindPage 49 = .ok (.iconst 1, 1) := by decide +kernel
theorem dX2_bindPage_50 : decode cX2_bindPage 50 = .ok (.iadd, 1) := by decide +kernel
theorem dX2_bindPage_51 : decode cX2_bindPage 51 = .ok (.putfield 9, 3) := by decide +kernel
theorem dX2_bindPage_54 : decode cX2_bindPage 54 = .ok (.iload 4, 2) := by decide +kernel
theorem dX2_bindPage_56 : decode cX2_bindPage 56 = .ok (.ireturn, 1) := by decide +kernel
theorem dX2_errorOfChoice_0 : decode cX2_errorOfChoice 0 = .ok (.aload_n 0, 1) := by decide +kernel
theorem dX2_errorOfChoice_1 : decode cX2_errorOfChoice 1 = .ok (.iload_n 1, 1) := by decide +kernel
theorem dX2_errorOfChoice_2 : decode cX2_errorOfChoice 2 = .ok (.invokevirtual 58, 3) := by decide +kernel
theorem dX2_errorOfChoice_5 : decode cX2_errorOfChoice 5 = .ok (.ifCond .eq 11, 3) := by decide +kernel
theorem dX2_errorOfChoice_8 : decode cX2_errorOfChoice 8 = .ok (.aload_n 0, 1) := by decide +kernel
theorem dX2_errorOfChoice_9 : decode cX2_errorOfChoice 9 = .ok (.iload_n 2, 1) := by decide +kernel
theorem dX2_errorOfChoice_10 : decode cX2_errorOfChoice 10 = .ok (.invokevirtual 58, 3) := by decide +kernel
theorem dX2_errorOfChoice_13 : decode cX2_errorOfChoice 13 = .ok (.ifCond .ne 5, 3) := by decide +kernel
theorem dX2_errorOfChoice_16 : decode cX2_errorOfChoice 16 = .ok (.iconst (-1), 1) := by decide +kernel
theorem dX2_errorOfChoice_17 : decode cX2_errorOfChoice 17 = .ok (.ireturn, 1) := by decide +kernel
theorem dX2_errorOfChoice_18 : decode cX2_errorOfChoice 18 = .ok (.iload_n 3, 1) := by decide +kernel
theorem dX2_errorOfChoice_19 : decode cX2_errorOfChoice 19 = .ok (.invokestatic 70, 3) := by decide +kernel
theorem dX2_errorOfChoice_22 : decode cX2_errorOfChoice 22 = .ok (.ifCond .eq 11, 3) := by decide +kernel
theorem dX2_errorOfChoice_25 : decode cX2_errorOfChoice 25 = .ok (.iload 4, 2) := by decide +kernel
theorem dX2_errorOfChoice_27 : decode cX2_errorOfChoice 27 = .ok (.invokestatic 70, 3) := by decide +kernel
theorem dX2_errorOfChoice_30 : decode cX2_errorOfChoice 30 = .ok (.ifCond .ne 6, 3) := by decide +kernel
theorem dX2_errorOfChoice_33 : decode cX2_errorOfChoice 33 = .ok (.bipush (-2), 2) := by decide +kernel
theorem dX2_errorOfChoice_35 : decode cX2_errorOfChoice 35 = .ok (.ireturn, 1) := by decide +kernel
theorem dX2_errorOfChoice_36 : decode cX2_errorOfChoice 36 = .ok (.aload_n 0, 1) := by decide +kernel
theorem dX2_errorOfChoice_37 : decode cX2_errorOfChoice 37 = .ok (.getfield 30, 3) := by decide +kernel
theorem dX2_errorOfChoice_40 : decode cX2_errorOfChoice 40 = .ok (.iload_n 1, 1) := by decide +kernel
theorem dX2_errorOfChoice_41 : decode cX2_errorOfChoice 41 = .ok (.invokevirtual 62, 3) := by decide +kernel
theorem dX2_errorOfChoice_44 : decode cX2_errorOfChoice 44 = .ok (.iconst 3, 1) := by decide +kernel
theorem dX2_errorOfChoice_45 : decode cX2_errorOfChoice 45 = .ok (.if_icmp .lt 8, 3) := by decide +kernel
theorem dX2_errorOfChoice_48 : decode cX2_errorOfChoice 48 = .ok (.bipush (-3), 2) := by decide +kernel
theorem dX2_errorOfChoice_50 : decode cX2_errorOfChoice 50 = .ok (.goto 4, 3) := by decide +kernel
theorem dX2_errorOfChoice_53 : decode cX2_errorOfChoice 53 = .ok (.iconst 0, 1) := by decide +kernel
theorem dX2_errorOfChoice_54 : decode cX2_errorOfChoice 54 = .ok (.ireturn, 1) := by decide +kernel
theorem dX2_appendChoice_0 : decode cX2_appendChoice 0 = .ok (.aload_n 0, 1) := by decide +kernel
theorem dX2_appendChoice_1 : decode cX2_appendChoice 1 = .ok (.getfield 30, 3) := by decide +kernel
theorem dX2_appendChoice_4 : decode cX2_appendChoice 4 = .ok (.iload_n 1, 1) := by decide +kernel
theorem dX2_appendChoice_5 : decode cX2_appendChoice 5 = .ok (.invokevirtual 62, 3) := by decide +kernel
theorem dX2_appendChoice_8 : decode cX2_appendChoice 8 = .ok (.istore 5, 2) := by decide +kernel
theorem dX2_appendChoice_10 : decode cX2_appendChoice 10 = .ok (.iload_n 1, 1) := by decide +kernel
theorem dX2_appendChoice_11 : decode cX2_appendChoice 11 = .ok (.iload 5, 2) := by decide +kernel
theorem dX2_appendChoice_13 : decode cX2_appendChoice 13 = .ok (.invokestatic 73, 3) := by decide +kernel
theorem dX2_appendChoice_16 : decode cX2_appendChoice 16 = .ok (.istore 6, 2) := by decide +kernel
theorem dX2_appendChoice_18 : decode cX2_appendChoice 18 = .ok (.aload_n 0, 1) := by decide +kernel
theorem dX2_appendChoice_19 : decode cX2_appendChoice 19 = .ok (.getfield 33, 3) := by decide +kernel
theorem dX2_appendChoice_22 : decode cX2_appendChoice 22 = .ok (.iload 6, 2) := by decide +kernel
theorem dX2_appendChoice_24 : decode cX2_appendChoice 24 = .ok (.iload_n 2, 1) := by decide +kernel
theorem dX2_appendChoice_25 : decode cX2_appendChoice 25 = .ok (.invokevirtual 66, 3) := by decide +kernel
theorem dX2_appendChoice_28 : decode cX2_appendChoice 28 = .ok (.aload_n 0, 1) := by decide +kernel
theorem dX2_appendChoice_29 : decode cX2_appendChoice 29 = .ok (.getfield 36, 3) := by decide +kernel
theorem dX2_appendChoice_32 : decode cX2_appendChoice 32 = .ok (.iload 6, 2) := by decide +kernel
theorem dX2_appendChoice_34 : decode cX2_appendChoice 34 = .ok (.iload_n 3, 1) := by decide +kernel
theorem dX2_appendChoice_35 : decode cX2_appendChoice 35 = .ok (.invokevirtual 66, 3) := by decide +kernel
theorem dX2_appendChoice_38 : decode cX2_appendChoice 38 = .ok (.aload_n 0, 1) := by decide +kernel
theorem dX2_appendChoice_39 : decode cX2_appendChoice 39 = .ok (.getfield 39, 3) := by decide +kernel
theorem dX2_appendChoice_42 : decode cX2_appendChoice 42 = .ok (.iload 6, 2) := by decide +kernel
theorem dX2_appendChoice_44 : decode cX2_appendChoice 44 = .ok (.iload 4, 2) := by decide +kernel
theorem dX2_appendChoice_46 : decode cX2_appendChoice 46 = .ok (.invokevirtual 66, 3) := by decide +kernel
theorem dX2_appendChoice_49 : decode cX2_appendChoice 49 = .ok (.aload_n 0, 1) := by decide +kernel
theorem dX2_appendChoice_50 : decode cX2_appendChoice 50 = .ok (.getfield 30, 3) := by decide +kernel
theorem dX2_appendChoice_53 : decode cX2_appendChoice 53 = .ok (.iload_n 1, 1) := by decide +kernel
theorem dX2_appendChoice_54 : decode cX2_appendChoice 54 = .ok (.iload 5, 2) := by decide +kernel
theorem dX2_appendChoice_56 : decode cX2_appendChoice 56 = .ok (.iconst 1, 1) := by decide +kernel
theorem dX2_appendChoice_57 : decode cX2_appendChoice 57 = .ok (.iadd, 1) := by decide +kernel
theorem dX2_appendChoice_58 : decode cX2_appendChoice 58 = .ok (.invokevirtual 66, 3) := by decide +kernel
theorem dX2_appendChoice_61 : decode cX2_appendChoice 61 = .ok (.iload 5, 2) := by decide +kernel
theorem dX2_appendChoice_63 : decode cX2_appendChoice 63 = .ok (.ireturn, 1) := by decide +kernel
theorem dX2_removeChoice_0 : decode cX2_removeChoice 0 = .ok (.aload_n 0, 1) := by decide +kernel
theorem dX2_removeChoice_1 : decode cX2_removeChoice 1 = .ok (.getfield 33, 3) := by decide +kernel
theorem dX2_removeChoice_4 : decode cX2_removeChoice 4 = .ok (.iload_n 1, 1) := by decide +kernel
theorem dX2_removeChoice_5 : decode cX2_removeChoice 5 = .ok (.iload_n 2, 1) := by decide +kernel
theorem dX2_removeChoice_6 : decode cX2_removeChoice 6 = .ok (.invokestatic 73, 3) := by decide +kernel
theorem dX2_removeChoice_9 : decode cX2_removeChoice 9 = .ok (.invokevirtual 62, 3) := by decide +kernel
theorem dX2_removeChoice_12 : decode cX2_removeChoice 12 = .ok (.istore_n 3, 1) := by decide +kernel
theorem dX2_removeChoice_13 : decode cX2_removeChoice 13 = .ok (.aload_n 0, 1) := by decide +kernel
theorem dX2_removeChoice_14 : decode cX2_removeChoice 14 = .ok (.getfield 30, 3) := by decide +kernel
theorem dX2_removeChoice_17 : decode cX2_removeChoice 17 = .ok (.iload_n 1, 1) := by decide +kernel
theorem dX2_removeChoice_18 : decode cX2_removeChoice 18 = .ok (.invokevirtual 62, 3) := by decide +kernel
theorem dX2_removeChoice_21 : decode cX2_removeChoice 21 = .ok (.iconst 1, 1) := by decide +kernel
theorem dX2_removeChoice_22 : decode cX2_removeChoice 22 = .ok (.isub, 1) := by decide +kernel
theorem dX2_removeChoice_23 : decode cX2_removeChoice 23 = .ok (.istore 4, 2) := by decide +kernel
theorem dX2_removeChoice_25 : decode cX2_removeChoice 25 = .ok (.iload_n 2, 1) := by decide +kernel
theorem dX2_removeChoice_26 : decode cX2_removeChoice 26 = .ok (.istore 5, 2) := by decide +kernel
theorem dX2_removeChoice_28 : decode cX2_removeChoice 28 = .ok (.iload 5, 2) := by decide +kernel
theorem dX2_removeChoice_30 : decode cX2_removeChoice 30 = .ok (.iload 4, 2) := by decide +kernel
theorem dX2_removeChoice_32 : decode cX2_removeChoice 32 = .ok (.if_icmp .ge 83, 3) := by decide +kernel
theorem dX2_removeChoice_35 : decode cX2_removeChoice 35 = .ok (.iload 5, 2) := by decide +kernel
theorem dX2_removeChoice_37 : decode cX2_removeChoice 37 = .ok (.iconst 3, 1) := by decide +kernel
theorem dX2_removeChoice_38 : decode cX2_removeChoice 38 = .ok (.if_icmp .ge 77, 3) := by decide +kernel
theorem dX2_removeChoice_41 : decode cX2_removeChoice 41 = .ok (.iload_n 1, 1) := by decide +kernel
theorem dX2_removeChoice_42 : decode cX2_removeChoice 42 = .ok (.iload 5, 2) := by decide +kernel
theorem dX2_removeChoice_44 : decode cX2_removeChoice 44 = .ok (.invokestatic 73, 3) := by decide +kernel
theorem dX2_removeChoice_47 : decode cX2_removeChoice 47 = .ok (.istore 6, 2) := by decide +kernel
theorem dX2_removeChoice_49 : decode cX2_removeChoice 49 = .ok (.aload_n 0, 1) := by decide +kernel
theorem dX2_removeChoice_50 : decode cX2_removeChoice 50 = .ok (.getfield 33, 3) := by decide +kernel
theorem dX2_removeChoice_53 : decode cX2_removeChoice 53 = .ok (.iload 6, 2) := by decide +kernel
theorem dX2_removeChoice_55 : decode cX2_removeChoice 55 = .ok (.aload_n 0, 1) := by decide +kernel
theorem dX2_removeChoice_56 : decode cX2_removeChoice 56 = .ok (.getfield 33, 3) := by decide +kernel
theorem dX2_removeChoice_59 : decode cX2_removeChoice 59 = .ok (.iload 6, 2) := by decide +kernel
theorem dX2_removeChoice_61 : decode cX2_removeChoice 61 = .ok (.iconst 1, 1) := by decide +kernel
theorem dX2_removeChoice_62 : decode cX2_removeChoice 62 = .ok (.iadd, 1) := by decide +kernel
theorem dX2_removeChoice_63 : decode cX2_removeChoice 63 = .ok (.invokevirtual 62, 3) := by decide +kernel
theorem dX2_removeChoice_66 : decode cX2_removeChoice 66 = .ok (.invokevirtual 66, 3) := by decide +kernel
theorem dX2_removeChoice_69 : decode cX2_removeChoice 69 = .ok (.aload_n 0, 1) := by decide +kernel
theorem dX2_removeChoice_70 : decode cX2_removeChoice 70 = .ok (.getfield 36, 3) := by decide +kernel
theorem dX2_removeChoice_73 : decode cX2_removeChoice 73 = .ok (.iload 6, 2) := by decide +kernel
theorem dX2_removeChoice_75 : decode cX2_removeChoice 75 = .ok (.aload_n 0, 1) := by decide +kernel
theorem dX2_removeChoice_76 : decode cX2_removeChoice 76 = .ok (.getfield 36, 3) := by decide +kernel
theorem dX2_removeChoice_79 : decode cX2_removeChoice 79 = .ok (.iload 6, 2) := by decide +kernel
theorem dX2_removeChoice_81 : decode cX2_removeChoice 81 = .ok (.iconst 1, 1) := by decide +kernel
theorem dX2_removeChoice_82 : decode cX2_removeChoice 82 = .ok (.iadd, 1) := by decide +kernel
theorem dX2_removeChoice_83 : decode cX2_removeChoice 83 = .ok (.invokevirtual 62, 3) := by decide +kernel
theorem dX2_removeChoice_86 : decode cX2_removeChoice 86 = .ok (.invokevirtual 66, 3) := by decide +kernel
theorem dX2_removeChoice_89 : decode cX2_removeChoice 89 = .ok (.aload_n 0, 1) := by decide +kernel
theorem dX2_removeChoice_90 : decode cX2_removeChoice 90 = .ok (.getfield 39, 3) := by decide +kernel
theorem dX2_removeChoice_93 : decode cX2_removeChoice 93 = .ok (.iload 6, 2) := by decide +kernel
theorem dX2_removeChoice_95 : decode cX2_removeChoice 95 = .ok (.aload_n 0, 1) := by decide +kernel
theorem dX2_removeChoice_96 : decode cX2_removeChoice 96 = .ok (.getfield 39, 3) := by decide +kernel
theorem dX2_removeChoice_99 : decode cX2_removeChoice 99 = .ok (.iload 6, 2) := by decide +kernel
theorem dX2_removeChoice_101 : decode cX2_removeChoice 101 = .ok (.iconst 1, 1) := by decide +kernel
theorem dX2_removeChoice_102 : decode cX2_removeChoice 102 = .ok (.iadd, 1) := by decide +kernel
theorem dX2_removeChoice_103 : decode cX2_removeChoice 103 = .ok (.invokevirtual 62, 3) := by decide +kernel
theorem dX2_removeChoice_106 : decode cX2_removeChoice 106 = .ok (.invokevirtual 66, 3) := by decide +kernel
theorem dX2_removeChoice_109 : decode cX2_removeChoice 109 = .ok (.iinc 5 1, 3) := by decide +kernel
theorem dX2_removeChoice_112 : decode cX2_removeChoice 112 = .ok (.goto (-84), 3) := by decide +kernel
theorem dX2_removeChoice_115 : decode cX2_removeChoice 115 = .ok (.aload_n 0, 1) := by decide +kernel
theorem dX2_removeChoice_116 : decode cX2_removeChoice 116 = .ok (.getfield 30, 3) := by decide +kernel
theorem dX2_removeChoice_119 : decode cX2_removeChoice 119 = .ok (.iload_n 1, 1) := by decide +kernel
theorem dX2_removeChoice_120 : decode cX2_removeChoice 120 = .ok (.iload 4, 2) := by decide +kernel
theorem dX2_removeChoice_122 : decode cX2_removeChoice 122 = .ok (.invokevirtual 66, 3) := by decide +kernel
theorem dX2_removeChoice_125 : decode cX2_removeChoice 125 = .ok (.iload_n 3, 1) := by decide +kernel
theorem dX2_removeChoice_126 : decode cX2_removeChoice 126 = .ok (.ireturn, 1) := by decide +kernel
theorem dX2_swapPages_0 : decode cX2_swapPages 0 = .ok (.aload_n 0, 1) := by decide +kernel
theorem dX2_swapPages_1 : decode cX2_swapPages 1 = .ok (.getfield 20, 3) := by decide +kernel
theorem dX2_swapPages_4 : decode cX2_swapPages 4 = .ok (.iload_n 1, 1) := by decide +kernel
theorem dX2_swapPages_5 : decode cX2_swapPages 5 = .ok (.iload_n 2, 1) := by decide +kernel
theorem dX2_swapPages_6 : decode cX2_swapPages 6 = .ok (.invokevirtual 77, 3) := by decide +kernel
theorem dX2_swapPages_9 : decode cX2_swapPages 9 = .ok (.aload_n 0, 1) := by decide +kernel
theorem dX2_swapPages_10 : decode cX2_swapPages 10 = .ok (.getfield 24, 3) := by decide +kernel
theorem dX2_swapPages_13 : decode cX2_swapPages 13 = .ok (.iload_n 1, 1) := by decide +kernel
theorem dX2_swapPages_14 : decode cX2_swapPages 14 = .ok (.iload_n 2, 1) := by decide +kernel
theorem dX2_swapPages_15 : decode cX2_swapPages 15 = .ok (.invokevirtual 77, 3) := by decide +kernel
theorem dX2_swapPages_18 : decode cX2_swapPages 18 = .ok (.aload_n 0, 1) := by decide +kernel
theorem dX2_swapPages_19 : decode cX2_swapPages 19 = .ok (.getfield 27, 3) := by decide +kernel
theorem dX2_swapPages_22 : decode cX2_swapPages 22 = .ok (.iload_n 1, 1) := by decide +kernel
theorem dX2_swapPages_23 : decode cX2_swapPages 23 = .ok (.iload_n 2, 1) := by decide +kernel
theorem dX2_swapPages_24 : decode cX2_swapPages 24 = .ok (.invokevirtual 77, 3) := by decide +kernel
theorem dX2_swapPages_27 : decode cX2_swapPages 27 = .ok (.aload_n 0, 1) := by decide +kernel
theorem dX2_swapPages_28 : decode cX2_swapPages 28 = .ok (.getfield 30, 3) := by decide +kernel
theorem dX2_swapPages_31 : decode cX2_swapPages 31 = .ok (.iload_n 1, 1) := by decide +kernel
theorem dX2_swapPages_32 : decode cX2_swapPages 32 = .ok (.iload_n 2, 1) := by decide +kernel
theorem dX2_swapPages_33 : decode cX2_swapPages 33 = .ok (.invokevirtual 77, 3) := by decide +kernel
theorem dX2_swapPages_36 : decode cX2_swapPages 36 = .ok (.iconst 0, 1) := by decide +kernel
theorem dX2_swapPages_37 : decode cX2_swapPages 37 = .ok (.istore_n 3, 1) := by decide +kernel
theorem dX2_swapPages_38 : decode cX2_swapPages 38 = .ok (.iload_n 3, 1) := by decide +kernel
theorem dX2_swapPages_39 : decode cX2_swapPages 39 = .ok (.iconst 3, 1) := by decide +kernel
theorem dX2_swapPages_40 : decode cX2_swapPages 40 = .ok (.if_icmp .ge 56, 3) := by decide +kernel
theorem dX2_swapPages_43 : decode cX2_swapPages 43 = .ok (.iload_n 1, 1) := by decide +kernel
theorem dX2_swapPages_44 : decode cX2_swapPages 44 = .ok (.iload_n 3, 1) := by decide +kernel
theorem dX2_swapPages_45 : decode cX2_swapPages 45 = .ok (.invokestatic 73, 3) := by decide +kernel
theorem dX2_swapPages_48 : decode cX2_swapPages 48 = .ok (.istore 4, 2) := by decide +kernel
theorem dX2_swapPages_50 : decode cX2_swapPages 50 = .ok (.iload_n 2, 1) := by decide +kernel
theorem dX2_swapPages_51 : decode cX2_swapPages 51 = .ok (.iload_n 3, 1) := by decide +kernel
theorem dX2_swapPages_52 : decode cX2_swapPages 52 = .ok (.invokestatic 73, 3) := by decide +kernel
theorem dX2_swapPages_55 : decode cX2_swapPages 55 = .ok (.istore 5, 2) := by decide +kernel
theorem dX2_swapPages_57 : decode cX2_swapPages 57 = .ok (.aload_n 0, 1) := by decide +kernel
theorem dX2_swapPages_58 : decode cX2_swapPages 58 = .ok (.getfield 33, 3) := by decide +kernel
theorem dX2_swapPages_61 : decode cX2_swapPages 61 = .ok (.iload 4, 2) := by decide +kernel
theorem dX2_swapPages_63 : decode cX2_swapPages 63 = .ok (.iload 5, 2) := by decide +kernel
theorem dX2_swapPages_65 : decode cX2_swapPages 65 = .ok (.invokevirtual 77, 3) := by decide +kernel
theorem dX2_swapPages_68 : decode cX2_swapPages 68 = .ok (.aload_n 0, 1) := by decide +kernel
theorem dX2_swapPages_69 : decode cX2_swapPages 69 = .ok (.getfield 36, 3) := by decide +kernel
theorem dX2_swapPages_72 : decode cX2_swapPages 72 = .ok (.iload 4, 2) := by decide +kernel
theorem dX2_swapPages_74 : decode cX2_swapPages 74 = .ok (.iload 5, 2) := by decide +kernel
theorem dX2_swapPages_76 : decode cX2_swapPages 76 = .ok (.invokevirtual 77, 3) := by decide +kernel
theorem dX2_swapPages_79 : decode cX2_swapPages 79 = .ok (.aload_n 0, 1) := by decide +kernel
theorem dX2_swapPages_80 : decode cX2_swapPages 80 = .ok (.getfield 39, 3) := by decide +kernel
theorem dX2_swapPages_83 : decode cX2_swapPages 83 = .ok (.iload 4, 2) := by decide +kernel
theorem dX2_swapPages_85 : decode cX2_swapPages 85 = .ok (.iload 5, 2) := by decide +kernel
theorem dX2_swapPages_87 : decode cX2_swapPages 87 = .ok (.invokevirtual 77, 3) := by decide +kernel
theorem dX2_swapPages_90 : decode cX2_swapPages 90 = .ok (.iinc 3 1, 3) := by decide +kernel
theorem dX2_swapPages_93 : decode cX2_swapPages 93 = .ok (.goto (-55), 3) := by decide +kernel
theorem dX2_swapPages_96 : decode cX2_swapPages 96 = .ok (.iconst 0, 1) := by decide +kernel
theorem dX2_swapPages_97 : decode cX2_swapPages 97 = .ok (.istore_n 3, 1) := by decide +kernel
theorem dX2_swapPages_98 : decode cX2_swapPages 98 = .ok (.iload_n 3, 1) := by decide +kernel
theorem dX2_swapPages_99 : decode cX2_swapPages 99 = .ok (.bipush 96, 2) := by decide +kernel
theorem dX2_swapPages_101 : decode cX2_swapPages 101 = .ok (.if_icmp .ge 30, 3) := by decide +kernel
theorem dX2_swapPages_104 : decode cX2_swapPages 104 = .ok (.aload_n 0, 1) := by decide +kernel
theorem dX2_swapPages_105 : decode cX2_swapPages 105 = .ok (.getfield 33, 3) := by decide +kernel
theorem dX2_swapPages_108 : decode cX2_swapPages 108 = .ok (.iload_n 3, 1) := by decide +kernel
theorem dX2_swapPages_109 : decode cX2_swapPages 109 = .ok (.aload_n 0, 1) := by decide +kernel
theorem dX2_swapPages_110 : decode cX2_swapPages 110 = .ok (.getfield 33, 3) := by decide +kernel
theorem dX2_swapPages_113 : decode cX2_swapPages 113 = .ok (.iload_n 3, 1) := by decide +kernel
theorem dX2_swapPages_114 : decode cX2_swapPages 114 = .ok (.invokevirtual 62, 3) := by decide +kernel
theorem dX2_swapPages_117 : decode cX2_swapPages 117 = .ok (.iload_n 1, 1) := by decide +kernel
theorem dX2_swapPages_118 : decode cX2_swapPages 118 = .ok (.iload_n 2, 1) := by decide +kernel
theorem dX2_swapPages_119 : decode cX2_swapPages 119 = .ok (.invokestatic 80, 3) := by decide +kernel
theorem dX2_swapPages_122 : decode cX2_swapPages 122 = .ok (.invokevirtual 66, 3) := by decide +kernel
theorem dX2_swapPages_125 : decode cX2_swapPages 125 = .ok (.iinc 3 1, 3) := by decide +kernel
theorem dX2_swapPages_128 : decode cX2_swapPages 128 = .ok (.goto (-30), 3) := by decide +kernel
theorem dX2_swapPages_131 : decode cX2_swapPages 131 = .ok (.iconst 0, 1) := by decide +kernel
theorem dX2_swapPages_132 : decode cX2_swapPages 132 = .ok (.istore_n 3, 1) := by decide +kernel
theorem dX2_swapPages_133 : decode cX2_swapPages 133 = .ok (.iload_n 3, 1) := by decide +kernel
theorem dX2_swapPages_134 : decode cX2_swapPages 134 = .ok (.iconst 2, 1) := by decide +kernel
theorem dX2_swapPages_135 : decode cX2_swapPages 135 = .ok (.if_icmp .ge 30, 3) := by decide +kernel
theorem dX2_swapPages_138 : decode cX2_swapPages 138 = .ok (.aload_n 0, 1) := by decide +kernel
theorem dX2_swapPages_139 : decode cX2_swapPages 139 = .ok (.getfield 42, 3) := by decide +kernel
theorem dX2_swapPages_142 : decode cX2_swapPages 142 = .ok (.iload_n 3, 1) := by decide +kernel
theorem dX2_swapPages_143 : decode cX2_swapPages 143 = .ok (.aload_n 0, 1) := by decide +kernel
theorem dX2_swapPages_144 : decode cX2_swapPages 144 = .ok (.getfield 42, 3) := by decide +kernel
theorem dX2_swapPages_147 : decode cX2_swapPages 147 = .ok (.iload_n 3, 1) := by decide +kernel
theorem dX2_swapPages_148 : decode cX2_swapPages 148 = .ok (.invokevirtual 62, 3) := by decide +kernel
theorem dX2_swapPages_151 : decode cX2_swapPages 151 = .ok (.iload_n 1, 1) := by decide +kernel
theorem dX2_swapPages_152 : decode cX2_swapPages 152 = .ok (.iload_n 2, 1) := by decide +kernel
theorem dX2_swapPages_153 : decode cX2_swapPages 153 = .ok (.invokestatic 84, 3) := by decide +kernel
theorem dX2_swapPages_156 : decode cX2_swapPages 156 = .ok (.invokevirtual 66, 3) := by decide +kernel
theorem dX2_swapPages_159 : decode cX2_swapPages 159 = .ok (.iinc 3 1, 3) := by decide +kernel
theorem dX2_swapPages_162 : decode cX2_swapPages 162 = .ok (.goto (-29), 3) := by decide +kernel
theorem dX2_swapPages_165 : decode cX2_swapPages 165 = .ok (.aload_n 0, 1) := by decide +kernel
theorem dX2_swapPages_166 : decode cX2_swapPages 166 = .ok (.aload_n 0, 1) := by decide +kernel
theorem dX2_swapPages_167 : decode cX2_swapPages 167 = .ok (.getfield 51, 3) := by decide +kernel
theorem dX2_swapPages_170 : decode cX2_swapPages 170 = .ok (.iload_n 1, 1) := by decide +kernel
theorem dX2_swapPages_171 : decode cX2_swapPages 171 = .ok (.iload_n 2, 1) := by decide +kernel
theorem dX2_swapPages_172 : decode cX2_swapPages 172 = .ok (.invokestatic 84, 3) := by decide +kernel
theorem dX2_swapPages_175 : decode cX2_swapPages 175 = .ok (.putfield 51, 3) := by decide +kernel
theorem dX2_swapPages_178 : decode cX2_swapPages 178 = .ok (.return_, 1) := by decide +kernel
theorem dX2_renumbered_0 : decode cX2_renumbered 0 = .ok (.iload_n 0, 1) := by decide +kernel
theorem dX2_renumbered_1 : decode cX2_renumbered 1 = .ok (.iload_n 1, 1) := by decide +kernel
theorem dX2_renumbered_2 : decode cX2_renumbered 2 = .ok (.if_icmp .ne 5, 3) := by decide +kernel
theorem dX2_renumbered_5 : decode cX2_renumbered 5 = .ok (.iload_n 2, 1) := by decide +kernel
theorem dX2_renumbered_6 : decode cX2_renumbered 6 = .ok (.ireturn, 1) := by decide +kernel
theorem dX2_renumbered_7 : decode cX2_renumbered 7 = .ok (.iload_n 0, 1) := by decide +kernel
theorem dX2_renumbered_8 : decode cX2_renumbered 8 = .ok (.iload_n 2, 1) := by decide +kernel
theorem dX2_renumbered_9 : decode cX2_renumbered 9 = .ok (.if_icmp .ne 7, 3) := by decide +kernel
theorem dX2_renumbered_12 : decode cX2_renumbered 12 = .ok (.iload_n 1, 1) := by decide +kernel
theorem dX2_renumbered_13 : decode cX2_renumbered 13 = .ok (.goto 4, 3) := by decide +kernel
theorem dX2_renumbered_16 : decode cX2_renumbered 16 = .ok (.iload_n 0, 1) := by decide +kernel
theorem dX2_renumbered_17 : decode cX2_renumbered 17 = .ok (.ireturn, 1) := by decide +kernel
theorem dX2_moved_0 : decode cX2_moved 0 = .ok (.iload_n 0, 1) := by decide +kernel
theorem dX2_moved_1 : decode cX2_moved 1 = .ok (.iconst (-1), 1) := by decide +kernel
theorem dX2_moved_2 : decode cX2_moved 2 = .ok (.if_icmp .ne 5, 3) := by decide +kernel
theorem dX2_moved_5 : decode cX2_moved 5 = .ok (.iconst (-1), 1) := by decide +kernel
theorem dX2_moved_6 : decode cX2_moved 6 = .ok (.ireturn, 1) := by decide +kernel
theorem dX2_moved_7 : decode cX2_moved 7 = .ok (.iload_n 0, 1) := by decide +kernel
theorem dX2_moved_8 : decode cX2_moved 8 = .ok (.invokestatic 87, 3) := by decide +kernel
theorem dX2_moved_11 : decode cX2_moved 11 = .ok (.iload_n 1, 1) := by decide +kernel
theorem dX2_moved_12 : decode cX2_moved 12 = .ok (.iload_n 2, 1) := by decide +kernel
theorem dX2_moved_13 : decode cX2_moved 13 = .ok (.invokestatic 80, 3) := by decide +kernel
theorem dX2_moved_16 : decode cX2_moved 16 = .ok (.iload_n 0, 1) := by decide +kernel
theorem dX2_moved_17 : decode cX2_moved 17 = .ok (.invokestatic 90, 3) := by decide +kernel
theorem dX2_moved_20 : decode cX2_moved 20 = .ok (.invokestatic 93, 3) := by decide +kernel
theorem dX2_moved_23 : decode cX2_moved 23 = .ok (.ireturn, 1) := by decide +kernel
theorem dX2_allChoices_0 : decode cX2_allChoices 0 = .ok (.iconst 0, 1) := by decide +kernel
theorem dX2_allChoices_1 : decode cX2_allChoices 1 = .ok (.istore_n 1, 1) := by decide +kernel
theorem dX2_allChoices_2 : decode cX2_allChoices 2 = .ok (.iconst 0, 1) := by decide +kernel
theorem dX2_allChoices_3 : decode cX2_allChoices 3 = .ok (.istore_n 2, 1) := by decide +kernel
theorem dX2_allChoices_4 : decode cX2_allChoices 4 = .ok (.iload_n 2, 1) := by decide +kernel
theorem dX2_allChoices_5 : decode cX2_allChoices 5 = .ok (.aload_n 0, 1) := by decide +kernel
theorem dX2_allChoices_6 : decode cX2_allChoices 6 = .ok (.getfield 9, 3) := by decide +kernel
theorem dX2_allChoices_9 : decode cX2_allChoices 9 = .ok (.if_icmp .ge 20, 3) := by decide +kernel
theorem dX2_allChoices_12 : decode cX2_allChoices 12 = .ok (.iload_n 1, 1) := by decide +kernel
theorem dX2_allChoices_13 : decode cX2_allChoices 13 = .ok (.aload_n 0, 1) := by decide +kernel
theorem dX2_allChoices_14 : decode cX2_allChoices 14 = .ok (.getfield 30, 3) := by decide +kernel
theorem dX2_allChoices_17 : decode cX2_allChoices 17 = .ok (.iload_n 2, 1) := by decide +kernel
theorem dX2_allChoices_18 : decode cX2_allChoices 18 = .ok (.invokevirtual 62, 3) := by decide +kernel
theorem dX2_allChoices_21 : decode cX2_allChoices 21 = .ok (.iadd, 1) := by decide +kernel
theorem dX2_allChoices_22 : decode cX2_allChoices 22 = .ok (.istore_n 1, 1) := by decide +kernel
theorem dX2_allChoices_23 : decode cX2_allChoices 23 = .ok (.iinc 2 1, 3) := by decide +kernel
theorem dX2_allChoices_26 : decode cX2_allChoices 26 = .ok (.goto (-22), 3) := by decide +kernel
theorem dX2_allChoices_29 : decode cX2_allChoices 29 = .ok (.iload_n 1, 1) := by decide +kernel
theorem dX2_allChoices_30 : decode cX2_allChoices 30 = .ok (.ireturn, 1) := by decide +kernel
theorem dX2_choicesTo_0 : decode cX2_choicesTo 0 = .ok (.iconst 0, 1) := by decide +kernel
theorem dX2_choicesTo_1 : decode cX2_choicesTo 1 = .ok (.istore_n 2, 1) := by decide +kernel
theorem dX2_choicesTo_2 : decode cX2_choicesTo 2 = .ok (.iconst 0, 1) := by decide +kernel
theorem dX2_choicesTo_3 : decode cX2_choicesTo 3 = .ok (.istore_n 3, 1) := by decide +kernel
theorem dX2_choicesTo_4 : decode cX2_choicesTo 4 = .ok (.iload_n 3, 1) := by decide +kernel
theorem dX2_choicesTo_5 : decode cX2_choicesTo 5 = .ok (.aload_n 0, 1) := by decide +kernel
theorem dX2_choicesTo_6 : decode cX2_choicesTo 6 = .ok (.getfield 9, 3) := by decide +kernel
theorem dX2_choicesTo_9 : decode cX2_choicesTo 9 = .ok (.if_icmp .ge 65, 3) := by decide +kernel
theorem dX2_choicesTo_12 : decode cX2_choicesTo 12 = .ok (.iconst 0, 1) := by decide +kernel
theorem dX2_choicesTo_13 : decode cX2_choicesTo 13 = .ok (.istore 4, 2) := by decide +kernel
theorem dX2_choicesTo_15 : decode cX2_choicesTo 15 = .ok (.iload 4, 2) := by decide +kernel
theorem dX2_choicesTo_17 : decode cX2_choicesTo 17 = .ok (.aload_n 0, 1) := by decide +kernel
theorem dX2_choicesTo_18 : decode cX2_choicesTo 18 = .ok (.getfield 30, 3) := by decide +kernel
theorem dX2_choicesTo_21 : decode cX2_choicesTo 21 = .ok (.iload_n 3, 1) := by decide +kernel
theorem dX2_choicesTo_22 : decode cX2_choicesTo 22 = .ok (.invokevirtual 62, 3) := by decide +kernel
theorem dX2_choicesTo_25 : decode cX2_choicesTo 25 = .ok (.if_icmp .ge 43, 3) := by decide +kernel
theorem dX2_choicesTo_28 : decode cX2_choicesTo 28 = .ok (.iload 4, 2) := by decide +kernel
theorem dX2_choicesTo_30 : decode cX2_choicesTo 30 = .ok (.iconst 3, 1) := by decide +kernel
theorem dX2_choicesTo_31 : decode cX2_choicesTo 31 = .ok (.if_icmp .ge 37, 3) := by decide +kernel
theorem dX2_choicesTo_34 : decode cX2_choicesTo 34 = .ok (.iload_n 2, 1) := by decide +kernel
theorem dX2_choicesTo_35 : decode cX2_choicesTo 35 = .ok (.aload_n 0, 1) := by decide +kernel
theorem dX2_choicesTo_36 : decode cX2_choicesTo 36 = .ok (.getfield 33, 3) := by decide +kernel
theorem dX2_choicesTo_39 : decode cX2_choicesTo 39 = .ok (.iload_n 3, 1) := by decide +kernel
theorem dX2_choicesTo_40 : decode cX2_choicesTo 40 = .ok (.iload 4, 2) := by decide +kernel
theorem dX2_choicesTo_42 : decode cX2_choicesTo 42 = .ok (.invokestatic 73, 3) := by decide +kernel
theorem dX2_choicesTo_45 : decode cX2_choicesTo 45 = .ok (.invokevirtual 62, 3) := by decide +kernel
theorem dX2_choicesTo_48 : decode cX2_choicesTo 48 = .ok (.iload_n 1, 1) := by decide +kernel
theorem dX2_choicesTo_49 : decode cX2_choicesTo 49 = .ok (.if_icmp .ne 7, 3) := by decide +kernel
theorem dX2_choicesTo_52 : decode cX2_choicesTo 52 = .ok (.iconst 1, 1) := by decide +kernel
theorem dX2_choicesTo_53 : decode cX2_choicesTo 53 = .ok (.goto 4, 3) := by decide +kernel
theorem dX2_choicesTo_56 : decode cX2_choicesTo 56 = .ok (.iconst 0, 1) := by decide +kernel
theorem dX2_choicesTo_57 : decode cX2_choicesTo 57 = .ok (.invokestatic 96, 3) := by decide +kernel
theorem dX2_choicesTo_60 : decode cX2_choicesTo 60 = .ok (.iadd, 1) := by decide +kernel
theorem dX2_choicesTo_61 : decode cX2_choicesTo 61 = .ok (.istore_n 2, 1) := by decide +kernel
theorem dX2_choicesTo_62 : decode cX2_choicesTo 62 = .ok (.iinc 4 1, 3) := by decide +kernel
theorem dX2_choicesTo_65 : decode cX2_choicesTo 65 = .ok (.goto (-50), 3) := by decide +kernel
theorem dX2_choicesTo_68 : decode cX2_choicesTo 68 = .ok (.iinc 3 1, 3) := by decide +kernel
theorem dX2_choicesTo_71 : decode cX2_choicesTo 71 = .ok (.goto (-67), 3) := by decide +kernel
theorem dX2_choicesTo_74 : decode cX2_choicesTo 74 = .ok (.iload_n 2, 1) := by decide +kernel
theorem dX2_choicesTo_75 : decode cX2_choicesTo 75 = .ok (.ireturn, 1) := by decide +kernel
theorem dX2_moodOf_0 : decode cX2_moodOf 0 = .ok (.aload_n 0, 1) := by decide +kernel
theorem dX2_moodOf_1 : decode cX2_moodOf 1 = .ok (.getfield 20, 3) := by decide +kernel
theorem dX2_moodOf_4 : decode cX2_moodOf 4 = .ok (.iload_n 1, 1) := by decide +kernel
theorem dX2_moodOf_5 : decode cX2_moodOf 5 = .ok (.invokevirtual 62, 3) := by decide +kernel
theorem dX2_moodOf_8 : decode cX2_moodOf 8 = .ok (.i2f, 1) := by decide +kernel
theorem dX2_moodOf_9 : decode cX2_moodOf 9 = .ok (.ldc 100, 2) := by decide +kernel
theorem dX2_moodOf_11 : decode cX2_moodOf 11 = .ok (.fdiv, 1) := by decide +kernel
theorem dX2_moodOf_12 : decode cX2_moodOf 12 = .ok (.freturn, 1) := by decide +kernel
theorem dX2_kindOf_0 : decode cX2_kindOf 0 = .ok (.aload_n 0, 1) := by decide +kernel
theorem dX2_kindOf_1 : decode cX2_kindOf 1 = .ok (.getfield 30, 3) := by decide +kernel
theorem dX2_kindOf_4 : decode cX2_kindOf 4 = .ok (.iload_n 1, 1) := by decide +kernel
theorem dX2_kindOf_5 : decode cX2_kindOf 5 = .ok (.invokevirtual 62, 3) := by decide +kernel
theorem dX2_kindOf_8 : decode cX2_kindOf 8 = .ok (.ifCond .le 5, 3) := by decide +kernel
theorem dX2_kindOf_11 : decode cX2_kindOf 11 = .ok (.iconst 0, 1) := by decide +kernel
theorem dX2_kindOf_12 : decode cX2_kindOf 12 = .ok (.ireturn, 1) := by decide +kernel
theorem dX2_kindOf_13 : decode cX2_kindOf 13 = .ok (.aload_n 0, 1) := by decide +kernel
theorem dX2_kindOf_14 : decode cX2_kindOf 14 = .ok (.iload_n 1, 1) := by decide +kernel
theorem dX2_kindOf_15 : decode cX2_kindOf 15 = .ok (.invokevirtual 101, 3) := by decide +kernel
theorem dX2_kindOf_18 : decode cX2_kindOf 18 = .ok (.fconst 0, 1) := by decide +kernel
theorem dX2_kindOf_19 : decode cX2_kindOf 19 = .ok (.fcmp .l, 1) := by decide +kernel
theorem dX2_kindOf_20 : decode cX2_kindOf 20 = .ok (.ifCond .le 7, 3) := by decide +kernel
theorem dX2_kindOf_23 : decode cX2_kindOf 23 = .ok (.iconst 1, 1) := by decide +kernel
theorem dX2_kindOf_24 : decode cX2_kindOf 24 = .ok (.goto 4, 3) := by decide +kernel
theorem dX2_kindOf_27 : decode cX2_kindOf 27 = .ok (.iconst 2, 1) := by decide +kernel
theorem dX2_kindOf_28 : decode cX2_kindOf 28 = .ok (.ireturn, 1) := by decide +kernel
theorem dX2_placeComingTo_0 : decode cX2_placeComingTo 0 = .ok (.iload_n 1, 1) := by decide +kernel
theorem dX2_placeComingTo_1 : decode cX2_placeComingTo 1 = .ok (.iload_n 2, 1) := by decide +kernel
theorem dX2_placeComingTo_2 : decode cX2_placeComingTo 2 = .ok (.aload_n 0, 1) := by decide +kernel
theorem dX2_placeComingTo_3 : decode cX2_placeComingTo 3 = .ok (.getfield 27, 3) := by decide +kernel
theorem dX2_placeComingTo_6 : decode cX2_placeComingTo 6 = .ok (.iload_n 1, 1) := by decide +kernel
theorem dX2_placeComingTo_7 : decode cX2_placeComingTo 7 = .ok (.invokevirtual 62, 3) := by decide +kernel
theorem dX2_placeComingTo_10 : decode cX2_placeComingTo 10 = .ok (.iconst (-1), 1) := by decide +kernel
theorem dX2_placeComingTo_11 : decode cX2_placeComingTo 11 = .ok (.ixor, 1) := by decide +kernel
theorem dX2_placeComingTo_12 : decode cX2_placeComingTo 12 = .ok (.iand, 1) := by decide +kernel
theorem dX2_placeComingTo_13 : decode cX2_placeComingTo 13 = .ok (.aload_n 0, 1) := by decide +kernel
theorem dX2_placeComingTo_14 : decode cX2_placeComingTo 14 = .ok (.getfield 24, 3) := by decide +kernel
theorem dX2_placeComingTo_17 : decode cX2_placeComingTo 17 = .ok (.iload_n 1, 1) := by decide +kernel
theorem dX2_placeComingTo_18 : decode cX2_placeComingTo 18 = .ok (.invokevirtual 62, 3) := by decide +kernel
theorem dX2_placeComingTo_21 : decode cX2_placeComingTo 21 = .ok (.ior, 1) := by decide +kernel
theorem dX2_placeComingTo_22 : decode cX2_placeComingTo 22 = .ok (.invokestatic 93, 3) := by decide +kernel
theorem dX2_placeComingTo_25 : decode cX2_placeComingTo 25 = .ok (.ireturn, 1) := by decide +kernel
theorem dX2_firstPlace_0 : decode cX2_firstPlace 0 = .ok (.aload_n 0, 1) := by decide +kernel
theorem dX2_firstPlace_1 : decode cX2_firstPlace 1 = .ok (.iconst 0, 1) := by decide +kernel
theorem dX2_firstPlace_2 : decode cX2_firstPlace 2 = .ok (.iconst 0, 1) := by decide +kernel
theorem dX2_firstPlace_3 : decode cX2_firstPlace 3 = .ok (.invokevirtual 105, 3) := by decide +kernel
theorem dX2_firstPlace_6 : decode cX2_firstPlace 6 = .ok (.ireturn, 1) := by decide +kernel
theorem dX2_placeBehind_0 : decode cX2_placeBehind 0 = .ok (.aload_n 0, 1) := by decide +kernel
theorem dX2_placeBehind_1 : decode cX2_placeBehind 1 = .ok (.aload_n 0, 1) := by decide +kernel
theorem dX2_placeBehind_2 : decode cX2_placeBehind 2 = .ok (.getfield 33, 3) := by decide +kernel
theorem dX2_placeBehind_5 : decode cX2_placeBehind 5 = .ok (.iload_n 1, 1) := by decide +kernel
theorem dX2_placeBehind_6 : decode cX2_placeBehind 6 = .ok (.invokestatic 87, 3) := by decide +kernel
theorem dX2_placeBehind_9 : decode cX2_placeBehind 9 = .ok (.iload_n 2, 1) := by decide +kernel
theorem dX2_placeBehind_10 : decode cX2_placeBehind 10 = .ok (.invokestatic 73, 3) := by decide +kernel
theorem dX2_placeBehind_13 : decode cX2_placeBehind 13 = .ok (.invokevirtual 62, 3) := by decide +kernel
theorem dX2_placeBehind_16 : decode cX2_placeBehind 16 = .ok (.iload_n 1, 1) := by decide +kernel
theorem dX2_placeBehind_17 : decode cX2_placeBehind 17 = .ok (.invokestatic 90, 3) := by decide +kernel
theorem dX2_placeBehind_20 : decode cX2_placeBehind 20 = .ok (.invokevirtual 105, 3) := by decide +kernel
theorem dX2_placeBehind_23 : decode cX2_placeBehind 23 = .ok (.ireturn, 1) := by decide +kernel
theorem dX2_reasonAt_0 : decode cX2_reasonAt 0 = .ok (.iload_n 1, 1) := by decide +kernel
theorem dX2_reasonAt_1 : decode cX2_reasonAt 1 = .ok (.invokestatic 87, 3) := by decide +kernel
theorem dX2_reasonAt_4 : decode cX2_reasonAt 4 = .ok (.istore_n 3, 1) := by decide +kernel
theorem dX2_reasonAt_5 : decode cX2_reasonAt 5 = .ok (.iload_n 1, 1) := by decide +kernel
theorem dX2_reasonAt_6 : decode cX2_reasonAt 6 = .ok (.invokestatic 90, 3) := by decide +kernel
theorem dX2_reasonAt_9 : decode cX2_reasonAt 9 = .ok (.istore 4, 2) := by decide +kernel
theorem dX2_reasonAt_11 : decode cX2_reasonAt 11 = .ok (.iload_n 2, 1) := by decide +kernel
theorem dX2_reasonAt_12 : decode cX2_reasonAt 12 = .ok (.ifCond .lt 15, 3) := by decide +kernel
theorem dX2_reasonAt_15 : decode cX2_reasonAt 15 = .ok (.iload_n 2, 1) := by decide +kernel
theorem dX2_reasonAt_16 : decode cX2_reasonAt 16 = .ok (.aload_n 0, 1) := by decide +kernel
theorem dX2_reasonAt_17 : decode cX2_reasonAt 17 = .ok (.getfield 30, 3) := by decide +kernel
theorem dX2_reasonAt_20 : decode cX2_reasonAt 20 = .ok (.iload_n 3, 1) := by decide +kernel
theorem dX2_reasonAt_21 : decode cX2_reasonAt 21 = .ok (.invokevirtual 62, 3) := by decide +kernel
theorem dX2_reasonAt_24 : decode cX2_reasonAt 24 = .ok (.if_icmp .lt 5, 3) := by decide +kernel
theorem dX2_reasonAt_27 : decode cX2_reasonAt 27 = .ok (.iconst 2, 1) := by decide +kernel
theorem dX2_reasonAt_28 : decode cX2_reasonAt 28 = .ok (.ireturn, 1) := by decide +kernel
theorem dX2_reasonAt_29 : decode cX2_reasonAt 29 = .ok (.iload_n 3, 1) := by decide +kernel
theorem dX2_reasonAt_30 : decode cX2_reasonAt 30 = .ok (.iload_n 2, 1) := by decide +kernel
theorem dX2_reasonAt_31 : decode cX2_reasonAt 31 = .ok (.invokestatic 73, 3) := by decide +kernel
theorem dX2_reasonAt_34 : decode cX2_reasonAt 34 = .ok (.istore 5, 2) := by decide +kernel
theorem dX2_reasonAt_36 : decode cX2_reasonAt 36 = .ok (.aload_n 0, 1) := by decide +kernel
theorem dX2_reasonAt_37 : decode cX2_reasonAt 37 = .ok (.getfield 36, 3) := by decide +kernel
theorem dX2_reasonAt_40 : decode cX2_reasonAt 40 = .ok (.iload 5, 2) := by decide +kernel
theorem dX2_reasonAt_42 : decode cX2_reasonAt 42 = .ok (.invokevirtual 62, 3) := by decide +kernel
theorem dX2_reasonAt_45 : decode cX2_reasonAt 45 = .ok (.iload 4, 2) := by decide +kernel
theorem dX2_reasonAt_47 : decode cX2_reasonAt 47 = .ok (.iconst (-1), 1) := by decide +kernel
theorem dX2_reasonAt_48 : decode cX2_reasonAt 48 = .ok (.ixor, 1) := by decide +kernel
theorem dX2_reasonAt_49 : decode cX2_reasonAt 49 = .ok (.iand, 1) := by decide +kernel
theorem dX2_reasonAt_50 : decode cX2_reasonAt 50 = .ok (.ifCond .eq 5, 3) := by decide +kernel
theorem dX2_reasonAt_53 : decode cX2_reasonAt 53 = .ok (.iconst 3, 1) := by decide +kernel
theorem dX2_reasonAt_54 : decode cX2_reasonAt 54 = .ok (.ireturn, 1) := by decide +kernel
theorem dX2_reasonAt_55 : decode cX2_reasonAt 55 = .ok (.aload_n 0, 1) := by decide +kernel
theorem dX2_reasonAt_56 : decode cX2_reasonAt 56 = .ok (.getfield 39, 3) := by decide +kernel
theorem dX2_reasonAt_59 : decode cX2_reasonAt 59 = .ok (.iload 5, 2) := by decide +kernel
theorem dX2_reasonAt_61 : decode cX2_reasonAt 61 = .ok (.invokevirtual 62, 3) := by decide +kernel
theorem dX2_reasonAt_64 : decode cX2_reasonAt 64 = .ok (.iload 4, 2) := by decide +kernel
theorem dX2_reasonAt_66 : decode cX2_reasonAt 66 = .ok (.iand, 1) := by decide +kernel
theorem dX2_reasonAt_67 : decode cX2_reasonAt 67 = .ok (.ifCond .eq 7, 3) := by decide +kernel
theorem dX2_reasonAt_70 : decode cX2_reasonAt 70 = .ok (.iconst 4, 1) := by decide +kernel
theorem dX2_reasonAt_71 : decode cX2_reasonAt 71 = .ok (.goto 4, 3) := by decide +kernel
theorem dX2_reasonAt_74 : decode cX2_reasonAt 74 = .ok (.iconst 0, 1) := by decide +kernel
theorem dX2_reasonAt_75 : decode cX2_reasonAt 75 = .ok (.ireturn, 1) := by decide +kernel
theorem dX2_reasonAgainst_0 : decode cX2_reasonAgainst 0 = .ok (.aload_n 0, 1) := by decide +kernel
theorem dX2_reasonAgainst_1 : decode cX2_reasonAgainst 1 = .ok (.getfield 42, 3) := by decide +kernel
theorem dX2_reasonAgainst_4 : decode cX2_reasonAgainst 4 = .ok (.iload_n 1, 1) := by decide +kernel
theorem dX2_reasonAgainst_5 : decode cX2_reasonAgainst 5 = .ok (.invokevirtual 62, 3) := by decide +kernel
theorem dX2_reasonAgainst_8 : decode cX2_reasonAgainst 8 = .ok (.istore_n 3, 1) := by decide +kernel
theorem dX2_reasonAgainst_9 : decode cX2_reasonAgainst 9 = .ok (.iload_n 3, 1) := by decide +kernel
theorem dX2_reasonAgainst_10 : decode cX2_reasonAgainst 10 = .ok (.iconst (-1), 1) := by decide +kernel
theorem dX2_reasonAgainst_11 : decode cX2_reasonAgainst 11 = .ok (.if_icmp .ne 7, 3) := by decide +kernel
theorem dX2_reasonAgainst_14 : decode cX2_reasonAgainst 14 = .ok (.iconst 1, 1) := by decide +kernel
theorem dX2_reasonAgainst_15 : decode cX2_reasonAgainst 15 = .ok (.goto 9, 3) := by decide +kernel
theorem dX2_reasonAgainst_18 : decode cX2_reasonAgainst 18 = .ok (.aload_n 0, 1) := by decide +kernel
theorem dX2_reasonAgainst_19 : decode cX2_reasonAgainst 19 = .ok (.iload_n 3, 1) := by decide +kernel
theorem dX2_reasonAgainst_20 : decode cX2_reasonAgainst 20 = .ok (.iload_n 2, 1) := by decide +kernel
theorem dX2_reasonAgainst_21 : decode cX2_reasonAgainst 21 = .ok (.invokevirtual 108, 3) := by decide +kernel
theorem dX2_reasonAgainst_24 : decode cX2_reasonAgainst 24 = .ok (.ireturn, 1) := by decide +kernel
theorem dX2_openChoices_0 : decode cX2_openChoices 0 = .ok (.iconst 0, 1) := by decide +kernel
theorem dX2_openChoices_1 : decode cX2_openChoices 1 = .ok (.istore_n 2, 1) := by decide +kernel
theorem dX2_openChoices_2 : decode cX2_openChoices 2 = .ok (.iconst 0, 1) := by decide +kernel
theorem dX2_openChoices_3 : decode cX2_openChoices 3 = .ok (.istore_n 3, 1) := by decide +kernel
theorem dX2_openChoices_4 : decode cX2_openChoices 4 = .ok (.iload_n 3, 1) := by decide +kernel
theorem dX2_openChoices_5 : decode cX2_openChoices 5 = .ok (.iconst 3, 1) := by decide +kernel
theorem dX2_openChoices_6 : decode cX2_openChoices 6 = .ok (.if_icmp .ge 24, 3) := by decide +kernel
theorem dX2_openChoices_9 : decode cX2_openChoices 9 = .ok (.aload_n 0, 1) := by decide +kernel
theorem dX2_openChoices_10 : decode cX2_openChoices 10 = .ok (.iload_n 1, 1) := by decide +kernel
theorem dX2_openChoices_11 : decode cX2_openChoices 11 = .ok (.iload_n 3, 1) := by decide +kernel
theorem dX2_openChoices_12 : decode cX2_openChoices 12 = .ok (.invokevirtual 108, 3) := by decide +kernel
theorem dX2_openChoices_15 : decode cX2_openChoices 15 = .ok (.ifCond .ne 9, 3) := by decide +kernel
theorem dX2_openChoices_18 : decode cX2_openChoices 18 = .ok (.iload_n 2, 1) := by decide +kernel
theorem dX2_openChoices_19 : decode cX2_openChoices 19 = .ok (.iconst 1, 1) := by decide +kernel
theorem dX2_openChoices_20 : decode cX2_openChoices 20 = .ok (.iload_n 3, 1) := by decide +kernel
theorem dX2_openChoices_21 : decode cX2_openChoices 21 = .ok (.ishl, 1) := by decide +kernel
theorem dX2_openChoices_22 : decode cX2_openChoices 22 = .ok (.ior, 1) := by decide +kernel
theorem dX2_openChoices_23 : decode cX2_openChoices 23 = .ok (.istore_n 2, 1) := by decide +kernel
theorem dX2_openChoices_24 : decode cX2_openChoices 24 = .ok (.iinc 3 1, 3) := by decide +kernel
theorem dX2_openChoices_27 : decode cX2_openChoices 27 = .ok (.goto (-23), 3) := by decide +kernel
theorem dX2_openChoices_30 : decode cX2_openChoices 30 = .ok (.iload_n 2, 1) := by decide +kernel
theorem dX2_openChoices_31 : decode cX2_openChoices 31 = .ok (.ireturn, 1) := by decide +kernel
theorem dX2_putReader_0 : decode cX2_putReader 0 = .ok (.aload_n 0, 1) := by decide +kernel
theorem dX2_putReader_1 : decode cX2_putReader 1 = .ok (.getfield 42, 3) := by decide +kernel
theorem dX2_putReader_4 : decode cX2_putReader 4 = .ok (.iload_n 1, 1) := by decide +kernel
theorem dX2_putReader_5 : decode cX2_putReader 5 = .ok (.iload_n 2, 1) := by decide +kernel
theorem dX2_putReader_6 : decode cX2_putReader 6 = .ok (.invokevirtual 66, 3) := by decide +kernel
theorem dX2_putReader_9 : decode cX2_putReader 9 = .ok (.aload_n 0, 1) := by decide +kernel
theorem dX2_putReader_10 : decode cX2_putReader 10 = .ok (.getfield 48, 3) := by decide +kernel
theorem dX2_putReader_13 : decode cX2_putReader 13 = .ok (.iload_n 1, 1) := by decide +kernel
theorem dX2_putReader_14 : decode cX2_putReader 14 = .ok (.iload_n 3, 1) := by decide +kernel
theorem dX2_putReader_15 : decode cX2_putReader 15 = .ok (.invokevirtual 66, 3) := by decide +kernel
theorem dX2_putReader_18 : decode cX2_putReader 18 = .ok (.return_, 1) := by decide +kernel
theorem dX3_init_0 : decode cX3_init 0 = .ok (.aload_n 0, 1) := by decide +kernel
theorem dX3_init_1 : decode cX3_init 1 = .ok (.invokespecial 3, 3) := by decide +kernel
theorem dX3_init_4 : decode cX3_init 4 = .ok (.aload_n 0, 1) := by decide +kernel
theorem dX3_init_5 : decode cX3_init 5 = .ok (.iconst 0, 1) := by decide +kernel
theorem dX3_init_6 : decode cX3_init 6 = .ok (.putfield 9, 3) := by decide +kernel
theorem dX3_init_9 : decode cX3_init 9 = .ok (.aload_n 0, 1) := by decide +kernel
theorem dX3_init_10 : decode cX3_init 10 = .ok (.iconst 0, 1) := by decide +kernel
theorem dX3_init_11 : decode cX3_init 11 = .ok (.putfield 15, 3) := by decide +kernel
theorem dX3_init_14 : decode cX3_init 14 = .ok (.aload_n 0, 1) := by decide +kernel
theorem dX3_init_15 : decode cX3_init 15 = .ok (.iconst 0, 1) := by decide +kernel
theorem dX3_init_16 : decode cX3_init 16 = .ok (.putfield 19, 3) := by decide +kernel
theorem dX3_init_19 : decode cX3_init 19 = .ok (.aload_n 0, 1) := by decide +kernel
theorem dX3_init_20 : decode cX3_init 20 = .ok (.new 22, 3) := by decide +kernel
theorem dX3_init_23 : decode cX3_init 23 = .ok (.dup, 1) := by decide +kernel
theorem dX3_init_24 : decode cX3_init 24 = .ok (.sipush 1024, 3) := by decide +kernel
theorem dX3_init_27 : decode cX3_init 27 = .ok (.invokespecial 24, 3) := by decide +kernel
theorem dX3_init_30 : decode cX3_init 30 = .ok (.putfield 27, 3) := by decide +kernel
theorem dX3_init_33 : decode cX3_init 33 = .ok (.aload_n 0, 1) := by decide +kernel
theorem dX3_init_34 : decode cX3_init 34 = .ok (.new 22, 3) := by decide +kernel
theorem dX3_init_37 : decode cX3_init 37 = .ok (.dup, 1) := by decide +kernel
theorem dX3_init_38 : decode cX3_init 38 = .ok (.sipush 1024, 3) := by decide +kernel
theorem dX3_init_41 : decode cX3_init 41 = .ok (.invokespecial 24, 3) := by decide +kernel
theorem dX3_init_44 : decode cX3_init 44 = .ok (.putfield 31, 3) := by decide +kernel
theorem dX3_init_47 : decode cX3_init 47 = .ok (.aload_n 0, 1) := by decide +kernel
theorem dX3_init_48 : decode cX3_init 48 = .ok (.new 22, 3) := by decide +kernel
theorem dX3_init_51 : decode cX3_init 51 = .ok (.dup, 1) := by decide +kernel
theorem dX3_init_52 : decode cX3_init 52 = .ok (.sipush 1024, 3) := by decide +kernel
theorem dX3_init_55 : decode cX3_init 55 = .ok (.invokespecial 24, 3) := by decide +kernel
theorem dX3_init_58 : decode cX3_init 58 = .ok (.putfield 34, 3) := by decide +kernel
theorem dX3_init_61 : decode cX3_init 61 = .ok (.aload_n 0, 1) := by decide +kernel
theorem dX3_init_62 : decode cX3_init 62 = .ok (.new 22, 3) := by decide +kernel
theorem dX3_init_65 : decode cX3_init 65 = .ok (.dup, 1) := by decide +kernel
theorem dX3_init_66 : decode cX3_init 66 = .ok (.sipush 1024, 3) := by decide +kernel
theorem dX3_init_69 : decode cX3_init 69 = .ok (.invokespecial 24, 3) := by decide +kernel
theorem dX3_init_72 : decode cX3_init 72 = .ok (.putfield 37, 3) := by decide +kernel
theorem dX3_init_75 : decode cX3_init 75 = .ok (.aload_n 0, 1) := by decide +kernel
theorem dX3_init_76 : decode cX3_init 76 = .ok (.new 22, 3) := by decide +kernel
theorem dX3_init_79 : decode cX3_init 79 = .ok (.dup, 1) := by decide +kernel
theorem dX3_init_80 : decode cX3_init 80 = .ok (.sipush 1024, 3) := by decide +kernel
theorem dX3_init_83 : decode cX3_init 83 = .ok (.invokespecial 24, 3) := by decide +kernel
theorem dX3_init_86 : decode cX3_init 86 = .ok (.putfield 40, 3) := by decide +kernel
theorem dX3_init_89 : decode cX3_init 89 = .ok (.aload_n 0, 1) := by decide +kernel
theorem dX3_init_90 : decode cX3_init 90 = .ok (.iconst 0, 1) := by decide +kernel
theorem dX3_init_91 : decode cX3_init 91 = .ok (.putfield 43, 3) := by decide +kernel
theorem dX3_init_94 : decode cX3_init 94 = .ok (.aload_n 0, 1) := by decide +kernel
theorem dX3_init_95 : decode cX3_init 95 = .ok (.iconst 0, 1) := by decide +kernel
theorem dX3_init_96 : decode cX3_init 96 = .ok (.putfield 46, 3) := by decide +kernel
theorem dX3_init_99 : decode cX3_init 99 = .ok (.aload_n 0, 1) := by decide +kernel
theorem dX3_init_100 : decode cX3_init 100 = .ok (.iconst (-1), 1) := by decide +kernel
theorem dX3_init_101 : decode cX3_init 101 = .ok (.putfield 49, 3) := by decide +kernel
theorem dX3_init_104 : decode cX3_init 104 = .ok (.aload_n 0, 1) := by decide +kernel
theorem dX3_init_105 : decode cX3_init 105 = .ok (.new 22, 3) := by decide +kernel
theorem dX3_init_108 : decode cX3_init 108 = .ok (.dup, 1) := by decide +kernel
theorem dX3_init_109 : decode cX3_init 109 = .ok (.sipush 1024, 3) := by decide +kernel
theorem dX3_init_112 : decode cX3_init 112 = .ok (.invokespecial 24, 3) := by decide +kernel
theorem dX3_init_115 : decode cX3_init 115 = .ok (.putfield 52, 3) := by decide +kernel
theorem dX3_init_118 : decode cX3_init 118 = .ok (.return_, 1) := by decide +kernel
theorem dX3_make_0 : decode cX3_make 0 = .ok (.aload_n 0, 1) := by decide +kernel
theorem dX3_make_1 : decode cX3_make 1 = .ok (.aload_n 1, 1) := by decide +kernel
theorem dX3_make_2 : decode cX3_make 2 = .ok (.getfield 55, 3) := by decide +kernel
theorem dX3_make_5 : decode cX3_make 5 = .ok (.putfield 15, 3) := by decide +kernel
theorem dX3_make_8 : decode cX3_make 8 = .ok (.aload_n 0, 1) := by decide +kernel
theorem dX3_make_9 : decode cX3_make 9 = .ok (.aload_n 1, 1) := by decide +kernel
theorem dX3_make_10 : decode cX3_make 10 = .ok (.invokevirtual 58, 3) := by decide +kernel
theorem dX3_make_13 : decode cX3_make 13 = .ok (.aload_n 0, 1) := by decide +kernel
theorem dX3_make_14 : decode cX3_make 14 = .ok (.aload_n 1, 1) := by decide +kernel
theorem dX3_make_15 : decode cX3_make 15 = .ok (.invokevirtual 62, 3) := by decide +kernel
theorem dX3_make_18 : decode cX3_make 18 = .ok (.aload_n 0, 1) := by decide +kernel
theorem dX3_make_19 : decode cX3_make 19 = .ok (.aload_n 1, 1) := by decide +kernel
theorem dX3_make_20 : decode cX3_make 20 = .ok (.invokevirtual 65, 3) := by decide +kernel
theorem dX3_make_23 : decode cX3_make 23 = .ok (.aload_n 0, 1) := by decide +kernel
theorem dX3_make_24 : decode cX3_make 24 = .ok (.invokevirtual 68, 3) := by decide +kernel
theorem dX3_make_27 : decode cX3_make 27 = .ok (.aload_n 0, 1) := by decide +kernel
theorem dX3_make_28 : decode cX3_make 28 = .ok (.iconst 1, 1) := by decide +kernel
theorem dX3_make_29 : decode cX3_make 29 = .ok (.putfield 9, 3) := by decide +kernel
theorem dX3_make_32 : decode cX3_make 32 = .ok (.return_, 1) := by decide +kernel
theorem dX3_findPlaces_0 : decode cX3_findPlaces 0 = .ok (.aload_n 0, 1) := by decide +kernel
theorem dX3_findPlaces_1 : decode cX3_findPlaces 1 = .ok (.iconst 0, 1) := by decide +kernel
theorem dX3_findPlaces_2 : decode cX3_findPlaces 2 = .ok (.putfield 19, 3) := by decide +kernel
theorem dX3_findPlaces_5 : decode cX3_findPlaces 5 = .ok (.aload_n 0, 1) := by decide +kernel
theorem dX3_findPlaces_6 : decode cX3_findPlaces 6 = .ok (.getfield 31, 3) := by decide +kernel
theorem dX3_findPlaces_9 : decode cX3_findPlaces 9 = .ok (.iconst (-1), 1) := by decide +kernel
theorem dX3_findPlaces_10 : decode cX3_findPlaces 10 = .ok (.invokevirtual 71, 3) := by decide +kernel
theorem dX3_findPlaces_13 : decode cX3_findPlaces 13 = .ok (.aload_n 1, 1) := by decide +kernel
theorem dX3_findPlaces_14 : decode cX3_findPlaces 14 = .ok (.getfield 55, 3) := by decide +kernel
theorem dX3_findPlaces_17 : decode cX3_findPlaces 17 = .ok (.ifCond .ne 4, 3) := by decide +kernel
theorem dX3_findPlaces_20 : decode cX3_findPlaces 20 = .ok (.return_, 1) := by decide +kernel
theorem dX3_findPlaces_21 : decode cX3_findPlaces 21 = .ok (.aload_n 0, 1) := by decide +kernel
theorem dX3_findPlaces_22 : decode cX3_findPlaces 22 = .ok (.aload_n 1, 1) := by decide +kernel
theorem dX3_findPlaces_23 : decode cX3_findPlaces 23 = .ok (.invokevirtual 74, 3) := by decide +kernel
theorem dX3_findPlaces_26 : decode cX3_findPlaces 26 = .ok (.iconst 0, 1) := by decide +kernel
theorem dX3_findPlaces_27 : decode cX3_findPlaces 27 = .ok (.iconst (-1), 1) := by decide +kernel
theorem dX3_findPlaces_28 : decode cX3_findPlaces 28 = .ok (.iconst (-1), 1) := by decide +kernel
theorem dX3_findPlaces_29 : decode cX3_findPlaces 29 = .ok (.invokevirtual 78, 3) := by decide +kernel
theorem dX3_findPlaces_32 : decode cX3_findPlaces 32 = .ok (.iconst 0, 1) := by decide +kernel
theorem dX3_findPlaces_33 : decode cX3_findPlaces 33 = .ok (.istore_n 2, 1) := by decide +kernel
theorem dX3_findPlaces_34 : decode cX3_findPlaces 34 = .ok (.iload_n 2, 1) := by decide +kernel
theorem dX3_findPlaces_35 : decode cX3_findPlaces 35 = .ok (.aload_n 0, 1) := by decide +kernel
theorem dX3_findPlaces_36 : decode cX3_findPlaces 36 = .ok (.getfield 19, 3) := by decide +kernel
theorem dX3_findPlaces_39 : decode cX3_findPlaces 39 = .ok (.if_icmp .ge 85, 3) := by decide +kernel
theorem dX3_findPlaces_42 : decode cX3_findPlaces 42 = .ok (.iload_n 2, 1) := by decide +kernel
theorem dX3_findPlaces_43 : decode cX3_findPlaces 43 = .ok (.sipush 1024, 3) := by decide +kernel
theorem dX3_findPlaces_46 : decode cX3_findPlaces 46 = .ok (.if_icmp .ge 78, 3) := by decide +kernel
theorem dX3_findPlaces_49 : decode cX3_findPlaces 49 = .ok (.aload_n 0, 1) := by decide +kernel
theorem dX3_findPlaces_50 : decode cX3_findPlaces 50 = .ok (.getfield 27, 3) := by decide +kernel
theorem dX3_findPlaces_53 : decode cX3_findPlaces 53 = .ok (.iload_n 2, 1) := by decide +kernel
theorem dX3_findPlaces_54 : decode cX3_findPlaces 54 = .ok (.invokevirtual 82, 3) := by decide +kernel
theorem dX3_findPlaces_57 : decode cX3_findPlaces 57 = .ok (.istore_n 3, 1) := by decide +kernel
theorem dX3_findPlaces_58 : decode cX3_findPlaces 58 = .ok (.aload_n 1, 1) := by decide +kernel
theorem dX3_findPlaces_59 : decode cX3_findPlaces 59 = .ok (.iload_n 3, 1) := by decide +kernel
theorem dX3_findPlaces_60 : decode cX3_findPlaces 60 = .ok (.invokevirtual 86, 3) := by decide +kernel
theorem dX3_findPlaces_63 : decode cX3_findPlaces 63 = .ok (.istore 4, 2) := by decide +kernel
theorem dX3_findPlaces_65 : decode cX3_findPlaces 65 = .ok (.iconst 0, 1) := by decide +kernel
theorem dX3_findPlaces_66 : decode cX3_findPlaces 66 = .ok (.istore 5, 2) := by decide +kernel
theorem dX3_findPlaces_68 : decode cX3_findPlaces 68 = .ok (.iload 5, 2) := by decide +kernel
theorem dX3_findPlaces_70 : decode cX3_findPlaces 70 = .ok (.iconst 3, 1) := by decide +kernel
theorem dX3_findPlaces_71 : decode cX3_findPlaces 71 = .ok (.if_icmp .ge 47, 3) := by decide +kernel
theorem dX3_findPlaces_74 : decode cX3_findPlaces 74 = .ok (.iload 5, 2) := by decide +kernel
theorem dX3_findPlaces_76 : decode cX3_findPlaces 76 = .ok (.iload 4, 2) := by decide +kernel
theorem dX3_findPlaces_78 : decode cX3_findPlaces 78 = .ok (.invokestatic 89, 3) := by decide +kernel
theorem dX3_findPlaces_81 : decode cX3_findPlaces 81 = .ok (.ifCond .eq 31, 3) := by decide +kernel
theorem dX3_findPlaces_84 : decode cX3_findPlaces 84 = .ok (.aload_n 1, 1) := by decide +kernel
theorem dX3_findPlaces_85 : decode cX3_findPlaces 85 = .ok (.iload_n 3, 1) := by decide +kernel
theorem dX3_findPlaces_86 : decode cX3_findPlaces 86 = .ok (.iload 5, 2) := by decide +kernel
theorem dX3_findPlaces_88 : decode cX3_findPlaces 88 = .ok (.invokevirtual 93, 3) := by decide +kernel
theorem dX3_findPlaces_91 : decode cX3_findPlaces 91 = .ok (.istore 6, 2) := by decide +kernel
theorem dX3_findPlaces_93 : decode cX3_findPlaces 93 = .ok (.aload_n 0, 1) := by decide +kernel
theorem dX3_findPlaces_94 : decode cX3_findPlaces 94 = .ok (.iload 6, 2) := by decide +kernel
theorem dX3_findPlaces_96 : decode cX3_findPlaces 96 = .ok (.aload_n 0, 1) := by decide +kernel
theorem dX3_findPlaces_97 : decode cX3_findPlaces 97 = .ok (.getfield 31, 3) := by decide +kernel
theorem dX3_findPlaces_100 : decode cX3_findPlaces 100 = .ok (.iload_n 3, 1) := by decide +kernel
theorem dX3_findPlaces_101 : decode cX3_findPlaces 101 = .ok (.invokevirtual 82, 3) := by decide +kernel
theorem dX3_findPlaces_104 : decode cX3_findPlaces 104 = .ok (.iconst 1, 1) := by decide +kernel
theorem dX3_findPlaces_105 : decode cX3_findPlaces 105 = .ok (.iadd, 1) := by decide +kernel
theorem dX3_findPlaces_106 : decode cX3_findPlaces 106 = .ok (.iload_n 3, 1) := by decide +kernel
theorem dX3_findPlaces_107 : decode cX3_findPlaces 107 = .ok (.iload 5, 2) := by decide +kernel
theorem dX3_findPlaces_109 : decode cX3_findPlaces 109 = .ok (.invokevirtual 78, 3) := by decide +kernel
theorem dX3_findPlaces_112 : decode cX3_findPlaces 112 = .ok (.iinc 5 1, 3) := by decide +kernel
theorem dX3_findPlaces_115 : decode cX3_findPlaces 115 = .ok (.goto (-47), 3) := by decide +kernel
theorem dX3_findPlaces_118 : decode cX3_findPlaces 118 = .ok (.iinc 2 1, 3) := by decide +kernel
theorem dX3_findPlaces_121 : decode cX3_findPlaces 121 = .ok (.goto (-87), 3) := by decide +kernel
theorem dX3_findPlaces_124 : decode cX3_findPlaces 124 = .ok (.return_, 1) := by decide +kernel
theorem dX3_addPlace_0 : decode cX3_addPlace 0 = .ok (.aload_n 0, 1) := by decide +kernel
theorem dX3_addPlace_1 : decode cX3_addPlace 1 = .ok (.iload_n 1, 1) := by decide +kernel
theorem dX3_addPlace_2 : decode cX3_addPlace 2 = .ok (.invokevirtual 97, 3) := by decide +kernel
theorem dX3_addPlace_5 : decode cX3_addPlace 5 = .ok (.ifCond .ne 13, 3) := by decide +kernel
theorem dX3_addPlace_8 : decode cX3_addPlace 8 = .ok (.aload_n 0, 1) := by decide +kernel
theorem dX3_addPlace_9 : decode cX3_addPlace 9 = .ok (.getfield 19, 3) := by decide +kernel
theorem dX3_addPlace_12 : decode cX3_addPlace 12 = .ok (.sipush 1024, 3) := by decide +kernel
theorem dX3_addPlace_15 : decode cX3_addPlace 15 = .ok (.if_icmp .lt 4, 3) := by decide +kernel
theorem dX3_addPlace_18 : decode cX3_addPlace 18 = .ok (.return_, 1) := by decide +kernel
theorem dX3_addPlace_19 : decode cX3_addPlace 19 = .ok (.aload_n 0, 1) := by decide +kernel
theorem dX3_addPlace_20 : decode cX3_addPlace 20 = .ok (.getfield 27, 3) := by decide +kernel
theorem dX3_addPlace_23 : decode cX3_addPlace 23 = .ok (.aload_n 0, 1) := by decide +kernel
theorem dX3_addPlace_24 : decode cX3_addPlace 24 = .ok (.getfield 19, 3) := by decide +kernel
theorem dX3_addPlace_27 : decode cX3_addPlace 27 = .ok (.iload_n 1, 1) := by decide +kernel
theorem dX3_addPlace_28 : decode cX3_addPlace 28 = .ok (.invokevirtual 101, 3) := by decide +kernel
theorem dX3_addPlace_31 : decode cX3_addPlace 31 = .ok (.aload_n 0, 1) := by decide +kernel
theorem dX3_addPlace_32 : decode cX3_addPlace 32 = .ok (.aload_n 0, 1) := by decide +kernel
theorem dX3_addPlace_33 : decode cX3_addPlace 33 = .ok (.getfield 19, 3) := by decide +kernel
theorem dX3_addPlace_36 : decode cX3_addPlace 36 = .ok (.iconst 1, 1) := by decide +kernel
theorem dX3_addPlace_37 : decode cX3_addPlace 37 = .ok (.iadd, 1) := by decide +kernel
theorem dX3_addPlace_38 : decode cX3_addPlace 38 = .ok (.putfield 19, 3) := by decide +kernel
theorem dX3_addPlace_41 : decode cX3_addPlace 41 = .ok (.aload_n 0, 1) := by decide +kernel
theorem dX3_addPlace_42 : decode cX3_addPlace 42 = .ok (.getfield 31, 3) := by decide +kernel
theorem dX3_addPlace_45 : decode cX3_addPlace 45 = .ok (.iload_n 1, 1) := by decide +kernel
theorem dX3_addPlace_46 : decode cX3_addPlace 46 = .ok (.iload_n 2, 1) := by decide +kernel
theorem dX3_addPlace_47 : decode cX3_addPlace 47 = .ok (.invokevirtual 101, 3) := by decide +kernel
theorem dX3_addPlace_50 : decode cX3_addPlace 50 = .ok (.aload_n 0, 1) := by decide +kernel
theorem dX3_addPlace_51 : decode cX3_addPlace 51 = .ok (.getfield 34, 3) := by decide +kernel
theorem dX3_addPlace_54 : decode cX3_addPlace 54 = .ok (.iload_n 1, 1) := by decide +kernel
theorem dX3_addPlace_55 : decode cX3_addPlace 55 = .ok (.iload_n 3, 1) := by decide +kernel
theorem dX3_addPlace_56 : decode cX3_addPlace 56 = .ok (.invokevirtual 101, 3) := by decide +kernel
theorem dX3_addPlace_59 : decode cX3_addPlace 59 = .ok (.aload_n 0, 1) := by decide +kernel
theorem dX3_addPlace_60 : decode cX3_addPlace 60 = .ok (.getfield 37, 3) := by decide +kernel
theorem dX3_addPlace_63 : decode cX3_addPlace 63 = .ok (.iload_n 1, 1) := by decide +kernel
theorem dX3_addPlace_64 : decode cX3_addPlace 64 = .ok (.iload 4, 2) := by decide +kernel
theorem dX3_addPlace_66 : decode cX3_addPlace 66 = .ok (.invokevirtual 101, 3) := by decide +kernel
theorem dX3_addPlace_69 : decode cX3_addPlace 69 = .ok (.aload_n 0, 1) := by decide +kernel
theorem dX3_addPlace_70 : decode cX3_addPlace 70 = .ok (.getfield 40, 3) := by decide +kernel
theorem dX3_addPlace_73 : decode cX3_addPlace 73 = .ok (.iload_n 1, 1) := by decide +kernel
theorem dX3_addPlace_74 : decode cX3_addPlace 74 = .ok (.iconst 0, 1) := by decide +kernel
theorem dX3_addPlace_75 : decode cX3_addPlace 75 = .ok (.invokevirtual 101, 3) := by decide +kernel
theorem dX3_addPlace_78 : decode cX3_addPlace 78 = .ok (.return_, 1) := by decide +kernel
theorem dX3_findAhead_0 : decode cX3_findAhead 0 = .ok (.iconst 1, 1) := by decide +kernel
theorem dX3_findAhead_1 : decode cX3_findAhead 1 = .ok (.istore_n 2, 1) := by decide +kernel
theorem dX3_findAhead_2 : decode cX3_findAhead 2 = .ok (.iconst 0, 1) := by decide +kernel
theorem dX3_findAhead_3 : decode cX3_findAhead 3 = .ok (.istore_n 3, 1) := by decide +kernel
theorem dX3_findAhead_4 : decode cX3_findAhead 4 = .ok (.iload_n 2, 1) := by decide +kernel
theorem dX3_findAhead_5 : decode cX3_findAhead 5 = .ok (.ifCond .eq 22, 3) := by decide +kernel
theorem dX3_findAhead_8 : decode cX3_findAhead 8 = .ok (.iload_n 3, 1) := by decide +kernel
theorem dX3_findAhead_9 : decode cX3_findAhead 9 = .ok (.sipush 1024, 3) := by decide +kernel
theorem dX3_findAhead_12 : decode cX3_findAhead 12 = .ok (.if_icmp .gt 15, 3) := by decide +kernel
theorem dX3_findAhead_15 : decode cX3_findAhead 15 = .ok (.aload_n 0, 1) := by decide +kernel
theorem dX3_findAhead_16 : decode cX3_findAhead 16 = .ok (.aload_n 1, 1) := by decide +kernel
theorem dX3_findAhead_17 : decode cX3_findAhead 17 = .ok (.invokevirtual 105, 3) := by decide +kernel
theorem dX3_findAhead_20 : decode cX3_findAhead 20 = .ok (.istore_n 2, 1) := by decide +kernel
theorem dX3_findAhead_21 : decode cX3_findAhead 21 = .ok (.iinc 3 1, 3) := by decide +kernel
theorem dX3_findAhead_24 : decode cX3_findAhead 24 = .ok (.goto (-20), 3) := by decide +kernel
theorem dX3_findAhead_27 : decode cX3_findAhead 27 = .ok (.return_, 1) := by decide +kernel
theorem dX3_growAhead_0 : decode cX3_growAhead 0 = .ok (.iconst 0, 1) := by decide +kernel
theorem dX3_growAhead_1 : decode cX3_growAhead 1 = .ok (.istore_n 2, 1) := by decide +kernel
theorem dX3_growAhead_2 : decode cX3_growAhead 2 = .ok (.aload_n 0, 1) := by decide +kernel
theorem dX3_growAhead_3 : decode cX3_growAhead 3 = .ok (.getfield 19, 3) := by decide +kernel
theorem dX3_growAhead_6 : decode cX3_growAhead 6 = .ok (.iconst 1, 1) := by decide +kernel
theorem dX3_growAhead_7 : decode cX3_growAhead 7 = .ok (.isub, 1) := by decide +kernel
theorem dX3_growAhead_8 : decode cX3_growAhead 8 = .ok (.istore_n 3, 1) := by decide +kernel
theorem dX3_growAhead_9 : decode cX3_growAhead 9 = .ok (.iload_n 3, 1) := by decide +kernel
theorem dX3_growAhead_10 : decode cX3_growAhead 10 = .ok (.ifCond .lt 130, 3) := by decide +kernel
theorem dX3_growAhead_13 : decode cX3_growAhead 13 = .ok (.aload_n 0, 1) := by decide +kernel
theorem dX3_growAhead_14 : decode cX3_growAhead 14 = .ok (.getfield 27, 3) := by decide +kernel
theorem dX3_growAhead_17 : decode cX3_growAhead 17 = .ok (.iload_n 3, 1) := by decide +kernel
theorem dX3_growAhead_18 : decode cX3_growAhead 18 = .ok (.invokevirtual 82, 3) := by decide +kernel
theorem dX3_growAhead_21 : decode cX3_growAhead 21 = .ok (.istore 4, 2) := by decide +kernel
theorem dX3_growAhead_23 : decode cX3_growAhead 23 = .ok (.aload_n 1, 1) := by decide +kernel
theorem dX3_growAhead_24 : decode cX3_growAhead 24 = .ok (.iload 4, 2) := by decide +kernel
theorem dX3_growAhead_26 : decode cX3_growAhead 26 = .ok (.invokevirtual 86, 3) := by decide +kernel
theorem dX3_growAhead_29 : decode cX3_growAhead 29 = .ok (.istore 5, 2) := by decide +kernel
theorem dX3_growAhead_31 : decode cX3_growAhead 31 = .ok (.aload_n 0, 1) := by decide +kernel
theorem dX3_growAhead_32 : decode cX3_growAhead 32 = .ok (.getfield 40, 3) := by decide +kernel
theorem dX3_growAhead_35 : decode cX3_growAhead 35 = .ok (.iload 4, 2) := by decide +kernel
theorem dX3_growAhead_37 : decode cX3_growAhead 37 = .ok (.invokevirtual 82, 3) := by decide +kernel
theorem dX3_growAhead_40 : decode cX3_growAhead 40 = .ok (.istore 6, 2) := by decide +kernel
theorem dX3_growAhead_42 : decode cX3_growAhead 42 = .ok (.iconst 0, 1) := by decide +kernel
theorem dX3_growAhead_43 : decode cX3_growAhead 43 = .ok (.istore 7, 2) := by decide +kernel
theorem dX3_growAhead_45 : decode cX3_growAhead 45 = .ok (.iload 7, 2) := by decide +kernel
theorem dX3_growAhead_47 : decode cX3_growAhead 47 = .ok (.iconst 3, 1) := by decide +kernel
theorem dX3_growAhead_48 : decode cX3_growAhead 48 = .ok (.if_icmp .ge 51, 3) := by decide +kernel
theorem dX3_growAhead_51 : decode cX3_growAhead 51 = .ok (.iload 7, 2) := by decide +kernel
theorem dX3_growAhead_53 : decode cX3_growAhead 53 = .ok (.iload 5, 2) := by decide +kernel
theorem dX3_growAhead_55 : decode cX3_growAhead 55 = .ok (.invokestatic 89, 3) := by decide +kernel
theorem dX3_growAhead_58 : decode cX3_growAhead 58 = .ok (.ifCond .eq 35, 3) := by decide +kernel
theorem dX3_growAhead_61 : decode cX3_growAhead 61 = .ok (.aload_n 1, 1) := by decide +kernel
theorem dX3_growAhead_62 : decode cX3_growAhead 62 = .ok (.iload 4, 2) := by decide +kernel
theorem dX3_growAhead_64 : decode cX3_growAhead 64 = .ok (.iload 7, 2) := by decide +kernel
theorem dX3_growAhead_66 : decode cX3_growAhead 66 = .ok (.invokevirtual 93, 3) := by decide +kernel
theorem dX3_growAhead_69 : decode cX3_growAhead 69 = .ok (.istore 8, 2) := by decide +kernel
theorem dX3_growAhead_71 : decode cX3_growAhead 71 = .ok (.iload 6, 2) := by decide +kernel
theorem dX3_growAhead_73 : decode cX3_growAhead 73 = .ok (.iconst 1, 1) := by decide +kernel
theorem dX3_growAhead_74 : decode cX3_growAhead 74 = .ok (.iload 8, 2) := by decide +kernel
theorem dX3_growAhead_76 : decode cX3_growAhead 76 = .ok (.invokestatic 109, 3) := by decide +kernel
theorem dX3_growAhead_79 : decode cX3_growAhead 79 = .ok (.ishl, 1) := by decide +kernel
theorem dX3_growAhead_80 : decode cX3_growAhead 80 = .ok (.ior, 1) := by decide +kernel
theorem dX3_growAhead_81 : decode cX3_growAhead 81 = .ok (.aload_n 0, 1) := by decide +kernel
theorem dX3_growAhead_82 : decode cX3_growAhead 82 = .ok (.getfield 40, 3) := by decide +kernel
theorem dX3_growAhead_85 : decode cX3_growAhead 85 = .ok (.iload 8, 2) := by decide +kernel
theorem dX3_growAhead_87 : decode cX3_growAhead 87 = .ok (.invokevirtual 82, 3) := by decide +kernel
theorem dX3_growAhead_90 : decode cX3_growAhead 90 = .ok (.ior, 1) := by decide +kernel
theorem dX3_growAhead_91 : decode cX3_growAhead 91 = .ok (.istore 6, 2) := by decide +kernel
theorem dX3_growAhead_93 : decode cX3_growAhead 93 = .ok (.iinc 7 1, 3) := by decide +kernel
theorem dX3_growAhead_96 : decode cX3_growAhead 96 = .ok (.goto (-51), 3) := by decide +kernel
theorem dX3_growAhead_99 : decode cX3_growAhead 99 = .ok (.iload_n 2, 1) := by decide +kernel
theorem dX3_growAhead_100 : decode cX3_growAhead 100 = .ok (.ifCond .ne 17, 3) := by decide +kernel
theorem dX3_growAhead_103 : decode cX3_growAhead 103 = .ok (.iload 6, 2) := by decide +kernel
theorem dX3_growAhead_105 : decode cX3_growAhead 105 = .ok (.aload_n 0, 1) := by decide +kernel
theorem dX3_growAhead_106 : decode cX3_growAhead 106 = .ok (.getfield 40, 3) := by decide +kernel
theorem dX3_growAhead_109 : decode cX3_growAhead 109 = .ok (.iload 4, 2) := by decide +kernel
theorem dX3_growAhead_111 : decode cX3_growAhead 111 = .ok (.invokevirtual 82, 3) := by decide +kernel
theorem dX3_growAhead_114 : decode cX3_growAhead 114 = .ok (.if_icmp .eq 7, 3) := by decide +kernel
theorem dX3_growAhead_117 : decode cX3_growAhead 117 = .ok (.iconst 1, 1) := by decide +kernel
theorem dX3_growAhead_118 : decode cX3_growAhead 118 = .ok (.goto 4, 3) := by decide +kernel
theorem dX3_growAhead_121 : decode cX3_growAhead 121 = .ok (.iconst 0, 1) := by decide +kernel
theorem dX3_growAhead_122 : decode cX3_growAhead 122 = .ok (.istore_n 2, 1) := by decide +kernel
theorem dX3_growAhead_123 : decode cX3_growAhead 123 = .ok (.aload_n 0, 1) := by decide +kernel
theorem dX3_growAhead_124 : decode cX3_growAhead 124 = .ok (.getfield 40, 3) := by decide +kernel
theorem dX3_growAhead_127 : decode cX3_growAhead 127 = .ok (.iload 4, 2) := by decide +kernel
theorem dX3_growAhead_129 : decode cX3_growAhead 129 = .ok (.iload 6, 2) := by decide +kernel
theorem dX3_growAhead_131 : decode cX3_growAhead 131 = .ok (.invokevirtual 101, 3) := by decide +kernel
theorem dX3_growAhead_134 : decode cX3_growAhead 134 = .ok (.iinc 3 (-1), 3) := by decide +kernel
theorem dX3_growAhead_137 : decode cX3_growAhead 137 = .ok (.goto (-128), 3) := by decide +kernel
theorem dX3_growAhead_140 : decode cX3_growAhead 140 = .ok (.iload_n 2, 1) := by decide +kernel
theorem dX3_growAhead_141 : decode cX3_growAhead 141 = .ok (.ireturn, 1) := by decide +kernel
theorem dX3_findEnds_0 : decode cX3_findEnds 0 = .ok (.aload_n 0, 1) := by decide +kernel
theorem dX3_findEnds_1 : decode cX3_findEnds 1 = .ok (.iconst 0, 1) := by decide +kernel
theorem dX3_findEnds_2 : decode cX3_findEnds 2 = .ok (.putfield 43, 3) := by decide +kernel
theorem dX3_findEnds_5 : decode cX3_findEnds 5 = .ok (.aload_n 0, 1) := by decide +kernel
theorem dX3_findEnds_6 : decode cX3_findEnds 6 = .ok (.iconst 0, 1) := by decide +kernel
theorem dX3_findEnds_7 : decode cX3_findEnds 7 = .ok (.putfield 46, 3) := by decide +kernel
theorem dX3_findEnds_10 : decode cX3_findEnds 10 = .ok (.iconst 0, 1) := by decide +kernel
theorem dX3_findEnds_11 : decode cX3_findEnds 11 = .ok (.istore_n 2, 1) := by decide +kernel
theorem dX3_findEnds_12 : decode cX3_findEnds 12 = .ok (.iload_n 2, 1) := by decide +kernel
theorem dX3_findEnds_13 : decode cX3_findEnds 13 = .ok (.aload_n 0, 1) := by decide +kernel
theorem dX3_findEnds_14 : decode cX3_findEnds 14 = .ok (.getfield 15, 3) := by decide +kernel
theorem dX3_findEnds_17 : decode cX3_findEnds 17 = .ok (.if_icmp .ge 62, 3) := by decide +kernel
theorem dX3_findEnds_20 : decode cX3_findEnds 20 = .ok (.aload_n 1, 1) := by decide +kernel
theorem dX3_findEnds_21 : decode cX3_findEnds 21 = .ok (.iload_n 2, 1) := by decide +kernel
theorem dX3_findEnds_22 : decode cX3_findEnds 22 = .ok (.invokevirtual 112, 3) := by decide +kernel
theorem dX3_findEnds_25 : decode cX3_findEnds 25 = .ok (.istore_n 3, 1) := by decide +kernel
theorem dX3_findEnds_26 : decode cX3_findEnds 26 = .ok (.aload_n 0, 1) := by decide +kernel
theorem dX3_findEnds_27 : decode cX3_findEnds 27 = .ok (.aload_n 0, 1) := by decide +kernel
theorem dX3_findEnds_28 : decode cX3_findEnds 28 = .ok (.getfield 43, 3) := by decide +kernel
theorem dX3_findEnds_31 : decode cX3_findEnds 31 = .ok (.iload_n 3, 1) := by decide +kernel
theorem dX3_findEnds_32 : decode cX3_findEnds 32 = .ok (.ifCond .eq 7, 3) := by decide +kernel
theorem dX3_findEnds_35 : decode cX3_findEnds 35 = .ok (.iconst 1, 1) := by decide +kernel
theorem dX3_findEnds_36 : decode cX3_findEnds 36 = .ok (.goto 4, 3) := by decide +kernel
theorem dX3_findEnds_39 : decode cX3_findEnds 39 = .ok (.iconst 0, 1) := by decide +kernel
theorem dX3_findEnds_40 : decode cX3_findEnds 40 = .ok (.invokestatic 115, 3) := by decide +kernel
theorem dX3_findEnds_43 : decode cX3_findEnds 43 = .ok (.iload_n 2, 1) := by decide +kernel
theorem dX3_findEnds_44 : decode cX3_findEnds 44 = .ok (.ishl, 1) := by decide +kernel
theorem dX3_findEnds_45 : decode cX3_findEnds 45 = .ok (.ior, 1) := by decide +kernel
theorem dX3_findEnds_46 : decode cX3_findEnds 46 = .ok (.putfield 43, 3) := by decide +kernel
theorem dX3_findEnds_49 : decode cX3_findEnds 49 = .ok (.aload_n 0, 1) := by decide +kernel
theorem dX3_findEnds_50 : decode cX3_findEnds 50 = .ok (.aload_n 0, 1) := by decide +kernel
theorem dX3_findEnds_51 : decode cX3_findEnds 51 = .ok (.getfield 46, 3) := by decide +kernel
theorem dX3_findEnds_54 : decode cX3_findEnds 54 = .ok (.iload_n 3, 1) := by decide +kernel
theorem dX3_findEnds_55 : decode cX3_findEnds 55 = .ok (.iconst 1, 1) := by decide +kernel
theorem dX3_findEnds_56 : decode cX3_findEnds 56 = .ok (.if_icmp .ne 7, 3) := by decide +kernel
theorem dX3_findEnds_59 : decode cX3_findEnds 59 = .ok (.iconst 1, 1) := by decide +kernel
theorem dX3_findEnds_60 : decode cX3_findEnds 60 = .ok (.goto 4, 3) := by decide +kernel
theorem dX3_findEnds_63 : decode cX3_findEnds 63 = .ok (.iconst 0, 1) := by decide +kernel
theorem dX3_findEnds_64 : decode cX3_findEnds 64 = .ok (.invokestatic 115, 3) := by decide +kernel
theorem dX3_findEnds_67 : decode cX3_findEnds 67 = .ok (.iload_n 2, 1) := by decide +kernel
theorem dX3_findEnds_68 : decode cX3_findEnds 68 = .ok (.ishl, 1) := by decide +kernel
theorem dX3_findEnds_69 : decode cX3_findEnds 69 = .ok (.ior, 1) := by decide +kernel
theorem dX3_findEnds_70 : decode cX3_findEnds 70 = .ok (.putfield 46, 3) := by decide +kernel
theorem dX3_findEnds_73 : decode cX3_findEnds 73 = .ok (.iinc 2 1, 3) := by decide +kernel
theorem dX3_findEnds_76 : decode cX3_findEnds 76 = .ok (.goto (-64), 3) := by decide +kernel
theorem dX3_findEnds_79 : decode cX3_findEnds 79 = .ok (.return_, 1) := by decide +kernel
theorem dX3_findWay_0 : decode cX3_findWay 0 = .ok (.aload_n 0, 1) := by decide +kernel
theorem dX3_findWay_1 : decode cX3_findWay 1 = .ok (.iconst (-1), 1) := by decide +kernel
theorem dX3_findWay_2 : decode cX3_findWay 2 = .ok (.putfield 49, 3) := by decide +kernel
theorem dX3_findWay_5 : decode cX3_findWay 5 = .ok (.iconst 0, 1) := by decide +kernel
theorem dX3_findWay_6 : decode cX3_findWay 6 = .ok (.istore_n 1, 1) := by decide +kernel
theorem dX3_findWay_7 : decode cX3_findWay 7 = .ok (.iload_n 1, 1) := by decide +kernel
theorem dX3_findWay_8 : decode cX3_findWay 8 = .ok (.aload_n 0, 1) := by decide +kernel
theorem dX3_findWay_9 : decode cX3_findWay 9 = .ok (.getfield 19, 3) := by decide +kernel
theorem dX3_findWay_12 : decode cX3_findWay 12 = .ok (.if_icmp .ge 50, 3) := by decide +kernel
theorem dX3_findWay_15 : decode cX3_findWay 15 = .ok (.aload_n 0, 1) := by decide +kernel
theorem dX3_findWay_16 : decode cX3_findWay 16 = .ok (.getfield 49, 3) := by decide +kernel
theorem dX3_findWay_19 : decode cX3_findWay 19 = .ok (.iconst (-1), 1) := by decide +kernel
theorem dX3_findWay_20 : decode cX3_findWay 20 = .ok (.if_icmp .ne 42, 3) := by decide +kernel
theorem dX3_findWay_23 : decode cX3_findWay 23 = .ok (.aload_n 0, 1) := by decide +kernel
theorem dX3_findWay_24 : decode cX3_findWay 24 = .ok (.getfield 27, 3) := by decide +kernel
theorem dX3_findWay_27 : decode cX3_findWay 27 = .ok (.iload_n 1, 1) := by decide +kernel
theorem dX3_findWay_28 : decode cX3_findWay 28 = .ok (.invokevirtual 82, 3) := by decide +kernel
theorem dX3_findWay_31 : decode cX3_findWay 31 = .ok (.invokestatic 109, 3) := by decide +kernel
theorem dX3_findWay_34 : decode cX3_findWay 34 = .ok (.aload_n 0, 1) := by decide +kernel
theorem dX3_findWay_35 : decode cX3_findWay 35 = .ok (.getfield 46, 3) := by decide +kernel
theorem dX3_findWay_38 : decode cX3_findWay 38 = .ok (.invokestatic 89, 3) := by decide +kernel
theorem dX3_findWay_41 : decode cX3_findWay 41 = .ok (.ifCond .eq 15, 3) := by decide +kernel
theorem dX3_findWay_44 : decode cX3_findWay 44 = .ok (.aload_n 0, 1) := by decide +kernel
theorem dX3_findWay_45 : decode cX3_findWay 45 = .ok (.aload_n 0, 1) := by decide +kernel
theorem dX3_findWay_46 : decode cX3_findWay 46 = .ok (.getfield 27, 3) := by decide +kernel
theorem dX3_findWay_49 : decode cX3_findWay 49 = .ok (.iload_n 1, 1) := by decide +kernel
theorem dX3_findWay_50 : decode cX3_findWay 50 = .ok (.invokevirtual 82, 3) := by decide +kernel
theorem dX3_findWay_53 : decode cX3_findWay 53 = .ok (.invokevirtual 119, 3) := by decide +kernel
theorem dX3_findWay_56 : decode cX3_findWay 56 = .ok (.iinc 1 1, 3) := by decide +kernel
theorem dX3_findWay_59 : decode cX3_findWay 59 = .ok (.goto (-52), 3) := by decide +kernel
theorem dX3_findWay_62 : decode cX3_findWay 62 = .ok (.return_, 1) := by decide +kernel
theorem dX3_layWay_0 : decode cX3_layWay 0 = .ok (.aload_n 0, 1) := by decide +kernel
theorem dX3_layWay_1 : decode cX3_layWay 1 = .ok (.aload_n 0, 1) := by decide +kernel
theorem dX3_layWay_2 : decode cX3_layWay 2 = .ok (.getfield 31, 3) := by decide +kernel
theorem dX3_layWay_5 : decode cX3_layWay 5 = .ok (.iload_n 1, 1) := by decide +kernel
theorem dX3_layWay_6 : decode cX3_layWay 6 = .ok (.invokevirtual 82, 3) := by decide +kernel
theorem dX3_layWay_9 : decode cX3_layWay 9 = .ok (.putfield 49, 3) := by decide +kernel
theorem dX3_layWay_12 : decode cX3_layWay 12 = .ok (.iload_n 1, 1) := by decide +kernel
theorem dX3_layWay_13 : decode cX3_layWay 13 = .ok (.istore_n 2, 1) := by decide +kernel
theorem dX3_layWay_14 : decode cX3_layWay 14 = .ok (.aload_n 0, 1) := by decide +kernel
theorem dX3_layWay_15 : decode cX3_layWay 15 = .ok (.getfield 49, 3) := by decide +kernel
theorem dX3_layWay_18 : decode cX3_layWay 18 = .ok (.istore_n 3, 1) := by decide +kernel
theorem dX3_layWay_19 : decode cX3_layWay 19 = .ok (.iload_n 3, 1) := by decide +kernel
theorem dX3_layWay_20 : decode cX3_layWay 20 = .ok (.ifCond .lt 27, 3) := by decide +kernel
theorem dX3_layWay_23 : decode cX3_layWay 23 = .ok (.aload_n 0, 1) := by decide +kernel
theorem dX3_layWay_24 : decode cX3_layWay 24 = .ok (.getfield 52, 3) := by decide +kernel
theorem dX3_layWay_27 : decode cX3_layWay 27 = .ok (.iload_n 3, 1) := by decide +kernel
theorem dX3_layWay_28 : decode cX3_layWay 28 = .ok (.iload_n 2, 1) := by decide +kernel
theorem dX3_layWay_29 : decode cX3_layWay 29 = .ok (.invokevirtual 101, 3) := by decide +kernel
theorem dX3_layWay_32 : decode cX3_layWay 32 = .ok (.aload_n 0, 1) := by decide +kernel
theorem dX3_layWay_33 : decode cX3_layWay 33 = .ok (.getfield 34, 3) := by decide +kernel
theorem dX3_layWay_36 : decode cX3_layWay 36 = .ok (.iload_n 2, 1) := by decide +kernel
theorem dX3_layWay_37 : decode cX3_layWay 37 = .ok (.invokevirtual 82, 3) := by decide +kernel
theorem dX3_layWay_40 : decode cX3_layWay 40 = .ok (.istore_n 2, 1) := by decide +kernel
theorem dX3_layWay_41 : decode cX3_layWay 41 = .ok (.iinc 3 (-1), 3) := by decide +kernel
theorem dX3_layWay_44 : decode cX3_layWay 44 = .ok (.goto (-25), 3) := by decide +kernel
theorem dX3_layWay_47 : decode cX3_layWay 47 = .ok (.return_, 1) := by decide +kernel
theorem dX3_choiceOnWay_0 : decode cX3_choiceOnWay 0 = .ok (.iload_n 1, 1) := by decide +kernel
theorem dX3_choiceOnWay_1 : decode cX3_choiceOnWay 1 = .ok (.aload_n 0, 1) := by decide +kernel
theorem dX3_choiceOnWay_2 : decode cX3_choiceOnWay 2 = .ok (.getfield 49, 3) := by decide +kernel
theorem dX3_choiceOnWay_5 : decode cX3_choiceOnWay 5 = .ok (.if_icmp .ge 23, 3) := by decide +kernel
theorem dX3_choiceOnWay_8 : decode cX3_choiceOnWay 8 = .ok (.aload_n 0, 1) := by decide +kernel
theorem dX3_choiceOnWay_9 : decode cX3_choiceOnWay 9 = .ok (.getfield 37, 3) := by decide +kernel
theorem dX3_choiceOnWay_12 : decode cX3_choiceOnWay 12 = .ok (.aload_n 0, 1) := by decide +kernel
theorem dX3_choiceOnWay_13 : decode cX3_choiceOnWay 13 = .ok (.getfield 52, 3) := by decide +kernel
theorem dX3_choiceOnWay_16 : decode cX3_choiceOnWay 16 = .ok (.iload_n 1, 1) := by decide +kernel
theorem dX3_choiceOnWay_17 : decode cX3_choiceOnWay 17 = .ok (.iconst 1, 1) := by decide +kernel
theorem dX3_choiceOnWay_18 : decode cX3_choiceOnWay 18 = .ok (.iadd, 1) := by decide +kernel
theorem dX3_choiceOnWay_19 : decode cX3_choiceOnWay 19 = .ok (.invokevirtual 82, 3) := by decide +kernel
theorem dX3_choiceOnWay_22 : decode cX3_choiceOnWay 22 = .ok (.invokevirtual 82, 3) := by decide +kernel
theorem dX3_choiceOnWay_25 : decode cX3_choiceOnWay 25 = .ok (.goto 5, 3) := by decide +kernel
theorem dX3_choiceOnWay_28 : decode cX3_choiceOnWay 28 = .ok (.bipush (-5), 2) := by decide +kernel
theorem dX3_choiceOnWay_30 : decode cX3_choiceOnWay 30 = .ok (.ireturn, 1) := by decide +kernel
theorem dX3_isIn_0 : decode cX3_isIn 0 = .ok (.iload_n 1, 1) := by decide +kernel
theorem dX3_isIn_1 : decode cX3_isIn 1 = .ok (.iload_n 0, 1) := by decide +kernel
theorem dX3_isIn_2 : decode cX3_isIn 2 = .ok (.iushr, 1) := by decide +kernel
theorem dX3_isIn_3 : decode cX3_isIn 3 = .ok (.iconst 1, 1) := by decide +kernel
theorem dX3_isIn_4 : decode cX3_isIn 4 = .ok (.iand, 1) := by decide +kernel
theorem dX3_isIn_5 : decode cX3_isIn 5 = .ok (.iconst 1, 1) := by decide +kernel
theorem dX3_isIn_6 : decode cX3_isIn 6 = .ok (.if_icmp .ne 7, 3) := by decide +kernel
theorem dX3_isIn_9 : decode cX3_isIn 9 = .ok (.iconst 1, 1) := by decide +kernel
theorem dX3_isIn_10 : decode cX3_isIn 10 = .ok (.goto 4, 3) := by decide +kernel
theorem dX3_isIn_13 : decode cX3_isIn 13 = .ok (.iconst 0, 1) := by decide +kernel
theorem dX3_isIn_14 : decode cX3_isIn 14 = .ok (.ireturn, 1) := by decide +kernel
theorem dX3_isReached_0 : decode cX3_isReached 0 = .ok (.aload_n 0, 1) := by decide +kernel
theorem dX3_isReached_1 : decode cX3_isReached 1 = .ok (.getfield 31, 3) := by decide +kernel
theorem dX3_isReached_4 : decode cX3_isReached 4 = .ok (.iload_n 1, 1) := by decide +kernel
theorem dX3_isReached_5 : decode cX3_isReached 5 = .ok (.invokevirtual 82, 3) := by decide +kernel
theorem dX3_isReached_8 : decode cX3_isReached 8 = .ok (.iconst (-1), 1) := by decide +kernel
theorem dX3_isReached_9 : decode cX3_isReached 9 = .ok (.if_icmp .eq 7, 3) := by decide +kernel
theorem dX3_isReached_12 : decode cX3_isReached 12 = .ok (.iconst 1, 1) := by decide +kernel
theorem dX3_isReached_13 : decode cX3_isReached 13 = .ok (.goto 4, 3) := by decide +kernel
theorem dX3_isReached_16 : decode cX3_isReached 16 = .ok (.iconst 0, 1) := by decide +kernel
theorem dX3_isReached_17 : decode cX3_isReached 17 = .ok (.ireturn, 1) := by decide +kernel
theorem dX3_isStuck_0 : decode cX3_isStuck 0 = .ok (.aload_n 0, 1) := by decide +kernel
theorem dX3_isStuck_1 : decode cX3_isStuck 1 = .ok (.iload_n 1, 1) := by decide +kernel
theorem dX3_isStuck_2 : decode cX3_isStuck 2 = .ok (.invokevirtual 97, 3) := by decide +kernel
theorem dX3_isStuck_5 : decode cX3_isStuck 5 = .ok (.ifCond .eq 37, 3) := by decide +kernel
theorem dX3_isStuck_8 : decode cX3_isStuck 8 = .ok (.iload_n 1, 1) := by decide +kernel
theorem dX3_isStuck_9 : decode cX3_isStuck 9 = .ok (.invokestatic 109, 3) := by decide +kernel
theorem dX3_isStuck_12 : decode cX3_isStuck 12 = .ok (.aload_n 0, 1) := by decide +kernel
theorem dX3_isStuck_13 : decode cX3_isStuck 13 = .ok (.getfield 43, 3) := by decide +kernel
theorem dX3_isStuck_16 : decode cX3_isStuck 16 = .ok (.invokestatic 89, 3) := by decide +kernel
theorem dX3_isStuck_19 : decode cX3_isStuck 19 = .ok (.ifCond .ne 23, 3) := by decide +kernel
theorem dX3_isStuck_22 : decode cX3_isStuck 22 = .ok (.aload_n 0, 1) := by decide +kernel
theorem dX3_isStuck_23 : decode cX3_isStuck 23 = .ok (.getfield 40, 3) := by decide +kernel
theorem dX3_isStuck_26 : decode cX3_isStuck 26 = .ok (.iload_n 1, 1) := by decide +kernel
theorem dX3_isStuck_27 : decode cX3_isStuck 27 = .ok (.invokevirtual 82, 3) := by decide +kernel
theorem dX3_isStuck_30 : decode cX3_isStuck 30 = .ok (.aload_n 0, 1) := by decide +kernel
theorem dX3_isStuck_31 : decode cX3_isStuck 31 = .ok (.getfield 43, 3) := by decide +kernel
theorem dX3_isStuck_34 : decode cX3_isStuck 34 = .ok (.iand, 1) := by decide +kernel
theorem dX3_isStuck_35 : decode cX3_isStuck 35 = .ok (.ifCond .ne 7, 3) := by decide +kernel
theorem dX3_isStuck_38 : decode cX3_isStuck 38 = .ok (.iconst 1, 1) := by decide +kernel
theorem dX3_isStuck_39 : decode cX3_isStuck 39 = .ok (.goto 4, 3) := by decide +kernel
theorem dX3_isStuck_42 : decode cX3_isStuck 42 = .ok (.iconst 0, 1) := by decide +kernel
theorem dX3_isStuck_43 : decode cX3_isStuck 43 = .ok (.ireturn, 1) := by decide +kernel
theorem dX3_placesWith_0 : decode cX3_placesWith 0 = .ok (.iconst 0, 1) := by decide +kernel
theorem dX3_placesWith_1 : decode cX3_placesWith 1 = .ok (.istore_n 2, 1) := by decide +kernel
theorem dX3_placesWith_2 : decode cX3_placesWith 2 = .ok (.iconst 0, 1) := by decide +kernel
theorem dX3_placesWith_3 : decode cX3_placesWith 3 = .ok (.istore_n 3, 1) := by decide +kernel
theorem dX3_placesWith_4 : decode cX3_placesWith 4 = .ok (.iload_n 3, 1) := by decide +kernel
theorem dX3_placesWith_5 : decode cX3_placesWith 5 = .ok (.bipush 32, 2) := by decide +kernel
theorem dX3_placesWith_7 : decode cX3_placesWith 7 = .ok (.if_icmp .ge 24, 3) := by decide +kernel
theorem dX3_placesWith_10 : decode cX3_placesWith 10 = .ok (.iload_n 2, 1) := by decide +kernel
theorem dX3_placesWith_11 : decode cX3_placesWith 11 = .ok (.aload_n 0, 1) := by decide +kernel
theorem dX3_placesWith_12 : decode cX3_placesWith 12 = .ok (.iload_n 1, 1) := by decide +kernel
theorem dX3_placesWith_13 : decode cX3_placesWith 13 = .ok (.iload_n 3, 1) := by decide +kernel
theorem dX3_placesWith_14 : decode cX3_placesWith 14 = .ok (.invokestatic 122, 3) := by decide +kernel
theorem dX3_placesWith_17 : decode cX3_placesWith 17 = .ok (.invokevirtual 97, 3) := by decide +kernel
theorem dX3_placesWith_20 : decode cX3_placesWith 20 = .ok (.invokestatic 115, 3) := by decide +kernel
theorem dX3_placesWith_23 : decode cX3_placesWith 23 = .ok (.iadd, 1) := by decide +kernel
theorem dX3_placesWith_24 : decode cX3_placesWith 24 = .ok (.istore_n 2, 1) := by decide +kernel
theorem dX3_placesWith_25 : decode cX3_placesWith 25 = .ok (.iinc 3 1, 3) := by decide +kernel
theorem dX3_placesWith_28 : decode cX3_placesWith 28 = .ok (.goto (-24), 3) := by decide +kernel
theorem dX3_placesWith_31 : decode cX3_placesWith 31 = .ok (.iload_n 2, 1) := by decide +kernel
theorem dX3_placesWith_32 : decode cX3_placesWith 32 = .ok (.ireturn, 1) := by decide +kernel
theorem dX3_isDead_0 : decode cX3_isDead 0 = .ok (.aload_n 0, 1) := by decide +kernel
theorem dX3_isDead_1 : decode cX3_isDead 1 = .ok (.iload_n 1, 1) := by decide +kernel
theorem dX3_isDead_2 : decode cX3_isDead 2 = .ok (.invokevirtual 125, 3) := by decide +kernel
theorem dX3_isDead_5 : decode cX3_isDead 5 = .ok (.ifCond .ne 7, 3) := by decide +kernel
theorem dX3_isDead_8 : decode cX3_isDead 8 = .ok (.iconst 1, 1) := by decide +kernel
theorem dX3_isDead_9 : decode cX3_isDead 9 = .ok (.goto 4, 3) := by decide +kernel
theorem dX3_isDead_12 : decode cX3_isDead 12 = .ok (.iconst 0, 1) := by decide +kernel
theorem dX3_isDead_13 : decode cX3_isDead 13 = .ok (.ireturn, 1) := by decide +kernel
theorem dX3_comesAgain_0 : decode cX3_comesAgain 0 = .ok (.iconst 0, 1) := by decide +kernel
theorem dX3_comesAgain_1 : decode cX3_comesAgain 1 = .ok (.istore_n 2, 1) := by decide +kernel
theorem dX3_comesAgain_2 : decode cX3_comesAgain 2 = .ok (.iload_n 2, 1) := by decide +kernel
theorem dX3_comesAgain_3 : decode cX3_comesAgain 3 = .ok (.bipush 32, 2) := by decide +kernel
theorem dX3_comesAgain_5 : decode cX3_comesAgain 5 = .ok (.if_icmp .ge 40, 3) := by decide +kernel
theorem dX3_comesAgain_8 : decode cX3_comesAgain 8 = .ok (.iload_n 1, 1) := by decide +kernel
theorem dX3_comesAgain_9 : decode cX3_comesAgain 9 = .ok (.iload_n 2, 1) := by decide +kernel
theorem dX3_comesAgain_10 : decode cX3_comesAgain 10 = .ok (.invokestatic 122, 3) := by decide +kernel
theorem dX3_comesAgain_13 : decode cX3_comesAgain 13 = .ok (.istore_n 3, 1) := by decide +kernel
theorem dX3_comesAgain_14 : decode cX3_comesAgain 14 = .ok (.aload_n 0, 1) := by decide +kernel
theorem dX3_comesAgain_15 : decode cX3_comesAgain 15 = .ok (.iload_n 3, 1) := by decide +kernel
theorem dX3_comesAgain_16 : decode cX3_comesAgain 16 = .ok (.invokevirtual 97, 3) := by decide +kernel
theorem dX3_comesAgain_19 : decode cX3_comesAgain 19 = .ok (.ifCond .eq 20, 3) := by decide +kernel
theorem dX3_comesAgain_22 : decode cX3_comesAgain 22 = .ok (.iload_n 1, 1) := by decide +kernel
theorem dX3_comesAgain_23 : decode cX3_comesAgain 23 = .ok (.aload_n 0, 1) := by decide +kernel
theorem dX3_comesAgain_24 : decode cX3_comesAgain 24 = .ok (.getfield 40, 3) := by decide +kernel
theorem dX3_comesAgain_27 : decode cX3_comesAgain 27 = .ok (.iload_n 3, 1) := by decide +kernel
theorem dX3_comesAgain_28 : decode cX3_comesAgain 28 = .ok (.invokevirtual 82, 3) := by decide +kernel
theorem dX3_comesAgain_31 : decode cX3_comesAgain 31 = .ok (.invokestatic 89, 3) := by decide +kernel
theorem dX3_comesAgain_34 : decode cX3_comesAgain 34 = .ok (.ifCond .eq 5, 3) := by decide +kernel
theorem dX3_comesAgain_37 : decode cX3_comesAgain 37 = .ok (.iconst 1, 1) := by decide +kernel
theorem dX3_comesAgain_38 : decode cX3_comesAgain 38 = .ok (.ireturn, 1) := by decide +kernel
theorem dX3_comesAgain_39 : decode cX3_comesAgain 39 = .ok (.iinc 2 1, 3) := by decide +kernel
theorem dX3_comesAgain_42 : decode cX3_comesAgain 42 = .ok (.goto (-40), 3) := by decide +kernel
theorem dX3_comesAgain_45 : decode cX3_comesAgain 45 = .ok (.iconst 0, 1) := by decide +kernel
theorem dX3_comesAgain_46 : decode cX3_comesAgain 46 = .ok (.ireturn, 1) := by decide +kernel
theorem dX3_stuckPlacesWith_0 : decode cX3_stuckPlacesWith 0 = .ok (.iconst 0, 1) := by decide +kernel
theorem dX3_stuckPlacesWith_1 : decode cX3_stuckPlacesWith 1 = .ok (.istore_n 2, 1) := by decide +kernel
theorem dX3_stuckPlacesWith_2 : decode cX3_stuckPlacesWith 2 = .ok (.iconst 0, 1) := by decide +kernel
theorem dX3_stuckPlacesWith_3 : decode cX3_stuckPlacesWith 3 = .ok (.istore_n 3, 1) := by decide +kernel
theorem dX3_stuckPlacesWith_4 : decode cX3_stuckPlacesWith 4 = .ok (.iload_n 3, 1) := by decide +kernel
theorem dX3_stuckPlacesWith_5 : decode cX3_stuckPlacesWith 5 = .ok (.bipush 32, 2) := by decide +kernel
theorem dX3_stuckPlacesWith_7 : decode cX3_stuckPlacesWith 7 = .ok (.if_icmp .ge 24, 3) := by decide +kernel
theorem dX3_stuckPlacesWith_10 : decode cX3_stuckPlacesWith 10 = .ok (.iload_n 2, 1) := by decide +kernel
theorem dX3_stuckPlacesWith_11 : decode cX3_stuckPlacesWith 11 = .ok (.aload_n 0, 1) := by decide +kernel
theorem dX3_stuckPlacesWith_12 : decode cX3_stuckPlacesWith 12 = .ok (.iload_n 1, 1) := by decide +kernel
theorem dX3_stuckPlacesWith_13 : decode cX3_stuckPlacesWith 13 = .ok (.iload_n 3, 1) := by decide +kernel
theorem dX3_stuckPlacesWith_14 : decode cX3_stuckPlacesWith 14 = .ok (.invokestatic 122, 3) := by decide +kernel
theorem dX3_stuckPlacesWith_17 : decode cX3_stuckPlacesWith 17 = .ok (.invokevirtual 128, 3) := by decide +kernel
theorem dX3_stuckPlacesWith_20 : decode cX3_stuckPlacesWith 20 = .ok (.invokestatic 115, 3) := by decide +kernel
theorem dX3_stuckPlacesWith_23 : decode cX3_stuckPlacesWith 23 = .ok (.iadd, 1) := by decide +kernel
theorem dX3_stuckPlacesWith_24 : decode cX3_stuckPlacesWith 24 = .ok (.istore_n 2, 1) := by decide +kernel
theorem dX3_stuckPlacesWith_25 : decode cX3_stuckPlacesWith 25 = .ok (.iinc 3 1, 3) := by decide +kernel
theorem dX3_stuckPlacesWith_28 : decode cX3_stuckPlacesWith 28 = .ok (.goto (-24), 3) := by decide +kernel
theorem dX3_stuckPlacesWith_31 : decode cX3_stuckPlacesWith 31 = .ok (.iload_n 2, 1) := by decide +kernel
theorem dX3_stuckPlacesWith_32 : decode cX3_stuckPlacesWith 32 = .ok (.ireturn, 1) := by decide +kernel
theorem dX3_fewestChoicesTo_0 : decode cX3_fewestChoicesTo 0 = .ok (.iconst 0, 1) := by decide +kernel
theorem dX3_fewestChoicesTo_1 : decode cX3_fewestChoicesTo 1 = .ok (.istore_n 2, 1) := by decide +kernel
theorem dX3_fewestChoicesTo_2 : decode cX3_fewestChoicesTo 2 = .ok (.iload_n 2, 1) := by decide +kernel
theorem dX3_fewestChoicesTo_3 : decode cX3_fewestChoicesTo 3 = .ok (.aload_n 0, 1) := by decide +kernel
theorem dX3_fewestChoicesTo_4 : decode cX3_fewestChoicesTo 4 = .ok (.getfield 19, 3) := by decide +kernel
theorem dX3_fewestChoicesTo_7 : decode cX3_fewestChoicesTo 7 = .ok (.if_icmp .ge 40, 3) := by decide +kernel
theorem dX3_fewestChoicesTo_10 : decode cX3_fewestChoicesTo 10 = .ok (.aload_n 0, 1) := by decide +kernel
theorem dX3_fewestChoicesTo_11 : decode cX3_fewestChoicesTo 11 = .ok (.getfield 27, 3) := by decide +kernel
theorem dX3_fewestChoicesTo_14 : decode cX3_fewestChoicesTo 14 = .ok (.iload_n 2, 1) := by decide +kernel
theorem dX3_fewestChoicesTo_15 : decode cX3_fewestChoicesTo 15 = .ok (.invokevirtual 82, 3) := by decide +kernel
theorem dX3_fewestChoicesTo_18 : decode cX3_fewestChoicesTo 18 = .ok (.invokestatic 109, 3) := by decide +kernel
theorem dX3_fewestChoicesTo_21 : decode cX3_fewestChoicesTo 21 = .ok (.iload_n 1, 1) := by decide +kernel
theorem dX3_fewestChoicesTo_22 : decode cX3_fewestChoicesTo 22 = .ok (.if_icmp .ne 19, 3) := by decide +kernel
theorem dX3_fewestChoicesTo_25 : decode cX3_fewestChoicesTo 25 = .ok (.aload_n 0, 1) := by decide +kernel
theorem dX3_fewestChoicesTo_26 : decode cX3_fewestChoicesTo 26 = .ok (.getfield 31, 3) := by decide +kernel
theorem dX3_fewestChoicesTo_29 : decode cX3_fewestChoicesTo 29 = .ok (.aload_n 0, 1) := by decide +kernel
theorem dX3_fewestChoicesTo_30 : decode cX3_fewestChoicesTo 30 = .ok (.getfield 27, 3) := by decide +kernel
theorem dX3_fewestChoicesTo_33 : decode cX3_fewestChoicesTo 33 = .ok (.iload_n 2, 1) := by decide +kernel
theorem dX3_fewestChoicesTo_34 : decode cX3_fewestChoicesTo 34 = .ok (.invokevirtual 82, 3) := by decide +kernel
theorem dX3_fewestChoicesTo_37 : decode cX3_fewestChoicesTo 37 = .ok (.invokevirtual 82, 3) := by decide +kernel
theorem dX3_fewestChoicesTo_40 : decode cX3_fewestChoicesTo 40 = .ok (.ireturn, 1) := by decide +kernel
theorem dX3_fewestChoicesTo_41 : decode cX3_fewestChoicesTo 41 = .ok (.iinc 2 1, 3) := by decide +kernel
theorem dX3_fewestChoicesTo_44 : decode cX3_fewestChoicesTo 44 = .ok (.goto (-42), 3) := by decide +kernel
theorem dX3_fewestChoicesTo_47 : decode cX3_fewestChoicesTo 47 = .ok (.bipush (-5), 2) := by decide +kernel
theorem dX3_fewestChoicesTo_49 : decode cX3_fewestChoicesTo 49 = .ok (.ireturn, 1) := by decide +kernel
theorem dX3_deadPages_0 : decode cX3_deadPages 0 = .ok (.iconst 0, 1) := by decide +kernel
theorem dX3_deadPages_1 : decode cX3_deadPages 1 = .ok (.istore_n 1, 1) := by decide +kernel
theorem dX3_deadPages_2 : decode cX3_deadPages 2 = .ok (.iconst 0, 1) := by decide +kernel
theorem dX3_deadPages_3 : decode cX3_deadPages 3 = .ok (.istore_n 2, 1) := by decide +kernel
theorem dX3_deadPages_4 : decode cX3_deadPages 4 = .ok (.iload_n 2, 1) := by decide +kernel
theorem dX3_deadPages_5 : decode cX3_deadPages 5 = .ok (.aload_n 0, 1) := by decide +kernel
theorem dX3_deadPages_6 : decode cX3_deadPages 6 = .ok (.getfield 15, 3) := by decide +kernel
theorem dX3_deadPages_9 : decode cX3_deadPages 9 = .ok (.if_icmp .ge 20, 3) := by decide +kernel
theorem dX3_deadPages_12 : decode cX3_deadPages 12 = .ok (.iload_n 1, 1) := by decide +kernel
theorem dX3_deadPages_13 : decode cX3_deadPages 13 = .ok (.aload_n 0, 1) := by decide +kernel
theorem dX3_deadPages_14 : decode cX3_deadPages 14 = .ok (.iload_n 2, 1) := by decide +kernel
theorem dX3_deadPages_15 : decode cX3_deadPages 15 = .ok (.invokevirtual 131, 3) := by decide +kernel
theorem dX3_deadPages_18 : decode cX3_deadPages 18 = .ok (.invokestatic 115, 3) := by decide +kernel
theorem dX3_deadPages_21 : decode cX3_deadPages 21 = .ok (.iadd, 1) := by decide +kernel
theorem dX3_deadPages_22 : decode cX3_deadPages 22 = .ok (.istore_n 1, 1) := by decide +kernel
theorem dX3_deadPages_23 : decode cX3_deadPages 23 = .ok (.iinc 2 1, 3) := by decide +kernel
theorem dX3_deadPages_26 : decode cX3_deadPages 26 = .ok (.goto (-22), 3) := by decide +kernel
theorem dX3_deadPages_29 : decode cX3_deadPages 29 = .ok (.iload_n 1, 1) := by decide +kernel
theorem dX3_deadPages_30 : decode cX3_deadPages 30 = .ok (.ireturn, 1) := by decide +kernel
theorem dX3_pagesThatComeAgain_0 : decode cX3_pagesThatComeAgain 0 = .ok (.iconst 0, 1) := by decide +kernel
theorem dX3_pagesThatComeAgain_1 : decode cX3_pagesThatComeAgain 1 = .ok (.istore_n 1, 1) := by decide +kernel
theorem dX3_pagesThatComeAgain_2 : decode cX3_pagesThatComeAgain 2 = .ok (.iconst 0, 1) := by decide +kernel
theorem dX3_pagesThatComeAgain_3 : decode cX3_pagesThatComeAgain 3 = .ok (.istore_n 2, 1) := by decide +kernel
theorem dX3_pagesThatComeAgain_4 : decode cX3_pagesThatComeAgain 4 = .ok (.iload_n 2, 1) := by decide +kernel
theorem dX3_pagesThatComeAgain_5 : decode cX3_pagesThatComeAgain 5 = .ok (.aload_n 0, 1) := by decide +kernel
theorem dX3_pagesThatComeAgain_6 : decode cX3_pagesThatComeAgain 6 = .ok (.getfield 15, 3) := by decide +kernel
theorem dX3_pagesThatComeAgain_9 : decode cX3_pagesThatComeAgain 9 = .ok (.if_icmp .ge 20, 3) := by decide +kernel
theorem dX3_pagesThatComeAgain_12 : decode cX3_pagesThatComeAgain 12 = .ok (.iload_n 1, 1) := by decide +kernel
theorem dX3_pagesThatComeAgain_13 : decode cX3_pagesThatComeAgain 13 = .ok (.aload_n 0, 1) := by decide +kernel
theorem dX3_pagesThatComeAgain_14 : decode cX3_pagesThatComeAgain 14 = .ok (.iload_n 2, 1) := by decide +kernel
theorem dX3_pagesThatComeAgain_15 : decode cX3_pagesThatComeAgain 15 = .ok (.invokevirtual 134, 3) := by decide +kernel
theorem dX3_pagesThatComeAgain_18 : decode cX3_pagesThatComeAgain 18 = .ok (.invokestatic 115, 3) := by decide +kernel
theorem dX3_pagesThatComeAgain_21 : decode cX3_pagesThatComeAgain 21 = .ok (.iadd, 1) := by decide +kernel
theorem dX3_pagesThatComeAgain_22 : decode cX3_pagesThatComeAgain 22 = .ok (.istore_n 1, 1) := by decide +kernel
theorem dX3_pagesThatComeAgain_23 : decode cX3_pagesThatComeAgain 23 = .ok (.iinc 2 1, 3) := by decide +kernel
theorem dX3_pagesThatComeAgain_26 : decode cX3_pagesThatComeAgain 26 = .ok (.goto (-22), 3) := by decide +kernel
theorem dX3_pagesThatComeAgain_29 : decode cX3_pagesThatComeAgain 29 = .ok (.iload_n 1, 1) := by decide +kernel
theorem dX3_pagesThatComeAgain_30 : decode cX3_pagesThatComeAgain 30 = .ok (.ireturn, 1) := by decide +kernel
theorem dX3_stuckPlaces_0 : decode cX3_stuckPlaces 0 = .ok (.iconst 0, 1) := by decide +kernel
theorem dX3_stuckPlaces_1 : decode cX3_stuckPlaces 1 = .ok (.istore_n 1, 1) := by decide +kernel
theorem dX3_stuckPlaces_2 : decode cX3_stuckPlaces 2 = .ok (.iconst 0, 1) := by decide +kernel
theorem dX3_stuckPlaces_3 : decode cX3_stuckPlaces 3 = .ok (.istore_n 2, 1) := by decide +kernel
theorem dX3_stuckPlaces_4 : decode cX3_stuckPlaces 4 = .ok (.iload_n 2, 1) := by decide +kernel
theorem dX3_stuckPlaces_5 : decode cX3_stuckPlaces 5 = .ok (.aload_n 0, 1) := by decide +kernel
theorem dX3_stuckPlaces_6 : decode cX3_stuckPlaces 6 = .ok (.getfield 15, 3) := by decide +kernel
theorem dX3_stuckPlaces_9 : decode cX3_stuckPlaces 9 = .ok (.if_icmp .ge 17, 3) := by decide +kernel
theorem dX3_stuckPlaces_12 : decode cX3_stuckPlaces 12 = .ok (.iload_n 1, 1) := by decide +kernel
theorem dX3_stuckPlaces_13 : decode cX3_stuckPlaces 13 = .ok (.aload_n 0, 1) := by decide +kernel
theorem dX3_stuckPlaces_14 : decode cX3_stuckPlaces 14 = .ok (.iload_n 2, 1) := by decide +kernel
theorem dX3_stuckPlaces_15 : decode cX3_stuckPlaces 15 = .ok (.invokevirtual 137, 3) := by decide +kernel
theorem dX3_stuckPlaces_18 : decode cX3_stuckPlaces 18 = .ok (.iadd, 1) := by decide +kernel
theorem dX3_stuckPlaces_19 : decode cX3_stuckPlaces 19 = .ok (.istore_n 1, 1) := by decide +kernel
theorem dX3_stuckPlaces_20 : decode cX3_stuckPlaces 20 = .ok (.iinc 2 1, 3) := by decide +kernel
theorem dX3_stuckPlaces_23 : decode cX3_stuckPlaces 23 = .ok (.goto (-19), 3) := by decide +kernel
theorem dX3_stuckPlaces_26 : decode cX3_stuckPlaces 26 = .ok (.iload_n 1, 1) := by decide +kernel
theorem dX3_stuckPlaces_27 : decode cX3_stuckPlaces 27 = .ok (.ireturn, 1) := by decide +kernel
theorem dX3_livePagesOf_0 : decode cX3_livePagesOf 0 = .ok (.iconst 0, 1) := by decide +kernel
theorem dX3_livePagesOf_1 : decode cX3_livePagesOf 1 = .ok (.istore_n 2, 1) := by decide +kernel
theorem dX3_livePagesOf_2 : decode cX3_livePagesOf 2 = .ok (.iconst 0, 1) := by decide +kernel
theorem dX3_livePagesOf_3 : decode cX3_livePagesOf 3 = .ok (.istore_n 3, 1) := by decide +kernel
theorem dX3_livePagesOf_4 : decode cX3_livePagesOf 4 = .ok (.iload_n 3, 1) := by decide +kernel
theorem dX3_livePagesOf_5 : decode cX3_livePagesOf 5 = .ok (.aload_n 0, 1) := by decide +kernel
theorem dX3_livePagesOf_6 : decode cX3_livePagesOf 6 = .ok (.getfield 15, 3) := by decide +kernel
theorem dX3_livePagesOf_9 : decode cX3_livePagesOf 9 = .ok (.if_icmp .ge 36, 3) := by decide +kernel
theorem dX3_livePagesOf_12 : decode cX3_livePagesOf 12 = .ok (.iload_n 2, 1) := by decide +kernel
theorem dX3_livePagesOf_13 : decode cX3_livePagesOf 13 = .ok (.iload_n 3, 1) := by decide +kernel
theorem dX3_livePagesOf_14 : decode cX3_livePagesOf 14 = .ok (.iload_n 1, 1) := by decide +kernel
theorem dX3_livePagesOf_15 : decode cX3_livePagesOf 15 = .ok (.invokestatic 89, 3) := by decide +kernel
theorem dX3_livePagesOf_18 : decode cX3_livePagesOf 18 = .ok (.ifCond .eq 15, 3) := by decide +kernel
theorem dX3_livePagesOf_21 : decode cX3_livePagesOf 21 = .ok (.aload_n 0, 1) := by decide +kernel
theorem dX3_livePagesOf_22 : decode cX3_livePagesOf 22 = .ok (.iload_n 3, 1) := by decide +kernel
theorem dX3_livePagesOf_23 : decode cX3_livePagesOf 23 = .ok (.invokevirtual 131, 3) := by decide +kernel
theorem dX3_livePagesOf_26 : decode cX3_livePagesOf 26 = .ok (.ifCond .ne 7, 3) := by decide +kernel
theorem dX3_livePagesOf_29 : decode cX3_livePagesOf 29 = .ok (.iconst 1, 1) := by decide +kernel
theorem dX3_livePagesOf_30 : decode cX3_livePagesOf 30 = .ok (.goto 4, 3) := by decide +kernel
theorem dX3_livePagesOf_33 : decode cX3_livePagesOf 33 = .ok (.iconst 0, 1) := by decide +kernel
theorem dX3_livePagesOf_34 : decode cX3_livePagesOf 34 = .ok (.invokestatic 115, 3) := by decide +kernel
theorem dX3_livePagesOf_37 : decode cX3_livePagesOf 37 = .ok (.iadd, 1) := by decide +kernel
theorem dX3_livePagesOf_38 : decode cX3_livePagesOf 38 = .ok (.istore_n 2, 1) := by decide +kernel
theorem dX3_livePagesOf_39 : decode cX3_livePagesOf 39 = .ok (.iinc 3 1, 3) := by decide +kernel
theorem dX3_livePagesOf_42 : decode cX3_livePagesOf 42 = .ok (.goto (-38), 3) := by decide +kernel
theorem dX3_livePagesOf_45 : decode cX3_livePagesOf 45 = .ok (.iload_n 2, 1) := by decide +kernel
theorem dX3_livePagesOf_46 : decode cX3_livePagesOf 46 = .ok (.ireturn, 1) := by decide +kernel
theorem dX3_isEverOpen_0 : decode cX3_isEverOpen 0 = .ok (.iconst 0, 1) := by decide +kernel
theorem dX3_isEverOpen_1 : decode cX3_isEverOpen 1 = .ok (.istore 4, 2) := by decide +kernel
theorem dX3_isEverOpen_3 : decode cX3_isEverOpen 3 = .ok (.iload 4, 2) := by decide +kernel
theorem dX3_isEverOpen_5 : decode cX3_isEverOpen 5 = .ok (.bipush 32, 2) := by decide +kernel
theorem dX3_isEverOpen_7 : decode cX3_isEverOpen 7 = .ok (.if_icmp .ge 38, 3) := by decide +kernel
theorem dX3_isEverOpen_10 : decode cX3_isEverOpen 10 = .ok (.iload_n 2, 1) := by decide +kernel
theorem dX3_isEverOpen_11 : decode cX3_isEverOpen 11 = .ok (.iload 4, 2) := by decide +kernel
theorem dX3_isEverOpen_13 : decode cX3_isEverOpen 13 = .ok (.invokestatic 122, 3) := by decide +kernel
theorem dX3_isEverOpen_16 : decode cX3_isEverOpen 16 = .ok (.istore 5, 2) := by decide +kernel
theorem dX3_isEverOpen_18 : decode cX3_isEverOpen 18 = .ok (.aload_n 0, 1) := by decide +kernel
theorem dX3_isEverOpen_19 : decode cX3_isEverOpen 19 = .ok (.iload 5, 2) := by decide +kernel
theorem dX3_isEverOpen_21 : decode cX3_isEverOpen 21 = .ok (.invokevirtual 97, 3) := by decide +kernel
theorem dX3_isEverOpen_24 : decode cX3_isEverOpen 24 = .ok (.ifCond .eq 15, 3) := by decide +kernel
theorem dX3_isEverOpen_27 : decode cX3_isEverOpen 27 = .ok (.aload_n 1, 1) := by decide +kernel
theorem dX3_isEverOpen_28 : decode cX3_isEverOpen 28 = .ok (.iload 5, 2) := by decide +kernel
theorem dX3_isEverOpen_30 : decode cX3_isEverOpen 30 = .ok (.iload_n 3, 1) := by decide +kernel
theorem dX3_isEverOpen_31 : decode cX3_isEverOpen 31 = .ok (.invokevirtual 140, 3) := by decide +kernel
theorem dX3_isEverOpen_34 : decode cX3_isEverOpen 34 = .ok (.ifCond .ne 5, 3) := by decide +kernel
theorem dX3_isEverOpen_37 : decode cX3_isEverOpen 37 = .ok (.iconst 1, 1) := by decide +kernel
theorem dX3_isEverOpen_38 : decode cX3_isEverOpen 38 = .ok (.ireturn, 1) := by decide +kernel
theorem dX3_isEverOpen_39 : decode cX3_isEverOpen 39 = .ok (.iinc 4 1, 3) := by decide +kernel
theorem dX3_isEverOpen_42 : decode cX3_isEverOpen 42 = .ok (.goto (-39), 3) := by decide +kernel
theorem dX3_isEverOpen_45 : decode cX3_isEverOpen 45 = .ok (.iconst 0, 1) := by decide +kernel
theorem dX3_isEverOpen_46 : decode cX3_isEverOpen 46 = .ok (.ireturn, 1) := by decide +kernel
theorem dX4_init_0 : decode cX4_init 0 = .ok (.aload_n 0, 1) := by decide +kernel
theorem dX4_init_1 : decode cX4_init 1 = .ok (.invokespecial 3, 3) := by decide +kernel
theorem dX4_init_4 : decode cX4_init 4 = .ok (.aload_n 0, 1) := by decide +kernel
theorem dX4_init_5 : decode cX4_init 5 = .ok (.new 9, 3) := by decide +kernel
theorem dX4_init_8 : decode cX4_init 8 = .ok (.dup, 1) := by decide +kernel
theorem dX4_init_9 : decode cX4_init 9 = .ok (.bipush 60, 2) := by decide +kernel
theorem dX4_init_11 : decode cX4_init 11 = .ok (.invokespecial 11, 3) := by decide +kernel
theorem dX4_init_14 : decode cX4_init 14 = .ok (.putfield 14, 3) := by decide +kernel
theorem dX4_init_17 : decode cX4_init 17 = .ok (.aload_n 0, 1) := by decide +kernel
theorem dX4_init_18 : decode cX4_init 18 = .ok (.iconst 0, 1) := by decide +kernel
theorem dX4_init_19 : decode cX4_init 19 = .ok (.putfield 20, 3) := by decide +kernel
theorem dX4_init_22 : decode cX4_init 22 = .ok (.aload_n 0, 1) := by decide +kernel
theorem dX4_init_23 : decode cX4_init 23 = .ok (.iconst 0, 1) := by decide +kernel
theorem dX4_init_24 : decode cX4_init 24 = .ok (.putfield 24, 3) := by decide +kernel
theorem dX4_init_27 : decode cX4_init 27 = .ok (.aload_n 0, 1) := by decide +kernel
theorem dX4_init_28 : decode cX4_init 28 = .ok (.iconst 1, 1) := by decide +kernel
theorem dX4_init_29 : decode cX4_init 29 = .ok (.putfield 27, 3) := by decide +kernel
theorem dX4_init_32 : decode cX4_init 32 = .ok (.aload_n 0, 1) := by decide +kernel
theorem dX4_init_33 : decode cX4_init 33 = .ok (.iconst 0, 1) := by decide +kernel
theorem dX4_init_34 : decode cX4_init 34 = .ok (.putfield 31, 3) := by decide +kernel
theorem dX4_init_37 : decode cX4_init 37 = .ok (.aload_n 0, 1) := by decide +kernel
theorem dX4_init_38 : decode cX4_init 38 = .ok (.new 9, 3) := by decide +kernel
theorem dX4_init_41 : decode cX4_init 41 = .ok (.dup, 1) := by decide +kernel
theorem dX4_init_42 : decode cX4_init 42 = .ok (.bipush 16, 2) := by decide +kernel
theorem dX4_init_44 : decode cX4_init 44 = .ok (.invokespecial 11, 3) := by decide +kernel
theorem dX4_init_47 : decode cX4_init 47 = .ok (.putfield 34, 3) := by decide +kernel
theorem dX4_init_50 : decode cX4_init 50 = .ok (.aload_n 0, 1) := by decide +kernel
theorem dX4_init_51 : decode cX4_init 51 = .ok (.new 9, 3) := by decide +kernel
theorem dX4_init_54 : decode cX4_init 54 = .ok (.dup, 1) := by decide +kernel
theorem dX4_init_55 : decode cX4_init 55 = .ok (.bipush 16, 2) := by decide +kernel
theorem dX4_init_57 : decode cX4_init 57 = .ok (.invokespecial 11, 3) := by decide +kernel
theorem dX4_init_60 : decode cX4_init 60 = .ok (.putfield 37, 3) := by decide +kernel
theorem dX4_init_63 : decode cX4_init 63 = .ok (.aload_n 0, 1) := by decide +kernel
theorem dX4_init_64 : decode cX4_init 64 = .ok (.new 9, 3) := by decide +kernel
theorem dX4_init_67 : decode cX4_init 67 = .ok (.dup, 1) := by decide +kernel
theorem dX4_init_68 : decode cX4_init 68 = .ok (.bipush 16, 2) := by decide +kernel
theorem dX4_init_70 : decode cX4_init 70 = .ok (.invokespecial 11, 3) := by decide +kernel
theorem dX4_init_73 : decode cX4_init 73 = .ok (.putfield 40, 3) := by decide +kernel
theorem dX4_init_76 : decode cX4_init 76 = .ok (.aload_n 0, 1) := by decide +kernel
theorem dX4_init_77 : decode cX4_init 77 = .ok (.new 9, 3) := by decide +kernel
theorem dX4_init_80 : decode cX4_init 80 = .ok (.dup, 1) := by decide +kernel
theorem dX4_init_81 : decode cX4_init 81 = .ok (.bipush 16, 2) := by decide +kernel
theorem dX4_init_83 : decode cX4_init 83 = .ok (.invokespecial 11, 3) := by decide +kernel
theorem dX4_init_86 : decode cX4_init 86 = .ok (.putfield 43, 3) := by decide +kernel
theorem dX4_init_89 : decode cX4_init 89 = .ok (.return_, 1) := by decide +kernel
theorem dX4_append_0 : decode cX4_append 0 = .ok (.aload_n 0, 1) := by decide +kernel
theorem dX4_append_1 : decode cX4_append 1 = .ok (.getfield 14, 3) := by decide +kernel
theorem dX4_append_4 : decode cX4_append 4 = .ok (.aload_n 0, 1) := by decide +kernel
theorem dX4_append_5 : decode cX4_append 5 = .ok (.getfield 20, 3) := by decide +kernel
theorem dX4_append_8 : decode cX4_append 8 = .ok (.iload_n 1, 1) := by decide +kernel
theorem dX4_append_9 : decode cX4_append 9 = .ok (.invokevirtual 46, 3) := by decide +kernel
theorem dX4_append_12 : decode cX4_append 12 = .ok (.aload_n 0, 1) := by decide +kernel
theorem dX4_append_13 : decode cX4_append 13 = .ok (.aload_n 0, 1) := by decide +kernel
theorem dX4_append_14 : decode cX4_append 14 = .ok (.getfield 20, 3) := by decide +kernel
theorem dX4_append_17 : decode cX4_append 17 = .ok (.iconst 1, 1) := by decide +kernel
theorem dX4_append_18 : decode cX4_append 18 = .ok (.iadd, 1) := by decide +kernel
theorem dX4_append_19 : decode cX4_append 19 = .ok (.putfield 20, 3) := by decide +kernel
theorem dX4_append_22 : decode cX4_append 22 = .ok (.aload_n 0, 1) := by decide +kernel
theorem dX4_append_23 : decode cX4_append 23 = .ok (.getfield 20, 3) := by decide +kernel
theorem dX4_append_26 : decode cX4_append 26 = .ok (.ireturn, 1) := by decide +kernel
theorem dX4_parse_0 : decode cX4_parse 0 = .ok (.aload_n 0, 1) := by decide +kernel
theorem dX4_parse_1 : decode cX4_parse 1 = .ok (.iconst 0, 1) := by decide +kernel
theorem dX4_parse_2 : decode cX4_parse 2 = .ok (.putfield 24, 3) := by decide +kernel
theorem dX4_parse_5 : decode cX4_parse 5 = .ok (.aload_n 0, 1) := by decide +kernel
theorem dX4_parse_6 : decode cX4_parse 6 = .ok (.iconst 1, 1) := by decide +kernel
theorem dX4_parse_7 : decode cX4_parse 7 = .ok (.putfield 27, 3) := by decide +kernel
theorem dX4_parse_10 : decode cX4_parse 10 = .ok (.aload_n 0, 1) := by decide +kernel
theorem dX4_parse_11 : decode cX4_parse 11 = .ok (.iconst 0, 1) := by decide +kernel
theorem dX4_parse_12 : decode cX4_parse 12 = .ok (.putfield 31, 3) := by decide +kernel
theorem dX4_parse_15 : decode cX4_parse 15 = .ok (.aload_n 0, 1) := by decide +kernel
theorem dX4_parse_16 : decode cX4_parse 16 = .ok (.invokevirtual 50, 3) := by decide +kernel
theorem dX4_parse_19 : decode cX4_parse 19 = .ok (.iconst 1, 1) := by decide +kernel
theorem dX4_parse_20 : decode cX4_parse 20 = .ok (.istore_n 1, 1) := by decide +kernel
theorem dX4_parse_21 : decode cX4_parse 21 = .ok (.iload_n 1, 1) := by decide +kernel
theorem dX4_parse_22 : decode cX4_parse 22 = .ok (.bipush 16, 2) := by decide +kernel
theorem dX4_parse_24 : decode cX4_parse 24 = .ok (.if_icmp .ge 39, 3) := by decide +kernel
theorem dX4_parse_27 : decode cX4_parse 27 = .ok (.aload_n 0, 1) := by decide +kernel
theorem dX4_parse_28 : decode cX4_parse 28 = .ok (.getfield 27, 3) := by decide +kernel
theorem dX4_parse_31 : decode cX4_parse 31 = .ok (.ifCond .eq 32, 3) := by decide +kernel
theorem dX4_parse_34 : decode cX4_parse 34 = .ok (.aload_n 0, 1) := by decide +kernel
theorem dX4_parse_35 : decode cX4_parse 35 = .ok (.invokevirtual 53, 3) := by decide +kernel
theorem dX4_parse_38 : decode cX4_parse 38 = .ok (.bipush 59, 2) := by decide +kernel
theorem dX4_parse_40 : decode cX4_parse 40 = .ok (.if_icmp .ne 23, 3) := by decide +kernel
theorem dX4_parse_43 : decode cX4_parse 43 = .ok (.aload_n 0, 1) := by decide +kernel
theorem dX4_parse_44 : decode cX4_parse 44 = .ok (.aload_n 0, 1) := by decide +kernel
theorem dX4_parse_45 : decode cX4_parse 45 = .ok (.getfield 24, 3) := by decide +kernel
theorem dX4_parse_48 : decode cX4_parse 48 = .ok (.iconst 1, 1) := by decide +kernel
theorem dX4_parse_49 : decode cX4_parse 49 = .ok (.iadd, 1) := by decide +kernel
theorem dX4_parse_50 : decode cX4_parse 50 = .ok (.putfield 24, 3) := by decide +kernel
theorem dX4_parse_53 : decode cX4_parse 53 = .ok (.aload_n 0, 1) := by decide +kernel
theorem dX4_parse_54 : decode cX4_parse 54 = .ok (.invokevirtual 50, 3) := by decide +kernel
theorem dX4_parse_57 : decode cX4_parse 57 = .ok (.iinc 1 1, 3) := by decide +kernel
theorem dX4_parse_60 : decode cX4_parse 60 = .ok (.goto (-39), 3) := by decide +kernel
theorem dX4_parse_63 : decode cX4_parse 63 = .ok (.aload_n 0, 1) := by decide +kernel
theorem dX4_parse_64 : decode cX4_parse 64 = .ok (.getfield 27, 3) := by decide +kernel
theorem dX4_parse_67 : decode cX4_parse 67 = .ok (.ifCond .eq 18, 3) := by decide +kernel
theorem dX4_parse_70 : decode cX4_parse 70 = .ok (.aload_n 0, 1) := by decide +kernel
theorem dX4_parse_71 : decode cX4_parse 71 = .ok (.getfield 24, 3) := by decide +kernel
theorem dX4_parse_74 : decode cX4_parse 74 = .ok (.aload_n 0, 1) := by decide +kernel
theorem dX4_parse_75 : decode cX4_parse 75 = .ok (.getfield 20, 3) := by decide +kernel
theorem dX4_parse_78 : decode cX4_parse 78 = .ok (.if_icmp .ne 7, 3) := by decide +kernel
theorem dX4_parse_81 : decode cX4_parse 81 = .ok (.iconst 1, 1) := by decide +kernel
theorem dX4_parse_82 : decode cX4_parse 82 = .ok (.goto 4, 3) := by decide +kernel
theorem dX4_parse_85 : decode cX4_parse 85 = .ok (.iconst 0, 1) := by decide +kernel
theorem dX4_parse_86 : decode cX4_parse 86 = .ok (.ireturn, 1) := by decide +kernel
theorem dX4_sign_0 : decode cX4_sign 0 = .ok (.aload_n 0, 1) := by decide +kernel
theorem dX4_sign_1 : decode cX4_sign 1 = .ok (.getfield 24, 3) := by decide +kernel
theorem dX4_sign_4 : decode cX4_sign 4 = .ok (.aload_n 0, 1) := by decide +kernel
theorem dX4_sign_5 : decode cX4_sign 5 = .ok (.getfield 20, 3) := by decide +kernel
theorem dX4_sign_8 : decode cX4_sign 8 = .ok (.if_icmp .ge 17, 3) := by decide +kernel
theorem dX4_sign_11 : decode cX4_sign 11 = .ok (.aload_n 0, 1) := by decide +kernel
theorem dX4_sign_12 : decode cX4_sign 12 = .ok (.getfield 14, 3) := by decide +kernel
theorem dX4_sign_15 : decode cX4_sign 15 = .ok (.aload_n 0, 1) := by decide +kernel
theorem dX4_sign_16 : decode cX4_sign 16 = .ok (.getfield 24, 3) := by decide +kernel
theorem dX4_sign_19 : decode cX4_sign 19 = .ok (.invokevirtual 57, 3) := by decide +kernel
theorem dX4_sign_22 : decode cX4_sign 22 = .ok (.goto 4, 3) := by decide +kernel
theorem dX4_sign_25 : decode cX4_sign 25 = .ok (.iconst (-1), 1) := by decide +kernel
theorem dX4_sign_26 : decode cX4_sign 26 = .ok (.ireturn, 1) := by decide +kernel
theorem dX4_parseChoice_0 : decode cX4_parseChoice 0 = .ok (.aload_n 0, 1) := by decide +kernel
theorem dX4_parseChoice_1 : decode cX4_parseChoice 1 = .ok (.invokevirtual 60, 3) := by decide +kernel
theorem dX4_parseChoice_4 : decode cX4_parseChoice 4 = .ok (.istore_n 1, 1) := by decide +kernel
theorem dX4_parseChoice_5 : decode cX4_parseChoice 5 = .ok (.aload_n 0, 1) := by decide +kernel
theorem dX4_parseChoice_6 : decode cX4_parseChoice 6 = .ok (.invokevirtual 63, 3) := by decide +kernel
theorem dX4_parseChoice_9 : decode cX4_parseChoice 9 = .ok (.aload_n 0, 1) := by decide +kernel
theorem dX4_parseChoice_10 : decode cX4_parseChoice 10 = .ok (.invokevirtual 60, 3) := by decide +kernel
theorem dX4_parseChoice_13 : decode cX4_parseChoice 13 = .ok (.istore_n 2, 1) := by decide +kernel
theorem dX4_parseChoice_14 : decode cX4_parseChoice 14 = .ok (.aload_n 0, 1) := by decide +kernel
theorem dX4_parseChoice_15 : decode cX4_parseChoice 15 = .ok (.bipush 43, 2) := by decide +kernel
theorem dX4_parseChoice_17 : decode cX4_parseChoice 17 = .ok (.invokevirtual 66, 3) := by decide +kernel
theorem dX4_parseChoice_20 : decode cX4_parseChoice 20 = .ok (.istore_n 3, 1) := by decide +kernel
theorem dX4_parseChoice_21 : decode cX4_parseChoice 21 = .ok (.aload_n 0, 1) := by decide +kernel
theorem dX4_parseChoice_22 : decode cX4_parseChoice 22 = .ok (.bipush 45, 2) := by decide +kernel
theorem dX4_parseChoice_24 : decode cX4_parseChoice 24 = .ok (.invokevirtual 66, 3) := by decide +kernel
theorem dX4_parseChoice_27 : decode cX4_parseChoice 27 = .ok (.istore 4, 2) := by decide +kernel
theorem dX4_parseChoice_29 : decode cX4_parseChoice 29 = .ok (.aload_n 0, 1) := by decide +kernel
theorem dX4_parseChoice_30 : decode cX4_parseChoice 30 = .ok (.getfield 27, 3) := by decide +kernel
theorem dX4_parseChoice_33 : decode cX4_parseChoice 33 = .ok (.ifCond .eq 62, 3) := by decide +kernel
theorem dX4_parseChoice_36 : decode cX4_parseChoice 36 = .ok (.aload_n 0, 1) := by decide +kernel
theorem dX4_parseChoice_37 : decode cX4_parseChoice 37 = .ok (.getfield 34, 3) := by decide +kernel
theorem dX4_parseChoice_40 : decode cX4_parseChoice 40 = .ok (.aload_n 0, 1) := by decide +kernel
theorem dX4_parseChoice_41 : decode cX4_parseChoice 41 = .ok (.getfield 31, 3) := by decide +kernel
theorem dX4_parseChoice_44 : decode cX4_parseChoice 44 = .ok (.iload_n 1, 1) := by decide +kernel
theorem dX4_parseChoice_45 : decode cX4_parseChoice 45 = .ok (.invokevirtual 46, 3) := by decide +kernel
theorem dX4_parseChoice_48 : decode cX4_parseChoice 48 = .ok (.aload_n 0, 1) := by decide +kernel
theorem dX4_parseChoice_49 : decode cX4_parseChoice 49 = .ok (.getfield 37, 3) := by decide +kernel
theorem dX4_parseChoice_52 : decode cX4_parseChoice 52 = .ok (.aload_n 0, 1) := by decide +kernel
theorem dX4_parseChoice_53 : decode cX4_parseChoice 53 = .ok (.getfield 31, 3) := by decide +kernel
theorem dX4_parseChoice_56 : decode cX4_parseChoice 56 = .ok (.iload_n 2, 1) := by decide +kernel
theorem dX4_parseChoice_57 : decode cX4_parseChoice 57 = .ok (.invokevirtual 46, 3) := by decide +kernel
theorem dX4_parseChoice_60 : decode cX4_parseChoice 60 = .ok (.aload_n 0, 1) := by decide +kernel
theorem dX4_parseChoice_61 : decode cX4_parseChoice 61 = .ok (.getfield 40, 3) := by decide +kernel
theorem dX4_parseChoice_64 : decode cX4_parseChoice 64 = .ok (.aload_n 0, 1) := by decide +kernel
theorem dX4_parseChoice_65 : decode cX4_parseChoice 65 = .ok (.getfield 31, 3) := by decide +kernel
theorem dX4_parseChoice_68 : decode cX4_parseChoice 68 = .ok (.iload_n 3, 1) := by decide +kernel
theorem dX4_parseChoice_69 : decode cX4_parseChoice 69 = .ok (.invokevirtual 46, 3) := by decide +kernel
theorem dX4_parseChoice_72 : decode cX4_parseChoice 72 = .ok (.aload_n 0, 1) := by decide +kernel
theorem dX4_parseChoice_73 : decode cX4_parseChoice 73 = .ok (.getfield 43, 3) := by decide +kernel
theorem dX4_parseChoice_76 : decode cX4_parseChoice 76 = .ok (.aload_n 0, 1) := by decide +kernel
theorem dX4_parseChoice_77 : decode cX4_parseChoice 77 = .ok (.getfield 31, 3) := by decide +kernel
theorem dX4_parseChoice_80 : decode cX4_parseChoice 80 = .ok (.iload 4, 2) := by decide +kernel
theorem dX4_parseChoice_82 : decode cX4_parseChoice 82 = .ok (.invokevirtual 46, 3) := by decide +kernel
theorem dX4_parseChoice_85 : decode cX4_parseChoice 85 = .ok (.aload_n 0, 1) := by decide +kernel
theorem dX4_parseChoice_86 : decode cX4_parseChoice 86 = .ok (.aload_n 0, 1) := by decide +kernel
theorem dX4_parseChoice_87 : decode cX4_parseChoice 87 = .ok (.getfield 31, 3) := by decide +kernel
theorem dX4_parseChoice_90 : decode cX4_parseChoice 90 = .ok (.iconst 1, 1) := by decide +kernel
theorem dX4_parseChoice_91 : decode cX4_parseChoice 91 = .ok (.iadd, 1) := by decide +kernel
theorem dX4_parseChoice_92 : decode cX4_parseChoice 92 = .ok (.putfield 31, 3) := by decide +kernel
theorem dX4_parseChoice_95 : decode cX4_parseChoice 95 = .ok (.return_, 1) := by decide +kernel
theorem dX4_parseNumber_0 : decode cX4_parseNumber 0 = .ok (.aload_n 0, 1) := by decide +kernel
theorem dX4_parseNumber_1 : decode cX4_parseNumber 1 = .ok (.getfield 27, 3) := by decide +kernel
theorem dX4_parseNumber_4 : decode cX4_parseNumber 4 = .ok (.ifCond .eq 13, 3) := by decide +kernel
theorem dX4_parseNumber_7 : decode cX4_parseNumber 7 = .ok (.aload_n 0, 1) := by decide +kernel
theorem dX4_parseNumber_8 : decode cX4_parseNumber 8 = .ok (.invokevirtual 53, 3) := by decide +kernel
theorem dX4_parseNumber_11 : decode cX4_parseNumber 11 = .ok (.invokestatic 70, 3) := by decide +kernel
theorem dX4_parseNumber_14 : decode cX4_parseNumber 14 = .ok (.ifCond .ne 10, 3) := by decide +kernel
theorem dX4_parseNumber_17 : decode cX4_parseNumber 17 = .ok (.aload_n 0, 1) := by decide +kernel
theorem dX4_parseNumber_18 : decode cX4_parseNumber 18 = .ok (.iconst 0, 1) := by decide +kernel
theorem dX4_parseNumber_19 : decode cX4_parseNumber 19 = .ok (.putfield 27, 3) := by decide +kernel
theorem dX4_parseNumber_22 : decode cX4_parseNumber 22 = .ok (.iconst 0, 1) := by decide +kernel
theorem dX4_parseNumber_23 : decode cX4_parseNumber 23 = .ok (.ireturn, 1) := by decide +kernel
theorem dX4_parseNumber_24 : decode cX4_parseNumber 24 = .ok (.aload_n 0, 1) := by decide +kernel
theorem dX4_parseNumber_25 : decode cX4_parseNumber 25 = .ok (.invokevirtual 53, 3) := by decide +kernel
theorem dX4_parseNumber_28 : decode cX4_parseNumber 28 = .ok (.bipush 48, 2) := by decide +kernel
theorem dX4_parseNumber_30 : decode cX4_parseNumber 30 = .ok (.isub, 1) := by decide +kernel
theorem dX4_parseNumber_31 : decode cX4_parseNumber 31 = .ok (.istore_n 1, 1) := by decide +kernel
theorem dX4_parseNumber_32 : decode cX4_parseNumber 32 = .ok (.aload_n 0, 1) := by decide +kernel
theorem dX4_parseNumber_33 : decode cX4_parseNumber 33 = .ok (.aload_n 0, 1) := by decide +kernel
theorem dX4_parseNumber_34 : decode cX4_parseNumber 34 = .ok (.getfield 24, 3) := by decide +kernel
theorem dX4_parseNumber_37 : decode cX4_parseNumber 37 = .ok (.iconst 1, 1) := by decide +kernel
theorem dX4_parseNumber_38 : decode cX4_parseNumber 38 = .ok (.iadd, 1) := by decide +kernel
theorem dX4_parseNumber_39 : decode cX4_parseNumber 39 = .ok (.putfield 24, 3) := by decide +kernel
theorem dX4_parseNumber_42 : decode cX4_parseNumber 42 = .ok (.iload_n 1, 1) := by decide +kernel
theorem dX4_parseNumber_43 : decode cX4_parseNumber 43 = .ok (.ifCond .eq 13, 3) := by decide +kernel
theorem dX4_parseNumber_46 : decode cX4_parseNumber 46 = .ok (.aload_n 0, 1) := by decide +kernel
theorem dX4_parseNumber_47 : decode cX4_parseNumber 47 = .ok (.invokevirtual 53, 3) := by decide +kernel
theorem dX4_parseNumber_50 : decode cX4_parseNumber 50 = .ok (.invokestatic 70, 3) := by decide +kernel
theorem dX4_parseNumber_53 : decode cX4_parseNumber 53 = .ok (.ifCond .ne 5, 3) := by decide +kernel
theorem dX4_parseNumber_56 : decode cX4_parseNumber 56 = .ok (.iload_n 1, 1) := by decide +kernel
theorem dX4_parseNumber_57 : decode cX4_parseNumber 57 = .ok (.ireturn, 1) := by decide +kernel
theorem dX4_parseNumber_58 : decode cX4_parseNumber 58 = .ok (.iload_n 1, 1) := by decide +kernel
theorem dX4_parseNumber_59 : decode cX4_parseNumber 59 = .ok (.bipush 10, 2) := by decide +kernel
theorem dX4_parseNumber_61 : decode cX4_parseNumber 61 = .ok (.imul, 1) := by decide +kernel
theorem dX4_parseNumber_62 : decode cX4_parseNumber 62 = .ok (.aload_n 0, 1) := by decide +kernel
theorem dX4_parseNumber_63 : decode cX4_parseNumber 63 = .ok (.invokevirtual 53, 3) := by decide +kernel
theorem dX4_parseNumber_66 : decode cX4_parseNumber 66 = .ok (.iadd, 1) := by decide +kernel
theorem dX4_parseNumber_67 : decode cX4_parseNumber 67 = .ok (.bipush 48, 2) := by decide +kernel
theorem dX4_parseNumber_69 : decode cX4_parseNumber 69 = .ok (.isub, 1) := by decide +kernel
theorem dX4_parseNumber_70 : decode cX4_parseNumber 70 = .ok (.istore_n 2, 1) := by decide +kernel
theorem dX4_parseNumber_71 : decode cX4_parseNumber 71 = .ok (.iload_n 2, 1) := by decide +kernel
theorem dX4_parseNumber_72 : decode cX4_parseNumber 72 = .ok (.bipush 32, 2) := by decide +kernel
theorem dX4_parseNumber_74 : decode cX4_parseNumber 74 = .ok (.if_icmp .lt 5, 3) := by decide +kernel
theorem dX4_parseNumber_77 : decode cX4_parseNumber 77 = .ok (.iload_n 1, 1) := by decide +kernel
theorem dX4_parseNumber_78 : decode cX4_parseNumber 78 = .ok (.ireturn, 1) := by decide +kernel
theorem dX4_parseNumber_79 : decode cX4_parseNumber 79 = .ok (.aload_n 0, 1) := by decide +kernel
theorem dX4_parseNumber_80 : decode cX4_parseNumber 80 = .ok (.aload_n 0, 1) := by decide +kernel
theorem dX4_parseNumber_81 : decode cX4_parseNumber 81 = .ok (.getfield 24, 3) := by decide +kernel
theorem dX4_parseNumber_84 : decode cX4_parseNumber 84 = .ok (.iconst 1, 1) := by decide +kernel
theorem dX4_parseNumber_85 : decode cX4_parseNumber 85 = .ok (.iadd, 1) := by decide +kernel
theorem dX4_parseNumber_86 : decode cX4_parseNumber 86 = .ok (.putfield 24, 3) := by decide +kernel
theorem dX4_parseNumber_89 : decode cX4_parseNumber 89 = .ok (.iload_n 2, 1) := by decide +kernel
theorem dX4_parseNumber_90 : decode cX4_parseNumber 90 = .ok (.ireturn, 1) := by decide +kernel
theorem dX4_parseArrow_0 : decode cX4_parseArrow 0 = .ok (.aload_n 0, 1) := by decide +kernel
theorem dX4_parseArrow_1 : decode cX4_parseArrow 1 = .ok (.getfield 27, 3) := by decide +kernel
theorem dX4_parseArrow_4 : decode cX4_parseArrow 4 = .ok (.ifCond .eq 12, 3) := by decide +kernel
theorem dX4_parseArrow_7 : decode cX4_parseArrow 7 = .ok (.aload_n 0, 1) := by decide +kernel
theorem dX4_parseArrow_8 : decode cX4_parseArrow 8 = .ok (.invokevirtual 53, 3) := by decide +kernel
theorem dX4_parseArrow_11 : decode cX4_parseArrow 11 = .ok (.bipush 62, 2) := by decide +kernel
theorem dX4_parseArrow_13 : decode cX4_parseArrow 13 = .ok (.if_icmp .eq 9, 3) := by decide +kernel
theorem dX4_parseArrow_16 : decode cX4_parseArrow 16 = .ok (.aload_n 0, 1) := by decide +kernel
theorem dX4_parseArrow_17 : decode cX4_parseArrow 17 = .ok (.iconst 0, 1) := by decide +kernel
theorem dX4_parseArrow_18 : decode cX4_parseArrow 18 = .ok (.putfield 27, 3) := by decide +kernel
theorem dX4_parseArrow_21 : decode cX4_parseArrow 21 = .ok (.return_, 1) := by decide +kernel
theorem dX4_parseArrow_22 : decode cX4_parseArrow 22 = .ok (.aload_n 0, 1) := by decide +kernel
theorem dX4_parseArrow_23 : decode cX4_parseArrow 23 = .ok (.aload_n 0, 1) := by decide +kernel
theorem dX4_parseArrow_24 : decode cX4_parseArrow 24 = .ok (.getfield 24, 3) := by decide +kernel
theorem dX4_parseArrow_27 : decode cX4_parseArrow 27 = .ok (.iconst 1, 1) := by decide +kernel
theorem dX4_parseArrow_28 : decode cX4_parseArrow 28 = .ok (.iadd, 1) := by decide +kernel
theorem dX4_parseArrow_29 : decode cX4_parseArrow 29 = .ok (.putfield 24, 3) := by decide +kernel
theorem dX4_parseArrow_32 : decode cX4_parseArrow 32 = .ok (.return_, 1) := by decide +kernel
theorem dX4_parseFlags_0 : decode cX4_parseFlags 0 = .ok (.aload_n 0, 1) := by decide +kernel
theorem dX4_parseFlags_1 : decode cX4_parseFlags 1 = .ok (.getfield 27, 3) := by decide +kernel
theorem dX4_parseFlags_4 : decode cX4_parseFlags 4 = .ok (.ifCond .eq 11, 3) := by decide +kernel
theorem dX4_parseFlags_7 : decode cX4_parseFlags 7 = .ok (.aload_n 0, 1) := by decide +kernel
theorem dX4_parseFlags_8 : decode cX4_parseFlags 8 = .ok (.invokevirtual 53, 3) := by decide +kernel
theorem dX4_parseFlags_11 : decode cX4_parseFlags 11 = .ok (.iload_n 1, 1) := by decide +kernel
theorem dX4_parseFlags_12 : decode cX4_parseFlags 12 = .ok (.if_icmp .eq 5, 3) := by decide +kernel
theorem dX4_parseFlags_15 : decode cX4_parseFlags 15 = .ok (.iconst 0, 1) := by decide +kernel
theorem dX4_parseFlags_16 : decode cX4_parseFlags 16 = .ok (.ireturn, 1) := by decide +kernel
theorem dX4_parseFlags_17 : decode cX4_parseFlags 17 = .ok (.aload_n 0, 1) := by decide +kernel
theorem dX4_parseFlags_18 : decode cX4_parseFlags 18 = .ok (.aload_n 0, 1) := by decide +kernel
theorem dX4_parseFlags_19 : decode cX4_parseFlags 19 = .ok (.getfield 24, 3) := by decide +kernel
theorem dX4_parseFlags_22 : decode cX4_parseFlags 22 = .ok (.iconst 1, 1) := by decide +kernel
theorem dX4_parseFlags_23 : decode cX4_parseFlags 23 = .ok (.iadd, 1) := by decide +kernel
theorem dX4_parseFlags_24 : decode cX4_parseFlags 24 = .ok (.putfield 24, 3) := by decide +kernel
theorem dX4_parseFlags_27 : decode cX4_parseFlags 27 = .ok (.iconst 0, 1) := by decide +kernel
theorem dX4_parseFlags_28 : decode cX4_parseFlags 28 = .ok (.istore_n 2, 1) := by decide +kernel
theorem dX4_parseFlags_29 : decode cX4_parseFlags 29 = .ok (.iconst 0, 1) := by decide +kernel
theorem dX4_parseFlags_30 : decode cX4_parseFlags 30 = .ok (.istore_n 3, 1) := by decide +kernel
theorem dX4_parseFlags_31 : decode cX4_parseFlags 31 = .ok (.iload_n 3, 1) := by decide +kernel
theorem dX4_parseFlags_32 : decode cX4_parseFlags 32 = .ok (.iconst 5, 1) := by decide +kernel
theorem dX4_parseFlags_33 : decode cX4_parseFlags 33 = .ok (.if_icmp .ge 36, 3) := by decide +kernel
theorem dX4_parseFlags_36 : decode cX4_parseFlags 36 = .ok (.aload_n 0, 1) := by decide +kernel
theorem dX4_parseFlags_37 : decode cX4_parseFlags 37 = .ok (.invokevirtual 53, 3) := by decide +kernel
theorem dX4_parseFlags_40 : decode cX4_parseFlags 40 = .ok (.bipush 97, 2) := by decide +kernel
theorem dX4_parseFlags_42 : decode cX4_parseFlags 42 = .ok (.iload_n 3, 1) := by decide +kernel
theorem dX4_parseFlags_43 : decode cX4_parseFlags 43 = .ok (.iadd, 1) := by decide +kernel
theorem dX4_parseFlags_44 : decode cX4_parseFlags 44 = .ok (.if_icmp .ne 19, 3) := by decide +kernel
theorem dX4_parseFlags_47 : decode cX4_parseFlags 47 = .ok (.iload_n 2, 1) := by decide +kernel
theorem dX4_parseFlags_48 : decode cX4_parseFlags 48 = .ok (.iconst 1, 1) := by decide +kernel
theorem dX4_parseFlags_49 : decode cX4_parseFlags 49 = .ok (.iload_n 3, 1) := by decide +kernel
theorem dX4_parseFlags_50 : decode cX4_parseFlags 50 = .ok (.ishl, 1) := by decide +kernel
theorem dX4_parseFlags_51 : decode cX4_parseFlags 51 = .ok (.ior, 1) := by decide +kernel
theorem dX4_parseFlags_52 : decode cX4_parseFlags 52 = .ok (.istore_n 2, 1) := by decide +kernel
theorem dX4_parseFlags_53 : decode cX4_parseFlags 53 = .ok (.aload_n 0, 1) := by decide +kernel
theorem dX4_parseFlags_54 : decode cX4_parseFlags 54 = .ok (.aload_n 0, 1) := by decide +kernel
theorem dX4_parseFlags_55 : decode cX4_parseFlags 55 = .ok (.getfield 24, 3) := by decide +kernel
theorem dX4_parseFlags_58 : decode cX4_parseFlags 58 = .ok (.iconst 1, 1) := by decide +kernel
theorem dX4_parseFlags_59 : decode cX4_parseFlags 59 = .ok (.iadd, 1) := by decide +kernel
theorem dX4_parseFlags_60 : decode cX4_parseFlags 60 = .ok (.putfield 24, 3) := by decide +kernel
theorem dX4_parseFlags_63 : decode cX4_parseFlags 63 = .ok (.iinc 3 1, 3) := by decide +kernel
theorem dX4_parseFlags_66 : decode cX4_parseFlags 66 = .ok (.goto (-35), 3) := by decide +kernel
theorem dX4_parseFlags_69 : decode cX4_parseFlags 69 = .ok (.aload_n 0, 1) := by decide +kernel
theorem dX4_parseFlags_70 : decode cX4_parseFlags 70 = .ok (.iload_n 2, 1) := by decide +kernel
theorem dX4_parseFlags_71 : decode cX4_parseFlags 71 = .ok (.ifCond .eq 7, 3) := by decide +kernel
theorem dX4_parseFlags_74 : decode cX4_parseFlags 74 = .ok (.iconst 1, 1) := by decide +kernel
theorem dX4_parseFlags_75 : decode cX4_parseFlags 75 = .ok (.goto 4, 3) := by decide +kernel
theorem dX4_parseFlags_78 : decode cX4_parseFlags 78 = .ok (.iconst 0, 1) := by decide +kernel
theorem dX4_parseFlags_79 : decode cX4_parseFlags 79 = .ok (.putfield 27, 3) := by decide +kernel
theorem dX4_parseFlags_82 : decode cX4_parseFlags 82 = .ok (.iload_n 2, 1) := by decide +kernel
theorem dX4_parseFlags_83 : decode cX4_parseFlags 83 = .ok (.ireturn, 1) := by decide +kernel
theorem dX4_isDigit_0 : decode cX4_isDigit 0 = .ok (.iload_n 0, 1) := by decide +kernel
theorem dX4_isDigit_1 : decode cX4_isDigit 1 = .ok (.bipush 48, 2) := by decide +kernel
theorem dX4_isDigit_3 : decode cX4_isDigit 3 = .ok (.if_icmp .lt 13, 3) := by decide +kernel
theorem dX4_isDigit_6 : decode cX4_isDigit 6 = .ok (.iload_n 0, 1) := by decide +kernel
theorem dX4_isDigit_7 : decode cX4_isDigit 7 = .ok (.bipush 57, 2) := by decide +kernel
theorem dX4_isDigit_9 : decode cX4_isDigit 9 = .ok (.if_icmp .gt 7, 3) := by decide +kernel
theorem dX4_isDigit_12 : decode cX4_isDigit 12 = .ok (.iconst 1, 1) := by decide +kernel
theorem dX4_isDigit_13 : decode cX4_isDigit 13 = .ok (.goto 4, 3) := by decide +kernel
theorem dX4_isDigit_16 : decode cX4_isDigit 16 = .ok (.iconst 0, 1) := by decide +kernel
theorem dX4_isDigit_17 : decode cX4_isDigit 17 = .ok (.ireturn, 1) := by decide +kernel
theorem dX5_init_0 : decode cX5_init 0 = .ok (.aload_n 0, 1) := by decide +kernel
theorem dX5_init_1 : decode cX5_init 1 = .ok (.invokespecial 3, 3) := by decide +kernel
theorem dX5_init_4 : decode cX5_init 4 = .ok (.aload_n 0, 1) := by decide +kernel
theorem dX5_init_5 : decode cX5_init 5 = .ok (.new 9, 3) := by decide +kernel
theorem dX5_init_8 : decode cX5_init 8 = .ok (.dup, 1) := by decide +kernel
theorem dX5_init_9 : decode cX5_init 9 = .ok (.invokespecial 11, 3) := by decide +kernel
theorem dX5_init_12 : decode cX5_init 12 = .ok (.putfield 12, 3) := by decide +kernel
theorem dX5_init_15 : decode cX5_init 15 = .ok (.aload_n 0, 1) := by decide +kernel
theorem dX5_init_16 : decode cX5_init 16 = .ok (.new 9, 3) := by decide +kernel
theorem dX5_init_19 : decode cX5_init 19 = .ok (.dup, 1) := by decide +kernel
theorem dX5_init_20 : decode cX5_init 20 = .ok (.invokespecial 11, 3) := by decide +kernel
theorem dX5_init_23 : decode cX5_init 23 = .ok (.putfield 16, 3) := by decide +kernel
theorem dX5_init_26 : decode cX5_init 26 = .ok (.aload_n 0, 1) := by decide +kernel
theorem dX5_init_27 : decode cX5_init 27 = .ok (.new 9, 3) := by decide +kernel
theorem dX5_init_30 : decode cX5_init 30 = .ok (.dup, 1) := by decide +kernel
theorem dX5_init_31 : decode cX5_init 31 = .ok (.invokespecial 11, 3) := by decide +kernel
theorem dX5_init_34 : decode cX5_init 34 = .ok (.putfield 19, 3) := by decide +kernel
theorem dX5_init_37 : decode cX5_init 37 = .ok (.aload_n 0, 1) := by decide +kernel
theorem dX5_init_38 : decode cX5_init 38 = .ok (.iconst 0, 1) := by decide +kernel
theorem dX5_init_39 : decode cX5_init 39 = .ok (.putfield 22, 3) := by decide +kernel
theorem dX5_init_42 : decode cX5_init 42 = .ok (.aload_n 0, 1) := by decide +kernel
theorem dX5_init_43 : decode cX5_init 43 = .ok (.new 26, 3) := by decide +kernel
theorem dX5_init_46 : decode cX5_init 46 = .ok (.dup, 1) := by decide +kernel
theorem dX5_init_47 : decode cX5_init 47 = .ok (.invokespecial 28, 3) := by decide +kernel
theorem dX5_init_50 : decode cX5_init 50 = .ok (.putfield 29, 3) := by decide +kernel
theorem dX5_init_53 : decode cX5_init 53 = .ok (.aload_n 0, 1) := by decide +kernel
theorem dX5_init_54 : decode cX5_init 54 = .ok (.new 33, 3) := by decide +kernel
theorem dX5_init_57 : decode cX5_init 57 = .ok (.dup, 1) := by decide +kernel
theorem dX5_init_58 : decode cX5_init 58 = .ok (.invokespecial 35, 3) := by decide +kernel
theorem dX5_init_61 : decode cX5_init 61 = .ok (.putfield 36, 3) := by decide +kernel
theorem dX5_init_64 : decode cX5_init 64 = .ok (.aload_n 0, 1) := by decide +kernel
theorem dX5_init_65 : decode cX5_init 65 = .ok (.new 40, 3) := by decide +kernel
theorem dX5_init_68 : decode cX5_init 68 = .ok (.dup, 1) := by decide +kernel
theorem dX5_init_69 : decode cX5_init 69 = .ok (.invokespecial 42, 3) := by decide +kernel
theorem dX5_init_72 : decode cX5_init 72 = .ok (.putfield 43, 3) := by decide +kernel
theorem dX5_init_75 : decode cX5_init 75 = .ok (.return_, 1) := by decide +kernel
theorem dX5_addPage_0 : decode cX5_addPage 0 = .ok (.iload_n 1, 1) := by decide +kernel
theorem dX5_addPage_1 : decode cX5_addPage 1 = .ok (.invokestatic 47, 3) := by decide +kernel
theorem dX5_addPage_4 : decode cX5_addPage 4 = .ok (.ifCond .eq 17, 3) := by decide +kernel
theorem dX5_addPage_7 : decode cX5_addPage 7 = .ok (.iload_n 2, 1) := by decide +kernel
theorem dX5_addPage_8 : decode cX5_addPage 8 = .ok (.invokestatic 51, 3) := by decide +kernel
theorem dX5_addPage_11 : decode cX5_addPage 11 = .ok (.ifCond .eq 10, 3) := by decide +kernel
theorem dX5_addPage_14 : decode cX5_addPage 14 = .ok (.iload_n 3, 1) := by decide +kernel
theorem dX5_addPage_15 : decode cX5_addPage 15 = .ok (.invokestatic 51, 3) := by decide +kernel
theorem dX5_addPage_18 : decode cX5_addPage 18 = .ok (.ifCond .ne 6, 3) := by decide +kernel
theorem dX5_addPage_21 : decode cX5_addPage 21 = .ok (.bipush (-2), 2) := by decide +kernel
theorem dX5_addPage_23 : decode cX5_addPage 23 = .ok (.ireturn, 1) := by decide +kernel
theorem dX5_addPage_24 : decode cX5_addPage 24 = .ok (.aload_n 0, 1) := by decide +kernel
theorem dX5_addPage_25 : decode cX5_addPage 25 = .ok (.getfield 12, 3) := by decide +kernel
theorem dX5_addPage_28 : decode cX5_addPage 28 = .ok (.getfield 54, 3) := by decide +kernel
theorem dX5_addPage_31 : decode cX5_addPage 31 = .ok (.bipush 32, 2) := by decide +kernel
theorem dX5_addPage_33 : decode cX5_addPage 33 = .ok (.if_icmp .lt 6, 3) := by decide +kernel
theorem dX5_addPage_36 : decode cX5_addPage 36 = .ok (.bipush (-3), 2) := by decide +kernel
theorem dX5_addPage_38 : decode cX5_addPage 38 = .ok (.ireturn, 1) := by decide +kernel
theorem dX5_addPage_39 : decode cX5_addPage 39 = .ok (.aload_n 0, 1) := by decide +kernel
theorem dX5_addPage_40 : decode cX5_addPage 40 = .ok (.invokevirtual 58, 3) := by decide +kernel
theorem dX5_addPage_43 : decode cX5_addPage 43 = .ok (.aload_n 0, 1) := by decide +kernel
theorem dX5_addPage_44 : decode cX5_addPage 44 = .ok (.getfield 12, 3) := by decide +kernel
theorem dX5_addPage_47 : decode cX5_addPage 47 = .ok (.iload_n 1, 1) := by decide +kernel
theorem dX5_addPage_48 : decode cX5_addPage 48 = .ok (.iload_n 2, 1) := by decide +kernel
theorem dX5_addPage_49 : decode cX5_addPage 49 = .ok (.iload_n 3, 1) := by decide +kernel
theorem dX5_addPage_50 : decode cX5_addPage 50 = .ok (.invokevirtual 61, 3) := by decide +kernel
theorem dX5_addPage_53 : decode cX5_addPage 53 = .ok (.ireturn, 1) := by decide +kernel
theorem dX5_setMood_0 : decode cX5_setMood 0 = .ok (.aload_n 0, 1) := by decide +kernel
theorem dX5_setMood_1 : decode cX5_setMood 1 = .ok (.getfield 12, 3) := by decide +kernel
theorem dX5_setMood_4 : decode cX5_setMood 4 = .ok (.iload_n 1, 1) := by decide +kernel
theorem dX5_setMood_5 : decode cX5_setMood 5 = .ok (.invokevirtual 65, 3) := by decide +kernel
theorem dX5_setMood_8 : decode cX5_setMood 8 = .ok (.ifCond .ne 5, 3) := by decide +kernel
theorem dX5_setMood_11 : decode cX5_setMood 11 = .ok (.iconst (-1), 1) := by decide +kernel
theorem dX5_setMood_12 : decode cX5_setMood 12 = .ok (.ireturn, 1) := by decide +kernel
theorem dX5_setMood_13 : decode cX5_setMood 13 = .ok (.iload_n 2, 1) := by decide +kernel
theorem dX5_setMood_14 : decode cX5_setMood 14 = .ok (.invokestatic 47, 3) := by decide +kernel
theorem dX5_setMood_17 : decode cX5_setMood 17 = .ok (.ifCond .ne 6, 3) := by decide +kernel
theorem dX5_setMood_20 : decode cX5_setMood 20 = .ok (.bipush (-2), 2) := by decide +kernel
theorem dX5_setMood_22 : decode cX5_setMood 22 = .ok (.ireturn, 1) := by decide +kernel
theorem dX5_setMood_23 : decode cX5_setMood 23 = .ok (.aload_n 0, 1) := by decide +kernel
theorem dX5_setMood_24 : decode cX5_setMood 24 = .ok (.getfield 12, 3) := by decide +kernel
theorem dX5_setMood_27 : decode cX5_setMood 27 = .ok (.getfield 68, 3) := by decide +kernel
theorem dX5_setMood_30 : decode cX5_setMood 30 = .ok (.iload_n 1, 1) := by decide +kernel
theorem dX5_setMood_31 : decode cX5_setMood 31 = .ok (.invokevirtual 72, 3) := by decide +kernel
theorem dX5_setMood_34 : decode cX5_setMood 34 = .ok (.iload_n 2, 1) := by decide +kernel
theorem dX5_setMood_35 : decode cX5_setMood 35 = .ok (.if_icmp .ne 6, 3) := by decide +kernel
theorem dX5_setMood_38 : decode cX5_setMood 38 = .ok (.bipush (-5), 2) := by decide +kernel
theorem dX5_setMood_40 : decode cX5_setMood 40 = .ok (.ireturn, 1) := by decide +kernel
theorem dX5_setMood_41 : decode cX5_setMood 41 = .ok (.aload_n 0, 1) := by decide +kernel
theorem dX5_setMood_42 : decode cX5_setMood 42 = .ok (.invokevirtual 58, 3) := by decide +kernel
theorem dX5_setMood_45 : decode cX5_setMood 45 = .ok (.aload_n 0, 1) := by decide +kernel
theorem dX5_setMood_46 : decode cX5_setMood 46 = .ok (.getfield 12, 3) := by decide +kernel
theorem dX5_setMood_49 : decode cX5_setMood 49 = .ok (.getfield 68, 3) := by decide +kernel
theorem dX5_setMood_52 : decode cX5_setMood 52 = .ok (.iload_n 1, 1) := by decide +kernel
theorem dX5_setMood_53 : decode cX5_setMood 53 = .ok (.iload_n 2, 1) := by decide +kernel
theorem dX5_setMood_54 : decode cX5_setMood 54 = .ok (.invokevirtual 78, 3) := by decide +kernel
theorem dX5_setMood_57 : decode cX5_setMood 57 = .ok (.aload_n 0, 1) := by decide +kernel
theorem dX5_setMood_58 : decode cX5_setMood 58 = .ok (.getfield 12, 3) := by decide +kernel
theorem dX5_setMood_61 : decode cX5_setMood 61 = .ok (.getfield 82, 3) := by decide +kernel
theorem dX5_setMood_64 : decode cX5_setMood 64 = .ok (.iload_n 1, 1) := by decide +kernel
theorem dX5_setMood_65 : decode cX5_setMood 65 = .ok (.invokevirtual 72, 3) := by decide +kernel
theorem dX5_setMood_68 : decode cX5_setMood 68 = .ok (.ireturn, 1) := by decide +kernel
theorem dX5_addChoice_0 : decode cX5_addChoice 0 = .ok (.aload_n 0, 1) := by decide +kernel
theorem dX5_addChoice_1 : decode cX5_addChoice 1 = .ok (.getfield 12, 3) := by decide +kernel
theorem dX5_addChoice_4 : decode cX5_addChoice 4 = .ok (.iload_n 1, 1) := by decide +kernel
theorem dX5_addChoice_5 : decode cX5_addChoice 5 = .ok (.iload_n 2, 1) := by decide +kernel
theorem dX5_addChoice_6 : decode cX5_addChoice 6 = .ok (.iload_n 3, 1) := by decide +kernel
theorem dX5_addChoice_7 : decode cX5_addChoice 7 = .ok (.iload 4, 2) := by decide +kernel
theorem dX5_addChoice_9 : decode cX5_addChoice 9 = .ok (.invokevirtual 85, 3) := by decide +kernel
theorem dX5_addChoice_12 : decode cX5_addChoice 12 = .ok (.istore 5, 2) := by decide +kernel
theorem dX5_addChoice_14 : decode cX5_addChoice 14 = .ok (.iload 5, 2) := by decide +kernel
theorem dX5_addChoice_16 : decode cX5_addChoice 16 = .ok (.ifCond .eq 6, 3) := by decide +kernel
theorem dX5_addChoice_19 : decode cX5_addChoice 19 = .ok (.iload 5, 2) := by decide +kernel
theorem dX5_addChoice_21 : decode cX5_addChoice 21 = .ok (.ireturn, 1) := by decide +kernel
theorem dX5_addChoice_22 : decode cX5_addChoice 22 = .ok (.aload_n 0, 1) := by decide +kernel
theorem dX5_addChoice_23 : decode cX5_addChoice 23 = .ok (.invokevirtual 58, 3) := by decide +kernel
theorem dX5_addChoice_26 : decode cX5_addChoice 26 = .ok (.aload_n 0, 1) := by decide +kernel
theorem dX5_addChoice_27 : decode cX5_addChoice 27 = .ok (.getfield 12, 3) := by decide +kernel
theorem dX5_addChoice_30 : decode cX5_addChoice 30 = .ok (.iload_n 1, 1) := by decide +kernel
theorem dX5_addChoice_31 : decode cX5_addChoice 31 = .ok (.iload_n 2, 1) := by decide +kernel
theorem dX5_addChoice_32 : decode cX5_addChoice 32 = .ok (.iload_n 3, 1) := by decide +kernel
theorem dX5_addChoice_33 : decode cX5_addChoice 33 = .ok (.iload 4, 2) := by decide +kernel
theorem dX5_addChoice_35 : decode cX5_addChoice 35 = .ok (.invokevirtual 89, 3) := by decide +kernel
theorem dX5_addChoice_38 : decode cX5_addChoice 38 = .ok (.ireturn, 1) := by decide +kernel
theorem dX5_addChoices_0 : decode cX5_addChoices 0 = .ok (.aload_n 0, 1) := by decide +kernel
theorem dX5_addChoices_1 : decode cX5_addChoices 1 = .ok (.getfield 36, 3) := by decide +kernel
theorem dX5_addChoices_4 : decode cX5_addChoices 4 = .ok (.invokevirtual 92, 3) := by decide +kernel
theorem dX5_addChoices_7 : decode cX5_addChoices 7 = .ok (.ifCond .ne 14, 3) := by decide +kernel
theorem dX5_addChoices_10 : decode cX5_addChoices 10 = .ok (.bipush (-100), 2) := by decide +kernel
theorem dX5_addChoices_12 : decode cX5_addChoices 12 = .ok (.aload_n 0, 1) := by decide +kernel
theorem dX5_addChoices_13 : decode cX5_addChoices 13 = .ok (.getfield 36, 3) := by decide +kernel
theorem dX5_addChoices_16 : decode cX5_addChoices 16 = .ok (.getfield 96, 3) := by decide +kernel
theorem dX5_addChoices_19 : decode cX5_addChoices 19 = .ok (.isub, 1) := by decide +kernel
theorem dX5_addChoices_20 : decode cX5_addChoices 20 = .ok (.ireturn, 1) := by decide +kernel
theorem dX5_addChoices_21 : decode cX5_addChoices 21 = .ok (.aload_n 0, 1) := by decide +kernel
theorem dX5_addChoices_22 : decode cX5_addChoices 22 = .ok (.getfield 16, 3) := by decide +kernel
theorem dX5_addChoices_25 : decode cX5_addChoices 25 = .ok (.aload_n 0, 1) := by decide +kernel
theorem dX5_addChoices_26 : decode cX5_addChoices 26 = .ok (.getfield 12, 3) := by decide +kernel
theorem dX5_addChoices_29 : decode cX5_addChoices 29 = .ok (.invokevirtual 98, 3) := by decide +kernel
theorem dX5_addChoices_32 : decode cX5_addChoices 32 = .ok (.iconst 0, 1) := by decide +kernel
theorem dX5_addChoices_33 : decode cX5_addChoices 33 = .ok (.istore_n 1, 1) := by decide +kernel
theorem dX5_addChoices_34 : decode cX5_addChoices 34 = .ok (.iload_n 1, 1) := by decide +kernel
theorem dX5_addChoices_35 : decode cX5_addChoices 35 = .ok (.aload_n 0, 1) := by decide +kernel
theorem dX5_addChoices_36 : decode cX5_addChoices 36 = .ok (.getfield 36, 3) := by decide +kernel
theorem dX5_addChoices_39 : decode cX5_addChoices 39 = .ok (.getfield 102, 3) := by decide +kernel
theorem dX5_addChoices_42 : decode cX5_addChoices 42 = .ok (.if_icmp .ge 102, 3) := by decide +kernel
theorem dX5_addChoices_45 : decode cX5_addChoices 45 = .ok (.iload_n 1, 1) := by decide +kernel
theorem dX5_addChoices_46 : decode cX5_addChoices 46 = .ok (.bipush 16, 2) := by decide +kernel
theorem dX5_addChoices_48 : decode cX5_addChoices 48 = .ok (.if_icmp .ge 96, 3) := by decide +kernel
theorem dX5_addChoices_51 : decode cX5_addChoices 51 = .ok (.aload_n 0, 1) := by decide +kernel
theorem dX5_addChoices_52 : decode cX5_addChoices 52 = .ok (.getfield 36, 3) := by decide +kernel
theorem dX5_addChoices_55 : decode cX5_addChoices 55 = .ok (.getfield 105, 3) := by decide +kernel
theorem dX5_addChoices_58 : decode cX5_addChoices 58 = .ok (.iload_n 1, 1) := by decide +kernel
theorem dX5_addChoices_59 : decode cX5_addChoices 59 = .ok (.invokevirtual 72, 3) := by decide +kernel
theorem dX5_addChoices_62 : decode cX5_addChoices 62 = .ok (.istore_n 2, 1) := by decide +kernel
theorem dX5_addChoices_63 : decode cX5_addChoices 63 = .ok (.aload_n 0, 1) := by decide +kernel
theorem dX5_addChoices_64 : decode cX5_addChoices 64 = .ok (.getfield 36, 3) := by decide +kernel
theorem dX5_addChoices_67 : decode cX5_addChoices 67 = .ok (.getfield 108, 3) := by decide +kernel
theorem dX5_addChoices_70 : decode cX5_addChoices 70 = .ok (.iload_n 1, 1) := by decide +kernel
theorem dX5_addChoices_71 : decode cX5_addChoices 71 = .ok (.invokevirtual 72, 3) := by decide +kernel
theorem dX5_addChoices_74 : decode cX5_addChoices 74 = .ok (.istore_n 3, 1) := by decide +kernel
theorem dX5_addChoices_75 : decode cX5_addChoices 75 = .ok (.aload_n 0, 1) := by decide +kernel
theorem dX5_addChoices_76 : decode cX5_addChoices 76 = .ok (.getfield 36, 3) := by decide +kernel
theorem dX5_addChoices_79 : decode cX5_addChoices 79 = .ok (.getfield 111, 3) := by decide +kernel
theorem dX5_addChoices_82 : decode cX5_addChoices 82 = .ok (.iload_n 1, 1) := by decide +kernel
theorem dX5_addChoices_83 : decode cX5_addChoices 83 = .ok (.invokevirtual 72, 3) := by decide +kernel
theorem dX5_addChoices_86 : decode cX5_addChoices 86 = .ok (.istore 4, 2) := by decide +kernel
theorem dX5_addChoices_88 : decode cX5_addChoices 88 = .ok (.aload_n 0, 1) := by decide +kernel
theorem dX5_addChoices_89 : decode cX5_addChoices 89 = .ok (.getfield 36, 3) := by decide +kernel
theorem dX5_addChoices_92 : decode cX5_addChoices 92 = .ok (.getfield 114, 3) := by decide +kernel
theorem dX5_addChoices_95 : decode cX5_addChoices 95 = .ok (.iload_n 1, 1) := by decide +kernel
theorem dX5_addChoices_96 : decode cX5_addChoices 96 = .ok (.invokevirtual 72, 3) := by decide +kernel
theorem dX5_addChoices_99 : decode cX5_addChoices 99 = .ok (.istore 5, 2) := by decide +kernel
theorem dX5_addChoices_101 : decode cX5_addChoices 101 = .ok (.aload_n 0, 1) := by decide +kernel
theorem dX5_addChoices_102 : decode cX5_addChoices 102 = .ok (.getfield 16, 3) := by decide +kernel
theorem dX5_addChoices_105 : decode cX5_addChoices 105 = .ok (.iload_n 2, 1) := by decide +kernel
theorem dX5_addChoices_106 : decode cX5_addChoices 106 = .ok (.iload_n 3, 1) := by decide +kernel
theorem dX5_addChoices_107 : decode cX5_addChoices 107 = .ok (.iload 4, 2) := by decide +kernel
theorem dX5_addChoices_109 : decode cX5_addChoices 109 = .ok (.iload 5, 2) := by decide +kernel
theorem dX5_addChoices_111 : decode cX5_addChoices 111 = .ok (.invokevirtual 85, 3) := by decide +kernel
theorem dX5_addChoices_114 : decode cX5_addChoices 114 = .ok (.istore 6, 2) := by decide +kernel
theorem dX5_addChoices_116 : decode cX5_addChoices 116 = .ok (.iload 6, 2) := by decide +kernel
theorem dX5_addChoices_118 : decode cX5_addChoices 118 = .ok (.ifCond .eq 6, 3) := by decide +kernel
theorem dX5_addChoices_121 : decode cX5_addChoices 121 = .ok (.iload 6, 2) := by decide +kernel
theorem dX5_addChoices_123 : decode cX5_addChoices 123 = .ok (.ireturn, 1) := by decide +kernel
theorem dX5_addChoices_124 : decode cX5_addChoices 124 = .ok (.aload_n 0, 1) := by decide +kernel
theorem dX5_addChoices_125 : decode cX5_addChoices 125 = .ok (.getfield 16, 3) := by decide +kernel
theorem dX5_addChoices_128 : decode cX5_addChoices 128 = .ok (.iload_n 2, 1) := by decide +kernel
theorem dX5_addChoices_129 : decode cX5_addChoices 129 = .ok (.iload_n 3, 1) := by decide +kernel
theorem dX5_addChoices_130 : decode cX5_addChoices 130 = .ok (.iload 4, 2) := by decide +kernel
theorem dX5_addChoices_132 : decode cX5_addChoices 132 = .ok (.iload 5, 2) := by decide +kernel
theorem dX5_addChoices_134 : decode cX5_addChoices 134 = .ok (.invokevirtual 89, 3) := by decide +kernel
theorem dX5_addChoices_137 : decode cX5_addChoices 137 = .ok (.pop, 1) := by decide +kernel
theorem dX5_addChoices_138 : decode cX5_addChoices 138 = .ok (.iinc 1 1, 3) := by decide +kernel
theorem dX5_addChoices_141 : decode cX5_addChoices 141 = .ok (.goto (-107), 3) := by decide +kernel
theorem dX5_addChoices_144 : decode cX5_addChoices 144 = .ok (.aload_n 0, 1) := by decide +kernel
theorem dX5_addChoices_145 : decode cX5_addChoices 145 = .ok (.invokevirtual 58, 3) := by decide +kernel
theorem dX5_addChoices_148 : decode cX5_addChoices 148 = .ok (.aload_n 0, 1) := by decide +kernel
theorem dX5_addChoices_149 : decode cX5_addChoices 149 = .ok (.getfield 12, 3) := by decide +kernel
theorem dX5_addChoices_152 : decode cX5_addChoices 152 = .ok (.aload_n 0, 1) := by decide +kernel
theorem dX5_addChoices_153 : decode cX5_addChoices 153 = .ok (.getfield 16, 3) := by decide +kernel
theorem dX5_addChoices_156 : decode cX5_addChoices 156 = .ok (.invokevirtual 98, 3) := by decide +kernel
theorem dX5_addChoices_159 : decode cX5_addChoices 159 = .ok (.aload_n 0, 1) := by decide +kernel
theorem dX5_addChoices_160 : decode cX5_addChoices 160 = .ok (.getfield 36, 3) := by decide +kernel
theorem dX5_addChoices_163 : decode cX5_addChoices 163 = .ok (.getfield 102, 3) := by decide +kernel
theorem dX5_addChoices_166 : decode cX5_addChoices 166 = .ok (.ireturn, 1) := by decide +kernel
theorem dX5_takeChoice_0 : decode cX5_takeChoice 0 = .ok (.aload_n 0, 1) := by decide +kernel
theorem dX5_takeChoice_1 : decode cX5_takeChoice 1 = .ok (.getfield 12, 3) := by decide +kernel
theorem dX5_takeChoice_4 : decode cX5_takeChoice 4 = .ok (.iload_n 1, 1) := by decide +kernel
theorem dX5_takeChoice_5 : decode cX5_takeChoice 5 = .ok (.iload_n 2, 1) := by decide +kernel
theorem dX5_takeChoice_6 : decode cX5_takeChoice 6 = .ok (.invokevirtual 117, 3) := by decide +kernel
theorem dX5_takeChoice_9 : decode cX5_takeChoice 9 = .ok (.ifCond .ne 5, 3) := by decide +kernel
theorem dX5_takeChoice_12 : decode cX5_takeChoice 12 = .ok (.iconst (-1), 1) := by decide +kernel
theorem dX5_takeChoice_13 : decode cX5_takeChoice 13 = .ok (.ireturn, 1) := by decide +kernel
theorem dX5_takeChoice_14 : decode cX5_takeChoice 14 = .ok (.aload_n 0, 1) := by decide +kernel
theorem dX5_takeChoice_15 : decode cX5_takeChoice 15 = .ok (.invokevirtual 58, 3) := by decide +kernel
theorem dX5_takeChoice_18 : decode cX5_takeChoice 18 = .ok (.aload_n 0, 1) := by decide +kernel
theorem dX5_takeChoice_19 : decode cX5_takeChoice 19 = .ok (.getfield 12, 3) := by decide +kernel
theorem dX5_takeChoice_22 : decode cX5_takeChoice 22 = .ok (.iload_n 1, 1) := by decide +kernel
theorem dX5_takeChoice_23 : decode cX5_takeChoice 23 = .ok (.iload_n 2, 1) := by decide +kernel
theorem dX5_takeChoice_24 : decode cX5_takeChoice 24 = .ok (.invokevirtual 121, 3) := by decide +kernel
theorem dX5_takeChoice_27 : decode cX5_takeChoice 27 = .ok (.ireturn, 1) := by decide +kernel
theorem dX5_exchange_0 : decode cX5_exchange 0 = .ok (.aload_n 0, 1) := by decide +kernel
theorem dX5_exchange_1 : decode cX5_exchange 1 = .ok (.getfield 12, 3) := by decide +kernel
theorem dX5_exchange_4 : decode cX5_exchange 4 = .ok (.iload_n 1, 1) := by decide +kernel
theorem dX5_exchange_5 : decode cX5_exchange 5 = .ok (.invokevirtual 65, 3) := by decide +kernel
theorem dX5_exchange_8 : decode cX5_exchange 8 = .ok (.ifCond .eq 14, 3) := by decide +kernel
theorem dX5_exchange_11 : decode cX5_exchange 11 = .ok (.aload_n 0, 1) := by decide +kernel
theorem dX5_exchange_12 : decode cX5_exchange 12 = .ok (.getfield 12, 3) := by decide +kernel
theorem dX5_exchange_15 : decode cX5_exchange 15 = .ok (.iload_n 2, 1) := by decide +kernel
theorem dX5_exchange_16 : decode cX5_exchange 16 = .ok (.invokevirtual 65, 3) := by decide +kernel
theorem dX5_exchange_19 : decode cX5_exchange 19 = .ok (.ifCond .ne 5, 3) := by decide +kernel
theorem dX5_exchange_22 : decode cX5_exchange 22 = .ok (.iconst (-1), 1) := by decide +kernel
theorem dX5_exchange_23 : decode cX5_exchange 23 = .ok (.ireturn, 1) := by decide +kernel
theorem dX5_exchange_24 : decode cX5_exchange 24 = .ok (.iload_n 1, 1) := by decide +kernel
theorem dX5_exchange_25 : decode cX5_exchange 25 = .ok (.iload_n 2, 1) := by decide +kernel
theorem dX5_exchange_26 : decode cX5_exchange 26 = .ok (.if_icmp .ne 6, 3) := by decide +kernel
theorem dX5_exchange_29 : decode cX5_exchange 29 = .ok (.bipush (-5), 2) := by decide +kernel
theorem dX5_exchange_31 : decode cX5_exchange 31 = .ok (.ireturn, 1) := by decide +kernel
theorem dX5_exchange_32 : decode cX5_exchange 32 = .ok (.aload_n 0, 1) := by decide +kernel
theorem dX5_exchange_33 : decode cX5_exchange 33 = .ok (.invokevirtual 58, 3) := by decide +kernel
theorem dX5_exchange_36 : decode cX5_exchange 36 = .ok (.aload_n 0, 1) := by decide +kernel
theorem dX5_exchange_37 : decode cX5_exchange 37 = .ok (.getfield 12, 3) := by decide +kernel
theorem dX5_exchange_40 : decode cX5_exchange 40 = .ok (.iload_n 1, 1) := by decide +kernel
theorem dX5_exchange_41 : decode cX5_exchange 41 = .ok (.iload_n 2, 1) := by decide +kernel
theorem dX5_exchange_42 : decode cX5_exchange 42 = .ok (.invokevirtual 125, 3) := by decide +kernel
theorem dX5_exchange_45 : decode cX5_exchange 45 = .ok (.aload_n 0, 1) := by decide +kernel
theorem dX5_exchange_46 : decode cX5_exchange 46 = .ok (.getfield 12, 3) := by decide +kernel
theorem dX5_exchange_49 : decode cX5_exchange 49 = .ok (.iload_n 1, 1) := by decide +kernel
theorem dX5_exchange_50 : decode cX5_exchange 50 = .ok (.invokevirtual 128, 3) := by decide +kernel
theorem dX5_exchange_53 : decode cX5_exchange 53 = .ok (.aload_n 0, 1) := by decide +kernel
theorem dX5_exchange_54 : decode cX5_exchange 54 = .ok (.getfield 12, 3) := by decide +kernel
theorem dX5_exchange_57 : decode cX5_exchange 57 = .ok (.iload_n 2, 1) := by decide +kernel
theorem dX5_exchange_58 : decode cX5_exchange 58 = .ok (.invokevirtual 128, 3) := by decide +kernel
theorem dX5_exchange_61 : decode cX5_exchange 61 = .ok (.iadd, 1) := by decide +kernel
theorem dX5_exchange_62 : decode cX5_exchange 62 = .ok (.ireturn, 1) := by decide +kernel
theorem dX5_begin_0 : decode cX5_begin 0 = .ok (.iload_n 1, 1) := by decide +kernel
theorem dX5_begin_1 : decode cX5_begin 1 = .ok (.invokestatic 131, 3) := by decide +kernel
theorem dX5_begin_4 : decode cX5_begin 4 = .ok (.ifCond .ne 5, 3) := by decide +kernel
theorem dX5_begin_7 : decode cX5_begin 7 = .ok (.iconst (-1), 1) := by decide +kernel
theorem dX5_begin_8 : decode cX5_begin 8 = .ok (.ireturn, 1) := by decide +kernel
theorem dX5_begin_9 : decode cX5_begin 9 = .ok (.aload_n 0, 1) := by decide +kernel
theorem dX5_begin_10 : decode cX5_begin 10 = .ok (.getfield 12, 3) := by decide +kernel
theorem dX5_begin_13 : decode cX5_begin 13 = .ok (.getfield 54, 3) := by decide +kernel
theorem dX5_begin_16 : decode cX5_begin 16 = .ok (.ifCond .ne 6, 3) := by decide +kernel
theorem dX5_begin_19 : decode cX5_begin 19 = .ok (.bipush (-4), 2) := by decide +kernel
theorem dX5_begin_21 : decode cX5_begin 21 = .ok (.ireturn, 1) := by decide +kernel
theorem dX5_begin_22 : decode cX5_begin 22 = .ok (.aload_n 0, 1) := by decide +kernel
theorem dX5_begin_23 : decode cX5_begin 23 = .ok (.invokevirtual 58, 3) := by decide +kernel
theorem dX5_begin_26 : decode cX5_begin 26 = .ok (.aload_n 0, 1) := by decide +kernel
theorem dX5_begin_27 : decode cX5_begin 27 = .ok (.getfield 12, 3) := by decide +kernel
theorem dX5_begin_30 : decode cX5_begin 30 = .ok (.invokevirtual 134, 3) := by decide +kernel
theorem dX5_begin_33 : decode cX5_begin 33 = .ok (.istore_n 2, 1) := by decide +kernel
theorem dX5_begin_34 : decode cX5_begin 34 = .ok (.aload_n 0, 1) := by decide +kernel
theorem dX5_begin_35 : decode cX5_begin 35 = .ok (.getfield 12, 3) := by decide +kernel
theorem dX5_begin_38 : decode cX5_begin 38 = .ok (.iload_n 1, 1) := by decide +kernel
theorem dX5_begin_39 : decode cX5_begin 39 = .ok (.iload_n 2, 1) := by decide +kernel
theorem dX5_begin_40 : decode cX5_begin 40 = .ok (.iconst 0, 1) := by decide +kernel
theorem dX5_begin_41 : decode cX5_begin 41 = .ok (.invokevirtual 138, 3) := by decide +kernel
theorem dX5_begin_44 : decode cX5_begin 44 = .ok (.iload_n 2, 1) := by decide +kernel
theorem dX5_begin_45 : decode cX5_begin 45 = .ok (.invokestatic 142, 3) := by decide +kernel
theorem dX5_begin_48 : decode cX5_begin 48 = .ok (.ireturn, 1) := by decide +kernel
theorem dX5_choose_0 : decode cX5_choose 0 = .ok (.iload_n 1, 1) := by decide +kernel
theorem dX5_choose_1 : decode cX5_choose 1 = .ok (.invokestatic 131, 3) := by decide +kernel
theorem dX5_choose_4 : decode cX5_choose 4 = .ok (.ifCond .ne 5, 3) := by decide +kernel
theorem dX5_choose_7 : decode cX5_choose 7 = .ok (.iconst (-1), 1) := by decide +kernel
theorem dX5_choose_8 : decode cX5_choose 8 = .ok (.ireturn, 1) := by decide +kernel
theorem dX5_choose_9 : decode cX5_choose 9 = .ok (.iload_n 2, 1) := by decide +kernel
theorem dX5_choose_10 : decode cX5_choose 10 = .ok (.invokestatic 145, 3) := by decide +kernel
theorem dX5_choose_13 : decode cX5_choose 13 = .ok (.ifCond .ne 6, 3) := by decide +kernel
theorem dX5_choose_16 : decode cX5_choose 16 = .ok (.bipush (-2), 2) := by decide +kernel
theorem dX5_choose_18 : decode cX5_choose 18 = .ok (.ireturn, 1) := by decide +kernel
theorem dX5_choose_19 : decode cX5_choose 19 = .ok (.aload_n 0, 1) := by decide +kernel
theorem dX5_choose_20 : decode cX5_choose 20 = .ok (.getfield 12, 3) := by decide +kernel
theorem dX5_choose_23 : decode cX5_choose 23 = .ok (.iload_n 1, 1) := by decide +kernel
theorem dX5_choose_24 : decode cX5_choose 24 = .ok (.iload_n 2, 1) := by decide +kernel
theorem dX5_choose_25 : decode cX5_choose 25 = .ok (.invokevirtual 148, 3) := by decide +kernel
theorem dX5_choose_28 : decode cX5_choose 28 = .ok (.ifCond .eq 6, 3) := by decide +kernel
theorem dX5_choose_31 : decode cX5_choose 31 = .ok (.bipush (-4), 2) := by decide +kernel
theorem dX5_choose_33 : decode cX5_choose 33 = .ok (.ireturn, 1) := by decide +kernel
theorem dX5_choose_34 : decode cX5_choose 34 = .ok (.aload_n 0, 1) := by decide +kernel
theorem dX5_choose_35 : decode cX5_choose 35 = .ok (.invokevirtual 58, 3) := by decide +kernel
theorem dX5_choose_38 : decode cX5_choose 38 = .ok (.aload_n 0, 1) := by decide +kernel
theorem dX5_choose_39 : decode cX5_choose 39 = .ok (.getfield 12, 3) := by decide +kernel
theorem dX5_choose_42 : decode cX5_choose 42 = .ok (.aload_n 0, 1) := by decide +kernel
theorem dX5_choose_43 : decode cX5_choose 43 = .ok (.getfield 12, 3) := by decide +kernel
theorem dX5_choose_46 : decode cX5_choose 46 = .ok (.getfield 151, 3) := by decide +kernel
theorem dX5_choose_49 : decode cX5_choose 49 = .ok (.iload_n 1, 1) := by decide +kernel
theorem dX5_choose_50 : decode cX5_choose 50 = .ok (.invokevirtual 72, 3) := by decide +kernel
theorem dX5_choose_53 : decode cX5_choose 53 = .ok (.iload_n 2, 1) := by decide +kernel
theorem dX5_choose_54 : decode cX5_choose 54 = .ok (.invokevirtual 154, 3) := by decide +kernel
theorem dX5_choose_57 : decode cX5_choose 57 = .ok (.istore_n 3, 1) := by decide +kernel
theorem dX5_choose_58 : decode cX5_choose 58 = .ok (.aload_n 0, 1) := by decide +kernel
theorem dX5_choose_59 : decode cX5_choose 59 = .ok (.getfield 12, 3) := by decide +kernel
theorem dX5_choose_62 : decode cX5_choose 62 = .ok (.iload_n 1, 1) := by decide +kernel
theorem dX5_choose_63 : decode cX5_choose 63 = .ok (.iload_n 3, 1) := by decide +kernel
theorem dX5_choose_64 : decode cX5_choose 64 = .ok (.aload_n 0, 1) := by decide +kernel
theorem dX5_choose_65 : decode cX5_choose 65 = .ok (.getfield 12, 3) := by decide +kernel
theorem dX5_choose_68 : decode cX5_choose 68 = .ok (.getfield 157, 3) := by decide +kernel
theorem dX5_choose_71 : decode cX5_choose 71 = .ok (.iload_n 1, 1) := by decide +kernel
theorem dX5_choose_72 : decode cX5_choose 72 = .ok (.invokevirtual 72, 3) := by decide +kernel
theorem dX5_choose_75 : decode cX5_choose 75 = .ok (.iconst 1, 1) := by decide +kernel
theorem dX5_choose_76 : decode cX5_choose 76 = .ok (.iadd, 1) := by decide +kernel
theorem dX5_choose_77 : decode cX5_choose 77 = .ok (.invokevirtual 138, 3) := by decide +kernel
theorem dX5_choose_80 : decode cX5_choose 80 = .ok (.iload_n 3, 1) := by decide +kernel
theorem dX5_choose_81 : decode cX5_choose 81 = .ok (.invokestatic 160, 3) := by decide +kernel
theorem dX5_choose_84 : decode cX5_choose 84 = .ok (.ireturn, 1) := by decide +kernel
theorem dX5_mark_0 : decode cX5_mark 0 = .ok (.iload_n 1, 1) := by decide +kernel
theorem dX5_mark_1 : decode cX5_mark 1 = .ok (.invokestatic 131, 3) := by decide +kernel
theorem dX5_mark_4 : decode cX5_mark 4 = .ok (.ifCond .ne 5, 3) := by decide +kernel
theorem dX5_mark_7 : decode cX5_mark 7 = .ok (.iconst (-1), 1) := by decide +kernel
theorem dX5_mark_8 : decode cX5_mark 8 = .ok (.ireturn, 1) := by decide +kernel
theorem dX5_mark_9 : decode cX5_mark 9 = .ok (.aload_n 0, 1) := by decide +kernel
theorem dX5_mark_10 : decode cX5_mark 10 = .ok (.getfield 12, 3) := by decide +kernel
theorem dX5_mark_13 : decode cX5_mark 13 = .ok (.getfield 151, 3) := by decide +kernel
theorem dX5_mark_16 : decode cX5_mark 16 = .ok (.iload_n 1, 1) := by decide +kernel
theorem dX5_mark_17 : decode cX5_mark 17 = .ok (.invokevirtual 72, 3) := by decide +kernel
theorem dX5_mark_20 : decode cX5_mark 20 = .ok (.istore_n 2, 1) := by decide +kernel
theorem dX5_mark_21 : decode cX5_mark 21 = .ok (.iload_n 2, 1) := by decide +kernel
theorem dX5_mark_22 : decode cX5_mark 22 = .ok (.iconst (-1), 1) := by decide +kernel
theorem dX5_mark_23 : decode cX5_mark 23 = .ok (.if_icmp .ne 6, 3) := by decide +kernel
theorem dX5_mark_26 : decode cX5_mark 26 = .ok (.bipush (-4), 2) := by decide +kernel
theorem dX5_mark_28 : decode cX5_mark 28 = .ok (.ireturn, 1) := by decide +kernel
theorem dX5_mark_29 : decode cX5_mark 29 = .ok (.aload_n 0, 1) := by decide +kernel
theorem dX5_mark_30 : decode cX5_mark 30 = .ok (.getfield 12, 3) := by decide +kernel
theorem dX5_mark_33 : decode cX5_mark 33 = .ok (.getfield 163, 3) := by decide +kernel
theorem dX5_mark_36 : decode cX5_mark 36 = .ok (.iload_n 2, 1) := by decide +kernel
theorem dX5_mark_37 : decode cX5_mark 37 = .ok (.if_icmp .ne 6, 3) := by decide +kernel
theorem dX5_mark_40 : decode cX5_mark 40 = .ok (.bipush (-5), 2) := by decide +kernel
theorem dX5_mark_42 : decode cX5_mark 42 = .ok (.ireturn, 1) := by decide +kernel
theorem dX5_mark_43 : decode cX5_mark 43 = .ok (.aload_n 0, 1) := by decide +kernel
theorem dX5_mark_44 : decode cX5_mark 44 = .ok (.invokevirtual 58, 3) := by decide +kernel
theorem dX5_mark_47 : decode cX5_mark 47 = .ok (.aload_n 0, 1) := by decide +kernel
theorem dX5_mark_48 : decode cX5_mark 48 = .ok (.getfield 12, 3) := by decide +kernel
theorem dX5_mark_51 : decode cX5_mark 51 = .ok (.iload_n 2, 1) := by decide +kernel
theorem dX5_mark_52 : decode cX5_mark 52 = .ok (.putfield 163, 3) := by decide +kernel
theorem dX5_mark_55 : decode cX5_mark 55 = .ok (.iload_n 2, 1) := by decide +kernel
theorem dX5_mark_56 : decode cX5_mark 56 = .ok (.invokestatic 160, 3) := by decide +kernel
theorem dX5_mark_59 : decode cX5_mark 59 = .ok (.ireturn, 1) := by decide +kernel
theorem dX5_goToMark_0 : decode cX5_goToMark 0 = .ok (.iload_n 1, 1) := by decide +kernel
theorem dX5_goToMark_1 : decode cX5_goToMark 1 = .ok (.invokestatic 131, 3) := by decide +kernel
theorem dX5_goToMark_4 : decode cX5_goToMark 4 = .ok (.ifCond .ne 5, 3) := by decide +kernel
theorem dX5_goToMark_7 : decode cX5_goToMark 7 = .ok (.iconst (-1), 1) := by decide +kernel
theorem dX5_goToMark_8 : decode cX5_goToMark 8 = .ok (.ireturn, 1) := by decide +kernel
theorem dX5_goToMark_9 : decode cX5_goToMark 9 = .ok (.aload_n 0, 1) := by decide +kernel
theorem dX5_goToMark_10 : decode cX5_goToMark 10 = .ok (.getfield 12, 3) := by decide +kernel
theorem dX5_goToMark_13 : decode cX5_goToMark 13 = .ok (.getfield 163, 3) := by decide +kernel
theorem dX5_goToMark_16 : decode cX5_goToMark 16 = .ok (.iconst (-1), 1) := by decide +kernel
theorem dX5_goToMark_17 : decode cX5_goToMark 17 = .ok (.if_icmp .ne 6, 3) := by decide +kernel
theorem dX5_goToMark_20 : decode cX5_goToMark 20 = .ok (.bipush (-4), 2) := by decide +kernel
theorem dX5_goToMark_22 : decode cX5_goToMark 22 = .ok (.ireturn, 1) := by decide +kernel
theorem dX5_goToMark_23 : decode cX5_goToMark 23 = .ok (.aload_n 0, 1) := by decide +kernel
theorem dX5_goToMark_24 : decode cX5_goToMark 24 = .ok (.getfield 12, 3) := by decide +kernel
theorem dX5_goToMark_27 : decode cX5_goToMark 27 = .ok (.getfield 151, 3) := by decide +kernel
theorem dX5_goToMark_30 : decode cX5_goToMark 30 = .ok (.iload_n 1, 1) := by decide +kernel
theorem dX5_goToMark_31 : decode cX5_goToMark 31 = .ok (.invokevirtual 72, 3) := by decide +kernel
theorem dX5_goToMark_34 : decode cX5_goToMark 34 = .ok (.aload_n 0, 1) := by decide +kernel
theorem dX5_goToMark_35 : decode cX5_goToMark 35 = .ok (.getfield 12, 3) := by decide +kernel
theorem dX5_goToMark_38 : decode cX5_goToMark 38 = .ok (.getfield 163, 3) := by decide +kernel
theorem dX5_goToMark_41 : decode cX5_goToMark 41 = .ok (.if_icmp .ne 6, 3) := by decide +kernel
theorem dX5_goToMark_44 : decode cX5_goToMark 44 = .ok (.bipush (-5), 2) := by decide +kernel
theorem dX5_goToMark_46 : decode cX5_goToMark 46 = .ok (.ireturn, 1) := by decide +kernel
theorem dX5_goToMark_47 : decode cX5_goToMark 47 = .ok (.aload_n 0, 1) := by decide +kernel
theorem dX5_goToMark_48 : decode cX5_goToMark 48 = .ok (.invokevirtual 58, 3) := by decide +kernel
theorem dX5_goToMark_51 : decode cX5_goToMark 51 = .ok (.aload_n 0, 1) := by decide +kernel
theorem dX5_goToMark_52 : decode cX5_goToMark 52 = .ok (.getfield 12, 3) := by decide +kernel
theorem dX5_goToMark_55 : decode cX5_goToMark 55 = .ok (.iload_n 1, 1) := by decide +kernel
theorem dX5_goToMark_56 : decode cX5_goToMark 56 = .ok (.aload_n 0, 1) := by decide +kernel
theorem dX5_goToMark_57 : decode cX5_goToMark 57 = .ok (.getfield 12, 3) := by decide +kernel
theorem dX5_goToMark_60 : decode cX5_goToMark 60 = .ok (.getfield 163, 3) := by decide +kernel
theorem dX5_goToMark_63 : decode cX5_goToMark 63 = .ok (.iconst 0, 1) := by decide +kernel
theorem dX5_goToMark_64 : decode cX5_goToMark 64 = .ok (.invokevirtual 138, 3) := by decide +kernel
theorem dX5_goToMark_67 : decode cX5_goToMark 67 = .ok (.aload_n 0, 1) := by decide +kernel
theorem dX5_goToMark_68 : decode cX5_goToMark 68 = .ok (.getfield 12, 3) := by decide +kernel
theorem dX5_goToMark_71 : decode cX5_goToMark 71 = .ok (.getfield 163, 3) := by decide +kernel
theorem dX5_goToMark_74 : decode cX5_goToMark 74 = .ok (.invokestatic 160, 3) := by decide +kernel
theorem dX5_goToMark_77 : decode cX5_goToMark 77 = .ok (.ireturn, 1) := by decide +kernel
theorem dX5_type_0 : decode cX5_type 0 = .ok (.aload_n 0, 1) := by decide +kernel
theorem dX5_type_1 : decode cX5_type 1 = .ok (.getfield 36, 3) := by decide +kernel
theorem dX5_type_4 : decode cX5_type 4 = .ok (.getfield 166, 3) := by decide +kernel
theorem dX5_type_7 : decode cX5_type 7 = .ok (.bipush 60, 2) := by decide +kernel
theorem dX5_type_9 : decode cX5_type 9 = .ok (.if_icmp .lt 6, 3) := by decide +kernel
theorem dX5_type_12 : decode cX5_type 12 = .ok (.bipush (-3), 2) := by decide +kernel
theorem dX5_type_14 : decode cX5_type 14 = .ok (.ireturn, 1) := by decide +kernel
theorem dX5_type_15 : decode cX5_type 15 = .ok (.aload_n 0, 1) := by decide +kernel
theorem dX5_type_16 : decode cX5_type 16 = .ok (.getfield 36, 3) := by decide +kernel
theorem dX5_type_19 : decode cX5_type 19 = .ok (.iload_n 1, 1) := by decide +kernel
theorem dX5_type_20 : decode cX5_type 20 = .ok (.invokevirtual 169, 3) := by decide +kernel
theorem dX5_type_23 : decode cX5_type 23 = .ok (.ireturn, 1) := by decide +kernel
theorem dX5_clearText_0 : decode cX5_clearText 0 = .ok (.aload_n 0, 1) := by decide +kernel
theorem dX5_clearText_1 : decode cX5_clearText 1 = .ok (.getfield 36, 3) := by decide +kernel
theorem dX5_clearText_4 : decode cX5_clearText 4 = .ok (.getfield 166, 3) := by decide +kernel
theorem dX5_clearText_7 : decode cX5_clearText 7 = .ok (.istore_n 1, 1) := by decide +kernel
theorem dX5_clearText_8 : decode cX5_clearText 8 = .ok (.aload_n 0, 1) := by decide +kernel
theorem dX5_clearText_9 : decode cX5_clearText 9 = .ok (.getfield 36, 3) := by decide +kernel
theorem dX5_clearText_12 : decode cX5_clearText 12 = .ok (.iconst 0, 1) := by decide +kernel
theorem dX5_clearText_13 : decode cX5_clearText 13 = .ok (.putfield 166, 3) := by decide +kernel
theorem dX5_clearText_16 : decode cX5_clearText 16 = .ok (.iload_n 1, 1) := by decide +kernel
theorem dX5_clearText_17 : decode cX5_clearText 17 = .ok (.ireturn, 1) := by decide +kernel
theorem dX5_undo_0 : decode cX5_undo 0 = .ok (.aload_n 0, 1) := by decide +kernel
theorem dX5_undo_1 : decode cX5_undo 1 = .ok (.getfield 29, 3) := by decide +kernel
theorem dX5_undo_4 : decode cX5_undo 4 = .ok (.getfield 173, 3) := by decide +kernel
theorem dX5_undo_7 : decode cX5_undo 7 = .ok (.ifCond .ne 6, 3) := by decide +kernel
theorem dX5_undo_10 : decode cX5_undo 10 = .ok (.bipush (-5), 2) := by decide +kernel
theorem dX5_undo_12 : decode cX5_undo 12 = .ok (.ireturn, 1) := by decide +kernel
theorem dX5_undo_13 : decode cX5_undo 13 = .ok (.aload_n 0, 1) := by decide +kernel
theorem dX5_undo_14 : decode cX5_undo 14 = .ok (.getfield 29, 3) := by decide +kernel
theorem dX5_undo_17 : decode cX5_undo 17 = .ok (.aload_n 0, 1) := by decide +kernel
theorem dX5_undo_18 : decode cX5_undo 18 = .ok (.getfield 12, 3) := by decide +kernel
theorem dX5_undo_21 : decode cX5_undo 21 = .ok (.invokevirtual 176, 3) := by decide +kernel
theorem dX5_undo_24 : decode cX5_undo 24 = .ok (.aload_n 0, 1) := by decide +kernel
theorem dX5_undo_25 : decode cX5_undo 25 = .ok (.getfield 43, 3) := by decide +kernel
theorem dX5_undo_28 : decode cX5_undo 28 = .ok (.iconst 0, 1) := by decide +kernel
theorem dX5_undo_29 : decode cX5_undo 29 = .ok (.putfield 179, 3) := by decide +kernel
theorem dX5_undo_32 : decode cX5_undo 32 = .ok (.aload_n 0, 1) := by decide +kernel
theorem dX5_undo_33 : decode cX5_undo 33 = .ok (.getfield 29, 3) := by decide +kernel
theorem dX5_undo_36 : decode cX5_undo 36 = .ok (.getfield 173, 3) := by decide +kernel
theorem dX5_undo_39 : decode cX5_undo 39 = .ok (.ireturn, 1) := by decide +kernel
theorem dX5_keep_0 : decode cX5_keep 0 = .ok (.aload_n 0, 1) := by decide +kernel
theorem dX5_keep_1 : decode cX5_keep 1 = .ok (.getfield 19, 3) := by decide +kernel
theorem dX5_keep_4 : decode cX5_keep 4 = .ok (.aload_n 0, 1) := by decide +kernel
theorem dX5_keep_5 : decode cX5_keep 5 = .ok (.getfield 12, 3) := by decide +kernel
theorem dX5_keep_8 : decode cX5_keep 8 = .ok (.invokevirtual 98, 3) := by decide +kernel
theorem dX5_keep_11 : decode cX5_keep 11 = .ok (.aload_n 0, 1) := by decide +kernel
theorem dX5_keep_12 : decode cX5_keep 12 = .ok (.iconst 1, 1) := by decide +kernel
theorem dX5_keep_13 : decode cX5_keep 13 = .ok (.putfield 22, 3) := by decide +kernel
theorem dX5_keep_16 : decode cX5_keep 16 = .ok (.aload_n 0, 1) := by decide +kernel
theorem dX5_keep_17 : decode cX5_keep 17 = .ok (.getfield 12, 3) := by decide +kernel
theorem dX5_keep_20 : decode cX5_keep 20 = .ok (.getfield 54, 3) := by decide +kernel
theorem dX5_keep_23 : decode cX5_keep 23 = .ok (.ireturn, 1) := by decide +kernel
theorem dX5_restore_0 : decode cX5_restore 0 = .ok (.aload_n 0, 1) := by decide +kernel
theorem dX5_restore_1 : decode cX5_restore 1 = .ok (.getfield 22, 3) := by decide +kernel
theorem dX5_restore_4 : decode cX5_restore 4 = .ok (.ifCond .ne 6, 3) := by decide +kernel
theorem dX5_restore_7 : decode cX5_restore 7 = .ok (.bipush (-5), 2) := by decide +kernel
theorem dX5_restore_9 : decode cX5_restore 9 = .ok (.ireturn, 1) := by decide +kernel
theorem dX5_restore_10 : decode cX5_restore 10 = .ok (.aload_n 0, 1) := by decide +kernel
theorem dX5_restore_11 : decode cX5_restore 11 = .ok (.invokevirtual 58, 3) := by decide +kernel
theorem dX5_restore_14 : decode cX5_restore 14 = .ok (.aload_n 0, 1) := by decide +kernel
theorem dX5_restore_15 : decode cX5_restore 15 = .ok (.getfield 12, 3) := by decide +kernel
theorem dX5_restore_18 : decode cX5_restore 18 = .ok (.aload_n 0, 1) := by decide +kernel
theorem dX5_restore_19 : decode cX5_restore 19 = .ok (.getfield 19, 3) := by decide +kernel
theorem dX5_restore_22 : decode cX5_restore 22 = .ok (.invokevirtual 98, 3) := by decide +kernel
theorem dX5_restore_25 : decode cX5_restore 25 = .ok (.aload_n 0, 1) := by decide +kernel
theorem dX5_restore_26 : decode cX5_restore 26 = .ok (.getfield 12, 3) := by decide +kernel
theorem dX5_restore_29 : decode cX5_restore 29 = .ok (.getfield 54, 3) := by decide +kernel
theorem dX5_restore_32 : decode cX5_restore 32 = .ok (.ireturn, 1) := by decide +kernel
theorem dX5_page_0 : decode cX5_page 0 = .ok (.aload_n 0, 1) := by decide +kernel
theorem dX5_page_1 : decode cX5_page 1 = .ok (.getfield 12, 3) := by decide +kernel
theorem dX5_page_4 : decode cX5_page 4 = .ok (.iload_n 1, 1) := by decide +kernel
theorem dX5_page_5 : decode cX5_page 5 = .ok (.invokevirtual 65, 3) := by decide +kernel
theorem dX5_page_8 : decode cX5_page 8 = .ok (.ifCond .ne 5, 3) := by decide +kernel
theorem dX5_page_11 : decode cX5_page 11 = .ok (.iconst (-1), 1) := by decide +kernel
theorem dX5_page_12 : decode cX5_page 12 = .ok (.ireturn, 1) := by decide +kernel
theorem dX5_page_13 : decode cX5_page 13 = .ok (.iload_n 2, 1) := by decide +kernel
theorem dX5_page_14 : decode cX5_page 14 = .ok (.tableswitch 186 0 10 #[58, 70, 82, 94, 106, 115, 127, 139, 159, 168, 177], 58) := by decide +kernel
theorem dX5_page_72 : decode cX5_page 72 = .ok (.aload_n 0, 1) := by decide +kernel
theorem dX5_page_73 : decode cX5_page 73 = .ok (.getfield 12, 3) := by decide +kernel
theorem dX5_page_76 : decode cX5_page 76 = .ok (.getfield 82, 3) := by decide +kernel
theorem dX5_page_79 : decode cX5_page 79 = .ok (.iload_n 1, 1) := by decide +kernel
theorem dX5_page_80 : decode cX5_page 80 = .ok (.invokevirtual 72, 3) := by decide +kernel
theorem dX5_page_83 : decode cX5_page 83 = .ok (.ireturn, 1) := by decide +kernel
theorem dX5_page_84 : decode cX5_page 84 = .ok (.aload_n 0, 1) := by decide +kernel
theorem dX5_page_85 : decode cX5_page 85 = .ok (.getfield 12, 3) := by decide +kernel
theorem dX5_page_88 : decode cX5_page 88 = .ok (.getfield 182, 3) := by decide +kernel
theorem dX5_page_91 : decode cX5_page 91 = .ok (.iload_n 1, 1) := by decide +kernel
theorem dX5_page_92 : decode cX5_page 92 = .ok (.invokevirtual 72, 3) := by decide +kernel
theorem dX5_page_95 : decode cX5_page 95 = .ok (.ireturn, 1) := by decide +kernel
theorem dX5_page_96 : decode cX5_page 96 = .ok (.aload_n 0, 1) := by decide +kernel
theorem dX5_page_97 : decode cX5_page 97 = .ok (.getfield 12, 3) := by decide +kernel
theorem dX5_page_100 : decode cX5_page 100 = .ok (.getfield 185, 3) := by decide +kernel
theorem dX5_page_103 : decode cX5_page 103 = .ok (.iload_n 1, 1) := by decide +kernel
theorem dX5_page_104 : decode cX5_page 104 = .ok (.invokevirtual 72, 3) := by decide +kernel
theorem dX5_page_107 : decode cX5_page 107 = .ok (.ireturn, 1) := by decide +kernel
theorem dX5_page_108 : decode cX5_page 108 = .ok (.aload_n 0, 1) := by decide +kernel
theorem dX5_page_109 : decode cX5_page 109 = .ok (.getfield 12, 3) := by decide +kernel
theorem dX5_page_112 : decode cX5_page 112 = .ok (.iload_n 1, 1) := by decide +kernel
theorem dX5_page_113 : decode cX5_page 113 = .ok (.invokevirtual 188, 3) := by decide +kernel
theorem dX5_page_116 : decode cX5_page 116 = .ok (.invokestatic 192, 3) := by decide +kernel
theorem dX5_page_119 : decode cX5_page 119 = .ok (.ireturn, 1) := by decide +kernel
theorem dX5_page_120 : decode cX5_page 120 = .ok (.aload_n 0, 1) := by decide +kernel
theorem dX5_page_121 : decode cX5_page 121 = .ok (.getfield 12, 3) := by decide +kernel
theorem dX5_page_124 : decode cX5_page 124 = .ok (.iload_n 1, 1) := by decide +kernel
theorem dX5_page_125 : decode cX5_page 125 = .ok (.invokevirtual 196, 3) := by decide +kernel
theorem dX5_page_128 : decode cX5_page 128 = .ok (.ireturn, 1) := by decide +kernel
theorem dX5_page_129 : decode cX5_page 129 = .ok (.aload_n 0, 1) := by decide +kernel
theorem dX5_page_130 : decode cX5_page 130 = .ok (.invokevirtual 199, 3) := by decide +kernel
theorem dX5_page_133 : decode cX5_page 133 = .ok (.iload_n 1, 1) := by decide +kernel
theorem dX5_page_134 : decode cX5_page 134 = .ok (.invokevirtual 203, 3) := by decide +kernel
theorem dX5_page_137 : decode cX5_page 137 = .ok (.invokestatic 206, 3) := by decide +kernel
theorem dX5_page_140 : decode cX5_page 140 = .ok (.ireturn, 1) := by decide +kernel
theorem dX5_page_141 : decode cX5_page 141 = .ok (.aload_n 0, 1) := by decide +kernel
theorem dX5_page_142 : decode cX5_page 142 = .ok (.invokevirtual 199, 3) := by decide +kernel
theorem dX5_page_145 : decode cX5_page 145 = .ok (.iload_n 1, 1) := by decide +kernel
theorem dX5_page_146 : decode cX5_page 146 = .ok (.invokevirtual 210, 3) := by decide +kernel
theorem dX5_page_149 : decode cX5_page 149 = .ok (.invokestatic 206, 3) := by decide +kernel
theorem dX5_page_152 : decode cX5_page 152 = .ok (.ireturn, 1) := by decide +kernel
theorem dX5_page_153 : decode cX5_page 153 = .ok (.aload_n 0, 1) := by decide +kernel
theorem dX5_page_154 : decode cX5_page 154 = .ok (.invokevirtual 199, 3) := by decide +kernel
theorem dX5_page_157 : decode cX5_page 157 = .ok (.iload_n 1, 1) := by decide +kernel
theorem dX5_page_158 : decode cX5_page 158 = .ok (.invokevirtual 213, 3) := by decide +kernel
theorem dX5_page_161 : decode cX5_page 161 = .ok (.ifCond .le 7, 3) := by decide +kernel
theorem dX5_page_164 : decode cX5_page 164 = .ok (.iconst 1, 1) := by decide +kernel
theorem dX5_page_165 : decode cX5_page 165 = .ok (.goto 4, 3) := by decide +kernel
theorem dX5_page_168 : decode cX5_page 168 = .ok (.iconst 0, 1) := by decide +kernel
theorem dX5_page_169 : decode cX5_page 169 = .ok (.invokestatic 206, 3) := by decide +kernel
theorem dX5_page_172 : decode cX5_page 172 = .ok (.ireturn, 1) := by decide +kernel
theorem dX5_page_173 : decode cX5_page 173 = .ok (.aload_n 0, 1) := by decide +kernel
theorem dX5_page_174 : decode cX5_page 174 = .ok (.invokevirtual 199, 3) := by decide +kernel
theorem dX5_page_177 : decode cX5_page 177 = .ok (.iload_n 1, 1) := by decide +kernel
theorem dX5_page_178 : decode cX5_page 178 = .ok (.invokevirtual 216, 3) := by decide +kernel
theorem dX5_page_181 : decode cX5_page 181 = .ok (.ireturn, 1) := by decide +kernel
theorem dX5_page_182 : decode cX5_page 182 = .ok (.aload_n 0, 1) := by decide +kernel
theorem dX5_page_183 : decode cX5_page 183 = .ok (.invokevirtual 199, 3) := by decide +kernel
theorem dX5_page_186 : decode cX5_page 186 = .ok (.iload_n 1, 1) := by decide +kernel
theorem dX5_page_187 : decode cX5_page 187 = .ok (.invokevirtual 219, 3) := by decide +kernel
theorem dX5_page_190 : decode cX5_page 190 = .ok (.ireturn, 1) := by decide +kernel
theorem dX5_page_191 : decode cX5_page 191 = .ok (.aload_n 0, 1) := by decide +kernel
theorem dX5_page_192 : decode cX5_page 192 = .ok (.getfield 12, 3) := by decide +kernel
theorem dX5_page_195 : decode cX5_page 195 = .ok (.iload_n 1, 1) := by decide +kernel
theorem dX5_page_196 : decode cX5_page 196 = .ok (.invokevirtual 128, 3) := by decide +kernel
theorem dX5_page_199 : decode cX5_page 199 = .ok (.ireturn, 1) := by decide +kernel
theorem dX5_page_200 : decode cX5_page 200 = .ok (.bipush (-2), 2) := by decide +kernel
theorem dX5_page_202 : decode cX5_page 202 = .ok (.ireturn, 1) := by decide +kernel
theorem dX5_choice_0 : decode cX5_choice 0 = .ok (.aload_n 0, 1) := by decide +kernel
theorem dX5_choice_1 : decode cX5_choice 1 = .ok (.getfield 12, 3) := by decide +kernel
theorem dX5_choice_4 : decode cX5_choice 4 = .ok (.iload_n 1, 1) := by decide +kernel
theorem dX5_choice_5 : decode cX5_choice 5 = .ok (.iload_n 2, 1) := by decide +kernel
theorem dX5_choice_6 : decode cX5_choice 6 = .ok (.invokevirtual 117, 3) := by decide +kernel
theorem dX5_choice_9 : decode cX5_choice 9 = .ok (.ifCond .ne 5, 3) := by decide +kernel
theorem dX5_choice_12 : decode cX5_choice 12 = .ok (.iconst (-1), 1) := by decide +kernel
theorem dX5_choice_13 : decode cX5_choice 13 = .ok (.ireturn, 1) := by decide +kernel
theorem dX5_choice_14 : decode cX5_choice 14 = .ok (.iload_n 1, 1) := by decide +kernel
theorem dX5_choice_15 : decode cX5_choice 15 = .ok (.iload_n 2, 1) := by decide +kernel
theorem dX5_choice_16 : decode cX5_choice 16 = .ok (.invokestatic 222, 3) := by decide +kernel
theorem dX5_choice_19 : decode cX5_choice 19 = .ok (.istore 4, 2) := by decide +kernel
theorem dX5_choice_21 : decode cX5_choice 21 = .ok (.iload_n 3, 1) := by decide +kernel
theorem dX5_choice_22 : decode cX5_choice 22 = .ok (.tableswitch 86 0 3 #[30, 43, 56, 69], 30) := by decide +kernel
theorem dX5_choice_52 : decode cX5_choice 52 = .ok (.aload_n 0, 1) := by decide +kernel
theorem dX5_choice_53 : decode cX5_choice 53 = .ok (.getfield 12, 3) := by decide +kernel
theorem dX5_choice_56 : decode cX5_choice 56 = .ok (.getfield 225, 3) := by decide +kernel
theorem dX5_choice_59 : decode cX5_choice 59 = .ok (.iload 4, 2) := by decide +kernel
theorem dX5_choice_61 : decode cX5_choice 61 = .ok (.invokevirtual 72, 3) := by decide +kernel
theorem dX5_choice_64 : decode cX5_choice 64 = .ok (.ireturn, 1) := by decide +kernel
theorem dX5_choice_65 : decode cX5_choice 65 = .ok (.aload_n 0, 1) := by decide +kernel
theorem dX5_choice_66 : decode cX5_choice 66 = .ok (.getfield 12, 3) := by decide +kernel
theorem dX5_choice_69 : decode cX5_choice 69 = .ok (.getfield 226, 3) := by decide +kernel
theorem dX5_choice_72 : decode cX5_choice 72 = .ok (.iload 4, 2) := by decide +kernel
theorem dX5_choice_74 : decode cX5_choice 74 = .ok (.invokevirtual 72, 3) := by decide +kernel
theorem dX5_choice_77 : decode cX5_choice 77 = .ok (.ireturn, 1) := by decide +kernel
theorem dX5_choice_78 : decode cX5_choice 78 = .ok (.aload_n 0, 1) := by decide +kernel
theorem dX5_choice_79 : decode cX5_choice 79 = .ok (.getfield 12, 3) := by decide +kernel
theorem dX5_choice_82 : decode cX5_choice 82 = .ok (.getfield 227, 3) := by decide +kernel
theorem dX5_choice_85 : decode cX5_choice 85 = .ok (.iload 4, 2) := by decide +kernel
theorem dX5_choice_87 : decode cX5_choice 87 = .ok (.invokevirtual 72, 3) := by decide +kernel
theorem dX5_choice_90 : decode cX5_choice 90 = .ok (.ireturn, 1) := by decide +kernel
theorem dX5_choice_91 : decode cX5_choice 91 = .ok (.aload_n 0, 1) := by decide +kernel
theorem dX5_choice_92 : decode cX5_choice 92 = .ok (.invokevirtual 199, 3) := by decide +kernel
theorem dX5_choice_95 : decode cX5_choice 95 = .ok (.aload_n 0, 1) := by decide +kernel
theorem dX5_choice_96 : decode cX5_choice 96 = .ok (.getfield 12, 3) := by decide +kernel
theorem dX5_choice_99 : decode cX5_choice 99 = .ok (.iload_n 1, 1) := by decide +kernel
theorem dX5_choice_100 : decode cX5_choice 100 = .ok (.iload_n 2, 1) := by decide +kernel
theorem dX5_choice_101 : decode cX5_choice 101 = .ok (.invokevirtual 228, 3) := by decide +kernel
theorem dX5_choice_104 : decode cX5_choice 104 = .ok (.invokestatic 206, 3) := by decide +kernel
theorem dX5_choice_107 : decode cX5_choice 107 = .ok (.ireturn, 1) := by decide +kernel
theorem dX5_choice_108 : decode cX5_choice 108 = .ok (.bipush (-2), 2) := by decide +kernel
theorem dX5_choice_110 : decode cX5_choice 110 = .ok (.ireturn, 1) := by decide +kernel
theorem dX5_reader_0 : decode cX5_reader 0 = .ok (.iload_n 1, 1) := by decide +kernel
theorem dX5_reader_1 : decode cX5_reader 1 = .ok (.invokestatic 131, 3) := by decide +kernel
theorem dX5_reader_4 : decode cX5_reader 4 = .ok (.ifCond .ne 5, 3) := by decide +kernel
theorem dX5_reader_7 : decode cX5_reader 7 = .ok (.iconst (-1), 1) := by decide +kernel
theorem dX5_reader_8 : decode cX5_reader 8 = .ok (.ireturn, 1) := by decide +kernel
theorem dX5_reader_9 : decode cX5_reader 9 = .ok (.iload_n 2, 1) := by decide +kernel
theorem dX5_reader_10 : decode cX5_reader 10 = .ok (.ifCond .lt 8, 3) := by decide +kernel
theorem dX5_reader_13 : decode cX5_reader 13 = .ok (.iload_n 2, 1) := by decide +kernel
theorem dX5_reader_14 : decode cX5_reader 14 = .ok (.iconst 3, 1) := by decide +kernel
theorem dX5_reader_15 : decode cX5_reader 15 = .ok (.if_icmp .le 6, 3) := by decide +kernel
theorem dX5_reader_18 : decode cX5_reader 18 = .ok (.bipush (-2), 2) := by decide +kernel
theorem dX5_reader_20 : decode cX5_reader 20 = .ok (.ireturn, 1) := by decide +kernel
theorem dX5_reader_21 : decode cX5_reader 21 = .ok (.aload_n 0, 1) := by decide +kernel
theorem dX5_reader_22 : decode cX5_reader 22 = .ok (.getfield 12, 3) := by decide +kernel
theorem dX5_reader_25 : decode cX5_reader 25 = .ok (.getfield 151, 3) := by decide +kernel
theorem dX5_reader_28 : decode cX5_reader 28 = .ok (.iload_n 1, 1) := by decide +kernel
theorem dX5_reader_29 : decode cX5_reader 29 = .ok (.invokevirtual 72, 3) := by decide +kernel
theorem dX5_reader_32 : decode cX5_reader 32 = .ok (.istore_n 3, 1) := by decide +kernel
theorem dX5_reader_33 : decode cX5_reader 33 = .ok (.iload_n 3, 1) := by decide +kernel
theorem dX5_reader_34 : decode cX5_reader 34 = .ok (.iconst (-1), 1) := by decide +kernel
theorem dX5_reader_35 : decode cX5_reader 35 = .ok (.if_icmp .ne 6, 3) := by decide +kernel
theorem dX5_reader_38 : decode cX5_reader 38 = .ok (.bipush (-5), 2) := by decide +kernel
theorem dX5_reader_40 : decode cX5_reader 40 = .ok (.ireturn, 1) := by decide +kernel
theorem dX5_reader_41 : decode cX5_reader 41 = .ok (.iload_n 2, 1) := by decide +kernel
theorem dX5_reader_42 : decode cX5_reader 42 = .ok (.tableswitch 45 0 2 #[26, 31, 36], 26) := by decide +kernel
theorem dX5_reader_68 : decode cX5_reader 68 = .ok (.iload_n 3, 1) := by decide +kernel
theorem dX5_reader_69 : decode cX5_reader 69 = .ok (.invokestatic 160, 3) := by decide +kernel
theorem dX5_reader_72 : decode cX5_reader 72 = .ok (.ireturn, 1) := by decide +kernel
theorem dX5_reader_73 : decode cX5_reader 73 = .ok (.iload_n 3, 1) := by decide +kernel
theorem dX5_reader_74 : decode cX5_reader 74 = .ok (.invokestatic 142, 3) := by decide +kernel
theorem dX5_reader_77 : decode cX5_reader 77 = .ok (.ireturn, 1) := by decide +kernel
theorem dX5_reader_78 : decode cX5_reader 78 = .ok (.aload_n 0, 1) := by decide +kernel
theorem dX5_reader_79 : decode cX5_reader 79 = .ok (.getfield 12, 3) := by decide +kernel
theorem dX5_reader_82 : decode cX5_reader 82 = .ok (.iload_n 3, 1) := by decide +kernel
theorem dX5_reader_83 : decode cX5_reader 83 = .ok (.invokevirtual 232, 3) := by decide +kernel
theorem dX5_reader_86 : decode cX5_reader 86 = .ok (.ireturn, 1) := by decide +kernel
theorem dX5_reader_87 : decode cX5_reader 87 = .ok (.aload_n 0, 1) := by decide +kernel
theorem dX5_reader_88 : decode cX5_reader 88 = .ok (.getfield 12, 3) := by decide +kernel
theorem dX5_reader_91 : decode cX5_reader 91 = .ok (.getfield 157, 3) := by decide +kernel
theorem dX5_reader_94 : decode cX5_reader 94 = .ok (.iload_n 1, 1) := by decide +kernel
theorem dX5_reader_95 : decode cX5_reader 95 = .ok (.invokevirtual 72, 3) := by decide +kernel
theorem dX5_reader_98 : decode cX5_reader 98 = .ok (.ireturn, 1) := by decide +kernel
theorem dX5_why_0 : decode cX5_why 0 = .ok (.iload_n 1, 1) := by decide +kernel
theorem dX5_why_1 : decode cX5_why 1 = .ok (.invokestatic 131, 3) := by decide +kernel
theorem dX5_why_4 : decode cX5_why 4 = .ok (.ifCond .ne 5, 3) := by decide +kernel
theorem dX5_why_7 : decode cX5_why 7 = .ok (.iconst (-1), 1) := by decide +kernel
theorem dX5_why_8 : decode cX5_why 8 = .ok (.ireturn, 1) := by decide +kernel
theorem dX5_why_9 : decode cX5_why 9 = .ok (.iload_n 2, 1) := by decide +kernel
theorem dX5_why_10 : decode cX5_why 10 = .ok (.invokestatic 145, 3) := by decide +kernel
theorem dX5_why_13 : decode cX5_why 13 = .ok (.ifCond .ne 6, 3) := by decide +kernel
theorem dX5_why_16 : decode cX5_why 16 = .ok (.bipush (-2), 2) := by decide +kernel
theorem dX5_why_18 : decode cX5_why 18 = .ok (.ireturn, 1) := by decide +kernel
theorem dX5_why_19 : decode cX5_why 19 = .ok (.aload_n 0, 1) := by decide +kernel
theorem dX5_why_20 : decode cX5_why 20 = .ok (.getfield 12, 3) := by decide +kernel
theorem dX5_why_23 : decode cX5_why 23 = .ok (.iload_n 1, 1) := by decide +kernel
theorem dX5_why_24 : decode cX5_why 24 = .ok (.iload_n 2, 1) := by decide +kernel
theorem dX5_why_25 : decode cX5_why 25 = .ok (.invokevirtual 148, 3) := by decide +kernel
theorem dX5_why_28 : decode cX5_why 28 = .ok (.ireturn, 1) := by decide +kernel
theorem dX5_way_0 : decode cX5_way 0 = .ok (.iload_n 1, 1) := by decide +kernel
theorem dX5_way_1 : decode cX5_way 1 = .ok (.ifCond .lt 12, 3) := by decide +kernel
theorem dX5_way_4 : decode cX5_way 4 = .ok (.iload_n 2, 1) := by decide +kernel
theorem dX5_way_5 : decode cX5_way 5 = .ok (.ifCond .lt 8, 3) := by decide +kernel
theorem dX5_way_8 : decode cX5_way 8 = .ok (.iload_n 2, 1) := by decide +kernel
theorem dX5_way_9 : decode cX5_way 9 = .ok (.iconst 2, 1) := by decide +kernel
theorem dX5_way_10 : decode cX5_way 10 = .ok (.if_icmp .le 6, 3) := by decide +kernel
theorem dX5_way_13 : decode cX5_way 13 = .ok (.bipush (-2), 2) := by decide +kernel
theorem dX5_way_15 : decode cX5_way 15 = .ok (.ireturn, 1) := by decide +kernel
theorem dX5_way_16 : decode cX5_way 16 = .ok (.aload_n 0, 1) := by decide +kernel
theorem dX5_way_17 : decode cX5_way 17 = .ok (.invokevirtual 199, 3) := by decide +kernel
theorem dX5_way_20 : decode cX5_way 20 = .ok (.astore_n 3, 1) := by decide +kernel
theorem dX5_way_21 : decode cX5_way 21 = .ok (.iload_n 1, 1) := by decide +kernel
theorem dX5_way_22 : decode cX5_way 22 = .ok (.aload_n 3, 1) := by decide +kernel
theorem dX5_way_23 : decode cX5_way 23 = .ok (.getfield 235, 3) := by decide +kernel
theorem dX5_way_26 : decode cX5_way 26 = .ok (.if_icmp .le 6, 3) := by decide +kernel
theorem dX5_way_29 : decode cX5_way 29 = .ok (.bipush (-5), 2) := by decide +kernel
theorem dX5_way_31 : decode cX5_way 31 = .ok (.ireturn, 1) := by decide +kernel
theorem dX5_way_32 : decode cX5_way 32 = .ok (.iload_n 2, 1) := by decide +kernel
theorem dX5_way_33 : decode cX5_way 33 = .ok (.lookupswitch 51 #[(0, 27), (1, 39)], 27) := by decide +kernel
theorem dX5_way_60 : decode cX5_way 60 = .ok (.aload_n 3, 1) := by decide +kernel
theorem dX5_way_61 : decode cX5_way 61 = .ok (.getfield 238, 3) := by decide +kernel
theorem dX5_way_64 : decode cX5_way 64 = .ok (.iload_n 1, 1) := by decide +kernel
theorem dX5_way_65 : decode cX5_way 65 = .ok (.invokevirtual 72, 3) := by decide +kernel
theorem dX5_way_68 : decode cX5_way 68 = .ok (.invokestatic 160, 3) := by decide +kernel
theorem dX5_way_71 : decode cX5_way 71 = .ok (.ireturn, 1) := by decide +kernel
theorem dX5_way_72 : decode cX5_way 72 = .ok (.aload_n 3, 1) := by decide +kernel
theorem dX5_way_73 : decode cX5_way 73 = .ok (.getfield 238, 3) := by decide +kernel
theorem dX5_way_76 : decode cX5_way 76 = .ok (.iload_n 1, 1) := by decide +kernel
theorem dX5_way_77 : decode cX5_way 77 = .ok (.invokevirtual 72, 3) := by decide +kernel
theorem dX5_way_80 : decode cX5_way 80 = .ok (.invokestatic 142, 3) := by decide +kernel
theorem dX5_way_83 : decode cX5_way 83 = .ok (.ireturn, 1) := by decide +kernel
theorem dX5_way_84 : decode cX5_way 84 = .ok (.aload_n 3, 1) := by decide +kernel
theorem dX5_way_85 : decode cX5_way 85 = .ok (.iload_n 1, 1) := by decide +kernel
theorem dX5_way_86 : decode cX5_way 86 = .ok (.invokevirtual 241, 3) := by decide +kernel
theorem dX5_way_89 : decode cX5_way 89 = .ok (.ireturn, 1) := by decide +kernel
theorem dX5_wayMood_0 : decode cX5_wayMood 0 = .ok (.aload_n 0, 1) := by decide +kernel
theorem dX5_wayMood_1 : decode cX5_wayMood 1 = .ok (.invokevirtual 199, 3) := by decide +kernel
theorem dX5_wayMood_4 : decode cX5_wayMood 4 = .ok (.astore_n 1, 1) := by decide +kernel
theorem dX5_wayMood_5 : decode cX5_wayMood 5 = .ok (.aload_n 1, 1) := by decide +kernel
theorem dX5_wayMood_6 : decode cX5_wayMood 6 = .ok (.getfield 235, 3) := by decide +kernel
theorem dX5_wayMood_9 : decode cX5_wayMood 9 = .ok (.ifCond .ge 6, 3) := by decide +kernel
theorem dX5_wayMood_12 : decode cX5_wayMood 12 = .ok (.bipush (-5), 2) := by decide +kernel
theorem dX5_wayMood_14 : decode cX5_wayMood 14 = .ok (.ireturn, 1) := by decide +kernel
theorem dX5_wayMood_15 : decode cX5_wayMood 15 = .ok (.fconst 0, 1) := by decide +kernel
theorem dX5_wayMood_16 : decode cX5_wayMood 16 = .ok (.fstore_n 2, 1) := by decide +kernel
theorem dX5_wayMood_17 : decode cX5_wayMood 17 = .ok (.iconst 0, 1) := by decide +kernel
theorem dX5_wayMood_18 : decode cX5_wayMood 18 = .ok (.istore_n 3, 1) := by decide +kernel
theorem dX5_wayMood_19 : decode cX5_wayMood 19 = .ok (.iload_n 3, 1) := by decide +kernel
theorem dX5_wayMood_20 : decode cX5_wayMood 20 = .ok (.aload_n 1, 1) := by decide +kernel
theorem dX5_wayMood_21 : decode cX5_wayMood 21 = .ok (.getfield 235, 3) := by decide +kernel
theorem dX5_wayMood_24 : decode cX5_wayMood 24 = .ok (.if_icmp .gt 37, 3) := by decide +kernel
theorem dX5_wayMood_27 : decode cX5_wayMood 27 = .ok (.iload_n 3, 1) := by decide +kernel
theorem dX5_wayMood_28 : decode cX5_wayMood 28 = .ok (.sipush 1024, 3) := by decide +kernel
theorem dX5_wayMood_31 : decode cX5_wayMood 31 = .ok (.if_icmp .ge 30, 3) := by decide +kernel
theorem dX5_wayMood_34 : decode cX5_wayMood 34 = .ok (.fload_n 2, 1) := by decide +kernel
theorem dX5_wayMood_35 : decode cX5_wayMood 35 = .ok (.aload_n 0, 1) := by decide +kernel
theorem dX5_wayMood_36 : decode cX5_wayMood 36 = .ok (.getfield 12, 3) := by decide +kernel
theorem dX5_wayMood_39 : decode cX5_wayMood 39 = .ok (.aload_n 1, 1) := by decide +kernel
theorem dX5_wayMood_40 : decode cX5_wayMood 40 = .ok (.getfield 238, 3) := by decide +kernel
theorem dX5_wayMood_43 : decode cX5_wayMood 43 = .ok (.iload_n 3, 1) := by decide +kernel
theorem dX5_wayMood_44 : decode cX5_wayMood 44 = .ok (.invokevirtual 72, 3) := by decide +kernel
theorem dX5_wayMood_47 : decode cX5_wayMood 47 = .ok (.invokestatic 160, 3) := by decide +kernel
theorem dX5_wayMood_50 : decode cX5_wayMood 50 = .ok (.invokevirtual 188, 3) := by decide +kernel
theorem dX5_wayMood_53 : decode cX5_wayMood 53 = .ok (.fadd, 1) := by decide +kernel
theorem dX5_wayMood_54 : decode cX5_wayMood 54 = .ok (.fstore_n 2, 1) := by decide +kernel
theorem dX5_wayMood_55 : decode cX5_wayMood 55 = .ok (.iinc 3 1, 3) := by decide +kernel
theorem dX5_wayMood_58 : decode cX5_wayMood 58 = .ok (.goto (-39), 3) := by decide +kernel
theorem dX5_wayMood_61 : decode cX5_wayMood 61 = .ok (.fload_n 2, 1) := by decide +kernel
theorem dX5_wayMood_62 : decode cX5_wayMood 62 = .ok (.invokestatic 192, 3) := by decide +kernel
theorem dX5_wayMood_65 : decode cX5_wayMood 65 = .ok (.ireturn, 1) := by decide +kernel
theorem dX5_count_0 : decode cX5_count 0 = .ok (.iload_n 1, 1) := by decide +kernel
theorem dX5_count_1 : decode cX5_count 1 = .ok (.tableswitch 200 0 11 #[63, 71, 79, 87, 95, 103, 111, 126, 141, 164, 184, 192], 63) := by decide +kernel
theorem dX5_count_64 : decode cX5_count 64 = .ok (.aload_n 0, 1) := by decide +kernel
theorem dX5_count_65 : decode cX5_count 65 = .ok (.getfield 12, 3) := by decide +kernel
theorem dX5_count_68 : decode cX5_count 68 = .ok (.getfield 54, 3) := by decide +kernel
theorem dX5_count_71 : decode cX5_count 71 = .ok (.ireturn, 1) := by decide +kernel
theorem dX5_count_72 : decode cX5_count 72 = .ok (.aload_n 0, 1) := by decide +kernel
theorem dX5_count_73 : decode cX5_count 73 = .ok (.getfield 12, 3) := by decide +kernel
theorem dX5_count_76 : decode cX5_count 76 = .ok (.invokevirtual 244, 3) := by decide +kernel
theorem dX5_count_79 : decode cX5_count 79 = .ok (.ireturn, 1) := by decide +kernel
theorem dX5_count_80 : decode cX5_count 80 = .ok (.aload_n 0, 1) := by decide +kernel
theorem dX5_count_81 : decode cX5_count 81 = .ok (.invokevirtual 199, 3) := by decide +kernel
theorem dX5_count_84 : decode cX5_count 84 = .ok (.invokevirtual 247, 3) := by decide +kernel
theorem dX5_count_87 : decode cX5_count 87 = .ok (.ireturn, 1) := by decide +kernel
theorem dX5_count_88 : decode cX5_count 88 = .ok (.aload_n 0, 1) := by decide +kernel
theorem dX5_count_89 : decode cX5_count 89 = .ok (.invokevirtual 199, 3) := by decide +kernel
theorem dX5_count_92 : decode cX5_count 92 = .ok (.invokevirtual 250, 3) := by decide +kernel
theorem dX5_count_95 : decode cX5_count 95 = .ok (.ireturn, 1) := by decide +kernel
theorem dX5_count_96 : decode cX5_count 96 = .ok (.aload_n 0, 1) := by decide +kernel
theorem dX5_count_97 : decode cX5_count 97 = .ok (.invokevirtual 199, 3) := by decide +kernel
theorem dX5_count_100 : decode cX5_count 100 = .ok (.invokevirtual 253, 3) := by decide +kernel
theorem dX5_count_103 : decode cX5_count 103 = .ok (.ireturn, 1) := by decide +kernel
theorem dX5_count_104 : decode cX5_count 104 = .ok (.aload_n 0, 1) := by decide +kernel
theorem dX5_count_105 : decode cX5_count 105 = .ok (.invokevirtual 199, 3) := by decide +kernel
theorem dX5_count_108 : decode cX5_count 108 = .ok (.getfield 256, 3) := by decide +kernel
theorem dX5_count_111 : decode cX5_count 111 = .ok (.ireturn, 1) := by decide +kernel
theorem dX5_count_112 : decode cX5_count 112 = .ok (.aload_n 0, 1) := by decide +kernel
theorem dX5_count_113 : decode cX5_count 113 = .ok (.invokevirtual 199, 3) := by decide +kernel
theorem dX5_count_116 : decode cX5_count 116 = .ok (.aload_n 0, 1) := by decide +kernel
theorem dX5_count_117 : decode cX5_count 117 = .ok (.invokevirtual 199, 3) := by decide +kernel
theorem dX5_count_120 : decode cX5_count 120 = .ok (.getfield 259, 3) := by decide +kernel
theorem dX5_count_123 : decode cX5_count 123 = .ok (.invokevirtual 262, 3) := by decide +kernel
theorem dX5_count_126 : decode cX5_count 126 = .ok (.ireturn, 1) := by decide +kernel
theorem dX5_count_127 : decode cX5_count 127 = .ok (.aload_n 0, 1) := by decide +kernel
theorem dX5_count_128 : decode cX5_count 128 = .ok (.invokevirtual 199, 3) := by decide +kernel
theorem dX5_count_131 : decode cX5_count 131 = .ok (.aload_n 0, 1) := by decide +kernel
theorem dX5_count_132 : decode cX5_count 132 = .ok (.invokevirtual 199, 3) := by decide +kernel
theorem dX5_count_135 : decode cX5_count 135 = .ok (.getfield 265, 3) := by decide +kernel
theorem dX5_count_138 : decode cX5_count 138 = .ok (.invokevirtual 262, 3) := by decide +kernel
theorem dX5_count_141 : decode cX5_count 141 = .ok (.ireturn, 1) := by decide +kernel
theorem dX5_count_142 : decode cX5_count 142 = .ok (.aload_n 0, 1) := by decide +kernel
theorem dX5_count_143 : decode cX5_count 143 = .ok (.invokevirtual 199, 3) := by decide +kernel
theorem dX5_count_146 : decode cX5_count 146 = .ok (.getfield 235, 3) := by decide +kernel
theorem dX5_count_149 : decode cX5_count 149 = .ok (.ifCond .ge 8, 3) := by decide +kernel
theorem dX5_count_152 : decode cX5_count 152 = .ok (.bipush (-5), 2) := by decide +kernel
theorem dX5_count_154 : decode cX5_count 154 = .ok (.goto 10, 3) := by decide +kernel
theorem dX5_count_157 : decode cX5_count 157 = .ok (.aload_n 0, 1) := by decide +kernel
theorem dX5_count_158 : decode cX5_count 158 = .ok (.invokevirtual 199, 3) := by decide +kernel
theorem dX5_count_161 : decode cX5_count 161 = .ok (.getfield 235, 3) := by decide +kernel
theorem dX5_count_164 : decode cX5_count 164 = .ok (.ireturn, 1) := by decide +kernel
theorem dX5_count_165 : decode cX5_count 165 = .ok (.aload_n 0, 1) := by decide +kernel
theorem dX5_count_166 : decode cX5_count 166 = .ok (.getfield 12, 3) := by decide +kernel
theorem dX5_count_169 : decode cX5_count 169 = .ok (.getfield 163, 3) := by decide +kernel
theorem dX5_count_172 : decode cX5_count 172 = .ok (.iconst (-1), 1) := by decide +kernel
theorem dX5_count_173 : decode cX5_count 173 = .ok (.if_icmp .eq 7, 3) := by decide +kernel
theorem dX5_count_176 : decode cX5_count 176 = .ok (.iconst 1, 1) := by decide +kernel
theorem dX5_count_177 : decode cX5_count 177 = .ok (.goto 4, 3) := by decide +kernel
theorem dX5_count_180 : decode cX5_count 180 = .ok (.iconst 0, 1) := by decide +kernel
theorem dX5_count_181 : decode cX5_count 181 = .ok (.invokestatic 206, 3) := by decide +kernel
theorem dX5_count_184 : decode cX5_count 184 = .ok (.ireturn, 1) := by decide +kernel
theorem dX5_count_185 : decode cX5_count 185 = .ok (.aload_n 0, 1) := by decide +kernel
theorem dX5_count_186 : decode cX5_count 186 = .ok (.getfield 29, 3) := by decide +kernel
theorem dX5_count_189 : decode cX5_count 189 = .ok (.getfield 173, 3) := by decide +kernel
theorem dX5_count_192 : decode cX5_count 192 = .ok (.ireturn, 1) := by decide +kernel
theorem dX5_count_193 : decode cX5_count 193 = .ok (.aload_n 0, 1) := by decide +kernel
theorem dX5_count_194 : decode cX5_count 194 = .ok (.getfield 36, 3) := by decide +kernel
theorem dX5_count_197 : decode cX5_count 197 = .ok (.getfield 166, 3) := by decide +kernel
theorem dX5_count_200 : decode cX5_count 200 = .ok (.ireturn, 1) := by decide +kernel
theorem dX5_count_201 : decode cX5_count 201 = .ok (.bipush (-2), 2) := by decide +kernel
theorem dX5_count_203 : decode cX5_count 203 = .ok (.ireturn, 1) := by decide +kernel
theorem dX5_record_0 : decode cX5_record 0 = .ok (.aload_n 0, 1) := by decide +kernel
theorem dX5_record_1 : decode cX5_record 1 = .ok (.getfield 29, 3) := by decide +kernel
theorem dX5_record_4 : decode cX5_record 4 = .ok (.aload_n 0, 1) := by decide +kernel
theorem dX5_record_5 : decode cX5_record 5 = .ok (.getfield 12, 3) := by decide +kernel
theorem dX5_record_8 : decode cX5_record 8 = .ok (.invokevirtual 268, 3) := by decide +kernel
theorem dX5_record_11 : decode cX5_record 11 = .ok (.aload_n 0, 1) := by decide +kernel
theorem dX5_record_12 : decode cX5_record 12 = .ok (.getfield 43, 3) := by decide +kernel
theorem dX5_record_15 : decode cX5_record 15 = .ok (.iconst 0, 1) := by decide +kernel
theorem dX5_record_16 : decode cX5_record 16 = .ok (.putfield 179, 3) := by decide +kernel
theorem dX5_record_19 : decode cX5_record 19 = .ok (.return_, 1) := by decide +kernel
theorem dX5_surveyed_0 : decode cX5_surveyed 0 = .ok (.aload_n 0, 1) := by decide +kernel
theorem dX5_surveyed_1 : decode cX5_surveyed 1 = .ok (.getfield 43, 3) := by decide +kernel
theorem dX5_surveyed_4 : decode cX5_surveyed 4 = .ok (.getfield 179, 3) := by decide +kernel
theorem dX5_surveyed_7 : decode cX5_surveyed 7 = .ok (.ifCond .ne 14, 3) := by decide +kernel
theorem dX5_surveyed_10 : decode cX5_surveyed 10 = .ok (.aload_n 0, 1) := by decide +kernel
theorem dX5_surveyed_11 : decode cX5_surveyed 11 = .ok (.getfield 43, 3) := by decide +kernel
theorem dX5_surveyed_14 : decode cX5_surveyed 14 = .ok (.aload_n 0, 1) := by decide +kernel
theorem dX5_surveyed_15 : decode cX5_surveyed 15 = .ok (.getfield 12, 3) := by decide +kernel
theorem dX5_surveyed_18 : decode cX5_surveyed 18 = .ok (.invokevirtual 271, 3) := by decide +kernel
theorem dX5_surveyed_21 : decode cX5_surveyed 21 = .ok (.aload_n 0, 1) := by decide +kernel
theorem dX5_surveyed_22 : decode cX5_surveyed 22 = .ok (.getfield 43, 3) := by decide +kernel
theorem dX5_surveyed_25 : decode cX5_surveyed 25 = .ok (.areturn, 1) := by decide +kernel
theorem dX5_isMood_0 : decode cX5_isMood 0 = .ok (.iload_n 0, 1) := by decide +kernel
theorem dX5_isMood_1 : decode cX5_isMood 1 = .ok (.bipush (-99), 2) := by decide +kernel
theorem dX5_isMood_3 : decode cX5_isMood 3 = .ok (.if_icmp .lt 13, 3) := by decide +kernel
theorem dX5_isMood_6 : decode cX5_isMood 6 = .ok (.iload_n 0, 1) := by decide +kernel
theorem dX5_isMood_7 : decode cX5_isMood 7 = .ok (.bipush 99, 2) := by decide +kernel
theorem dX5_isMood_9 : decode cX5_isMood 9 = .ok (.if_icmp .gt 7, 3) := by decide +kernel
theorem dX5_isMood_12 : decode cX5_isMood 12 = .ok (.iconst 1, 1) := by decide +kernel
theorem dX5_isMood_13 : decode cX5_isMood 13 = .ok (.goto 4, 3) := by decide +kernel
theorem dX5_isMood_16 : decode cX5_isMood 16 = .ok (.iconst 0, 1) := by decide +kernel
theorem dX5_isMood_17 : decode cX5_isMood 17 = .ok (.ireturn, 1) := by decide +kernel
theorem dX5_isFlagSet_0 : decode cX5_isFlagSet 0 = .ok (.iload_n 0, 1) := by decide +kernel
theorem dX5_isFlagSet_1 : decode cX5_isFlagSet 1 = .ok (.ifCond .lt 13, 3) := by decide +kernel
theorem dX5_isFlagSet_4 : decode cX5_isFlagSet 4 = .ok (.iload_n 0, 1) := by decide +kernel
theorem dX5_isFlagSet_5 : decode cX5_isFlagSet 5 = .ok (.bipush 32, 2) := by decide +kernel
theorem dX5_isFlagSet_7 : decode cX5_isFlagSet 7 = .ok (.if_icmp .ge 7, 3) := by decide +kernel
theorem dX5_isFlagSet_10 : decode cX5_isFlagSet 10 = .ok (.iconst 1, 1) := by decide +kernel
theorem dX5_isFlagSet_11 : decode cX5_isFlagSet 11 = .ok (.goto 4, 3) := by decide +kernel
theorem dX5_isFlagSet_14 : decode cX5_isFlagSet 14 = .ok (.iconst 0, 1) := by decide +kernel
theorem dX5_isFlagSet_15 : decode cX5_isFlagSet 15 = .ok (.ireturn, 1) := by decide +kernel
theorem dX5_isReader_0 : decode cX5_isReader 0 = .ok (.iload_n 0, 1) := by decide +kernel
theorem dX5_isReader_1 : decode cX5_isReader 1 = .ok (.ifCond .lt 12, 3) := by decide +kernel
theorem dX5_isReader_4 : decode cX5_isReader 4 = .ok (.iload_n 0, 1) := by decide +kernel
theorem dX5_isReader_5 : decode cX5_isReader 5 = .ok (.iconst 2, 1) := by decide +kernel
theorem dX5_isReader_6 : decode cX5_isReader 6 = .ok (.if_icmp .ge 7, 3) := by decide +kernel
theorem dX5_isReader_9 : decode cX5_isReader 9 = .ok (.iconst 1, 1) := by decide +kernel
theorem dX5_isReader_10 : decode cX5_isReader 10 = .ok (.goto 4, 3) := by decide +kernel
theorem dX5_isReader_13 : decode cX5_isReader 13 = .ok (.iconst 0, 1) := by decide +kernel
theorem dX5_isReader_14 : decode cX5_isReader 14 = .ok (.ireturn, 1) := by decide +kernel
theorem dX5_isChoiceNumber_0 : decode cX5_isChoiceNumber 0 = .ok (.iload_n 0, 1) := by decide +kernel
theorem dX5_isChoiceNumber_1 : decode cX5_isChoiceNumber 1 = .ok (.ifCond .lt 12, 3) := by decide +kernel
theorem dX5_isChoiceNumber_4 : decode cX5_isChoiceNumber 4 = .ok (.iload_n 0, 1) := by decide +kernel
theorem dX5_isChoiceNumber_5 : decode cX5_isChoiceNumber 5 = .ok (.iconst 3, 1) := by decide +kernel
theorem dX5_isChoiceNumber_6 : decode cX5_isChoiceNumber 6 = .ok (.if_icmp .ge 7, 3) := by decide +kernel
theorem dX5_isChoiceNumber_9 : decode cX5_isChoiceNumber 9 = .ok (.iconst 1, 1) := by decide +kernel
theorem dX5_isChoiceNumber_10 : decode cX5_isChoiceNumber 10 = .ok (.goto 4, 3) := by decide +kernel
theorem dX5_isChoiceNumber_13 : decode cX5_isChoiceNumber 13 = .ok (.iconst 0, 1) := by decide +kernel
theorem dX5_isChoiceNumber_14 : decode cX5_isChoiceNumber 14 = .ok (.ireturn, 1) := by decide +kernel
theorem dX5_oneIf_0 : decode cX5_oneIf 0 = .ok (.iload_n 0, 1) := by decide +kernel
theorem dX5_oneIf_1 : decode cX5_oneIf 1 = .ok (.ifCond .eq 7, 3) := by decide +kernel
theorem dX5_oneIf_4 : decode cX5_oneIf 4 = .ok (.iconst 1, 1) := by decide +kernel
theorem dX5_oneIf_5 : decode cX5_oneIf 5 = .ok (.goto 4, 3) := by decide +kernel
theorem dX5_oneIf_8 : decode cX5_oneIf 8 = .ok (.iconst 0, 1) := by decide +kernel
theorem dX5_oneIf_9 : decode cX5_oneIf 9 = .ok (.ireturn, 1) := by decide +kernel
theorem dX5_slotOf_0 : decode cX5_slotOf 0 = .ok (.iload_n 0, 1) := by decide +kernel
theorem dX5_slotOf_1 : decode cX5_slotOf 1 = .ok (.iconst 3, 1) := by decide +kernel
theorem dX5_slotOf_2 : decode cX5_slotOf 2 = .ok (.imul, 1) := by decide +kernel
theorem dX5_slotOf_3 : decode cX5_slotOf 3 = .ok (.iload_n 1, 1) := by decide +kernel
theorem dX5_slotOf_4 : decode cX5_slotOf 4 = .ok (.iadd, 1) := by decide +kernel
theorem dX5_slotOf_5 : decode cX5_slotOf 5 = .ok (.ireturn, 1) := by decide +kernel
theorem dX5_placeOf_0 : decode cX5_placeOf 0 = .ok (.iload_n 0, 1) := by decide +kernel
theorem dX5_placeOf_1 : decode cX5_placeOf 1 = .ok (.bipush 32, 2) := by decide +kernel
theorem dX5_placeOf_3 : decode cX5_placeOf 3 = .ok (.imul, 1) := by decide +kernel
theorem dX5_placeOf_4 : decode cX5_placeOf 4 = .ok (.iload_n 1, 1) := by decide +kernel
theorem dX5_placeOf_5 : decode cX5_placeOf 5 = .ok (.iadd, 1) := by decide +kernel
theorem dX5_placeOf_6 : decode cX5_placeOf 6 = .ok (.ireturn, 1) := by decide +kernel
theorem dX5_pageAt_0 : decode cX5_pageAt 0 = .ok (.iload_n 0, 1) := by decide +kernel
theorem dX5_pageAt_1 : decode cX5_pageAt 1 = .ok (.iconst 5, 1) := by decide +kernel
theorem dX5_pageAt_2 : decode cX5_pageAt 2 = .ok (.ishr, 1) := by decide +kernel
theorem dX5_pageAt_3 : decode cX5_pageAt 3 = .ok (.ireturn, 1) := by decide +kernel
theorem dX5_flagsAt_0 : decode cX5_flagsAt 0 = .ok (.iload_n 0, 1) := by decide +kernel
theorem dX5_flagsAt_1 : decode cX5_flagsAt 1 = .ok (.bipush 31, 2) := by decide +kernel
theorem dX5_flagsAt_3 : decode cX5_flagsAt 3 = .ok (.iand, 1) := by decide +kernel
theorem dX5_flagsAt_4 : decode cX5_flagsAt 4 = .ok (.ireturn, 1) := by decide +kernel
theorem dX5_bitsOf_0 : decode cX5_bitsOf 0 = .ok (.fload_n 0, 1) := by decide +kernel
theorem dX5_bitsOf_1 : decode cX5_bitsOf 1 = .ok (.fconst 0, 1) := by decide +kernel
theorem dX5_bitsOf_2 : decode cX5_bitsOf 2 = .ok (.fcmp .l, 1) := by decide +kernel
theorem dX5_bitsOf_3 : decode cX5_bitsOf 3 = .ok (.ifCond .ne 5, 3) := by decide +kernel
theorem dX5_bitsOf_6 : decode cX5_bitsOf 6 = .ok (.iconst 0, 1) := by decide +kernel
theorem dX5_bitsOf_7 : decode cX5_bitsOf 7 = .ok (.ireturn, 1) := by decide +kernel
theorem dX5_bitsOf_8 : decode cX5_bitsOf 8 = .ok (.fload_n 0, 1) := by decide +kernel
theorem dX5_bitsOf_9 : decode cX5_bitsOf 9 = .ok (.fconst 0, 1) := by decide +kernel
theorem dX5_bitsOf_10 : decode cX5_bitsOf 10 = .ok (.fcmp .g, 1) := by decide +kernel
theorem dX5_bitsOf_11 : decode cX5_bitsOf 11 = .ok (.ifCond .ge 9, 3) := by decide +kernel
theorem dX5_bitsOf_14 : decode cX5_bitsOf 14 = .ok (.ldc_w 274, 3) := by decide +kernel
theorem dX5_bitsOf_17 : decode cX5_bitsOf 17 = .ok (.goto 4, 3) := by decide +kernel
theorem dX5_bitsOf_20 : decode cX5_bitsOf 20 = .ok (.iconst 0, 1) := by decide +kernel
theorem dX5_bitsOf_21 : decode cX5_bitsOf 21 = .ok (.istore_n 1, 1) := by decide +kernel
theorem dX5_bitsOf_22 : decode cX5_bitsOf 22 = .ok (.fload_n 0, 1) := by decide +kernel
theorem dX5_bitsOf_23 : decode cX5_bitsOf 23 = .ok (.fconst 0, 1) := by decide +kernel
theorem dX5_bitsOf_24 : decode cX5_bitsOf 24 = .ok (.fcmp .g, 1) := by decide +kernel
theorem dX5_bitsOf_25 : decode cX5_bitsOf 25 = .ok (.ifCond .ge 8, 3) := by decide +kernel
theorem dX5_bitsOf_28 : decode cX5_bitsOf 28 = .ok (.fload_n 0, 1) := by decide +kernel
theorem dX5_bitsOf_29 : decode cX5_bitsOf 29 = .ok (.fneg, 1) := by decide +kernel
theorem dX5_bitsOf_30 : decode cX5_bitsOf 30 = .ok (.goto 4, 3) := by decide +kernel
theorem dX5_bitsOf_33 : decode cX5_bitsOf 33 = .ok (.fload_n 0, 1) := by decide +kernel
theorem dX5_bitsOf_34 : decode cX5_bitsOf 34 = .ok (.fstore_n 2, 1) := by decide +kernel
theorem dX5_bitsOf_35 : decode cX5_bitsOf 35 = .ok (.sipush 150, 3) := by decide +kernel
theorem dX5_bitsOf_38 : decode cX5_bitsOf 38 = .ok (.istore_n 3, 1) := by decide +kernel
theorem dX5_bitsOf_39 : decode cX5_bitsOf 39 = .ok (.iconst 0, 1) := by decide +kernel
theorem dX5_bitsOf_40 : decode cX5_bitsOf 40 = .ok (.istore 4, 2) := by decide +kernel
theorem dX5_bitsOf_42 : decode cX5_bitsOf 42 = .ok (.iload 4, 2) := by decide +kernel
theorem dX5_bitsOf_44 : decode cX5_bitsOf 44 = .ok (.sipush 150, 3) := by decide +kernel
theorem dX5_bitsOf_47 : decode cX5_bitsOf 47 = .ok (.if_icmp .ge 24, 3) := by decide +kernel
theorem dX5_bitsOf_50 : decode cX5_bitsOf 50 = .ok (.fload_n 2, 1) := by decide +kernel
theorem dX5_bitsOf_51 : decode cX5_bitsOf 51 = .ok (.ldc_w 275, 3) := by decide +kernel
theorem dX5_bitsOf_54 : decode cX5_bitsOf 54 = .ok (.fcmp .g, 1) := by decide +kernel
theorem dX5_bitsOf_55 : decode cX5_bitsOf 55 = .ok (.ifCond .ge 16, 3) := by decide +kernel
theorem dX5_bitsOf_58 : decode cX5_bitsOf 58 = .ok (.fload_n 2, 1) := by decide +kernel
theorem dX5_bitsOf_59 : decode cX5_bitsOf 59 = .ok (.fconst 2, 1) := by decide +kernel
theorem dX5_bitsOf_60 : decode cX5_bitsOf 60 = .ok (.fmul, 1) := by decide +kernel
theorem dX5_bitsOf_61 : decode cX5_bitsOf 61 = .ok (.fstore_n 2, 1) := by decide +kernel
theorem dX5_bitsOf_62 : decode cX5_bitsOf 62 = .ok (.iinc 3 (-1), 3) := by decide +kernel
theorem dX5_bitsOf_65 : decode cX5_bitsOf 65 = .ok (.iinc 4 1, 3) := by decide +kernel
theorem dX5_bitsOf_68 : decode cX5_bitsOf 68 = .ok (.goto (-26), 3) := by decide +kernel
theorem dX5_bitsOf_71 : decode cX5_bitsOf 71 = .ok (.iload_n 1, 1) := by decide +kernel
theorem dX5_bitsOf_72 : decode cX5_bitsOf 72 = .ok (.iload_n 3, 1) := by decide +kernel
theorem dX5_bitsOf_73 : decode cX5_bitsOf 73 = .ok (.bipush 23, 2) := by decide +kernel
theorem dX5_bitsOf_75 : decode cX5_bitsOf 75 = .ok (.ishl, 1) := by decide +kernel
theorem dX5_bitsOf_76 : decode cX5_bitsOf 76 = .ok (.ior, 1) := by decide +kernel
theorem dX5_bitsOf_77 : decode cX5_bitsOf 77 = .ok (.fload_n 2, 1) := by decide +kernel
theorem dX5_bitsOf_78 : decode cX5_bitsOf 78 = .ok (.f2i, 1) := by decide +kernel
theorem dX5_bitsOf_79 : decode cX5_bitsOf 79 = .ok (.ldc_w 276, 3) := by decide +kernel
theorem dX5_bitsOf_82 : decode cX5_bitsOf 82 = .ok (.isub, 1) := by decide +kernel
theorem dX5_bitsOf_83 : decode cX5_bitsOf 83 = .ok (.ior, 1) := by decide +kernel
theorem dX5_bitsOf_84 : decode cX5_bitsOf 84 = .ok (.ireturn, 1) := by decide +kernel
theorem dX6_init_0 : decode cX6_init 0 = .ok (.aload_n 0, 1) := by decide +kernel
theorem dX6_init_1 : decode cX6_init 1 = .ok (.invokespecial 1, 3) := by decide +kernel
theorem dX6_init_4 : decode cX6_init 4 = .ok (.aload_n 0, 1) := by decide +kernel
theorem dX6_init_5 : decode cX6_init 5 = .ok (.sipush 425, 3) := by decide +kernel
theorem dX6_init_8 : decode cX6_init 8 = .ok (.newarray .int, 2) := by decide +kernel
theorem dX6_init_10 : decode cX6_init 10 = .ok (.putfield 7, 3) := by decide +kernel
theorem dX6_init_13 : decode cX6_init 13 = .ok (.aload_n 0, 1) := by decide +kernel
theorem dX6_init_14 : decode cX6_init 14 = .ok (.sipush 425, 3) := by decide +kernel
theorem dX6_init_17 : decode cX6_init 17 = .ok (.newarray .int, 2) := by decide +kernel
theorem dX6_init_19 : decode cX6_init 19 = .ok (.putfield 13, 3) := by decide +kernel
theorem dX6_init_22 : decode cX6_init 22 = .ok (.aload_n 0, 1) := by decide +kernel
theorem dX6_init_23 : decode cX6_init 23 = .ok (.sipush 1700, 3) := by decide +kernel
theorem dX6_init_26 : decode cX6_init 26 = .ok (.newarray .int, 2) := by decide +kernel
theorem dX6_init_28 : decode cX6_init 28 = .ok (.putfield 16, 3) := by decide +kernel
theorem dX6_init_31 : decode cX6_init 31 = .ok (.aload_n 0, 1) := by decide +kernel
theorem dX6_init_32 : decode cX6_init 32 = .ok (.bipush 60, 2) := by decide +kernel
theorem dX6_init_34 : decode cX6_init 34 = .ok (.newarray .int, 2) := by decide +kernel
theorem dX6_init_36 : decode cX6_init 36 = .ok (.putfield 19, 3) := by decide +kernel
theorem dX6_init_39 : decode cX6_init 39 = .ok (.aload_n 0, 1) := by decide +kernel
theorem dX6_init_40 : decode cX6_init 40 = .ok (.sipush 1024, 3) := by decide +kernel
theorem dX6_init_43 : decode cX6_init 43 = .ok (.newarray .int, 2) := by decide +kernel
theorem dX6_init_45 : decode cX6_init 45 = .ok (.putfield 22, 3) := by decide +kernel
theorem dX6_init_48 : decode cX6_init 48 = .ok (.aload_n 0, 1) := by decide +kernel
theorem dX6_init_49 : decode cX6_init 49 = .ok (.sipush 1024, 3) := by decide +kernel
theorem dX6_init_52 : decode cX6_init 52 = .ok (.newarray .int, 2) := by decide +kernel
theorem dX6_init_54 : decode cX6_init 54 = .ok (.putfield 25, 3) := by decide +kernel
theorem dX6_init_57 : decode cX6_init 57 = .ok (.aload_n 0, 1) := by decide +kernel
theorem dX6_init_58 : decode cX6_init 58 = .ok (.sipush 1024, 3) := by decide +kernel
theorem dX6_init_61 : decode cX6_init 61 = .ok (.newarray .int, 2) := by decide +kernel
theorem dX6_init_63 : decode cX6_init 63 = .ok (.putfield 28, 3) := by decide +kernel
theorem dX6_init_66 : decode cX6_init 66 = .ok (.aload_n 0, 1) := by decide +kernel
theorem dX6_init_67 : decode cX6_init 67 = .ok (.sipush 1024, 3) := by decide +kernel
theorem dX6_init_70 : decode cX6_init 70 = .ok (.newarray .int, 2) := by decide +kernel
theorem dX6_init_72 : decode cX6_init 72 = .ok (.putfield 31, 3) := by decide +kernel
theorem dX6_init_75 : decode cX6_init 75 = .ok (.aload_n 0, 1) := by decide +kernel
theorem dX6_init_76 : decode cX6_init 76 = .ok (.sipush 1024, 3) := by decide +kernel
theorem dX6_init_79 : decode cX6_init 79 = .ok (.newarray .int, 2) := by decide +kernel
theorem dX6_init_81 : decode cX6_init 81 = .ok (.putfield 34, 3) := by decide +kernel
theorem dX6_init_84 : decode cX6_init 84 = .ok (.aload_n 0, 1) := by decide +kernel
theorem dX6_init_85 : decode cX6_init 85 = .ok (.sipush 1024, 3) := by decide +kernel
theorem dX6_init_88 : decode cX6_init 88 = .ok (.newarray .int, 2) := by decide +kernel
theorem dX6_init_90 : decode cX6_init 90 = .ok (.putfield 37, 3) := by decide +kernel
theorem dX6_init_93 : decode cX6_init 93 = .ok (.aload_n 0, 1) := by decide +kernel
theorem dX6_init_94 : decode cX6_init 94 = .ok (.sipush 1024, 3) := by decide +kernel
theorem dX6_init_97 : decode cX6_init 97 = .ok (.newarray .int, 2) := by decide +kernel
theorem dX6_init_99 : decode cX6_init 99 = .ok (.putfield 40, 3) := by decide +kernel
theorem dX6_init_102 : decode cX6_init 102 = .ok (.aload_n 0, 1) := by decide +kernel
theorem dX6_init_103 : decode cX6_init 103 = .ok (.bipush 120, 2) := by decide +kernel
theorem dX6_init_105 : decode cX6_init 105 = .ok (.newarray .int, 2) := by decide +kernel
theorem dX6_init_107 : decode cX6_init 107 = .ok (.putfield 43, 3) := by decide +kernel
theorem dX6_init_110 : decode cX6_init 110 = .ok (.aload_n 0, 1) := by decide +kernel
theorem dX6_init_111 : decode cX6_init 111 = .ok (.getfield 7, 3) := by decide +kernel
theorem dX6_init_114 : decode cX6_init 114 = .ok (.sipush 417, 3) := by decide +kernel
theorem dX6_init_117 : decode cX6_init 117 = .ok (.bipush (-5), 2) := by decide +kernel
theorem dX6_init_119 : decode cX6_init 119 = .ok (.iastore, 1) := by decide +kernel
theorem dX6_init_120 : decode cX6_init 120 = .ok (.aload_n 0, 1) := by decide +kernel
theorem dX6_init_121 : decode cX6_init 121 = .ok (.getfield 7, 3) := by decide +kernel
theorem dX6_init_124 : decode cX6_init 124 = .ok (.sipush 420, 3) := by decide +kernel
theorem dX6_init_127 : decode cX6_init 127 = .ok (.bipush (-5), 2) := by decide +kernel
theorem dX6_init_129 : decode cX6_init 129 = .ok (.iastore, 1) := by decide +kernel
theorem dX6_init_130 : decode cX6_init 130 = .ok (.aload_n 0, 1) := by decide +kernel
theorem dX6_init_131 : decode cX6_init 131 = .ok (.getfield 7, 3) := by decide +kernel
theorem dX6_init_134 : decode cX6_init 134 = .ok (.sipush 423, 3) := by decide +kernel
theorem dX6_init_137 : decode cX6_init 137 = .ok (.bipush (-5), 2) := by decide +kernel
theorem dX6_init_139 : decode cX6_init 139 = .ok (.iastore, 1) := by decide +kernel
theorem dX6_init_140 : decode cX6_init 140 = .ok (.return_, 1) := by decide +kernel
theorem dX6_in_0 : decode cX6_in 0 = .ok (.iload_n 0, 1) := by decide +kernel
theorem dX6_in_1 : decode cX6_in 1 = .ok (.iload_n 1, 1) := by decide +kernel
theorem dX6_in_2 : decode cX6_in 2 = .ok (.if_icmp .lt 12, 3) := by decide +kernel
theorem dX6_in_5 : decode cX6_in 5 = .ok (.iload_n 0, 1) := by decide +kernel
theorem dX6_in_6 : decode cX6_in 6 = .ok (.iload_n 2, 1) := by decide +kernel
theorem dX6_in_7 : decode cX6_in 7 = .ok (.if_icmp .gt 7, 3) := by decide +kernel
theorem dX6_in_10 : decode cX6_in 10 = .ok (.iconst 1, 1) := by decide +kernel
theorem dX6_in_11 : decode cX6_in 11 = .ok (.goto 4, 3) := by decide +kernel
theorem dX6_in_14 : decode cX6_in 14 = .ok (.iconst 0, 1) := by decide +kernel
theorem dX6_in_15 : decode cX6_in 15 = .ok (.ireturn, 1) := by decide +kernel
theorem dX6_records_0 : decode cX6_records 0 = .ok (.aload_n 0, 1) := by decide +kernel
theorem dX6_records_1 : decode cX6_records 1 = .ok (.getfield 46, 3) := by decide +kernel
theorem dX6_records_4 : decode cX6_records 4 = .ok (.iconst 4, 1) := by decide +kernel
theorem dX6_records_5 : decode cX6_records 5 = .ok (.if_icmp .ne 44, 3) := by decide +kernel
theorem dX6_records_8 : decode cX6_records 8 = .ok (.iconst 0, 1) := by decide +kernel
theorem dX6_records_9 : decode cX6_records 9 = .ok (.istore_n 1, 1) := by decide +kernel
theorem dX6_records_10 : decode cX6_records 10 = .ok (.iload_n 1, 1) := by decide +kernel
theorem dX6_records_11 : decode cX6_records 11 = .ok (.sipush 1275, 3) := by decide +kernel
theorem dX6_records_14 : decode cX6_records 14 = .ok (.if_icmp .ge 25, 3) := by decide +kernel
theorem dX6_records_17 : decode cX6_records 17 = .ok (.aload_n 0, 1) := by decide +kernel
theorem dX6_records_18 : decode cX6_records 18 = .ok (.getfield 16, 3) := by decide +kernel
theorem dX6_records_21 : decode cX6_records 21 = .ok (.iload_n 1, 1) := by decide +kernel
theorem dX6_records_22 : decode cX6_records 22 = .ok (.aload_n 0, 1) := by decide +kernel
theorem dX6_records_23 : decode cX6_records 23 = .ok (.getfield 16, 3) := by decide +kernel
theorem dX6_records_26 : decode cX6_records 26 = .ok (.iload_n 1, 1) := by decide +kernel
theorem dX6_records_27 : decode cX6_records 27 = .ok (.sipush 425, 3) := by decide +kernel
theorem dX6_records_30 : decode cX6_records 30 = .ok (.iadd, 1) := by decide +kernel
theorem dX6_records_31 : decode cX6_records 31 = .ok (.iaload, 1) := by decide +kernel
theorem dX6_records_32 : decode cX6_records 32 = .ok (.iastore, 1) := by decide +kernel
theorem dX6_records_33 : decode cX6_records 33 = .ok (.iinc 1 1, 3) := by decide +kernel
theorem dX6_records_36 : decode cX6_records 36 = .ok (.goto (-26), 3) := by decide +kernel
theorem dX6_records_39 : decode cX6_records 39 = .ok (.aload_n 0, 1) := by decide +kernel
theorem dX6_records_40 : decode cX6_records 40 = .ok (.dup, 1) := by decide +kernel
theorem dX6_records_41 : decode cX6_records 41 = .ok (.getfield 46, 3) := by decide +kernel
theorem dX6_records_44 : decode cX6_records 44 = .ok (.iconst 1, 1) := by decide +kernel
theorem dX6_records_45 : decode cX6_records 45 = .ok (.isub, 1) := by decide +kernel
theorem dX6_records_46 : decode cX6_records 46 = .ok (.putfield 46, 3) := by decide +kernel
theorem dX6_records_49 : decode cX6_records 49 = .ok (.iconst 0, 1) := by decide +kernel
theorem dX6_records_50 : decode cX6_records 50 = .ok (.istore_n 1, 1) := by decide +kernel
theorem dX6_records_51 : decode cX6_records 51 = .ok (.iload_n 1, 1) := by decide +kernel
theorem dX6_records_52 : decode cX6_records 52 = .ok (.sipush 425, 3) := by decide +kernel
theorem dX6_records_55 : decode cX6_records 55 = .ok (.if_icmp .ge 30, 3) := by decide +kernel
theorem dX6_records_58 : decode cX6_records 58 = .ok (.aload_n 0, 1) := by decide +kernel
theorem dX6_records_59 : decode cX6_records 59 = .ok (.getfield 16, 3) := by decide +kernel
theorem dX6_records_62 : decode cX6_records 62 = .ok (.sipush 425, 3) := by decide +kernel
theorem dX6_records_65 : decode cX6_records 65 = .ok (.aload_n 0, 1) := by decide +kernel
theorem dX6_records_66 : decode cX6_records 66 = .ok (.getfield 46, 3) := by decide +kernel
theorem dX6_records_69 : decode cX6_records 69 = .ok (.imul, 1) := by decide +kernel
theorem dX6_records_70 : decode cX6_records 70 = .ok (.iload_n 1, 1) := by decide +kernel
theorem dX6_records_71 : decode cX6_records 71 = .ok (.iadd, 1) := by decide +kernel
theorem dX6_records_72 : decode cX6_records 72 = .ok (.aload_n 0, 1) := by decide +kernel
theorem dX6_records_73 : decode cX6_records 73 = .ok (.getfield 7, 3) := by decide +kernel
theorem dX6_records_76 : decode cX6_records 76 = .ok (.iload_n 1, 1) := by decide +kernel
theorem dX6_records_77 : decode cX6_records 77 = .ok (.iaload, 1) := by decide +kernel
theorem dX6_records_78 : decode cX6_records 78 = .ok (.iastore, 1) := by decide +kernel
theorem dX6_records_79 : decode cX6_records 79 = .ok (.iinc 1 1, 3) := by decide +kernel
theorem dX6_records_82 : decode cX6_records 82 = .ok (.goto (-31), 3) := by decide +kernel
theorem dX6_records_85 : decode cX6_records 85 = .ok (.aload_n 0, 1) := by decide +kernel
theorem dX6_records_86 : decode cX6_records 86 = .ok (.dup, 1) := by decide +kernel
theorem dX6_records_87 : decode cX6_records 87 = .ok (.getfield 46, 3) := by decide +kernel
theorem dX6_records_90 : decode cX6_records 90 = .ok (.iconst 1, 1) := by decide +kernel
theorem dX6_records_91 : decode cX6_records 91 = .ok (.iadd, 1) := by decide +kernel
theorem dX6_records_92 : decode cX6_records 92 = .ok (.putfield 46, 3) := by decide +kernel
theorem dX6_records_95 : decode cX6_records 95 = .ok (.return_, 1) := by decide +kernel
theorem dX6_isPage_0 : decode cX6_isPage 0 = .ok (.iload_n 1, 1) := by decide +kernel
theorem dX6_isPage_1 : decode cX6_isPage 1 = .ok (.iconst 0, 1) := by decide +kernel
theorem dX6_isPage_2 : decode cX6_isPage 2 = .ok (.aload_n 0, 1) := by decide +kernel
theorem dX6_isPage_3 : decode cX6_isPage 3 = .ok (.getfield 7, 3) := by decide +kernel
theorem dX6_isPage_6 : decode cX6_isPage 6 = .ok (.iconst 0, 1) := by decide +kernel
theorem dX6_isPage_7 : decode cX6_isPage 7 = .ok (.iaload, 1) := by decide +kernel
theorem dX6_isPage_8 : decode cX6_isPage 8 = .ok (.iconst 1, 1) := by decide +kernel
theorem dX6_isPage_9 : decode cX6_isPage 9 = .ok (.isub, 1) := by decide +kernel
theorem dX6_isPage_10 : decode cX6_isPage 10 = .ok (.invokestatic 50, 3) := by decide +kernel
theorem dX6_isPage_13 : decode cX6_isPage 13 = .ok (.ireturn, 1) := by decide +kernel
theorem dX6_isChoice_0 : decode cX6_isChoice 0 = .ok (.aload_n 0, 1) := by decide +kernel
theorem dX6_isChoice_1 : decode cX6_isChoice 1 = .ok (.iload_n 1, 1) := by decide +kernel
theorem dX6_isChoice_2 : decode cX6_isChoice 2 = .ok (.invokevirtual 54, 3) := by decide +kernel
theorem dX6_isChoice_5 : decode cX6_isChoice 5 = .ok (.ifCond .eq 30, 3) := by decide +kernel
theorem dX6_isChoice_8 : decode cX6_isChoice 8 = .ok (.iload_n 2, 1) := by decide +kernel
theorem dX6_isChoice_9 : decode cX6_isChoice 9 = .ok (.iconst 0, 1) := by decide +kernel
theorem dX6_isChoice_10 : decode cX6_isChoice 10 = .ok (.aload_n 0, 1) := by decide +kernel
theorem dX6_isChoice_11 : decode cX6_isChoice 11 = .ok (.getfield 7, 3) := by decide +kernel
theorem dX6_isChoice_14 : decode cX6_isChoice 14 = .ok (.iconst 1, 1) := by decide +kernel
theorem dX6_isChoice_15 : decode cX6_isChoice 15 = .ok (.bipush 13, 2) := by decide +kernel
theorem dX6_isChoice_17 : decode cX6_isChoice 17 = .ok (.iload_n 1, 1) := by decide +kernel
theorem dX6_isChoice_18 : decode cX6_isChoice 18 = .ok (.imul, 1) := by decide +kernel
theorem dX6_isChoice_19 : decode cX6_isChoice 19 = .ok (.iadd, 1) := by decide +kernel
theorem dX6_isChoice_20 : decode cX6_isChoice 20 = .ok (.iconst 3, 1) := by decide +kernel
theorem dX6_isChoice_21 : decode cX6_isChoice 21 = .ok (.iadd, 1) := by decide +kernel
theorem dX6_isChoice_22 : decode cX6_isChoice 22 = .ok (.iaload, 1) := by decide +kernel
theorem dX6_isChoice_23 : decode cX6_isChoice 23 = .ok (.iconst 1, 1) := by decide +kernel
theorem dX6_isChoice_24 : decode cX6_isChoice 24 = .ok (.isub, 1) := by decide +kernel
theorem dX6_isChoice_25 : decode cX6_isChoice 25 = .ok (.invokestatic 50, 3) := by decide +kernel
theorem dX6_isChoice_28 : decode cX6_isChoice 28 = .ok (.ifCond .eq 7, 3) := by decide +kernel
theorem dX6_isChoice_31 : decode cX6_isChoice 31 = .ok (.iconst 1, 1) := by decide +kernel
theorem dX6_isChoice_32 : decode cX6_isChoice 32 = .ok (.goto 4, 3) := by decide +kernel
theorem dX6_isChoice_35 : decode cX6_isChoice 35 = .ok (.iconst 0, 1) := by decide +kernel
theorem dX6_isChoice_36 : decode cX6_isChoice 36 = .ok (.ireturn, 1) := by decide +kernel
theorem dX6_of_0 : decode cX6_of 0 = .ok (.aload_n 0, 1) := by decide +kernel
theorem dX6_of_1 : decode cX6_of 1 = .ok (.getfield 7, 3) := by decide +kernel
theorem dX6_of_4 : decode cX6_of 4 = .ok (.iconst 1, 1) := by decide +kernel
theorem dX6_of_5 : decode cX6_of 5 = .ok (.bipush 13, 2) := by decide +kernel
theorem dX6_of_7 : decode cX6_of 7 = .ok (.iload_n 1, 1) := by decide +kernel
theorem dX6_of_8 : decode cX6_of 8 = .ok (.imul, 1) := by decide +kernel
theorem dX6_of_9 : decode cX6_of 9 = .ok (.iadd, 1) := by decide +kernel
theorem dX6_of_10 : decode cX6_of 10 = .ok (.iload_n 2, 1) := by decide +kernel
theorem dX6_of_11 : decode cX6_of 11 = .ok (.iadd, 1) := by decide +kernel
theorem dX6_of_12 : decode cX6_of 12 = .ok (.iaload, 1) := by decide +kernel
theorem dX6_of_13 : decode cX6_of 13 = .ok (.ireturn, 1) := by decide +kernel
theorem dX6_ofChoice_0 : decode cX6_ofChoice 0 = .ok (.aload_n 0, 1) := by decide +kernel
theorem dX6_ofChoice_1 : decode cX6_ofChoice 1 = .ok (.getfield 7, 3) := by decide +kernel
theorem dX6_ofChoice_4 : decode cX6_ofChoice 4 = .ok (.iconst 1, 1) := by decide +kernel
theorem dX6_ofChoice_5 : decode cX6_ofChoice 5 = .ok (.bipush 13, 2) := by decide +kernel
theorem dX6_ofChoice_7 : decode cX6_ofChoice 7 = .ok (.iload_n 1, 1) := by decide +kernel
theorem dX6_ofChoice_8 : decode cX6_ofChoice 8 = .ok (.imul, 1) := by decide +kernel
theorem dX6_ofChoice_9 : decode cX6_ofChoice 9 = .ok (.iadd, 1) := by decide +kernel
theorem dX6_ofChoice_10 : decode cX6_ofChoice 10 = .ok (.iconst 4, 1) := by decide +kernel
theorem dX6_ofChoice_11 : decode cX6_ofChoice 11 = .ok (.iadd, 1) := by decide +kernel
theorem dX6_ofChoice_12 : decode cX6_ofChoice 12 = .ok (.iconst 3, 1) := by decide +kernel
theorem dX6_ofChoice_13 : decode cX6_ofChoice 13 = .ok (.iload_n 2, 1) := by decide +kernel
theorem dX6_ofChoice_14 : decode cX6_ofChoice 14 = .ok (.imul, 1) := by decide +kernel
theorem dX6_ofChoice_15 : decode cX6_ofChoice 15 = .ok (.iadd, 1) := by decide +kernel
theorem dX6_ofChoice_16 : decode cX6_ofChoice 16 = .ok (.iload_n 3, 1) := by decide +kernel
theorem dX6_ofChoice_17 : decode cX6_ofChoice 17 = .ok (.iadd, 1) := by decide +kernel
theorem dX6_ofChoice_18 : decode cX6_ofChoice 18 = .ok (.iaload, 1) := by decide +kernel
theorem dX6_ofChoice_19 : decode cX6_ofChoice 19 = .ok (.ireturn, 1) := by decide +kernel
theorem dX6_canTake_0 : decode cX6_canTake 0 = .ok (.aload_n 0, 1) := by decide +kernel
theorem dX6_canTake_1 : decode cX6_canTake 1 = .ok (.iload_n 1, 1) := by decide +kernel
theorem dX6_canTake_2 : decode cX6_canTake 2 = .ok (.iload_n 2, 1) := by decide +kernel
theorem dX6_canTake_3 : decode cX6_canTake 3 = .ok (.iconst 1, 1) := by decide +kernel
theorem dX6_canTake_4 : decode cX6_canTake 4 = .ok (.invokevirtual 58, 3) := by decide +kernel
theorem dX6_canTake_7 : decode cX6_canTake 7 = .ok (.iload_n 3, 1) := by decide +kernel
theorem dX6_canTake_8 : decode cX6_canTake 8 = .ok (.iconst (-1), 1) := by decide +kernel
theorem dX6_canTake_9 : decode cX6_canTake 9 = .ok (.ixor, 1) := by decide +kernel
theorem dX6_canTake_10 : decode cX6_canTake 10 = .ok (.iand, 1) := by decide +kernel
theorem dX6_canTake_11 : decode cX6_canTake 11 = .ok (.ifCond .ne 19, 3) := by decide +kernel
theorem dX6_canTake_14 : decode cX6_canTake 14 = .ok (.aload_n 0, 1) := by decide +kernel
theorem dX6_canTake_15 : decode cX6_canTake 15 = .ok (.iload_n 1, 1) := by decide +kernel
theorem dX6_canTake_16 : decode cX6_canTake 16 = .ok (.iload_n 2, 1) := by decide +kernel
theorem dX6_canTake_17 : decode cX6_canTake 17 = .ok (.iconst 2, 1) := by decide +kernel
theorem dX6_canTake_18 : decode cX6_canTake 18 = .ok (.invokevirtual 58, 3) := by decide +kernel
theorem dX6_canTake_21 : decode cX6_canTake 21 = .ok (.iload_n 3, 1) := by decide +kernel
theorem dX6_canTake_22 : decode cX6_canTake 22 = .ok (.iand, 1) := by decide +kernel
theorem dX6_canTake_23 : decode cX6_canTake 23 = .ok (.ifCond .ne 7, 3) := by decide +kernel
theorem dX6_canTake_26 : decode cX6_canTake 26 = .ok (.iconst 1, 1) := by decide +kernel
theorem dX6_canTake_27 : decode cX6_canTake 27 = .ok (.goto 4, 3) := by decide +kernel
theorem dX6_canTake_30 : decode cX6_canTake 30 = .ok (.iconst 0, 1) := by decide +kernel
theorem dX6_canTake_31 : decode cX6_canTake 31 = .ok (.ireturn, 1) := by decide +kernel
theorem dX6_coming_0 : decode cX6_coming 0 = .ok (.iload_n 2, 1) := by decide +kernel
theorem dX6_coming_1 : decode cX6_coming 1 = .ok (.aload_n 0, 1) := by decide +kernel
theorem dX6_coming_2 : decode cX6_coming 2 = .ok (.iload_n 1, 1) := by decide +kernel
theorem dX6_coming_3 : decode cX6_coming 3 = .ok (.iconst 2, 1) := by decide +kernel
theorem dX6_coming_4 : decode cX6_coming 4 = .ok (.invokevirtual 62, 3) := by decide +kernel
theorem dX6_coming_7 : decode cX6_coming 7 = .ok (.iconst (-1), 1) := by decide +kernel
theorem dX6_coming_8 : decode cX6_coming 8 = .ok (.ixor, 1) := by decide +kernel
theorem dX6_coming_9 : decode cX6_coming 9 = .ok (.iand, 1) := by decide +kernel
theorem dX6_coming_10 : decode cX6_coming 10 = .ok (.aload_n 0, 1) := by decide +kernel
theorem dX6_coming_11 : decode cX6_coming 11 = .ok (.iload_n 1, 1) := by decide +kernel
theorem dX6_coming_12 : decode cX6_coming 12 = .ok (.iconst 1, 1) := by decide +kernel
theorem dX6_coming_13 : decode cX6_coming 13 = .ok (.invokevirtual 62, 3) := by decide +kernel
theorem dX6_coming_16 : decode cX6_coming 16 = .ok (.ior, 1) := by decide +kernel
theorem dX6_coming_17 : decode cX6_coming 17 = .ok (.ireturn, 1) := by decide +kernel
theorem dX6_isEnd_0 : decode cX6_isEnd 0 = .ok (.aload_n 0, 1) := by decide +kernel
theorem dX6_isEnd_1 : decode cX6_isEnd 1 = .ok (.iload_n 1, 1) := by decide +kernel
theorem dX6_isEnd_2 : decode cX6_isEnd 2 = .ok (.iconst 3, 1) := by decide +kernel
theorem dX6_isEnd_3 : decode cX6_isEnd 3 = .ok (.invokevirtual 62, 3) := by decide +kernel
theorem dX6_isEnd_6 : decode cX6_isEnd 6 = .ok (.ifCond .ne 7, 3) := by decide +kernel
theorem dX6_isEnd_9 : decode cX6_isEnd 9 = .ok (.iconst 1, 1) := by decide +kernel
theorem dX6_isEnd_10 : decode cX6_isEnd 10 = .ok (.goto 4, 3) := by decide +kernel
theorem dX6_isEnd_13 : decode cX6_isEnd 13 = .ok (.iconst 0, 1) := by decide +kernel
theorem dX6_isEnd_14 : decode cX6_isEnd 14 = .ok (.ireturn, 1) := by decide +kernel
theorem dX6_isHappy_0 : decode cX6_isHappy 0 = .ok (.aload_n 0, 1) := by decide +kernel
theorem dX6_isHappy_1 : decode cX6_isHappy 1 = .ok (.iload_n 1, 1) := by decide +kernel
theorem dX6_isHappy_2 : decode cX6_isHappy 2 = .ok (.invokevirtual 66, 3) := by decide +kernel
theorem dX6_isHappy_5 : decode cX6_isHappy 5 = .ok (.ifCond .eq 16, 3) := by decide +kernel
theorem dX6_isHappy_8 : decode cX6_isHappy 8 = .ok (.aload_n 0, 1) := by decide +kernel
theorem dX6_isHappy_9 : decode cX6_isHappy 9 = .ok (.iload_n 1, 1) := by decide +kernel
theorem dX6_isHappy_10 : decode cX6_isHappy 10 = .ok (.iconst 0, 1) := by decide +kernel
theorem dX6_isHappy_11 : decode cX6_isHappy 11 = .ok (.invokevirtual 62, 3) := by decide +kernel
theorem dX6_isHappy_14 : decode cX6_isHappy 14 = .ok (.ifCond .le 7, 3) := by decide +kernel
theorem dX6_isHappy_17 : decode cX6_isHappy 17 = .ok (.iconst 1, 1) := by decide +kernel
theorem dX6_isHappy_18 : decode cX6_isHappy 18 = .ok (.goto 4, 3) := by decide +kernel
theorem dX6_isHappy_21 : decode cX6_isHappy 21 = .ok (.iconst 0, 1) := by decide +kernel
theorem dX6_isHappy_22 : decode cX6_isHappy 22 = .ok (.ireturn, 1) := by decide +kernel
theorem dX6_mood_0 : decode cX6_mood 0 = .ok (.aload_n 0, 1) := by decide +kernel
theorem dX6_mood_1 : decode cX6_mood 1 = .ok (.iload_n 1, 1) := by decide +kernel
theorem dX6_mood_2 : decode cX6_mood 2 = .ok (.iconst 0, 1) := by decide +kernel
theorem dX6_mood_3 : decode cX6_mood 3 = .ok (.invokevirtual 62, 3) := by decide +kernel
theorem dX6_mood_6 : decode cX6_mood 6 = .ok (.i2f, 1) := by decide +kernel
theorem dX6_mood_7 : decode cX6_mood 7 = .ok (.ldc 69, 2) := by decide +kernel
theorem dX6_mood_9 : decode cX6_mood 9 = .ok (.fdiv, 1) := by decide +kernel
theorem dX6_mood_10 : decode cX6_mood 10 = .ok (.freturn, 1) := by decide +kernel
theorem dX6_behind_0 : decode cX6_behind 0 = .ok (.iload_n 1, 1) := by decide +kernel
theorem dX6_behind_1 : decode cX6_behind 1 = .ok (.bipush 32, 2) := by decide +kernel
theorem dX6_behind_3 : decode cX6_behind 3 = .ok (.idiv, 1) := by decide +kernel
theorem dX6_behind_4 : decode cX6_behind 4 = .ok (.istore_n 3, 1) := by decide +kernel
theorem dX6_behind_5 : decode cX6_behind 5 = .ok (.iload_n 1, 1) := by decide +kernel
theorem dX6_behind_6 : decode cX6_behind 6 = .ok (.bipush 32, 2) := by decide +kernel
theorem dX6_behind_8 : decode cX6_behind 8 = .ok (.irem, 1) := by decide +kernel
theorem dX6_behind_9 : decode cX6_behind 9 = .ok (.istore 4, 2) := by decide +kernel
theorem dX6_behind_11 : decode cX6_behind 11 = .ok (.iload_n 2, 1) := by decide +kernel
theorem dX6_behind_12 : decode cX6_behind 12 = .ok (.aload_n 0, 1) := by decide +kernel
theorem dX6_behind_13 : decode cX6_behind 13 = .ok (.iload_n 3, 1) := by decide +kernel
theorem dX6_behind_14 : decode cX6_behind 14 = .ok (.iconst 3, 1) := by decide +kernel
theorem dX6_behind_15 : decode cX6_behind 15 = .ok (.invokevirtual 62, 3) := by decide +kernel
theorem dX6_behind_18 : decode cX6_behind 18 = .ok (.if_icmp .ge 14, 3) := by decide +kernel
theorem dX6_behind_21 : decode cX6_behind 21 = .ok (.aload_n 0, 1) := by decide +kernel
theorem dX6_behind_22 : decode cX6_behind 22 = .ok (.iload_n 3, 1) := by decide +kernel
theorem dX6_behind_23 : decode cX6_behind 23 = .ok (.iload_n 2, 1) := by decide +kernel
theorem dX6_behind_24 : decode cX6_behind 24 = .ok (.iload 4, 2) := by decide +kernel
theorem dX6_behind_26 : decode cX6_behind 26 = .ok (.invokevirtual 70, 3) := by decide +kernel
theorem dX6_behind_29 : decode cX6_behind 29 = .ok (.ifCond .ne 6, 3) := by decide +kernel
theorem dX6_behind_32 : decode cX6_behind 32 = .ok (.bipush (-5), 2) := by decide +kernel
theorem dX6_behind_34 : decode cX6_behind 34 = .ok (.ireturn, 1) := by decide +kernel
theorem dX6_behind_35 : decode cX6_behind 35 = .ok (.aload_n 0, 1) := by decide +kernel
theorem dX6_behind_36 : decode cX6_behind 36 = .ok (.iload_n 3, 1) := by decide +kernel
theorem dX6_behind_37 : decode cX6_behind 37 = .ok (.iload_n 2, 1) := by decide +kernel
theorem dX6_behind_38 : decode cX6_behind 38 = .ok (.iconst 0, 1) := by decide +kernel
theorem dX6_behind_39 : decode cX6_behind 39 = .ok (.invokevirtual 58, 3) := by decide +kernel
theorem dX6_behind_42 : decode cX6_behind 42 = .ok (.istore 5, 2) := by decide +kernel
theorem dX6_behind_44 : decode cX6_behind 44 = .ok (.bipush 32, 2) := by decide +kernel
theorem dX6_behind_46 : decode cX6_behind 46 = .ok (.iload 5, 2) := by decide +kernel
theorem dX6_behind_48 : decode cX6_behind 48 = .ok (.imul, 1) := by decide +kernel
theorem dX6_behind_49 : decode cX6_behind 49 = .ok (.aload_n 0, 1) := by decide +kernel
theorem dX6_behind_50 : decode cX6_behind 50 = .ok (.iload 5, 2) := by decide +kernel
theorem dX6_behind_52 : decode cX6_behind 52 = .ok (.iload 4, 2) := by decide +kernel
theorem dX6_behind_54 : decode cX6_behind 54 = .ok (.invokevirtual 73, 3) := by decide +kernel
theorem dX6_behind_57 : decode cX6_behind 57 = .ok (.iadd, 1) := by decide +kernel
theorem dX6_behind_58 : decode cX6_behind 58 = .ok (.ireturn, 1) := by decide +kernel
theorem dX6_forgets_0 : decode cX6_forgets 0 = .ok (.iconst 0, 1) := by decide +kernel
theorem dX6_forgets_1 : decode cX6_forgets 1 = .ok (.istore_n 1, 1) := by decide +kernel
theorem dX6_forgets_2 : decode cX6_forgets 2 = .ok (.iload_n 1, 1) := by decide +kernel
theorem dX6_forgets_3 : decode cX6_forgets 3 = .ok (.sipush 1024, 3) := by decide +kernel
theorem dX6_forgets_6 : decode cX6_forgets 6 = .ok (.if_icmp .ge 18, 3) := by decide +kernel
theorem dX6_forgets_9 : decode cX6_forgets 9 = .ok (.aload_n 0, 1) := by decide +kernel
theorem dX6_forgets_10 : decode cX6_forgets 10 = .ok (.getfield 22, 3) := by decide +kernel
theorem dX6_forgets_13 : decode cX6_forgets 13 = .ok (.iload_n 1, 1) := by decide +kernel
theorem dX6_forgets_14 : decode cX6_forgets 14 = .ok (.sipush 9999, 3) := by decide +kernel
theorem dX6_forgets_17 : decode cX6_forgets 17 = .ok (.iastore, 1) := by decide +kernel
theorem dX6_forgets_18 : decode cX6_forgets 18 = .ok (.iinc 1 1, 3) := by decide +kernel
theorem dX6_forgets_21 : decode cX6_forgets 21 = .ok (.goto (-19), 3) := by decide +kernel
theorem dX6_forgets_24 : decode cX6_forgets 24 = .ok (.aload_n 0, 1) := by decide +kernel
theorem dX6_forgets_25 : decode cX6_forgets 25 = .ok (.iconst 0, 1) := by decide +kernel
theorem dX6_forgets_26 : decode cX6_forgets 26 = .ok (.putfield 76, 3) := by decide +kernel
theorem dX6_forgets_29 : decode cX6_forgets 29 = .ok (.return_, 1) := by decide +kernel
theorem dX6_comesTo_0 : decode cX6_comesTo 0 = .ok (.aload_n 0, 1) := by decide +kernel
theorem dX6_comesTo_1 : decode cX6_comesTo 1 = .ok (.getfield 22, 3) := by decide +kernel
theorem dX6_comesTo_4 : decode cX6_comesTo 4 = .ok (.iload_n 1, 1) := by decide +kernel
theorem dX6_comesTo_5 : decode cX6_comesTo 5 = .ok (.iaload, 1) := by decide +kernel
theorem dX6_comesTo_6 : decode cX6_comesTo 6 = .ok (.sipush 9999, 3) := by decide +kernel
theorem dX6_comesTo_9 : decode cX6_comesTo 9 = .ok (.if_icmp .ne 45, 3) := by decide +kernel
theorem dX6_comesTo_12 : decode cX6_comesTo 12 = .ok (.aload_n 0, 1) := by decide +kernel
theorem dX6_comesTo_13 : decode cX6_comesTo 13 = .ok (.getfield 22, 3) := by decide +kernel
theorem dX6_comesTo_16 : decode cX6_comesTo 16 = .ok (.iload_n 1, 1) := by decide +kernel
theorem dX6_comesTo_17 : decode cX6_comesTo 17 = .ok (.iload_n 2, 1) := by decide +kernel
theorem dX6_comesTo_18 : decode cX6_comesTo 18 = .ok (.iastore, 1) := by decide +kernel
theorem dX6_comesTo_19 : decode cX6_comesTo 19 = .ok (.aload_n 0, 1) := by decide +kernel
theorem dX6_comesTo_20 : decode cX6_comesTo 20 = .ok (.getfield 25, 3) := by decide +kernel
theorem dX6_comesTo_23 : decode cX6_comesTo 23 = .ok (.iload_n 1, 1) := by decide +kernel
theorem dX6_comesTo_24 : decode cX6_comesTo 24 = .ok (.iload_n 3, 1) := by decide +kernel
theorem dX6_comesTo_25 : decode cX6_comesTo 25 = .ok (.iastore, 1) := by decide +kernel
theorem dX6_comesTo_26 : decode cX6_comesTo 26 = .ok (.aload_n 0, 1) := by decide +kernel
theorem dX6_comesTo_27 : decode cX6_comesTo 27 = .ok (.getfield 28, 3) := by decide +kernel
theorem dX6_comesTo_30 : decode cX6_comesTo 30 = .ok (.iload_n 1, 1) := by decide +kernel
theorem dX6_comesTo_31 : decode cX6_comesTo 31 = .ok (.iload 4, 2) := by decide +kernel
theorem dX6_comesTo_33 : decode cX6_comesTo 33 = .ok (.iastore, 1) := by decide +kernel
theorem dX6_comesTo_34 : decode cX6_comesTo 34 = .ok (.aload_n 0, 1) := by decide +kernel
theorem dX6_comesTo_35 : decode cX6_comesTo 35 = .ok (.getfield 31, 3) := by decide +kernel
theorem dX6_comesTo_38 : decode cX6_comesTo 38 = .ok (.aload_n 0, 1) := by decide +kernel
theorem dX6_comesTo_39 : decode cX6_comesTo 39 = .ok (.getfield 76, 3) := by decide +kernel
theorem dX6_comesTo_42 : decode cX6_comesTo 42 = .ok (.iload_n 1, 1) := by decide +kernel
theorem dX6_comesTo_43 : decode cX6_comesTo 43 = .ok (.iastore, 1) := by decide +kernel
theorem dX6_comesTo_44 : decode cX6_comesTo 44 = .ok (.aload_n 0, 1) := by decide +kernel
theorem dX6_comesTo_45 : decode cX6_comesTo 45 = .ok (.dup, 1) := by decide +kernel
theorem dX6_comesTo_46 : decode cX6_comesTo 46 = .ok (.getfield 76, 3) := by decide +kernel
theorem dX6_comesTo_49 : decode cX6_comesTo 49 = .ok (.iconst 1, 1) := by decide +kernel
theorem dX6_comesTo_50 : decode cX6_comesTo 50 = .ok (.iadd, 1) := by decide +kernel
theorem dX6_comesTo_51 : decode cX6_comesTo 51 = .ok (.putfield 76, 3) := by decide +kernel
theorem dX6_comesTo_54 : decode cX6_comesTo 54 = .ok (.return_, 1) := by decide +kernel
theorem dX6_spreads_0 : decode cX6_spreads 0 = .ok (.iconst 0, 1) := by decide +kernel
theorem dX6_spreads_1 : decode cX6_spreads 1 = .ok (.istore_n 1, 1) := by decide +kernel
theorem dX6_spreads_2 : decode cX6_spreads 2 = .ok (.iload_n 1, 1) := by decide +kernel
theorem dX6_spreads_3 : decode cX6_spreads 3 = .ok (.aload_n 0, 1) := by decide +kernel
theorem dX6_spreads_4 : decode cX6_spreads 4 = .ok (.getfield 76, 3) := by decide +kernel
theorem dX6_spreads_7 : decode cX6_spreads 7 = .ok (.if_icmp .ge 60, 3) := by decide +kernel
theorem dX6_spreads_10 : decode cX6_spreads 10 = .ok (.aload_n 0, 1) := by decide +kernel
theorem dX6_spreads_11 : decode cX6_spreads 11 = .ok (.getfield 31, 3) := by decide +kernel
theorem dX6_spreads_14 : decode cX6_spreads 14 = .ok (.iload_n 1, 1) := by decide +kernel
theorem dX6_spreads_15 : decode cX6_spreads 15 = .ok (.iaload, 1) := by decide +kernel
theorem dX6_spreads_16 : decode cX6_spreads 16 = .ok (.istore_n 2, 1) := by decide +kernel
theorem dX6_spreads_17 : decode cX6_spreads 17 = .ok (.iconst 0, 1) := by decide +kernel
theorem dX6_spreads_18 : decode cX6_spreads 18 = .ok (.istore_n 3, 1) := by decide +kernel
theorem dX6_spreads_19 : decode cX6_spreads 19 = .ok (.iload_n 3, 1) := by decide +kernel
theorem dX6_spreads_20 : decode cX6_spreads 20 = .ok (.iconst 3, 1) := by decide +kernel
theorem dX6_spreads_21 : decode cX6_spreads 21 = .ok (.if_icmp .ge 40, 3) := by decide +kernel
theorem dX6_spreads_24 : decode cX6_spreads 24 = .ok (.aload_n 0, 1) := by decide +kernel
theorem dX6_spreads_25 : decode cX6_spreads 25 = .ok (.iload_n 2, 1) := by decide +kernel
theorem dX6_spreads_26 : decode cX6_spreads 26 = .ok (.iload_n 3, 1) := by decide +kernel
theorem dX6_spreads_27 : decode cX6_spreads 27 = .ok (.invokevirtual 79, 3) := by decide +kernel
theorem dX6_spreads_30 : decode cX6_spreads 30 = .ok (.istore 4, 2) := by decide +kernel
theorem dX6_spreads_32 : decode cX6_spreads 32 = .ok (.iload 4, 2) := by decide +kernel
theorem dX6_spreads_34 : decode cX6_spreads 34 = .ok (.bipush (-5), 2) := by decide +kernel
theorem dX6_spreads_36 : decode cX6_spreads 36 = .ok (.if_icmp .eq 19, 3) := by decide +kernel
theorem dX6_spreads_39 : decode cX6_spreads 39 = .ok (.aload_n 0, 1) := by decide +kernel
theorem dX6_spreads_40 : decode cX6_spreads 40 = .ok (.iload 4, 2) := by decide +kernel
theorem dX6_spreads_42 : decode cX6_spreads 42 = .ok (.aload_n 0, 1) := by decide +kernel
theorem dX6_spreads_43 : decode cX6_spreads 43 = .ok (.getfield 22, 3) := by decide +kernel
theorem dX6_spreads_46 : decode cX6_spreads 46 = .ok (.iload_n 2, 1) := by decide +kernel
theorem dX6_spreads_47 : decode cX6_spreads 47 = .ok (.iaload, 1) := by decide +kernel
theorem dX6_spreads_48 : decode cX6_spreads 48 = .ok (.iconst 1, 1) := by decide +kernel
theorem dX6_spreads_49 : decode cX6_spreads 49 = .ok (.iadd, 1) := by decide +kernel
theorem dX6_spreads_50 : decode cX6_spreads 50 = .ok (.iload_n 2, 1) := by decide +kernel
theorem dX6_spreads_51 : decode cX6_spreads 51 = .ok (.iload_n 3, 1) := by decide +kernel
theorem dX6_spreads_52 : decode cX6_spreads 52 = .ok (.invokevirtual 82, 3) := by decide +kernel
theorem dX6_spreads_55 : decode cX6_spreads 55 = .ok (.iinc 3 1, 3) := by decide +kernel
theorem dX6_spreads_58 : decode cX6_spreads 58 = .ok (.goto (-39), 3) := by decide +kernel
theorem dX6_spreads_61 : decode cX6_spreads 61 = .ok (.iinc 1 1, 3) := by decide +kernel
theorem dX6_spreads_64 : decode cX6_spreads 64 = .ok (.goto (-62), 3) := by decide +kernel
theorem dX6_spreads_67 : decode cX6_spreads 67 = .ok (.return_, 1) := by decide +kernel
theorem dX6_firstPlace_0 : decode cX6_firstPlace 0 = .ok (.aload_n 0, 1) := by decide +kernel
theorem dX6_firstPlace_1 : decode cX6_firstPlace 1 = .ok (.iconst 0, 1) := by decide +kernel
theorem dX6_firstPlace_2 : decode cX6_firstPlace 2 = .ok (.iconst 0, 1) := by decide +kernel
theorem dX6_firstPlace_3 : decode cX6_firstPlace 3 = .ok (.invokevirtual 73, 3) := by decide +kernel
theorem dX6_firstPlace_6 : decode cX6_firstPlace 6 = .ok (.ireturn, 1) := by decide +kernel
theorem dX6_reaches_0 : decode cX6_reaches 0 = .ok (.aload_n 0, 1) := by decide +kernel
theorem dX6_reaches_1 : decode cX6_reaches 1 = .ok (.invokevirtual 86, 3) := by decide +kernel
theorem dX6_reaches_4 : decode cX6_reaches 4 = .ok (.aload_n 0, 1) := by decide +kernel
theorem dX6_reaches_5 : decode cX6_reaches 5 = .ok (.getfield 7, 3) := by decide +kernel
theorem dX6_reaches_8 : decode cX6_reaches 8 = .ok (.iconst 0, 1) := by decide +kernel
theorem dX6_reaches_9 : decode cX6_reaches 9 = .ok (.iaload, 1) := by decide +kernel
theorem dX6_reaches_10 : decode cX6_reaches 10 = .ok (.ifCond .le 20, 3) := by decide +kernel
theorem dX6_reaches_13 : decode cX6_reaches 13 = .ok (.aload_n 0, 1) := by decide +kernel
theorem dX6_reaches_14 : decode cX6_reaches 14 = .ok (.aload_n 0, 1) := by decide +kernel
theorem dX6_reaches_15 : decode cX6_reaches 15 = .ok (.invokevirtual 89, 3) := by decide +kernel
theorem dX6_reaches_18 : decode cX6_reaches 18 = .ok (.iconst 0, 1) := by decide +kernel
theorem dX6_reaches_19 : decode cX6_reaches 19 = .ok (.bipush (-5), 2) := by decide +kernel
theorem dX6_reaches_21 : decode cX6_reaches 21 = .ok (.bipush (-5), 2) := by decide +kernel
theorem dX6_reaches_23 : decode cX6_reaches 23 = .ok (.invokevirtual 82, 3) := by decide +kernel
theorem dX6_reaches_26 : decode cX6_reaches 26 = .ok (.aload_n 0, 1) := by decide +kernel
theorem dX6_reaches_27 : decode cX6_reaches 27 = .ok (.invokevirtual 93, 3) := by decide +kernel
theorem dX6_reaches_30 : decode cX6_reaches 30 = .ok (.return_, 1) := by decide +kernel
theorem dX6_keepsPlaces_0 : decode cX6_keepsPlaces 0 = .ok (.aload_n 0, 1) := by decide +kernel
theorem dX6_keepsPlaces_1 : decode cX6_keepsPlaces 1 = .ok (.invokevirtual 96, 3) := by decide +kernel
theorem dX6_keepsPlaces_4 : decode cX6_keepsPlaces 4 = .ok (.iconst 0, 1) := by decide +kernel
theorem dX6_keepsPlaces_5 : decode cX6_keepsPlaces 5 = .ok (.istore_n 1, 1) := by decide +kernel
theorem dX6_keepsPlaces_6 : decode cX6_keepsPlaces 6 = .ok (.iload_n 1, 1) := by decide +kernel
theorem dX6_keepsPlaces_7 : decode cX6_keepsPlaces 7 = .ok (.sipush 1024, 3) := by decide +kernel
theorem dX6_keepsPlaces_10 : decode cX6_keepsPlaces 10 = .ok (.if_icmp .ge 32, 3) := by decide +kernel
theorem dX6_keepsPlaces_13 : decode cX6_keepsPlaces 13 = .ok (.aload_n 0, 1) := by decide +kernel
theorem dX6_keepsPlaces_14 : decode cX6_keepsPlaces 14 = .ok (.getfield 34, 3) := by decide +kernel
theorem dX6_keepsPlaces_17 : decode cX6_keepsPlaces 17 = .ok (.iload_n 1, 1) := by decide +kernel
theorem dX6_keepsPlaces_18 : decode cX6_keepsPlaces 18 = .ok (.aload_n 0, 1) := by decide +kernel
theorem dX6_keepsPlaces_19 : decode cX6_keepsPlaces 19 = .ok (.getfield 22, 3) := by decide +kernel
theorem dX6_keepsPlaces_22 : decode cX6_keepsPlaces 22 = .ok (.iload_n 1, 1) := by decide +kernel
theorem dX6_keepsPlaces_23 : decode cX6_keepsPlaces 23 = .ok (.iaload, 1) := by decide +kernel
theorem dX6_keepsPlaces_24 : decode cX6_keepsPlaces 24 = .ok (.sipush 9999, 3) := by decide +kernel
theorem dX6_keepsPlaces_27 : decode cX6_keepsPlaces 27 = .ok (.if_icmp .ge 7, 3) := by decide +kernel
theorem dX6_keepsPlaces_30 : decode cX6_keepsPlaces 30 = .ok (.iconst 1, 1) := by decide +kernel
theorem dX6_keepsPlaces_31 : decode cX6_keepsPlaces 31 = .ok (.goto 4, 3) := by decide +kernel
theorem dX6_keepsPlaces_34 : decode cX6_keepsPlaces 34 = .ok (.iconst 0, 1) := by decide +kernel
theorem dX6_keepsPlaces_35 : decode cX6_keepsPlaces 35 = .ok (.iastore, 1) := by decide +kernel
theorem dX6_keepsPlaces_36 : decode cX6_keepsPlaces 36 = .ok (.iinc 1 1, 3) := by decide +kernel
theorem dX6_keepsPlaces_39 : decode cX6_keepsPlaces 39 = .ok (.goto (-33), 3) := by decide +kernel
theorem dX6_keepsPlaces_42 : decode cX6_keepsPlaces 42 = .ok (.return_, 1) := by decide +kernel
theorem dX6_placesOf_0 : decode cX6_placesOf 0 = .ok (.aload_n 0, 1) := by decide +kernel
theorem dX6_placesOf_1 : decode cX6_placesOf 1 = .ok (.invokevirtual 96, 3) := by decide +kernel
theorem dX6_placesOf_4 : decode cX6_placesOf 4 = .ok (.iconst 0, 1) := by decide +kernel
theorem dX6_placesOf_5 : decode cX6_placesOf 5 = .ok (.istore_n 2, 1) := by decide +kernel
theorem dX6_placesOf_6 : decode cX6_placesOf 6 = .ok (.iconst 0, 1) := by decide +kernel
theorem dX6_placesOf_7 : decode cX6_placesOf 7 = .ok (.istore_n 3, 1) := by decide +kernel
theorem dX6_placesOf_8 : decode cX6_placesOf 8 = .ok (.iload_n 3, 1) := by decide +kernel
theorem dX6_placesOf_9 : decode cX6_placesOf 9 = .ok (.bipush 31, 2) := by decide +kernel
theorem dX6_placesOf_11 : decode cX6_placesOf 11 = .ok (.if_icmp .gt 34, 3) := by decide +kernel
theorem dX6_placesOf_14 : decode cX6_placesOf 14 = .ok (.iload_n 2, 1) := by decide +kernel
theorem dX6_placesOf_15 : decode cX6_placesOf 15 = .ok (.aload_n 0, 1) := by decide +kernel
theorem dX6_placesOf_16 : decode cX6_placesOf 16 = .ok (.getfield 22, 3) := by decide +kernel
theorem dX6_placesOf_19 : decode cX6_placesOf 19 = .ok (.bipush 32, 2) := by decide +kernel
theorem dX6_placesOf_21 : decode cX6_placesOf 21 = .ok (.iload_n 1, 1) := by decide +kernel
theorem dX6_placesOf_22 : decode cX6_placesOf 22 = .ok (.imul, 1) := by decide +kernel
theorem dX6_placesOf_23 : decode cX6_placesOf 23 = .ok (.iload_n 3, 1) := by decide +kernel
theorem dX6_placesOf_24 : decode cX6_placesOf 24 = .ok (.iadd, 1) := by decide +kernel
theorem dX6_placesOf_25 : decode cX6_placesOf 25 = .ok (.iaload, 1) := by decide +kernel
theorem dX6_placesOf_26 : decode cX6_placesOf 26 = .ok (.sipush 9999, 3) := by decide +kernel
theorem dX6_placesOf_29 : decode cX6_placesOf 29 = .ok (.if_icmp .ge 7, 3) := by decide +kernel
theorem dX6_placesOf_32 : decode cX6_placesOf 32 = .ok (.iconst 1, 1) := by decide +kernel
theorem dX6_placesOf_33 : decode cX6_placesOf 33 = .ok (.goto 4, 3) := by decide +kernel
theorem dX6_placesOf_36 : decode cX6_placesOf 36 = .ok (.iconst 0, 1) := by decide +kernel
theorem dX6_placesOf_37 : decode cX6_placesOf 37 = .ok (.iadd, 1) := by decide +kernel
theorem dX6_placesOf_38 : decode cX6_placesOf 38 = .ok (.istore_n 2, 1) := by decide +kernel
theorem dX6_placesOf_39 : decode cX6_placesOf 39 = .ok (.iinc 3 1, 3) := by decide +kernel
theorem dX6_placesOf_42 : decode cX6_placesOf 42 = .ok (.goto (-34), 3) := by decide +kernel
theorem dX6_placesOf_45 : decode cX6_placesOf 45 = .ok (.iload_n 2, 1) := by decide +kernel
theorem dX6_placesOf_46 : decode cX6_placesOf 46 = .ok (.ireturn, 1) := by decide +kernel
theorem dX6_fewest_0 : decode cX6_fewest 0 = .ok (.aload_n 0, 1) := by decide +kernel
theorem dX6_fewest_1 : decode cX6_fewest 1 = .ok (.invokevirtual 96, 3) := by decide +kernel
theorem dX6_fewest_4 : decode cX6_fewest 4 = .ok (.sipush 9999, 3) := by decide +kernel
theorem dX6_fewest_7 : decode cX6_fewest 7 = .ok (.istore_n 2, 1) := by decide +kernel
theorem dX6_fewest_8 : decode cX6_fewest 8 = .ok (.iconst 0, 1) := by decide +kernel
theorem dX6_fewest_9 : decode cX6_fewest 9 = .ok (.istore_n 3, 1) := by decide +kernel
theorem dX6_fewest_10 : decode cX6_fewest 10 = .ok (.iload_n 3, 1) := by decide +kernel
theorem dX6_fewest_11 : decode cX6_fewest 11 = .ok (.bipush 31, 2) := by decide +kernel
theorem dX6_fewest_13 : decode cX6_fewest 13 = .ok (.if_icmp .gt 40, 3) := by decide +kernel
theorem dX6_fewest_16 : decode cX6_fewest 16 = .ok (.aload_n 0, 1) := by decide +kernel
theorem dX6_fewest_17 : decode cX6_fewest 17 = .ok (.getfield 22, 3) := by decide +kernel
theorem dX6_fewest_20 : decode cX6_fewest 20 = .ok (.bipush 32, 2) := by decide +kernel
theorem dX6_fewest_22 : decode cX6_fewest 22 = .ok (.iload_n 1, 1) := by decide +kernel
theorem dX6_fewest_23 : decode cX6_fewest 23 = .ok (.imul, 1) := by decide +kernel
theorem dX6_fewest_24 : decode cX6_fewest 24 = .ok (.iload_n 3, 1) := by decide +kernel
theorem dX6_fewest_25 : decode cX6_fewest 25 = .ok (.iadd, 1) := by decide +kernel
theorem dX6_fewest_26 : decode cX6_fewest 26 = .ok (.iaload, 1) := by decide +kernel
theorem dX6_fewest_27 : decode cX6_fewest 27 = .ok (.iload_n 2, 1) := by decide +kernel
theorem dX6_fewest_28 : decode cX6_fewest 28 = .ok (.if_icmp .ge 17, 3) := by decide +kernel
theorem dX6_fewest_31 : decode cX6_fewest 31 = .ok (.aload_n 0, 1) := by decide +kernel
theorem dX6_fewest_32 : decode cX6_fewest 32 = .ok (.getfield 22, 3) := by decide +kernel
theorem dX6_fewest_35 : decode cX6_fewest 35 = .ok (.bipush 32, 2) := by decide +kernel
theorem dX6_fewest_37 : decode cX6_fewest 37 = .ok (.iload_n 1, 1) := by decide +kernel
theorem dX6_fewest_38 : decode cX6_fewest 38 = .ok (.imul, 1) := by decide +kernel
theorem dX6_fewest_39 : decode cX6_fewest 39 = .ok (.iload_n 3, 1) := by decide +kernel
theorem dX6_fewest_40 : decode cX6_fewest 40 = .ok (.iadd, 1) := by decide +kernel
theorem dX6_fewest_41 : decode cX6_fewest 41 = .ok (.iaload, 1) := by decide +kernel
theorem dX6_fewest_42 : decode cX6_fewest 42 = .ok (.goto 4, 3) := by decide +kernel
theorem dX6_fewest_45 : decode cX6_fewest 45 = .ok (.iload_n 2, 1) := by decide +kernel
theorem dX6_fewest_46 : decode cX6_fewest 46 = .ok (.istore_n 2, 1) := by decide +kernel
theorem dX6_fewest_47 : decode cX6_fewest 47 = .ok (.iinc 3 1, 3) := by decide +kernel
theorem dX6_fewest_50 : decode cX6_fewest 50 = .ok (.goto (-40), 3) := by decide +kernel
theorem dX6_fewest_53 : decode cX6_fewest 53 = .ok (.iload_n 2, 1) := by decide +kernel
theorem dX6_fewest_54 : decode cX6_fewest 54 = .ok (.sipush 9999, 3) := by decide +kernel
theorem dX6_fewest_57 : decode cX6_fewest 57 = .ok (.if_icmp .ne 8, 3) := by decide +kernel
theorem dX6_fewest_60 : decode cX6_fewest 60 = .ok (.bipush (-5), 2) := by decide +kernel
theorem dX6_fewest_62 : decode cX6_fewest 62 = .ok (.goto 4, 3) := by decide +kernel
theorem dX6_fewest_65 : decode cX6_fewest 65 = .ok (.iload_n 2, 1) := by decide +kernel
theorem dX6_fewest_66 : decode cX6_fewest 66 = .ok (.ireturn, 1) := by decide +kernel
theorem dX6_comesAgain_0 : decode cX6_comesAgain 0 = .ok (.aload_n 0, 1) := by decide +kernel
theorem dX6_comesAgain_1 : decode cX6_comesAgain 1 = .ok (.invokevirtual 86, 3) := by decide +kernel
theorem dX6_comesAgain_4 : decode cX6_comesAgain 4 = .ok (.iconst 0, 1) := by decide +kernel
theorem dX6_comesAgain_5 : decode cX6_comesAgain 5 = .ok (.istore_n 2, 1) := by decide +kernel
theorem dX6_comesAgain_6 : decode cX6_comesAgain 6 = .ok (.iload_n 2, 1) := by decide +kernel
theorem dX6_comesAgain_7 : decode cX6_comesAgain 7 = .ok (.bipush 31, 2) := by decide +kernel
theorem dX6_comesAgain_9 : decode cX6_comesAgain 9 = .ok (.if_icmp .gt 73, 3) := by decide +kernel
theorem dX6_comesAgain_12 : decode cX6_comesAgain 12 = .ok (.iconst 0, 1) := by decide +kernel
theorem dX6_comesAgain_13 : decode cX6_comesAgain 13 = .ok (.istore_n 3, 1) := by decide +kernel
theorem dX6_comesAgain_14 : decode cX6_comesAgain 14 = .ok (.iload_n 3, 1) := by decide +kernel
theorem dX6_comesAgain_15 : decode cX6_comesAgain 15 = .ok (.iconst 3, 1) := by decide +kernel
theorem dX6_comesAgain_16 : decode cX6_comesAgain 16 = .ok (.if_icmp .ge 60, 3) := by decide +kernel
theorem dX6_comesAgain_19 : decode cX6_comesAgain 19 = .ok (.aload_n 0, 1) := by decide +kernel
theorem dX6_comesAgain_20 : decode cX6_comesAgain 20 = .ok (.getfield 34, 3) := by decide +kernel
theorem dX6_comesAgain_23 : decode cX6_comesAgain 23 = .ok (.bipush 32, 2) := by decide +kernel
theorem dX6_comesAgain_25 : decode cX6_comesAgain 25 = .ok (.iload_n 1, 1) := by decide +kernel
theorem dX6_comesAgain_26 : decode cX6_comesAgain 26 = .ok (.imul, 1) := by decide +kernel
theorem dX6_comesAgain_27 : decode cX6_comesAgain 27 = .ok (.iload_n 2, 1) := by decide +kernel
theorem dX6_comesAgain_28 : decode cX6_comesAgain 28 = .ok (.iadd, 1) := by decide +kernel
theorem dX6_comesAgain_29 : decode cX6_comesAgain 29 = .ok (.iaload, 1) := by decide +kernel
theorem dX6_comesAgain_30 : decode cX6_comesAgain 30 = .ok (.iconst 1, 1) := by decide +kernel
theorem dX6_comesAgain_31 : decode cX6_comesAgain 31 = .ok (.if_icmp .ne 17, 3) := by decide +kernel
theorem dX6_comesAgain_34 : decode cX6_comesAgain 34 = .ok (.aload_n 0, 1) := by decide +kernel
theorem dX6_comesAgain_35 : decode cX6_comesAgain 35 = .ok (.bipush 32, 2) := by decide +kernel
theorem dX6_comesAgain_37 : decode cX6_comesAgain 37 = .ok (.iload_n 1, 1) := by decide +kernel
theorem dX6_comesAgain_38 : decode cX6_comesAgain 38 = .ok (.imul, 1) := by decide +kernel
theorem dX6_comesAgain_39 : decode cX6_comesAgain 39 = .ok (.iload_n 2, 1) := by decide +kernel
theorem dX6_comesAgain_40 : decode cX6_comesAgain 40 = .ok (.iadd, 1) := by decide +kernel
theorem dX6_comesAgain_41 : decode cX6_comesAgain 41 = .ok (.iload_n 3, 1) := by decide +kernel
theorem dX6_comesAgain_42 : decode cX6_comesAgain 42 = .ok (.invokevirtual 79, 3) := by decide +kernel
theorem dX6_comesAgain_45 : decode cX6_comesAgain 45 = .ok (.goto 5, 3) := by decide +kernel
theorem dX6_comesAgain_48 : decode cX6_comesAgain 48 = .ok (.bipush (-5), 2) := by decide +kernel
theorem dX6_comesAgain_50 : decode cX6_comesAgain 50 = .ok (.istore 4, 2) := by decide +kernel
theorem dX6_comesAgain_52 : decode cX6_comesAgain 52 = .ok (.iload 4, 2) := by decide +kernel
theorem dX6_comesAgain_54 : decode cX6_comesAgain 54 = .ok (.bipush (-5), 2) := by decide +kernel
theorem dX6_comesAgain_56 : decode cX6_comesAgain 56 = .ok (.if_icmp .eq 14, 3) := by decide +kernel
theorem dX6_comesAgain_59 : decode cX6_comesAgain 59 = .ok (.aload_n 0, 1) := by decide +kernel
theorem dX6_comesAgain_60 : decode cX6_comesAgain 60 = .ok (.iload 4, 2) := by decide +kernel
theorem dX6_comesAgain_62 : decode cX6_comesAgain 62 = .ok (.iconst 0, 1) := by decide +kernel
theorem dX6_comesAgain_63 : decode cX6_comesAgain 63 = .ok (.bipush (-5), 2) := by decide +kernel
theorem dX6_comesAgain_65 : decode cX6_comesAgain 65 = .ok (.bipush (-5), 2) := by decide +kernel
theorem dX6_comesAgain_67 : decode cX6_comesAgain 67 = .ok (.invokevirtual 82, 3) := by decide +kernel
theorem dX6_comesAgain_70 : decode cX6_comesAgain 70 = .ok (.iinc 3 1, 3) := by decide +kernel
theorem dX6_comesAgain_73 : decode cX6_comesAgain 73 = .ok (.goto (-59), 3) := by decide +kernel
theorem dX6_comesAgain_76 : decode cX6_comesAgain 76 = .ok (.iinc 2 1, 3) := by decide +kernel
theorem dX6_comesAgain_79 : decode cX6_comesAgain 79 = .ok (.goto (-73), 3) := by decide +kernel
theorem dX6_comesAgain_82 : decode cX6_comesAgain 82 = .ok (.aload_n 0, 1) := by decide +kernel
theorem dX6_comesAgain_83 : decode cX6_comesAgain 83 = .ok (.invokevirtual 93, 3) := by decide +kernel
theorem dX6_comesAgain_86 : decode cX6_comesAgain 86 = .ok (.iconst 0, 1) := by decide +kernel
theorem dX6_comesAgain_87 : decode cX6_comesAgain 87 = .ok (.istore_n 2, 1) := by decide +kernel
theorem dX6_comesAgain_88 : decode cX6_comesAgain 88 = .ok (.iconst 0, 1) := by decide +kernel
theorem dX6_comesAgain_89 : decode cX6_comesAgain 89 = .ok (.istore_n 3, 1) := by decide +kernel
theorem dX6_comesAgain_90 : decode cX6_comesAgain 90 = .ok (.iload_n 3, 1) := by decide +kernel
theorem dX6_comesAgain_91 : decode cX6_comesAgain 91 = .ok (.bipush 31, 2) := by decide +kernel
theorem dX6_comesAgain_93 : decode cX6_comesAgain 93 = .ok (.if_icmp .gt 36, 3) := by decide +kernel
theorem dX6_comesAgain_96 : decode cX6_comesAgain 96 = .ok (.iload_n 2, 1) := by decide +kernel
theorem dX6_comesAgain_97 : decode cX6_comesAgain 97 = .ok (.ifCond .ne 20, 3) := by decide +kernel
theorem dX6_comesAgain_100 : decode cX6_comesAgain 100 = .ok (.aload_n 0, 1) := by decide +kernel
theorem dX6_comesAgain_101 : decode cX6_comesAgain 101 = .ok (.getfield 22, 3) := by decide +kernel
theorem dX6_comesAgain_104 : decode cX6_comesAgain 104 = .ok (.bipush 32, 2) := by decide +kernel
theorem dX6_comesAgain_106 : decode cX6_comesAgain 106 = .ok (.iload_n 1, 1) := by decide +kernel
theorem dX6_comesAgain_107 : decode cX6_comesAgain 107 = .ok (.imul, 1) := by decide +kernel
theorem dX6_comesAgain_108 : decode cX6_comesAgain 108 = .ok (.iload_n 3, 1) := by decide +kernel
theorem dX6_comesAgain_109 : decode cX6_comesAgain 109 = .ok (.iadd, 1) := by decide +kernel
theorem dX6_comesAgain_110 : decode cX6_comesAgain 110 = .ok (.iaload, 1) := by decide +kernel
theorem dX6_comesAgain_111 : decode cX6_comesAgain 111 = .ok (.sipush 9999, 3) := by decide +kernel
theorem dX6_comesAgain_114 : decode cX6_comesAgain 114 = .ok (.if_icmp .ge 7, 3) := by decide +kernel
theorem dX6_comesAgain_117 : decode cX6_comesAgain 117 = .ok (.iconst 1, 1) := by decide +kernel
theorem dX6_comesAgain_118 : decode cX6_comesAgain 118 = .ok (.goto 4, 3) := by decide +kernel
theorem dX6_comesAgain_121 : decode cX6_comesAgain 121 = .ok (.iconst 0, 1) := by decide +kernel
theorem dX6_comesAgain_122 : decode cX6_comesAgain 122 = .ok (.istore_n 2, 1) := by decide +kernel
theorem dX6_comesAgain_123 : decode cX6_comesAgain 123 = .ok (.iinc 3 1, 3) := by decide +kernel
theorem dX6_comesAgain_126 : decode cX6_comesAgain 126 = .ok (.goto (-36), 3) := by decide +kernel
theorem dX6_comesAgain_129 : decode cX6_comesAgain 129 = .ok (.iload_n 2, 1) := by decide +kernel
theorem dX6_comesAgain_130 : decode cX6_comesAgain 130 = .ok (.ireturn, 1) := by decide +kernel
theorem dX6_leadsOn_0 : decode cX6_leadsOn 0 = .ok (.iconst 0, 1) := by decide +kernel
theorem dX6_leadsOn_1 : decode cX6_leadsOn 1 = .ok (.istore_n 2, 1) := by decide +kernel
theorem dX6_leadsOn_2 : decode cX6_leadsOn 2 = .ok (.iconst 0, 1) := by decide +kernel
theorem dX6_leadsOn_3 : decode cX6_leadsOn 3 = .ok (.istore_n 3, 1) := by decide +kernel
theorem dX6_leadsOn_4 : decode cX6_leadsOn 4 = .ok (.iload_n 3, 1) := by decide +kernel
theorem dX6_leadsOn_5 : decode cX6_leadsOn 5 = .ok (.iconst 3, 1) := by decide +kernel
theorem dX6_leadsOn_6 : decode cX6_leadsOn 6 = .ok (.if_icmp .ge 45, 3) := by decide +kernel
theorem dX6_leadsOn_9 : decode cX6_leadsOn 9 = .ok (.aload_n 0, 1) := by decide +kernel
theorem dX6_leadsOn_10 : decode cX6_leadsOn 10 = .ok (.iload_n 1, 1) := by decide +kernel
theorem dX6_leadsOn_11 : decode cX6_leadsOn 11 = .ok (.iload_n 3, 1) := by decide +kernel
theorem dX6_leadsOn_12 : decode cX6_leadsOn 12 = .ok (.invokevirtual 79, 3) := by decide +kernel
theorem dX6_leadsOn_15 : decode cX6_leadsOn 15 = .ok (.istore 4, 2) := by decide +kernel
theorem dX6_leadsOn_17 : decode cX6_leadsOn 17 = .ok (.iload_n 2, 1) := by decide +kernel
theorem dX6_leadsOn_18 : decode cX6_leadsOn 18 = .ok (.ifCond .ne 21, 3) := by decide +kernel
theorem dX6_leadsOn_21 : decode cX6_leadsOn 21 = .ok (.iload 4, 2) := by decide +kernel
theorem dX6_leadsOn_23 : decode cX6_leadsOn 23 = .ok (.bipush (-5), 2) := by decide +kernel
theorem dX6_leadsOn_25 : decode cX6_leadsOn 25 = .ok (.if_icmp .eq 18, 3) := by decide +kernel
theorem dX6_leadsOn_28 : decode cX6_leadsOn 28 = .ok (.aload_n 0, 1) := by decide +kernel
theorem dX6_leadsOn_29 : decode cX6_leadsOn 29 = .ok (.getfield 37, 3) := by decide +kernel
theorem dX6_leadsOn_32 : decode cX6_leadsOn 32 = .ok (.iload 4, 2) := by decide +kernel
theorem dX6_leadsOn_34 : decode cX6_leadsOn 34 = .ok (.iaload, 1) := by decide +kernel
theorem dX6_leadsOn_35 : decode cX6_leadsOn 35 = .ok (.iconst 1, 1) := by decide +kernel
theorem dX6_leadsOn_36 : decode cX6_leadsOn 36 = .ok (.if_icmp .ne 7, 3) := by decide +kernel
theorem dX6_leadsOn_39 : decode cX6_leadsOn 39 = .ok (.iconst 1, 1) := by decide +kernel
theorem dX6_leadsOn_40 : decode cX6_leadsOn 40 = .ok (.goto 4, 3) := by decide +kernel
theorem dX6_leadsOn_43 : decode cX6_leadsOn 43 = .ok (.iconst 0, 1) := by decide +kernel
theorem dX6_leadsOn_44 : decode cX6_leadsOn 44 = .ok (.istore_n 2, 1) := by decide +kernel
theorem dX6_leadsOn_45 : decode cX6_leadsOn 45 = .ok (.iinc 3 1, 3) := by decide +kernel
theorem dX6_leadsOn_48 : decode cX6_leadsOn 48 = .ok (.goto (-44), 3) := by decide +kernel
theorem dX6_leadsOn_51 : decode cX6_leadsOn 51 = .ok (.iload_n 2, 1) := by decide +kernel
theorem dX6_leadsOn_52 : decode cX6_leadsOn 52 = .ok (.ireturn, 1) := by decide +kernel
theorem dX6_findsEnds_0 : decode cX6_findsEnds 0 = .ok (.aload_n 0, 1) := by decide +kernel
theorem dX6_findsEnds_1 : decode cX6_findsEnds 1 = .ok (.invokevirtual 99, 3) := by decide +kernel
theorem dX6_findsEnds_4 : decode cX6_findsEnds 4 = .ok (.iconst 0, 1) := by decide +kernel
theorem dX6_findsEnds_5 : decode cX6_findsEnds 5 = .ok (.istore_n 1, 1) := by decide +kernel
theorem dX6_findsEnds_6 : decode cX6_findsEnds 6 = .ok (.iload_n 1, 1) := by decide +kernel
theorem dX6_findsEnds_7 : decode cX6_findsEnds 7 = .ok (.sipush 1024, 3) := by decide +kernel
theorem dX6_findsEnds_10 : decode cX6_findsEnds 10 = .ok (.if_icmp .ge 41, 3) := by decide +kernel
theorem dX6_findsEnds_13 : decode cX6_findsEnds 13 = .ok (.aload_n 0, 1) := by decide +kernel
theorem dX6_findsEnds_14 : decode cX6_findsEnds 14 = .ok (.getfield 37, 3) := by decide +kernel
theorem dX6_findsEnds_17 : decode cX6_findsEnds 17 = .ok (.iload_n 1, 1) := by decide +kernel
theorem dX6_findsEnds_18 : decode cX6_findsEnds 18 = .ok (.aload_n 0, 1) := by decide +kernel
theorem dX6_findsEnds_19 : decode cX6_findsEnds 19 = .ok (.getfield 34, 3) := by decide +kernel
theorem dX6_findsEnds_22 : decode cX6_findsEnds 22 = .ok (.iload_n 1, 1) := by decide +kernel
theorem dX6_findsEnds_23 : decode cX6_findsEnds 23 = .ok (.iaload, 1) := by decide +kernel
theorem dX6_findsEnds_24 : decode cX6_findsEnds 24 = .ok (.iconst 1, 1) := by decide +kernel
theorem dX6_findsEnds_25 : decode cX6_findsEnds 25 = .ok (.if_icmp .ne 18, 3) := by decide +kernel
theorem dX6_findsEnds_28 : decode cX6_findsEnds 28 = .ok (.aload_n 0, 1) := by decide +kernel
theorem dX6_findsEnds_29 : decode cX6_findsEnds 29 = .ok (.iload_n 1, 1) := by decide +kernel
theorem dX6_findsEnds_30 : decode cX6_findsEnds 30 = .ok (.bipush 32, 2) := by decide +kernel
theorem dX6_findsEnds_32 : decode cX6_findsEnds 32 = .ok (.idiv, 1) := by decide +kernel
theorem dX6_findsEnds_33 : decode cX6_findsEnds 33 = .ok (.invokevirtual 66, 3) := by decide +kernel
theorem dX6_findsEnds_36 : decode cX6_findsEnds 36 = .ok (.ifCond .eq 7, 3) := by decide +kernel
theorem dX6_findsEnds_39 : decode cX6_findsEnds 39 = .ok (.iconst 1, 1) := by decide +kernel
theorem dX6_findsEnds_40 : decode cX6_findsEnds 40 = .ok (.goto 4, 3) := by decide +kernel
theorem dX6_findsEnds_43 : decode cX6_findsEnds 43 = .ok (.iconst 0, 1) := by decide +kernel
theorem dX6_findsEnds_44 : decode cX6_findsEnds 44 = .ok (.iastore, 1) := by decide +kernel
theorem dX6_findsEnds_45 : decode cX6_findsEnds 45 = .ok (.iinc 1 1, 3) := by decide +kernel
theorem dX6_findsEnds_48 : decode cX6_findsEnds 48 = .ok (.goto (-42), 3) := by decide +kernel
theorem dX6_findsEnds_51 : decode cX6_findsEnds 51 = .ok (.iconst 1, 1) := by decide +kernel
theorem dX6_findsEnds_52 : decode cX6_findsEnds 52 = .ok (.istore_n 1, 1) := by decide +kernel
theorem dX6_findsEnds_53 : decode cX6_findsEnds 53 = .ok (.iload_n 1, 1) := by decide +kernel
theorem dX6_findsEnds_54 : decode cX6_findsEnds 54 = .ok (.ifCond .eq 66, 3) := by decide +kernel
theorem dX6_findsEnds_57 : decode cX6_findsEnds 57 = .ok (.iconst 0, 1) := by decide +kernel
theorem dX6_findsEnds_58 : decode cX6_findsEnds 58 = .ok (.istore_n 1, 1) := by decide +kernel
theorem dX6_findsEnds_59 : decode cX6_findsEnds 59 = .ok (.aload_n 0, 1) := by decide +kernel
theorem dX6_findsEnds_60 : decode cX6_findsEnds 60 = .ok (.getfield 76, 3) := by decide +kernel
theorem dX6_findsEnds_63 : decode cX6_findsEnds 63 = .ok (.iconst 1, 1) := by decide +kernel
theorem dX6_findsEnds_64 : decode cX6_findsEnds 64 = .ok (.isub, 1) := by decide +kernel
theorem dX6_findsEnds_65 : decode cX6_findsEnds 65 = .ok (.istore_n 2, 1) := by decide +kernel
theorem dX6_findsEnds_66 : decode cX6_findsEnds 66 = .ok (.iload_n 2, 1) := by decide +kernel
theorem dX6_findsEnds_67 : decode cX6_findsEnds 67 = .ok (.ifCond .lt 50, 3) := by decide +kernel
theorem dX6_findsEnds_70 : decode cX6_findsEnds 70 = .ok (.aload_n 0, 1) := by decide +kernel
theorem dX6_findsEnds_71 : decode cX6_findsEnds 71 = .ok (.getfield 37, 3) := by decide +kernel
theorem dX6_findsEnds_74 : decode cX6_findsEnds 74 = .ok (.aload_n 0, 1) := by decide +kernel
theorem dX6_findsEnds_75 : decode cX6_findsEnds 75 = .ok (.getfield 31, 3) := by decide +kernel
theorem dX6_findsEnds_78 : decode cX6_findsEnds 78 = .ok (.iload_n 2, 1) := by decide +kernel
theorem dX6_findsEnds_79 : decode cX6_findsEnds 79 = .ok (.iaload, 1) := by decide +kernel
theorem dX6_findsEnds_80 : decode cX6_findsEnds 80 = .ok (.iaload, 1) := by decide +kernel
theorem dX6_findsEnds_81 : decode cX6_findsEnds 81 = .ok (.ifCond .ne 30, 3) := by decide +kernel
theorem dX6_findsEnds_84 : decode cX6_findsEnds 84 = .ok (.aload_n 0, 1) := by decide +kernel
theorem dX6_findsEnds_85 : decode cX6_findsEnds 85 = .ok (.aload_n 0, 1) := by decide +kernel
theorem dX6_findsEnds_86 : decode cX6_findsEnds 86 = .ok (.getfield 31, 3) := by decide +kernel
theorem dX6_findsEnds_89 : decode cX6_findsEnds 89 = .ok (.iload_n 2, 1) := by decide +kernel
theorem dX6_findsEnds_90 : decode cX6_findsEnds 90 = .ok (.iaload, 1) := by decide +kernel
theorem dX6_findsEnds_91 : decode cX6_findsEnds 91 = .ok (.invokevirtual 102, 3) := by decide +kernel
theorem dX6_findsEnds_94 : decode cX6_findsEnds 94 = .ok (.ifCond .eq 17, 3) := by decide +kernel
theorem dX6_findsEnds_97 : decode cX6_findsEnds 97 = .ok (.aload_n 0, 1) := by decide +kernel
theorem dX6_findsEnds_98 : decode cX6_findsEnds 98 = .ok (.getfield 37, 3) := by decide +kernel
theorem dX6_findsEnds_101 : decode cX6_findsEnds 101 = .ok (.aload_n 0, 1) := by decide +kernel
theorem dX6_findsEnds_102 : decode cX6_findsEnds 102 = .ok (.getfield 31, 3) := by decide +kernel
theorem dX6_findsEnds_105 : decode cX6_findsEnds 105 = .ok (.iload_n 2, 1) := by decide +kernel
theorem dX6_findsEnds_106 : decode cX6_findsEnds 106 = .ok (.iaload, 1) := by decide +kernel
theorem dX6_findsEnds_107 : decode cX6_findsEnds 107 = .ok (.iconst 1, 1) := by decide +kernel
theorem dX6_findsEnds_108 : decode cX6_findsEnds 108 = .ok (.iastore, 1) := by decide +kernel
theorem dX6_findsEnds_109 : decode cX6_findsEnds 109 = .ok (.iconst 1, 1) := by decide +kernel
theorem dX6_findsEnds_110 : decode cX6_findsEnds 110 = .ok (.istore_n 1, 1) := by decide +kernel
theorem dX6_findsEnds_111 : decode cX6_findsEnds 111 = .ok (.iinc 2 (-1), 3) := by decide +kernel
theorem dX6_findsEnds_114 : decode cX6_findsEnds 114 = .ok (.goto (-48), 3) := by decide +kernel
theorem dX6_findsEnds_117 : decode cX6_findsEnds 117 = .ok (.goto (-64), 3) := by decide +kernel
theorem dX6_findsEnds_120 : decode cX6_findsEnds 120 = .ok (.return_, 1) := by decide +kernel
theorem dX6_stuckIn_0 : decode cX6_stuckIn 0 = .ok (.aload_n 0, 1) := by decide +kernel
theorem dX6_stuckIn_1 : decode cX6_stuckIn 1 = .ok (.invokevirtual 105, 3) := by decide +kernel
theorem dX6_stuckIn_4 : decode cX6_stuckIn 4 = .ok (.iconst 0, 1) := by decide +kernel
theorem dX6_stuckIn_5 : decode cX6_stuckIn 5 = .ok (.istore_n 3, 1) := by decide +kernel
theorem dX6_stuckIn_6 : decode cX6_stuckIn 6 = .ok (.iload_n 1, 1) := by decide +kernel
theorem dX6_stuckIn_7 : decode cX6_stuckIn 7 = .ok (.istore 4, 2) := by decide +kernel
theorem dX6_stuckIn_9 : decode cX6_stuckIn 9 = .ok (.iload 4, 2) := by decide +kernel
theorem dX6_stuckIn_11 : decode cX6_stuckIn 11 = .ok (.iload_n 2, 1) := by decide +kernel
theorem dX6_stuckIn_12 : decode cX6_stuckIn 12 = .ok (.if_icmp .gt 38, 3) := by decide +kernel
theorem dX6_stuckIn_15 : decode cX6_stuckIn 15 = .ok (.iload_n 3, 1) := by decide +kernel
theorem dX6_stuckIn_16 : decode cX6_stuckIn 16 = .ok (.aload_n 0, 1) := by decide +kernel
theorem dX6_stuckIn_17 : decode cX6_stuckIn 17 = .ok (.getfield 34, 3) := by decide +kernel
theorem dX6_stuckIn_20 : decode cX6_stuckIn 20 = .ok (.iload 4, 2) := by decide +kernel
theorem dX6_stuckIn_22 : decode cX6_stuckIn 22 = .ok (.iaload, 1) := by decide +kernel
theorem dX6_stuckIn_23 : decode cX6_stuckIn 23 = .ok (.iconst 1, 1) := by decide +kernel
theorem dX6_stuckIn_24 : decode cX6_stuckIn 24 = .ok (.if_icmp .ne 17, 3) := by decide +kernel
theorem dX6_stuckIn_27 : decode cX6_stuckIn 27 = .ok (.aload_n 0, 1) := by decide +kernel
theorem dX6_stuckIn_28 : decode cX6_stuckIn 28 = .ok (.getfield 37, 3) := by decide +kernel
theorem dX6_stuckIn_31 : decode cX6_stuckIn 31 = .ok (.iload 4, 2) := by decide +kernel
theorem dX6_stuckIn_33 : decode cX6_stuckIn 33 = .ok (.iaload, 1) := by decide +kernel
theorem dX6_stuckIn_34 : decode cX6_stuckIn 34 = .ok (.ifCond .ne 7, 3) := by decide +kernel
theorem dX6_stuckIn_37 : decode cX6_stuckIn 37 = .ok (.iconst 1, 1) := by decide +kernel
theorem dX6_stuckIn_38 : decode cX6_stuckIn 38 = .ok (.goto 4, 3) := by decide +kernel
theorem dX6_stuckIn_41 : decode cX6_stuckIn 41 = .ok (.iconst 0, 1) := by decide +kernel
theorem dX6_stuckIn_42 : decode cX6_stuckIn 42 = .ok (.iadd, 1) := by decide +kernel
theorem dX6_stuckIn_43 : decode cX6_stuckIn 43 = .ok (.istore_n 3, 1) := by decide +kernel
theorem dX6_stuckIn_44 : decode cX6_stuckIn 44 = .ok (.iinc 4 1, 3) := by decide +kernel
theorem dX6_stuckIn_47 : decode cX6_stuckIn 47 = .ok (.goto (-38), 3) := by decide +kernel
theorem dX6_stuckIn_50 : decode cX6_stuckIn 50 = .ok (.iload_n 3, 1) := by decide +kernel
theorem dX6_stuckIn_51 : decode cX6_stuckIn 51 = .ok (.ireturn, 1) := by decide +kernel
theorem dX6_isTenths_0 : decode cX6_isTenths 0 = .ok (.iload_n 0, 1) := by decide +kernel
theorem dX6_isTenths_1 : decode cX6_isTenths 1 = .ok (.bipush (-99), 2) := by decide +kernel
theorem dX6_isTenths_3 : decode cX6_isTenths 3 = .ok (.bipush 99, 2) := by decide +kernel
theorem dX6_isTenths_5 : decode cX6_isTenths 5 = .ok (.invokestatic 50, 3) := by decide +kernel
theorem dX6_isTenths_8 : decode cX6_isTenths 8 = .ok (.ireturn, 1) := by decide +kernel
theorem dX6_areFlags_0 : decode cX6_areFlags 0 = .ok (.iload_n 0, 1) := by decide +kernel
theorem dX6_areFlags_1 : decode cX6_areFlags 1 = .ok (.iconst 0, 1) := by decide +kernel
theorem dX6_areFlags_2 : decode cX6_areFlags 2 = .ok (.bipush 31, 2) := by decide +kernel
theorem dX6_areFlags_4 : decode cX6_areFlags 4 = .ok (.invokestatic 50, 3) := by decide +kernel
theorem dX6_areFlags_7 : decode cX6_areFlags 7 = .ok (.ireturn, 1) := by decide +kernel
theorem dX6_addPage_0 : decode cX6_addPage 0 = .ok (.iload_n 1, 1) := by decide +kernel
theorem dX6_addPage_1 : decode cX6_addPage 1 = .ok (.invokestatic 108, 3) := by decide +kernel
theorem dX6_addPage_4 : decode cX6_addPage 4 = .ok (.ifCond .eq 17, 3) := by decide +kernel
theorem dX6_addPage_7 : decode cX6_addPage 7 = .ok (.iload_n 2, 1) := by decide +kernel
theorem dX6_addPage_8 : decode cX6_addPage 8 = .ok (.invokestatic 111, 3) := by decide +kernel
theorem dX6_addPage_11 : decode cX6_addPage 11 = .ok (.ifCond .eq 10, 3) := by decide +kernel
theorem dX6_addPage_14 : decode cX6_addPage 14 = .ok (.iload_n 3, 1) := by decide +kernel
theorem dX6_addPage_15 : decode cX6_addPage 15 = .ok (.invokestatic 111, 3) := by decide +kernel
theorem dX6_addPage_18 : decode cX6_addPage 18 = .ok (.ifCond .ne 6, 3) := by decide +kernel
theorem dX6_addPage_21 : decode cX6_addPage 21 = .ok (.bipush (-2), 2) := by decide +kernel
theorem dX6_addPage_23 : decode cX6_addPage 23 = .ok (.ireturn, 1) := by decide +kernel
theorem dX6_addPage_24 : decode cX6_addPage 24 = .ok (.aload_n 0, 1) := by decide +kernel
theorem dX6_addPage_25 : decode cX6_addPage 25 = .ok (.getfield 7, 3) := by decide +kernel
theorem dX6_addPage_28 : decode cX6_addPage 28 = .ok (.iconst 0, 1) := by decide +kernel
theorem dX6_addPage_29 : decode cX6_addPage 29 = .ok (.iaload, 1) := by decide +kernel
theorem dX6_addPage_30 : decode cX6_addPage 30 = .ok (.bipush 32, 2) := by decide +kernel
theorem dX6_addPage_32 : decode cX6_addPage 32 = .ok (.if_icmp .ne 6, 3) := by decide +kernel
theorem dX6_addPage_35 : decode cX6_addPage 35 = .ok (.bipush (-3), 2) := by decide +kernel
theorem dX6_addPage_37 : decode cX6_addPage 37 = .ok (.ireturn, 1) := by decide +kernel
theorem dX6_addPage_38 : decode cX6_addPage 38 = .ok (.aload_n 0, 1) := by decide +kernel
theorem dX6_addPage_39 : decode cX6_addPage 39 = .ok (.invokevirtual 114, 3) := by decide +kernel
theorem dX6_addPage_42 : decode cX6_addPage 42 = .ok (.iconst 1, 1) := by decide +kernel
theorem dX6_addPage_43 : decode cX6_addPage 43 = .ok (.bipush 13, 2) := by decide +kernel
theorem dX6_addPage_45 : decode cX6_addPage 45 = .ok (.aload_n 0, 1) := by decide +kernel
theorem dX6_addPage_46 : decode cX6_addPage 46 = .ok (.getfield 7, 3) := by decide +kernel
theorem dX6_addPage_49 : decode cX6_addPage 49 = .ok (.iconst 0, 1) := by decide +kernel
theorem dX6_addPage_50 : decode cX6_addPage 50 = .ok (.iaload, 1) := by decide +kernel
theorem dX6_addPage_51 : decode cX6_addPage 51 = .ok (.imul, 1) := by decide +kernel
theorem dX6_addPage_52 : decode cX6_addPage 52 = .ok (.iadd, 1) := by decide +kernel
theorem dX6_addPage_53 : decode cX6_addPage 53 = .ok (.istore 4, 2) := by decide +kernel
theorem dX6_addPage_55 : decode cX6_addPage 55 = .ok (.aload_n 0, 1) := by decide +kernel
theorem dX6_addPage_56 : decode cX6_addPage 56 = .ok (.getfield 7, 3) := by decide +kernel
theorem dX6_addPage_59 : decode cX6_addPage 59 = .ok (.iload 4, 2) := by decide +kernel
theorem dX6_addPage_61 : decode cX6_addPage 61 = .ok (.iconst 0, 1) := by decide +kernel
theorem dX6_addPage_62 : decode cX6_addPage 62 = .ok (.iadd, 1) := by decide +kernel
theorem dX6_addPage_63 : decode cX6_addPage 63 = .ok (.iload_n 1, 1) := by decide +kernel
theorem dX6_addPage_64 : decode cX6_addPage 64 = .ok (.iastore, 1) := by decide +kernel
theorem dX6_addPage_65 : decode cX6_addPage 65 = .ok (.aload_n 0, 1) := by decide +kernel
theorem dX6_addPage_66 : decode cX6_addPage 66 = .ok (.getfield 7, 3) := by decide +kernel
theorem dX6_addPage_69 : decode cX6_addPage 69 = .ok (.iload 4, 2) := by decide +kernel
theorem dX6_addPage_71 : decode cX6_addPage 71 = .ok (.iconst 1, 1) := by decide +kernel
theorem dX6_addPage_72 : decode cX6_addPage 72 = .ok (.iadd, 1) := by decide +kernel
theorem dX6_addPage_73 : decode cX6_addPage 73 = .ok (.iload_n 2, 1) := by decide +kernel
theorem dX6_addPage_74 : decode cX6_addPage 74 = .ok (.iastore, 1) := by decide +kernel
theorem dX6_addPage_75 : decode cX6_addPage 75 = .ok (.aload_n 0, 1) := by decide +kernel
theorem dX6_addPage_76 : decode cX6_addPage 76 = .ok (.getfield 7, 3) := by decide +kernel
theorem dX6_addPage_79 : decode cX6_addPage 79 = .ok (.iload 4, 2) := by decide +kernel
theorem dX6_addPage_81 : decode cX6_addPage 81 = .ok (.iconst 2, 1) := by decide +kernel
theorem dX6_addPage_82 : decode cX6_addPage 82 = .ok (.iadd, 1) := by decide +kernel
theorem dX6_addPage_83 : decode cX6_addPage 83 = .ok (.iload_n 3, 1) := by decide +kernel
theorem dX6_addPage_84 : decode cX6_addPage 84 = .ok (.iastore, 1) := by decide +kernel
theorem dX6_addPage_85 : decode cX6_addPage 85 = .ok (.aload_n 0, 1) := by decide +kernel
theorem dX6_addPage_86 : decode cX6_addPage 86 = .ok (.getfield 7, 3) := by decide +kernel
theorem dX6_addPage_89 : decode cX6_addPage 89 = .ok (.iload 4, 2) := by decide +kernel
theorem dX6_addPage_91 : decode cX6_addPage 91 = .ok (.iconst 3, 1) := by decide +kernel
theorem dX6_addPage_92 : decode cX6_addPage 92 = .ok (.iadd, 1) := by decide +kernel
theorem dX6_addPage_93 : decode cX6_addPage 93 = .ok (.iconst 0, 1) := by decide +kernel
theorem dX6_addPage_94 : decode cX6_addPage 94 = .ok (.iastore, 1) := by decide +kernel
theorem dX6_addPage_95 : decode cX6_addPage 95 = .ok (.aload_n 0, 1) := by decide +kernel
theorem dX6_addPage_96 : decode cX6_addPage 96 = .ok (.getfield 7, 3) := by decide +kernel
theorem dX6_addPage_99 : decode cX6_addPage 99 = .ok (.iconst 0, 1) := by decide +kernel
theorem dX6_addPage_100 : decode cX6_addPage 100 = .ok (.dup2, 1) := by decide +kernel
theorem dX6_addPage_101 : decode cX6_addPage 101 = .ok (.iaload, 1) := by decide +kernel
theorem dX6_addPage_102 : decode cX6_addPage 102 = .ok (.iconst 1, 1) := by decide +kernel
theorem dX6_addPage_103 : decode cX6_addPage 103 = .ok (.iadd, 1) := by decide +kernel
theorem dX6_addPage_104 : decode cX6_addPage 104 = .ok (.iastore, 1) := by decide +kernel
theorem dX6_addPage_105 : decode cX6_addPage 105 = .ok (.aload_n 0, 1) := by decide +kernel
theorem dX6_addPage_106 : decode cX6_addPage 106 = .ok (.getfield 7, 3) := by decide +kernel
theorem dX6_addPage_109 : decode cX6_addPage 109 = .ok (.iconst 0, 1) := by decide +kernel
theorem dX6_addPage_110 : decode cX6_addPage 110 = .ok (.iaload, 1) := by decide +kernel
theorem dX6_addPage_111 : decode cX6_addPage 111 = .ok (.iconst 1, 1) := by decide +kernel
theorem dX6_addPage_112 : decode cX6_addPage 112 = .ok (.isub, 1) := by decide +kernel
theorem dX6_addPage_113 : decode cX6_addPage 113 = .ok (.ireturn, 1) := by decide +kernel
theorem dX6_setMood_0 : decode cX6_setMood 0 = .ok (.aload_n 0, 1) := by decide +kernel
theorem dX6_setMood_1 : decode cX6_setMood 1 = .ok (.iload_n 1, 1) := by decide +kernel
theorem dX6_setMood_2 : decode cX6_setMood 2 = .ok (.invokevirtual 54, 3) := by decide +kernel
theorem dX6_setMood_5 : decode cX6_setMood 5 = .ok (.ifCond .ne 5, 3) := by decide +kernel
theorem dX6_setMood_8 : decode cX6_setMood 8 = .ok (.iconst (-1), 1) := by decide +kernel
theorem dX6_setMood_9 : decode cX6_setMood 9 = .ok (.ireturn, 1) := by decide +kernel
theorem dX6_setMood_10 : decode cX6_setMood 10 = .ok (.iload_n 2, 1) := by decide +kernel
theorem dX6_setMood_11 : decode cX6_setMood 11 = .ok (.invokestatic 108, 3) := by decide +kernel
theorem dX6_setMood_14 : decode cX6_setMood 14 = .ok (.ifCond .eq 13, 3) := by decide +kernel
theorem dX6_setMood_17 : decode cX6_setMood 17 = .ok (.aload_n 0, 1) := by decide +kernel
theorem dX6_setMood_18 : decode cX6_setMood 18 = .ok (.iload_n 1, 1) := by decide +kernel
theorem dX6_setMood_19 : decode cX6_setMood 19 = .ok (.iconst 0, 1) := by decide +kernel
theorem dX6_setMood_20 : decode cX6_setMood 20 = .ok (.invokevirtual 62, 3) := by decide +kernel
theorem dX6_setMood_23 : decode cX6_setMood 23 = .ok (.iload_n 2, 1) := by decide +kernel
theorem dX6_setMood_24 : decode cX6_setMood 24 = .ok (.if_icmp .ne 18, 3) := by decide +kernel
theorem dX6_setMood_27 : decode cX6_setMood 27 = .ok (.iload_n 2, 1) := by decide +kernel
theorem dX6_setMood_28 : decode cX6_setMood 28 = .ok (.invokestatic 108, 3) := by decide +kernel
theorem dX6_setMood_31 : decode cX6_setMood 31 = .ok (.ifCond .eq 8, 3) := by decide +kernel
theorem dX6_setMood_34 : decode cX6_setMood 34 = .ok (.bipush (-5), 2) := by decide +kernel
theorem dX6_setMood_36 : decode cX6_setMood 36 = .ok (.goto 5, 3) := by decide +kernel
theorem dX6_setMood_39 : decode cX6_setMood 39 = .ok (.bipush (-2), 2) := by decide +kernel
theorem dX6_setMood_41 : decode cX6_setMood 41 = .ok (.ireturn, 1) := by decide +kernel
theorem dX6_setMood_42 : decode cX6_setMood 42 = .ok (.aload_n 0, 1) := by decide +kernel
theorem dX6_setMood_43 : decode cX6_setMood 43 = .ok (.invokevirtual 114, 3) := by decide +kernel
theorem dX6_setMood_46 : decode cX6_setMood 46 = .ok (.aload_n 0, 1) := by decide +kernel
theorem dX6_setMood_47 : decode cX6_setMood 47 = .ok (.getfield 7, 3) := by decide +kernel
theorem dX6_setMood_50 : decode cX6_setMood 50 = .ok (.iconst 1, 1) := by decide +kernel
theorem dX6_setMood_51 : decode cX6_setMood 51 = .ok (.bipush 13, 2) := by decide +kernel
theorem dX6_setMood_53 : decode cX6_setMood 53 = .ok (.iload_n 1, 1) := by decide +kernel
theorem dX6_setMood_54 : decode cX6_setMood 54 = .ok (.imul, 1) := by decide +kernel
theorem dX6_setMood_55 : decode cX6_setMood 55 = .ok (.iadd, 1) := by decide +kernel
theorem dX6_setMood_56 : decode cX6_setMood 56 = .ok (.iconst 0, 1) := by decide +kernel
theorem dX6_setMood_57 : decode cX6_setMood 57 = .ok (.iadd, 1) := by decide +kernel
theorem dX6_setMood_58 : decode cX6_setMood 58 = .ok (.iload_n 2, 1) := by decide +kernel
theorem dX6_setMood_59 : decode cX6_setMood 59 = .ok (.iastore, 1) := by decide +kernel
theorem dX6_setMood_60 : decode cX6_setMood 60 = .ok (.aload_n 0, 1) := by decide +kernel
theorem dX6_setMood_61 : decode cX6_setMood 61 = .ok (.iload_n 1, 1) := by decide +kernel
theorem dX6_setMood_62 : decode cX6_setMood 62 = .ok (.iconst 3, 1) := by decide +kernel
theorem dX6_setMood_63 : decode cX6_setMood 63 = .ok (.invokevirtual 62, 3) := by decide +kernel
theorem dX6_setMood_66 : decode cX6_setMood 66 = .ok (.ireturn, 1) := by decide +kernel
theorem dX6_whyNot_0 : decode cX6_whyNot 0 = .ok (.aload_n 0, 1) := by decide +kernel
theorem dX6_whyNot_1 : decode cX6_whyNot 1 = .ok (.iload_n 1, 1) := by decide +kernel
theorem dX6_whyNot_2 : decode cX6_whyNot 2 = .ok (.invokevirtual 54, 3) := by decide +kernel
theorem dX6_whyNot_5 : decode cX6_whyNot 5 = .ok (.ifCond .eq 11, 3) := by decide +kernel
theorem dX6_whyNot_8 : decode cX6_whyNot 8 = .ok (.aload_n 0, 1) := by decide +kernel
theorem dX6_whyNot_9 : decode cX6_whyNot 9 = .ok (.iload_n 2, 1) := by decide +kernel
theorem dX6_whyNot_10 : decode cX6_whyNot 10 = .ok (.invokevirtual 54, 3) := by decide +kernel
theorem dX6_whyNot_13 : decode cX6_whyNot 13 = .ok (.ifCond .ne 7, 3) := by decide +kernel
theorem dX6_whyNot_16 : decode cX6_whyNot 16 = .ok (.iconst (-1), 1) := by decide +kernel
theorem dX6_whyNot_17 : decode cX6_whyNot 17 = .ok (.goto 19, 3) := by decide +kernel
theorem dX6_whyNot_20 : decode cX6_whyNot 20 = .ok (.aload_n 0, 1) := by decide +kernel
theorem dX6_whyNot_21 : decode cX6_whyNot 21 = .ok (.iload_n 1, 1) := by decide +kernel
theorem dX6_whyNot_22 : decode cX6_whyNot 22 = .ok (.iconst 3, 1) := by decide +kernel
theorem dX6_whyNot_23 : decode cX6_whyNot 23 = .ok (.invokevirtual 62, 3) := by decide +kernel
theorem dX6_whyNot_26 : decode cX6_whyNot 26 = .ok (.iconst 3, 1) := by decide +kernel
theorem dX6_whyNot_27 : decode cX6_whyNot 27 = .ok (.if_icmp .ne 8, 3) := by decide +kernel
theorem dX6_whyNot_30 : decode cX6_whyNot 30 = .ok (.bipush (-3), 2) := by decide +kernel
theorem dX6_whyNot_32 : decode cX6_whyNot 32 = .ok (.goto 4, 3) := by decide +kernel
theorem dX6_whyNot_35 : decode cX6_whyNot 35 = .ok (.iconst 0, 1) := by decide +kernel
theorem dX6_whyNot_36 : decode cX6_whyNot 36 = .ok (.ireturn, 1) := by decide +kernel
theorem dX6_adds_0 : decode cX6_adds 0 = .ok (.aload_n 0, 1) := by decide +kernel
theorem dX6_adds_1 : decode cX6_adds 1 = .ok (.iload_n 1, 1) := by decide +kernel
theorem dX6_adds_2 : decode cX6_adds 2 = .ok (.iconst 3, 1) := by decide +kernel
theorem dX6_adds_3 : decode cX6_adds 3 = .ok (.invokevirtual 62, 3) := by decide +kernel
theorem dX6_adds_6 : decode cX6_adds 6 = .ok (.istore 5, 2) := by decide +kernel
theorem dX6_adds_8 : decode cX6_adds 8 = .ok (.iconst 1, 1) := by decide +kernel
theorem dX6_adds_9 : decode cX6_adds 9 = .ok (.bipush 13, 2) := by decide +kernel
theorem dX6_adds_11 : decode cX6_adds 11 = .ok (.iload_n 1, 1) := by decide +kernel
theorem dX6_adds_12 : decode cX6_adds 12 = .ok (.imul, 1) := by decide +kernel
theorem dX6_adds_13 : decode cX6_adds 13 = .ok (.iadd, 1) := by decide +kernel
theorem dX6_adds_14 : decode cX6_adds 14 = .ok (.iconst 4, 1) := by decide +kernel
theorem dX6_adds_15 : decode cX6_adds 15 = .ok (.iadd, 1) := by decide +kernel
theorem dX6_adds_16 : decode cX6_adds 16 = .ok (.iconst 3, 1) := by decide +kernel
theorem dX6_adds_17 : decode cX6_adds 17 = .ok (.iload 5, 2) := by decide +kernel
theorem dX6_adds_19 : decode cX6_adds 19 = .ok (.imul, 1) := by decide +kernel
theorem dX6_adds_20 : decode cX6_adds 20 = .ok (.iadd, 1) := by decide +kernel
theorem dX6_adds_21 : decode cX6_adds 21 = .ok (.istore 6, 2) := by decide +kernel
theorem dX6_adds_23 : decode cX6_adds 23 = .ok (.aload_n 0, 1) := by decide +kernel
theorem dX6_adds_24 : decode cX6_adds 24 = .ok (.getfield 7, 3) := by decide +kernel
theorem dX6_adds_27 : decode cX6_adds 27 = .ok (.iload 6, 2) := by decide +kernel
theorem dX6_adds_29 : decode cX6_adds 29 = .ok (.iconst 0, 1) := by decide +kernel
theorem dX6_adds_30 : decode cX6_adds 30 = .ok (.iadd, 1) := by decide +kernel
theorem dX6_adds_31 : decode cX6_adds 31 = .ok (.iload_n 2, 1) := by decide +kernel
theorem dX6_adds_32 : decode cX6_adds 32 = .ok (.iastore, 1) := by decide +kernel
theorem dX6_adds_33 : decode cX6_adds 33 = .ok (.aload_n 0, 1) := by decide +kernel
theorem dX6_adds_34 : decode cX6_adds 34 = .ok (.getfield 7, 3) := by decide +kernel
theorem dX6_adds_37 : decode cX6_adds 37 = .ok (.iload 6, 2) := by decide +kernel
theorem dX6_adds_39 : decode cX6_adds 39 = .ok (.iconst 1, 1) := by decide +kernel
theorem dX6_adds_40 : decode cX6_adds 40 = .ok (.iadd, 1) := by decide +kernel
theorem dX6_adds_41 : decode cX6_adds 41 = .ok (.iload_n 3, 1) := by decide +kernel
theorem dX6_adds_42 : decode cX6_adds 42 = .ok (.iastore, 1) := by decide +kernel
theorem dX6_adds_43 : decode cX6_adds 43 = .ok (.aload_n 0, 1) := by decide +kernel
theorem dX6_adds_44 : decode cX6_adds 44 = .ok (.getfield 7, 3) := by decide +kernel
theorem dX6_adds_47 : decode cX6_adds 47 = .ok (.iload 6, 2) := by decide +kernel
theorem dX6_adds_49 : decode cX6_adds 49 = .ok (.iconst 2, 1) := by decide +kernel
theorem dX6_adds_50 : decode cX6_adds 50 = .ok (.iadd, 1) := by decide +kernel
theorem dX6_adds_51 : decode cX6_adds 51 = .ok (.iload 4, 2) := by decide +kernel
theorem dX6_adds_53 : decode cX6_adds 53 = .ok (.iastore, 1) := by decide +kernel
theorem dX6_adds_54 : decode cX6_adds 54 = .ok (.aload_n 0, 1) := by decide +kernel
theorem dX6_adds_55 : decode cX6_adds 55 = .ok (.getfield 7, 3) := by decide +kernel
theorem dX6_adds_58 : decode cX6_adds 58 = .ok (.iconst 1, 1) := by decide +kernel
theorem dX6_adds_59 : decode cX6_adds 59 = .ok (.bipush 13, 2) := by decide +kernel
theorem dX6_adds_61 : decode cX6_adds 61 = .ok (.iload_n 1, 1) := by decide +kernel
theorem dX6_adds_62 : decode cX6_adds 62 = .ok (.imul, 1) := by decide +kernel
theorem dX6_adds_63 : decode cX6_adds 63 = .ok (.iadd, 1) := by decide +kernel
theorem dX6_adds_64 : decode cX6_adds 64 = .ok (.iconst 3, 1) := by decide +kernel
theorem dX6_adds_65 : decode cX6_adds 65 = .ok (.iadd, 1) := by decide +kernel
theorem dX6_adds_66 : decode cX6_adds 66 = .ok (.dup2, 1) := by decide +kernel
theorem dX6_adds_67 : decode cX6_adds 67 = .ok (.iaload, 1) := by decide +kernel
theorem dX6_adds_68 : decode cX6_adds 68 = .ok (.iconst 1, 1) := by decide +kernel
theorem dX6_adds_69 : decode cX6_adds 69 = .ok (.iadd, 1) := by decide +kernel
theorem dX6_adds_70 : decode cX6_adds 70 = .ok (.iastore, 1) := by decide +kernel
theorem dX6_adds_71 : decode cX6_adds 71 = .ok (.iload 5, 2) := by decide +kernel
theorem dX6_adds_73 : decode cX6_adds 73 = .ok (.ireturn, 1) := by decide +kernel
theorem dX6_addChoice_0 : decode cX6_addChoice 0 = .ok (.aload_n 0, 1) := by decide +kernel
theorem dX6_addChoice_1 : decode cX6_addChoice 1 = .ok (.iload_n 1, 1) := by decide +kernel
theorem dX6_addChoice_2 : decode cX6_addChoice 2 = .ok (.iload_n 2, 1) := by decide +kernel
theorem dX6_addChoice_3 : decode cX6_addChoice 3 = .ok (.invokevirtual 117, 3) := by decide +kernel
theorem dX6_addChoice_6 : decode cX6_addChoice 6 = .ok (.istore 5, 2) := by decide +kernel
theorem dX6_addChoice_8 : decode cX6_addChoice 8 = .ok (.iload 5, 2) := by decide +kernel
theorem dX6_addChoice_10 : decode cX6_addChoice 10 = .ok (.iconst (-1), 1) := by decide +kernel
theorem dX6_addChoice_11 : decode cX6_addChoice 11 = .ok (.if_icmp .ne 5, 3) := by decide +kernel
theorem dX6_addChoice_14 : decode cX6_addChoice 14 = .ok (.iconst (-1), 1) := by decide +kernel
theorem dX6_addChoice_15 : decode cX6_addChoice 15 = .ok (.ireturn, 1) := by decide +kernel
theorem dX6_addChoice_16 : decode cX6_addChoice 16 = .ok (.iload_n 3, 1) := by decide +kernel
theorem dX6_addChoice_17 : decode cX6_addChoice 17 = .ok (.invokestatic 111, 3) := by decide +kernel
theorem dX6_addChoice_20 : decode cX6_addChoice 20 = .ok (.ifCond .eq 11, 3) := by decide +kernel
theorem dX6_addChoice_23 : decode cX6_addChoice 23 = .ok (.iload 4, 2) := by decide +kernel
theorem dX6_addChoice_25 : decode cX6_addChoice 25 = .ok (.invokestatic 111, 3) := by decide +kernel
theorem dX6_addChoice_28 : decode cX6_addChoice 28 = .ok (.ifCond .ne 6, 3) := by decide +kernel
theorem dX6_addChoice_31 : decode cX6_addChoice 31 = .ok (.bipush (-2), 2) := by decide +kernel
theorem dX6_addChoice_33 : decode cX6_addChoice 33 = .ok (.ireturn, 1) := by decide +kernel
theorem dX6_addChoice_34 : decode cX6_addChoice 34 = .ok (.iload 5, 2) := by decide +kernel
theorem dX6_addChoice_36 : decode cX6_addChoice 36 = .ok (.ifCond .ge 6, 3) := by decide +kernel
theorem dX6_addChoice_39 : decode cX6_addChoice 39 = .ok (.iload 5, 2) := by decide +kernel
theorem dX6_addChoice_41 : decode cX6_addChoice 41 = .ok (.ireturn, 1) := by decide +kernel
theorem dX6_addChoice_42 : decode cX6_addChoice 42 = .ok (.aload_n 0, 1) := by decide +kernel
theorem dX6_addChoice_43 : decode cX6_addChoice 43 = .ok (.invokevirtual 114, 3) := by decide +kernel
theorem dX6_addChoice_46 : decode cX6_addChoice 46 = .ok (.aload_n 0, 1) := by decide +kernel
theorem dX6_addChoice_47 : decode cX6_addChoice 47 = .ok (.iload_n 1, 1) := by decide +kernel
theorem dX6_addChoice_48 : decode cX6_addChoice 48 = .ok (.iload_n 2, 1) := by decide +kernel
theorem dX6_addChoice_49 : decode cX6_addChoice 49 = .ok (.iload_n 3, 1) := by decide +kernel
theorem dX6_addChoice_50 : decode cX6_addChoice 50 = .ok (.iload 4, 2) := by decide +kernel
theorem dX6_addChoice_52 : decode cX6_addChoice 52 = .ok (.invokevirtual 120, 3) := by decide +kernel
theorem dX6_addChoice_55 : decode cX6_addChoice 55 = .ok (.ireturn, 1) := by decide +kernel
theorem dX6_takeChoice_0 : decode cX6_takeChoice 0 = .ok (.aload_n 0, 1) := by decide +kernel
theorem dX6_takeChoice_1 : decode cX6_takeChoice 1 = .ok (.iload_n 1, 1) := by decide +kernel
theorem dX6_takeChoice_2 : decode cX6_takeChoice 2 = .ok (.iload_n 2, 1) := by decide +kernel
theorem dX6_takeChoice_3 : decode cX6_takeChoice 3 = .ok (.invokevirtual 124, 3) := by decide +kernel
theorem dX6_takeChoice_6 : decode cX6_takeChoice 6 = .ok (.ifCond .ne 5, 3) := by decide +kernel
theorem dX6_takeChoice_9 : decode cX6_takeChoice 9 = .ok (.iconst (-1), 1) := by decide +kernel
theorem dX6_takeChoice_10 : decode cX6_takeChoice 10 = .ok (.ireturn, 1) := by decide +kernel
theorem dX6_takeChoice_11 : decode cX6_takeChoice 11 = .ok (.aload_n 0, 1) := by decide +kernel
theorem dX6_takeChoice_12 : decode cX6_takeChoice 12 = .ok (.invokevirtual 114, 3) := by decide +kernel
theorem dX6_takeChoice_15 : decode cX6_takeChoice 15 = .ok (.aload_n 0, 1) := by decide +kernel
theorem dX6_takeChoice_16 : decode cX6_takeChoice 16 = .ok (.iload_n 1, 1) := by decide +kernel
theorem dX6_takeChoice_17 : decode cX6_takeChoice 17 = .ok (.iload_n 2, 1) := by decide +kernel
theorem dX6_takeChoice_18 : decode cX6_takeChoice 18 = .ok (.iconst 0, 1) := by decide +kernel
theorem dX6_takeChoice_19 : decode cX6_takeChoice 19 = .ok (.invokevirtual 58, 3) := by decide +kernel
theorem dX6_takeChoice_22 : decode cX6_takeChoice 22 = .ok (.istore_n 3, 1) := by decide +kernel
theorem dX6_takeChoice_23 : decode cX6_takeChoice 23 = .ok (.iconst 1, 1) := by decide +kernel
theorem dX6_takeChoice_24 : decode cX6_takeChoice 24 = .ok (.bipush 13, 2) := by decide +kernel
theorem dX6_takeChoice_26 : decode cX6_takeChoice 26 = .ok (.iload_n 1, 1) := by decide +kernel
theorem dX6_takeChoice_27 : decode cX6_takeChoice 27 = .ok (.imul, 1) := by decide +kernel
theorem dX6_takeChoice_28 : decode cX6_takeChoice 28 = .ok (.iadd, 1) := by decide +kernel
theorem dX6_takeChoice_29 : decode cX6_takeChoice 29 = .ok (.iconst 4, 1) := by decide +kernel
theorem dX6_takeChoice_30 : decode cX6_takeChoice 30 = .ok (.iadd, 1) := by decide +kernel
theorem dX6_takeChoice_31 : decode cX6_takeChoice 31 = .ok (.iconst 3, 1) := by decide +kernel
theorem dX6_takeChoice_32 : decode cX6_takeChoice 32 = .ok (.aload_n 0, 1) := by decide +kernel
theorem dX6_takeChoice_33 : decode cX6_takeChoice 33 = .ok (.iload_n 1, 1) := by decide +kernel
theorem dX6_takeChoice_34 : decode cX6_takeChoice 34 = .ok (.iconst 3, 1) := by decide +kernel
theorem dX6_takeChoice_35 : decode cX6_takeChoice 35 = .ok (.invokevirtual 62, 3) := by decide +kernel
theorem dX6_takeChoice_38 : decode cX6_takeChoice 38 = .ok (.iconst 1, 1) := by decide +kernel
theorem dX6_takeChoice_39 : decode cX6_takeChoice 39 = .ok (.isub, 1) := by decide +kernel
theorem dX6_takeChoice_40 : decode cX6_takeChoice 40 = .ok (.imul, 1) := by decide +kernel
theorem dX6_takeChoice_41 : decode cX6_takeChoice 41 = .ok (.iadd, 1) := by decide +kernel
theorem dX6_takeChoice_42 : decode cX6_takeChoice 42 = .ok (.istore 4, 2) := by decide +kernel
theorem dX6_takeChoice_44 : decode cX6_takeChoice 44 = .ok (.iconst 1, 1) := by decide +kernel
theorem dX6_takeChoice_45 : decode cX6_takeChoice 45 = .ok (.bipush 13, 2) := by decide +kernel
theorem dX6_takeChoice_47 : decode cX6_takeChoice 47 = .ok (.iload_n 1, 1) := by decide +kernel
theorem dX6_takeChoice_48 : decode cX6_takeChoice 48 = .ok (.imul, 1) := by decide +kernel
theorem dX6_takeChoice_49 : decode cX6_takeChoice 49 = .ok (.iadd, 1) := by decide +kernel
theorem dX6_takeChoice_50 : decode cX6_takeChoice 50 = .ok (.iconst 4, 1) := by decide +kernel
theorem dX6_takeChoice_51 : decode cX6_takeChoice 51 = .ok (.iadd, 1) := by decide +kernel
theorem dX6_takeChoice_52 : decode cX6_takeChoice 52 = .ok (.iconst 3, 1) := by decide +kernel
theorem dX6_takeChoice_53 : decode cX6_takeChoice 53 = .ok (.iload_n 2, 1) := by decide +kernel
theorem dX6_takeChoice_54 : decode cX6_takeChoice 54 = .ok (.imul, 1) := by decide +kernel
theorem dX6_takeChoice_55 : decode cX6_takeChoice 55 = .ok (.iadd, 1) := by decide +kernel
theorem dX6_takeChoice_56 : decode cX6_takeChoice 56 = .ok (.istore 5, 2) := by decide +kernel
theorem dX6_takeChoice_58 : decode cX6_takeChoice 58 = .ok (.iload 5, 2) := by decide +kernel
theorem dX6_takeChoice_60 : decode cX6_takeChoice 60 = .ok (.iload 4, 2) := by decide +kernel
theorem dX6_takeChoice_62 : decode cX6_takeChoice 62 = .ok (.if_icmp .ge 25, 3) := by decide +kernel
theorem dX6_takeChoice_65 : decode cX6_takeChoice 65 = .ok (.aload_n 0, 1) := by decide +kernel
theorem dX6_takeChoice_66 : decode cX6_takeChoice 66 = .ok (.getfield 7, 3) := by decide +kernel
theorem dX6_takeChoice_69 : decode cX6_takeChoice 69 = .ok (.iload 5, 2) := by decide +kernel
theorem dX6_takeChoice_71 : decode cX6_takeChoice 71 = .ok (.aload_n 0, 1) := by decide +kernel
theorem dX6_takeChoice_72 : decode cX6_takeChoice 72 = .ok (.getfield 7, 3) := by decide +kernel
theorem dX6_takeChoice_75 : decode cX6_takeChoice 75 = .ok (.iload 5, 2) := by decide +kernel
theorem dX6_takeChoice_77 : decode cX6_takeChoice 77 = .ok (.iconst 3, 1) := by decide +kernel
theorem dX6_takeChoice_78 : decode cX6_takeChoice 78 = .ok (.iadd, 1) := by decide +kernel
theorem dX6_takeChoice_79 : decode cX6_takeChoice 79 = .ok (.iaload, 1) := by decide +kernel
theorem dX6_takeChoice_80 : decode cX6_takeChoice 80 = .ok (.iastore, 1) := by decide +kernel
theorem dX6_takeChoice_81 : decode cX6_takeChoice 81 = .ok (.iinc 5 1, 3) := by decide +kernel
theorem dX6_takeChoice_84 : decode cX6_takeChoice 84 = .ok (.goto (-26), 3) := by decide +kernel
theorem dX6_takeChoice_87 : decode cX6_takeChoice 87 = .ok (.aload_n 0, 1) := by decide +kernel
theorem dX6_takeChoice_88 : decode cX6_takeChoice 88 = .ok (.getfield 7, 3) := by decide +kernel
theorem dX6_takeChoice_91 : decode cX6_takeChoice 91 = .ok (.iconst 1, 1) := by decide +kernel
theorem dX6_takeChoice_92 : decode cX6_takeChoice 92 = .ok (.bipush 13, 2) := by decide +kernel
theorem dX6_takeChoice_94 : decode cX6_takeChoice 94 = .ok (.iload_n 1, 1) := by decide +kernel
theorem dX6_takeChoice_95 : decode cX6_takeChoice 95 = .ok (.imul, 1) := by decide +kernel
theorem dX6_takeChoice_96 : decode cX6_takeChoice 96 = .ok (.iadd, 1) := by decide +kernel
theorem dX6_takeChoice_97 : decode cX6_takeChoice 97 = .ok (.iconst 3, 1) := by decide +kernel
theorem dX6_takeChoice_98 : decode cX6_takeChoice 98 = .ok (.iadd, 1) := by decide +kernel
theorem dX6_takeChoice_99 : decode cX6_takeChoice 99 = .ok (.dup2, 1) := by decide +kernel
theorem dX6_takeChoice_100 : decode cX6_takeChoice 100 = .ok (.iaload, 1) := by decide +kernel
theorem dX6_takeChoice_101 : decode cX6_takeChoice 101 = .ok (.iconst 1, 1) := by decide +kernel
theorem dX6_takeChoice_102 : decode cX6_takeChoice 102 = .ok (.isub, 1) := by decide +kernel
theorem dX6_takeChoice_103 : decode cX6_takeChoice 103 = .ok (.iastore, 1) := by decide +kernel
theorem dX6_takeChoice_104 : decode cX6_takeChoice 104 = .ok (.iload_n 3, 1) := by decide +kernel
theorem dX6_takeChoice_105 : decode cX6_takeChoice 105 = .ok (.ireturn, 1) := by decide +kernel
theorem dX6_other_0 : decode cX6_other 0 = .ok (.iload_n 0, 1) := by decide +kernel
theorem dX6_other_1 : decode cX6_other 1 = .ok (.iload_n 1, 1) := by decide +kernel
theorem dX6_other_2 : decode cX6_other 2 = .ok (.if_icmp .ne 7, 3) := by decide +kernel
theorem dX6_other_5 : decode cX6_other 5 = .ok (.iload_n 2, 1) := by decide +kernel
theorem dX6_other_6 : decode cX6_other 6 = .ok (.goto 13, 3) := by decide +kernel
theorem dX6_other_9 : decode cX6_other 9 = .ok (.iload_n 0, 1) := by decide +kernel
theorem dX6_other_10 : decode cX6_other 10 = .ok (.iload_n 2, 1) := by decide +kernel
theorem dX6_other_11 : decode cX6_other 11 = .ok (.if_icmp .ne 7, 3) := by decide +kernel
theorem dX6_other_14 : decode cX6_other 14 = .ok (.iload_n 1, 1) := by decide +kernel
theorem dX6_other_15 : decode cX6_other 15 = .ok (.goto 4, 3) := by decide +kernel
theorem dX6_other_18 : decode cX6_other 18 = .ok (.iload_n 0, 1) := by decide +kernel
theorem dX6_other_19 : decode cX6_other 19 = .ok (.ireturn, 1) := by decide +kernel
theorem dX6_leadingTo_0 : decode cX6_leadingTo 0 = .ok (.iconst 0, 1) := by decide +kernel
theorem dX6_leadingTo_1 : decode cX6_leadingTo 1 = .ok (.istore_n 2, 1) := by decide +kernel
theorem dX6_leadingTo_2 : decode cX6_leadingTo 2 = .ok (.iconst 0, 1) := by decide +kernel
theorem dX6_leadingTo_3 : decode cX6_leadingTo 3 = .ok (.istore_n 3, 1) := by decide +kernel
theorem dX6_leadingTo_4 : decode cX6_leadingTo 4 = .ok (.iload_n 3, 1) := by decide +kernel
theorem dX6_leadingTo_5 : decode cX6_leadingTo 5 = .ok (.aload_n 0, 1) := by decide +kernel
theorem dX6_leadingTo_6 : decode cX6_leadingTo 6 = .ok (.getfield 7, 3) := by decide +kernel
theorem dX6_leadingTo_9 : decode cX6_leadingTo 9 = .ok (.iconst 0, 1) := by decide +kernel
theorem dX6_leadingTo_10 : decode cX6_leadingTo 10 = .ok (.iaload, 1) := by decide +kernel
theorem dX6_leadingTo_11 : decode cX6_leadingTo 11 = .ok (.if_icmp .ge 49, 3) := by decide +kernel
theorem dX6_leadingTo_14 : decode cX6_leadingTo 14 = .ok (.iconst 0, 1) := by decide +kernel
theorem dX6_leadingTo_15 : decode cX6_leadingTo 15 = .ok (.istore 4, 2) := by decide +kernel
theorem dX6_leadingTo_17 : decode cX6_leadingTo 17 = .ok (.iload 4, 2) := by decide +kernel
theorem dX6_leadingTo_19 : decode cX6_leadingTo 19 = .ok (.aload_n 0, 1) := by decide +kernel
theorem dX6_leadingTo_20 : decode cX6_leadingTo 20 = .ok (.iload_n 3, 1) := by decide +kernel
theorem dX6_leadingTo_21 : decode cX6_leadingTo 21 = .ok (.iconst 3, 1) := by decide +kernel
theorem dX6_leadingTo_22 : decode cX6_leadingTo 22 = .ok (.invokevirtual 62, 3) := by decide +kernel
theorem dX6_leadingTo_25 : decode cX6_leadingTo 25 = .ok (.if_icmp .ge 29, 3) := by decide +kernel
theorem dX6_leadingTo_28 : decode cX6_leadingTo 28 = .ok (.iload_n 2, 1) := by decide +kernel
theorem dX6_leadingTo_29 : decode cX6_leadingTo 29 = .ok (.aload_n 0, 1) := by decide +kernel
theorem dX6_leadingTo_30 : decode cX6_leadingTo 30 = .ok (.iload_n 3, 1) := by decide +kernel
theorem dX6_leadingTo_31 : decode cX6_leadingTo 31 = .ok (.iload 4, 2) := by decide +kernel
theorem dX6_leadingTo_33 : decode cX6_leadingTo 33 = .ok (.iconst 0, 1) := by decide +kernel
theorem dX6_leadingTo_34 : decode cX6_leadingTo 34 = .ok (.invokevirtual 58, 3) := by decide +kernel
theorem dX6_leadingTo_37 : decode cX6_leadingTo 37 = .ok (.iload_n 1, 1) := by decide +kernel
theorem dX6_leadingTo_38 : decode cX6_leadingTo 38 = .ok (.if_icmp .ne 7, 3) := by decide +kernel
theorem dX6_leadingTo_41 : decode cX6_leadingTo 41 = .ok (.iconst 1, 1) := by decide +kernel
theorem dX6_leadingTo_42 : decode cX6_leadingTo 42 = .ok (.goto 4, 3) := by decide +kernel
theorem dX6_leadingTo_45 : decode cX6_leadingTo 45 = .ok (.iconst 0, 1) := by decide +kernel
theorem dX6_leadingTo_46 : decode cX6_leadingTo 46 = .ok (.iadd, 1) := by decide +kernel
theorem dX6_leadingTo_47 : decode cX6_leadingTo 47 = .ok (.istore_n 2, 1) := by decide +kernel
theorem dX6_leadingTo_48 : decode cX6_leadingTo 48 = .ok (.iinc 4 1, 3) := by decide +kernel
theorem dX6_leadingTo_51 : decode cX6_leadingTo 51 = .ok (.goto (-34), 3) := by decide +kernel
theorem dX6_leadingTo_54 : decode cX6_leadingTo 54 = .ok (.iinc 3 1, 3) := by decide +kernel
theorem dX6_leadingTo_57 : decode cX6_leadingTo 57 = .ok (.goto (-53), 3) := by decide +kernel
theorem dX6_leadingTo_60 : decode cX6_leadingTo 60 = .ok (.iload_n 2, 1) := by decide +kernel
theorem dX6_leadingTo_61 : decode cX6_leadingTo 61 = .ok (.ireturn, 1) := by decide +kernel
theorem dX6_exchange_0 : decode cX6_exchange 0 = .ok (.aload_n 0, 1) := by decide +kernel
theorem dX6_exchange_1 : decode cX6_exchange 1 = .ok (.iload_n 1, 1) := by decide +kernel
theorem dX6_exchange_2 : decode cX6_exchange 2 = .ok (.invokevirtual 54, 3) := by decide +kernel
theorem dX6_exchange_5 : decode cX6_exchange 5 = .ok (.ifCond .eq 16, 3) := by decide +kernel
theorem dX6_exchange_8 : decode cX6_exchange 8 = .ok (.aload_n 0, 1) := by decide +kernel
theorem dX6_exchange_9 : decode cX6_exchange 9 = .ok (.iload_n 2, 1) := by decide +kernel
theorem dX6_exchange_10 : decode cX6_exchange 10 = .ok (.invokevirtual 54, 3) := by decide +kernel
theorem dX6_exchange_13 : decode cX6_exchange 13 = .ok (.ifCond .eq 8, 3) := by decide +kernel
theorem dX6_exchange_16 : decode cX6_exchange 16 = .ok (.iload_n 1, 1) := by decide +kernel
theorem dX6_exchange_17 : decode cX6_exchange 17 = .ok (.iload_n 2, 1) := by decide +kernel
theorem dX6_exchange_18 : decode cX6_exchange 18 = .ok (.if_icmp .ne 26, 3) := by decide +kernel
theorem dX6_exchange_21 : decode cX6_exchange 21 = .ok (.aload_n 0, 1) := by decide +kernel
theorem dX6_exchange_22 : decode cX6_exchange 22 = .ok (.iload_n 1, 1) := by decide +kernel
theorem dX6_exchange_23 : decode cX6_exchange 23 = .ok (.invokevirtual 54, 3) := by decide +kernel
theorem dX6_exchange_26 : decode cX6_exchange 26 = .ok (.ifCond .eq 16, 3) := by decide +kernel
theorem dX6_exchange_29 : decode cX6_exchange 29 = .ok (.aload_n 0, 1) := by decide +kernel
theorem dX6_exchange_30 : decode cX6_exchange 30 = .ok (.iload_n 2, 1) := by decide +kernel
theorem dX6_exchange_31 : decode cX6_exchange 31 = .ok (.invokevirtual 54, 3) := by decide +kernel
theorem dX6_exchange_34 : decode cX6_exchange 34 = .ok (.ifCond .eq 8, 3) := by decide +kernel
theorem dX6_exchange_37 : decode cX6_exchange 37 = .ok (.bipush (-5), 2) := by decide +kernel
theorem dX6_exchange_39 : decode cX6_exchange 39 = .ok (.goto 4, 3) := by decide +kernel
theorem dX6_exchange_42 : decode cX6_exchange 42 = .ok (.iconst (-1), 1) := by decide +kernel
theorem dX6_exchange_43 : decode cX6_exchange 43 = .ok (.ireturn, 1) := by decide +kernel
theorem dX6_exchange_44 : decode cX6_exchange 44 = .ok (.aload_n 0, 1) := by decide +kernel
theorem dX6_exchange_45 : decode cX6_exchange 45 = .ok (.invokevirtual 114, 3) := by decide +kernel
theorem dX6_exchange_48 : decode cX6_exchange 48 = .ok (.aload_n 0, 1) := by decide +kernel
theorem dX6_exchange_49 : decode cX6_exchange 49 = .ok (.iload_n 1, 1) := by decide +kernel
theorem dX6_exchange_50 : decode cX6_exchange 50 = .ok (.invokevirtual 128, 3) := by decide +kernel
theorem dX6_exchange_53 : decode cX6_exchange 53 = .ok (.aload_n 0, 1) := by decide +kernel
theorem dX6_exchange_54 : decode cX6_exchange 54 = .ok (.iload_n 2, 1) := by decide +kernel
theorem dX6_exchange_55 : decode cX6_exchange 55 = .ok (.invokevirtual 128, 3) := by decide +kernel
theorem dX6_exchange_58 : decode cX6_exchange 58 = .ok (.iadd, 1) := by decide +kernel
theorem dX6_exchange_59 : decode cX6_exchange 59 = .ok (.istore_n 3, 1) := by decide +kernel
theorem dX6_exchange_60 : decode cX6_exchange 60 = .ok (.iconst 0, 1) := by decide +kernel
theorem dX6_exchange_61 : decode cX6_exchange 61 = .ok (.istore 4, 2) := by decide +kernel
theorem dX6_exchange_63 : decode cX6_exchange 63 = .ok (.iload 4, 2) := by decide +kernel
theorem dX6_exchange_65 : decode cX6_exchange 65 = .ok (.bipush 13, 2) := by decide +kernel
theorem dX6_exchange_67 : decode cX6_exchange 67 = .ok (.if_icmp .ge 55, 3) := by decide +kernel
theorem dX6_exchange_70 : decode cX6_exchange 70 = .ok (.aload_n 0, 1) := by decide +kernel
theorem dX6_exchange_71 : decode cX6_exchange 71 = .ok (.iload_n 1, 1) := by decide +kernel
theorem dX6_exchange_72 : decode cX6_exchange 72 = .ok (.iload 4, 2) := by decide +kernel
theorem dX6_exchange_74 : decode cX6_exchange 74 = .ok (.invokevirtual 62, 3) := by decide +kernel
theorem dX6_exchange_77 : decode cX6_exchange 77 = .ok (.istore 5, 2) := by decide +kernel
theorem dX6_exchange_79 : decode cX6_exchange 79 = .ok (.aload_n 0, 1) := by decide +kernel
theorem dX6_exchange_80 : decode cX6_exchange 80 = .ok (.getfield 7, 3) := by decide +kernel
theorem dX6_exchange_83 : decode cX6_exchange 83 = .ok (.iconst 1, 1) := by decide +kernel
theorem dX6_exchange_84 : decode cX6_exchange 84 = .ok (.bipush 13, 2) := by decide +kernel
theorem dX6_exchange_86 : decode cX6_exchange 86 = .ok (.iload_n 1, 1) := by decide +kernel
theorem dX6_exchange_87 : decode cX6_exchange 87 = .ok (.imul, 1) := by decide +kernel
theorem dX6_exchange_88 : decode cX6_exchange 88 = .ok (.iadd, 1) := by decide +kernel
theorem dX6_exchange_89 : decode cX6_exchange 89 = .ok (.iload 4, 2) := by decide +kernel
theorem dX6_exchange_91 : decode cX6_exchange 91 = .ok (.iadd, 1) := by decide +kernel
theorem dX6_exchange_92 : decode cX6_exchange 92 = .ok (.aload_n 0, 1) := by decide +kernel
theorem dX6_exchange_93 : decode cX6_exchange 93 = .ok (.iload_n 2, 1) := by decide +kernel
theorem dX6_exchange_94 : decode cX6_exchange 94 = .ok (.iload 4, 2) := by decide +kernel
theorem dX6_exchange_96 : decode cX6_exchange 96 = .ok (.invokevirtual 62, 3) := by decide +kernel
theorem dX6_exchange_99 : decode cX6_exchange 99 = .ok (.iastore, 1) := by decide +kernel
theorem dX6_exchange_100 : decode cX6_exchange 100 = .ok (.aload_n 0, 1) := by decide +kernel
theorem dX6_exchange_101 : decode cX6_exchange 101 = .ok (.getfield 7, 3) := by decide +kernel
theorem dX6_exchange_104 : decode cX6_exchange 104 = .ok (.iconst 1, 1) := by decide +kernel
theorem dX6_exchange_105 : decode cX6_exchange 105 = .ok (.bipush 13, 2) := by decide +kernel
theorem dX6_exchange_107 : decode cX6_exchange 107 = .ok (.iload_n 2, 1) := by decide +kernel
theorem dX6_exchange_108 : decode cX6_exchange 108 = .ok (.imul, 1) := by decide +kernel
theorem dX6_exchange_109 : decode cX6_exchange 109 = .ok (.iadd, 1) := by decide +kernel
theorem dX6_exchange_110 : decode cX6_exchange 110 = .ok (.iload 4, 2) := by decide +kernel
theorem dX6_exchange_112 : decode cX6_exchange 112 = .ok (.iadd, 1) := by decide +kernel
theorem dX6_exchange_113 : decode cX6_exchange 113 = .ok (.iload 5, 2) := by decide +kernel
theorem dX6_exchange_115 : decode cX6_exchange 115 = .ok (.iastore, 1) := by decide +kernel
theorem dX6_exchange_116 : decode cX6_exchange 116 = .ok (.iinc 4 1, 3) := by decide +kernel
theorem dX6_exchange_119 : decode cX6_exchange 119 = .ok (.goto (-56), 3) := by decide +kernel
theorem dX6_exchange_122 : decode cX6_exchange 122 = .ok (.iconst 0, 1) := by decide +kernel
theorem dX6_exchange_123 : decode cX6_exchange 123 = .ok (.istore 4, 2) := by decide +kernel
theorem dX6_exchange_125 : decode cX6_exchange 125 = .ok (.iload 4, 2) := by decide +kernel
theorem dX6_exchange_127 : decode cX6_exchange 127 = .ok (.aload_n 0, 1) := by decide +kernel
theorem dX6_exchange_128 : decode cX6_exchange 128 = .ok (.getfield 7, 3) := by decide +kernel
theorem dX6_exchange_131 : decode cX6_exchange 131 = .ok (.iconst 0, 1) := by decide +kernel
theorem dX6_exchange_132 : decode cX6_exchange 132 = .ok (.iaload, 1) := by decide +kernel
theorem dX6_exchange_133 : decode cX6_exchange 133 = .ok (.if_icmp .ge 65, 3) := by decide +kernel
theorem dX6_exchange_136 : decode cX6_exchange 136 = .ok (.iconst 0, 1) := by decide +kernel
theorem dX6_exchange_137 : decode cX6_exchange 137 = .ok (.istore 5, 2) := by decide +kernel
theorem dX6_exchange_139 : decode cX6_exchange 139 = .ok (.iload 5, 2) := by decide +kernel
theorem dX6_exchange_141 : decode cX6_exchange 141 = .ok (.aload_n 0, 1) := by decide +kernel
theorem dX6_exchange_142 : decode cX6_exchange 142 = .ok (.iload 4, 2) := by decide +kernel
theorem dX6_exchange_144 : decode cX6_exchange 144 = .ok (.iconst 3, 1) := by decide +kernel
theorem dX6_exchange_145 : decode cX6_exchange 145 = .ok (.invokevirtual 62, 3) := by decide +kernel
theorem dX6_exchange_148 : decode cX6_exchange 148 = .ok (.if_icmp .ge 44, 3) := by decide +kernel
theorem dX6_exchange_151 : decode cX6_exchange 151 = .ok (.aload_n 0, 1) := by decide +kernel
theorem dX6_exchange_152 : decode cX6_exchange 152 = .ok (.getfield 7, 3) := by decide +kernel
theorem dX6_exchange_155 : decode cX6_exchange 155 = .ok (.iconst 1, 1) := by decide +kernel
theorem dX6_exchange_156 : decode cX6_exchange 156 = .ok (.bipush 13, 2) := by decide +kernel
theorem dX6_exchange_158 : decode cX6_exchange 158 = .ok (.iload 4, 2) := by decide +kernel
theorem dX6_exchange_160 : decode cX6_exchange 160 = .ok (.imul, 1) := by decide +kernel
theorem dX6_exchange_161 : decode cX6_exchange 161 = .ok (.iadd, 1) := by decide +kernel
theorem dX6_exchange_162 : decode cX6_exchange 162 = .ok (.iconst 4, 1) := by decide +kernel
theorem dX6_exchange_163 : decode cX6_exchange 163 = .ok (.iadd, 1) := by decide +kernel
theorem dX6_exchange_164 : decode cX6_exchange 164 = .ok (.iconst 3, 1) := by decide +kernel
theorem dX6_exchange_165 : decode cX6_exchange 165 = .ok (.iload 5, 2) := by decide +kernel
theorem dX6_exchange_167 : decode cX6_exchange 167 = .ok (.imul, 1) := by decide +kernel
theorem dX6_exchange_168 : decode cX6_exchange 168 = .ok (.iadd, 1) := by decide +kernel
theorem dX6_exchange_169 : decode cX6_exchange 169 = .ok (.iconst 0, 1) := by decide +kernel
theorem dX6_exchange_170 : decode cX6_exchange 170 = .ok (.iadd, 1) := by decide +kernel
theorem dX6_exchange_171 : decode cX6_exchange 171 = .ok (.aload_n 0, 1) := by decide +kernel
theorem dX6_exchange_172 : decode cX6_exchange 172 = .ok (.iload 4, 2) := by decide +kernel
theorem dX6_exchange_174 : decode cX6_exchange 174 = .ok (.iload 5, 2) := by decide +kernel
theorem dX6_exchange_176 : decode cX6_exchange 176 = .ok (.iconst 0, 1) := by decide +kernel
theorem dX6_exchange_177 : decode cX6_exchange 177 = .ok (.invokevirtual 58, 3) := by decide +kernel
theorem dX6_exchange_180 : decode cX6_exchange 180 = .ok (.iload_n 1, 1) := by decide +kernel
theorem dX6_exchange_181 : decode cX6_exchange 181 = .ok (.iload_n 2, 1) := by decide +kernel
theorem dX6_exchange_182 : decode cX6_exchange 182 = .ok (.invokestatic 132, 3) := by decide +kernel
theorem dX6_exchange_185 : decode cX6_exchange 185 = .ok (.iastore, 1) := by decide +kernel
theorem dX6_exchange_186 : decode cX6_exchange 186 = .ok (.iinc 5 1, 3) := by decide +kernel
theorem dX6_exchange_189 : decode cX6_exchange 189 = .ok (.goto (-50), 3) := by decide +kernel
theorem dX6_exchange_192 : decode cX6_exchange 192 = .ok (.iinc 4 1, 3) := by decide +kernel
theorem dX6_exchange_195 : decode cX6_exchange 195 = .ok (.goto (-70), 3) := by decide +kernel
theorem dX6_exchange_198 : decode cX6_exchange 198 = .ok (.aload_n 0, 1) := by decide +kernel
theorem dX6_exchange_199 : decode cX6_exchange 199 = .ok (.getfield 7, 3) := by decide +kernel
theorem dX6_exchange_202 : decode cX6_exchange 202 = .ok (.sipush 417, 3) := by decide +kernel
theorem dX6_exchange_205 : decode cX6_exchange 205 = .ok (.aload_n 0, 1) := by decide +kernel
theorem dX6_exchange_206 : decode cX6_exchange 206 = .ok (.getfield 7, 3) := by decide +kernel
theorem dX6_exchange_209 : decode cX6_exchange 209 = .ok (.sipush 417, 3) := by decide +kernel
theorem dX6_exchange_212 : decode cX6_exchange 212 = .ok (.iaload, 1) := by decide +kernel
theorem dX6_exchange_213 : decode cX6_exchange 213 = .ok (.iload_n 1, 1) := by decide +kernel
theorem dX6_exchange_214 : decode cX6_exchange 214 = .ok (.iload_n 2, 1) := by decide +kernel
theorem dX6_exchange_215 : decode cX6_exchange 215 = .ok (.invokestatic 132, 3) := by decide +kernel
theorem dX6_exchange_218 : decode cX6_exchange 218 = .ok (.iastore, 1) := by decide +kernel
theorem dX6_exchange_219 : decode cX6_exchange 219 = .ok (.aload_n 0, 1) := by decide +kernel
theorem dX6_exchange_220 : decode cX6_exchange 220 = .ok (.getfield 7, 3) := by decide +kernel
theorem dX6_exchange_223 : decode cX6_exchange 223 = .ok (.sipush 420, 3) := by decide +kernel
theorem dX6_exchange_226 : decode cX6_exchange 226 = .ok (.aload_n 0, 1) := by decide +kernel
theorem dX6_exchange_227 : decode cX6_exchange 227 = .ok (.getfield 7, 3) := by decide +kernel
theorem dX6_exchange_230 : decode cX6_exchange 230 = .ok (.sipush 420, 3) := by decide +kernel
theorem dX6_exchange_233 : decode cX6_exchange 233 = .ok (.iaload, 1) := by decide +kernel
theorem dX6_exchange_234 : decode cX6_exchange 234 = .ok (.iload_n 1, 1) := by decide +kernel
theorem dX6_exchange_235 : decode cX6_exchange 235 = .ok (.iload_n 2, 1) := by decide +kernel
theorem dX6_exchange_236 : decode cX6_exchange 236 = .ok (.invokestatic 132, 3) := by decide +kernel
theorem dX6_exchange_239 : decode cX6_exchange 239 = .ok (.iastore, 1) := by decide +kernel
theorem dX6_exchange_240 : decode cX6_exchange 240 = .ok (.aload_n 0, 1) := by decide +kernel
theorem dX6_exchange_241 : decode cX6_exchange 241 = .ok (.getfield 7, 3) := by decide +kernel
theorem dX6_exchange_244 : decode cX6_exchange 244 = .ok (.sipush 423, 3) := by decide +kernel
theorem dX6_exchange_247 : decode cX6_exchange 247 = .ok (.aload_n 0, 1) := by decide +kernel
theorem dX6_exchange_248 : decode cX6_exchange 248 = .ok (.getfield 7, 3) := by decide +kernel
theorem dX6_exchange_251 : decode cX6_exchange 251 = .ok (.sipush 423, 3) := by decide +kernel
theorem dX6_exchange_254 : decode cX6_exchange 254 = .ok (.iaload, 1) := by decide +kernel
theorem dX6_exchange_255 : decode cX6_exchange 255 = .ok (.iload_n 1, 1) := by decide +kernel
theorem dX6_exchange_256 : decode cX6_exchange 256 = .ok (.iload_n 2, 1) := by decide +kernel
theorem dX6_exchange_257 : decode cX6_exchange 257 = .ok (.invokestatic 132, 3) := by decide +kernel
theorem dX6_exchange_260 : decode cX6_exchange 260 = .ok (.iastore, 1) := by decide +kernel
theorem dX6_exchange_261 : decode cX6_exchange 261 = .ok (.iload_n 3, 1) := by decide +kernel
theorem dX6_exchange_262 : decode cX6_exchange 262 = .ok (.ireturn, 1) := by decide +kernel
theorem dX6_isReader_0 : decode cX6_isReader 0 = .ok (.iload_n 0, 1) := by decide +kernel
theorem dX6_isReader_1 : decode cX6_isReader 1 = .ok (.iconst 0, 1) := by decide +kernel
theorem dX6_isReader_2 : decode cX6_isReader 2 = .ok (.iconst 1, 1) := by decide +kernel
theorem dX6_isReader_3 : decode cX6_isReader 3 = .ok (.invokestatic 50, 3) := by decide +kernel
theorem dX6_isReader_6 : decode cX6_isReader 6 = .ok (.ireturn, 1) := by decide +kernel
theorem dX6_ofReader_0 : decode cX6_ofReader 0 = .ok (.aload_n 0, 1) := by decide +kernel
theorem dX6_ofReader_1 : decode cX6_ofReader 1 = .ok (.getfield 7, 3) := by decide +kernel
theorem dX6_ofReader_4 : decode cX6_ofReader 4 = .ok (.sipush 417, 3) := by decide +kernel
theorem dX6_ofReader_7 : decode cX6_ofReader 7 = .ok (.iconst 3, 1) := by decide +kernel
theorem dX6_ofReader_8 : decode cX6_ofReader 8 = .ok (.iload_n 1, 1) := by decide +kernel
theorem dX6_ofReader_9 : decode cX6_ofReader 9 = .ok (.imul, 1) := by decide +kernel
theorem dX6_ofReader_10 : decode cX6_ofReader 10 = .ok (.iadd, 1) := by decide +kernel
theorem dX6_ofReader_11 : decode cX6_ofReader 11 = .ok (.iload_n 2, 1) := by decide +kernel
theorem dX6_ofReader_12 : decode cX6_ofReader 12 = .ok (.iadd, 1) := by decide +kernel
theorem dX6_ofReader_13 : decode cX6_ofReader 13 = .ok (.iaload, 1) := by decide +kernel
theorem dX6_ofReader_14 : decode cX6_ofReader 14 = .ok (.ireturn, 1) := by decide +kernel
theorem dX6_goes_0 : decode cX6_goes 0 = .ok (.aload_n 0, 1) := by decide +kernel
theorem dX6_goes_1 : decode cX6_goes 1 = .ok (.getfield 7, 3) := by decide +kernel
theorem dX6_goes_4 : decode cX6_goes 4 = .ok (.sipush 417, 3) := by decide +kernel
theorem dX6_goes_7 : decode cX6_goes 7 = .ok (.iconst 3, 1) := by decide +kernel
theorem dX6_goes_8 : decode cX6_goes 8 = .ok (.iload_n 1, 1) := by decide +kernel
theorem dX6_goes_9 : decode cX6_goes 9 = .ok (.imul, 1) := by decide +kernel
theorem dX6_goes_10 : decode cX6_goes 10 = .ok (.iadd, 1) := by decide +kernel
theorem dX6_goes_11 : decode cX6_goes 11 = .ok (.iconst 0, 1) := by decide +kernel
theorem dX6_goes_12 : decode cX6_goes 12 = .ok (.iadd, 1) := by decide +kernel
theorem dX6_goes_13 : decode cX6_goes 13 = .ok (.iload_n 2, 1) := by decide +kernel
theorem dX6_goes_14 : decode cX6_goes 14 = .ok (.iastore, 1) := by decide +kernel
theorem dX6_goes_15 : decode cX6_goes 15 = .ok (.aload_n 0, 1) := by decide +kernel
theorem dX6_goes_16 : decode cX6_goes 16 = .ok (.getfield 7, 3) := by decide +kernel
theorem dX6_goes_19 : decode cX6_goes 19 = .ok (.sipush 417, 3) := by decide +kernel
theorem dX6_goes_22 : decode cX6_goes 22 = .ok (.iconst 3, 1) := by decide +kernel
theorem dX6_goes_23 : decode cX6_goes 23 = .ok (.iload_n 1, 1) := by decide +kernel
theorem dX6_goes_24 : decode cX6_goes 24 = .ok (.imul, 1) := by decide +kernel
theorem dX6_goes_25 : decode cX6_goes 25 = .ok (.iadd, 1) := by decide +kernel
theorem dX6_goes_26 : decode cX6_goes 26 = .ok (.iconst 1, 1) := by decide +kernel
theorem dX6_goes_27 : decode cX6_goes 27 = .ok (.iadd, 1) := by decide +kernel
theorem dX6_goes_28 : decode cX6_goes 28 = .ok (.iload_n 3, 1) := by decide +kernel
theorem dX6_goes_29 : decode cX6_goes 29 = .ok (.iastore, 1) := by decide +kernel
theorem dX6_goes_30 : decode cX6_goes 30 = .ok (.aload_n 0, 1) := by decide +kernel
theorem dX6_goes_31 : decode cX6_goes 31 = .ok (.getfield 7, 3) := by decide +kernel
theorem dX6_goes_34 : decode cX6_goes 34 = .ok (.sipush 417, 3) := by decide +kernel
theorem dX6_goes_37 : decode cX6_goes 37 = .ok (.iconst 3, 1) := by decide +kernel
theorem dX6_goes_38 : decode cX6_goes 38 = .ok (.iload_n 1, 1) := by decide +kernel
theorem dX6_goes_39 : decode cX6_goes 39 = .ok (.imul, 1) := by decide +kernel
theorem dX6_goes_40 : decode cX6_goes 40 = .ok (.iadd, 1) := by decide +kernel
theorem dX6_goes_41 : decode cX6_goes 41 = .ok (.iconst 2, 1) := by decide +kernel
theorem dX6_goes_42 : decode cX6_goes 42 = .ok (.iadd, 1) := by decide +kernel
theorem dX6_goes_43 : decode cX6_goes 43 = .ok (.iload 4, 2) := by decide +kernel
theorem dX6_goes_45 : decode cX6_goes 45 = .ok (.iastore, 1) := by decide +kernel
theorem dX6_goes_46 : decode cX6_goes 46 = .ok (.return_, 1) := by decide +kernel
theorem dX6_begin_0 : decode cX6_begin 0 = .ok (.iload_n 1, 1) := by decide +kernel
theorem dX6_begin_1 : decode cX6_begin 1 = .ok (.invokestatic 135, 3) := by decide +kernel
theorem dX6_begin_4 : decode cX6_begin 4 = .ok (.ifCond .ne 5, 3) := by decide +kernel
theorem dX6_begin_7 : decode cX6_begin 7 = .ok (.iconst (-1), 1) := by decide +kernel
theorem dX6_begin_8 : decode cX6_begin 8 = .ok (.ireturn, 1) := by decide +kernel
theorem dX6_begin_9 : decode cX6_begin 9 = .ok (.aload_n 0, 1) := by decide +kernel
theorem dX6_begin_10 : decode cX6_begin 10 = .ok (.getfield 7, 3) := by decide +kernel
theorem dX6_begin_13 : decode cX6_begin 13 = .ok (.iconst 0, 1) := by decide +kernel
theorem dX6_begin_14 : decode cX6_begin 14 = .ok (.iaload, 1) := by decide +kernel
theorem dX6_begin_15 : decode cX6_begin 15 = .ok (.ifCond .ne 6, 3) := by decide +kernel
theorem dX6_begin_18 : decode cX6_begin 18 = .ok (.bipush (-4), 2) := by decide +kernel
theorem dX6_begin_20 : decode cX6_begin 20 = .ok (.ireturn, 1) := by decide +kernel
theorem dX6_begin_21 : decode cX6_begin 21 = .ok (.aload_n 0, 1) := by decide +kernel
theorem dX6_begin_22 : decode cX6_begin 22 = .ok (.invokevirtual 114, 3) := by decide +kernel
theorem dX6_begin_25 : decode cX6_begin 25 = .ok (.aload_n 0, 1) := by decide +kernel
theorem dX6_begin_26 : decode cX6_begin 26 = .ok (.iload_n 1, 1) := by decide +kernel
theorem dX6_begin_27 : decode cX6_begin 27 = .ok (.iconst 0, 1) := by decide +kernel
theorem dX6_begin_28 : decode cX6_begin 28 = .ok (.aload_n 0, 1) := by decide +kernel
theorem dX6_begin_29 : decode cX6_begin 29 = .ok (.invokevirtual 89, 3) := by decide +kernel
theorem dX6_begin_32 : decode cX6_begin 32 = .ok (.iconst 0, 1) := by decide +kernel
theorem dX6_begin_33 : decode cX6_begin 33 = .ok (.invokevirtual 138, 3) := by decide +kernel
theorem dX6_begin_36 : decode cX6_begin 36 = .ok (.aload_n 0, 1) := by decide +kernel
theorem dX6_begin_37 : decode cX6_begin 37 = .ok (.invokevirtual 89, 3) := by decide +kernel
theorem dX6_begin_40 : decode cX6_begin 40 = .ok (.ireturn, 1) := by decide +kernel
theorem dX6_reason_0 : decode cX6_reason 0 = .ok (.aload_n 0, 1) := by decide +kernel
theorem dX6_reason_1 : decode cX6_reason 1 = .ok (.iload_n 1, 1) := by decide +kernel
theorem dX6_reason_2 : decode cX6_reason 2 = .ok (.iconst 0, 1) := by decide +kernel
theorem dX6_reason_3 : decode cX6_reason 3 = .ok (.invokevirtual 141, 3) := by decide +kernel
theorem dX6_reason_6 : decode cX6_reason 6 = .ok (.istore_n 3, 1) := by decide +kernel
theorem dX6_reason_7 : decode cX6_reason 7 = .ok (.iload_n 3, 1) := by decide +kernel
theorem dX6_reason_8 : decode cX6_reason 8 = .ok (.bipush (-5), 2) := by decide +kernel
theorem dX6_reason_10 : decode cX6_reason 10 = .ok (.if_icmp .eq 13, 3) := by decide +kernel
theorem dX6_reason_13 : decode cX6_reason 13 = .ok (.iload_n 2, 1) := by decide +kernel
theorem dX6_reason_14 : decode cX6_reason 14 = .ok (.aload_n 0, 1) := by decide +kernel
theorem dX6_reason_15 : decode cX6_reason 15 = .ok (.iload_n 3, 1) := by decide +kernel
theorem dX6_reason_16 : decode cX6_reason 16 = .ok (.iconst 3, 1) := by decide +kernel
theorem dX6_reason_17 : decode cX6_reason 17 = .ok (.invokevirtual 62, 3) := by decide +kernel
theorem dX6_reason_20 : decode cX6_reason 20 = .ok (.if_icmp .lt 15, 3) := by decide +kernel
theorem dX6_reason_23 : decode cX6_reason 23 = .ok (.iload_n 3, 1) := by decide +kernel
theorem dX6_reason_24 : decode cX6_reason 24 = .ok (.bipush (-5), 2) := by decide +kernel
theorem dX6_reason_26 : decode cX6_reason 26 = .ok (.if_icmp .ne 7, 3) := by decide +kernel
theorem dX6_reason_29 : decode cX6_reason 29 = .ok (.iconst 1, 1) := by decide +kernel
theorem dX6_reason_30 : decode cX6_reason 30 = .ok (.goto 4, 3) := by decide +kernel
theorem dX6_reason_33 : decode cX6_reason 33 = .ok (.iconst 2, 1) := by decide +kernel
theorem dX6_reason_34 : decode cX6_reason 34 = .ok (.ireturn, 1) := by decide +kernel
theorem dX6_reason_35 : decode cX6_reason 35 = .ok (.aload_n 0, 1) := by decide +kernel
theorem dX6_reason_36 : decode cX6_reason 36 = .ok (.iload_n 1, 1) := by decide +kernel
theorem dX6_reason_37 : decode cX6_reason 37 = .ok (.iconst 1, 1) := by decide +kernel
theorem dX6_reason_38 : decode cX6_reason 38 = .ok (.invokevirtual 141, 3) := by decide +kernel
theorem dX6_reason_41 : decode cX6_reason 41 = .ok (.istore 4, 2) := by decide +kernel
theorem dX6_reason_43 : decode cX6_reason 43 = .ok (.aload_n 0, 1) := by decide +kernel
theorem dX6_reason_44 : decode cX6_reason 44 = .ok (.iload_n 3, 1) := by decide +kernel
theorem dX6_reason_45 : decode cX6_reason 45 = .ok (.iload_n 2, 1) := by decide +kernel
theorem dX6_reason_46 : decode cX6_reason 46 = .ok (.iconst 1, 1) := by decide +kernel
theorem dX6_reason_47 : decode cX6_reason 47 = .ok (.invokevirtual 58, 3) := by decide +kernel
theorem dX6_reason_50 : decode cX6_reason 50 = .ok (.iload 4, 2) := by decide +kernel
theorem dX6_reason_52 : decode cX6_reason 52 = .ok (.iconst (-1), 1) := by decide +kernel
theorem dX6_reason_53 : decode cX6_reason 53 = .ok (.ixor, 1) := by decide +kernel
theorem dX6_reason_54 : decode cX6_reason 54 = .ok (.iand, 1) := by decide +kernel
theorem dX6_reason_55 : decode cX6_reason 55 = .ok (.ifCond .eq 7, 3) := by decide +kernel
theorem dX6_reason_58 : decode cX6_reason 58 = .ok (.iconst 3, 1) := by decide +kernel
theorem dX6_reason_59 : decode cX6_reason 59 = .ok (.goto 21, 3) := by decide +kernel
theorem dX6_reason_62 : decode cX6_reason 62 = .ok (.aload_n 0, 1) := by decide +kernel
theorem dX6_reason_63 : decode cX6_reason 63 = .ok (.iload_n 3, 1) := by decide +kernel
theorem dX6_reason_64 : decode cX6_reason 64 = .ok (.iload_n 2, 1) := by decide +kernel
theorem dX6_reason_65 : decode cX6_reason 65 = .ok (.iconst 2, 1) := by decide +kernel
theorem dX6_reason_66 : decode cX6_reason 66 = .ok (.invokevirtual 58, 3) := by decide +kernel
theorem dX6_reason_69 : decode cX6_reason 69 = .ok (.iload 4, 2) := by decide +kernel
theorem dX6_reason_71 : decode cX6_reason 71 = .ok (.iand, 1) := by decide +kernel
theorem dX6_reason_72 : decode cX6_reason 72 = .ok (.ifCond .eq 7, 3) := by decide +kernel
theorem dX6_reason_75 : decode cX6_reason 75 = .ok (.iconst 4, 1) := by decide +kernel
theorem dX6_reason_76 : decode cX6_reason 76 = .ok (.goto 4, 3) := by decide +kernel
theorem dX6_reason_79 : decode cX6_reason 79 = .ok (.iconst 0, 1) := by decide +kernel
theorem dX6_reason_80 : decode cX6_reason 80 = .ok (.ireturn, 1) := by decide +kernel
theorem dX6_why_0 : decode cX6_why 0 = .ok (.iload_n 1, 1) := by decide +kernel
theorem dX6_why_1 : decode cX6_why 1 = .ok (.invokestatic 135, 3) := by decide +kernel
theorem dX6_why_4 : decode cX6_why 4 = .ok (.ifCond .ne 7, 3) := by decide +kernel
theorem dX6_why_7 : decode cX6_why 7 = .ok (.iconst (-1), 1) := by decide +kernel
theorem dX6_why_8 : decode cX6_why 8 = .ok (.goto 23, 3) := by decide +kernel
theorem dX6_why_11 : decode cX6_why 11 = .ok (.iload_n 2, 1) := by decide +kernel
theorem dX6_why_12 : decode cX6_why 12 = .ok (.iconst 0, 1) := by decide +kernel
theorem dX6_why_13 : decode cX6_why 13 = .ok (.iconst 2, 1) := by decide +kernel
theorem dX6_why_14 : decode cX6_why 14 = .ok (.invokestatic 50, 3) := by decide +kernel
theorem dX6_why_17 : decode cX6_why 17 = .ok (.ifCond .eq 12, 3) := by decide +kernel
theorem dX6_why_20 : decode cX6_why 20 = .ok (.aload_n 0, 1) := by decide +kernel
theorem dX6_why_21 : decode cX6_why 21 = .ok (.iload_n 1, 1) := by decide +kernel
theorem dX6_why_22 : decode cX6_why 22 = .ok (.iload_n 2, 1) := by decide +kernel
theorem dX6_why_23 : decode cX6_why 23 = .ok (.invokevirtual 144, 3) := by decide +kernel
theorem dX6_why_26 : decode cX6_why 26 = .ok (.goto 5, 3) := by decide +kernel
theorem dX6_why_29 : decode cX6_why 29 = .ok (.bipush (-2), 2) := by decide +kernel
theorem dX6_why_31 : decode cX6_why 31 = .ok (.ireturn, 1) := by decide +kernel
theorem dX6_choose_0 : decode cX6_choose 0 = .ok (.aload_n 0, 1) := by decide +kernel
theorem dX6_choose_1 : decode cX6_choose 1 = .ok (.iload_n 1, 1) := by decide +kernel
theorem dX6_choose_2 : decode cX6_choose 2 = .ok (.iload_n 2, 1) := by decide +kernel
theorem dX6_choose_3 : decode cX6_choose 3 = .ok (.invokevirtual 147, 3) := by decide +kernel
theorem dX6_choose_6 : decode cX6_choose 6 = .ok (.istore_n 3, 1) := by decide +kernel
theorem dX6_choose_7 : decode cX6_choose 7 = .ok (.iload_n 3, 1) := by decide +kernel
theorem dX6_choose_8 : decode cX6_choose 8 = .ok (.ifCond .eq 14, 3) := by decide +kernel
theorem dX6_choose_11 : decode cX6_choose 11 = .ok (.iload_n 3, 1) := by decide +kernel
theorem dX6_choose_12 : decode cX6_choose 12 = .ok (.ifCond .ge 7, 3) := by decide +kernel
theorem dX6_choose_15 : decode cX6_choose 15 = .ok (.iload_n 3, 1) := by decide +kernel
theorem dX6_choose_16 : decode cX6_choose 16 = .ok (.goto 5, 3) := by decide +kernel
theorem dX6_choose_19 : decode cX6_choose 19 = .ok (.bipush (-4), 2) := by decide +kernel
theorem dX6_choose_21 : decode cX6_choose 21 = .ok (.ireturn, 1) := by decide +kernel
theorem dX6_choose_22 : decode cX6_choose 22 = .ok (.aload_n 0, 1) := by decide +kernel
theorem dX6_choose_23 : decode cX6_choose 23 = .ok (.invokevirtual 114, 3) := by decide +kernel
theorem dX6_choose_26 : decode cX6_choose 26 = .ok (.aload_n 0, 1) := by decide +kernel
theorem dX6_choose_27 : decode cX6_choose 27 = .ok (.aload_n 0, 1) := by decide +kernel
theorem dX6_choose_28 : decode cX6_choose 28 = .ok (.iload_n 1, 1) := by decide +kernel
theorem dX6_choose_29 : decode cX6_choose 29 = .ok (.iconst 0, 1) := by decide +kernel
theorem dX6_choose_30 : decode cX6_choose 30 = .ok (.invokevirtual 141, 3) := by decide +kernel
theorem dX6_choose_33 : decode cX6_choose 33 = .ok (.iload_n 2, 1) := by decide +kernel
theorem dX6_choose_34 : decode cX6_choose 34 = .ok (.iconst 0, 1) := by decide +kernel
theorem dX6_choose_35 : decode cX6_choose 35 = .ok (.invokevirtual 58, 3) := by decide +kernel
theorem dX6_choose_38 : decode cX6_choose 38 = .ok (.istore 4, 2) := by decide +kernel
theorem dX6_choose_40 : decode cX6_choose 40 = .ok (.aload_n 0, 1) := by decide +kernel
theorem dX6_choose_41 : decode cX6_choose 41 = .ok (.iload_n 1, 1) := by decide +kernel
theorem dX6_choose_42 : decode cX6_choose 42 = .ok (.iload 4, 2) := by decide +kernel
theorem dX6_choose_44 : decode cX6_choose 44 = .ok (.aload_n 0, 1) := by decide +kernel
theorem dX6_choose_45 : decode cX6_choose 45 = .ok (.iload 4, 2) := by decide +kernel
theorem dX6_choose_47 : decode cX6_choose 47 = .ok (.aload_n 0, 1) := by decide +kernel
theorem dX6_choose_48 : decode cX6_choose 48 = .ok (.iload_n 1, 1) := by decide +kernel
theorem dX6_choose_49 : decode cX6_choose 49 = .ok (.iconst 1, 1) := by decide +kernel
theorem dX6_choose_50 : decode cX6_choose 50 = .ok (.invokevirtual 141, 3) := by decide +kernel
theorem dX6_choose_53 : decode cX6_choose 53 = .ok (.invokevirtual 73, 3) := by decide +kernel
theorem dX6_choose_56 : decode cX6_choose 56 = .ok (.aload_n 0, 1) := by decide +kernel
theorem dX6_choose_57 : decode cX6_choose 57 = .ok (.iload_n 1, 1) := by decide +kernel
theorem dX6_choose_58 : decode cX6_choose 58 = .ok (.iconst 2, 1) := by decide +kernel
theorem dX6_choose_59 : decode cX6_choose 59 = .ok (.invokevirtual 141, 3) := by decide +kernel
theorem dX6_choose_62 : decode cX6_choose 62 = .ok (.iconst 1, 1) := by decide +kernel
theorem dX6_choose_63 : decode cX6_choose 63 = .ok (.iadd, 1) := by decide +kernel
theorem dX6_choose_64 : decode cX6_choose 64 = .ok (.invokevirtual 138, 3) := by decide +kernel
theorem dX6_choose_67 : decode cX6_choose 67 = .ok (.iload 4, 2) := by decide +kernel
theorem dX6_choose_69 : decode cX6_choose 69 = .ok (.ireturn, 1) := by decide +kernel
theorem dX6_isMarked_0 : decode cX6_isMarked 0 = .ok (.aload_n 0, 1) := by decide +kernel
theorem dX6_isMarked_1 : decode cX6_isMarked 1 = .ok (.getfield 7, 3) := by decide +kernel
theorem dX6_isMarked_4 : decode cX6_isMarked 4 = .ok (.sipush 423, 3) := by decide +kernel
theorem dX6_isMarked_7 : decode cX6_isMarked 7 = .ok (.iaload, 1) := by decide +kernel
theorem dX6_isMarked_8 : decode cX6_isMarked 8 = .ok (.aload_n 0, 1) := by decide +kernel
theorem dX6_isMarked_9 : decode cX6_isMarked 9 = .ok (.iload_n 1, 1) := by decide +kernel
theorem dX6_isMarked_10 : decode cX6_isMarked 10 = .ok (.iconst 0, 1) := by decide +kernel
theorem dX6_isMarked_11 : decode cX6_isMarked 11 = .ok (.invokevirtual 141, 3) := by decide +kernel
theorem dX6_isMarked_14 : decode cX6_isMarked 14 = .ok (.if_icmp .ne 24, 3) := by decide +kernel
theorem dX6_isMarked_17 : decode cX6_isMarked 17 = .ok (.aload_n 0, 1) := by decide +kernel
theorem dX6_isMarked_18 : decode cX6_isMarked 18 = .ok (.getfield 7, 3) := by decide +kernel
theorem dX6_isMarked_21 : decode cX6_isMarked 21 = .ok (.sipush 424, 3) := by decide +kernel
theorem dX6_isMarked_24 : decode cX6_isMarked 24 = .ok (.iaload, 1) := by decide +kernel
theorem dX6_isMarked_25 : decode cX6_isMarked 25 = .ok (.aload_n 0, 1) := by decide +kernel
theorem dX6_isMarked_26 : decode cX6_isMarked 26 = .ok (.iload_n 1, 1) := by decide +kernel
theorem dX6_isMarked_27 : decode cX6_isMarked 27 = .ok (.iconst 1, 1) := by decide +kernel
theorem dX6_isMarked_28 : decode cX6_isMarked 28 = .ok (.invokevirtual 141, 3) := by decide +kernel
theorem dX6_isMarked_31 : decode cX6_isMarked 31 = .ok (.if_icmp .ne 7, 3) := by decide +kernel
theorem dX6_isMarked_34 : decode cX6_isMarked 34 = .ok (.iconst 1, 1) := by decide +kernel
theorem dX6_isMarked_35 : decode cX6_isMarked 35 = .ok (.goto 4, 3) := by decide +kernel
theorem dX6_isMarked_38 : decode cX6_isMarked 38 = .ok (.iconst 0, 1) := by decide +kernel
theorem dX6_isMarked_39 : decode cX6_isMarked 39 = .ok (.ireturn, 1) := by decide +kernel
theorem dX6_mark_0 : decode cX6_mark 0 = .ok (.iload_n 1, 1) := by decide +kernel
theorem dX6_mark_1 : decode cX6_mark 1 = .ok (.invokestatic 135, 3) := by decide +kernel
theorem dX6_mark_4 : decode cX6_mark 4 = .ok (.ifCond .ne 5, 3) := by decide +kernel
theorem dX6_mark_7 : decode cX6_mark 7 = .ok (.iconst (-1), 1) := by decide +kernel
theorem dX6_mark_8 : decode cX6_mark 8 = .ok (.ireturn, 1) := by decide +kernel
theorem dX6_mark_9 : decode cX6_mark 9 = .ok (.aload_n 0, 1) := by decide +kernel
theorem dX6_mark_10 : decode cX6_mark 10 = .ok (.iload_n 1, 1) := by decide +kernel
theorem dX6_mark_11 : decode cX6_mark 11 = .ok (.iconst 0, 1) := by decide +kernel
theorem dX6_mark_12 : decode cX6_mark 12 = .ok (.invokevirtual 141, 3) := by decide +kernel
theorem dX6_mark_15 : decode cX6_mark 15 = .ok (.bipush (-5), 2) := by decide +kernel
theorem dX6_mark_17 : decode cX6_mark 17 = .ok (.if_icmp .eq 11, 3) := by decide +kernel
theorem dX6_mark_20 : decode cX6_mark 20 = .ok (.aload_n 0, 1) := by decide +kernel
theorem dX6_mark_21 : decode cX6_mark 21 = .ok (.iload_n 1, 1) := by decide +kernel
theorem dX6_mark_22 : decode cX6_mark 22 = .ok (.invokevirtual 150, 3) := by decide +kernel
theorem dX6_mark_25 : decode cX6_mark 25 = .ok (.ifCond .eq 22, 3) := by decide +kernel
theorem dX6_mark_28 : decode cX6_mark 28 = .ok (.aload_n 0, 1) := by decide +kernel
theorem dX6_mark_29 : decode cX6_mark 29 = .ok (.iload_n 1, 1) := by decide +kernel
theorem dX6_mark_30 : decode cX6_mark 30 = .ok (.iconst 0, 1) := by decide +kernel
theorem dX6_mark_31 : decode cX6_mark 31 = .ok (.invokevirtual 141, 3) := by decide +kernel
theorem dX6_mark_34 : decode cX6_mark 34 = .ok (.bipush (-5), 2) := by decide +kernel
theorem dX6_mark_36 : decode cX6_mark 36 = .ok (.if_icmp .ne 8, 3) := by decide +kernel
theorem dX6_mark_39 : decode cX6_mark 39 = .ok (.bipush (-4), 2) := by decide +kernel
theorem dX6_mark_41 : decode cX6_mark 41 = .ok (.goto 5, 3) := by decide +kernel
theorem dX6_mark_44 : decode cX6_mark 44 = .ok (.bipush (-5), 2) := by decide +kernel
theorem dX6_mark_46 : decode cX6_mark 46 = .ok (.ireturn, 1) := by decide +kernel
theorem dX6_mark_47 : decode cX6_mark 47 = .ok (.aload_n 0, 1) := by decide +kernel
theorem dX6_mark_48 : decode cX6_mark 48 = .ok (.invokevirtual 114, 3) := by decide +kernel
theorem dX6_mark_51 : decode cX6_mark 51 = .ok (.aload_n 0, 1) := by decide +kernel
theorem dX6_mark_52 : decode cX6_mark 52 = .ok (.getfield 7, 3) := by decide +kernel
theorem dX6_mark_55 : decode cX6_mark 55 = .ok (.sipush 423, 3) := by decide +kernel
theorem dX6_mark_58 : decode cX6_mark 58 = .ok (.aload_n 0, 1) := by decide +kernel
theorem dX6_mark_59 : decode cX6_mark 59 = .ok (.iload_n 1, 1) := by decide +kernel
theorem dX6_mark_60 : decode cX6_mark 60 = .ok (.iconst 0, 1) := by decide +kernel
theorem dX6_mark_61 : decode cX6_mark 61 = .ok (.invokevirtual 141, 3) := by decide +kernel
theorem dX6_mark_64 : decode cX6_mark 64 = .ok (.iastore, 1) := by decide +kernel
theorem dX6_mark_65 : decode cX6_mark 65 = .ok (.aload_n 0, 1) := by decide +kernel
theorem dX6_mark_66 : decode cX6_mark 66 = .ok (.getfield 7, 3) := by decide +kernel
theorem dX6_mark_69 : decode cX6_mark 69 = .ok (.sipush 424, 3) := by decide +kernel
theorem dX6_mark_72 : decode cX6_mark 72 = .ok (.aload_n 0, 1) := by decide +kernel
theorem dX6_mark_73 : decode cX6_mark 73 = .ok (.iload_n 1, 1) := by decide +kernel
theorem dX6_mark_74 : decode cX6_mark 74 = .ok (.iconst 1, 1) := by decide +kernel
theorem dX6_mark_75 : decode cX6_mark 75 = .ok (.invokevirtual 141, 3) := by decide +kernel
theorem dX6_mark_78 : decode cX6_mark 78 = .ok (.iastore, 1) := by decide +kernel
theorem dX6_mark_79 : decode cX6_mark 79 = .ok (.aload_n 0, 1) := by decide +kernel
theorem dX6_mark_80 : decode cX6_mark 80 = .ok (.getfield 7, 3) := by decide +kernel
theorem dX6_mark_83 : decode cX6_mark 83 = .ok (.sipush 423, 3) := by decide +kernel
theorem dX6_mark_86 : decode cX6_mark 86 = .ok (.iaload, 1) := by decide +kernel
theorem dX6_mark_87 : decode cX6_mark 87 = .ok (.ireturn, 1) := by decide +kernel
theorem dX6_goToMark_0 : decode cX6_goToMark 0 = .ok (.iload_n 1, 1) := by decide +kernel
theorem dX6_goToMark_1 : decode cX6_goToMark 1 = .ok (.invokestatic 135, 3) := by decide +kernel
theorem dX6_goToMark_4 : decode cX6_goToMark 4 = .ok (.ifCond .ne 5, 3) := by decide +kernel
theorem dX6_goToMark_7 : decode cX6_goToMark 7 = .ok (.iconst (-1), 1) := by decide +kernel
theorem dX6_goToMark_8 : decode cX6_goToMark 8 = .ok (.ireturn, 1) := by decide +kernel
theorem dX6_goToMark_9 : decode cX6_goToMark 9 = .ok (.aload_n 0, 1) := by decide +kernel
theorem dX6_goToMark_10 : decode cX6_goToMark 10 = .ok (.getfield 7, 3) := by decide +kernel
theorem dX6_goToMark_13 : decode cX6_goToMark 13 = .ok (.sipush 423, 3) := by decide +kernel
theorem dX6_goToMark_16 : decode cX6_goToMark 16 = .ok (.iaload, 1) := by decide +kernel
theorem dX6_goToMark_17 : decode cX6_goToMark 17 = .ok (.bipush (-5), 2) := by decide +kernel
theorem dX6_goToMark_19 : decode cX6_goToMark 19 = .ok (.if_icmp .eq 11, 3) := by decide +kernel
theorem dX6_goToMark_22 : decode cX6_goToMark 22 = .ok (.aload_n 0, 1) := by decide +kernel
theorem dX6_goToMark_23 : decode cX6_goToMark 23 = .ok (.iload_n 1, 1) := by decide +kernel
theorem dX6_goToMark_24 : decode cX6_goToMark 24 = .ok (.invokevirtual 150, 3) := by decide +kernel
theorem dX6_goToMark_27 : decode cX6_goToMark 27 = .ok (.ifCond .eq 24, 3) := by decide +kernel
theorem dX6_goToMark_30 : decode cX6_goToMark 30 = .ok (.aload_n 0, 1) := by decide +kernel
theorem dX6_goToMark_31 : decode cX6_goToMark 31 = .ok (.getfield 7, 3) := by decide +kernel
theorem dX6_goToMark_34 : decode cX6_goToMark 34 = .ok (.sipush 423, 3) := by decide +kernel
theorem dX6_goToMark_37 : decode cX6_goToMark 37 = .ok (.iaload, 1) := by decide +kernel
theorem dX6_goToMark_38 : decode cX6_goToMark 38 = .ok (.bipush (-5), 2) := by decide +kernel
theorem dX6_goToMark_40 : decode cX6_goToMark 40 = .ok (.if_icmp .ne 8, 3) := by decide +kernel
theorem dX6_goToMark_43 : decode cX6_goToMark 43 = .ok (.bipush (-4), 2) := by decide +kernel
theorem dX6_goToMark_45 : decode cX6_goToMark 45 = .ok (.goto 5, 3) := by decide +kernel
theorem dX6_goToMark_48 : decode cX6_goToMark 48 = .ok (.bipush (-5), 2) := by decide +kernel
theorem dX6_goToMark_50 : decode cX6_goToMark 50 = .ok (.ireturn, 1) := by decide +kernel
theorem dX6_goToMark_51 : decode cX6_goToMark 51 = .ok (.aload_n 0, 1) := by decide +kernel
theorem dX6_goToMark_52 : decode cX6_goToMark 52 = .ok (.invokevirtual 114, 3) := by decide +kernel
theorem dX6_goToMark_55 : decode cX6_goToMark 55 = .ok (.aload_n 0, 1) := by decide +kernel
theorem dX6_goToMark_56 : decode cX6_goToMark 56 = .ok (.iload_n 1, 1) := by decide +kernel
theorem dX6_goToMark_57 : decode cX6_goToMark 57 = .ok (.aload_n 0, 1) := by decide +kernel
theorem dX6_goToMark_58 : decode cX6_goToMark 58 = .ok (.getfield 7, 3) := by decide +kernel
theorem dX6_goToMark_61 : decode cX6_goToMark 61 = .ok (.sipush 423, 3) := by decide +kernel
theorem dX6_goToMark_64 : decode cX6_goToMark 64 = .ok (.iaload, 1) := by decide +kernel
theorem dX6_goToMark_65 : decode cX6_goToMark 65 = .ok (.aload_n 0, 1) := by decide +kernel
theorem dX6_goToMark_66 : decode cX6_goToMark 66 = .ok (.getfield 7, 3) := by decide +kernel
theorem dX6_goToMark_69 : decode cX6_goToMark 69 = .ok (.sipush 424, 3) := by decide +kernel
theorem dX6_goToMark_72 : decode cX6_goToMark 72 = .ok (.iaload, 1) := by decide +kernel
theorem dX6_goToMark_73 : decode cX6_goToMark 73 = .ok (.iconst 0, 1) := by decide +kernel
theorem dX6_goToMark_74 : decode cX6_goToMark 74 = .ok (.invokevirtual 138, 3) := by decide +kernel
theorem dX6_goToMark_77 : decode cX6_goToMark 77 = .ok (.aload_n 0, 1) := by decide +kernel
theorem dX6_goToMark_78 : decode cX6_goToMark 78 = .ok (.getfield 7, 3) := by decide +kernel
theorem dX6_goToMark_81 : decode cX6_goToMark 81 = .ok (.sipush 423, 3) := by decide +kernel
theorem dX6_goToMark_84 : decode cX6_goToMark 84 = .ok (.iaload, 1) := by decide +kernel
theorem dX6_goToMark_85 : decode cX6_goToMark 85 = .ok (.ireturn, 1) := by decide +kernel
theorem dX6_choicesNow_0 : decode cX6_choicesNow 0 = .ok (.iconst 0, 1) := by decide +kernel
theorem dX6_choicesNow_1 : decode cX6_choicesNow 1 = .ok (.istore_n 2, 1) := by decide +kernel
theorem dX6_choicesNow_2 : decode cX6_choicesNow 2 = .ok (.iconst 0, 1) := by decide +kernel
theorem dX6_choicesNow_3 : decode cX6_choicesNow 3 = .ok (.istore_n 3, 1) := by decide +kernel
theorem dX6_choicesNow_4 : decode cX6_choicesNow 4 = .ok (.iload_n 3, 1) := by decide +kernel
theorem dX6_choicesNow_5 : decode cX6_choicesNow 5 = .ok (.iconst 3, 1) := by decide +kernel
theorem dX6_choicesNow_6 : decode cX6_choicesNow 6 = .ok (.if_icmp .ge 28, 3) := by decide +kernel
theorem dX6_choicesNow_9 : decode cX6_choicesNow 9 = .ok (.iload_n 2, 1) := by decide +kernel
theorem dX6_choicesNow_10 : decode cX6_choicesNow 10 = .ok (.aload_n 0, 1) := by decide +kernel
theorem dX6_choicesNow_11 : decode cX6_choicesNow 11 = .ok (.iload_n 1, 1) := by decide +kernel
theorem dX6_choicesNow_12 : decode cX6_choicesNow 12 = .ok (.iload_n 3, 1) := by decide +kernel
theorem dX6_choicesNow_13 : decode cX6_choicesNow 13 = .ok (.invokevirtual 144, 3) := by decide +kernel
theorem dX6_choicesNow_16 : decode cX6_choicesNow 16 = .ok (.ifCond .ne 9, 3) := by decide +kernel
theorem dX6_choicesNow_19 : decode cX6_choicesNow 19 = .ok (.iconst 1, 1) := by decide +kernel
theorem dX6_choicesNow_20 : decode cX6_choicesNow 20 = .ok (.iload_n 3, 1) := by decide +kernel
theorem dX6_choicesNow_21 : decode cX6_choicesNow 21 = .ok (.ishl, 1) := by decide +kernel
theorem dX6_choicesNow_22 : decode cX6_choicesNow 22 = .ok (.goto 4, 3) := by decide +kernel
theorem dX6_choicesNow_25 : decode cX6_choicesNow 25 = .ok (.iconst 0, 1) := by decide +kernel
theorem dX6_choicesNow_26 : decode cX6_choicesNow 26 = .ok (.ior, 1) := by decide +kernel
theorem dX6_choicesNow_27 : decode cX6_choicesNow 27 = .ok (.istore_n 2, 1) := by decide +kernel
theorem dX6_choicesNow_28 : decode cX6_choicesNow 28 = .ok (.iinc 3 1, 3) := by decide +kernel
theorem dX6_choicesNow_31 : decode cX6_choicesNow 31 = .ok (.goto (-27), 3) := by decide +kernel
theorem dX6_choicesNow_34 : decode cX6_choicesNow 34 = .ok (.iload_n 2, 1) := by decide +kernel
theorem dX6_choicesNow_35 : decode cX6_choicesNow 35 = .ok (.ireturn, 1) := by decide +kernel
theorem dX6_reader_0 : decode cX6_reader 0 = .ok (.iload_n 1, 1) := by decide +kernel
theorem dX6_reader_1 : decode cX6_reader 1 = .ok (.invokestatic 135, 3) := by decide +kernel
theorem dX6_reader_4 : decode cX6_reader 4 = .ok (.ifCond .ne 5, 3) := by decide +kernel
theorem dX6_reader_7 : decode cX6_reader 7 = .ok (.iconst (-1), 1) := by decide +kernel
theorem dX6_reader_8 : decode cX6_reader 8 = .ok (.ireturn, 1) := by decide +kernel
theorem dX6_reader_9 : decode cX6_reader 9 = .ok (.iload_n 2, 1) := by decide +kernel
theorem dX6_reader_10 : decode cX6_reader 10 = .ok (.iconst 0, 1) := by decide +kernel
theorem dX6_reader_11 : decode cX6_reader 11 = .ok (.iconst 3, 1) := by decide +kernel
theorem dX6_reader_12 : decode cX6_reader 12 = .ok (.invokestatic 50, 3) := by decide +kernel
theorem dX6_reader_15 : decode cX6_reader 15 = .ok (.ifCond .ne 6, 3) := by decide +kernel
theorem dX6_reader_18 : decode cX6_reader 18 = .ok (.bipush (-2), 2) := by decide +kernel
theorem dX6_reader_20 : decode cX6_reader 20 = .ok (.ireturn, 1) := by decide +kernel
theorem dX6_reader_21 : decode cX6_reader 21 = .ok (.aload_n 0, 1) := by decide +kernel
theorem dX6_reader_22 : decode cX6_reader 22 = .ok (.iload_n 1, 1) := by decide +kernel
theorem dX6_reader_23 : decode cX6_reader 23 = .ok (.iconst 0, 1) := by decide +kernel
theorem dX6_reader_24 : decode cX6_reader 24 = .ok (.invokevirtual 141, 3) := by decide +kernel
theorem dX6_reader_27 : decode cX6_reader 27 = .ok (.bipush (-5), 2) := by decide +kernel
theorem dX6_reader_29 : decode cX6_reader 29 = .ok (.if_icmp .ne 6, 3) := by decide +kernel
theorem dX6_reader_32 : decode cX6_reader 32 = .ok (.bipush (-5), 2) := by decide +kernel
theorem dX6_reader_34 : decode cX6_reader 34 = .ok (.ireturn, 1) := by decide +kernel
theorem dX6_reader_35 : decode cX6_reader 35 = .ok (.iload_n 2, 1) := by decide +kernel
theorem dX6_reader_36 : decode cX6_reader 36 = .ok (.iconst 2, 1) := by decide +kernel
theorem dX6_reader_37 : decode cX6_reader 37 = .ok (.if_icmp .ne 11, 3) := by decide +kernel
theorem dX6_reader_40 : decode cX6_reader 40 = .ok (.aload_n 0, 1) := by decide +kernel
theorem dX6_reader_41 : decode cX6_reader 41 = .ok (.iload_n 1, 1) := by decide +kernel
theorem dX6_reader_42 : decode cX6_reader 42 = .ok (.invokevirtual 153, 3) := by decide +kernel
theorem dX6_reader_45 : decode cX6_reader 45 = .ok (.goto 18, 3) := by decide +kernel
theorem dX6_reader_48 : decode cX6_reader 48 = .ok (.aload_n 0, 1) := by decide +kernel
theorem dX6_reader_49 : decode cX6_reader 49 = .ok (.iload_n 1, 1) := by decide +kernel
theorem dX6_reader_50 : decode cX6_reader 50 = .ok (.iload_n 2, 1) := by decide +kernel
theorem dX6_reader_51 : decode cX6_reader 51 = .ok (.iconst 3, 1) := by decide +kernel
theorem dX6_reader_52 : decode cX6_reader 52 = .ok (.if_icmp .ne 7, 3) := by decide +kernel
theorem dX6_reader_55 : decode cX6_reader 55 = .ok (.iconst 2, 1) := by decide +kernel
theorem dX6_reader_56 : decode cX6_reader 56 = .ok (.goto 4, 3) := by decide +kernel
theorem dX6_reader_59 : decode cX6_reader 59 = .ok (.iload_n 2, 1) := by decide +kernel
theorem dX6_reader_60 : decode cX6_reader 60 = .ok (.invokevirtual 141, 3) := by decide +kernel
theorem dX6_reader_63 : decode cX6_reader 63 = .ok (.ireturn, 1) := by decide +kernel
theorem dX6_page_0 : decode cX6_page 0 = .ok (.aload_n 0, 1) := by decide +kernel
theorem dX6_page_1 : decode cX6_page 1 = .ok (.iload_n 1, 1) := by decide +kernel
theorem dX6_page_2 : decode cX6_page 2 = .ok (.invokevirtual 54, 3) := by decide +kernel
theorem dX6_page_5 : decode cX6_page 5 = .ok (.ifCond .ne 5, 3) := by decide +kernel
theorem dX6_page_8 : decode cX6_page 8 = .ok (.iconst (-1), 1) := by decide +kernel
theorem dX6_page_9 : decode cX6_page 9 = .ok (.ireturn, 1) := by decide +kernel
theorem dX6_page_10 : decode cX6_page 10 = .ok (.iload_n 2, 1) := by decide +kernel
theorem dX6_page_11 : decode cX6_page 11 = .ok (.tableswitch 187 0 10 #[57, 64, 71, 78, 87, 113, 127, 145, 169, 175, 181], 57) := by decide +kernel
theorem dX6_page_68 : decode cX6_page 68 = .ok (.aload_n 0, 1) := by decide +kernel
theorem dX6_page_69 : decode cX6_page 69 = .ok (.iload_n 1, 1) := by decide +kernel
theorem dX6_page_70 : decode cX6_page 70 = .ok (.iconst 3, 1) := by decide +kernel
theorem dX6_page_71 : decode cX6_page 71 = .ok (.invokevirtual 62, 3) := by decide +kernel
theorem dX6_page_74 : decode cX6_page 74 = .ok (.ireturn, 1) := by decide +kernel
theorem dX6_page_75 : decode cX6_page 75 = .ok (.aload_n 0, 1) := by decide +kernel
theorem dX6_page_76 : decode cX6_page 76 = .ok (.iload_n 1, 1) := by decide +kernel
theorem dX6_page_77 : decode cX6_page 77 = .ok (.iconst 1, 1) := by decide +kernel
theorem dX6_page_78 : decode cX6_page 78 = .ok (.invokevirtual 62, 3) := by decide +kernel
theorem dX6_page_81 : decode cX6_page 81 = .ok (.ireturn, 1) := by decide +kernel
theorem dX6_page_82 : decode cX6_page 82 = .ok (.aload_n 0, 1) := by decide +kernel
theorem dX6_page_83 : decode cX6_page 83 = .ok (.iload_n 1, 1) := by decide +kernel
theorem dX6_page_84 : decode cX6_page 84 = .ok (.iconst 2, 1) := by decide +kernel
theorem dX6_page_85 : decode cX6_page 85 = .ok (.invokevirtual 62, 3) := by decide +kernel
theorem dX6_page_88 : decode cX6_page 88 = .ok (.ireturn, 1) := by decide +kernel
theorem dX6_page_89 : decode cX6_page 89 = .ok (.aload_n 0, 1) := by decide +kernel
theorem dX6_page_90 : decode cX6_page 90 = .ok (.iload_n 1, 1) := by decide +kernel
theorem dX6_page_91 : decode cX6_page 91 = .ok (.invokevirtual 156, 3) := by decide +kernel
theorem dX6_page_94 : decode cX6_page 94 = .ok (.invokestatic 160, 3) := by decide +kernel
theorem dX6_page_97 : decode cX6_page 97 = .ok (.ireturn, 1) := by decide +kernel
theorem dX6_page_98 : decode cX6_page 98 = .ok (.aload_n 0, 1) := by decide +kernel
theorem dX6_page_99 : decode cX6_page 99 = .ok (.iload_n 1, 1) := by decide +kernel
theorem dX6_page_100 : decode cX6_page 100 = .ok (.invokevirtual 66, 3) := by decide +kernel
theorem dX6_page_103 : decode cX6_page 103 = .ok (.ifCond .ne 7, 3) := by decide +kernel
theorem dX6_page_106 : decode cX6_page 106 = .ok (.iconst 0, 1) := by decide +kernel
theorem dX6_page_107 : decode cX6_page 107 = .ok (.goto 16, 3) := by decide +kernel
theorem dX6_page_110 : decode cX6_page 110 = .ok (.aload_n 0, 1) := by decide +kernel
theorem dX6_page_111 : decode cX6_page 111 = .ok (.iload_n 1, 1) := by decide +kernel
theorem dX6_page_112 : decode cX6_page 112 = .ok (.invokevirtual 166, 3) := by decide +kernel
theorem dX6_page_115 : decode cX6_page 115 = .ok (.ifCond .eq 7, 3) := by decide +kernel
theorem dX6_page_118 : decode cX6_page 118 = .ok (.iconst 1, 1) := by decide +kernel
theorem dX6_page_119 : decode cX6_page 119 = .ok (.goto 4, 3) := by decide +kernel
theorem dX6_page_122 : decode cX6_page 122 = .ok (.iconst 2, 1) := by decide +kernel
theorem dX6_page_123 : decode cX6_page 123 = .ok (.ireturn, 1) := by decide +kernel
theorem dX6_page_124 : decode cX6_page 124 = .ok (.aload_n 0, 1) := by decide +kernel
theorem dX6_page_125 : decode cX6_page 125 = .ok (.iload_n 1, 1) := by decide +kernel
theorem dX6_page_126 : decode cX6_page 126 = .ok (.invokevirtual 169, 3) := by decide +kernel
theorem dX6_page_129 : decode cX6_page 129 = .ok (.ifCond .ne 7, 3) := by decide +kernel
theorem dX6_page_132 : decode cX6_page 132 = .ok (.iconst 1, 1) := by decide +kernel
theorem dX6_page_133 : decode cX6_page 133 = .ok (.goto 4, 3) := by decide +kernel
theorem dX6_page_136 : decode cX6_page 136 = .ok (.iconst 0, 1) := by decide +kernel
theorem dX6_page_137 : decode cX6_page 137 = .ok (.ireturn, 1) := by decide +kernel
theorem dX6_page_138 : decode cX6_page 138 = .ok (.aload_n 0, 1) := by decide +kernel
theorem dX6_page_139 : decode cX6_page 139 = .ok (.invokevirtual 99, 3) := by decide +kernel
theorem dX6_page_142 : decode cX6_page 142 = .ok (.aload_n 0, 1) := by decide +kernel
theorem dX6_page_143 : decode cX6_page 143 = .ok (.iload_n 1, 1) := by decide +kernel
theorem dX6_page_144 : decode cX6_page 144 = .ok (.invokevirtual 172, 3) := by decide +kernel
theorem dX6_page_147 : decode cX6_page 147 = .ok (.ifCond .eq 7, 3) := by decide +kernel
theorem dX6_page_150 : decode cX6_page 150 = .ok (.iconst 1, 1) := by decide +kernel
theorem dX6_page_151 : decode cX6_page 151 = .ok (.goto 4, 3) := by decide +kernel
theorem dX6_page_154 : decode cX6_page 154 = .ok (.iconst 0, 1) := by decide +kernel
theorem dX6_page_155 : decode cX6_page 155 = .ok (.ireturn, 1) := by decide +kernel
theorem dX6_page_156 : decode cX6_page 156 = .ok (.aload_n 0, 1) := by decide +kernel
theorem dX6_page_157 : decode cX6_page 157 = .ok (.bipush 32, 2) := by decide +kernel
theorem dX6_page_159 : decode cX6_page 159 = .ok (.iload_n 1, 1) := by decide +kernel
theorem dX6_page_160 : decode cX6_page 160 = .ok (.imul, 1) := by decide +kernel
theorem dX6_page_161 : decode cX6_page 161 = .ok (.bipush 32, 2) := by decide +kernel
theorem dX6_page_163 : decode cX6_page 163 = .ok (.iload_n 1, 1) := by decide +kernel
theorem dX6_page_164 : decode cX6_page 164 = .ok (.imul, 1) := by decide +kernel
theorem dX6_page_165 : decode cX6_page 165 = .ok (.bipush 31, 2) := by decide +kernel
theorem dX6_page_167 : decode cX6_page 167 = .ok (.iadd, 1) := by decide +kernel
theorem dX6_page_168 : decode cX6_page 168 = .ok (.invokevirtual 175, 3) := by decide +kernel
theorem dX6_page_171 : decode cX6_page 171 = .ok (.ifCond .le 7, 3) := by decide +kernel
theorem dX6_page_174 : decode cX6_page 174 = .ok (.iconst 1, 1) := by decide +kernel
theorem dX6_page_175 : decode cX6_page 175 = .ok (.goto 4, 3) := by decide +kernel
theorem dX6_page_178 : decode cX6_page 178 = .ok (.iconst 0, 1) := by decide +kernel
theorem dX6_page_179 : decode cX6_page 179 = .ok (.ireturn, 1) := by decide +kernel
theorem dX6_page_180 : decode cX6_page 180 = .ok (.aload_n 0, 1) := by decide +kernel
theorem dX6_page_181 : decode cX6_page 181 = .ok (.iload_n 1, 1) := by decide +kernel
theorem dX6_page_182 : decode cX6_page 182 = .ok (.invokevirtual 169, 3) := by decide +kernel
theorem dX6_page_185 : decode cX6_page 185 = .ok (.ireturn, 1) := by decide +kernel
theorem dX6_page_186 : decode cX6_page 186 = .ok (.aload_n 0, 1) := by decide +kernel
theorem dX6_page_187 : decode cX6_page 187 = .ok (.iload_n 1, 1) := by decide +kernel
theorem dX6_page_188 : decode cX6_page 188 = .ok (.invokevirtual 178, 3) := by decide +kernel
theorem dX6_page_191 : decode cX6_page 191 = .ok (.ireturn, 1) := by decide +kernel
theorem dX6_page_192 : decode cX6_page 192 = .ok (.aload_n 0, 1) := by decide +kernel
theorem dX6_page_193 : decode cX6_page 193 = .ok (.iload_n 1, 1) := by decide +kernel
theorem dX6_page_194 : decode cX6_page 194 = .ok (.invokevirtual 128, 3) := by decide +kernel
theorem dX6_page_197 : decode cX6_page 197 = .ok (.ireturn, 1) := by decide +kernel
theorem dX6_page_198 : decode cX6_page 198 = .ok (.bipush (-2), 2) := by decide +kernel
theorem dX6_page_200 : decode cX6_page 200 = .ok (.ireturn, 1) := by decide +kernel
theorem dX6_canBeTaken_0 : decode cX6_canBeTaken 0 = .ok (.aload_n 0, 1) := by decide +kernel
theorem dX6_canBeTaken_1 : decode cX6_canBeTaken 1 = .ok (.invokevirtual 96, 3) := by decide +kernel
theorem dX6_canBeTaken_4 : decode cX6_canBeTaken 4 = .ok (.iconst 0, 1) := by decide +kernel
theorem dX6_canBeTaken_5 : decode cX6_canBeTaken 5 = .ok (.istore_n 3, 1) := by decide +kernel
theorem dX6_canBeTaken_6 : decode cX6_canBeTaken 6 = .ok (.iconst 0, 1) := by decide +kernel
theorem dX6_canBeTaken_7 : decode cX6_canBeTaken 7 = .ok (.istore 4, 2) := by decide +kernel
theorem dX6_canBeTaken_9 : decode cX6_canBeTaken 9 = .ok (.iload 4, 2) := by decide +kernel
theorem dX6_canBeTaken_11 : decode cX6_canBeTaken 11 = .ok (.bipush 31, 2) := by decide +kernel
theorem dX6_canBeTaken_13 : decode cX6_canBeTaken 13 = .ok (.if_icmp .gt 44, 3) := by decide +kernel
theorem dX6_canBeTaken_16 : decode cX6_canBeTaken 16 = .ok (.aload_n 0, 1) := by decide +kernel
theorem dX6_canBeTaken_17 : decode cX6_canBeTaken 17 = .ok (.getfield 22, 3) := by decide +kernel
theorem dX6_canBeTaken_20 : decode cX6_canBeTaken 20 = .ok (.bipush 32, 2) := by decide +kernel
theorem dX6_canBeTaken_22 : decode cX6_canBeTaken 22 = .ok (.iload_n 1, 1) := by decide +kernel
theorem dX6_canBeTaken_23 : decode cX6_canBeTaken 23 = .ok (.imul, 1) := by decide +kernel
theorem dX6_canBeTaken_24 : decode cX6_canBeTaken 24 = .ok (.iload 4, 2) := by decide +kernel
theorem dX6_canBeTaken_26 : decode cX6_canBeTaken 26 = .ok (.iadd, 1) := by decide +kernel
theorem dX6_canBeTaken_27 : decode cX6_canBeTaken 27 = .ok (.iaload, 1) := by decide +kernel
theorem dX6_canBeTaken_28 : decode cX6_canBeTaken 28 = .ok (.sipush 9999, 3) := by decide +kernel
theorem dX6_canBeTaken_31 : decode cX6_canBeTaken 31 = .ok (.if_icmp .ge 18, 3) := by decide +kernel
theorem dX6_canBeTaken_34 : decode cX6_canBeTaken 34 = .ok (.aload_n 0, 1) := by decide +kernel
theorem dX6_canBeTaken_35 : decode cX6_canBeTaken 35 = .ok (.iload_n 1, 1) := by decide +kernel
theorem dX6_canBeTaken_36 : decode cX6_canBeTaken 36 = .ok (.iload_n 2, 1) := by decide +kernel
theorem dX6_canBeTaken_37 : decode cX6_canBeTaken 37 = .ok (.iload 4, 2) := by decide +kernel
theorem dX6_canBeTaken_39 : decode cX6_canBeTaken 39 = .ok (.invokevirtual 70, 3) := by decide +kernel
theorem dX6_canBeTaken_42 : decode cX6_canBeTaken 42 = .ok (.ifCond .eq 7, 3) := by decide +kernel
theorem dX6_canBeTaken_45 : decode cX6_canBeTaken 45 = .ok (.iconst 1, 1) := by decide +kernel
theorem dX6_canBeTaken_46 : decode cX6_canBeTaken 46 = .ok (.goto 4, 3) := by decide +kernel
theorem dX6_canBeTaken_49 : decode cX6_canBeTaken 49 = .ok (.iload_n 3, 1) := by decide +kernel
theorem dX6_canBeTaken_50 : decode cX6_canBeTaken 50 = .ok (.istore_n 3, 1) := by decide +kernel
theorem dX6_canBeTaken_51 : decode cX6_canBeTaken 51 = .ok (.iinc 4 1, 3) := by decide +kernel
theorem dX6_canBeTaken_54 : decode cX6_canBeTaken 54 = .ok (.goto (-45), 3) := by decide +kernel
theorem dX6_canBeTaken_57 : decode cX6_canBeTaken 57 = .ok (.iload_n 3, 1) := by decide +kernel
theorem dX6_canBeTaken_58 : decode cX6_canBeTaken 58 = .ok (.ireturn, 1) := by decide +kernel
theorem dX6_choice_0 : decode cX6_choice 0 = .ok (.aload_n 0, 1) := by decide +kernel
theorem dX6_choice_1 : decode cX6_choice 1 = .ok (.iload_n 1, 1) := by decide +kernel
theorem dX6_choice_2 : decode cX6_choice 2 = .ok (.iload_n 2, 1) := by decide +kernel
theorem dX6_choice_3 : decode cX6_choice 3 = .ok (.invokevirtual 124, 3) := by decide +kernel
theorem dX6_choice_6 : decode cX6_choice 6 = .ok (.ifCond .ne 5, 3) := by decide +kernel
theorem dX6_choice_9 : decode cX6_choice 9 = .ok (.iconst (-1), 1) := by decide +kernel
theorem dX6_choice_10 : decode cX6_choice 10 = .ok (.ireturn, 1) := by decide +kernel
theorem dX6_choice_11 : decode cX6_choice 11 = .ok (.iload_n 3, 1) := by decide +kernel
theorem dX6_choice_12 : decode cX6_choice 12 = .ok (.tableswitch 47 0 3 #[32, 32, 32, 40], 32) := by decide +kernel
theorem dX6_choice_44 : decode cX6_choice 44 = .ok (.aload_n 0, 1) := by decide +kernel
theorem dX6_choice_45 : decode cX6_choice 45 = .ok (.iload_n 1, 1) := by decide +kernel
theorem dX6_choice_46 : decode cX6_choice 46 = .ok (.iload_n 2, 1) := by decide +kernel
theorem dX6_choice_47 : decode cX6_choice 47 = .ok (.iload_n 3, 1) := by decide +kernel
theorem dX6_choice_48 : decode cX6_choice 48 = .ok (.invokevirtual 58, 3) := by decide +kernel
theorem dX6_choice_51 : decode cX6_choice 51 = .ok (.ireturn, 1) := by decide +kernel
theorem dX6_choice_52 : decode cX6_choice 52 = .ok (.aload_n 0, 1) := by decide +kernel
theorem dX6_choice_53 : decode cX6_choice 53 = .ok (.iload_n 1, 1) := by decide +kernel
theorem dX6_choice_54 : decode cX6_choice 54 = .ok (.iload_n 2, 1) := by decide +kernel
theorem dX6_choice_55 : decode cX6_choice 55 = .ok (.invokevirtual 181, 3) := by decide +kernel
theorem dX6_choice_58 : decode cX6_choice 58 = .ok (.ireturn, 1) := by decide +kernel
theorem dX6_choice_59 : decode cX6_choice 59 = .ok (.bipush (-2), 2) := by decide +kernel
theorem dX6_choice_61 : decode cX6_choice 61 = .ok (.ireturn, 1) := by decide +kernel
theorem dX6_findsWay_0 : decode cX6_findsWay 0 = .ok (.aload_n 0, 1) := by decide +kernel
theorem dX6_findsWay_1 : decode cX6_findsWay 1 = .ok (.invokevirtual 96, 3) := by decide +kernel
theorem dX6_findsWay_4 : decode cX6_findsWay 4 = .ok (.bipush (-5), 2) := by decide +kernel
theorem dX6_findsWay_6 : decode cX6_findsWay 6 = .ok (.istore_n 1, 1) := by decide +kernel
theorem dX6_findsWay_7 : decode cX6_findsWay 7 = .ok (.aload_n 0, 1) := by decide +kernel
theorem dX6_findsWay_8 : decode cX6_findsWay 8 = .ok (.getfield 76, 3) := by decide +kernel
theorem dX6_findsWay_11 : decode cX6_findsWay 11 = .ok (.iconst 1, 1) := by decide +kernel
theorem dX6_findsWay_12 : decode cX6_findsWay 12 = .ok (.isub, 1) := by decide +kernel
theorem dX6_findsWay_13 : decode cX6_findsWay 13 = .ok (.istore_n 2, 1) := by decide +kernel
theorem dX6_findsWay_14 : decode cX6_findsWay 14 = .ok (.iload_n 2, 1) := by decide +kernel
theorem dX6_findsWay_15 : decode cX6_findsWay 15 = .ok (.ifCond .lt 36, 3) := by decide +kernel
theorem dX6_findsWay_18 : decode cX6_findsWay 18 = .ok (.aload_n 0, 1) := by decide +kernel
theorem dX6_findsWay_19 : decode cX6_findsWay 19 = .ok (.aload_n 0, 1) := by decide +kernel
theorem dX6_findsWay_20 : decode cX6_findsWay 20 = .ok (.getfield 31, 3) := by decide +kernel
theorem dX6_findsWay_23 : decode cX6_findsWay 23 = .ok (.iload_n 2, 1) := by decide +kernel
theorem dX6_findsWay_24 : decode cX6_findsWay 24 = .ok (.iaload, 1) := by decide +kernel
theorem dX6_findsWay_25 : decode cX6_findsWay 25 = .ok (.bipush 32, 2) := by decide +kernel
theorem dX6_findsWay_27 : decode cX6_findsWay 27 = .ok (.idiv, 1) := by decide +kernel
theorem dX6_findsWay_28 : decode cX6_findsWay 28 = .ok (.invokevirtual 166, 3) := by decide +kernel
theorem dX6_findsWay_31 : decode cX6_findsWay 31 = .ok (.ifCond .eq 12, 3) := by decide +kernel
theorem dX6_findsWay_34 : decode cX6_findsWay 34 = .ok (.aload_n 0, 1) := by decide +kernel
theorem dX6_findsWay_35 : decode cX6_findsWay 35 = .ok (.getfield 31, 3) := by decide +kernel
theorem dX6_findsWay_38 : decode cX6_findsWay 38 = .ok (.iload_n 2, 1) := by decide +kernel
theorem dX6_findsWay_39 : decode cX6_findsWay 39 = .ok (.iaload, 1) := by decide +kernel
theorem dX6_findsWay_40 : decode cX6_findsWay 40 = .ok (.goto 4, 3) := by decide +kernel
theorem dX6_findsWay_43 : decode cX6_findsWay 43 = .ok (.iload_n 1, 1) := by decide +kernel
theorem dX6_findsWay_44 : decode cX6_findsWay 44 = .ok (.istore_n 1, 1) := by decide +kernel
theorem dX6_findsWay_45 : decode cX6_findsWay 45 = .ok (.iinc 2 (-1), 3) := by decide +kernel
theorem dX6_findsWay_48 : decode cX6_findsWay 48 = .ok (.goto (-34), 3) := by decide +kernel
theorem dX6_findsWay_51 : decode cX6_findsWay 51 = .ok (.iload_n 1, 1) := by decide +kernel
theorem dX6_findsWay_52 : decode cX6_findsWay 52 = .ok (.bipush (-5), 2) := by decide +kernel
theorem dX6_findsWay_54 : decode cX6_findsWay 54 = .ok (.if_icmp .ne 5, 3) := by decide +kernel
theorem dX6_findsWay_57 : decode cX6_findsWay 57 = .ok (.iconst 0, 1) := by decide +kernel
theorem dX6_findsWay_58 : decode cX6_findsWay 58 = .ok (.ireturn, 1) := by decide +kernel
theorem dX6_findsWay_59 : decode cX6_findsWay 59 = .ok (.aload_n 0, 1) := by decide +kernel
theorem dX6_findsWay_60 : decode cX6_findsWay 60 = .ok (.aload_n 0, 1) := by decide +kernel
theorem dX6_findsWay_61 : decode cX6_findsWay 61 = .ok (.getfield 22, 3) := by decide +kernel
theorem dX6_findsWay_64 : decode cX6_findsWay 64 = .ok (.iload_n 1, 1) := by decide +kernel
theorem dX6_findsWay_65 : decode cX6_findsWay 65 = .ok (.iaload, 1) := by decide +kernel
theorem dX6_findsWay_66 : decode cX6_findsWay 66 = .ok (.putfield 184, 3) := by decide +kernel
theorem dX6_findsWay_69 : decode cX6_findsWay 69 = .ok (.aload_n 0, 1) := by decide +kernel
theorem dX6_findsWay_70 : decode cX6_findsWay 70 = .ok (.getfield 184, 3) := by decide +kernel
theorem dX6_findsWay_73 : decode cX6_findsWay 73 = .ok (.istore_n 2, 1) := by decide +kernel
theorem dX6_findsWay_74 : decode cX6_findsWay 74 = .ok (.iload_n 2, 1) := by decide +kernel
theorem dX6_findsWay_75 : decode cX6_findsWay 75 = .ok (.ifCond .lt 23, 3) := by decide +kernel
theorem dX6_findsWay_78 : decode cX6_findsWay 78 = .ok (.aload_n 0, 1) := by decide +kernel
theorem dX6_findsWay_79 : decode cX6_findsWay 79 = .ok (.getfield 40, 3) := by decide +kernel
theorem dX6_findsWay_82 : decode cX6_findsWay 82 = .ok (.iload_n 2, 1) := by decide +kernel
theorem dX6_findsWay_83 : decode cX6_findsWay 83 = .ok (.iload_n 1, 1) := by decide +kernel
theorem dX6_findsWay_84 : decode cX6_findsWay 84 = .ok (.iastore, 1) := by decide +kernel
theorem dX6_findsWay_85 : decode cX6_findsWay 85 = .ok (.aload_n 0, 1) := by decide +kernel
theorem dX6_findsWay_86 : decode cX6_findsWay 86 = .ok (.getfield 25, 3) := by decide +kernel
theorem dX6_findsWay_89 : decode cX6_findsWay 89 = .ok (.iload_n 1, 1) := by decide +kernel
theorem dX6_findsWay_90 : decode cX6_findsWay 90 = .ok (.iaload, 1) := by decide +kernel
theorem dX6_findsWay_91 : decode cX6_findsWay 91 = .ok (.istore_n 1, 1) := by decide +kernel
theorem dX6_findsWay_92 : decode cX6_findsWay 92 = .ok (.iinc 2 (-1), 3) := by decide +kernel
theorem dX6_findsWay_95 : decode cX6_findsWay 95 = .ok (.goto (-21), 3) := by decide +kernel
theorem dX6_findsWay_98 : decode cX6_findsWay 98 = .ok (.iconst 1, 1) := by decide +kernel
theorem dX6_findsWay_99 : decode cX6_findsWay 99 = .ok (.ireturn, 1) := by decide +kernel
theorem dX6_way_0 : decode cX6_way 0 = .ok (.iload_n 1, 1) := by decide +kernel
theorem dX6_way_1 : decode cX6_way 1 = .ok (.ifCond .lt 12, 3) := by decide +kernel
theorem dX6_way_4 : decode cX6_way 4 = .ok (.iload_n 2, 1) := by decide +kernel
theorem dX6_way_5 : decode cX6_way 5 = .ok (.iconst 0, 1) := by decide +kernel
theorem dX6_way_6 : decode cX6_way 6 = .ok (.iconst 2, 1) := by decide +kernel
theorem dX6_way_7 : decode cX6_way 7 = .ok (.invokestatic 50, 3) := by decide +kernel
theorem dX6_way_10 : decode cX6_way 10 = .ok (.ifCond .ne 6, 3) := by decide +kernel
theorem dX6_way_13 : decode cX6_way 13 = .ok (.bipush (-2), 2) := by decide +kernel
theorem dX6_way_15 : decode cX6_way 15 = .ok (.ireturn, 1) := by decide +kernel
theorem dX6_way_16 : decode cX6_way 16 = .ok (.aload_n 0, 1) := by decide +kernel
theorem dX6_way_17 : decode cX6_way 17 = .ok (.invokevirtual 187, 3) := by decide +kernel
theorem dX6_way_20 : decode cX6_way 20 = .ok (.ifCond .eq 11, 3) := by decide +kernel
theorem dX6_way_23 : decode cX6_way 23 = .ok (.iload_n 1, 1) := by decide +kernel
theorem dX6_way_24 : decode cX6_way 24 = .ok (.aload_n 0, 1) := by decide +kernel
theorem dX6_way_25 : decode cX6_way 25 = .ok (.getfield 184, 3) := by decide +kernel
theorem dX6_way_28 : decode cX6_way 28 = .ok (.if_icmp .le 6, 3) := by decide +kernel
theorem dX6_way_31 : decode cX6_way 31 = .ok (.bipush (-5), 2) := by decide +kernel
theorem dX6_way_33 : decode cX6_way 33 = .ok (.ireturn, 1) := by decide +kernel
theorem dX6_way_34 : decode cX6_way 34 = .ok (.iload_n 2, 1) := by decide +kernel
theorem dX6_way_35 : decode cX6_way 35 = .ok (.ifCond .ne 15, 3) := by decide +kernel
theorem dX6_way_38 : decode cX6_way 38 = .ok (.aload_n 0, 1) := by decide +kernel
theorem dX6_way_39 : decode cX6_way 39 = .ok (.getfield 40, 3) := by decide +kernel
theorem dX6_way_42 : decode cX6_way 42 = .ok (.iload_n 1, 1) := by decide +kernel
theorem dX6_way_43 : decode cX6_way 43 = .ok (.iaload, 1) := by decide +kernel
theorem dX6_way_44 : decode cX6_way 44 = .ok (.bipush 32, 2) := by decide +kernel
theorem dX6_way_46 : decode cX6_way 46 = .ok (.idiv, 1) := by decide +kernel
theorem dX6_way_47 : decode cX6_way 47 = .ok (.goto 46, 3) := by decide +kernel
theorem dX6_way_50 : decode cX6_way 50 = .ok (.iload_n 2, 1) := by decide +kernel
theorem dX6_way_51 : decode cX6_way 51 = .ok (.iconst 1, 1) := by decide +kernel
theorem dX6_way_52 : decode cX6_way 52 = .ok (.if_icmp .ne 15, 3) := by decide +kernel
theorem dX6_way_55 : decode cX6_way 55 = .ok (.aload_n 0, 1) := by decide +kernel
theorem dX6_way_56 : decode cX6_way 56 = .ok (.getfield 40, 3) := by decide +kernel
theorem dX6_way_59 : decode cX6_way 59 = .ok (.iload_n 1, 1) := by decide +kernel
theorem dX6_way_60 : decode cX6_way 60 = .ok (.iaload, 1) := by decide +kernel
theorem dX6_way_61 : decode cX6_way 61 = .ok (.bipush 32, 2) := by decide +kernel
theorem dX6_way_63 : decode cX6_way 63 = .ok (.irem, 1) := by decide +kernel
theorem dX6_way_64 : decode cX6_way 64 = .ok (.goto 29, 3) := by decide +kernel
theorem dX6_way_67 : decode cX6_way 67 = .ok (.iload_n 1, 1) := by decide +kernel
theorem dX6_way_68 : decode cX6_way 68 = .ok (.aload_n 0, 1) := by decide +kernel
theorem dX6_way_69 : decode cX6_way 69 = .ok (.getfield 184, 3) := by decide +kernel
theorem dX6_way_72 : decode cX6_way 72 = .ok (.if_icmp .ne 8, 3) := by decide +kernel
theorem dX6_way_75 : decode cX6_way 75 = .ok (.bipush (-5), 2) := by decide +kernel
theorem dX6_way_77 : decode cX6_way 77 = .ok (.goto 16, 3) := by decide +kernel
theorem dX6_way_80 : decode cX6_way 80 = .ok (.aload_n 0, 1) := by decide +kernel
theorem dX6_way_81 : decode cX6_way 81 = .ok (.getfield 28, 3) := by decide +kernel
theorem dX6_way_84 : decode cX6_way 84 = .ok (.aload_n 0, 1) := by decide +kernel
theorem dX6_way_85 : decode cX6_way 85 = .ok (.getfield 40, 3) := by decide +kernel
theorem dX6_way_88 : decode cX6_way 88 = .ok (.iload_n 1, 1) := by decide +kernel
theorem dX6_way_89 : decode cX6_way 89 = .ok (.iconst 1, 1) := by decide +kernel
theorem dX6_way_90 : decode cX6_way 90 = .ok (.iadd, 1) := by decide +kernel
theorem dX6_way_91 : decode cX6_way 91 = .ok (.iaload, 1) := by decide +kernel
theorem dX6_way_92 : decode cX6_way 92 = .ok (.iaload, 1) := by decide +kernel
theorem dX6_way_93 : decode cX6_way 93 = .ok (.ireturn, 1) := by decide +kernel
theorem dX6_wayMood_0 : decode cX6_wayMood 0 = .ok (.aload_n 0, 1) := by decide +kernel
theorem dX6_wayMood_1 : decode cX6_wayMood 1 = .ok (.invokevirtual 187, 3) := by decide +kernel
theorem dX6_wayMood_4 : decode cX6_wayMood 4 = .ok (.ifCond .ne 6, 3) := by decide +kernel
theorem dX6_wayMood_7 : decode cX6_wayMood 7 = .ok (.bipush (-5), 2) := by decide +kernel
theorem dX6_wayMood_9 : decode cX6_wayMood 9 = .ok (.ireturn, 1) := by decide +kernel
theorem dX6_wayMood_10 : decode cX6_wayMood 10 = .ok (.fconst 0, 1) := by decide +kernel
theorem dX6_wayMood_11 : decode cX6_wayMood 11 = .ok (.fstore_n 1, 1) := by decide +kernel
theorem dX6_wayMood_12 : decode cX6_wayMood 12 = .ok (.iconst 0, 1) := by decide +kernel
theorem dX6_wayMood_13 : decode cX6_wayMood 13 = .ok (.istore_n 2, 1) := by decide +kernel
theorem dX6_wayMood_14 : decode cX6_wayMood 14 = .ok (.iload_n 2, 1) := by decide +kernel
theorem dX6_wayMood_15 : decode cX6_wayMood 15 = .ok (.aload_n 0, 1) := by decide +kernel
theorem dX6_wayMood_16 : decode cX6_wayMood 16 = .ok (.getfield 184, 3) := by decide +kernel
theorem dX6_wayMood_19 : decode cX6_wayMood 19 = .ok (.if_icmp .gt 25, 3) := by decide +kernel
theorem dX6_wayMood_22 : decode cX6_wayMood 22 = .ok (.fload_n 1, 1) := by decide +kernel
theorem dX6_wayMood_23 : decode cX6_wayMood 23 = .ok (.aload_n 0, 1) := by decide +kernel
theorem dX6_wayMood_24 : decode cX6_wayMood 24 = .ok (.aload_n 0, 1) := by decide +kernel
theorem dX6_wayMood_25 : decode cX6_wayMood 25 = .ok (.getfield 40, 3) := by decide +kernel
theorem dX6_wayMood_28 : decode cX6_wayMood 28 = .ok (.iload_n 2, 1) := by decide +kernel
theorem dX6_wayMood_29 : decode cX6_wayMood 29 = .ok (.iaload, 1) := by decide +kernel
theorem dX6_wayMood_30 : decode cX6_wayMood 30 = .ok (.bipush 32, 2) := by decide +kernel
theorem dX6_wayMood_32 : decode cX6_wayMood 32 = .ok (.idiv, 1) := by decide +kernel
theorem dX6_wayMood_33 : decode cX6_wayMood 33 = .ok (.invokevirtual 156, 3) := by decide +kernel
theorem dX6_wayMood_36 : decode cX6_wayMood 36 = .ok (.fadd, 1) := by decide +kernel
theorem dX6_wayMood_37 : decode cX6_wayMood 37 = .ok (.fstore_n 1, 1) := by decide +kernel
theorem dX6_wayMood_38 : decode cX6_wayMood 38 = .ok (.iinc 2 1, 3) := by decide +kernel
theorem dX6_wayMood_41 : decode cX6_wayMood 41 = .ok (.goto (-27), 3) := by decide +kernel
theorem dX6_wayMood_44 : decode cX6_wayMood 44 = .ok (.fload_n 1, 1) := by decide +kernel
theorem dX6_wayMood_45 : decode cX6_wayMood 45 = .ok (.invokestatic 160, 3) := by decide +kernel
theorem dX6_wayMood_48 : decode cX6_wayMood 48 = .ok (.ireturn, 1) := by decide +kernel
theorem dX6_choices_0 : decode cX6_choices 0 = .ok (.iconst 0, 1) := by decide +kernel
theorem dX6_choices_1 : decode cX6_choices 1 = .ok (.istore_n 1, 1) := by decide +kernel
theorem dX6_choices_2 : decode cX6_choices 2 = .ok (.iconst 0, 1) := by decide +kernel
theorem dX6_choices_3 : decode cX6_choices 3 = .ok (.istore_n 2, 1) := by decide +kernel
theorem dX6_choices_4 : decode cX6_choices 4 = .ok (.iload_n 2, 1) := by decide +kernel
theorem dX6_choices_5 : decode cX6_choices 5 = .ok (.aload_n 0, 1) := by decide +kernel
theorem dX6_choices_6 : decode cX6_choices 6 = .ok (.getfield 7, 3) := by decide +kernel
theorem dX6_choices_9 : decode cX6_choices 9 = .ok (.iconst 0, 1) := by decide +kernel
theorem dX6_choices_10 : decode cX6_choices 10 = .ok (.iaload, 1) := by decide +kernel
theorem dX6_choices_11 : decode cX6_choices 11 = .ok (.if_icmp .ge 18, 3) := by decide +kernel
theorem dX6_choices_14 : decode cX6_choices 14 = .ok (.iload_n 1, 1) := by decide +kernel
theorem dX6_choices_15 : decode cX6_choices 15 = .ok (.aload_n 0, 1) := by decide +kernel
theorem dX6_choices_16 : decode cX6_choices 16 = .ok (.iload_n 2, 1) := by decide +kernel
theorem dX6_choices_17 : decode cX6_choices 17 = .ok (.iconst 3, 1) := by decide +kernel
theorem dX6_choices_18 : decode cX6_choices 18 = .ok (.invokevirtual 62, 3) := by decide +kernel
theorem dX6_choices_21 : decode cX6_choices 21 = .ok (.iadd, 1) := by decide +kernel
theorem dX6_choices_22 : decode cX6_choices 22 = .ok (.istore_n 1, 1) := by decide +kernel
theorem dX6_choices_23 : decode cX6_choices 23 = .ok (.iinc 2 1, 3) := by decide +kernel
theorem dX6_choices_26 : decode cX6_choices 26 = .ok (.goto (-22), 3) := by decide +kernel
theorem dX6_choices_29 : decode cX6_choices 29 = .ok (.iload_n 1, 1) := by decide +kernel
theorem dX6_choices_30 : decode cX6_choices 30 = .ok (.ireturn, 1) := by decide +kernel
theorem dX6_again_0 : decode cX6_again 0 = .ok (.aload_n 0, 1) := by decide +kernel
theorem dX6_again_1 : decode cX6_again 1 = .ok (.invokevirtual 99, 3) := by decide +kernel
theorem dX6_again_4 : decode cX6_again 4 = .ok (.iconst 0, 1) := by decide +kernel
theorem dX6_again_5 : decode cX6_again 5 = .ok (.istore_n 1, 1) := by decide +kernel
theorem dX6_again_6 : decode cX6_again 6 = .ok (.iconst 0, 1) := by decide +kernel
theorem dX6_again_7 : decode cX6_again 7 = .ok (.istore_n 2, 1) := by decide +kernel
theorem dX6_again_8 : decode cX6_again 8 = .ok (.iload_n 2, 1) := by decide +kernel
theorem dX6_again_9 : decode cX6_again 9 = .ok (.aload_n 0, 1) := by decide +kernel
theorem dX6_again_10 : decode cX6_again 10 = .ok (.getfield 7, 3) := by decide +kernel
theorem dX6_again_13 : decode cX6_again 13 = .ok (.iconst 0, 1) := by decide +kernel
theorem dX6_again_14 : decode cX6_again 14 = .ok (.iaload, 1) := by decide +kernel
theorem dX6_again_15 : decode cX6_again 15 = .ok (.if_icmp .ge 25, 3) := by decide +kernel
theorem dX6_again_18 : decode cX6_again 18 = .ok (.iload_n 1, 1) := by decide +kernel
theorem dX6_again_19 : decode cX6_again 19 = .ok (.aload_n 0, 1) := by decide +kernel
theorem dX6_again_20 : decode cX6_again 20 = .ok (.iload_n 2, 1) := by decide +kernel
theorem dX6_again_21 : decode cX6_again 21 = .ok (.invokevirtual 172, 3) := by decide +kernel
theorem dX6_again_24 : decode cX6_again 24 = .ok (.ifCond .eq 7, 3) := by decide +kernel
theorem dX6_again_27 : decode cX6_again 27 = .ok (.iconst 1, 1) := by decide +kernel
theorem dX6_again_28 : decode cX6_again 28 = .ok (.goto 4, 3) := by decide +kernel
theorem dX6_again_31 : decode cX6_again 31 = .ok (.iconst 0, 1) := by decide +kernel
theorem dX6_again_32 : decode cX6_again 32 = .ok (.iadd, 1) := by decide +kernel
theorem dX6_again_33 : decode cX6_again 33 = .ok (.istore_n 1, 1) := by decide +kernel
theorem dX6_again_34 : decode cX6_again 34 = .ok (.iinc 2 1, 3) := by decide +kernel
theorem dX6_again_37 : decode cX6_again 37 = .ok (.goto (-29), 3) := by decide +kernel
theorem dX6_again_40 : decode cX6_again 40 = .ok (.iload_n 1, 1) := by decide +kernel
theorem dX6_again_41 : decode cX6_again 41 = .ok (.ireturn, 1) := by decide +kernel
theorem dX6_pagesThere_0 : decode cX6_pagesThere 0 = .ok (.aload_n 0, 1) := by decide +kernel
theorem dX6_pagesThere_1 : decode cX6_pagesThere 1 = .ok (.invokevirtual 96, 3) := by decide +kernel
theorem dX6_pagesThere_4 : decode cX6_pagesThere 4 = .ok (.iconst 0, 1) := by decide +kernel
theorem dX6_pagesThere_5 : decode cX6_pagesThere 5 = .ok (.istore_n 2, 1) := by decide +kernel
theorem dX6_pagesThere_6 : decode cX6_pagesThere 6 = .ok (.iconst 0, 1) := by decide +kernel
theorem dX6_pagesThere_7 : decode cX6_pagesThere 7 = .ok (.istore_n 3, 1) := by decide +kernel
theorem dX6_pagesThere_8 : decode cX6_pagesThere 8 = .ok (.iload_n 3, 1) := by decide +kernel
theorem dX6_pagesThere_9 : decode cX6_pagesThere 9 = .ok (.aload_n 0, 1) := by decide +kernel
theorem dX6_pagesThere_10 : decode cX6_pagesThere 10 = .ok (.getfield 7, 3) := by decide +kernel
theorem dX6_pagesThere_13 : decode cX6_pagesThere 13 = .ok (.iconst 0, 1) := by decide +kernel
theorem dX6_pagesThere_14 : decode cX6_pagesThere 14 = .ok (.iaload, 1) := by decide +kernel
theorem dX6_pagesThere_15 : decode cX6_pagesThere 15 = .ok (.if_icmp .ge 119, 3) := by decide +kernel
theorem dX6_pagesThere_18 : decode cX6_pagesThere 18 = .ok (.sipush 9999, 3) := by decide +kernel
theorem dX6_pagesThere_21 : decode cX6_pagesThere 21 = .ok (.istore 4, 2) := by decide +kernel
theorem dX6_pagesThere_23 : decode cX6_pagesThere 23 = .ok (.iconst 0, 1) := by decide +kernel
theorem dX6_pagesThere_24 : decode cX6_pagesThere 24 = .ok (.istore 5, 2) := by decide +kernel
theorem dX6_pagesThere_26 : decode cX6_pagesThere 26 = .ok (.iload 5, 2) := by decide +kernel
theorem dX6_pagesThere_28 : decode cX6_pagesThere 28 = .ok (.bipush 31, 2) := by decide +kernel
theorem dX6_pagesThere_30 : decode cX6_pagesThere 30 = .ok (.if_icmp .gt 45, 3) := by decide +kernel
theorem dX6_pagesThere_33 : decode cX6_pagesThere 33 = .ok (.aload_n 0, 1) := by decide +kernel
theorem dX6_pagesThere_34 : decode cX6_pagesThere 34 = .ok (.getfield 22, 3) := by decide +kernel
theorem dX6_pagesThere_37 : decode cX6_pagesThere 37 = .ok (.bipush 32, 2) := by decide +kernel
theorem dX6_pagesThere_39 : decode cX6_pagesThere 39 = .ok (.iload_n 3, 1) := by decide +kernel
theorem dX6_pagesThere_40 : decode cX6_pagesThere 40 = .ok (.imul, 1) := by decide +kernel
theorem dX6_pagesThere_41 : decode cX6_pagesThere 41 = .ok (.iload 5, 2) := by decide +kernel
theorem dX6_pagesThere_43 : decode cX6_pagesThere 43 = .ok (.iadd, 1) := by decide +kernel
theorem dX6_pagesThere_44 : decode cX6_pagesThere 44 = .ok (.iaload, 1) := by decide +kernel
theorem dX6_pagesThere_45 : decode cX6_pagesThere 45 = .ok (.iload 4, 2) := by decide +kernel
theorem dX6_pagesThere_47 : decode cX6_pagesThere 47 = .ok (.if_icmp .ge 18, 3) := by decide +kernel
theorem dX6_pagesThere_50 : decode cX6_pagesThere 50 = .ok (.aload_n 0, 1) := by decide +kernel
theorem dX6_pagesThere_51 : decode cX6_pagesThere 51 = .ok (.getfield 22, 3) := by decide +kernel
theorem dX6_pagesThere_54 : decode cX6_pagesThere 54 = .ok (.bipush 32, 2) := by decide +kernel
theorem dX6_pagesThere_56 : decode cX6_pagesThere 56 = .ok (.iload_n 3, 1) := by decide +kernel
theorem dX6_pagesThere_57 : decode cX6_pagesThere 57 = .ok (.imul, 1) := by decide +kernel
theorem dX6_pagesThere_58 : decode cX6_pagesThere 58 = .ok (.iload 5, 2) := by decide +kernel
theorem dX6_pagesThere_60 : decode cX6_pagesThere 60 = .ok (.iadd, 1) := by decide +kernel
theorem dX6_pagesThere_61 : decode cX6_pagesThere 61 = .ok (.iaload, 1) := by decide +kernel
theorem dX6_pagesThere_62 : decode cX6_pagesThere 62 = .ok (.goto 5, 3) := by decide +kernel
theorem dX6_pagesThere_65 : decode cX6_pagesThere 65 = .ok (.iload 4, 2) := by decide +kernel
theorem dX6_pagesThere_67 : decode cX6_pagesThere 67 = .ok (.istore 4, 2) := by decide +kernel
theorem dX6_pagesThere_69 : decode cX6_pagesThere 69 = .ok (.iinc 5 1, 3) := by decide +kernel
theorem dX6_pagesThere_72 : decode cX6_pagesThere 72 = .ok (.goto (-46), 3) := by decide +kernel
theorem dX6_pagesThere_75 : decode cX6_pagesThere 75 = .ok (.iload_n 1, 1) := by decide +kernel
theorem dX6_pagesThere_76 : decode cX6_pagesThere 76 = .ok (.ifCond .eq 24, 3) := by decide +kernel
theorem dX6_pagesThere_79 : decode cX6_pagesThere 79 = .ok (.aload_n 0, 1) := by decide +kernel
theorem dX6_pagesThere_80 : decode cX6_pagesThere 80 = .ok (.iload_n 3, 1) := by decide +kernel
theorem dX6_pagesThere_81 : decode cX6_pagesThere 81 = .ok (.invokevirtual 66, 3) := by decide +kernel
theorem dX6_pagesThere_84 : decode cX6_pagesThere 84 = .ok (.ifCond .eq 20, 3) := by decide +kernel
theorem dX6_pagesThere_87 : decode cX6_pagesThere 87 = .ok (.iload_n 1, 1) := by decide +kernel
theorem dX6_pagesThere_88 : decode cX6_pagesThere 88 = .ok (.iconst 1, 1) := by decide +kernel
theorem dX6_pagesThere_89 : decode cX6_pagesThere 89 = .ok (.if_icmp .eq 11, 3) := by decide +kernel
theorem dX6_pagesThere_92 : decode cX6_pagesThere 92 = .ok (.aload_n 0, 1) := by decide +kernel
theorem dX6_pagesThere_93 : decode cX6_pagesThere 93 = .ok (.iload_n 3, 1) := by decide +kernel
theorem dX6_pagesThere_94 : decode cX6_pagesThere 94 = .ok (.invokevirtual 166, 3) := by decide +kernel
theorem dX6_pagesThere_97 : decode cX6_pagesThere 97 = .ok (.ifCond .eq 7, 3) := by decide +kernel
theorem dX6_pagesThere_100 : decode cX6_pagesThere 100 = .ok (.iconst 1, 1) := by decide +kernel
theorem dX6_pagesThere_101 : decode cX6_pagesThere 101 = .ok (.goto 4, 3) := by decide +kernel
theorem dX6_pagesThere_104 : decode cX6_pagesThere 104 = .ok (.iconst 0, 1) := by decide +kernel
theorem dX6_pagesThere_105 : decode cX6_pagesThere 105 = .ok (.istore 5, 2) := by decide +kernel
theorem dX6_pagesThere_107 : decode cX6_pagesThere 107 = .ok (.iload_n 2, 1) := by decide +kernel
theorem dX6_pagesThere_108 : decode cX6_pagesThere 108 = .ok (.iload 5, 2) := by decide +kernel
theorem dX6_pagesThere_110 : decode cX6_pagesThere 110 = .ok (.ifCond .eq 15, 3) := by decide +kernel
theorem dX6_pagesThere_113 : decode cX6_pagesThere 113 = .ok (.iload 4, 2) := by decide +kernel
theorem dX6_pagesThere_115 : decode cX6_pagesThere 115 = .ok (.sipush 9999, 3) := by decide +kernel
theorem dX6_pagesThere_118 : decode cX6_pagesThere 118 = .ok (.if_icmp .ge 7, 3) := by decide +kernel
theorem dX6_pagesThere_121 : decode cX6_pagesThere 121 = .ok (.iconst 1, 1) := by decide +kernel
theorem dX6_pagesThere_122 : decode cX6_pagesThere 122 = .ok (.goto 4, 3) := by decide +kernel
theorem dX6_pagesThere_125 : decode cX6_pagesThere 125 = .ok (.iconst 0, 1) := by decide +kernel
theorem dX6_pagesThere_126 : decode cX6_pagesThere 126 = .ok (.iadd, 1) := by decide +kernel
theorem dX6_pagesThere_127 : decode cX6_pagesThere 127 = .ok (.istore_n 2, 1) := by decide +kernel
theorem dX6_pagesThere_128 : decode cX6_pagesThere 128 = .ok (.iinc 3 1, 3) := by decide +kernel
theorem dX6_pagesThere_131 : decode cX6_pagesThere 131 = .ok (.goto (-123), 3) := by decide +kernel
theorem dX6_pagesThere_134 : decode cX6_pagesThere 134 = .ok (.iload_n 2, 1) := by decide +kernel
theorem dX6_pagesThere_135 : decode cX6_pagesThere 135 = .ok (.ireturn, 1) := by decide +kernel
theorem dX6_places_0 : decode cX6_places 0 = .ok (.aload_n 0, 1) := by decide +kernel
theorem dX6_places_1 : decode cX6_places 1 = .ok (.invokevirtual 96, 3) := by decide +kernel
theorem dX6_places_4 : decode cX6_places 4 = .ok (.aload_n 0, 1) := by decide +kernel
theorem dX6_places_5 : decode cX6_places 5 = .ok (.getfield 76, 3) := by decide +kernel
theorem dX6_places_8 : decode cX6_places 8 = .ok (.ireturn, 1) := by decide +kernel
theorem dX6_count_0 : decode cX6_count 0 = .ok (.iload_n 1, 1) := by decide +kernel
theorem dX6_count_1 : decode cX6_count 1 = .ok (.tableswitch 161 0 11 #[63, 70, 75, 88, 93, 102, 107, 107, 115, 132, 151, 156], 63) := by decide +kernel
theorem dX6_count_64 : decode cX6_count 64 = .ok (.aload_n 0, 1) := by decide +kernel
theorem dX6_count_65 : decode cX6_count 65 = .ok (.getfield 7, 3) := by decide +kernel
theorem dX6_count_68 : decode cX6_count 68 = .ok (.iconst 0, 1) := by decide +kernel
theorem dX6_count_69 : decode cX6_count 69 = .ok (.iaload, 1) := by decide +kernel
theorem dX6_count_70 : decode cX6_count 70 = .ok (.ireturn, 1) := by decide +kernel
theorem dX6_count_71 : decode cX6_count 71 = .ok (.aload_n 0, 1) := by decide +kernel
theorem dX6_count_72 : decode cX6_count 72 = .ok (.invokevirtual 191, 3) := by decide +kernel
theorem dX6_count_75 : decode cX6_count 75 = .ok (.ireturn, 1) := by decide +kernel
theorem dX6_count_76 : decode cX6_count 76 = .ok (.aload_n 0, 1) := by decide +kernel
theorem dX6_count_77 : decode cX6_count 77 = .ok (.getfield 7, 3) := by decide +kernel
theorem dX6_count_80 : decode cX6_count 80 = .ok (.iconst 0, 1) := by decide +kernel
theorem dX6_count_81 : decode cX6_count 81 = .ok (.iaload, 1) := by decide +kernel
theorem dX6_count_82 : decode cX6_count 82 = .ok (.aload_n 0, 1) := by decide +kernel
theorem dX6_count_83 : decode cX6_count 83 = .ok (.iconst 0, 1) := by decide +kernel
theorem dX6_count_84 : decode cX6_count 84 = .ok (.invokevirtual 194, 3) := by decide +kernel
theorem dX6_count_87 : decode cX6_count 87 = .ok (.isub, 1) := by decide +kernel
theorem dX6_count_88 : decode cX6_count 88 = .ok (.ireturn, 1) := by decide +kernel
theorem dX6_count_89 : decode cX6_count 89 = .ok (.aload_n 0, 1) := by decide +kernel
theorem dX6_count_90 : decode cX6_count 90 = .ok (.invokevirtual 197, 3) := by decide +kernel
theorem dX6_count_93 : decode cX6_count 93 = .ok (.ireturn, 1) := by decide +kernel
theorem dX6_count_94 : decode cX6_count 94 = .ok (.aload_n 0, 1) := by decide +kernel
theorem dX6_count_95 : decode cX6_count 95 = .ok (.iconst 0, 1) := by decide +kernel
theorem dX6_count_96 : decode cX6_count 96 = .ok (.sipush 1023, 3) := by decide +kernel
theorem dX6_count_99 : decode cX6_count 99 = .ok (.invokevirtual 175, 3) := by decide +kernel
theorem dX6_count_102 : decode cX6_count 102 = .ok (.ireturn, 1) := by decide +kernel
theorem dX6_count_103 : decode cX6_count 103 = .ok (.aload_n 0, 1) := by decide +kernel
theorem dX6_count_104 : decode cX6_count 104 = .ok (.invokevirtual 200, 3) := by decide +kernel
theorem dX6_count_107 : decode cX6_count 107 = .ok (.ireturn, 1) := by decide +kernel
theorem dX6_count_108 : decode cX6_count 108 = .ok (.aload_n 0, 1) := by decide +kernel
theorem dX6_count_109 : decode cX6_count 109 = .ok (.iload_n 1, 1) := by decide +kernel
theorem dX6_count_110 : decode cX6_count 110 = .ok (.iconst 5, 1) := by decide +kernel
theorem dX6_count_111 : decode cX6_count 111 = .ok (.isub, 1) := by decide +kernel
theorem dX6_count_112 : decode cX6_count 112 = .ok (.invokevirtual 194, 3) := by decide +kernel
theorem dX6_count_115 : decode cX6_count 115 = .ok (.ireturn, 1) := by decide +kernel
theorem dX6_count_116 : decode cX6_count 116 = .ok (.aload_n 0, 1) := by decide +kernel
theorem dX6_count_117 : decode cX6_count 117 = .ok (.invokevirtual 187, 3) := by decide +kernel
theorem dX6_count_120 : decode cX6_count 120 = .ok (.ifCond .eq 10, 3) := by decide +kernel
theorem dX6_count_123 : decode cX6_count 123 = .ok (.aload_n 0, 1) := by decide +kernel
theorem dX6_count_124 : decode cX6_count 124 = .ok (.getfield 184, 3) := by decide +kernel
theorem dX6_count_127 : decode cX6_count 127 = .ok (.goto 5, 3) := by decide +kernel
theorem dX6_count_130 : decode cX6_count 130 = .ok (.bipush (-5), 2) := by decide +kernel
theorem dX6_count_132 : decode cX6_count 132 = .ok (.ireturn, 1) := by decide +kernel
theorem dX6_count_133 : decode cX6_count 133 = .ok (.aload_n 0, 1) := by decide +kernel
theorem dX6_count_134 : decode cX6_count 134 = .ok (.getfield 7, 3) := by decide +kernel
theorem dX6_count_137 : decode cX6_count 137 = .ok (.sipush 423, 3) := by decide +kernel
theorem dX6_count_140 : decode cX6_count 140 = .ok (.iaload, 1) := by decide +kernel
theorem dX6_count_141 : decode cX6_count 141 = .ok (.bipush (-5), 2) := by decide +kernel
theorem dX6_count_143 : decode cX6_count 143 = .ok (.if_icmp .ne 7, 3) := by decide +kernel
theorem dX6_count_146 : decode cX6_count 146 = .ok (.iconst 0, 1) := by decide +kernel
theorem dX6_count_147 : decode cX6_count 147 = .ok (.goto 4, 3) := by decide +kernel
theorem dX6_count_150 : decode cX6_count 150 = .ok (.iconst 1, 1) := by decide +kernel
theorem dX6_count_151 : decode cX6_count 151 = .ok (.ireturn, 1) := by decide +kernel
theorem dX6_count_152 : decode cX6_count 152 = .ok (.aload_n 0, 1) := by decide +kernel
theorem dX6_count_153 : decode cX6_count 153 = .ok (.getfield 46, 3) := by decide +kernel
theorem dX6_count_156 : decode cX6_count 156 = .ok (.ireturn, 1) := by decide +kernel
theorem dX6_count_157 : decode cX6_count 157 = .ok (.aload_n 0, 1) := by decide +kernel
theorem dX6_count_158 : decode cX6_count 158 = .ok (.getfield 203, 3) := by decide +kernel
theorem dX6_count_161 : decode cX6_count 161 = .ok (.ireturn, 1) := by decide +kernel
theorem dX6_count_162 : decode cX6_count 162 = .ok (.bipush (-2), 2) := by decide +kernel
theorem dX6_count_164 : decode cX6_count 164 = .ok (.ireturn, 1) := by decide +kernel
theorem dX6_undo_0 : decode cX6_undo 0 = .ok (.aload_n 0, 1) := by decide +kernel
theorem dX6_undo_1 : decode cX6_undo 1 = .ok (.getfield 46, 3) := by decide +kernel
theorem dX6_undo_4 : decode cX6_undo 4 = .ok (.ifCond .ne 6, 3) := by decide +kernel
theorem dX6_undo_7 : decode cX6_undo 7 = .ok (.bipush (-5), 2) := by decide +kernel
theorem dX6_undo_9 : decode cX6_undo 9 = .ok (.ireturn, 1) := by decide +kernel
theorem dX6_undo_10 : decode cX6_undo 10 = .ok (.aload_n 0, 1) := by decide +kernel
theorem dX6_undo_11 : decode cX6_undo 11 = .ok (.dup, 1) := by decide +kernel
theorem dX6_undo_12 : decode cX6_undo 12 = .ok (.getfield 46, 3) := by decide +kernel
theorem dX6_undo_15 : decode cX6_undo 15 = .ok (.iconst 1, 1) := by decide +kernel
theorem dX6_undo_16 : decode cX6_undo 16 = .ok (.isub, 1) := by decide +kernel
theorem dX6_undo_17 : decode cX6_undo 17 = .ok (.putfield 46, 3) := by decide +kernel
theorem dX6_undo_20 : decode cX6_undo 20 = .ok (.iconst 0, 1) := by decide +kernel
theorem dX6_undo_21 : decode cX6_undo 21 = .ok (.istore_n 1, 1) := by decide +kernel
theorem dX6_undo_22 : decode cX6_undo 22 = .ok (.iload_n 1, 1) := by decide +kernel
theorem dX6_undo_23 : decode cX6_undo 23 = .ok (.sipush 425, 3) := by decide +kernel
theorem dX6_undo_26 : decode cX6_undo 26 = .ok (.if_icmp .ge 30, 3) := by decide +kernel
theorem dX6_undo_29 : decode cX6_undo 29 = .ok (.aload_n 0, 1) := by decide +kernel
theorem dX6_undo_30 : decode cX6_undo 30 = .ok (.getfield 7, 3) := by decide +kernel
theorem dX6_undo_33 : decode cX6_undo 33 = .ok (.iload_n 1, 1) := by decide +kernel
theorem dX6_undo_34 : decode cX6_undo 34 = .ok (.aload_n 0, 1) := by decide +kernel
theorem dX6_undo_35 : decode cX6_undo 35 = .ok (.getfield 16, 3) := by decide +kernel
theorem dX6_undo_38 : decode cX6_undo 38 = .ok (.sipush 425, 3) := by decide +kernel
theorem dX6_undo_41 : decode cX6_undo 41 = .ok (.aload_n 0, 1) := by decide +kernel
theorem dX6_undo_42 : decode cX6_undo 42 = .ok (.getfield 46, 3) := by decide +kernel
theorem dX6_undo_45 : decode cX6_undo 45 = .ok (.imul, 1) := by decide +kernel
theorem dX6_undo_46 : decode cX6_undo 46 = .ok (.iload_n 1, 1) := by decide +kernel
theorem dX6_undo_47 : decode cX6_undo 47 = .ok (.iadd, 1) := by decide +kernel
theorem dX6_undo_48 : decode cX6_undo 48 = .ok (.iaload, 1) := by decide +kernel
theorem dX6_undo_49 : decode cX6_undo 49 = .ok (.iastore, 1) := by decide +kernel
theorem dX6_undo_50 : decode cX6_undo 50 = .ok (.iinc 1 1, 3) := by decide +kernel
theorem dX6_undo_53 : decode cX6_undo 53 = .ok (.goto (-31), 3) := by decide +kernel
theorem dX6_undo_56 : decode cX6_undo 56 = .ok (.aload_n 0, 1) := by decide +kernel
theorem dX6_undo_57 : decode cX6_undo 57 = .ok (.getfield 46, 3) := by decide +kernel
theorem dX6_undo_60 : decode cX6_undo 60 = .ok (.ireturn, 1) := by decide +kernel
theorem dX6_keep_0 : decode cX6_keep 0 = .ok (.iconst 0, 1) := by decide +kernel
theorem dX6_keep_1 : decode cX6_keep 1 = .ok (.istore_n 1, 1) := by decide +kernel
theorem dX6_keep_2 : decode cX6_keep 2 = .ok (.iload_n 1, 1) := by decide +kernel
theorem dX6_keep_3 : decode cX6_keep 3 = .ok (.sipush 425, 3) := by decide +kernel
theorem dX6_keep_6 : decode cX6_keep 6 = .ok (.if_icmp .ge 21, 3) := by decide +kernel
theorem dX6_keep_9 : decode cX6_keep 9 = .ok (.aload_n 0, 1) := by decide +kernel
theorem dX6_keep_10 : decode cX6_keep 10 = .ok (.getfield 13, 3) := by decide +kernel
theorem dX6_keep_13 : decode cX6_keep 13 = .ok (.iload_n 1, 1) := by decide +kernel
theorem dX6_keep_14 : decode cX6_keep 14 = .ok (.aload_n 0, 1) := by decide +kernel
theorem dX6_keep_15 : decode cX6_keep 15 = .ok (.getfield 7, 3) := by decide +kernel
theorem dX6_keep_18 : decode cX6_keep 18 = .ok (.iload_n 1, 1) := by decide +kernel
theorem dX6_keep_19 : decode cX6_keep 19 = .ok (.iaload, 1) := by decide +kernel
theorem dX6_keep_20 : decode cX6_keep 20 = .ok (.iastore, 1) := by decide +kernel
theorem dX6_keep_21 : decode cX6_keep 21 = .ok (.iinc 1 1, 3) := by decide +kernel
theorem dX6_keep_24 : decode cX6_keep 24 = .ok (.goto (-22), 3) := by decide +kernel
theorem dX6_keep_27 : decode cX6_keep 27 = .ok (.aload_n 0, 1) := by decide +kernel
theorem dX6_keep_28 : decode cX6_keep 28 = .ok (.iconst 1, 1) := by decide +kernel
theorem dX6_keep_29 : decode cX6_keep 29 = .ok (.putfield 206, 3) := by decide +kernel
theorem dX6_keep_32 : decode cX6_keep 32 = .ok (.aload_n 0, 1) := by decide +kernel
theorem dX6_keep_33 : decode cX6_keep 33 = .ok (.getfield 7, 3) := by decide +kernel
theorem dX6_keep_36 : decode cX6_keep 36 = .ok (.iconst 0, 1) := by decide +kernel
theorem dX6_keep_37 : decode cX6_keep 37 = .ok (.iaload, 1) := by decide +kernel
theorem dX6_keep_38 : decode cX6_keep 38 = .ok (.ireturn, 1) := by decide +kernel
theorem dX6_restore_0 : decode cX6_restore 0 = .ok (.aload_n 0, 1) := by decide +kernel
theorem dX6_restore_1 : decode cX6_restore 1 = .ok (.getfield 206, 3) := by decide +kernel
theorem dX6_restore_4 : decode cX6_restore 4 = .ok (.ifCond .ne 6, 3) := by decide +kernel
theorem dX6_restore_7 : decode cX6_restore 7 = .ok (.bipush (-5), 2) := by decide +kernel
theorem dX6_restore_9 : decode cX6_restore 9 = .ok (.ireturn, 1) := by decide +kernel
theorem dX6_restore_10 : decode cX6_restore 10 = .ok (.aload_n 0, 1) := by decide +kernel
theorem dX6_restore_11 : decode cX6_restore 11 = .ok (.invokevirtual 114, 3) := by decide +kernel
theorem dX6_restore_14 : decode cX6_restore 14 = .ok (.iconst 0, 1) := by decide +kernel
theorem dX6_restore_15 : decode cX6_restore 15 = .ok (.istore_n 1, 1) := by decide +kernel
theorem dX6_restore_16 : decode cX6_restore 16 = .ok (.iload_n 1, 1) := by decide +kernel
theorem dX6_restore_17 : decode cX6_restore 17 = .ok (.sipush 425, 3) := by decide +kernel
theorem dX6_restore_20 : decode cX6_restore 20 = .ok (.if_icmp .ge 21, 3) := by decide +kernel
theorem dX6_restore_23 : decode cX6_restore 23 = .ok (.aload_n 0, 1) := by decide +kernel
theorem dX6_restore_24 : decode cX6_restore 24 = .ok (.getfield 7, 3) := by decide +kernel
theorem dX6_restore_27 : decode cX6_restore 27 = .ok (.iload_n 1, 1) := by decide +kernel
theorem dX6_restore_28 : decode cX6_restore 28 = .ok (.aload_n 0, 1) := by decide +kernel
theorem dX6_restore_29 : decode cX6_restore 29 = .ok (.getfield 13, 3) := by decide +kernel
theorem dX6_restore_32 : decode cX6_restore 32 = .ok (.iload_n 1, 1) := by decide +kernel
theorem dX6_restore_33 : decode cX6_restore 33 = .ok (.iaload, 1) := by decide +kernel
theorem dX6_restore_34 : decode cX6_restore 34 = .ok (.iastore, 1) := by decide +kernel
theorem dX6_restore_35 : decode cX6_restore 35 = .ok (.iinc 1 1, 3) := by decide +kernel
theorem dX6_restore_38 : decode cX6_restore 38 = .ok (.goto (-22), 3) := by decide +kernel
theorem dX6_restore_41 : decode cX6_restore 41 = .ok (.aload_n 0, 1) := by decide +kernel
theorem dX6_restore_42 : decode cX6_restore 42 = .ok (.getfield 7, 3) := by decide +kernel
theorem dX6_restore_45 : decode cX6_restore 45 = .ok (.iconst 0, 1) := by decide +kernel
theorem dX6_restore_46 : decode cX6_restore 46 = .ok (.iaload, 1) := by decide +kernel
theorem dX6_restore_47 : decode cX6_restore 47 = .ok (.ireturn, 1) := by decide +kernel
theorem dX6_type_0 : decode cX6_type 0 = .ok (.aload_n 0, 1) := by decide +kernel
theorem dX6_type_1 : decode cX6_type 1 = .ok (.getfield 203, 3) := by decide +kernel
theorem dX6_type_4 : decode cX6_type 4 = .ok (.bipush 60, 2) := by decide +kernel
theorem dX6_type_6 : decode cX6_type 6 = .ok (.if_icmp .ne 6, 3) := by decide +kernel
theorem dX6_type_9 : decode cX6_type 9 = .ok (.bipush (-3), 2) := by decide +kernel
theorem dX6_type_11 : decode cX6_type 11 = .ok (.ireturn, 1) := by decide +kernel
theorem dX6_type_12 : decode cX6_type 12 = .ok (.aload_n 0, 1) := by decide +kernel
theorem dX6_type_13 : decode cX6_type 13 = .ok (.getfield 19, 3) := by decide +kernel
theorem dX6_type_16 : decode cX6_type 16 = .ok (.aload_n 0, 1) := by decide +kernel
theorem dX6_type_17 : decode cX6_type 17 = .ok (.getfield 203, 3) := by decide +kernel
theorem dX6_type_20 : decode cX6_type 20 = .ok (.iload_n 1, 1) := by decide +kernel
theorem dX6_type_21 : decode cX6_type 21 = .ok (.iastore, 1) := by decide +kernel
theorem dX6_type_22 : decode cX6_type 22 = .ok (.aload_n 0, 1) := by decide +kernel
theorem dX6_type_23 : decode cX6_type 23 = .ok (.dup, 1) := by decide +kernel
theorem dX6_type_24 : decode cX6_type 24 = .ok (.getfield 203, 3) := by decide +kernel
theorem dX6_type_27 : decode cX6_type 27 = .ok (.iconst 1, 1) := by decide +kernel
theorem dX6_type_28 : decode cX6_type 28 = .ok (.iadd, 1) := by decide +kernel
theorem dX6_type_29 : decode cX6_type 29 = .ok (.putfield 203, 3) := by decide +kernel
theorem dX6_type_32 : decode cX6_type 32 = .ok (.aload_n 0, 1) := by decide +kernel
theorem dX6_type_33 : decode cX6_type 33 = .ok (.getfield 203, 3) := by decide +kernel
theorem dX6_type_36 : decode cX6_type 36 = .ok (.ireturn, 1) := by decide +kernel
theorem dX6_clearText_0 : decode cX6_clearText 0 = .ok (.aload_n 0, 1) := by decide +kernel
theorem dX6_clearText_1 : decode cX6_clearText 1 = .ok (.getfield 203, 3) := by decide +kernel
theorem dX6_clearText_4 : decode cX6_clearText 4 = .ok (.istore_n 1, 1) := by decide +kernel
theorem dX6_clearText_5 : decode cX6_clearText 5 = .ok (.aload_n 0, 1) := by decide +kernel
theorem dX6_clearText_6 : decode cX6_clearText 6 = .ok (.iconst 0, 1) := by decide +kernel
theorem dX6_clearText_7 : decode cX6_clearText 7 = .ok (.putfield 203, 3) := by decide +kernel
theorem dX6_clearText_10 : decode cX6_clearText 10 = .ok (.iload_n 1, 1) := by decide +kernel
theorem dX6_clearText_11 : decode cX6_clearText 11 = .ok (.ireturn, 1) := by decide +kernel
theorem dX6_here_0 : decode cX6_here 0 = .ok (.aload_n 0, 1) := by decide +kernel
theorem dX6_here_1 : decode cX6_here 1 = .ok (.getfield 210, 3) := by decide +kernel
theorem dX6_here_4 : decode cX6_here 4 = .ok (.aload_n 0, 1) := by decide +kernel
theorem dX6_here_5 : decode cX6_here 5 = .ok (.getfield 203, 3) := by decide +kernel
theorem dX6_here_8 : decode cX6_here 8 = .ok (.if_icmp .ge 15, 3) := by decide +kernel
theorem dX6_here_11 : decode cX6_here 11 = .ok (.aload_n 0, 1) := by decide +kernel
theorem dX6_here_12 : decode cX6_here 12 = .ok (.getfield 19, 3) := by decide +kernel
theorem dX6_here_15 : decode cX6_here 15 = .ok (.aload_n 0, 1) := by decide +kernel
theorem dX6_here_16 : decode cX6_here 16 = .ok (.getfield 210, 3) := by decide +kernel
theorem dX6_here_19 : decode cX6_here 19 = .ok (.iaload, 1) := by decide +kernel
theorem dX6_here_20 : decode cX6_here 20 = .ok (.goto 5, 3) := by decide +kernel
theorem dX6_here_23 : decode cX6_here 23 = .ok (.bipush (-5), 2) := by decide +kernel
theorem dX6_here_25 : decode cX6_here 25 = .ok (.ireturn, 1) := by decide +kernel
theorem dX6_takes_0 : decode cX6_takes 0 = .ok (.aload_n 0, 1) := by decide +kernel
theorem dX6_takes_1 : decode cX6_takes 1 = .ok (.aload_n 0, 1) := by decide +kernel
theorem dX6_takes_2 : decode cX6_takes 2 = .ok (.getfield 213, 3) := by decide +kernel
theorem dX6_takes_5 : decode cX6_takes 5 = .ok (.ifCond .eq 11, 3) := by decide +kernel
theorem dX6_takes_8 : decode cX6_takes 8 = .ok (.iload_n 1, 1) := by decide +kernel
theorem dX6_takes_9 : decode cX6_takes 9 = .ok (.ifCond .eq 7, 3) := by decide +kernel
theorem dX6_takes_12 : decode cX6_takes 12 = .ok (.iconst 1, 1) := by decide +kernel
theorem dX6_takes_13 : decode cX6_takes 13 = .ok (.goto 4, 3) := by decide +kernel
theorem dX6_takes_16 : decode cX6_takes 16 = .ok (.iconst 0, 1) := by decide +kernel
theorem dX6_takes_17 : decode cX6_takes 17 = .ok (.putfield 213, 3) := by decide +kernel
theorem dX6_takes_20 : decode cX6_takes 20 = .ok (.aload_n 0, 1) := by decide +kernel
theorem dX6_takes_21 : decode cX6_takes 21 = .ok (.dup, 1) := by decide +kernel
theorem dX6_takes_22 : decode cX6_takes 22 = .ok (.getfield 210, 3) := by decide +kernel
theorem dX6_takes_25 : decode cX6_takes 25 = .ok (.aload_n 0, 1) := by decide +kernel
theorem dX6_takes_26 : decode cX6_takes 26 = .ok (.getfield 213, 3) := by decide +kernel
theorem dX6_takes_29 : decode cX6_takes 29 = .ok (.ifCond .eq 7, 3) := by decide +kernel
theorem dX6_takes_32 : decode cX6_takes 32 = .ok (.iconst 1, 1) := by decide +kernel
theorem dX6_takes_33 : decode cX6_takes 33 = .ok (.goto 4, 3) := by decide +kernel
theorem dX6_takes_36 : decode cX6_takes 36 = .ok (.iconst 0, 1) := by decide +kernel
theorem dX6_takes_37 : decode cX6_takes 37 = .ok (.iadd, 1) := by decide +kernel
theorem dX6_takes_38 : decode cX6_takes 38 = .ok (.putfield 210, 3) := by decide +kernel
theorem dX6_takes_41 : decode cX6_takes 41 = .ok (.return_, 1) := by decide +kernel
theorem dX6_number_0 : decode cX6_number 0 = .ok (.aload_n 0, 1) := by decide +kernel
theorem dX6_number_1 : decode cX6_number 1 = .ok (.invokevirtual 216, 3) := by decide +kernel
theorem dX6_number_4 : decode cX6_number 4 = .ok (.bipush 48, 2) := by decide +kernel
theorem dX6_number_6 : decode cX6_number 6 = .ok (.isub, 1) := by decide +kernel
theorem dX6_number_7 : decode cX6_number 7 = .ok (.istore_n 1, 1) := by decide +kernel
theorem dX6_number_8 : decode cX6_number 8 = .ok (.aload_n 0, 1) := by decide +kernel
theorem dX6_number_9 : decode cX6_number 9 = .ok (.aload_n 0, 1) := by decide +kernel
theorem dX6_number_10 : decode cX6_number 10 = .ok (.invokevirtual 216, 3) := by decide +kernel
theorem dX6_number_13 : decode cX6_number 13 = .ok (.bipush 48, 2) := by decide +kernel
theorem dX6_number_15 : decode cX6_number 15 = .ok (.bipush 57, 2) := by decide +kernel
theorem dX6_number_17 : decode cX6_number 17 = .ok (.invokestatic 50, 3) := by decide +kernel
theorem dX6_number_20 : decode cX6_number 20 = .ok (.invokevirtual 219, 3) := by decide +kernel
theorem dX6_number_23 : decode cX6_number 23 = .ok (.aload_n 0, 1) := by decide +kernel
theorem dX6_number_24 : decode cX6_number 24 = .ok (.getfield 213, 3) := by decide +kernel
theorem dX6_number_27 : decode cX6_number 27 = .ok (.ifCond .eq 61, 3) := by decide +kernel
theorem dX6_number_30 : decode cX6_number 30 = .ok (.iload_n 1, 1) := by decide +kernel
theorem dX6_number_31 : decode cX6_number 31 = .ok (.ifCond .le 57, 3) := by decide +kernel
theorem dX6_number_34 : decode cX6_number 34 = .ok (.aload_n 0, 1) := by decide +kernel
theorem dX6_number_35 : decode cX6_number 35 = .ok (.invokevirtual 216, 3) := by decide +kernel
theorem dX6_number_38 : decode cX6_number 38 = .ok (.bipush 48, 2) := by decide +kernel
theorem dX6_number_40 : decode cX6_number 40 = .ok (.bipush 57, 2) := by decide +kernel
theorem dX6_number_42 : decode cX6_number 42 = .ok (.invokestatic 50, 3) := by decide +kernel
theorem dX6_number_45 : decode cX6_number 45 = .ok (.ifCond .eq 43, 3) := by decide +kernel
theorem dX6_number_48 : decode cX6_number 48 = .ok (.bipush 10, 2) := by decide +kernel
theorem dX6_number_50 : decode cX6_number 50 = .ok (.iload_n 1, 1) := by decide +kernel
theorem dX6_number_51 : decode cX6_number 51 = .ok (.imul, 1) := by decide +kernel
theorem dX6_number_52 : decode cX6_number 52 = .ok (.aload_n 0, 1) := by decide +kernel
theorem dX6_number_53 : decode cX6_number 53 = .ok (.invokevirtual 216, 3) := by decide +kernel
theorem dX6_number_56 : decode cX6_number 56 = .ok (.iadd, 1) := by decide +kernel
theorem dX6_number_57 : decode cX6_number 57 = .ok (.bipush 48, 2) := by decide +kernel
theorem dX6_number_59 : decode cX6_number 59 = .ok (.isub, 1) := by decide +kernel
theorem dX6_number_60 : decode cX6_number 60 = .ok (.bipush 31, 2) := by decide +kernel
theorem dX6_number_62 : decode cX6_number 62 = .ok (.if_icmp .gt 26, 3) := by decide +kernel
theorem dX6_number_65 : decode cX6_number 65 = .ok (.bipush 10, 2) := by decide +kernel
theorem dX6_number_67 : decode cX6_number 67 = .ok (.iload_n 1, 1) := by decide +kernel
theorem dX6_number_68 : decode cX6_number 68 = .ok (.imul, 1) := by decide +kernel
theorem dX6_number_69 : decode cX6_number 69 = .ok (.aload_n 0, 1) := by decide +kernel
theorem dX6_number_70 : decode cX6_number 70 = .ok (.invokevirtual 216, 3) := by decide +kernel
theorem dX6_number_73 : decode cX6_number 73 = .ok (.iadd, 1) := by decide +kernel
theorem dX6_number_74 : decode cX6_number 74 = .ok (.bipush 48, 2) := by decide +kernel
theorem dX6_number_76 : decode cX6_number 76 = .ok (.isub, 1) := by decide +kernel
theorem dX6_number_77 : decode cX6_number 77 = .ok (.istore_n 1, 1) := by decide +kernel
theorem dX6_number_78 : decode cX6_number 78 = .ok (.aload_n 0, 1) := by decide +kernel
theorem dX6_number_79 : decode cX6_number 79 = .ok (.dup, 1) := by decide +kernel
theorem dX6_number_80 : decode cX6_number 80 = .ok (.getfield 210, 3) := by decide +kernel
theorem dX6_number_83 : decode cX6_number 83 = .ok (.iconst 1, 1) := by decide +kernel
theorem dX6_number_84 : decode cX6_number 84 = .ok (.iadd, 1) := by decide +kernel
theorem dX6_number_85 : decode cX6_number 85 = .ok (.putfield 210, 3) := by decide +kernel
theorem dX6_number_88 : decode cX6_number 88 = .ok (.iload_n 1, 1) := by decide +kernel
theorem dX6_number_89 : decode cX6_number 89 = .ok (.ireturn, 1) := by decide +kernel
theorem dX6_flags_0 : decode cX6_flags 0 = .ok (.aload_n 0, 1) := by decide +kernel
theorem dX6_flags_1 : decode cX6_flags 1 = .ok (.invokevirtual 216, 3) := by decide +kernel
theorem dX6_flags_4 : decode cX6_flags 4 = .ok (.iload_n 1, 1) := by decide +kernel
theorem dX6_flags_5 : decode cX6_flags 5 = .ok (.if_icmp .eq 5, 3) := by decide +kernel
theorem dX6_flags_8 : decode cX6_flags 8 = .ok (.iconst 0, 1) := by decide +kernel
theorem dX6_flags_9 : decode cX6_flags 9 = .ok (.ireturn, 1) := by decide +kernel
theorem dX6_flags_10 : decode cX6_flags 10 = .ok (.aload_n 0, 1) := by decide +kernel
theorem dX6_flags_11 : decode cX6_flags 11 = .ok (.dup, 1) := by decide +kernel
theorem dX6_flags_12 : decode cX6_flags 12 = .ok (.getfield 210, 3) := by decide +kernel
theorem dX6_flags_15 : decode cX6_flags 15 = .ok (.iconst 1, 1) := by decide +kernel
theorem dX6_flags_16 : decode cX6_flags 16 = .ok (.iadd, 1) := by decide +kernel
theorem dX6_flags_17 : decode cX6_flags 17 = .ok (.putfield 210, 3) := by decide +kernel
theorem dX6_flags_20 : decode cX6_flags 20 = .ok (.iconst 0, 1) := by decide +kernel
theorem dX6_flags_21 : decode cX6_flags 21 = .ok (.istore_n 2, 1) := by decide +kernel
theorem dX6_flags_22 : decode cX6_flags 22 = .ok (.aload_n 0, 1) := by decide +kernel
theorem dX6_flags_23 : decode cX6_flags 23 = .ok (.invokevirtual 216, 3) := by decide +kernel
theorem dX6_flags_26 : decode cX6_flags 26 = .ok (.istore_n 3, 1) := by decide +kernel
theorem dX6_flags_27 : decode cX6_flags 27 = .ok (.aload_n 0, 1) := by decide +kernel
theorem dX6_flags_28 : decode cX6_flags 28 = .ok (.aload_n 0, 1) := by decide +kernel
theorem dX6_flags_29 : decode cX6_flags 29 = .ok (.invokevirtual 216, 3) := by decide +kernel
theorem dX6_flags_32 : decode cX6_flags 32 = .ok (.bipush 97, 2) := by decide +kernel
theorem dX6_flags_34 : decode cX6_flags 34 = .ok (.bipush 101, 2) := by decide +kernel
theorem dX6_flags_36 : decode cX6_flags 36 = .ok (.invokestatic 50, 3) := by decide +kernel
theorem dX6_flags_39 : decode cX6_flags 39 = .ok (.invokevirtual 219, 3) := by decide +kernel
theorem dX6_flags_42 : decode cX6_flags 42 = .ok (.aload_n 0, 1) := by decide +kernel
theorem dX6_flags_43 : decode cX6_flags 43 = .ok (.getfield 213, 3) := by decide +kernel
theorem dX6_flags_46 : decode cX6_flags 46 = .ok (.ifCond .eq 10, 3) := by decide +kernel
theorem dX6_flags_49 : decode cX6_flags 49 = .ok (.iconst 1, 1) := by decide +kernel
theorem dX6_flags_50 : decode cX6_flags 50 = .ok (.iload_n 3, 1) := by decide +kernel
theorem dX6_flags_51 : decode cX6_flags 51 = .ok (.bipush 97, 2) := by decide +kernel
theorem dX6_flags_53 : decode cX6_flags 53 = .ok (.isub, 1) := by decide +kernel
theorem dX6_flags_54 : decode cX6_flags 54 = .ok (.ishl, 1) := by decide +kernel
theorem dX6_flags_55 : decode cX6_flags 55 = .ok (.istore_n 2, 1) := by decide +kernel
theorem dX6_flags_56 : decode cX6_flags 56 = .ok (.aload_n 0, 1) := by decide +kernel
theorem dX6_flags_57 : decode cX6_flags 57 = .ok (.getfield 213, 3) := by decide +kernel
theorem dX6_flags_60 : decode cX6_flags 60 = .ok (.ifCond .eq 45, 3) := by decide +kernel
theorem dX6_flags_63 : decode cX6_flags 63 = .ok (.aload_n 0, 1) := by decide +kernel
theorem dX6_flags_64 : decode cX6_flags 64 = .ok (.invokevirtual 216, 3) := by decide +kernel
theorem dX6_flags_67 : decode cX6_flags 67 = .ok (.iload_n 3, 1) := by decide +kernel
theorem dX6_flags_68 : decode cX6_flags 68 = .ok (.iconst 1, 1) := by decide +kernel
theorem dX6_flags_69 : decode cX6_flags 69 = .ok (.iadd, 1) := by decide +kernel
theorem dX6_flags_70 : decode cX6_flags 70 = .ok (.bipush 101, 2) := by decide +kernel
theorem dX6_flags_72 : decode cX6_flags 72 = .ok (.invokestatic 50, 3) := by decide +kernel
theorem dX6_flags_75 : decode cX6_flags 75 = .ok (.ifCond .eq 30, 3) := by decide +kernel
theorem dX6_flags_78 : decode cX6_flags 78 = .ok (.aload_n 0, 1) := by decide +kernel
theorem dX6_flags_79 : decode cX6_flags 79 = .ok (.invokevirtual 216, 3) := by decide +kernel
theorem dX6_flags_82 : decode cX6_flags 82 = .ok (.istore_n 3, 1) := by decide +kernel
theorem dX6_flags_83 : decode cX6_flags 83 = .ok (.iload_n 2, 1) := by decide +kernel
theorem dX6_flags_84 : decode cX6_flags 84 = .ok (.iconst 1, 1) := by decide +kernel
theorem dX6_flags_85 : decode cX6_flags 85 = .ok (.iload_n 3, 1) := by decide +kernel
theorem dX6_flags_86 : decode cX6_flags 86 = .ok (.bipush 97, 2) := by decide +kernel
theorem dX6_flags_88 : decode cX6_flags 88 = .ok (.isub, 1) := by decide +kernel
theorem dX6_flags_89 : decode cX6_flags 89 = .ok (.ishl, 1) := by decide +kernel
theorem dX6_flags_90 : decode cX6_flags 90 = .ok (.ior, 1) := by decide +kernel
theorem dX6_flags_91 : decode cX6_flags 91 = .ok (.istore_n 2, 1) := by decide +kernel
theorem dX6_flags_92 : decode cX6_flags 92 = .ok (.aload_n 0, 1) := by decide +kernel
theorem dX6_flags_93 : decode cX6_flags 93 = .ok (.dup, 1) := by decide +kernel
theorem dX6_flags_94 : decode cX6_flags 94 = .ok (.getfield 210, 3) := by decide +kernel
theorem dX6_flags_97 : decode cX6_flags 97 = .ok (.iconst 1, 1) := by decide +kernel
theorem dX6_flags_98 : decode cX6_flags 98 = .ok (.iadd, 1) := by decide +kernel
theorem dX6_flags_99 : decode cX6_flags 99 = .ok (.putfield 210, 3) := by decide +kernel
theorem dX6_flags_102 : decode cX6_flags 102 = .ok (.goto (-46), 3) := by decide +kernel
theorem dX6_flags_105 : decode cX6_flags 105 = .ok (.iload_n 2, 1) := by decide +kernel
theorem dX6_flags_106 : decode cX6_flags 106 = .ok (.ireturn, 1) := by decide +kernel
theorem dX6_takesChoice_0 : decode cX6_takesChoice 0 = .ok (.iconst 4, 1) := by decide +kernel
theorem dX6_takesChoice_1 : decode cX6_takesChoice 1 = .ok (.aload_n 0, 1) := by decide +kernel
theorem dX6_takesChoice_2 : decode cX6_takesChoice 2 = .ok (.getfield 223, 3) := by decide +kernel
theorem dX6_takesChoice_5 : decode cX6_takesChoice 5 = .ok (.imul, 1) := by decide +kernel
theorem dX6_takesChoice_6 : decode cX6_takesChoice 6 = .ok (.istore_n 1, 1) := by decide +kernel
theorem dX6_takesChoice_7 : decode cX6_takesChoice 7 = .ok (.aload_n 0, 1) := by decide +kernel
theorem dX6_takesChoice_8 : decode cX6_takesChoice 8 = .ok (.getfield 43, 3) := by decide +kernel
theorem dX6_takesChoice_11 : decode cX6_takesChoice 11 = .ok (.iload_n 1, 1) := by decide +kernel
theorem dX6_takesChoice_12 : decode cX6_takesChoice 12 = .ok (.aload_n 0, 1) := by decide +kernel
theorem dX6_takesChoice_13 : decode cX6_takesChoice 13 = .ok (.invokevirtual 226, 3) := by decide +kernel
theorem dX6_takesChoice_16 : decode cX6_takesChoice 16 = .ok (.iastore, 1) := by decide +kernel
theorem dX6_takesChoice_17 : decode cX6_takesChoice 17 = .ok (.aload_n 0, 1) := by decide +kernel
theorem dX6_takesChoice_18 : decode cX6_takesChoice 18 = .ok (.aload_n 0, 1) := by decide +kernel
theorem dX6_takesChoice_19 : decode cX6_takesChoice 19 = .ok (.invokevirtual 216, 3) := by decide +kernel
theorem dX6_takesChoice_22 : decode cX6_takesChoice 22 = .ok (.bipush 62, 2) := by decide +kernel
theorem dX6_takesChoice_24 : decode cX6_takesChoice 24 = .ok (.if_icmp .ne 7, 3) := by decide +kernel
theorem dX6_takesChoice_27 : decode cX6_takesChoice 27 = .ok (.iconst 1, 1) := by decide +kernel
theorem dX6_takesChoice_28 : decode cX6_takesChoice 28 = .ok (.goto 4, 3) := by decide +kernel
theorem dX6_takesChoice_31 : decode cX6_takesChoice 31 = .ok (.iconst 0, 1) := by decide +kernel
theorem dX6_takesChoice_32 : decode cX6_takesChoice 32 = .ok (.invokevirtual 219, 3) := by decide +kernel
theorem dX6_takesChoice_35 : decode cX6_takesChoice 35 = .ok (.aload_n 0, 1) := by decide +kernel
theorem dX6_takesChoice_36 : decode cX6_takesChoice 36 = .ok (.getfield 43, 3) := by decide +kernel
theorem dX6_takesChoice_39 : decode cX6_takesChoice 39 = .ok (.iload_n 1, 1) := by decide +kernel
theorem dX6_takesChoice_40 : decode cX6_takesChoice 40 = .ok (.iconst 1, 1) := by decide +kernel
theorem dX6_takesChoice_41 : decode cX6_takesChoice 41 = .ok (.iadd, 1) := by decide +kernel
theorem dX6_takesChoice_42 : decode cX6_takesChoice 42 = .ok (.aload_n 0, 1) := by decide +kernel
theorem dX6_takesChoice_43 : decode cX6_takesChoice 43 = .ok (.invokevirtual 226, 3) := by decide +kernel
theorem dX6_takesChoice_46 : decode cX6_takesChoice 46 = .ok (.iastore, 1) := by decide +kernel
theorem dX6_takesChoice_47 : decode cX6_takesChoice 47 = .ok (.aload_n 0, 1) := by decide +kernel
theorem dX6_takesChoice_48 : decode cX6_takesChoice 48 = .ok (.getfield 43, 3) := by decide +kernel
theorem dX6_takesChoice_51 : decode cX6_takesChoice 51 = .ok (.iload_n 1, 1) := by decide +kernel
theorem dX6_takesChoice_52 : decode cX6_takesChoice 52 = .ok (.iconst 2, 1) := by decide +kernel
theorem dX6_takesChoice_53 : decode cX6_takesChoice 53 = .ok (.iadd, 1) := by decide +kernel
theorem dX6_takesChoice_54 : decode cX6_takesChoice 54 = .ok (.aload_n 0, 1) := by decide +kernel
theorem dX6_takesChoice_55 : decode cX6_takesChoice 55 = .ok (.getfield 213, 3) := by decide +kernel
theorem dX6_takesChoice_58 : decode cX6_takesChoice 58 = .ok (.ifCond .eq 12, 3) := by decide +kernel
theorem dX6_takesChoice_61 : decode cX6_takesChoice 61 = .ok (.aload_n 0, 1) := by decide +kernel
theorem dX6_takesChoice_62 : decode cX6_takesChoice 62 = .ok (.bipush 43, 2) := by decide +kernel
theorem dX6_takesChoice_64 : decode cX6_takesChoice 64 = .ok (.invokevirtual 229, 3) := by decide +kernel
theorem dX6_takesChoice_67 : decode cX6_takesChoice 67 = .ok (.goto 4, 3) := by decide +kernel
theorem dX6_takesChoice_70 : decode cX6_takesChoice 70 = .ok (.iconst 0, 1) := by decide +kernel
theorem dX6_takesChoice_71 : decode cX6_takesChoice 71 = .ok (.iastore, 1) := by decide +kernel
theorem dX6_takesChoice_72 : decode cX6_takesChoice 72 = .ok (.aload_n 0, 1) := by decide +kernel
theorem dX6_takesChoice_73 : decode cX6_takesChoice 73 = .ok (.getfield 43, 3) := by decide +kernel
theorem dX6_takesChoice_76 : decode cX6_takesChoice 76 = .ok (.iload_n 1, 1) := by decide +kernel
theorem dX6_takesChoice_77 : decode cX6_takesChoice 77 = .ok (.iconst 3, 1) := by decide +kernel
theorem dX6_takesChoice_78 : decode cX6_takesChoice 78 = .ok (.iadd, 1) := by decide +kernel
theorem dX6_takesChoice_79 : decode cX6_takesChoice 79 = .ok (.aload_n 0, 1) := by decide +kernel
theorem dX6_takesChoice_80 : decode cX6_takesChoice 80 = .ok (.getfield 213, 3) := by decide +kernel
theorem dX6_takesChoice_83 : decode cX6_takesChoice 83 = .ok (.ifCond .eq 12, 3) := by decide +kernel
theorem dX6_takesChoice_86 : decode cX6_takesChoice 86 = .ok (.aload_n 0, 1) := by decide +kernel
theorem dX6_takesChoice_87 : decode cX6_takesChoice 87 = .ok (.bipush 45, 2) := by decide +kernel
theorem dX6_takesChoice_89 : decode cX6_takesChoice 89 = .ok (.invokevirtual 229, 3) := by decide +kernel
theorem dX6_takesChoice_92 : decode cX6_takesChoice 92 = .ok (.goto 4, 3) := by decide +kernel
theorem dX6_takesChoice_95 : decode cX6_takesChoice 95 = .ok (.iconst 0, 1) := by decide +kernel
theorem dX6_takesChoice_96 : decode cX6_takesChoice 96 = .ok (.iastore, 1) := by decide +kernel
theorem dX6_takesChoice_97 : decode cX6_takesChoice 97 = .ok (.aload_n 0, 1) := by decide +kernel
theorem dX6_takesChoice_98 : decode cX6_takesChoice 98 = .ok (.dup, 1) := by decide +kernel
theorem dX6_takesChoice_99 : decode cX6_takesChoice 99 = .ok (.getfield 223, 3) := by decide +kernel
theorem dX6_takesChoice_102 : decode cX6_takesChoice 102 = .ok (.iconst 1, 1) := by decide +kernel
theorem dX6_takesChoice_103 : decode cX6_takesChoice 103 = .ok (.iadd, 1) := by decide +kernel
theorem dX6_takesChoice_104 : decode cX6_takesChoice 104 = .ok (.putfield 223, 3) := by decide +kernel
theorem dX6_takesChoice_107 : decode cX6_takesChoice 107 = .ok (.return_, 1) := by decide +kernel
theorem dX6_isRight_0 : decode cX6_isRight 0 = .ok (.aload_n 0, 1) := by decide +kernel
theorem dX6_isRight_1 : decode cX6_isRight 1 = .ok (.iconst 0, 1) := by decide +kernel
theorem dX6_isRight_2 : decode cX6_isRight 2 = .ok (.putfield 210, 3) := by decide +kernel
theorem dX6_isRight_5 : decode cX6_isRight 5 = .ok (.aload_n 0, 1) := by decide +kernel
theorem dX6_isRight_6 : decode cX6_isRight 6 = .ok (.iconst 0, 1) := by decide +kernel
theorem dX6_isRight_7 : decode cX6_isRight 7 = .ok (.putfield 223, 3) := by decide +kernel
theorem dX6_isRight_10 : decode cX6_isRight 10 = .ok (.aload_n 0, 1) := by decide +kernel
theorem dX6_isRight_11 : decode cX6_isRight 11 = .ok (.iconst 1, 1) := by decide +kernel
theorem dX6_isRight_12 : decode cX6_isRight 12 = .ok (.putfield 213, 3) := by decide +kernel
theorem dX6_isRight_15 : decode cX6_isRight 15 = .ok (.aload_n 0, 1) := by decide +kernel
theorem dX6_isRight_16 : decode cX6_isRight 16 = .ok (.invokevirtual 232, 3) := by decide +kernel
theorem dX6_isRight_19 : decode cX6_isRight 19 = .ok (.aload_n 0, 1) := by decide +kernel
theorem dX6_isRight_20 : decode cX6_isRight 20 = .ok (.getfield 213, 3) := by decide +kernel
theorem dX6_isRight_23 : decode cX6_isRight 23 = .ok (.ifCond .eq 46, 3) := by decide +kernel
theorem dX6_isRight_26 : decode cX6_isRight 26 = .ok (.aload_n 0, 1) := by decide +kernel
theorem dX6_isRight_27 : decode cX6_isRight 27 = .ok (.getfield 210, 3) := by decide +kernel
theorem dX6_isRight_30 : decode cX6_isRight 30 = .ok (.aload_n 0, 1) := by decide +kernel
theorem dX6_isRight_31 : decode cX6_isRight 31 = .ok (.getfield 203, 3) := by decide +kernel
theorem dX6_isRight_34 : decode cX6_isRight 34 = .ok (.if_icmp .ge 35, 3) := by decide +kernel
theorem dX6_isRight_37 : decode cX6_isRight 37 = .ok (.aload_n 0, 1) := by decide +kernel
theorem dX6_isRight_38 : decode cX6_isRight 38 = .ok (.aload_n 0, 1) := by decide +kernel
theorem dX6_isRight_39 : decode cX6_isRight 39 = .ok (.invokevirtual 216, 3) := by decide +kernel
theorem dX6_isRight_42 : decode cX6_isRight 42 = .ok (.bipush 59, 2) := by decide +kernel
theorem dX6_isRight_44 : decode cX6_isRight 44 = .ok (.if_icmp .ne 7, 3) := by decide +kernel
theorem dX6_isRight_47 : decode cX6_isRight 47 = .ok (.iconst 1, 1) := by decide +kernel
theorem dX6_isRight_48 : decode cX6_isRight 48 = .ok (.goto 4, 3) := by decide +kernel
theorem dX6_isRight_51 : decode cX6_isRight 51 = .ok (.iconst 0, 1) := by decide +kernel
theorem dX6_isRight_52 : decode cX6_isRight 52 = .ok (.invokevirtual 219, 3) := by decide +kernel
theorem dX6_isRight_55 : decode cX6_isRight 55 = .ok (.aload_n 0, 1) := by decide +kernel
theorem dX6_isRight_56 : decode cX6_isRight 56 = .ok (.getfield 213, 3) := by decide +kernel
theorem dX6_isRight_59 : decode cX6_isRight 59 = .ok (.ifCond .eq (-40), 3) := by decide +kernel
theorem dX6_isRight_62 : decode cX6_isRight 62 = .ok (.aload_n 0, 1) := by decide +kernel
theorem dX6_isRight_63 : decode cX6_isRight 63 = .ok (.invokevirtual 232, 3) := by decide +kernel
theorem dX6_isRight_66 : decode cX6_isRight 66 = .ok (.goto (-47), 3) := by decide +kernel
theorem dX6_isRight_69 : decode cX6_isRight 69 = .ok (.aload_n 0, 1) := by decide +kernel
theorem dX6_isRight_70 : decode cX6_isRight 70 = .ok (.getfield 213, 3) := by decide +kernel
theorem dX6_isRight_73 : decode cX6_isRight 73 = .ok (.ireturn, 1) := by decide +kernel
theorem dX6_whyNotAll_0 : decode cX6_whyNotAll 0 = .ok (.iconst 0, 1) := by decide +kernel
theorem dX6_whyNotAll_1 : decode cX6_whyNotAll 1 = .ok (.istore_n 1, 1) := by decide +kernel
theorem dX6_whyNotAll_2 : decode cX6_whyNotAll 2 = .ok (.iload_n 1, 1) := by decide +kernel
theorem dX6_whyNotAll_3 : decode cX6_whyNotAll 3 = .ok (.aload_n 0, 1) := by decide +kernel
theorem dX6_whyNotAll_4 : decode cX6_whyNotAll 4 = .ok (.getfield 223, 3) := by decide +kernel
theorem dX6_whyNotAll_7 : decode cX6_whyNotAll 7 = .ok (.if_icmp .ge 96, 3) := by decide +kernel
theorem dX6_whyNotAll_10 : decode cX6_whyNotAll 10 = .ok (.aload_n 0, 1) := by decide +kernel
theorem dX6_whyNotAll_11 : decode cX6_whyNotAll 11 = .ok (.getfield 43, 3) := by decide +kernel
theorem dX6_whyNotAll_14 : decode cX6_whyNotAll 14 = .ok (.iconst 4, 1) := by decide +kernel
theorem dX6_whyNotAll_15 : decode cX6_whyNotAll 15 = .ok (.iload_n 1, 1) := by decide +kernel
theorem dX6_whyNotAll_16 : decode cX6_whyNotAll 16 = .ok (.imul, 1) := by decide +kernel
theorem dX6_whyNotAll_17 : decode cX6_whyNotAll 17 = .ok (.iaload, 1) := by decide +kernel
theorem dX6_whyNotAll_18 : decode cX6_whyNotAll 18 = .ok (.istore_n 2, 1) := by decide +kernel
theorem dX6_whyNotAll_19 : decode cX6_whyNotAll 19 = .ok (.aload_n 0, 1) := by decide +kernel
theorem dX6_whyNotAll_20 : decode cX6_whyNotAll 20 = .ok (.iload_n 2, 1) := by decide +kernel
theorem dX6_whyNotAll_21 : decode cX6_whyNotAll 21 = .ok (.invokevirtual 54, 3) := by decide +kernel
theorem dX6_whyNotAll_24 : decode cX6_whyNotAll 24 = .ok (.ifCond .eq 20, 3) := by decide +kernel
theorem dX6_whyNotAll_27 : decode cX6_whyNotAll 27 = .ok (.aload_n 0, 1) := by decide +kernel
theorem dX6_whyNotAll_28 : decode cX6_whyNotAll 28 = .ok (.aload_n 0, 1) := by decide +kernel
theorem dX6_whyNotAll_29 : decode cX6_whyNotAll 29 = .ok (.getfield 43, 3) := by decide +kernel
theorem dX6_whyNotAll_32 : decode cX6_whyNotAll 32 = .ok (.iconst 4, 1) := by decide +kernel
theorem dX6_whyNotAll_33 : decode cX6_whyNotAll 33 = .ok (.iload_n 1, 1) := by decide +kernel
theorem dX6_whyNotAll_34 : decode cX6_whyNotAll 34 = .ok (.imul, 1) := by decide +kernel
theorem dX6_whyNotAll_35 : decode cX6_whyNotAll 35 = .ok (.iconst 1, 1) := by decide +kernel
theorem dX6_whyNotAll_36 : decode cX6_whyNotAll 36 = .ok (.iadd, 1) := by decide +kernel
theorem dX6_whyNotAll_37 : decode cX6_whyNotAll 37 = .ok (.iaload, 1) := by decide +kernel
theorem dX6_whyNotAll_38 : decode cX6_whyNotAll 38 = .ok (.invokevirtual 54, 3) := by decide +kernel
theorem dX6_whyNotAll_41 : decode cX6_whyNotAll 41 = .ok (.ifCond .ne 5, 3) := by decide +kernel
theorem dX6_whyNotAll_44 : decode cX6_whyNotAll 44 = .ok (.iconst (-1), 1) := by decide +kernel
theorem dX6_whyNotAll_45 : decode cX6_whyNotAll 45 = .ok (.ireturn, 1) := by decide +kernel
theorem dX6_whyNotAll_46 : decode cX6_whyNotAll 46 = .ok (.aload_n 0, 1) := by decide +kernel
theorem dX6_whyNotAll_47 : decode cX6_whyNotAll 47 = .ok (.iload_n 2, 1) := by decide +kernel
theorem dX6_whyNotAll_48 : decode cX6_whyNotAll 48 = .ok (.iconst 3, 1) := by decide +kernel
theorem dX6_whyNotAll_49 : decode cX6_whyNotAll 49 = .ok (.invokevirtual 62, 3) := by decide +kernel
theorem dX6_whyNotAll_52 : decode cX6_whyNotAll 52 = .ok (.istore_n 3, 1) := by decide +kernel
theorem dX6_whyNotAll_53 : decode cX6_whyNotAll 53 = .ok (.iconst 0, 1) := by decide +kernel
theorem dX6_whyNotAll_54 : decode cX6_whyNotAll 54 = .ok (.istore 4, 2) := by decide +kernel
theorem dX6_whyNotAll_56 : decode cX6_whyNotAll 56 = .ok (.iload 4, 2) := by decide +kernel
theorem dX6_whyNotAll_58 : decode cX6_whyNotAll 58 = .ok (.iload_n 1, 1) := by decide +kernel
theorem dX6_whyNotAll_59 : decode cX6_whyNotAll 59 = .ok (.if_icmp .ge 30, 3) := by decide +kernel
theorem dX6_whyNotAll_62 : decode cX6_whyNotAll 62 = .ok (.iload_n 3, 1) := by decide +kernel
theorem dX6_whyNotAll_63 : decode cX6_whyNotAll 63 = .ok (.aload_n 0, 1) := by decide +kernel
theorem dX6_whyNotAll_64 : decode cX6_whyNotAll 64 = .ok (.getfield 43, 3) := by decide +kernel
theorem dX6_whyNotAll_67 : decode cX6_whyNotAll 67 = .ok (.iconst 4, 1) := by decide +kernel
theorem dX6_whyNotAll_68 : decode cX6_whyNotAll 68 = .ok (.iload 4, 2) := by decide +kernel
theorem dX6_whyNotAll_70 : decode cX6_whyNotAll 70 = .ok (.imul, 1) := by decide +kernel
theorem dX6_whyNotAll_71 : decode cX6_whyNotAll 71 = .ok (.iaload, 1) := by decide +kernel
theorem dX6_whyNotAll_72 : decode cX6_whyNotAll 72 = .ok (.iload_n 2, 1) := by decide +kernel
theorem dX6_whyNotAll_73 : decode cX6_whyNotAll 73 = .ok (.if_icmp .ne 7, 3) := by decide +kernel
theorem dX6_whyNotAll_76 : decode cX6_whyNotAll 76 = .ok (.iconst 1, 1) := by decide +kernel
theorem dX6_whyNotAll_77 : decode cX6_whyNotAll 77 = .ok (.goto 4, 3) := by decide +kernel
theorem dX6_whyNotAll_80 : decode cX6_whyNotAll 80 = .ok (.iconst 0, 1) := by decide +kernel
theorem dX6_whyNotAll_81 : decode cX6_whyNotAll 81 = .ok (.iadd, 1) := by decide +kernel
theorem dX6_whyNotAll_82 : decode cX6_whyNotAll 82 = .ok (.istore_n 3, 1) := by decide +kernel
theorem dX6_whyNotAll_83 : decode cX6_whyNotAll 83 = .ok (.iinc 4 1, 3) := by decide +kernel
theorem dX6_whyNotAll_86 : decode cX6_whyNotAll 86 = .ok (.goto (-30), 3) := by decide +kernel
theorem dX6_whyNotAll_89 : decode cX6_whyNotAll 89 = .ok (.iload_n 3, 1) := by decide +kernel
theorem dX6_whyNotAll_90 : decode cX6_whyNotAll 90 = .ok (.iconst 3, 1) := by decide +kernel
theorem dX6_whyNotAll_91 : decode cX6_whyNotAll 91 = .ok (.if_icmp .lt 6, 3) := by decide +kernel
theorem dX6_whyNotAll_94 : decode cX6_whyNotAll 94 = .ok (.bipush (-3), 2) := by decide +kernel
theorem dX6_whyNotAll_96 : decode cX6_whyNotAll 96 = .ok (.ireturn, 1) := by decide +kernel
theorem dX6_whyNotAll_97 : decode cX6_whyNotAll 97 = .ok (.iinc 1 1, 3) := by decide +kernel
theorem dX6_whyNotAll_100 : decode cX6_whyNotAll 100 = .ok (.goto (-98), 3) := by decide +kernel
theorem dX6_whyNotAll_103 : decode cX6_whyNotAll 103 = .ok (.iconst 0, 1) := by decide +kernel
theorem dX6_whyNotAll_104 : decode cX6_whyNotAll 104 = .ok (.ireturn, 1) := by decide +kernel
theorem dX6_addChoices_0 : decode cX6_addChoices 0 = .ok (.aload_n 0, 1) := by decide +kernel
theorem dX6_addChoices_1 : decode cX6_addChoices 1 = .ok (.invokevirtual 235, 3) := by decide +kernel
theorem dX6_addChoices_4 : decode cX6_addChoices 4 = .ok (.ifCond .ne 11, 3) := by decide +kernel
theorem dX6_addChoices_7 : decode cX6_addChoices 7 = .ok (.bipush (-100), 2) := by decide +kernel
theorem dX6_addChoices_9 : decode cX6_addChoices 9 = .ok (.aload_n 0, 1) := by decide +kernel
theorem dX6_addChoices_10 : decode cX6_addChoices 10 = .ok (.getfield 210, 3) := by decide +kernel
theorem dX6_addChoices_13 : decode cX6_addChoices 13 = .ok (.isub, 1) := by decide +kernel
theorem dX6_addChoices_14 : decode cX6_addChoices 14 = .ok (.ireturn, 1) := by decide +kernel
theorem dX6_addChoices_15 : decode cX6_addChoices 15 = .ok (.aload_n 0, 1) := by decide +kernel
theorem dX6_addChoices_16 : decode cX6_addChoices 16 = .ok (.invokevirtual 238, 3) := by decide +kernel
theorem dX6_addChoices_19 : decode cX6_addChoices 19 = .ok (.istore_n 1, 1) := by decide +kernel
theorem dX6_addChoices_20 : decode cX6_addChoices 20 = .ok (.iload_n 1, 1) := by decide +kernel
theorem dX6_addChoices_21 : decode cX6_addChoices 21 = .ok (.ifCond .ge 5, 3) := by decide +kernel
theorem dX6_addChoices_24 : decode cX6_addChoices 24 = .ok (.iload_n 1, 1) := by decide +kernel
theorem dX6_addChoices_25 : decode cX6_addChoices 25 = .ok (.ireturn, 1) := by decide +kernel
theorem dX6_addChoices_26 : decode cX6_addChoices 26 = .ok (.aload_n 0, 1) := by decide +kernel
theorem dX6_addChoices_27 : decode cX6_addChoices 27 = .ok (.invokevirtual 114, 3) := by decide +kernel
theorem dX6_addChoices_30 : decode cX6_addChoices 30 = .ok (.iconst 0, 1) := by decide +kernel
theorem dX6_addChoices_31 : decode cX6_addChoices 31 = .ok (.istore_n 2, 1) := by decide +kernel
theorem dX6_addChoices_32 : decode cX6_addChoices 32 = .ok (.iload_n 2, 1) := by decide +kernel
theorem dX6_addChoices_33 : decode cX6_addChoices 33 = .ok (.aload_n 0, 1) := by decide +kernel
theorem dX6_addChoices_34 : decode cX6_addChoices 34 = .ok (.getfield 223, 3) := by decide +kernel
theorem dX6_addChoices_37 : decode cX6_addChoices 37 = .ok (.if_icmp .ge 52, 3) := by decide +kernel
theorem dX6_addChoices_40 : decode cX6_addChoices 40 = .ok (.aload_n 0, 1) := by decide +kernel
theorem dX6_addChoices_41 : decode cX6_addChoices 41 = .ok (.aload_n 0, 1) := by decide +kernel
theorem dX6_addChoices_42 : decode cX6_addChoices 42 = .ok (.getfield 43, 3) := by decide +kernel
theorem dX6_addChoices_45 : decode cX6_addChoices 45 = .ok (.iconst 4, 1) := by decide +kernel
theorem dX6_addChoices_46 : decode cX6_addChoices 46 = .ok (.iload_n 2, 1) := by decide +kernel
theorem dX6_addChoices_47 : decode cX6_addChoices 47 = .ok (.imul, 1) := by decide +kernel
theorem dX6_addChoices_48 : decode cX6_addChoices 48 = .ok (.iaload, 1) := by decide +kernel
theorem dX6_addChoices_49 : decode cX6_addChoices 49 = .ok (.aload_n 0, 1) := by decide +kernel
theorem dX6_addChoices_50 : decode cX6_addChoices 50 = .ok (.getfield 43, 3) := by decide +kernel
theorem dX6_addChoices_53 : decode cX6_addChoices 53 = .ok (.iconst 4, 1) := by decide +kernel
theorem dX6_addChoices_54 : decode cX6_addChoices 54 = .ok (.iload_n 2, 1) := by decide +kernel
theorem dX6_addChoices_55 : decode cX6_addChoices 55 = .ok (.imul, 1) := by decide +kernel
theorem dX6_addChoices_56 : decode cX6_addChoices 56 = .ok (.iconst 1, 1) := by decide +kernel
theorem dX6_addChoices_57 : decode cX6_addChoices 57 = .ok (.iadd, 1) := by decide +kernel
theorem dX6_addChoices_58 : decode cX6_addChoices 58 = .ok (.iaload, 1) := by decide +kernel
theorem dX6_addChoices_59 : decode cX6_addChoices 59 = .ok (.aload_n 0, 1) := by decide +kernel
theorem dX6_addChoices_60 : decode cX6_addChoices 60 = .ok (.getfield 43, 3) := by decide +kernel
theorem dX6_addChoices_63 : decode cX6_addChoices 63 = .ok (.iconst 4, 1) := by decide +kernel
theorem dX6_addChoices_64 : decode cX6_addChoices 64 = .ok (.iload_n 2, 1) := by decide +kernel
theorem dX6_addChoices_65 : decode cX6_addChoices 65 = .ok (.imul, 1) := by decide +kernel
theorem dX6_addChoices_66 : decode cX6_addChoices 66 = .ok (.iconst 2, 1) := by decide +kernel
theorem dX6_addChoices_67 : decode cX6_addChoices 67 = .ok (.iadd, 1) := by decide +kernel
theorem dX6_addChoices_68 : decode cX6_addChoices 68 = .ok (.iaload, 1) := by decide +kernel
theorem dX6_addChoices_69 : decode cX6_addChoices 69 = .ok (.aload_n 0, 1) := by decide +kernel
theorem dX6_addChoices_70 : decode cX6_addChoices 70 = .ok (.getfield 43, 3) := by decide +kernel
theorem dX6_addChoices_73 : decode cX6_addChoices 73 = .ok (.iconst 4, 1) := by decide +kernel
theorem dX6_addChoices_74 : decode cX6_addChoices 74 = .ok (.iload_n 2, 1) := by decide +kernel
theorem dX6_addChoices_75 : decode cX6_addChoices 75 = .ok (.imul, 1) := by decide +kernel
theorem dX6_addChoices_76 : decode cX6_addChoices 76 = .ok (.iconst 3, 1) := by decide +kernel
theorem dX6_addChoices_77 : decode cX6_addChoices 77 = .ok (.iadd, 1) := by decide +kernel
theorem dX6_addChoices_78 : decode cX6_addChoices 78 = .ok (.iaload, 1) := by decide +kernel
theorem dX6_addChoices_79 : decode cX6_addChoices 79 = .ok (.invokevirtual 120, 3) := by decide +kernel
theorem dX6_addChoices_82 : decode cX6_addChoices 82 = .ok (.istore_n 3, 1) := by decide +kernel
theorem dX6_addChoices_83 : decode cX6_addChoices 83 = .ok (.iinc 2 1, 3) := by decide +kernel
theorem dX6_addChoices_86 : decode cX6_addChoices 86 = .ok (.goto (-54), 3) := by decide +kernel
theorem dX6_addChoices_89 : decode cX6_addChoices 89 = .ok (.aload_n 0, 1) := by decide +kernel
theorem dX6_addChoices_90 : decode cX6_addChoices 90 = .ok (.getfield 223, 3) := by decide +kernel
theorem dX6_addChoices_93 : decode cX6_addChoices 93 = .ok (.ireturn, 1) := by decide +kernel
theorem dL_law_0 : decode cL_law 0 = .ok (.new 7, 3) := by decide +kernel
theorem dL_law_3 : decode cL_law 3 = .ok (.dup, 1) := by decide +kernel
theorem dL_law_4 : decode cL_law 4 = .ok (.invokespecial 9, 3) := by decide +kernel
theorem dL_law_7 : decode cL_law 7 = .ok (.astore_n 1, 1) := by decide +kernel
theorem dL_law_8 : decode cL_law 8 = .ok (.new 10, 3) := by decide +kernel
theorem dL_law_11 : decode cL_law 11 = .ok (.dup, 1) := by decide +kernel
theorem dL_law_12 : decode cL_law 12 = .ok (.invokespecial 12, 3) := by decide +kernel
theorem dL_law_15 : decode cL_law 15 = .ok (.astore_n 2, 1) := by decide +kernel
theorem dL_law_16 : decode cL_law 16 = .ok (.iconst 0, 1) := by decide +kernel
theorem dL_law_17 : decode cL_law 17 = .ok (.istore_n 3, 1) := by decide +kernel
theorem dL_law_18 : decode cL_law 18 = .ok (.iload_n 3, 1) := by decide +kernel
theorem dL_law_19 : decode cL_law 19 = .ok (.aload_n 0, 1) := by decide +kernel
theorem dL_law_20 : decode cL_law 20 = .ok (.arraylength, 1) := by decide +kernel
theorem dL_law_21 : decode cL_law 21 = .ok (.iconst 5, 1) := by decide +kernel
theorem dL_law_22 : decode cL_law 22 = .ok (.isub, 1) := by decide +kernel
theorem dL_law_23 : decode cL_law 23 = .ok (.if_icmp .gt 717, 3) := by decide +kernel
theorem dL_law_26 : decode cL_law 26 = .ok (.aload_n 0, 1) := by decide +kernel
theorem dL_law_27 : decode cL_law 27 = .ok (.iload_n 3, 1) := by decide +kernel
theorem dL_law_28 : decode cL_law 28 = .ok (.iaload, 1) := by decide +kernel
theorem dL_law_29 : decode cL_law 29 = .ok (.bipush 31, 2) := by decide +kernel
theorem dL_law_31 : decode cL_law 31 = .ok (.iand, 1) := by decide +kernel
theorem dL_law_32 : decode cL_law 32 = .ok (.tableswitch 702 0 21 #[104, 147, 180, 233, 246, 279, 312, 335, 368, 391, 414, 439, 452, 465, 478, 491, 524, 567, 600, 633, 666, 679], 104) := by decide +kernel
theorem dL_law_136 : decode cL_law 136 = .ok (.aload_n 1, 1) := by decide +kernel
theorem dL_law_137 : decode cL_law 137 = .ok (.aload_n 0, 1) := by decide +kernel
theorem dL_law_138 : decode cL_law 138 = .ok (.iload_n 3, 1) := by decide +kernel
theorem dL_law_139 : decode cL_law 139 = .ok (.iconst 1, 1) := by decide +kernel
theorem dL_law_140 : decode cL_law 140 = .ok (.iadd, 1) := by decide +kernel
theorem dL_law_141 : decode cL_law 141 = .ok (.iaload, 1) := by decide +kernel
theorem dL_law_142 : decode cL_law 142 = .ok (.aload_n 0, 1) := by decide +kernel
theorem dL_law_143 : decode cL_law 143 = .ok (.iload_n 3, 1) := by decide +kernel
theorem dL_law_144 : decode cL_law 144 = .ok (.iconst 2, 1) := by decide +kernel
theorem dL_law_145 : decode cL_law 145 = .ok (.iadd, 1) := by decide +kernel
theorem dL_law_146 : decode cL_law 146 = .ok (.iaload, 1) := by decide +kernel
theorem dL_law_147 : decode cL_law 147 = .ok (.aload_n 0, 1) := by decide +kernel
theorem dL_law_148 : decode cL_law 148 = .ok (.iload_n 3, 1) := by decide +kernel
theorem dL_law_149 : decode cL_law 149 = .ok (.iconst 3, 1) := by decide +kernel
theorem dL_law_150 : decode cL_law 150 = .ok (.iadd, 1) := by decide +kernel
theorem dL_law_151 : decode cL_law 151 = .ok (.iaload, 1) := by decide +kernel
theorem dL_law_152 : decode cL_law 152 = .ok (.invokevirtual 13, 3) := by decide +kernel
theorem dL_law_155 : decode cL_law 155 = .ok (.aload_n 2, 1) := by decide +kernel
theorem dL_law_156 : decode cL_law 156 = .ok (.aload_n 0, 1) := by decide +kernel
theorem dL_law_157 : decode cL_law 157 = .ok (.iload_n 3, 1) := by decide +kernel
theorem dL_law_158 : decode cL_law 158 = .ok (.iconst 1, 1) := by decide +kernel
theorem dL_law_159 : decode cL_law 159 = .ok (.iadd, 1) := by decide +kernel
theorem dL_law_160 : decode cL_law 160 = .ok (.iaload, 1) := by decide +kernel
theorem dL_law_161 : decode cL_law 161 = .ok (.aload_n 0, 1) := by decide +kernel
theorem dL_law_162 : decode cL_law 162 = .ok (.iload_n 3, 1) := by decide +kernel
theorem dL_law_163 : decode cL_law 163 = .ok (.iconst 2, 1) := by decide +kernel
theorem dL_law_164 : decode cL_law 164 = .ok (.iadd, 1) := by decide +kernel
theorem dL_law_165 : decode cL_law 165 = .ok (.iaload, 1) := by decide +kernel
theorem dL_law_166 : decode cL_law 166 = .ok (.aload_n 0, 1) := by decide +kernel
theorem dL_law_167 : decode cL_law 167 = .ok (.iload_n 3, 1) := by decide +kernel
theorem dL_law_168 : decode cL_law 168 = .ok (.iconst 3, 1) := by decide +kernel
theorem dL_law_169 : decode cL_law 169 = .ok (.iadd, 1) := by decide +kernel
theorem dL_law_170 : decode cL_law 170 = .ok (.iaload, 1) := by decide +kernel
theorem dL_law_171 : decode cL_law 171 = .ok (.invokevirtual 17, 3) := by decide +kernel
theorem dL_law_174 : decode cL_law 174 = .ok (.if_icmp .eq 560, 3) := by decide +kernel
theorem dL_law_177 : decode cL_law 177 = .ok (.iconst 0, 1) := by decide +kernel
theorem dL_law_178 : decode cL_law 178 = .ok (.ireturn, 1) := by decide +kernel
theorem dL_law_179 : decode cL_law 179 = .ok (.aload_n 1, 1) := by decide +kernel
theorem dL_law_180 : decode cL_law 180 = .ok (.aload_n 0, 1) := by decide +kernel
theorem dL_law_181 : decode cL_law 181 = .ok (.iload_n 3, 1) := by decide +kernel
theorem dL_law_182 : decode cL_law 182 = .ok (.iconst 1, 1) := by decide +kernel
theorem dL_law_183 : decode cL_law 183 = .ok (.iadd, 1) := by decide +kernel
theorem dL_law_184 : decode cL_law 184 = .ok (.iaload, 1) := by decide +kernel
theorem dL_law_185 : decode cL_law 185 = .ok (.aload_n 0, 1) := by decide +kernel
theorem dL_law_186 : decode cL_law 186 = .ok (.iload_n 3, 1) := by decide +kernel
theorem dL_law_187 : decode cL_law 187 = .ok (.iconst 2, 1) := by decide +kernel
theorem dL_law_188 : decode cL_law 188 = .ok (.iadd, 1) := by decide +kernel
theorem dL_law_189 : decode cL_law 189 = .ok (.iaload, 1) := by decide +kernel
theorem dL_law_190 : decode cL_law 190 = .ok (.invokevirtual 18, 3) := by decide +kernel
theorem dL_law_193 : decode cL_law 193 = .ok (.aload_n 2, 1) := by decide +kernel
theorem dL_law_194 : decode cL_law 194 = .ok (.aload_n 0, 1) := by decide +kernel
theorem dL_law_195 : decode cL_law 195 = .ok (.iload_n 3, 1) := by decide +kernel
theorem dL_law_196 : decode cL_law 196 = .ok (.iconst 1, 1) := by decide +kernel
theorem dL_law_197 : decode cL_law 197 = .ok (.iadd, 1) := by decide +kernel
theorem dL_law_198 : decode cL_law 198 = .ok (.iaload, 1) := by decide +kernel
theorem dL_law_199 : decode cL_law 199 = .ok (.aload_n 0, 1) := by decide +kernel
theorem dL_law_200 : decode cL_law 200 = .ok (.iload_n 3, 1) := by decide +kernel
theorem dL_law_201 : decode cL_law 201 = .ok (.iconst 2, 1) := by decide +kernel
theorem dL_law_202 : decode cL_law 202 = .ok (.iadd, 1) := by decide +kernel
theorem dL_law_203 : decode cL_law 203 = .ok (.iaload, 1) := by decide +kernel
theorem dL_law_204 : decode cL_law 204 = .ok (.invokevirtual 22, 3) := by decide +kernel
theorem dL_law_207 : decode cL_law 207 = .ok (.if_icmp .eq 527, 3) := by decide +kernel
theorem dL_law_210 : decode cL_law 210 = .ok (.iconst 0, 1) := by decide +kernel
theorem dL_law_211 : decode cL_law 211 = .ok (.ireturn, 1) := by decide +kernel
theorem dL_law_212 : decode cL_law 212 = .ok (.aload_n 1, 1) := by decide +kernel
theorem dL_law_213 : decode cL_law 213 = .ok (.aload_n 0, 1) := by decide +kernel
theorem dL_law_214 : decode cL_law 214 = .ok (.iload_n 3, 1) := by decide +kernel
theorem dL_law_215 : decode cL_law 215 = .ok (.iconst 1, 1) := by decide +kernel
theorem dL_law_216 : decode cL_law 216 = .ok (.iadd, 1) := by decide +kernel
theorem dL_law_217 : decode cL_law 217 = .ok (.iaload, 1) := by decide +kernel
theorem dL_law_218 : decode cL_law 218 = .ok (.aload_n 0, 1) := by decide +kernel
theorem dL_law_219 : decode cL_law 219 = .ok (.iload_n 3, 1) := by decide +kernel
theorem dL_law_220 : decode cL_law 220 = .ok (.iconst 2, 1) := by decide +kernel
theorem dL_law_221 : decode cL_law 221 = .ok (.iadd, 1) := by decide +kernel
theorem dL_law_222 : decode cL_law 222 = .ok (.iaload, 1) := by decide +kernel
theorem dL_law_223 : decode cL_law 223 = .ok (.aload_n 0, 1) := by decide +kernel
theorem dL_law_224 : decode cL_law 224 = .ok (.iload_n 3, 1) := by decide +kernel
theorem dL_law_225 : decode cL_law 225 = .ok (.iconst 3, 1) := by decide +kernel
theorem dL_law_226 : decode cL_law 226 = .ok (.iadd, 1) := by decide +kernel
theorem dL_law_227 : decode cL_law 227 = .ok (.iaload, 1) := by decide +kernel
theorem dL_law_228 : decode cL_law 228 = .ok (.aload_n 0, 1) := by decide +kernel
theorem dL_law_229 : decode cL_law 229 = .ok (.iload_n 3, 1) := by decide +kernel
theorem dL_law_230 : decode cL_law 230 = .ok (.iconst 4, 1) := by decide +kernel
theorem dL_law_231 : decode cL_law 231 = .ok (.iadd, 1) := by decide +kernel
theorem dL_law_232 : decode cL_law 232 = .ok (.iaload, 1) := by decide +kernel
theorem dL_law_233 : decode cL_law 233 = .ok (.invokevirtual 23, 3) := by decide +kernel
theorem dL_law_236 : decode cL_law 236 = .ok (.aload_n 2, 1) := by decide +kernel
theorem dL_law_237 : decode cL_law 237 = .ok (.aload_n 0, 1) := by decide +kernel
theorem dL_law_238 : decode cL_law 238 = .ok (.iload_n 3, 1) := by decide +kernel
theorem dL_law_239 : decode cL_law 239 = .ok (.iconst 1, 1) := by decide +kernel
theorem dL_law_240 : decode cL_law 240 = .ok (.iadd, 1) := by decide +kernel
theorem dL_law_241 : decode cL_law 241 = .ok (.iaload, 1) := by decide +kernel
theorem dL_law_242 : decode cL_law 242 = .ok (.aload_n 0, 1) := by decide +kernel
theorem dL_law_243 : decode cL_law 243 = .ok (.iload_n 3, 1) := by decide +kernel
theorem dL_law_244 : decode cL_law 244 = .ok (.iconst 2, 1) := by decide +kernel
theorem dL_law_245 : decode cL_law 245 = .ok (.iadd, 1) := by decide +kernel
theorem dL_law_246 : decode cL_law 246 = .ok (.iaload, 1) := by decide +kernel
theorem dL_law_247 : decode cL_law 247 = .ok (.aload_n 0, 1) := by decide +kernel
theorem dL_law_248 : decode cL_law 248 = .ok (.iload_n 3, 1) := by decide +kernel
theorem dL_law_249 : decode cL_law 249 = .ok (.iconst 3, 1) := by decide +kernel
theorem dL_law_250 : decode cL_law 250 = .ok (.iadd, 1) := by decide +kernel
theorem dL_law_251 : decode cL_law 251 = .ok (.iaload, 1) := by decide +kernel
theorem dL_law_252 : decode cL_law 252 = .ok (.aload_n 0, 1) := by decide +kernel
theorem dL_law_253 : decode cL_law 253 = .ok (.iload_n 3, 1) := by decide +kernel
theorem dL_law_254 : decode cL_law 254 = .ok (.iconst 4, 1) := by decide +kernel
theorem dL_law_255 : decode cL_law 255 = .ok (.iadd, 1) := by decide +kernel
theorem dL_law_256 : decode cL_law 256 = .ok (.iaload, 1) := by decide +kernel
theorem dL_law_257 : decode cL_law 257 = .ok (.invokevirtual 27, 3) := by decide +kernel
theorem dL_law_260 : decode cL_law 260 = .ok (.if_icmp .eq 474, 3) := by decide +kernel
theorem dL_law_263 : decode cL_law 263 = .ok (.iconst 0, 1) := by decide +kernel
theorem dL_law_264 : decode cL_law 264 = .ok (.ireturn, 1) := by decide +kernel
theorem dL_law_265 : decode cL_law 265 = .ok (.aload_n 1, 1) := by decide +kernel
theorem dL_law_266 : decode cL_law 266 = .ok (.invokevirtual 28, 3) := by decide +kernel
theorem dL_law_269 : decode cL_law 269 = .ok (.aload_n 2, 1) := by decide +kernel
theorem dL_law_270 : decode cL_law 270 = .ok (.invokevirtual 32, 3) := by decide +kernel
theorem dL_law_273 : decode cL_law 273 = .ok (.if_icmp .eq 461, 3) := by decide +kernel
theorem dL_law_276 : decode cL_law 276 = .ok (.iconst 0, 1) := by decide +kernel
theorem dL_law_277 : decode cL_law 277 = .ok (.ireturn, 1) := by decide +kernel
theorem dL_law_278 : decode cL_law 278 = .ok (.aload_n 1, 1) := by decide +kernel
theorem dL_law_279 : decode cL_law 279 = .ok (.aload_n 0, 1) := by decide +kernel
theorem dL_law_280 : decode cL_law 280 = .ok (.iload_n 3, 1) := by decide +kernel
theorem dL_law_281 : decode cL_law 281 = .ok (.iconst 1, 1) := by decide +kernel
theorem dL_law_282 : decode cL_law 282 = .ok (.iadd, 1) := by decide +kernel
theorem dL_law_283 : decode cL_law 283 = .ok (.iaload, 1) := by decide +kernel
theorem dL_law_284 : decode cL_law 284 = .ok (.aload_n 0, 1) := by decide +kernel
theorem dL_law_285 : decode cL_law 285 = .ok (.iload_n 3, 1) := by decide +kernel
theorem dL_law_286 : decode cL_law 286 = .ok (.iconst 2, 1) := by decide +kernel
theorem dL_law_287 : decode cL_law 287 = .ok (.iadd, 1) := by decide +kernel
theorem dL_law_288 : decode cL_law 288 = .ok (.iaload, 1) := by decide +kernel
theorem dL_law_289 : decode cL_law 289 = .ok (.invokevirtual 33, 3) := by decide +kernel
theorem dL_law_292 : decode cL_law 292 = .ok (.aload_n 2, 1) := by decide +kernel
theorem dL_law_293 : decode cL_law 293 = .ok (.aload_n 0, 1) := by decide +kernel
theorem dL_law_294 : decode cL_law 294 = .ok (.iload_n 3, 1) := by decide +kernel
theorem dL_law_295 : decode cL_law 295 = .ok (.iconst 1, 1) := by decide +kernel
theorem dL_law_296 : decode cL_law 296 = .ok (.iadd, 1) := by decide +kernel
theorem dL_law_297 : decode cL_law 297 = .ok (.iaload, 1) := by decide +kernel
theorem dL_law_298 : decode cL_law 298 = .ok (.aload_n 0, 1) := by decide +kernel
theorem dL_law_299 : decode cL_law 299 = .ok (.iload_n 3, 1) := by decide +kernel
theorem dL_law_300 : decode cL_law 300 = .ok (.iconst 2, 1) := by decide +kernel
theorem dL_law_301 : decode cL_law 301 = .ok (.iadd, 1) := by decide +kernel
theorem dL_law_302 : decode cL_law 302 = .ok (.iaload, 1) := by decide +kernel
theorem dL_law_303 : decode cL_law 303 = .ok (.invokevirtual 36, 3) := by decide +kernel
theorem dL_law_306 : decode cL_law 306 = .ok (.if_icmp .eq 428, 3) := by decide +kernel
theorem dL_law_309 : decode cL_law 309 = .ok (.iconst 0, 1) := by decide +kernel
theorem dL_law_310 : decode cL_law 310 = .ok (.ireturn, 1) := by decide +kernel
theorem dL_law_311 : decode cL_law 311 = .ok (.aload_n 1, 1) := by decide +kernel
theorem dL_law_312 : decode cL_law 312 = .ok (.aload_n 0, 1) := by decide +kernel
theorem dL_law_313 : decode cL_law 313 = .ok (.iload_n 3, 1) := by decide +kernel
theorem dL_law_314 : decode cL_law 314 = .ok (.iconst 1, 1) := by decide +kernel
theorem dL_law_315 : decode cL_law 315 = .ok (.iadd, 1) := by decide +kernel
theorem dL_law_316 : decode cL_law 316 = .ok (.iaload, 1) := by decide +kernel
theorem dL_law_317 : decode cL_law 317 = .ok (.aload_n 0, 1) := by decide +kernel
theorem dL_law_318 : decode cL_law 318 = .ok (.iload_n 3, 1) := by decide +kernel
theorem dL_law_319 : decode cL_law 319 = .ok (.iconst 2, 1) := by decide +kernel
theorem dL_law_320 : decode cL_law 320 = .ok (.iadd, 1) := by decide +kernel
theorem dL_law_321 : decode cL_law 321 = .ok (.iaload, 1) := by decide +kernel
theorem dL_law_322 : decode cL_law 322 = .ok (.invokevirtual 37, 3) := by decide +kernel
theorem dL_law_325 : decode cL_law 325 = .ok (.aload_n 2, 1) := by decide +kernel
theorem dL_law_326 : decode cL_law 326 = .ok (.aload_n 0, 1) := by decide +kernel
theorem dL_law_327 : decode cL_law 327 = .ok (.iload_n 3, 1) := by decide +kernel
theorem dL_law_328 : decode cL_law 328 = .ok (.iconst 1, 1) := by decide +kernel
theorem dL_law_329 : decode cL_law 329 = .ok (.iadd, 1) := by decide +kernel
theorem dL_law_330 : decode cL_law 330 = .ok (.iaload, 1) := by decide +kernel
theorem dL_law_331 : decode cL_law 331 = .ok (.aload_n 0, 1) := by decide +kernel
theorem dL_law_332 : decode cL_law 332 = .ok (.iload_n 3, 1) := by decide +kernel
theorem dL_law_333 : decode cL_law 333 = .ok (.iconst 2, 1) := by decide +kernel
theorem dL_law_334 : decode cL_law 334 = .ok (.iadd, 1) := by decide +kernel
theorem dL_law_335 : decode cL_law 335 = .ok (.iaload, 1) := by decide +kernel
theorem dL_law_336 : decode cL_law 336 = .ok (.invokevirtual 40, 3) := by decide +kernel
theorem dL_law_339 : decode cL_law 339 = .ok (.if_icmp .eq 395, 3) := by decide +kernel
theorem dL_law_342 : decode cL_law 342 = .ok (.iconst 0, 1) := by decide +kernel
theorem dL_law_343 : decode cL_law 343 = .ok (.ireturn, 1) := by decide +kernel
theorem dL_law_344 : decode cL_law 344 = .ok (.aload_n 1, 1) := by decide +kernel
theorem dL_law_345 : decode cL_law 345 = .ok (.aload_n 0, 1) := by decide +kernel
theorem dL_law_346 : decode cL_law 346 = .ok (.iload_n 3, 1) := by decide +kernel
theorem dL_law_347 : decode cL_law 347 = .ok (.iconst 1, 1) := by decide +kernel
theorem dL_law_348 : decode cL_law 348 = .ok (.iadd, 1) := by decide +kernel
theorem dL_law_349 : decode cL_law 349 = .ok (.iaload, 1) := by decide +kernel
theorem dL_law_350 : decode cL_law 350 = .ok (.invokevirtual 41, 3) := by decide +kernel
theorem dL_law_353 : decode cL_law 353 = .ok (.aload_n 2, 1) := by decide +kernel
theorem dL_law_354 : decode cL_law 354 = .ok (.aload_n 0, 1) := by decide +kernel
theorem dL_law_355 : decode cL_law 355 = .ok (.iload_n 3, 1) := by decide +kernel
theorem dL_law_356 : decode cL_law 356 = .ok (.iconst 1, 1) := by decide +kernel
theorem dL_law_357 : decode cL_law 357 = .ok (.iadd, 1) := by decide +kernel
theorem dL_law_358 : decode cL_law 358 = .ok (.iaload, 1) := by decide +kernel
theorem dL_law_359 : decode cL_law 359 = .ok (.invokevirtual 45, 3) := by decide +kernel
theorem dL_law_362 : decode cL_law 362 = .ok (.if_icmp .eq 372, 3) := by decide +kernel
theorem dL_law_365 : decode cL_law 365 = .ok (.iconst 0, 1) := by decide +kernel
theorem dL_law_366 : decode cL_law 366 = .ok (.ireturn, 1) := by decide +kernel
theorem dL_law_367 : decode cL_law 367 = .ok (.aload_n 1, 1) := by decide +kernel
theorem dL_law_368 : decode cL_law 368 = .ok (.aload_n 0, 1) := by decide +kernel
theorem dL_law_369 : decode cL_law 369 = .ok (.iload_n 3, 1) := by decide +kernel
theorem dL_law_370 : decode cL_law 370 = .ok (.iconst 1, 1) := by decide +kernel
theorem dL_law_371 : decode cL_law 371 = .ok (.iadd, 1) := by decide +kernel
theorem dL_law_372 : decode cL_law 372 = .ok (.iaload, 1) := by decide +kernel
theorem dL_law_373 : decode cL_law 373 = .ok (.aload_n 0, 1) := by decide +kernel
theorem dL_law_374 : decode cL_law 374 = .ok (.iload_n 3, 1) := by decide +kernel
theorem dL_law_375 : decode cL_law 375 = .ok (.iconst 2, 1) := by decide +kernel
theorem dL_law_376 : decode cL_law 376 = .ok (.iadd, 1) := by decide +kernel
theorem dL_law_377 : decode cL_law 377 = .ok (.iaload, 1) := by decide +kernel
theorem dL_law_378 : decode cL_law 378 = .ok (.invokevirtual 46, 3) := by decide +kernel
theorem dL_law_381 : decode cL_law 381 = .ok (.aload_n 2, 1) := by decide +kernel
theorem dL_law_382 : decode cL_law 382 = .ok (.aload_n 0, 1) := by decide +kernel
theorem dL_law_383 : decode cL_law 383 = .ok (.iload_n 3, 1) := by decide +kernel
theorem dL_law_384 : decode cL_law 384 = .ok (.iconst 1, 1) := by decide +kernel
theorem dL_law_385 : decode cL_law 385 = .ok (.iadd, 1) := by decide +kernel
theorem dL_law_386 : decode cL_law 386 = .ok (.iaload, 1) := by decide +kernel
theorem dL_law_387 : decode cL_law 387 = .ok (.aload_n 0, 1) := by decide +kernel
theorem dL_law_388 : decode cL_law 388 = .ok (.iload_n 3, 1) := by decide +kernel
theorem dL_law_389 : decode cL_law 389 = .ok (.iconst 2, 1) := by decide +kernel
theorem dL_law_390 : decode cL_law 390 = .ok (.iadd, 1) := by decide +kernel
theorem dL_law_391 : decode cL_law 391 = .ok (.iaload, 1) := by decide +kernel
theorem dL_law_392 : decode cL_law 392 = .ok (.invokevirtual 49, 3) := by decide +kernel
theorem dL_law_395 : decode cL_law 395 = .ok (.if_icmp .eq 339, 3) := by decide +kernel
theorem dL_law_398 : decode cL_law 398 = .ok (.iconst 0, 1) := by decide +kernel
theorem dL_law_399 : decode cL_law 399 = .ok (.ireturn, 1) := by decide +kernel
theorem dL_law_400 : decode cL_law 400 = .ok (.aload_n 1, 1) := by decide +kernel
theorem dL_law_401 : decode cL_law 401 = .ok (.aload_n 0, 1) := by decide +kernel
theorem dL_law_402 : decode cL_law 402 = .ok (.iload_n 3, 1) := by decide +kernel
theorem dL_law_403 : decode cL_law 403 = .ok (.iconst 1, 1) := by decide +kernel
theorem dL_law_404 : decode cL_law 404 = .ok (.iadd, 1) := by decide +kernel
theorem dL_law_405 : decode cL_law 405 = .ok (.iaload, 1) := by decide +kernel
theorem dL_law_406 : decode cL_law 406 = .ok (.invokevirtual 50, 3) := by decide +kernel
theorem dL_law_409 : decode cL_law 409 = .ok (.aload_n 2, 1) := by decide +kernel
theorem dL_law_410 : decode cL_law 410 = .ok (.aload_n 0, 1) := by decide +kernel
theorem dL_law_411 : decode cL_law 411 = .ok (.iload_n 3, 1) := by decide +kernel
theorem dL_law_412 : decode cL_law 412 = .ok (.iconst 1, 1) := by decide +kernel
theorem dL_law_413 : decode cL_law 413 = .ok (.iadd, 1) := by decide +kernel
theorem dL_law_414 : decode cL_law 414 = .ok (.iaload, 1) := by decide +kernel
theorem dL_law_415 : decode cL_law 415 = .ok (.invokevirtual 53, 3) := by decide +kernel
theorem dL_law_418 : decode cL_law 418 = .ok (.if_icmp .eq 316, 3) := by decide +kernel
theorem dL_law_421 : decode cL_law 421 = .ok (.iconst 0, 1) := by decide +kernel
theorem dL_law_422 : decode cL_law 422 = .ok (.ireturn, 1) := by decide +kernel
theorem dL_law_423 : decode cL_law 423 = .ok (.aload_n 1, 1) := by decide +kernel
theorem dL_law_424 : decode cL_law 424 = .ok (.aload_n 0, 1) := by decide +kernel
theorem dL_law_425 : decode cL_law 425 = .ok (.iload_n 3, 1) := by decide +kernel
theorem dL_law_426 : decode cL_law 426 = .ok (.iconst 1, 1) := by decide +kernel
theorem dL_law_427 : decode cL_law 427 = .ok (.iadd, 1) := by decide +kernel
theorem dL_law_428 : decode cL_law 428 = .ok (.iaload, 1) := by decide +kernel
theorem dL_law_429 : decode cL_law 429 = .ok (.invokevirtual 54, 3) := by decide +kernel
theorem dL_law_432 : decode cL_law 432 = .ok (.aload_n 2, 1) := by decide +kernel
theorem dL_law_433 : decode cL_law 433 = .ok (.aload_n 0, 1) := by decide +kernel
theorem dL_law_434 : decode cL_law 434 = .ok (.iload_n 3, 1) := by decide +kernel
theorem dL_law_435 : decode cL_law 435 = .ok (.iconst 1, 1) := by decide +kernel
theorem dL_law_436 : decode cL_law 436 = .ok (.iadd, 1) := by decide +kernel
theorem dL_law_437 : decode cL_law 437 = .ok (.iaload, 1) := by decide +kernel
theorem dL_law_438 : decode cL_law 438 = .ok (.invokevirtual 57, 3) := by decide +kernel
theorem dL_law_441 : decode cL_law 441 = .ok (.if_icmp .eq 293, 3) := by decide +kernel
theorem dL_law_444 : decode cL_law 444 = .ok (.iconst 0, 1) := by decide +kernel
theorem dL_law_445 : decode cL_law 445 = .ok (.ireturn, 1) := by decide +kernel
theorem dL_law_446 : decode cL_law 446 = .ok (.aload_n 1, 1) := by decide +kernel
theorem dL_law_447 : decode cL_law 447 = .ok (.aload_n 0, 1) := by decide +kernel
theorem dL_law_448 : decode cL_law 448 = .ok (.iload_n 3, 1) := by decide +kernel
theorem dL_law_449 : decode cL_law 449 = .ok (.iconst 1, 1) := by decide +kernel
theorem dL_law_450 : decode cL_law 450 = .ok (.iadd, 1) := by decide +kernel
theorem dL_law_451 : decode cL_law 451 = .ok (.iaload, 1) := by decide +kernel
theorem dL_law_452 : decode cL_law 452 = .ok (.i2c, 1) := by decide +kernel
theorem dL_law_453 : decode cL_law 453 = .ok (.invokevirtual 58, 3) := by decide +kernel
theorem dL_law_456 : decode cL_law 456 = .ok (.aload_n 2, 1) := by decide +kernel
theorem dL_law_457 : decode cL_law 457 = .ok (.aload_n 0, 1) := by decide +kernel
theorem dL_law_458 : decode cL_law 458 = .ok (.iload_n 3, 1) := by decide +kernel
theorem dL_law_459 : decode cL_law 459 = .ok (.iconst 1, 1) := by decide +kernel
theorem dL_law_460 : decode cL_law 460 = .ok (.iadd, 1) := by decide +kernel
theorem dL_law_461 : decode cL_law 461 = .ok (.iaload, 1) := by decide +kernel
theorem dL_law_462 : decode cL_law 462 = .ok (.i2c, 1) := by decide +kernel
theorem dL_law_463 : decode cL_law 463 = .ok (.invokevirtual 62, 3) := by decide +kernel
theorem dL_law_466 : decode cL_law 466 = .ok (.if_icmp .eq 268, 3) := by decide +kernel
theorem dL_law_469 : decode cL_law 469 = .ok (.iconst 0, 1) := by decide +kernel
theorem dL_law_470 : decode cL_law 470 = .ok (.ireturn, 1) := by decide +kernel
theorem dL_law_471 : decode cL_law 471 = .ok (.aload_n 1, 1) := by decide +kernel
theorem dL_law_472 : decode cL_law 472 = .ok (.invokevirtual 63, 3) := by decide +kernel
theorem dL_law_475 : decode cL_law 475 = .ok (.aload_n 2, 1) := by decide +kernel
theorem dL_law_476 : decode cL_law 476 = .ok (.invokevirtual 66, 3) := by decide +kernel
theorem dL_law_479 : decode cL_law 479 = .ok (.if_icmp .eq 255, 3) := by decide +kernel
theorem dL_law_482 : decode cL_law 482 = .ok (.iconst 0, 1) := by decide +kernel
theorem dL_law_483 : decode cL_law 483 = .ok (.ireturn, 1) := by decide +kernel
theorem dL_law_484 : decode cL_law 484 = .ok (.aload_n 1, 1) := by decide +kernel
theorem dL_law_485 : decode cL_law 485 = .ok (.invokevirtual 67, 3) := by decide +kernel
theorem dL_law_488 : decode cL_law 488 = .ok (.aload_n 2, 1) := by decide +kernel
theorem dL_law_489 : decode cL_law 489 = .ok (.invokevirtual 70, 3) := by decide +kernel
theorem dL_law_492 : decode cL_law 492 = .ok (.if_icmp .eq 242, 3) := by decide +kernel
theorem dL_law_495 : decode cL_law 495 = .ok (.iconst 0, 1) := by decide +kernel
theorem dL_law_496 : decode cL_law 496 = .ok (.ireturn, 1) := by decide +kernel
theorem dL_law_497 : decode cL_law 497 = .ok (.aload_n 1, 1) := by decide +kernel
theorem dL_law_498 : decode cL_law 498 = .ok (.invokevirtual 71, 3) := by decide +kernel
theorem dL_law_501 : decode cL_law 501 = .ok (.aload_n 2, 1) := by decide +kernel
theorem dL_law_502 : decode cL_law 502 = .ok (.invokevirtual 74, 3) := by decide +kernel
theorem dL_law_505 : decode cL_law 505 = .ok (.if_icmp .eq 229, 3) := by decide +kernel
theorem dL_law_508 : decode cL_law 508 = .ok (.iconst 0, 1) := by decide +kernel
theorem dL_law_509 : decode cL_law 509 = .ok (.ireturn, 1) := by decide +kernel
theorem dL_law_510 : decode cL_law 510 = .ok (.aload_n 1, 1) := by decide +kernel
theorem dL_law_511 : decode cL_law 511 = .ok (.invokevirtual 75, 3) := by decide +kernel
theorem dL_law_514 : decode cL_law 514 = .ok (.aload_n 2, 1) := by decide +kernel
theorem dL_law_515 : decode cL_law 515 = .ok (.invokevirtual 78, 3) := by decide +kernel
theorem dL_law_518 : decode cL_law 518 = .ok (.if_icmp .eq 216, 3) := by decide +kernel
theorem dL_law_521 : decode cL_law 521 = .ok (.iconst 0, 1) := by decide +kernel
theorem dL_law_522 : decode cL_law 522 = .ok (.ireturn, 1) := by decide +kernel
theorem dL_law_523 : decode cL_law 523 = .ok (.aload_n 1, 1) := by decide +kernel
theorem dL_law_524 : decode cL_law 524 = .ok (.aload_n 0, 1) := by decide +kernel
theorem dL_law_525 : decode cL_law 525 = .ok (.iload_n 3, 1) := by decide +kernel
theorem dL_law_526 : decode cL_law 526 = .ok (.iconst 1, 1) := by decide +kernel
theorem dL_law_527 : decode cL_law 527 = .ok (.iadd, 1) := by decide +kernel
theorem dL_law_528 : decode cL_law 528 = .ok (.iaload, 1) := by decide +kernel
theorem dL_law_529 : decode cL_law 529 = .ok (.aload_n 0, 1) := by decide +kernel
theorem dL_law_530 : decode cL_law 530 = .ok (.iload_n 3, 1) := by decide +kernel
theorem dL_law_531 : decode cL_law 531 = .ok (.iconst 2, 1) := by decide +kernel
theorem dL_law_532 : decode cL_law 532 = .ok (.iadd, 1) := by decide +kernel
theorem dL_law_533 : decode cL_law 533 = .ok (.iaload, 1) := by decide +kernel
theorem dL_law_534 : decode cL_law 534 = .ok (.invokevirtual 79, 3) := by decide +kernel
theorem dL_law_537 : decode cL_law 537 = .ok (.aload_n 2, 1) := by decide +kernel
theorem dL_law_538 : decode cL_law 538 = .ok (.aload_n 0, 1) := by decide +kernel
theorem dL_law_539 : decode cL_law 539 = .ok (.iload_n 3, 1) := by decide +kernel
theorem dL_law_540 : decode cL_law 540 = .ok (.iconst 1, 1) := by decide +kernel
theorem dL_law_541 : decode cL_law 541 = .ok (.iadd, 1) := by decide +kernel
theorem dL_law_542 : decode cL_law 542 = .ok (.iaload, 1) := by decide +kernel
theorem dL_law_543 : decode cL_law 543 = .ok (.aload_n 0, 1) := by decide +kernel
theorem dL_law_544 : decode cL_law 544 = .ok (.iload_n 3, 1) := by decide +kernel
theorem dL_law_545 : decode cL_law 545 = .ok (.iconst 2, 1) := by decide +kernel
theorem dL_law_546 : decode cL_law 546 = .ok (.iadd, 1) := by decide +kernel
theorem dL_law_547 : decode cL_law 547 = .ok (.iaload, 1) := by decide +kernel
theorem dL_law_548 : decode cL_law 548 = .ok (.invokevirtual 82, 3) := by decide +kernel
theorem dL_law_551 : decode cL_law 551 = .ok (.if_icmp .eq 183, 3) := by decide +kernel
theorem dL_law_554 : decode cL_law 554 = .ok (.iconst 0, 1) := by decide +kernel
theorem dL_law_555 : decode cL_law 555 = .ok (.ireturn, 1) := by decide +kernel
theorem dL_law_556 : decode cL_law 556 = .ok (.aload_n 1, 1) := by decide +kernel
theorem dL_law_557 : decode cL_law 557 = .ok (.aload_n 0, 1) := by decide +kernel
theorem dL_law_558 : decode cL_law 558 = .ok (.iload_n 3, 1) := by decide +kernel
theorem dL_law_559 : decode cL_law 559 = .ok (.iconst 1, 1) := by decide +kernel
theorem dL_law_560 : decode cL_law 560 = .ok (.iadd, 1) := by decide +kernel
theorem dL_law_561 : decode cL_law 561 = .ok (.iaload, 1) := by decide +kernel
theorem dL_law_562 : decode cL_law 562 = .ok (.aload_n 0, 1) := by decide +kernel
theorem dL_law_563 : decode cL_law 563 = .ok (.iload_n 3, 1) := by decide +kernel
theorem dL_law_564 : decode cL_law 564 = .ok (.iconst 2, 1) := by decide +kernel
theorem dL_law_565 : decode cL_law 565 = .ok (.iadd, 1) := by decide +kernel
theorem dL_law_566 : decode cL_law 566 = .ok (.iaload, 1) := by decide +kernel
theorem dL_law_567 : decode cL_law 567 = .ok (.aload_n 0, 1) := by decide +kernel
theorem dL_law_568 : decode cL_law 568 = .ok (.iload_n 3, 1) := by decide +kernel
theorem dL_law_569 : decode cL_law 569 = .ok (.iconst 3, 1) := by decide +kernel
theorem dL_law_570 : decode cL_law 570 = .ok (.iadd, 1) := by decide +kernel
theorem dL_law_571 : decode cL_law 571 = .ok (.iaload, 1) := by decide +kernel
theorem dL_law_572 : decode cL_law 572 = .ok (.invokevirtual 83, 3) := by decide +kernel
theorem dL_law_575 : decode cL_law 575 = .ok (.aload_n 2, 1) := by decide +kernel
theorem dL_law_576 : decode cL_law 576 = .ok (.aload_n 0, 1) := by decide +kernel
theorem dL_law_577 : decode cL_law 577 = .ok (.iload_n 3, 1) := by decide +kernel
theorem dL_law_578 : decode cL_law 578 = .ok (.iconst 1, 1) := by decide +kernel
theorem dL_law_579 : decode cL_law 579 = .ok (.iadd, 1) := by decide +kernel
theorem dL_law_580 : decode cL_law 580 = .ok (.iaload, 1) := by decide +kernel
theorem dL_law_581 : decode cL_law 581 = .ok (.aload_n 0, 1) := by decide +kernel
theorem dL_law_582 : decode cL_law 582 = .ok (.iload_n 3, 1) := by decide +kernel
theorem dL_law_583 : decode cL_law 583 = .ok (.iconst 2, 1) := by decide +kernel
theorem dL_law_584 : decode cL_law 584 = .ok (.iadd, 1) := by decide +kernel
theorem dL_law_585 : decode cL_law 585 = .ok (.iaload, 1) := by decide +kernel
theorem dL_law_586 : decode cL_law 586 = .ok (.aload_n 0, 1) := by decide +kernel
theorem dL_law_587 : decode cL_law 587 = .ok (.iload_n 3, 1) := by decide +kernel
theorem dL_law_588 : decode cL_law 588 = .ok (.iconst 3, 1) := by decide +kernel
theorem dL_law_589 : decode cL_law 589 = .ok (.iadd, 1) := by decide +kernel
theorem dL_law_590 : decode cL_law 590 = .ok (.iaload, 1) := by decide +kernel
theorem dL_law_591 : decode cL_law 591 = .ok (.invokevirtual 86, 3) := by decide +kernel
theorem dL_law_594 : decode cL_law 594 = .ok (.if_icmp .eq 140, 3) := by decide +kernel
theorem dL_law_597 : decode cL_law 597 = .ok (.iconst 0, 1) := by decide +kernel
theorem dL_law_598 : decode cL_law 598 = .ok (.ireturn, 1) := by decide +kernel
theorem dL_law_599 : decode cL_law 599 = .ok (.aload_n 1, 1) := by decide +kernel
theorem dL_law_600 : decode cL_law 600 = .ok (.aload_n 0, 1) := by decide +kernel
theorem dL_law_601 : decode cL_law 601 = .ok (.iload_n 3, 1) := by decide +kernel
theorem dL_law_602 : decode cL_law 602 = .ok (.iconst 1, 1) := by decide +kernel
theorem dL_law_603 : decode cL_law 603 = .ok (.iadd, 1) := by decide +kernel
theorem dL_law_604 : decode cL_law 604 = .ok (.iaload, 1) := by decide +kernel
theorem dL_law_605 : decode cL_law 605 = .ok (.aload_n 0, 1) := by decide +kernel
theorem dL_law_606 : decode cL_law 606 = .ok (.iload_n 3, 1) := by decide +kernel
theorem dL_law_607 : decode cL_law 607 = .ok (.iconst 2, 1) := by decide +kernel
theorem dL_law_608 : decode cL_law 608 = .ok (.iadd, 1) := by decide +kernel
theorem dL_law_609 : decode cL_law 609 = .ok (.iaload, 1) := by decide +kernel
theorem dL_law_610 : decode cL_law 610 = .ok (.invokevirtual 87, 3) := by decide +kernel
theorem dL_law_613 : decode cL_law 613 = .ok (.aload_n 2, 1) := by decide +kernel
theorem dL_law_614 : decode cL_law 614 = .ok (.aload_n 0, 1) := by decide +kernel
theorem dL_law_615 : decode cL_law 615 = .ok (.iload_n 3, 1) := by decide +kernel
theorem dL_law_616 : decode cL_law 616 = .ok (.iconst 1, 1) := by decide +kernel
theorem dL_law_617 : decode cL_law 617 = .ok (.iadd, 1) := by decide +kernel
theorem dL_law_618 : decode cL_law 618 = .ok (.iaload, 1) := by decide +kernel
theorem dL_law_619 : decode cL_law 619 = .ok (.aload_n 0, 1) := by decide +kernel
theorem dL_law_620 : decode cL_law 620 = .ok (.iload_n 3, 1) := by decide +kernel
theorem dL_law_621 : decode cL_law 621 = .ok (.iconst 2, 1) := by decide +kernel
theorem dL_law_622 : decode cL_law 622 = .ok (.iadd, 1) := by decide +kernel
theorem dL_law_623 : decode cL_law 623 = .ok (.iaload, 1) := by decide +kernel
theorem dL_law_624 : decode cL_law 624 = .ok (.invokevirtual 90, 3) := by decide +kernel
theorem dL_law_627 : decode cL_law 627 = .ok (.if_icmp .eq 107, 3) := by decide +kernel
theorem dL_law_630 : decode cL_law 630 = .ok (.iconst 0, 1) := by decide +kernel
theorem dL_law_631 : decode cL_law 631 = .ok (.ireturn, 1) := by decide +kernel
theorem dL_law_632 : decode cL_law 632 = .ok (.aload_n 1, 1) := by decide +kernel
theorem dL_law_633 : decode cL_law 633 = .ok (.aload_n 0, 1) := by decide +kernel
theorem dL_law_634 : decode cL_law 634 = .ok (.iload_n 3, 1) := by decide +kernel
theorem dL_law_635 : decode cL_law 635 = .ok (.iconst 1, 1) := by decide +kernel
theorem dL_law_636 : decode cL_law 636 = .ok (.iadd, 1) := by decide +kernel
theorem dL_law_637 : decode cL_law 637 = .ok (.iaload, 1) := by decide +kernel
theorem dL_law_638 : decode cL_law 638 = .ok (.aload_n 0, 1) := by decide +kernel
theorem dL_law_639 : decode cL_law 639 = .ok (.iload_n 3, 1) := by decide +kernel
theorem dL_law_640 : decode cL_law 640 = .ok (.iconst 2, 1) := by decide +kernel
theorem dL_law_641 : decode cL_law 641 = .ok (.iadd, 1) := by decide +kernel
theorem dL_law_642 : decode cL_law 642 = .ok (.iaload, 1) := by decide +kernel
theorem dL_law_643 : decode cL_law 643 = .ok (.invokevirtual 91, 3) := by decide +kernel
theorem dL_law_646 : decode cL_law 646 = .ok (.aload_n 2, 1) := by decide +kernel
theorem dL_law_647 : decode cL_law 647 = .ok (.aload_n 0, 1) := by decide +kernel
theorem dL_law_648 : decode cL_law 648 = .ok (.iload_n 3, 1) := by decide +kernel
theorem dL_law_649 : decode cL_law 649 = .ok (.iconst 1, 1) := by decide +kernel
theorem dL_law_650 : decode cL_law 650 = .ok (.iadd, 1) := by decide +kernel
theorem dL_law_651 : decode cL_law 651 = .ok (.iaload, 1) := by decide +kernel
theorem dL_law_652 : decode cL_law 652 = .ok (.aload_n 0, 1) := by decide +kernel
theorem dL_law_653 : decode cL_law 653 = .ok (.iload_n 3, 1) := by decide +kernel
theorem dL_law_654 : decode cL_law 654 = .ok (.iconst 2, 1) := by decide +kernel
theorem dL_law_655 : decode cL_law 655 = .ok (.iadd, 1) := by decide +kernel
theorem dL_law_656 : decode cL_law 656 = .ok (.iaload, 1) := by decide +kernel
theorem dL_law_657 : decode cL_law 657 = .ok (.invokevirtual 94, 3) := by decide +kernel
theorem dL_law_660 : decode cL_law 660 = .ok (.if_icmp .eq 74, 3) := by decide +kernel
theorem dL_law_663 : decode cL_law 663 = .ok (.iconst 0, 1) := by decide +kernel
theorem dL_law_664 : decode cL_law 664 = .ok (.ireturn, 1) := by decide +kernel
theorem dL_law_665 : decode cL_law 665 = .ok (.aload_n 1, 1) := by decide +kernel
theorem dL_law_666 : decode cL_law 666 = .ok (.aload_n 0, 1) := by decide +kernel
theorem dL_law_667 : decode cL_law 667 = .ok (.iload_n 3, 1) := by decide +kernel
theorem dL_law_668 : decode cL_law 668 = .ok (.iconst 1, 1) := by decide +kernel
theorem dL_law_669 : decode cL_law 669 = .ok (.iadd, 1) := by decide +kernel
theorem dL_law_670 : decode cL_law 670 = .ok (.iaload, 1) := by decide +kernel
theorem dL_law_671 : decode cL_law 671 = .ok (.aload_n 0, 1) := by decide +kernel
theorem dL_law_672 : decode cL_law 672 = .ok (.iload_n 3, 1) := by decide +kernel
theorem dL_law_673 : decode cL_law 673 = .ok (.iconst 2, 1) := by decide +kernel
theorem dL_law_674 : decode cL_law 674 = .ok (.iadd, 1) := by decide +kernel
theorem dL_law_675 : decode cL_law 675 = .ok (.iaload, 1) := by decide +kernel
theorem dL_law_676 : decode cL_law 676 = .ok (.invokevirtual 95, 3) := by decide +kernel
theorem dL_law_679 : decode cL_law 679 = .ok (.aload_n 2, 1) := by decide +kernel
theorem dL_law_680 : decode cL_law 680 = .ok (.aload_n 0, 1) := by decide +kernel
theorem dL_law_681 : decode cL_law 681 = .ok (.iload_n 3, 1) := by decide +kernel
theorem dL_law_682 : decode cL_law 682 = .ok (.iconst 1, 1) := by decide +kernel
theorem dL_law_683 : decode cL_law 683 = .ok (.iadd, 1) := by decide +kernel
theorem dL_law_684 : decode cL_law 684 = .ok (.iaload, 1) := by decide +kernel
theorem dL_law_685 : decode cL_law 685 = .ok (.aload_n 0, 1) := by decide +kernel
theorem dL_law_686 : decode cL_law 686 = .ok (.iload_n 3, 1) := by decide +kernel
theorem dL_law_687 : decode cL_law 687 = .ok (.iconst 2, 1) := by decide +kernel
theorem dL_law_688 : decode cL_law 688 = .ok (.iadd, 1) := by decide +kernel
theorem dL_law_689 : decode cL_law 689 = .ok (.iaload, 1) := by decide +kernel
theorem dL_law_690 : decode cL_law 690 = .ok (.invokevirtual 98, 3) := by decide +kernel
theorem dL_law_693 : decode cL_law 693 = .ok (.if_icmp .eq 41, 3) := by decide +kernel
theorem dL_law_696 : decode cL_law 696 = .ok (.iconst 0, 1) := by decide +kernel
theorem dL_law_697 : decode cL_law 697 = .ok (.ireturn, 1) := by decide +kernel
theorem dL_law_698 : decode cL_law 698 = .ok (.aload_n 1, 1) := by decide +kernel
theorem dL_law_699 : decode cL_law 699 = .ok (.invokevirtual 99, 3) := by decide +kernel
theorem dL_law_702 : decode cL_law 702 = .ok (.aload_n 2, 1) := by decide +kernel
theorem dL_law_703 : decode cL_law 703 = .ok (.invokevirtual 102, 3) := by decide +kernel
theorem dL_law_706 : decode cL_law 706 = .ok (.if_icmp .eq 28, 3) := by decide +kernel
theorem dL_law_709 : decode cL_law 709 = .ok (.iconst 0, 1) := by decide +kernel
theorem dL_law_710 : decode cL_law 710 = .ok (.ireturn, 1) := by decide +kernel
theorem dL_law_711 : decode cL_law 711 = .ok (.aload_n 1, 1) := by decide +kernel
theorem dL_law_712 : decode cL_law 712 = .ok (.aload_n 0, 1) := by decide +kernel
theorem dL_law_713 : decode cL_law 713 = .ok (.iload_n 3, 1) := by decide +kernel
theorem dL_law_714 : decode cL_law 714 = .ok (.iconst 1, 1) := by decide +kernel
theorem dL_law_715 : decode cL_law 715 = .ok (.iadd, 1) := by decide +kernel
theorem dL_law_716 : decode cL_law 716 = .ok (.iaload, 1) := by decide +kernel
theorem dL_law_717 : decode cL_law 717 = .ok (.invokevirtual 103, 3) := by decide +kernel
theorem dL_law_720 : decode cL_law 720 = .ok (.aload_n 2, 1) := by decide +kernel
theorem dL_law_721 : decode cL_law 721 = .ok (.aload_n 0, 1) := by decide +kernel
theorem dL_law_722 : decode cL_law 722 = .ok (.iload_n 3, 1) := by decide +kernel
theorem dL_law_723 : decode cL_law 723 = .ok (.iconst 1, 1) := by decide +kernel
theorem dL_law_724 : decode cL_law 724 = .ok (.iadd, 1) := by decide +kernel
theorem dL_law_725 : decode cL_law 725 = .ok (.iaload, 1) := by decide +kernel
theorem dL_law_726 : decode cL_law 726 = .ok (.invokevirtual 106, 3) := by decide +kernel
theorem dL_law_729 : decode cL_law 729 = .ok (.if_icmp .eq 5, 3) := by decide +kernel
theorem dL_law_732 : decode cL_law 732 = .ok (.iconst 0, 1) := by decide +kernel
theorem dL_law_733 : decode cL_law 733 = .ok (.ireturn, 1) := by decide +kernel
theorem dL_law_734 : decode cL_law 734 = .ok (.iinc 3 5, 3) := by decide +kernel
theorem dL_law_737 : decode cL_law 737 = .ok (.goto (-719), 3) := by decide +kernel
theorem dL_law_740 : decode cL_law 740 = .ok (.iconst 1, 1) := by decide +kernel
theorem dL_law_741 : decode cL_law 741 = .ok (.ireturn, 1) := by decide +kernel
end
section
/-! THE HAND BASE: flat memory, layouts of cells, worlds, and the judgement 'ww' over them -/
abbrev hb_Mem : Type := Nat → Nat → Int32
/-- how many cells; the kind of each; the cell that a slot refers to; an array's length -/
abbrev hb_Lay : Type := Nat × (Nat → Nat) × (Nat → Nat → Nat) × (Nat → Nat)
/-- the classes' numbers; the array classes of int and of the states; the addresses -/
abbrev hb_Gam : Type := va_G × ClassId × ClassId × (Nat → Nat)
def hb_nf (c : Nat) : Nat := match c with
  | 0 => 3
  | 1 => 1
  | 2 => 11
  | 3 => 12
  | 4 => 9
  | 5 => 7
  | _ => 20
/-- whether slot j of an object of class c holds a reference -/
def hb_rf (c j : Nat) : Bool := match c with
  | 0 => j == 0
  | 1 => true
  | 2 => decide (1 ≤ j) && decide (j ≤ 9)
  | 3 => (decide (3 ≤ j) && decide (j ≤ 7)) || j == 11
  | 4 => j == 0 || decide (5 ≤ j)
  | 5 => j != 3
  | _ => j == 0 || j == 1 || j == 3 || j == 5 || (decide (7 ≤ j) && decide (j ≤ 10)) || (decide (12 ≤ j) && decide (j ≤ 14)) || j == 18
def hb_fs (Λ : hb_Lay) (ad : Nat → Nat) (σ : hb_Mem) (k : Nat) : List Value := (List.range (hb_nf (Λ.2.1 k))).map (fun j => if hb_rf (Λ.2.1 k) j = true then .ref (ad (Λ.2.2.1 k j)) else .int (σ k j))
def hb_cell (Λ : hb_Lay) (G : hb_Gam) (σ : hb_Mem) (k : Nat) : va_E :=
  if Λ.2.1 k = 7 then .inl (G.2.1, Λ.2.2.2 k, .inl (σ k)) else if Λ.2.1 k = 8 then .inl (G.2.2.1, Λ.2.2.2 k, .inr (.inr (.inr (.inr (fun j => some (G.2.2.2 (Λ.2.2.1 k j))))))) else .inr (Λ.2.1 k, hb_fs Λ G.2.2.2 σ k)
def hb_wL (Λ : hb_Lay) (G : hb_Gam) (σ : hb_Mem) : va_W := (List.range Λ.1).map (fun k => (G.2.2.2 k, hb_cell Λ G σ k))
def hb_up (σ : hb_Mem) (k j : Nat) (v : Int32) : hb_Mem := fun k' => if k' = k then upd (σ k) j v else σ k'
/-- the cells of the world -/
def hb_AA (Λ : hb_Lay) (G : hb_Gam) : Nat → Prop := fun q => ∃ k, k < Λ.1 ∧ q = G.2.2.2 k
abbrev hb_tys (G : hb_Gam) : List (ClassId × FieldType) := [(G.2.1, .int), (G.2.2.1, .object "PathBook$State")]
def hb_isNest : Cond → Bool
  | .methodLinkNest .. => true
  | .fieldLinkNest .. => true
  | _ => false
/-- all words of the tables -/
def hb_TB (U : State) : Prop := ∀ w ∈ lw_tbl, (goodWord w || hb_isNest w) = true → ∀ a : Array Value, w.before a U = true
theorem hb_TB.warm {s U : State} (hW : s.WarmedH U.vm) (h : hb_TB s) : hb_TB U := by
  intro w hw hg a
  cases hn : hb_isNest w with
  | false =>
    rw [hn, Bool.or_false] at hg
    exact word_at (args := #[]) hW (good_of_word hg) (h w hw (by rw [hg]; rfl) #[])
  | true =>
    have h0 : va_Nw w s := h w hw hg #[]
    cases w <;> first | (simp [hb_isNest] at hn; done) | exact (va_Nw.warmM hW h0).use rfl | exact (va_Nw.warmF hW h0).use rfl
theorem hb_TB.calling {U : State} (g : JFrame) (mk : MethodId) (b : Array Value) (h : hb_TB U) : hb_TB (U.calling g mk b) := by
  intro w hw hg a
  have h0 := h w hw hg
  have h1 : (U.calling g mk b).vm = U.vm := rfl
  by_cases ho : w.onTables = true
  · exact va_Nw.use ho (va_Nw.same ho h1.symm (h0 #[]))
  · cases w <;> first | (exact absurd rfl ho; done) | (simp [goodWord, hb_isNest, Cond.onTables] at hg ho; done) | exact h0 a
theorem hb_wL_get {Λ : hb_Lay} {G : hb_Gam} {σ : hb_Mem} {k : Nat} (hk : k < Λ.1) : (hb_wL Λ G σ)[k]? = some (G.2.2.2 k, hb_cell Λ G σ k) := by
  simp [hb_wL, hk]
theorem hb_wL_len {Λ : hb_Lay} {G : hb_Gam} {σ : hb_Mem} : (hb_wL Λ G σ).length = Λ.1 := by simp [hb_wL]
theorem hb_wL_set {Λ : hb_Lay} {G : hb_Gam} {σ σ' : hb_Mem} {k : Nat} (hk : k < Λ.1) {e : va_E} (he : hb_cell Λ G σ' k = e) (ho : ∀ j, j ≠ k → hb_cell Λ G σ' j = hb_cell Λ G σ j) : (hb_wL Λ G σ).set k (G.2.2.2 k, e) = hb_wL Λ G σ' := by
  apply List.ext_getElem?
  intro i
  by_cases hi : i < Λ.1
  · by_cases hik : i = k
    · subst hik
      rw [List.getElem?_set_self (by rw [hb_wL_len]; exact hk), hb_wL_get hk, he]
    · rw [List.getElem?_set_ne (Ne.symm hik), hb_wL_get hi, hb_wL_get hi, ho i hik]
  · rw [List.getElem?_eq_none (by rw [List.length_set, hb_wL_len]; omega), List.getElem?_eq_none (by rw [hb_wL_len]; omega)]
theorem hb_up_ne {σ : hb_Mem} {k j : Nat} {v : Int32} {i : Nat} (h : i ≠ k) : hb_up σ k j v i = σ i := by simp [hb_up, h]
theorem hb_up_eq {σ : hb_Mem} {k j : Nat} {v : Int32} : hb_up σ k j v k = upd (σ k) j v := by simp [hb_up]
theorem hb_cell_up_ne {Λ : hb_Lay} {G : hb_Gam} {σ : hb_Mem} {k j : Nat} {v : Int32} (i : Nat) (h : i ≠ k) : hb_cell Λ G (hb_up σ k j v) i = hb_cell Λ G σ i := by
  simp only [hb_cell, hb_fs, hb_up_ne h]
theorem hb_fs_get {Λ : hb_Lay} {ad : Nat → Nat} {σ : hb_Mem} {k j : Nat} (hj : j < hb_nf (Λ.2.1 k)) : (hb_fs Λ ad σ k)[j]? = some (if hb_rf (Λ.2.1 k) j = true then .ref (ad (Λ.2.2.1 k j)) else .int (σ k j)) := by
  simp [hb_fs, hj]
theorem hb_fs_len {Λ : hb_Lay} {ad : Nat → Nat} {σ : hb_Mem} {k : Nat} : (hb_fs Λ ad σ k).length = hb_nf (Λ.2.1 k) := by simp [hb_fs]
theorem hb_fs_up {Λ : hb_Lay} {ad : Nat → Nat} {σ : hb_Mem} {k j : Nat} {v : Int32} (hr : hb_rf (Λ.2.1 k) j = false) : (hb_fs Λ ad σ k).set j (.int v) = hb_fs Λ ad (hb_up σ k j v) k := by
  apply List.ext_getElem?
  intro i
  by_cases hi : i < hb_nf (Λ.2.1 k)
  · by_cases hij : i = j
    · subst hij
      rw [List.getElem?_set_self (by rw [hb_fs_len]; exact hi), hb_fs_get hi, hr, hb_up_eq]
      simp [upd]
    · rw [List.getElem?_set_ne (Ne.symm hij), hb_fs_get hi, hb_fs_get hi, hb_up_eq]
      simp [upd, hij]
  · rw [List.getElem?_eq_none (by rw [List.length_set, hb_fs_len]; omega), List.getElem?_eq_none (by rw [hb_fs_len]; omega)]
theorem hb_cell_obj {Λ : hb_Lay} {G : hb_Gam} {σ : hb_Mem} {k ci : Nat} (hk : Λ.2.1 k = ci) (h7 : ci < 7) : hb_cell Λ G σ k = .inr (ci, hb_fs Λ G.2.2.2 σ k) := by
  subst hk
  simp only [hb_cell]
  rw [if_neg (by omega), if_neg (by omega)]
theorem hb_cell_arr {Λ : hb_Lay} {G : hb_Gam} {σ : hb_Mem} {k : Nat} (hk : Λ.2.1 k = 7) : hb_cell Λ G σ k = .inl (G.2.1, Λ.2.2.2 k, .inl (σ k)) := by
  simp only [hb_cell]
  rw [if_pos hk]
theorem hb_cell_arq {Λ : hb_Lay} {G : hb_Gam} {σ : hb_Mem} {k : Nat} (hk : Λ.2.1 k = 8) : hb_cell Λ G σ k = .inl (G.2.2.1, Λ.2.2.2 k, .inr (.inr (.inr (.inr (fun j => some (G.2.2.2 (Λ.2.2.1 k j))))))) := by
  simp only [hb_cell]
  rw [if_neg (by omega), if_pos hk]
theorem hb_wL_up_obj {Λ : hb_Lay} {G : hb_Gam} {σ : hb_Mem} {k ci j : Nat} {v : Int32} (hlt : k < Λ.1) (hk : Λ.2.1 k = ci) (h7 : ci < 7) (hr : hb_rf ci j = false) : (hb_wL Λ G σ).set k (G.2.2.2 k, .inr (ci, (hb_fs Λ G.2.2.2 σ k).set j (.int v))) = hb_wL Λ G (hb_up σ k j v) := by
  refine hb_wL_set hlt ?_ (fun i hi => hb_cell_up_ne i hi)
  rw [hb_cell_obj hk h7, hb_fs_up (by rw [hk]; exact hr)]
theorem hb_wL_up_arr {Λ : hb_Lay} {G : hb_Gam} {σ : hb_Mem} {k j : Nat} {v : Int32} (hlt : k < Λ.1) (hk : Λ.2.1 k = 7) : (hb_wL Λ G σ).set k (G.2.2.2 k, .inl (G.2.1, Λ.2.2.2 k, .inl (upd (σ k) j v))) = hb_wL Λ G (hb_up σ k j v) := by
  refine hb_wL_set hlt ?_ (fun i hi => hb_cell_up_ne i hi)
  rw [hb_cell_arr hk, hb_up_eq]
/-- locals: each place's value, where it is known; numbers and references alone -/
def hb_LS (nL : Nat) (L : List (Option Value)) (ls : Array Slot) : Prop := L.length = nL ∧ ls.size = nL ∧ lv_wf ls ∧ ∀ (i : Nat) (v : Value), L[i]? = some (some v) → ls[i]? = some (.val v) ∧ v.category = 1
def hb_asc : Nat → List (Option Value) → List (Nat × Value)
  | _, [] => []
  | i, none :: L => hb_asc (i + 1) L
  | i, some v :: L => (i, v) :: hb_asc (i + 1) L
theorem hb_asc_mem : ∀ (L : List (Option Value)) (i : Nat) (q : Nat × Value), q ∈ hb_asc i L ↔ ∃ j, q.1 = i + j ∧ L[j]? = some (some q.2)
  | [], i, q => by simp [hb_asc]
  | none :: L, i, q => by
    rw [hb_asc, hb_asc_mem L (i + 1) q]
    constructor
    · rintro ⟨j, h1, h2⟩
      exact ⟨j + 1, by omega, by simpa using h2⟩
    · rintro ⟨j, h1, h2⟩
      cases j with
      | zero => simp at h2
      | succ j => exact ⟨j, by omega, by simpa using h2⟩
  | some v :: L, i, q => by
    rw [hb_asc, List.mem_cons, hb_asc_mem L (i + 1) q]
    constructor
    · rintro (h | ⟨j, h1, h2⟩)
      · subst h
        exact ⟨0, by simp, by simp⟩
      · exact ⟨j + 1, by omega, by simpa using h2⟩
    · rintro ⟨j, h1, h2⟩
      cases j with
      | zero =>
        left
        obtain ⟨a, b⟩ := q
        simp at h1 h2
        rw [h1, h2]
      | succ j => exact Or.inr ⟨j, by omega, by simpa using h2⟩
theorem hb_LS.has {nL : Nat} {L : List (Option Value)} {ls : Array Slot} (h : hb_LS nL L ls) : lv_has ls nL (hb_asc 0 L) := by
  refine ⟨h.2.1, h.2.2.1, fun q hq => ?_⟩
  obtain ⟨j, h1, h2⟩ := (hb_asc_mem L 0 q).mp hq
  rw [show q.1 = j by omega]
  exact (h.2.2.2 j q.2 h2).1
theorem hb_LS.set {nL : Nat} {L : List (Option Value)} {ls ls' : Array Slot} (h : hb_LS nL L ls) {i : Nat} {v : Value} (hv : v.category = 1) (h' : lv_has ls' nL ((i, v) :: (hb_asc 0 L).filter (fun q => !(q.1 == i) && !(q.1 + 1 == i && q.2.category == 2)))) : hb_LS nL (L.set i (some v)) ls' := by
  refine ⟨by rw [List.length_set]; exact h.1, h'.1, h'.2.1, fun j w hj => ?_⟩
  by_cases hij : j = i
  · subst hij
    by_cases hl : j < L.length
    · rw [List.getElem?_set_self hl] at hj
      have hw : v = w := by simpa using hj
      subst hw
      exact ⟨h'.2.2 (j, v) List.mem_cons_self, hv⟩
    · rw [List.getElem?_eq_none (by rw [List.length_set]; omega)] at hj
      cases hj
  · rw [List.getElem?_set_ne (Ne.symm hij)] at hj
    have hc := (h.2.2.2 j w hj).2
    refine ⟨h'.2.2 (j, w) (List.mem_cons_of_mem _ (List.mem_filter.mpr ⟨(hb_asc_mem L 0 (j, w)).mpr ⟨j, by simp, hj⟩, ?_⟩)), hc⟩
    simp [hij, hc]
abbrev hb_Ctx : Type := Program × Launch × Env × Room × State × MethodId × Array Value × List Frame × Method × Code × Nat × Nat
/-- the judgement: the machine, at pc, with the memory σ, the locals L, the stack st, comes to Q -/
def hb_W (Γ : hb_Ctx) (Λ : hb_Lay) (G : hb_Gam) (nL : Nat) (Q : State → Prop) (σ : hb_Mem) (L : List (Option Value)) (st : List Value) (pc : Nat) : Prop := match Γ with
  | (p, l, e, R, s, m, args, below, meth, c, cells, slots) => ∀ (H : Heap) (locs : List Loc) (ls : Array Slot), va_P G.1 vwCl (hb_wL Λ G σ) H → va_S (hb_AA Λ G) s.heap H locs → hb_LS nL L ls → W p l e R s m args below meth c H locs cells slots Q (F0 m pc ls st)
def hb_X (Γ : hb_Ctx) (cc : ByteArray) (nL : Nat) (own : String) (Λ : hb_Lay) (G : hb_Gam) (nf nl : Nat) : Prop := match Γ with
  | (p, l, e, R, s, m, args, below, meth, c, cells, slots) => p.tables.exec = Jvm.exec ∧ c.code = cc ∧ c.maxLocals = nL ∧ s.vm.findClass own = some m.cls ∧ meth.locks = false ∧ va_K G.1 vwCl (hb_tys G) s ∧ hb_TB s ∧ (∀ σ, va_D (hb_AA Λ G) (hb_wL Λ G σ)) ∧ nf ≤ R.frames ∧ nl ≤ R.locals ∧ cells ≤ R.cells ∧ slots ≤ R.slots
def hb_ret (Γ : hb_Ctx) : Option FieldType := match Γ with
  | (_, _, _, _, _, _, _, _, meth, _) => meth.sig.returnType
/-- a method's end: its answer, the new memory, nothing else changed -/
def hb_Qc (Λ : hb_Lay) (G : hb_Gam) (rv : Option Value) (σ : hb_Mem) : Array Value → State → Outcome → State → Prop := fun _ st oc t => oc = .returned rv ∧ va_P G.1 vwCl (hb_wL Λ G σ) t.heap ∧ va_F (hb_AA Λ G) st t
def hb_Pc (Λ : hb_Lay) (G : hb_Gam) (av : List Value) (σ : hb_Mem) : Array Value → State → Prop := fun v U => v = av.toArray ∧ va_P G.1 vwCl (hb_wL Λ G σ) U.heap ∧ va_K G.1 vwCl (hb_tys G) U ∧ hb_TB U ∧ (∀ σ, va_D (hb_AA Λ G) (hb_wL Λ G σ))
def hb_C (l : Launch) (y : MethodName) (cc : ByteArray) (nL : Nat) (ret : Option FieldType) (nf nl : Nat) (Λ : hb_Lay) (G : hb_Gam) (av : List Value) (σ : hb_Mem) (rv : Option Value) (σ' : hb_Mem) : Prop :=
  Met l y [.code y cc nL ret] { frames := nf, cells := 0, slots := 0, locals := nl } (hb_Pc Λ G av σ) (hb_Qc Λ G rv σ') 0 0 (hb_AA Λ G)
def hb_Q (Γ : hb_Ctx) (Λ : hb_Lay) (G : hb_Gam) (rv : Option Value) (σ : hb_Mem) : State → Prop := match Γ with
  | (p, l, e, R, s, m, args, below, meth, c, cells, slots) => MQ below (hb_Qc Λ G rv σ) args s cells slots (hb_AA Λ G)
theorem hb_C.of {l : Launch} {y : MethodName} {cc : ByteArray} {nL : Nat} {ret : Option FieldType} {nf nl : Nat} {Λ : hb_Lay} {G : hb_Gam} {av : List Value} {σ σ' : hb_Mem} {rv : Option Value} (L : List (Option Value)) (hy : plainName y.cls = true) (hlen : (lg_sl av).length ≤ nL) (hcat : ∀ v ∈ av, v.category = 1) (hL : L.length = nL) (hav : ∀ (i : Nat) (v : Value), L[i]? = some (some v) → av[i]? = some v)
    (body : ∀ Γ : hb_Ctx, hb_X Γ cc nL y.cls Λ G nf nl → hb_ret Γ = ret → hb_W Γ Λ G nL (hb_Q Γ Λ G rv σ') σ L [] 0) : hb_C l y cc nL ret nf nl Λ G av σ rv σ' := by
  refine Met.ofW (cc := cc) (maxL := nL) (ret := ret) hy rfl ?_
  intro p e s m args below meth c s₁ B hml hv
  obtain ⟨rfl, hP, hK, hT, hD⟩ := hv
  have hb := body (p, l, e, ({ frames := nf, cells := 0, slots := 0, locals := nl } : Room), s, m, av.toArray, below, meth, c, 0, 0) ⟨B.exec, B.bytes, hml, findClass_of_methodNamed B.named, B.notSynchronized, hK, hT, hD, Nat.le_refl _, Nat.le_refl _, Nat.le_refl _, Nat.le_refl _⟩ B.returns
  have hl := lv_entry av (n := nL) hlen
  rw [lg_entry_eq]
  refine hb s.heap [] _ hP va_S.rf ?_
  have hargs : ∀ (vs : List Value) (i k : Nat) (v : Value), (∀ v ∈ vs, v.category = 1) → vs[k]? = some v → (i + k, v) ∈ lv_args i vs := by
    intro vs
    induction vs with
    | nil => intro i k v _ h; simp at h
    | cons a vs ih =>
      intro i k v hc h
      rw [lv_args]
      cases k with
      | zero =>
        simp at h
        subst h
        exact List.mem_cons_self
      | succ k =>
        have ha := hc a List.mem_cons_self
        rw [if_neg (by rw [ha]; decide)]
        have := ih (i + 1) k v (fun w hw => hc w (List.mem_cons_of_mem _ hw)) (by simpa using h)
        rw [show i + (k + 1) = i + 1 + k by omega]
        exact List.mem_cons_of_mem _ this
  refine ⟨hL, hl.1, hl.2.1, fun i v hi => ?_⟩
  have h1 := hav i v hi
  have h2 := hargs av 0 i v hcat h1
  rw [Nat.zero_add] at h2
  exact ⟨hl.2.2 (i, v) h2, hcat v (List.mem_of_getElem? h1)⟩
end
section
/-! ROWS over hb_W: an instruction each (laid by wip/whole/genrows.py) -/
abbrev hb_is (Λ : hb_Lay) (k c : Nat) : Prop := k < Λ.1 ∧ Λ.2.1 k = c
def hb_nn (z : UInt32) : Option UInt32 := if z &&& 0x7fffffff ≤ 0x7f800000 then some z else none
theorem hb_nn_of {z w : UInt32} (h : hb_nn z = some w) : vf_n32 z ∧ z = w := by
  unfold hb_nn at h
  split at h
  · rename_i h1
    exact ⟨h1, Option.some.inj h⟩
  · cases h
section HBL
variable {p : Program} {l : Launch} {e : Env} {R : Room} {s : State} {m : MethodId} {args : Array Value} {below : List Frame} {meth : Method} {c : Code} {H : Heap} {locs : List Loc} {cells slots : Nat} {Q : State → Prop} {cc : ByteArray} {pc : Nat} {ls : Array Slot} {rest : List Value}
theorem hb_ldcfw0 {T : State} (X : Stand p l e R s m args below meth c T locs cells slots) (hexec : p.tables.exec = Jvm.exec) {own : String} {index : Nat} {v : UInt32} (hown : s.vm.findClass own = some m.cls)
    (hconst : (Cond.constantFloat own index v).before args s = true) {g : JFrame} (hg : g.method = m) (hdg : decode c.code g.pc = .ok (.ldc_w index, 3)) :
    ∀ target, Steps p.tables e below (T.setTop { g with pc := g.pc + 3, stack := .float v :: g.stack }) target → Steps p.tables e below (T.setTop g) target := by
  obtain ⟨k, cf, hk, hcf, hc⟩ := Cond.constantFloat_spec hown hconst
  obtain ⟨k', hk', he⟩ := X.warmed.alike.2.2 _ _ hk
  intro target hrest
  subst hg
  jvm_step X.here [hexec, hdg, ldc_w.wp_float (s := T) (f := g) X.here.top hk' (by rw [he]; exact hcf) hc]
  exact hrest
theorem hb_ldcfw (hexec : p.tables.exec = Jvm.exec) (hb : c.code = cc) {own : String} {index : Nat} {v : UInt32} (hown : s.vm.findClass own = some m.cls) (hconst : (Jvm.Cond.constantFloat own index v).before args s = true) (hdg : decode cc pc = .ok (.ldc_w index, 3)) (k : W p l e R s m args below meth c H locs cells slots Q (F0 m (pc + 3) ls (.float v :: rest))) : W p l e R s m args below meth c H locs cells slots Q (F0 m pc ls rest) := by
  intro T hT X
  obtain ⟨t, a, b⟩ := k T hT X
  exact ⟨t, hb_ldcfw0 X hexec hown hconst (g := F0 m pc ls rest) rfl (by rw [hb]; exact hdg) t a, b⟩
theorem hb_iinc (hexec : p.tables.exec = Jvm.exec) (hb : c.code = cc) {i nL : Nat} {n : Int} {x v : Int32} {L : List (Option Value)} (hdg : decode cc pc = .ok (.iinc i n, 3)) (hL : hb_LS nL L ls) (hx : L[i]? = some (some (.int x))) (hv : x + Int32.ofInt n = v)
    (kk : ∀ ls' : Array Slot, hb_LS nL (L.set i (some (.int v))) ls' → W p l e R s m args below meth c H locs cells slots Q (F0 m (pc + 3) ls' rest)) : W p l e R s m args below meth c H locs cells slots Q (F0 m pc ls rest) := by
  have hmem : (i, Value.int x) ∈ hb_asc 0 L := (hb_asc_mem L 0 (i, Value.int x)).mpr ⟨i, by simp, hx⟩
  obtain ⟨k, hk⟩ := List.getElem?_of_mem hmem
  have hi : i < nL := by
    rw [← hL.1]
    rcases Nat.lt_or_ge i L.length with h | h
    · exact h
    · rw [List.getElem?_eq_none h] at hx; cases hx
  exact lv_iinc hexec hb hdg hL.has hk hv hi rfl (fun ls' hl' => kk ls' (hL.set rfl hl'))
end HBL
theorem ww_iconst {Γ : hb_Ctx} {cc : ByteArray} {nL : Nat} {own : String} {Λ : hb_Lay} {G : hb_Gam} {nf nl : Nat} {Q : State → Prop} {σ : hb_Mem} {L : List (Option Value)} {st : List Value} {pc : Nat} {n : Int} {v : Int32} (q : Nat) (X : hb_X Γ cc nL own Λ G nf nl) (d : decode cc pc = .ok (.iconst n, 1)) (hq : pc + 1 = q) (hv : Int32.ofInt n = v) (k : hb_W Γ Λ G nL Q σ L (.int v :: st) q) : hb_W Γ Λ G nL Q σ L st pc := by
  obtain ⟨p, l, e, R, s, m, args, below, meth, c, cells, slots⟩ := Γ
  obtain ⟨hx, hb, hml, hown, hlocks, hK, hT, hD, hnf, hnl, hcells, hslots⟩ := X
  subst hq
  intro H locs ls hP hS hL
  exact lv_iconst hx hb d hv (k H locs ls hP hS hL)
theorem ww_bipush {Γ : hb_Ctx} {cc : ByteArray} {nL : Nat} {own : String} {Λ : hb_Lay} {G : hb_Gam} {nf nl : Nat} {Q : State → Prop} {σ : hb_Mem} {L : List (Option Value)} {st : List Value} {pc : Nat} {n : Int} {v : Int32} (q : Nat) (X : hb_X Γ cc nL own Λ G nf nl) (d : decode cc pc = .ok (.bipush n, 2)) (hq : pc + 2 = q) (hv : (Int8.ofInt n).toInt32 = v) (k : hb_W Γ Λ G nL Q σ L (.int v :: st) q) : hb_W Γ Λ G nL Q σ L st pc := by
  obtain ⟨p, l, e, R, s, m, args, below, meth, c, cells, slots⟩ := Γ
  obtain ⟨hx, hb, hml, hown, hlocks, hK, hT, hD, hnf, hnl, hcells, hslots⟩ := X
  subst hq
  intro H locs ls hP hS hL
  exact lv_bipush hx hb d hv (k H locs ls hP hS hL)
theorem ww_sipush {Γ : hb_Ctx} {cc : ByteArray} {nL : Nat} {own : String} {Λ : hb_Lay} {G : hb_Gam} {nf nl : Nat} {Q : State → Prop} {σ : hb_Mem} {L : List (Option Value)} {st : List Value} {pc : Nat} {n : Int} {v : Int32} (q : Nat) (X : hb_X Γ cc nL own Λ G nf nl) (d : decode cc pc = .ok (.sipush n, 3)) (hq : pc + 3 = q) (hv : (Int16.ofInt n).toInt32 = v) (k : hb_W Γ Λ G nL Q σ L (.int v :: st) q) : hb_W Γ Λ G nL Q σ L st pc := by
  obtain ⟨p, l, e, R, s, m, args, below, meth, c, cells, slots⟩ := Γ
  obtain ⟨hx, hb, hml, hown, hlocks, hK, hT, hD, hnf, hnl, hcells, hslots⟩ := X
  subst hq
  intro H locs ls hP hS hL
  exact lv_sipush hx hb d hv (k H locs ls hP hS hL)
theorem ww_null {Γ : hb_Ctx} {cc : ByteArray} {nL : Nat} {own : String} {Λ : hb_Lay} {G : hb_Gam} {nf nl : Nat} {Q : State → Prop} {σ : hb_Mem} {L : List (Option Value)} {st : List Value} {pc : Nat}  (q : Nat) (X : hb_X Γ cc nL own Λ G nf nl) (d : decode cc pc = .ok (.aconst_null, 1)) (hq : pc + 1 = q)  (k : hb_W Γ Λ G nL Q σ L (.null :: st) q) : hb_W Γ Λ G nL Q σ L st pc := by
  obtain ⟨p, l, e, R, s, m, args, below, meth, c, cells, slots⟩ := Γ
  obtain ⟨hx, hb, hml, hown, hlocks, hK, hT, hD, hnf, hnl, hcells, hslots⟩ := X
  subst hq
  intro H locs ls hP hS hL
  exact lv_null hx hb d (k H locs ls hP hS hL)
theorem ww_fconst0 {Γ : hb_Ctx} {cc : ByteArray} {nL : Nat} {own : String} {Λ : hb_Lay} {G : hb_Gam} {nf nl : Nat} {Q : State → Prop} {σ : hb_Mem} {L : List (Option Value)} {st : List Value} {pc : Nat}  (q : Nat) (X : hb_X Γ cc nL own Λ G nf nl) (d : decode cc pc = .ok (.fconst 0, 1)) (hq : pc + 1 = q)  (k : hb_W Γ Λ G nL Q σ L (.float FP.fconst0 :: st) q) : hb_W Γ Λ G nL Q σ L st pc := by
  obtain ⟨p, l, e, R, s, m, args, below, meth, c, cells, slots⟩ := Γ
  obtain ⟨hx, hb, hml, hown, hlocks, hK, hT, hD, hnf, hnl, hcells, hslots⟩ := X
  subst hq
  intro H locs ls hP hS hL
  exact lv_fconst0 hx hb d (k H locs ls hP hS hL)
theorem ww_fconst2 {Γ : hb_Ctx} {cc : ByteArray} {nL : Nat} {own : String} {Λ : hb_Lay} {G : hb_Gam} {nf nl : Nat} {Q : State → Prop} {σ : hb_Mem} {L : List (Option Value)} {st : List Value} {pc : Nat}  (q : Nat) (X : hb_X Γ cc nL own Λ G nf nl) (d : decode cc pc = .ok (.fconst 2, 1)) (hq : pc + 1 = q)  (k : hb_W Γ Λ G nL Q σ L (.float FP.fconst2 :: st) q) : hb_W Γ Λ G nL Q σ L st pc := by
  obtain ⟨p, l, e, R, s, m, args, below, meth, c, cells, slots⟩ := Γ
  obtain ⟨hx, hb, hml, hown, hlocks, hK, hT, hD, hnf, hnl, hcells, hslots⟩ := X
  subst hq
  intro H locs ls hP hS hL
  exact lv_fconst2 hx hb d (k H locs ls hP hS hL)
theorem ww_ldc {Γ : hb_Ctx} {cc : ByteArray} {nL : Nat} {own : String} {Λ : hb_Lay} {G : hb_Gam} {nf nl : Nat} {Q : State → Prop} {σ : hb_Mem} {L : List (Option Value)} {st : List Value} {pc : Nat} {i : Nat} {v : Int32} (q : Nat) (X : hb_X Γ cc nL own Λ G nf nl) (d : decode cc pc = .ok (.ldc i, 2)) (hq : pc + 2 = q) (hw : (Cond.constant own i v) ∈ lw_tbl) (k : hb_W Γ Λ G nL Q σ L (.int v :: st) q) : hb_W Γ Λ G nL Q σ L st pc := by
  obtain ⟨p, l, e, R, s, m, args, below, meth, c, cells, slots⟩ := Γ
  obtain ⟨hx, hb, hml, hown, hlocks, hK, hT, hD, hnf, hnl, hcells, hslots⟩ := X
  subst hq
  intro H locs ls hP hS hL
  exact lv_ldc hx hb hown (hT _ hw rfl _) d (k H locs ls hP hS hL)
theorem ww_ldcw {Γ : hb_Ctx} {cc : ByteArray} {nL : Nat} {own : String} {Λ : hb_Lay} {G : hb_Gam} {nf nl : Nat} {Q : State → Prop} {σ : hb_Mem} {L : List (Option Value)} {st : List Value} {pc : Nat} {i : Nat} {v : Int32} (q : Nat) (X : hb_X Γ cc nL own Λ G nf nl) (d : decode cc pc = .ok (.ldc_w i, 3)) (hq : pc + 3 = q) (hw : (Cond.constant own i v) ∈ lw_tbl) (k : hb_W Γ Λ G nL Q σ L (.int v :: st) q) : hb_W Γ Λ G nL Q σ L st pc := by
  obtain ⟨p, l, e, R, s, m, args, below, meth, c, cells, slots⟩ := Γ
  obtain ⟨hx, hb, hml, hown, hlocks, hK, hT, hD, hnf, hnl, hcells, hslots⟩ := X
  subst hq
  intro H locs ls hP hS hL
  exact lv_ldcw hx hb hown (hT _ hw rfl _) d (k H locs ls hP hS hL)
theorem ww_ldcf {Γ : hb_Ctx} {cc : ByteArray} {nL : Nat} {own : String} {Λ : hb_Lay} {G : hb_Gam} {nf nl : Nat} {Q : State → Prop} {σ : hb_Mem} {L : List (Option Value)} {st : List Value} {pc : Nat} {i : Nat} {v : UInt32} (q : Nat) (X : hb_X Γ cc nL own Λ G nf nl) (d : decode cc pc = .ok (.ldc i, 2)) (hq : pc + 2 = q) (hw : (Cond.constantFloat own i v) ∈ lw_tbl) (k : hb_W Γ Λ G nL Q σ L (.float v :: st) q) : hb_W Γ Λ G nL Q σ L st pc := by
  obtain ⟨p, l, e, R, s, m, args, below, meth, c, cells, slots⟩ := Γ
  obtain ⟨hx, hb, hml, hown, hlocks, hK, hT, hD, hnf, hnl, hcells, hslots⟩ := X
  subst hq
  intro H locs ls hP hS hL
  exact lv_ldcf hx hb hown (hT _ hw rfl _) d (k H locs ls hP hS hL)
theorem ww_ldcfw {Γ : hb_Ctx} {cc : ByteArray} {nL : Nat} {own : String} {Λ : hb_Lay} {G : hb_Gam} {nf nl : Nat} {Q : State → Prop} {σ : hb_Mem} {L : List (Option Value)} {st : List Value} {pc : Nat} {i : Nat} {v : UInt32} (q : Nat) (X : hb_X Γ cc nL own Λ G nf nl) (d : decode cc pc = .ok (.ldc_w i, 3)) (hq : pc + 3 = q) (hw : (Cond.constantFloat own i v) ∈ lw_tbl) (k : hb_W Γ Λ G nL Q σ L (.float v :: st) q) : hb_W Γ Λ G nL Q σ L st pc := by
  obtain ⟨p, l, e, R, s, m, args, below, meth, c, cells, slots⟩ := Γ
  obtain ⟨hx, hb, hml, hown, hlocks, hK, hT, hD, hnf, hnl, hcells, hslots⟩ := X
  subst hq
  intro H locs ls hP hS hL
  exact hb_ldcfw hx hb hown (hT _ hw rfl _) d (k H locs ls hP hS hL)
theorem ww_iload_n {Γ : hb_Ctx} {cc : ByteArray} {nL : Nat} {own : String} {Λ : hb_Lay} {G : hb_Gam} {nf nl : Nat} {Q : State → Prop} {σ : hb_Mem} {L : List (Option Value)} {st : List Value} {pc : Nat} {n : Fin 4} {x : Int32} (q : Nat) (X : hb_X Γ cc nL own Λ G nf nl) (d : decode cc pc = .ok (.iload_n n, 1)) (hq : pc + 1 = q) (hv : L[(n : Nat)]? = some (some (.int x))) (k : hb_W Γ Λ G nL Q σ L (.int x :: st) q) : hb_W Γ Λ G nL Q σ L st pc := by
  obtain ⟨p, l, e, R, s, m, args, below, meth, c, cells, slots⟩ := Γ
  obtain ⟨hx, hb, hml, hown, hlocks, hK, hT, hD, hnf, hnl, hcells, hslots⟩ := X
  subst hq
  intro H locs ls hP hS hL
  exact lv_iload_n hx hb d rfl (hL.2.2.2 _ _ hv).1 (k H locs ls hP hS hL)
theorem ww_fload_n {Γ : hb_Ctx} {cc : ByteArray} {nL : Nat} {own : String} {Λ : hb_Lay} {G : hb_Gam} {nf nl : Nat} {Q : State → Prop} {σ : hb_Mem} {L : List (Option Value)} {st : List Value} {pc : Nat} {n : Fin 4} {x : UInt32} (q : Nat) (X : hb_X Γ cc nL own Λ G nf nl) (d : decode cc pc = .ok (.fload_n n, 1)) (hq : pc + 1 = q) (hv : L[(n : Nat)]? = some (some (.float x))) (k : hb_W Γ Λ G nL Q σ L (.float x :: st) q) : hb_W Γ Λ G nL Q σ L st pc := by
  obtain ⟨p, l, e, R, s, m, args, below, meth, c, cells, slots⟩ := Γ
  obtain ⟨hx, hb, hml, hown, hlocks, hK, hT, hD, hnf, hnl, hcells, hslots⟩ := X
  subst hq
  intro H locs ls hP hS hL
  exact lv_fload_n hx hb d rfl (hL.2.2.2 _ _ hv).1 (k H locs ls hP hS hL)
theorem ww_aload_n {Γ : hb_Ctx} {cc : ByteArray} {nL : Nat} {own : String} {Λ : hb_Lay} {G : hb_Gam} {nf nl : Nat} {Q : State → Prop} {σ : hb_Mem} {L : List (Option Value)} {st : List Value} {pc : Nat} {n : Fin 4} {x : Nat} (q : Nat) (X : hb_X Γ cc nL own Λ G nf nl) (d : decode cc pc = .ok (.aload_n n, 1)) (hq : pc + 1 = q) (hv : L[(n : Nat)]? = some (some (.ref x))) (k : hb_W Γ Λ G nL Q σ L (.ref x :: st) q) : hb_W Γ Λ G nL Q σ L st pc := by
  obtain ⟨p, l, e, R, s, m, args, below, meth, c, cells, slots⟩ := Γ
  obtain ⟨hx, hb, hml, hown, hlocks, hK, hT, hD, hnf, hnl, hcells, hslots⟩ := X
  subst hq
  intro H locs ls hP hS hL
  exact lv_aload_n hx hb d rfl (hL.2.2.2 _ _ hv).1 (k H locs ls hP hS hL)
theorem ww_aload_nN {Γ : hb_Ctx} {cc : ByteArray} {nL : Nat} {own : String} {Λ : hb_Lay} {G : hb_Gam} {nf nl : Nat} {Q : State → Prop} {σ : hb_Mem} {L : List (Option Value)} {st : List Value} {pc : Nat} {n : Fin 4} (q : Nat) (X : hb_X Γ cc nL own Λ G nf nl) (d : decode cc pc = .ok (.aload_n n, 1)) (hq : pc + 1 = q) (hv : L[(n : Nat)]? = some (some (.null))) (k : hb_W Γ Λ G nL Q σ L (.null :: st) q) : hb_W Γ Λ G nL Q σ L st pc := by
  obtain ⟨p, l, e, R, s, m, args, below, meth, c, cells, slots⟩ := Γ
  obtain ⟨hx, hb, hml, hown, hlocks, hK, hT, hD, hnf, hnl, hcells, hslots⟩ := X
  subst hq
  intro H locs ls hP hS hL
  exact lv_aload_nN hx hb d rfl (hL.2.2.2 _ _ hv).1 (k H locs ls hP hS hL)
theorem ww_iload {Γ : hb_Ctx} {cc : ByteArray} {nL : Nat} {own : String} {Λ : hb_Lay} {G : hb_Gam} {nf nl : Nat} {Q : State → Prop} {σ : hb_Mem} {L : List (Option Value)} {st : List Value} {pc : Nat} {n : Nat} {x : Int32} (q : Nat) (X : hb_X Γ cc nL own Λ G nf nl) (d : decode cc pc = .ok (.iload n, 2)) (hq : pc + 2 = q) (hv : L[n]? = some (some (.int x))) (k : hb_W Γ Λ G nL Q σ L (.int x :: st) q) : hb_W Γ Λ G nL Q σ L st pc := by
  obtain ⟨p, l, e, R, s, m, args, below, meth, c, cells, slots⟩ := Γ
  obtain ⟨hx, hb, hml, hown, hlocks, hK, hT, hD, hnf, hnl, hcells, hslots⟩ := X
  subst hq
  intro H locs ls hP hS hL
  exact lv_iload hx hb d (hL.2.2.2 _ _ hv).1 (k H locs ls hP hS hL)
theorem ww_aload {Γ : hb_Ctx} {cc : ByteArray} {nL : Nat} {own : String} {Λ : hb_Lay} {G : hb_Gam} {nf nl : Nat} {Q : State → Prop} {σ : hb_Mem} {L : List (Option Value)} {st : List Value} {pc : Nat} {n : Nat} {x : Nat} (q : Nat) (X : hb_X Γ cc nL own Λ G nf nl) (d : decode cc pc = .ok (.aload n, 2)) (hq : pc + 2 = q) (hv : L[n]? = some (some (.ref x))) (k : hb_W Γ Λ G nL Q σ L (.ref x :: st) q) : hb_W Γ Λ G nL Q σ L st pc := by
  obtain ⟨p, l, e, R, s, m, args, below, meth, c, cells, slots⟩ := Γ
  obtain ⟨hx, hb, hml, hown, hlocks, hK, hT, hD, hnf, hnl, hcells, hslots⟩ := X
  subst hq
  intro H locs ls hP hS hL
  exact lv_aload hx hb d (hL.2.2.2 _ _ hv).1 (k H locs ls hP hS hL)
theorem ww_istore_n {Γ : hb_Ctx} {cc : ByteArray} {nL : Nat} {own : String} {Λ : hb_Lay} {G : hb_Gam} {nf nl : Nat} {Q : State → Prop} {σ : hb_Mem} {L : List (Option Value)} {st : List Value} {pc : Nat} {n : Fin 4} {x : Int32} {L' : List (Option Value)} (q : Nat) (X : hb_X Γ cc nL own Λ G nf nl) (d : decode cc pc = .ok (.istore_n n, 1)) (hq : pc + 1 = q) (hn : (n : Nat) < L.length) (hl : L.set (n : Nat) (some (.int x)) = L') (k : hb_W Γ Λ G nL Q σ L' st q) : hb_W Γ Λ G nL Q σ L (.int x :: st) pc := by
  obtain ⟨p, l, e, R, s, m, args, below, meth, c, cells, slots⟩ := Γ
  obtain ⟨hx, hb, hml, hown, hlocks, hK, hT, hD, hnf, hnl, hcells, hslots⟩ := X
  subst hq
  subst hl
  intro H locs ls hP hS hL
  exact lv_istore_n hx hb d rfl hL.has (by rw [← hL.1]; exact hn) rfl (fun ls' hl' => k H locs ls' hP hS (hL.set rfl hl'))
theorem ww_fstore_n {Γ : hb_Ctx} {cc : ByteArray} {nL : Nat} {own : String} {Λ : hb_Lay} {G : hb_Gam} {nf nl : Nat} {Q : State → Prop} {σ : hb_Mem} {L : List (Option Value)} {st : List Value} {pc : Nat} {n : Fin 4} {x : UInt32} {L' : List (Option Value)} (q : Nat) (X : hb_X Γ cc nL own Λ G nf nl) (d : decode cc pc = .ok (.fstore_n n, 1)) (hq : pc + 1 = q) (hn : (n : Nat) < L.length) (hl : L.set (n : Nat) (some (.float x)) = L') (k : hb_W Γ Λ G nL Q σ L' st q) : hb_W Γ Λ G nL Q σ L (.float x :: st) pc := by
  obtain ⟨p, l, e, R, s, m, args, below, meth, c, cells, slots⟩ := Γ
  obtain ⟨hx, hb, hml, hown, hlocks, hK, hT, hD, hnf, hnl, hcells, hslots⟩ := X
  subst hq
  subst hl
  intro H locs ls hP hS hL
  exact lv_fstore_n hx hb d rfl hL.has (by rw [← hL.1]; exact hn) rfl (fun ls' hl' => k H locs ls' hP hS (hL.set rfl hl'))
theorem ww_astore_n {Γ : hb_Ctx} {cc : ByteArray} {nL : Nat} {own : String} {Λ : hb_Lay} {G : hb_Gam} {nf nl : Nat} {Q : State → Prop} {σ : hb_Mem} {L : List (Option Value)} {st : List Value} {pc : Nat} {n : Fin 4} {x : Nat} {L' : List (Option Value)} (q : Nat) (X : hb_X Γ cc nL own Λ G nf nl) (d : decode cc pc = .ok (.astore_n n, 1)) (hq : pc + 1 = q) (hn : (n : Nat) < L.length) (hl : L.set (n : Nat) (some (.ref x)) = L') (k : hb_W Γ Λ G nL Q σ L' st q) : hb_W Γ Λ G nL Q σ L (.ref x :: st) pc := by
  obtain ⟨p, l, e, R, s, m, args, below, meth, c, cells, slots⟩ := Γ
  obtain ⟨hx, hb, hml, hown, hlocks, hK, hT, hD, hnf, hnl, hcells, hslots⟩ := X
  subst hq
  subst hl
  intro H locs ls hP hS hL
  exact lv_astore_n hx hb d rfl hL.has (by rw [← hL.1]; exact hn) rfl (fun ls' hl' => k H locs ls' hP hS (hL.set rfl hl'))
theorem ww_istore {Γ : hb_Ctx} {cc : ByteArray} {nL : Nat} {own : String} {Λ : hb_Lay} {G : hb_Gam} {nf nl : Nat} {Q : State → Prop} {σ : hb_Mem} {L : List (Option Value)} {st : List Value} {pc : Nat} {n : Nat} {x : Int32} {L' : List (Option Value)} (q : Nat) (X : hb_X Γ cc nL own Λ G nf nl) (d : decode cc pc = .ok (.istore n, 2)) (hq : pc + 2 = q) (hn : (n : Nat) < L.length) (hl : L.set (n : Nat) (some (.int x)) = L') (k : hb_W Γ Λ G nL Q σ L' st q) : hb_W Γ Λ G nL Q σ L (.int x :: st) pc := by
  obtain ⟨p, l, e, R, s, m, args, below, meth, c, cells, slots⟩ := Γ
  obtain ⟨hx, hb, hml, hown, hlocks, hK, hT, hD, hnf, hnl, hcells, hslots⟩ := X
  subst hq
  subst hl
  intro H locs ls hP hS hL
  exact lv_istore hx hb d hL.has (by rw [← hL.1]; exact hn) rfl (fun ls' hl' => k H locs ls' hP hS (hL.set rfl hl'))
theorem ww_iinc {Γ : hb_Ctx} {cc : ByteArray} {nL : Nat} {own : String} {Λ : hb_Lay} {G : hb_Gam} {nf nl : Nat} {Q : State → Prop} {σ : hb_Mem} {L : List (Option Value)} {st : List Value} {pc : Nat} {i : Nat} {n : Int} {x v : Int32} {L' : List (Option Value)} (q : Nat) (X : hb_X Γ cc nL own Λ G nf nl) (d : decode cc pc = .ok (.iinc i n, 3)) (hq : pc + 3 = q) (hx0 : L[i]? = some (some (.int x))) (hv : x + Int32.ofInt n = v) (hl : L.set i (some (.int v)) = L') (k : hb_W Γ Λ G nL Q σ L' st q) : hb_W Γ Λ G nL Q σ L st pc := by
  obtain ⟨p, l, e, R, s, m, args, below, meth, c, cells, slots⟩ := Γ
  obtain ⟨hx, hb, hml, hown, hlocks, hK, hT, hD, hnf, hnl, hcells, hslots⟩ := X
  subst hq
  subst hl
  intro H locs ls hP hS hL
  exact hb_iinc hx hb d hL hx0 hv (fun ls' hl' => k H locs ls' hP hS hl')
theorem ww_iadd {Γ : hb_Ctx} {cc : ByteArray} {nL : Nat} {own : String} {Λ : hb_Lay} {G : hb_Gam} {nf nl : Nat} {Q : State → Prop} {σ : hb_Mem} {L : List (Option Value)} {st : List Value} {pc : Nat} {x y : Int32} (q : Nat) (X : hb_X Γ cc nL own Λ G nf nl) (d : decode cc pc = .ok (.iadd, 1)) (hq : pc + 1 = q)  (k : hb_W Γ Λ G nL Q σ L (.int (x + y) :: st) q) : hb_W Γ Λ G nL Q σ L (.int y :: .int x :: st) pc := by
  obtain ⟨p, l, e, R, s, m, args, below, meth, c, cells, slots⟩ := Γ
  obtain ⟨hx, hb, hml, hown, hlocks, hK, hT, hD, hnf, hnl, hcells, hslots⟩ := X
  subst hq
  intro H locs ls hP hS hL
  exact lv_iadd hx hb d (k H locs ls hP hS hL)
theorem ww_isub {Γ : hb_Ctx} {cc : ByteArray} {nL : Nat} {own : String} {Λ : hb_Lay} {G : hb_Gam} {nf nl : Nat} {Q : State → Prop} {σ : hb_Mem} {L : List (Option Value)} {st : List Value} {pc : Nat} {x y : Int32} (q : Nat) (X : hb_X Γ cc nL own Λ G nf nl) (d : decode cc pc = .ok (.isub, 1)) (hq : pc + 1 = q)  (k : hb_W Γ Λ G nL Q σ L (.int (x - y) :: st) q) : hb_W Γ Λ G nL Q σ L (.int y :: .int x :: st) pc := by
  obtain ⟨p, l, e, R, s, m, args, below, meth, c, cells, slots⟩ := Γ
  obtain ⟨hx, hb, hml, hown, hlocks, hK, hT, hD, hnf, hnl, hcells, hslots⟩ := X
  subst hq
  intro H locs ls hP hS hL
  exact lv_isub hx hb d (k H locs ls hP hS hL)
theorem ww_imul {Γ : hb_Ctx} {cc : ByteArray} {nL : Nat} {own : String} {Λ : hb_Lay} {G : hb_Gam} {nf nl : Nat} {Q : State → Prop} {σ : hb_Mem} {L : List (Option Value)} {st : List Value} {pc : Nat} {x y : Int32} (q : Nat) (X : hb_X Γ cc nL own Λ G nf nl) (d : decode cc pc = .ok (.imul, 1)) (hq : pc + 1 = q)  (k : hb_W Γ Λ G nL Q σ L (.int (x * y) :: st) q) : hb_W Γ Λ G nL Q σ L (.int y :: .int x :: st) pc := by
  obtain ⟨p, l, e, R, s, m, args, below, meth, c, cells, slots⟩ := Γ
  obtain ⟨hx, hb, hml, hown, hlocks, hK, hT, hD, hnf, hnl, hcells, hslots⟩ := X
  subst hq
  intro H locs ls hP hS hL
  exact lv_imul hx hb d (k H locs ls hP hS hL)
theorem ww_iand {Γ : hb_Ctx} {cc : ByteArray} {nL : Nat} {own : String} {Λ : hb_Lay} {G : hb_Gam} {nf nl : Nat} {Q : State → Prop} {σ : hb_Mem} {L : List (Option Value)} {st : List Value} {pc : Nat} {x y : Int32} (q : Nat) (X : hb_X Γ cc nL own Λ G nf nl) (d : decode cc pc = .ok (.iand, 1)) (hq : pc + 1 = q)  (k : hb_W Γ Λ G nL Q σ L (.int (x &&& y) :: st) q) : hb_W Γ Λ G nL Q σ L (.int y :: .int x :: st) pc := by
  obtain ⟨p, l, e, R, s, m, args, below, meth, c, cells, slots⟩ := Γ
  obtain ⟨hx, hb, hml, hown, hlocks, hK, hT, hD, hnf, hnl, hcells, hslots⟩ := X
  subst hq
  intro H locs ls hP hS hL
  exact lv_iand hx hb d (k H locs ls hP hS hL)
theorem ww_ior {Γ : hb_Ctx} {cc : ByteArray} {nL : Nat} {own : String} {Λ : hb_Lay} {G : hb_Gam} {nf nl : Nat} {Q : State → Prop} {σ : hb_Mem} {L : List (Option Value)} {st : List Value} {pc : Nat} {x y : Int32} (q : Nat) (X : hb_X Γ cc nL own Λ G nf nl) (d : decode cc pc = .ok (.ior, 1)) (hq : pc + 1 = q)  (k : hb_W Γ Λ G nL Q σ L (.int (x ||| y) :: st) q) : hb_W Γ Λ G nL Q σ L (.int y :: .int x :: st) pc := by
  obtain ⟨p, l, e, R, s, m, args, below, meth, c, cells, slots⟩ := Γ
  obtain ⟨hx, hb, hml, hown, hlocks, hK, hT, hD, hnf, hnl, hcells, hslots⟩ := X
  subst hq
  intro H locs ls hP hS hL
  exact lv_ior hx hb d (k H locs ls hP hS hL)
theorem ww_ixor {Γ : hb_Ctx} {cc : ByteArray} {nL : Nat} {own : String} {Λ : hb_Lay} {G : hb_Gam} {nf nl : Nat} {Q : State → Prop} {σ : hb_Mem} {L : List (Option Value)} {st : List Value} {pc : Nat} {x y : Int32} (q : Nat) (X : hb_X Γ cc nL own Λ G nf nl) (d : decode cc pc = .ok (.ixor, 1)) (hq : pc + 1 = q)  (k : hb_W Γ Λ G nL Q σ L (.int (x ^^^ y) :: st) q) : hb_W Γ Λ G nL Q σ L (.int y :: .int x :: st) pc := by
  obtain ⟨p, l, e, R, s, m, args, below, meth, c, cells, slots⟩ := Γ
  obtain ⟨hx, hb, hml, hown, hlocks, hK, hT, hD, hnf, hnl, hcells, hslots⟩ := X
  subst hq
  intro H locs ls hP hS hL
  exact lv_ixor hx hb d (k H locs ls hP hS hL)
theorem ww_ishl {Γ : hb_Ctx} {cc : ByteArray} {nL : Nat} {own : String} {Λ : hb_Lay} {G : hb_Gam} {nf nl : Nat} {Q : State → Prop} {σ : hb_Mem} {L : List (Option Value)} {st : List Value} {pc : Nat} {x y : Int32} (q : Nat) (X : hb_X Γ cc nL own Λ G nf nl) (d : decode cc pc = .ok (.ishl, 1)) (hq : pc + 1 = q)  (k : hb_W Γ Λ G nL Q σ L (.int (x <<< (y &&& 31)) :: st) q) : hb_W Γ Λ G nL Q σ L (.int y :: .int x :: st) pc := by
  obtain ⟨p, l, e, R, s, m, args, below, meth, c, cells, slots⟩ := Γ
  obtain ⟨hx, hb, hml, hown, hlocks, hK, hT, hD, hnf, hnl, hcells, hslots⟩ := X
  subst hq
  intro H locs ls hP hS hL
  exact lv_ishl hx hb d (k H locs ls hP hS hL)
theorem ww_ishr {Γ : hb_Ctx} {cc : ByteArray} {nL : Nat} {own : String} {Λ : hb_Lay} {G : hb_Gam} {nf nl : Nat} {Q : State → Prop} {σ : hb_Mem} {L : List (Option Value)} {st : List Value} {pc : Nat} {x y : Int32} (q : Nat) (X : hb_X Γ cc nL own Λ G nf nl) (d : decode cc pc = .ok (.ishr, 1)) (hq : pc + 1 = q)  (k : hb_W Γ Λ G nL Q σ L (.int (x >>> (y &&& 31)) :: st) q) : hb_W Γ Λ G nL Q σ L (.int y :: .int x :: st) pc := by
  obtain ⟨p, l, e, R, s, m, args, below, meth, c, cells, slots⟩ := Γ
  obtain ⟨hx, hb, hml, hown, hlocks, hK, hT, hD, hnf, hnl, hcells, hslots⟩ := X
  subst hq
  intro H locs ls hP hS hL
  exact lv_ishr hx hb d (k H locs ls hP hS hL)
theorem ww_iushr {Γ : hb_Ctx} {cc : ByteArray} {nL : Nat} {own : String} {Λ : hb_Lay} {G : hb_Gam} {nf nl : Nat} {Q : State → Prop} {σ : hb_Mem} {L : List (Option Value)} {st : List Value} {pc : Nat} {x y : Int32} (q : Nat) (X : hb_X Γ cc nL own Λ G nf nl) (d : decode cc pc = .ok (.iushr, 1)) (hq : pc + 1 = q)  (k : hb_W Γ Λ G nL Q σ L (.int ((x.toUInt32 >>> (y.toUInt32 &&& Int32.toUInt32 31)).toInt32) :: st) q) : hb_W Γ Λ G nL Q σ L (.int y :: .int x :: st) pc := by
  obtain ⟨p, l, e, R, s, m, args, below, meth, c, cells, slots⟩ := Γ
  obtain ⟨hx, hb, hml, hown, hlocks, hK, hT, hD, hnf, hnl, hcells, hslots⟩ := X
  subst hq
  intro H locs ls hP hS hL
  exact lv_iushr hx hb d rfl (k H locs ls hP hS hL)
theorem ww_idiv {Γ : hb_Ctx} {cc : ByteArray} {nL : Nat} {own : String} {Λ : hb_Lay} {G : hb_Gam} {nf nl : Nat} {Q : State → Prop} {σ : hb_Mem} {L : List (Option Value)} {st : List Value} {pc : Nat} {x y : Int32} (q : Nat) (X : hb_X Γ cc nL own Λ G nf nl) (d : decode cc pc = .ok (.idiv, 1)) (hq : pc + 1 = q) (hne : ¬ y = 0) (k : hb_W Γ Λ G nL Q σ L (.int (x / y) :: st) q) : hb_W Γ Λ G nL Q σ L (.int y :: .int x :: st) pc := by
  obtain ⟨p, l, e, R, s, m, args, below, meth, c, cells, slots⟩ := Γ
  obtain ⟨hx, hb, hml, hown, hlocks, hK, hT, hD, hnf, hnl, hcells, hslots⟩ := X
  subst hq
  intro H locs ls hP hS hL
  exact lv_idiv hx hb d hne (k H locs ls hP hS hL)
theorem ww_irem {Γ : hb_Ctx} {cc : ByteArray} {nL : Nat} {own : String} {Λ : hb_Lay} {G : hb_Gam} {nf nl : Nat} {Q : State → Prop} {σ : hb_Mem} {L : List (Option Value)} {st : List Value} {pc : Nat} {x y : Int32} (q : Nat) (X : hb_X Γ cc nL own Λ G nf nl) (d : decode cc pc = .ok (.irem, 1)) (hq : pc + 1 = q) (hne : ¬ y = 0) (k : hb_W Γ Λ G nL Q σ L (.int (x - x / y * y) :: st) q) : hb_W Γ Λ G nL Q σ L (.int y :: .int x :: st) pc := by
  obtain ⟨p, l, e, R, s, m, args, below, meth, c, cells, slots⟩ := Γ
  obtain ⟨hx, hb, hml, hown, hlocks, hK, hT, hD, hnf, hnl, hcells, hslots⟩ := X
  subst hq
  intro H locs ls hP hS hL
  exact lv_irem hx hb d hne (k H locs ls hP hS hL)
theorem ww_i2c {Γ : hb_Ctx} {cc : ByteArray} {nL : Nat} {own : String} {Λ : hb_Lay} {G : hb_Gam} {nf nl : Nat} {Q : State → Prop} {σ : hb_Mem} {L : List (Option Value)} {st : List Value} {pc : Nat} {x : Int32} (q : Nat) (X : hb_X Γ cc nL own Λ G nf nl) (d : decode cc pc = .ok (.i2c, 1)) (hq : pc + 1 = q)  (k : hb_W Γ Λ G nL Q σ L (.int ((x.toUInt32 % 65536).toInt32) :: st) q) : hb_W Γ Λ G nL Q σ L (.int x :: st) pc := by
  obtain ⟨p, l, e, R, s, m, args, below, meth, c, cells, slots⟩ := Γ
  obtain ⟨hx, hb, hml, hown, hlocks, hK, hT, hD, hnf, hnl, hcells, hslots⟩ := X
  subst hq
  intro H locs ls hP hS hL
  exact lv_i2c hx hb d rfl (k H locs ls hP hS hL)
theorem ww_i2f {Γ : hb_Ctx} {cc : ByteArray} {nL : Nat} {own : String} {Λ : hb_Lay} {G : hb_Gam} {nf nl : Nat} {Q : State → Prop} {σ : hb_Mem} {L : List (Option Value)} {st : List Value} {pc : Nat} {x : Int32} (q : Nat) (X : hb_X Γ cc nL own Λ G nf nl) (d : decode cc pc = .ok (.i2f, 1)) (hq : pc + 1 = q)  (k : hb_W Γ Λ G nL Q σ L (.float (FP.i2f x) :: st) q) : hb_W Γ Λ G nL Q σ L (.int x :: st) pc := by
  obtain ⟨p, l, e, R, s, m, args, below, meth, c, cells, slots⟩ := Γ
  obtain ⟨hx, hb, hml, hown, hlocks, hK, hT, hD, hnf, hnl, hcells, hslots⟩ := X
  subst hq
  intro H locs ls hP hS hL
  exact lv_i2f hx hb d (k H locs ls hP hS hL)
theorem ww_f2i {Γ : hb_Ctx} {cc : ByteArray} {nL : Nat} {own : String} {Λ : hb_Lay} {G : hb_Gam} {nf nl : Nat} {Q : State → Prop} {σ : hb_Mem} {L : List (Option Value)} {st : List Value} {pc : Nat} {x : UInt32} (q : Nat) (X : hb_X Γ cc nL own Λ G nf nl) (d : decode cc pc = .ok (.f2i, 1)) (hq : pc + 1 = q)  (k : hb_W Γ Λ G nL Q σ L (.int (FP.f2i x) :: st) q) : hb_W Γ Λ G nL Q σ L (.float x :: st) pc := by
  obtain ⟨p, l, e, R, s, m, args, below, meth, c, cells, slots⟩ := Γ
  obtain ⟨hx, hb, hml, hown, hlocks, hK, hT, hD, hnf, hnl, hcells, hslots⟩ := X
  subst hq
  intro H locs ls hP hS hL
  exact lv_f2i hx hb d (k H locs ls hP hS hL)
theorem ww_fneg {Γ : hb_Ctx} {cc : ByteArray} {nL : Nat} {own : String} {Λ : hb_Lay} {G : hb_Gam} {nf nl : Nat} {Q : State → Prop} {σ : hb_Mem} {L : List (Option Value)} {st : List Value} {pc : Nat} {x : UInt32} (q : Nat) (X : hb_X Γ cc nL own Λ G nf nl) (d : decode cc pc = .ok (.fneg, 1)) (hq : pc + 1 = q)  (k : hb_W Γ Λ G nL Q σ L (.float (FP.fneg x) :: st) q) : hb_W Γ Λ G nL Q σ L (.float x :: st) pc := by
  obtain ⟨p, l, e, R, s, m, args, below, meth, c, cells, slots⟩ := Γ
  obtain ⟨hx, hb, hml, hown, hlocks, hK, hT, hD, hnf, hnl, hcells, hslots⟩ := X
  subst hq
  intro H locs ls hP hS hL
  exact lv_fneg hx hb d (k H locs ls hP hS hL)
theorem ww_fadd {Γ : hb_Ctx} {cc : ByteArray} {nL : Nat} {own : String} {Λ : hb_Lay} {G : hb_Gam} {nf nl : Nat} {Q : State → Prop} {σ : hb_Mem} {L : List (Option Value)} {st : List Value} {pc : Nat} {x y z : UInt32} (q : Nat) (X : hb_X Γ cc nL own Λ G nf nl) (d : decode cc pc = .ok (.fadd, 1)) (hq : pc + 1 = q) (hz : hb_nn (FP.fadd x y) = some z) (k : hb_W Γ Λ G nL Q σ L (.float z :: st) q) : hb_W Γ Λ G nL Q σ L (.float y :: .float x :: st) pc := by
  obtain ⟨p, l, e, R, s, m, args, below, meth, c, cells, slots⟩ := Γ
  obtain ⟨hx, hb, hml, hown, hlocks, hK, hT, hD, hnf, hnl, hcells, hslots⟩ := X
  subst hq
  intro H locs ls hP hS hL
  exact lv_fadd hx hb d (hb_nn_of hz).1 (by rw [(hb_nn_of hz).2]; exact (k H locs ls hP hS hL))
theorem ww_fmul {Γ : hb_Ctx} {cc : ByteArray} {nL : Nat} {own : String} {Λ : hb_Lay} {G : hb_Gam} {nf nl : Nat} {Q : State → Prop} {σ : hb_Mem} {L : List (Option Value)} {st : List Value} {pc : Nat} {x y z : UInt32} (q : Nat) (X : hb_X Γ cc nL own Λ G nf nl) (d : decode cc pc = .ok (.fmul, 1)) (hq : pc + 1 = q) (hz : hb_nn (FP.fmul x y) = some z) (k : hb_W Γ Λ G nL Q σ L (.float z :: st) q) : hb_W Γ Λ G nL Q σ L (.float y :: .float x :: st) pc := by
  obtain ⟨p, l, e, R, s, m, args, below, meth, c, cells, slots⟩ := Γ
  obtain ⟨hx, hb, hml, hown, hlocks, hK, hT, hD, hnf, hnl, hcells, hslots⟩ := X
  subst hq
  intro H locs ls hP hS hL
  exact lv_fmul hx hb d (hb_nn_of hz).1 (by rw [(hb_nn_of hz).2]; exact (k H locs ls hP hS hL))
theorem ww_fdiv {Γ : hb_Ctx} {cc : ByteArray} {nL : Nat} {own : String} {Λ : hb_Lay} {G : hb_Gam} {nf nl : Nat} {Q : State → Prop} {σ : hb_Mem} {L : List (Option Value)} {st : List Value} {pc : Nat} {x y z : UInt32} (q : Nat) (X : hb_X Γ cc nL own Λ G nf nl) (d : decode cc pc = .ok (.fdiv, 1)) (hq : pc + 1 = q) (hz : hb_nn (FP.fdiv x y) = some z) (k : hb_W Γ Λ G nL Q σ L (.float z :: st) q) : hb_W Γ Λ G nL Q σ L (.float y :: .float x :: st) pc := by
  obtain ⟨p, l, e, R, s, m, args, below, meth, c, cells, slots⟩ := Γ
  obtain ⟨hx, hb, hml, hown, hlocks, hK, hT, hD, hnf, hnl, hcells, hslots⟩ := X
  subst hq
  intro H locs ls hP hS hL
  exact lv_fdiv hx hb d (hb_nn_of hz).1 (by rw [(hb_nn_of hz).2]; exact (k H locs ls hP hS hL))
theorem ww_fcmp {Γ : hb_Ctx} {cc : ByteArray} {nL : Nat} {own : String} {Λ : hb_Lay} {G : hb_Gam} {nf nl : Nat} {Q : State → Prop} {σ : hb_Mem} {L : List (Option Value)} {st : List Value} {pc : Nat} {x y : UInt32} {op : CmpOp} (q : Nat) (X : hb_X Γ cc nL own Λ G nf nl) (d : decode cc pc = .ok (.fcmp op, 1)) (hq : pc + 1 = q)  (k : hb_W Γ Λ G nL Q σ L (.int (Op.cmpValue (FP.fcmp x y) op) :: st) q) : hb_W Γ Λ G nL Q σ L (.float y :: .float x :: st) pc := by
  obtain ⟨p, l, e, R, s, m, args, below, meth, c, cells, slots⟩ := Γ
  obtain ⟨hx, hb, hml, hown, hlocks, hK, hT, hD, hnf, hnl, hcells, hslots⟩ := X
  subst hq
  intro H locs ls hP hS hL
  exact lv_fcmp hx hb d (k H locs ls hP hS hL)
theorem ww_dup {Γ : hb_Ctx} {cc : ByteArray} {nL : Nat} {own : String} {Λ : hb_Lay} {G : hb_Gam} {nf nl : Nat} {Q : State → Prop} {σ : hb_Mem} {L : List (Option Value)} {st : List Value} {pc : Nat} {v : Value} (q : Nat) (X : hb_X Γ cc nL own Λ G nf nl) (d : decode cc pc = .ok (.dup, 1)) (hq : pc + 1 = q) (hc : v.category = 1) (k : hb_W Γ Λ G nL Q σ L (v :: v :: st) q) : hb_W Γ Λ G nL Q σ L (v :: st) pc := by
  obtain ⟨p, l, e, R, s, m, args, below, meth, c, cells, slots⟩ := Γ
  obtain ⟨hx, hb, hml, hown, hlocks, hK, hT, hD, hnf, hnl, hcells, hslots⟩ := X
  subst hq
  intro H locs ls hP hS hL
  exact lv_dup hx hb d hc (k H locs ls hP hS hL)
theorem ww_dup2 {Γ : hb_Ctx} {cc : ByteArray} {nL : Nat} {own : String} {Λ : hb_Lay} {G : hb_Gam} {nf nl : Nat} {Q : State → Prop} {σ : hb_Mem} {L : List (Option Value)} {st : List Value} {pc : Nat} {v w : Value} (q : Nat) (X : hb_X Γ cc nL own Λ G nf nl) (d : decode cc pc = .ok (.dup2, 1)) (hq : pc + 1 = q) (hc : v.category = 1) (hc2 : w.category = 1) (k : hb_W Γ Λ G nL Q σ L (v :: w :: v :: w :: st) q) : hb_W Γ Λ G nL Q σ L (v :: w :: st) pc := by
  obtain ⟨p, l, e, R, s, m, args, below, meth, c, cells, slots⟩ := Γ
  obtain ⟨hx, hb, hml, hown, hlocks, hK, hT, hD, hnf, hnl, hcells, hslots⟩ := X
  subst hq
  intro H locs ls hP hS hL
  exact lv_dup2_11 hx hb d hc hc2 (k H locs ls hP hS hL)
theorem ww_pop {Γ : hb_Ctx} {cc : ByteArray} {nL : Nat} {own : String} {Λ : hb_Lay} {G : hb_Gam} {nf nl : Nat} {Q : State → Prop} {σ : hb_Mem} {L : List (Option Value)} {st : List Value} {pc : Nat} {v : Value} (q : Nat) (X : hb_X Γ cc nL own Λ G nf nl) (d : decode cc pc = .ok (.pop, 1)) (hq : pc + 1 = q) (hc : v.category = 1) (k : hb_W Γ Λ G nL Q σ L st q) : hb_W Γ Λ G nL Q σ L (v :: st) pc := by
  obtain ⟨p, l, e, R, s, m, args, below, meth, c, cells, slots⟩ := Γ
  obtain ⟨hx, hb, hml, hown, hlocks, hK, hT, hD, hnf, hnl, hcells, hslots⟩ := X
  subst hq
  intro H locs ls hP hS hL
  exact lv_pop hx hb d hc (k H locs ls hP hS hL)
theorem ww_goto {Γ : hb_Ctx} {cc : ByteArray} {nL : Nat} {own : String} {Λ : hb_Lay} {G : hb_Gam} {nf nl : Nat} {Q : State → Prop} {σ : hb_Mem} {L : List (Option Value)} {st : List Value} {pc : Nat} {off : Int} (q : Nat) (X : hb_X Γ cc nL own Λ G nf nl) (d : decode cc pc = .ok (.goto off, 3)) (hq : (pc : Int) + off = (q : Int)) (k : hb_W Γ Λ G nL Q σ L st q) : hb_W Γ Λ G nL Q σ L st pc := by
  obtain ⟨p, l, e, R, s, m, args, below, meth, c, cells, slots⟩ := Γ
  obtain ⟨hx, hb, hml, hown, hlocks, hK, hT, hD, hnf, hnl, hcells, hslots⟩ := X
  intro H locs ls hP hS hL
  exact lv_goto hx hb d hq (k H locs ls hP hS hL)
theorem ww_icmp_eq {Γ : hb_Ctx} {cc : ByteArray} {nL : Nat} {own : String} {Λ : hb_Lay} {G : hb_Gam} {nf nl : Nat} {Q : State → Prop} {σ : hb_Mem} {L : List (Option Value)} {st : List Value} {pc : Nat} {T : Type} {x y : Int32} {off : Int} {a b : Option T} {r : T} (q q2 : Nat) (X : hb_X Γ cc nL own Λ G nf nl) (d : decode cc pc = .ok (.if_icmp .eq off, 3)) (hq : (pc : Int) + off = (q : Int)) (hq2 : pc + 3 = q2) (h : (if x = y then a else b) = some r) (k1 : a = some r → hb_W Γ Λ G nL Q σ L st q) (k2 : b = some r → hb_W Γ Λ G nL Q σ L st q2) : hb_W Γ Λ G nL Q σ L (.int y :: .int x :: st) pc := by
  obtain ⟨p, l, e, R, s, m, args, below, meth, c, cells, slots⟩ := Γ
  obtain ⟨hx, hb, hml, hown, hlocks, hK, hT, hD, hnf, hnl, hcells, hslots⟩ := X
  subst hq2
  intro H locs ls hP hS hL
  exact lv_icmp_eq hx hb d hq (fun z => k1 (by rw [if_pos z] at h; exact h) H locs ls hP hS hL) (fun z => k2 (by rw [if_neg z] at h; exact h) H locs ls hP hS hL)
theorem ww_icmp_ne {Γ : hb_Ctx} {cc : ByteArray} {nL : Nat} {own : String} {Λ : hb_Lay} {G : hb_Gam} {nf nl : Nat} {Q : State → Prop} {σ : hb_Mem} {L : List (Option Value)} {st : List Value} {pc : Nat} {T : Type} {x y : Int32} {off : Int} {a b : Option T} {r : T} (q q2 : Nat) (X : hb_X Γ cc nL own Λ G nf nl) (d : decode cc pc = .ok (.if_icmp .ne off, 3)) (hq : (pc : Int) + off = (q : Int)) (hq2 : pc + 3 = q2) (h : (if x = y then a else b) = some r) (k1 : a = some r → hb_W Γ Λ G nL Q σ L st q2) (k2 : b = some r → hb_W Γ Λ G nL Q σ L st q) : hb_W Γ Λ G nL Q σ L (.int y :: .int x :: st) pc := by
  obtain ⟨p, l, e, R, s, m, args, below, meth, c, cells, slots⟩ := Γ
  obtain ⟨hx, hb, hml, hown, hlocks, hK, hT, hD, hnf, hnl, hcells, hslots⟩ := X
  subst hq2
  intro H locs ls hP hS hL
  exact lv_icmp_ne hx hb d hq (fun z => k2 (by rw [if_neg z] at h; exact h) H locs ls hP hS hL) (fun z => k1 (by rw [if_pos z] at h; exact h) H locs ls hP hS hL)
theorem ww_icmp_lt {Γ : hb_Ctx} {cc : ByteArray} {nL : Nat} {own : String} {Λ : hb_Lay} {G : hb_Gam} {nf nl : Nat} {Q : State → Prop} {σ : hb_Mem} {L : List (Option Value)} {st : List Value} {pc : Nat} {T : Type} {x y : Int32} {off : Int} {a b : Option T} {r : T} (q q2 : Nat) (X : hb_X Γ cc nL own Λ G nf nl) (d : decode cc pc = .ok (.if_icmp .lt off, 3)) (hq : (pc : Int) + off = (q : Int)) (hq2 : pc + 3 = q2) (h : (if x < y then a else b) = some r) (k1 : a = some r → hb_W Γ Λ G nL Q σ L st q) (k2 : b = some r → hb_W Γ Λ G nL Q σ L st q2) : hb_W Γ Λ G nL Q σ L (.int y :: .int x :: st) pc := by
  obtain ⟨p, l, e, R, s, m, args, below, meth, c, cells, slots⟩ := Γ
  obtain ⟨hx, hb, hml, hown, hlocks, hK, hT, hD, hnf, hnl, hcells, hslots⟩ := X
  subst hq2
  intro H locs ls hP hS hL
  exact lv_icmp_lt hx hb d hq (fun z => k1 (by rw [if_pos z] at h; exact h) H locs ls hP hS hL) (fun z => k2 (by rw [if_neg z] at h; exact h) H locs ls hP hS hL)
theorem ww_icmp_ge {Γ : hb_Ctx} {cc : ByteArray} {nL : Nat} {own : String} {Λ : hb_Lay} {G : hb_Gam} {nf nl : Nat} {Q : State → Prop} {σ : hb_Mem} {L : List (Option Value)} {st : List Value} {pc : Nat} {T : Type} {x y : Int32} {off : Int} {a b : Option T} {r : T} (q q2 : Nat) (X : hb_X Γ cc nL own Λ G nf nl) (d : decode cc pc = .ok (.if_icmp .ge off, 3)) (hq : (pc : Int) + off = (q : Int)) (hq2 : pc + 3 = q2) (h : (if y ≤ x then a else b) = some r) (k1 : a = some r → hb_W Γ Λ G nL Q σ L st q) (k2 : b = some r → hb_W Γ Λ G nL Q σ L st q2) : hb_W Γ Λ G nL Q σ L (.int y :: .int x :: st) pc := by
  obtain ⟨p, l, e, R, s, m, args, below, meth, c, cells, slots⟩ := Γ
  obtain ⟨hx, hb, hml, hown, hlocks, hK, hT, hD, hnf, hnl, hcells, hslots⟩ := X
  subst hq2
  intro H locs ls hP hS hL
  exact lv_icmp_ge hx hb d hq (fun z => k1 (by rw [if_pos z] at h; exact h) H locs ls hP hS hL) (fun z => k2 (by rw [if_neg z] at h; exact h) H locs ls hP hS hL)
theorem ww_icmp_gt {Γ : hb_Ctx} {cc : ByteArray} {nL : Nat} {own : String} {Λ : hb_Lay} {G : hb_Gam} {nf nl : Nat} {Q : State → Prop} {σ : hb_Mem} {L : List (Option Value)} {st : List Value} {pc : Nat} {T : Type} {x y : Int32} {off : Int} {a b : Option T} {r : T} (q q2 : Nat) (X : hb_X Γ cc nL own Λ G nf nl) (d : decode cc pc = .ok (.if_icmp .gt off, 3)) (hq : (pc : Int) + off = (q : Int)) (hq2 : pc + 3 = q2) (h : (if y < x then a else b) = some r) (k1 : a = some r → hb_W Γ Λ G nL Q σ L st q) (k2 : b = some r → hb_W Γ Λ G nL Q σ L st q2) : hb_W Γ Λ G nL Q σ L (.int y :: .int x :: st) pc := by
  obtain ⟨p, l, e, R, s, m, args, below, meth, c, cells, slots⟩ := Γ
  obtain ⟨hx, hb, hml, hown, hlocks, hK, hT, hD, hnf, hnl, hcells, hslots⟩ := X
  subst hq2
  intro H locs ls hP hS hL
  exact lv_icmp_gt hx hb d hq (fun z => k1 (by rw [if_pos z] at h; exact h) H locs ls hP hS hL) (fun z => k2 (by rw [if_neg z] at h; exact h) H locs ls hP hS hL)
theorem ww_icmp_le {Γ : hb_Ctx} {cc : ByteArray} {nL : Nat} {own : String} {Λ : hb_Lay} {G : hb_Gam} {nf nl : Nat} {Q : State → Prop} {σ : hb_Mem} {L : List (Option Value)} {st : List Value} {pc : Nat} {T : Type} {x y : Int32} {off : Int} {a b : Option T} {r : T} (q q2 : Nat) (X : hb_X Γ cc nL own Λ G nf nl) (d : decode cc pc = .ok (.if_icmp .le off, 3)) (hq : (pc : Int) + off = (q : Int)) (hq2 : pc + 3 = q2) (h : (if x ≤ y then a else b) = some r) (k1 : a = some r → hb_W Γ Λ G nL Q σ L st q) (k2 : b = some r → hb_W Γ Λ G nL Q σ L st q2) : hb_W Γ Λ G nL Q σ L (.int y :: .int x :: st) pc := by
  obtain ⟨p, l, e, R, s, m, args, below, meth, c, cells, slots⟩ := Γ
  obtain ⟨hx, hb, hml, hown, hlocks, hK, hT, hD, hnf, hnl, hcells, hslots⟩ := X
  subst hq2
  intro H locs ls hP hS hL
  exact lv_icmp_le hx hb d hq (fun z => k1 (by rw [if_pos z] at h; exact h) H locs ls hP hS hL) (fun z => k2 (by rw [if_neg z] at h; exact h) H locs ls hP hS hL)
theorem ww_if_eq {Γ : hb_Ctx} {cc : ByteArray} {nL : Nat} {own : String} {Λ : hb_Lay} {G : hb_Gam} {nf nl : Nat} {Q : State → Prop} {σ : hb_Mem} {L : List (Option Value)} {st : List Value} {pc : Nat} {T : Type} {x : Int32} {off : Int} {a b : Option T} {r : T} (q q2 : Nat) (X : hb_X Γ cc nL own Λ G nf nl) (d : decode cc pc = .ok (.ifCond .eq off, 3)) (hq : (pc : Int) + off = (q : Int)) (hq2 : pc + 3 = q2) (h : (if x = 0 then a else b) = some r) (k1 : a = some r → hb_W Γ Λ G nL Q σ L st q) (k2 : b = some r → hb_W Γ Λ G nL Q σ L st q2) : hb_W Γ Λ G nL Q σ L (.int x :: st) pc := by
  obtain ⟨p, l, e, R, s, m, args, below, meth, c, cells, slots⟩ := Γ
  obtain ⟨hx, hb, hml, hown, hlocks, hK, hT, hD, hnf, hnl, hcells, hslots⟩ := X
  subst hq2
  intro H locs ls hP hS hL
  exact lv_if_eq hx hb d hq (fun z => k1 (by rw [if_pos z] at h; exact h) H locs ls hP hS hL) (fun z => k2 (by rw [if_neg z] at h; exact h) H locs ls hP hS hL)
theorem ww_if_ne {Γ : hb_Ctx} {cc : ByteArray} {nL : Nat} {own : String} {Λ : hb_Lay} {G : hb_Gam} {nf nl : Nat} {Q : State → Prop} {σ : hb_Mem} {L : List (Option Value)} {st : List Value} {pc : Nat} {T : Type} {x : Int32} {off : Int} {a b : Option T} {r : T} (q q2 : Nat) (X : hb_X Γ cc nL own Λ G nf nl) (d : decode cc pc = .ok (.ifCond .ne off, 3)) (hq : (pc : Int) + off = (q : Int)) (hq2 : pc + 3 = q2) (h : (if x = 0 then a else b) = some r) (k1 : a = some r → hb_W Γ Λ G nL Q σ L st q2) (k2 : b = some r → hb_W Γ Λ G nL Q σ L st q) : hb_W Γ Λ G nL Q σ L (.int x :: st) pc := by
  obtain ⟨p, l, e, R, s, m, args, below, meth, c, cells, slots⟩ := Γ
  obtain ⟨hx, hb, hml, hown, hlocks, hK, hT, hD, hnf, hnl, hcells, hslots⟩ := X
  subst hq2
  intro H locs ls hP hS hL
  exact lv_if_ne hx hb d hq (fun z => k2 (by rw [if_neg z] at h; exact h) H locs ls hP hS hL) (fun z => k1 (by rw [if_pos z] at h; exact h) H locs ls hP hS hL)
theorem ww_if_lt {Γ : hb_Ctx} {cc : ByteArray} {nL : Nat} {own : String} {Λ : hb_Lay} {G : hb_Gam} {nf nl : Nat} {Q : State → Prop} {σ : hb_Mem} {L : List (Option Value)} {st : List Value} {pc : Nat} {T : Type} {x : Int32} {off : Int} {a b : Option T} {r : T} (q q2 : Nat) (X : hb_X Γ cc nL own Λ G nf nl) (d : decode cc pc = .ok (.ifCond .lt off, 3)) (hq : (pc : Int) + off = (q : Int)) (hq2 : pc + 3 = q2) (h : (if x < 0 then a else b) = some r) (k1 : a = some r → hb_W Γ Λ G nL Q σ L st q) (k2 : b = some r → hb_W Γ Λ G nL Q σ L st q2) : hb_W Γ Λ G nL Q σ L (.int x :: st) pc := by
  obtain ⟨p, l, e, R, s, m, args, below, meth, c, cells, slots⟩ := Γ
  obtain ⟨hx, hb, hml, hown, hlocks, hK, hT, hD, hnf, hnl, hcells, hslots⟩ := X
  subst hq2
  intro H locs ls hP hS hL
  exact lv_if_lt hx hb d hq (fun z => k1 (by rw [if_pos z] at h; exact h) H locs ls hP hS hL) (fun z => k2 (by rw [if_neg z] at h; exact h) H locs ls hP hS hL)
theorem ww_if_ge {Γ : hb_Ctx} {cc : ByteArray} {nL : Nat} {own : String} {Λ : hb_Lay} {G : hb_Gam} {nf nl : Nat} {Q : State → Prop} {σ : hb_Mem} {L : List (Option Value)} {st : List Value} {pc : Nat} {T : Type} {x : Int32} {off : Int} {a b : Option T} {r : T} (q q2 : Nat) (X : hb_X Γ cc nL own Λ G nf nl) (d : decode cc pc = .ok (.ifCond .ge off, 3)) (hq : (pc : Int) + off = (q : Int)) (hq2 : pc + 3 = q2) (h : (if 0 ≤ x then a else b) = some r) (k1 : a = some r → hb_W Γ Λ G nL Q σ L st q) (k2 : b = some r → hb_W Γ Λ G nL Q σ L st q2) : hb_W Γ Λ G nL Q σ L (.int x :: st) pc := by
  obtain ⟨p, l, e, R, s, m, args, below, meth, c, cells, slots⟩ := Γ
  obtain ⟨hx, hb, hml, hown, hlocks, hK, hT, hD, hnf, hnl, hcells, hslots⟩ := X
  subst hq2
  intro H locs ls hP hS hL
  exact lv_if_ge hx hb d hq (fun z => k1 (by rw [if_pos z] at h; exact h) H locs ls hP hS hL) (fun z => k2 (by rw [if_neg z] at h; exact h) H locs ls hP hS hL)
theorem ww_if_gt {Γ : hb_Ctx} {cc : ByteArray} {nL : Nat} {own : String} {Λ : hb_Lay} {G : hb_Gam} {nf nl : Nat} {Q : State → Prop} {σ : hb_Mem} {L : List (Option Value)} {st : List Value} {pc : Nat} {T : Type} {x : Int32} {off : Int} {a b : Option T} {r : T} (q q2 : Nat) (X : hb_X Γ cc nL own Λ G nf nl) (d : decode cc pc = .ok (.ifCond .gt off, 3)) (hq : (pc : Int) + off = (q : Int)) (hq2 : pc + 3 = q2) (h : (if 0 < x then a else b) = some r) (k1 : a = some r → hb_W Γ Λ G nL Q σ L st q) (k2 : b = some r → hb_W Γ Λ G nL Q σ L st q2) : hb_W Γ Λ G nL Q σ L (.int x :: st) pc := by
  obtain ⟨p, l, e, R, s, m, args, below, meth, c, cells, slots⟩ := Γ
  obtain ⟨hx, hb, hml, hown, hlocks, hK, hT, hD, hnf, hnl, hcells, hslots⟩ := X
  subst hq2
  intro H locs ls hP hS hL
  exact lv_if_gt hx hb d hq (fun z => k1 (by rw [if_pos z] at h; exact h) H locs ls hP hS hL) (fun z => k2 (by rw [if_neg z] at h; exact h) H locs ls hP hS hL)
theorem ww_if_le {Γ : hb_Ctx} {cc : ByteArray} {nL : Nat} {own : String} {Λ : hb_Lay} {G : hb_Gam} {nf nl : Nat} {Q : State → Prop} {σ : hb_Mem} {L : List (Option Value)} {st : List Value} {pc : Nat} {T : Type} {x : Int32} {off : Int} {a b : Option T} {r : T} (q q2 : Nat) (X : hb_X Γ cc nL own Λ G nf nl) (d : decode cc pc = .ok (.ifCond .le off, 3)) (hq : (pc : Int) + off = (q : Int)) (hq2 : pc + 3 = q2) (h : (if x ≤ 0 then a else b) = some r) (k1 : a = some r → hb_W Γ Λ G nL Q σ L st q) (k2 : b = some r → hb_W Γ Λ G nL Q σ L st q2) : hb_W Γ Λ G nL Q σ L (.int x :: st) pc := by
  obtain ⟨p, l, e, R, s, m, args, below, meth, c, cells, slots⟩ := Γ
  obtain ⟨hx, hb, hml, hown, hlocks, hK, hT, hD, hnf, hnl, hcells, hslots⟩ := X
  subst hq2
  intro H locs ls hP hS hL
  exact lv_if_le hx hb d hq (fun z => k1 (by rw [if_pos z] at h; exact h) H locs ls hP hS hL) (fun z => k2 (by rw [if_neg z] at h; exact h) H locs ls hP hS hL)
theorem ww_ifnull_r {Γ : hb_Ctx} {cc : ByteArray} {nL : Nat} {own : String} {Λ : hb_Lay} {G : hb_Gam} {nf nl : Nat} {Q : State → Prop} {σ : hb_Mem} {L : List (Option Value)} {st : List Value} {pc : Nat} {x : Nat} {off : Int} (q : Nat) (X : hb_X Γ cc nL own Λ G nf nl) (d : decode cc pc = .ok (.ifnull off, 3)) (hq : pc + 3 = q)  (k : hb_W Γ Λ G nL Q σ L st q) : hb_W Γ Λ G nL Q σ L (.ref x :: st) pc := by
  obtain ⟨p, l, e, R, s, m, args, below, meth, c, cells, slots⟩ := Γ
  obtain ⟨hx, hb, hml, hown, hlocks, hK, hT, hD, hnf, hnl, hcells, hslots⟩ := X
  subst hq
  intro H locs ls hP hS hL
  exact lv_ifnull hx hb d (k H locs ls hP hS hL)
theorem ww_ifnull_n {Γ : hb_Ctx} {cc : ByteArray} {nL : Nat} {own : String} {Λ : hb_Lay} {G : hb_Gam} {nf nl : Nat} {Q : State → Prop} {σ : hb_Mem} {L : List (Option Value)} {st : List Value} {pc : Nat} {off : Int} (q : Nat) (X : hb_X Γ cc nL own Λ G nf nl) (d : decode cc pc = .ok (.ifnull off, 3)) (hq : (pc : Int) + off = (q : Int)) (k : hb_W Γ Λ G nL Q σ L st q) : hb_W Γ Λ G nL Q σ L (.null :: st) pc := by
  obtain ⟨p, l, e, R, s, m, args, below, meth, c, cells, slots⟩ := Γ
  obtain ⟨hx, hb, hml, hown, hlocks, hK, hT, hD, hnf, hnl, hcells, hslots⟩ := X
  intro H locs ls hP hS hL
  exact lv_ifnullN hx hb d hq (k H locs ls hP hS hL)
theorem ww_tabIn {Γ : hb_Ctx} {cc : ByteArray} {nL : Nat} {own : String} {Λ : hb_Lay} {G : hb_Gam} {nf nl : Nat} {Q : State → Prop} {σ : hb_Mem} {L : List (Option Value)} {st : List Value} {pc : Nat} {dflt lo hi : Int} {offs : Array Int} {len : Nat} {x : Int32} (off : Int) (q : Nat) (X : hb_X Γ cc nL own Λ G nf nl) (d : decode cc pc = .ok (.tableswitch dflt lo hi offs, len)) (h1 : ¬ x.toInt < lo) (h2 : ¬ hi < x.toInt) (ho : offs[(x.toInt - lo).toNat]? = some off) (hq : (pc : Int) + off = (q : Int)) (k : hb_W Γ Λ G nL Q σ L st q) : hb_W Γ Λ G nL Q σ L (.int x :: st) pc := by
  obtain ⟨p, l, e, R, s, m, args, below, meth, c, cells, slots⟩ := Γ
  obtain ⟨hx, hb, hml, hown, hlocks, hK, hT, hD, hnf, hnl, hcells, hslots⟩ := X
  intro H locs ls hP hS hL
  exact lv_tableIn hx hb d h1 h2 ho hq (k H locs ls hP hS hL)
theorem ww_tabOut {Γ : hb_Ctx} {cc : ByteArray} {nL : Nat} {own : String} {Λ : hb_Lay} {G : hb_Gam} {nf nl : Nat} {Q : State → Prop} {σ : hb_Mem} {L : List (Option Value)} {st : List Value} {pc : Nat} {dflt lo hi : Int} {offs : Array Int} {len : Nat} {x : Int32} (q : Nat) (X : hb_X Γ cc nL own Λ G nf nl) (d : decode cc pc = .ok (.tableswitch dflt lo hi offs, len)) (h : x.toInt < lo ∨ hi < x.toInt) (hq : (pc : Int) + dflt = (q : Int)) (k : hb_W Γ Λ G nL Q σ L st q) : hb_W Γ Λ G nL Q σ L (.int x :: st) pc := by
  obtain ⟨p, l, e, R, s, m, args, below, meth, c, cells, slots⟩ := Γ
  obtain ⟨hx, hb, hml, hown, hlocks, hK, hT, hD, hnf, hnl, hcells, hslots⟩ := X
  intro H locs ls hP hS hL
  exact lv_tableOut hx hb d h hq (k H locs ls hP hS hL)
theorem ww_look {Γ : hb_Ctx} {cc : ByteArray} {nL : Nat} {own : String} {Λ : hb_Lay} {G : hb_Gam} {nf nl : Nat} {Q : State → Prop} {σ : hb_Mem} {L : List (Option Value)} {st : List Value} {pc : Nat} {dflt : Int} {ps : Array (Int × Int)} {len : Nat} {x : Int32} (off : Int) (q : Nat) (X : hb_X Γ cc nL own Λ G nf nl) (d : decode cc pc = .ok (.lookupswitch dflt ps, len)) (hp : (ps.toList.zip (ps.toList.drop 1)).all (fun (a, next) => a.1 < next.1) = true) (ho : Op.lookupswitch.offset ps.toList dflt x.toInt = off) (hq : (pc : Int) + off = (q : Int)) (k : hb_W Γ Λ G nL Q σ L st q) : hb_W Γ Λ G nL Q σ L (.int x :: st) pc := by
  obtain ⟨p, l, e, R, s, m, args, below, meth, c, cells, slots⟩ := Γ
  obtain ⟨hx, hb, hml, hown, hlocks, hK, hT, hD, hnf, hnl, hcells, hslots⟩ := X
  intro H locs ls hP hS hL
  exact lv_lookup hx hb d hp ho hq (k H locs ls hP hS hL)
theorem hb_ne_toInt {x y : Int32} (h : ¬ x = y) (c : Int) (hc : y.toInt = c) : ¬ x.toInt = c := fun z => h (Int32.toInt_inj.mp (z.trans hc.symm))
theorem ww_f2raw {Γ : hb_Ctx} {cc : ByteArray} {nL : Nat} {own : String} {Λ : hb_Lay} {G : hb_Gam} {nf nl : Nat} {Q : State → Prop} {σ : hb_Mem} {L : List (Option Value)} {st : List Value} {pc : Nat} {idx : Nat} {b : UInt32} (q : Nat) (X : hb_X Γ cc nL own Λ G nf nl) (w1 : (Cond.methodLink own idx ⟨"java/lang/Float", "floatToRawIntBits", "(F)I"⟩) ∈ lw_tbl) (w2 : (Cond.native ⟨"java/lang/Float", "floatToRawIntBits", "(F)I"⟩) ∈ lw_tbl) (w3 : (Cond.static ⟨"java/lang/Float", "floatToRawIntBits", "(F)I"⟩) ∈ lw_tbl) (w4 : (Cond.initialized "java/lang/Float") ∈ lw_tbl) (hf : 1 ≤ nf) (hl : 23 ≤ nl) (hrest : (st.map fun v => v.category).sum ≤ 8) (d : decode cc pc = .ok (.invokestatic idx, 3)) (hq : pc + 3 = q) (k : hb_W Γ Λ G nL Q σ L (.int (b.toInt32) :: st) q) : hb_W Γ Λ G nL Q σ L (.float b :: st) pc := by
  obtain ⟨p, l, e, R, s, m, args, below, meth, c, cells, slots⟩ := Γ
  obtain ⟨hx, hb, hml, hown, hlocks, hK, hT, hD, hnf, hnl, hcells, hslots⟩ := X
  subst hq
  intro H locs ls hP hS hL
  exact vn_f2i hx hb (hml.trans hL.2.1.symm) hown (hT _ w1 rfl _) (hT _ w2 rfl _) (hT _ w3 rfl _) (hT _ w4 rfl _) (Nat.le_trans hf hnf) (Nat.le_trans (Nat.add_le_add_right hrest 15) (Nat.le_trans hl hnl)) d (k H locs ls hP hS hL)
def hb_kill : List Nat → List (Option Value) → List (Option Value)
  | [], L => L
  | i :: is, L => (hb_kill is L).set i none
theorem hb_kill_len : ∀ (is : List Nat) (L : List (Option Value)), (hb_kill is L).length = L.length
  | [], L => rfl
  | i :: is, L => by rw [hb_kill, List.length_set, hb_kill_len is L]
theorem hb_kill_get : ∀ (is : List Nat) (L : List (Option Value)) (j : Nat) (v : Value), (hb_kill is L)[j]? = some (some v) → L[j]? = some (some v)
  | [], L, j, v, h => h
  | i :: is, L, j, v, h => by
    rw [hb_kill] at h
    by_cases hij : i = j
    · subst hij
      by_cases hl : i < (hb_kill is L).length
      · rw [List.getElem?_set_self hl] at h
        cases h
      · rw [List.getElem?_eq_none (by rw [List.length_set]; omega)] at h
        cases h
    · rw [List.getElem?_set_ne hij] at h
      exact hb_kill_get is L j v h
theorem ww_kill {Γ : hb_Ctx} {nL : Nat} {Λ : hb_Lay} {G : hb_Gam} {Q : State → Prop} {σ : hb_Mem} {L : List (Option Value)} {st : List Value} {pc : Nat} {L' : List (Option Value)} (is : List Nat) (hl : hb_kill is L = L') (k : hb_W Γ Λ G nL Q σ L' st pc) : hb_W Γ Λ G nL Q σ L st pc := by
  obtain ⟨p, l, e, R, s, m, args, below, meth, c, cells, slots⟩ := Γ
  subst hl
  intro H locs ls hP hS hL
  exact k H locs ls hP hS ⟨by rw [hb_kill_len]; exact hL.1, hL.2.1, hL.2.2.1, fun i v hv => hL.2.2.2 i v (hb_kill_get is L i v hv)⟩
theorem ww_geti {Γ : hb_Ctx} {cc : ByteArray} {nL : Nat} {own : String} {Λ : hb_Lay} {G : hb_Gam} {nf nl : Nat} {Q : State → Prop} {σ : hb_Mem} {L : List (Option Value)} {st : List Value} {pc : Nat} {a ci j idx N : Nat} {C : String} {T : u_T} (q : Nat) (X : hb_X Γ cc nL own Λ G nf nl) (F : vwCl[ci]? = some (C, T, N) ∧ (∀ w ∈ u_ws C T N, w ∈ lw_tbl) ∧ (∀ w ∈ u_ws C T N, goodWord w = true) ∧ ci < 7 ∧ hb_nf ci = N) (hw : (Cond.fieldLink own idx (T j).1 (T j).2.1 (T j).2.2.1) ∈ lw_tbl) (hj : j < N) (hr : hb_rf ci j = false) (ha0 : hb_is Λ a ci) (d : decode cc pc = .ok (.getfield idx, 3)) (hq : pc + 3 = q) (k : hb_W Γ Λ G nL Q σ L (.int (σ a j) :: st) q) : hb_W Γ Λ G nL Q σ L (.ref (G.2.2.2 a) :: st) pc := by
  obtain ⟨p, l, e, R, s, m, args, below, meth, c, cells, slots⟩ := Γ
  obtain ⟨hx, hb, hml, hown, hlocks, hK, hT, hD, hnf, hnl, hcells, hslots⟩ := X
  obtain ⟨hlt, ha⟩ := ha0
  obtain ⟨hc, hin, hgw, h7, hN⟩ := F
  subst hq
  intro H locs ls hP hS hL
  have hg := hb_fs_get (ad := G.2.2.2) (Λ := Λ) (σ := σ) (k := a) (j := j) (by rw [ha, hN]; exact hj)
  rw [ha, hr] at hg
  exact va_get (ws := hb_wL Λ G σ) (Ts := u_ws C T N) hx hb (fun w h => hT w (hin w h) (by rw [hgw w h]; rfl) args) (fun _ h => h) hown hK hP a (fs := hb_fs Λ G.2.2.2 σ a) (by rw [hb_wL_get hlt, hb_cell_obj ha h7]) hc j hj (hT _ hw (by rfl) args) (fun _ h => h) hg d (k H locs ls hP hS hL)
theorem ww_getr {Γ : hb_Ctx} {cc : ByteArray} {nL : Nat} {own : String} {Λ : hb_Lay} {G : hb_Gam} {nf nl : Nat} {Q : State → Prop} {σ : hb_Mem} {L : List (Option Value)} {st : List Value} {pc : Nat} {a ci j idx N : Nat} {C : String} {T : u_T} (q : Nat) (X : hb_X Γ cc nL own Λ G nf nl) (F : vwCl[ci]? = some (C, T, N) ∧ (∀ w ∈ u_ws C T N, w ∈ lw_tbl) ∧ (∀ w ∈ u_ws C T N, goodWord w = true) ∧ ci < 7 ∧ hb_nf ci = N) (hw : (Cond.fieldLink own idx (T j).1 (T j).2.1 (T j).2.2.1) ∈ lw_tbl) (hj : j < N) (hr : hb_rf ci j = true) (ha0 : hb_is Λ a ci) (d : decode cc pc = .ok (.getfield idx, 3)) (hq : pc + 3 = q) (k : hb_W Γ Λ G nL Q σ L (.ref (G.2.2.2 (Λ.2.2.1 a j)) :: st) q) : hb_W Γ Λ G nL Q σ L (.ref (G.2.2.2 a) :: st) pc := by
  obtain ⟨p, l, e, R, s, m, args, below, meth, c, cells, slots⟩ := Γ
  obtain ⟨hx, hb, hml, hown, hlocks, hK, hT, hD, hnf, hnl, hcells, hslots⟩ := X
  obtain ⟨hlt, ha⟩ := ha0
  obtain ⟨hc, hin, hgw, h7, hN⟩ := F
  subst hq
  intro H locs ls hP hS hL
  have hg := hb_fs_get (ad := G.2.2.2) (Λ := Λ) (σ := σ) (k := a) (j := j) (by rw [ha, hN]; exact hj)
  rw [ha, hr] at hg
  exact va_get (ws := hb_wL Λ G σ) (Ts := u_ws C T N) hx hb (fun w h => hT w (hin w h) (by rw [hgw w h]; rfl) args) (fun _ h => h) hown hK hP a (fs := hb_fs Λ G.2.2.2 σ a) (by rw [hb_wL_get hlt, hb_cell_obj ha h7]) hc j hj (hT _ hw (by rfl) args) (fun _ h => h) hg d (k H locs ls hP hS hL)
theorem ww_put {Γ : hb_Ctx} {cc : ByteArray} {nL : Nat} {own : String} {Λ : hb_Lay} {G : hb_Gam} {nf nl : Nat} {Q : State → Prop} {σ : hb_Mem} {L : List (Option Value)} {st : List Value} {pc : Nat} {a ci j idx N : Nat} {C : String} {T : u_T} {v : Int32} {ty : FieldType} {σ' : hb_Mem} (q : Nat) (X : hb_X Γ cc nL own Λ G nf nl) (F : vwCl[ci]? = some (C, T, N) ∧ (∀ w ∈ u_ws C T N, w ∈ lw_tbl) ∧ (∀ w ∈ u_ws C T N, goodWord w = true) ∧ ci < 7 ∧ hb_nf ci = N) (F2 : ∃ ty0 : Nat → FieldType, (∀ k, k < N → parseFieldDescriptor (T k).2.2.1 = some (ty0 k)) ∧ ∀ a, a < N → ∀ b, b < N → a ≠ b → (T a).2.1 ≠ (T b).2.1) (hw : (Cond.fieldLink own idx (T j).1 (T j).2.1 (T j).2.2.1) ∈ lw_tbl) (hj : j < N) (hr : hb_rf ci j = false) (hfin : (T j).2.2.2 = false) (hd : parseFieldDescriptor (T j).2.2.1 = some ty) (hn : narrow ty (.int v) = .int v) (hfit : fits ty (.int v) = true) (ha0 : hb_is Λ a ci) (hs : hb_up σ a j v = σ') (d : decode cc pc = .ok (.putfield idx, 3)) (hq : pc + 3 = q) (k : hb_W Γ Λ G nL Q σ' L st q) : hb_W Γ Λ G nL Q σ L (.int v :: .ref (G.2.2.2 a) :: st) pc := by
  obtain ⟨p, l, e, R, s, m, args, below, meth, c, cells, slots⟩ := Γ
  obtain ⟨hx, hb, hml, hown, hlocks, hK, hT, hD, hnf, hnl, hcells, hslots⟩ := X
  obtain ⟨hlt, ha⟩ := ha0
  obtain ⟨hc, hin, hgw, h7, hN⟩ := F
  obtain ⟨ty0, hty, hnm⟩ := F2
  subst hq; subst hs
  intro H locs ls hP hS hL
  refine va_put (ws := hb_wL Λ G σ) (Ts := u_ws C T N) hx hb (fun w h => hT w (hin w h) (by rw [hgw w h]; rfl) args) (fun _ h => h) ty0 hty hnm hown hK hP (hD σ) hS a (fs := hb_fs Λ G.2.2.2 σ a) (by rw [hb_wL_get hlt, hb_cell_obj ha h7]) hc j hj (hT _ hw (by rfl) args) (fun _ h => h) hfin hd hn hfit (by rw [hb_fs_len, ha, hN]; exact hj) d (fun H1 locs1 hP1 hD1 hS1 => ?_)
  rw [hb_wL_up_obj hlt ha h7 hr] at hP1
  exact k H1 locs1 ls hP1 hS1 hL
theorem ww_getiN {Γ : hb_Ctx} {cc : ByteArray} {nL : Nat} {own : String} {Λ : hb_Lay} {G : hb_Gam} {nf nl : Nat} {Q : State → Prop} {σ : hb_Mem} {L : List (Option Value)} {st : List Value} {pc : Nat} {a ci j idx N : Nat} {C : String} {T : u_T} {host : String} (q : Nat) (X : hb_X Γ cc nL own Λ G nf nl) (F : vwCl[ci]? = some (C, T, N) ∧ (∀ w ∈ u_ws C T N, w ∈ lw_tbl) ∧ (∀ w ∈ u_ws C T N, goodWord w = true) ∧ ci < 7 ∧ hb_nf ci = N) (hw : (Cond.fieldLinkNest own idx (T j).1 (T j).2.1 (T j).2.2.1 host) ∈ lw_tbl) (hj : j < N) (hr : hb_rf ci j = false) (ha0 : hb_is Λ a ci) (d : decode cc pc = .ok (.getfield idx, 3)) (hq : pc + 3 = q) (k : hb_W Γ Λ G nL Q σ L (.int (σ a j) :: st) q) : hb_W Γ Λ G nL Q σ L (.ref (G.2.2.2 a) :: st) pc := by
  obtain ⟨p, l, e, R, s, m, args, below, meth, c, cells, slots⟩ := Γ
  obtain ⟨hx, hb, hml, hown, hlocks, hK, hT, hD, hnf, hnl, hcells, hslots⟩ := X
  obtain ⟨hlt, ha⟩ := ha0
  obtain ⟨hc, hin, hgw, h7, hN⟩ := F
  subst hq
  intro H locs ls hP hS hL
  have hg := hb_fs_get (ad := G.2.2.2) (Λ := Λ) (σ := σ) (k := a) (j := j) (by rw [ha, hN]; exact hj)
  rw [ha, hr] at hg
  exact va_getN (ws := hb_wL Λ G σ) (Ts := u_ws C T N) hx hb (fun w h => hT w (hin w h) (by rw [hgw w h]; rfl) args) (fun _ h => h) hown hK hP a (fs := hb_fs Λ G.2.2.2 σ a) (by rw [hb_wL_get hlt, hb_cell_obj ha h7]) hc j hj (hT _ hw (by rfl) args) (fun _ h => h) hg d (k H locs ls hP hS hL)
theorem ww_getrN {Γ : hb_Ctx} {cc : ByteArray} {nL : Nat} {own : String} {Λ : hb_Lay} {G : hb_Gam} {nf nl : Nat} {Q : State → Prop} {σ : hb_Mem} {L : List (Option Value)} {st : List Value} {pc : Nat} {a ci j idx N : Nat} {C : String} {T : u_T} {host : String} (q : Nat) (X : hb_X Γ cc nL own Λ G nf nl) (F : vwCl[ci]? = some (C, T, N) ∧ (∀ w ∈ u_ws C T N, w ∈ lw_tbl) ∧ (∀ w ∈ u_ws C T N, goodWord w = true) ∧ ci < 7 ∧ hb_nf ci = N) (hw : (Cond.fieldLinkNest own idx (T j).1 (T j).2.1 (T j).2.2.1 host) ∈ lw_tbl) (hj : j < N) (hr : hb_rf ci j = true) (ha0 : hb_is Λ a ci) (d : decode cc pc = .ok (.getfield idx, 3)) (hq : pc + 3 = q) (k : hb_W Γ Λ G nL Q σ L (.ref (G.2.2.2 (Λ.2.2.1 a j)) :: st) q) : hb_W Γ Λ G nL Q σ L (.ref (G.2.2.2 a) :: st) pc := by
  obtain ⟨p, l, e, R, s, m, args, below, meth, c, cells, slots⟩ := Γ
  obtain ⟨hx, hb, hml, hown, hlocks, hK, hT, hD, hnf, hnl, hcells, hslots⟩ := X
  obtain ⟨hlt, ha⟩ := ha0
  obtain ⟨hc, hin, hgw, h7, hN⟩ := F
  subst hq
  intro H locs ls hP hS hL
  have hg := hb_fs_get (ad := G.2.2.2) (Λ := Λ) (σ := σ) (k := a) (j := j) (by rw [ha, hN]; exact hj)
  rw [ha, hr] at hg
  exact va_getN (ws := hb_wL Λ G σ) (Ts := u_ws C T N) hx hb (fun w h => hT w (hin w h) (by rw [hgw w h]; rfl) args) (fun _ h => h) hown hK hP a (fs := hb_fs Λ G.2.2.2 σ a) (by rw [hb_wL_get hlt, hb_cell_obj ha h7]) hc j hj (hT _ hw (by rfl) args) (fun _ h => h) hg d (k H locs ls hP hS hL)
theorem ww_putN {Γ : hb_Ctx} {cc : ByteArray} {nL : Nat} {own : String} {Λ : hb_Lay} {G : hb_Gam} {nf nl : Nat} {Q : State → Prop} {σ : hb_Mem} {L : List (Option Value)} {st : List Value} {pc : Nat} {a ci j idx N : Nat} {C : String} {T : u_T} {v : Int32} {ty : FieldType} {σ' : hb_Mem} {host : String} (q : Nat) (X : hb_X Γ cc nL own Λ G nf nl) (F : vwCl[ci]? = some (C, T, N) ∧ (∀ w ∈ u_ws C T N, w ∈ lw_tbl) ∧ (∀ w ∈ u_ws C T N, goodWord w = true) ∧ ci < 7 ∧ hb_nf ci = N) (F2 : ∃ ty0 : Nat → FieldType, (∀ k, k < N → parseFieldDescriptor (T k).2.2.1 = some (ty0 k)) ∧ ∀ a, a < N → ∀ b, b < N → a ≠ b → (T a).2.1 ≠ (T b).2.1) (hw : (Cond.fieldLinkNest own idx (T j).1 (T j).2.1 (T j).2.2.1 host) ∈ lw_tbl) (hj : j < N) (hr : hb_rf ci j = false) (hfin : (T j).2.2.2 = false) (hd : parseFieldDescriptor (T j).2.2.1 = some ty) (hn : narrow ty (.int v) = .int v) (hfit : fits ty (.int v) = true) (ha0 : hb_is Λ a ci) (hs : hb_up σ a j v = σ') (d : decode cc pc = .ok (.putfield idx, 3)) (hq : pc + 3 = q) (k : hb_W Γ Λ G nL Q σ' L st q) : hb_W Γ Λ G nL Q σ L (.int v :: .ref (G.2.2.2 a) :: st) pc := by
  obtain ⟨p, l, e, R, s, m, args, below, meth, c, cells, slots⟩ := Γ
  obtain ⟨hx, hb, hml, hown, hlocks, hK, hT, hD, hnf, hnl, hcells, hslots⟩ := X
  obtain ⟨hlt, ha⟩ := ha0
  obtain ⟨hc, hin, hgw, h7, hN⟩ := F
  obtain ⟨ty0, hty, hnm⟩ := F2
  subst hq; subst hs
  intro H locs ls hP hS hL
  refine va_putN (ws := hb_wL Λ G σ) (Ts := u_ws C T N) hx hb (fun w h => hT w (hin w h) (by rw [hgw w h]; rfl) args) (fun _ h => h) ty0 hty hnm hown hK hP (hD σ) hS a (fs := hb_fs Λ G.2.2.2 σ a) (by rw [hb_wL_get hlt, hb_cell_obj ha h7]) hc j hj (hT _ hw (by rfl) args) (fun _ h => h) hfin hd hn hfit (by rw [hb_fs_len, ha, hN]; exact hj) d (fun H1 locs1 hP1 hD1 hS1 => ?_)
  rw [hb_wL_up_obj hlt ha h7 hr] at hP1
  exact k H1 locs1 ls hP1 hS1 hL
def hb_ld (Λ : hb_Lay) (σ : hb_Mem) (a : Nat) (i : Int32) : Option Int32 := if i < 0 ∨ Λ.2.2.2 a ≤ i.toNatClampNeg then none else some (σ a i.toNatClampNeg)
def hb_st (Λ : hb_Lay) (σ : hb_Mem) (a : Nat) (i v : Int32) : Option hb_Mem := if i < 0 ∨ Λ.2.2.2 a ≤ i.toNatClampNeg then none else some (hb_up σ a i.toNatClampNeg v)
def hb_ldr (Λ : hb_Lay) (a : Nat) (i : Int32) : Option Nat := if i < 0 ∨ Λ.2.2.2 a ≤ i.toNatClampNeg then none else some (Λ.2.2.1 a i.toNatClampNeg)
theorem ww_iald {Γ : hb_Ctx} {cc : ByteArray} {nL : Nat} {own : String} {Λ : hb_Lay} {G : hb_Gam} {nf nl : Nat} {Q : State → Prop} {σ : hb_Mem} {L : List (Option Value)} {st : List Value} {pc : Nat} {a : Nat} {i v : Int32} (q : Nat) (X : hb_X Γ cc nL own Λ G nf nl) (ha0 : hb_is Λ a 7) (hv : hb_ld Λ σ a i = some v) (d : decode cc pc = .ok (.iaload, 1)) (hq : pc + 1 = q) (k : hb_W Γ Λ G nL Q σ L (.int v :: st) q) : hb_W Γ Λ G nL Q σ L (.int i :: .ref (G.2.2.2 a) :: st) pc := by
  obtain ⟨p, l, e, R, s, m, args, below, meth, c, cells, slots⟩ := Γ
  obtain ⟨hx, hb, hml, hown, hlocks, hK, hT, hD, hnf, hnl, hcells, hslots⟩ := X
  obtain ⟨hlt, ha⟩ := ha0
  subst hq
  intro H locs ls hP hS hL
  unfold hb_ld at hv
  split at hv
  · cases hv
  · rename_i hin
    cases hv
    exact va_iald (ws := hb_wL Λ G σ) hx hb hK hP a 0 (by rw [hb_wL_get hlt, hb_cell_arr ha]) rfl hin d (k H locs ls hP hS hL)
theorem ww_iast {Γ : hb_Ctx} {cc : ByteArray} {nL : Nat} {own : String} {Λ : hb_Lay} {G : hb_Gam} {nf nl : Nat} {Q : State → Prop} {σ : hb_Mem} {L : List (Option Value)} {st : List Value} {pc : Nat} {a : Nat} {i v : Int32} {σ' : hb_Mem} (q : Nat) (X : hb_X Γ cc nL own Λ G nf nl) (ha0 : hb_is Λ a 7) (hv : hb_st Λ σ a i v = some σ') (d : decode cc pc = .ok (.iastore, 1)) (hq : pc + 1 = q) (k : hb_W Γ Λ G nL Q σ' L st q) : hb_W Γ Λ G nL Q σ L (.int v :: .int i :: .ref (G.2.2.2 a) :: st) pc := by
  obtain ⟨p, l, e, R, s, m, args, below, meth, c, cells, slots⟩ := Γ
  obtain ⟨hx, hb, hml, hown, hlocks, hK, hT, hD, hnf, hnl, hcells, hslots⟩ := X
  obtain ⟨hlt, ha⟩ := ha0
  subst hq
  intro H locs ls hP hS hL
  unfold hb_st at hv
  split at hv
  · cases hv
  · rename_i hin
    cases hv
    refine va_iast (ws := hb_wL Λ G σ) hx hb hK hP (hD σ) hS a 0 (by rw [hb_wL_get hlt, hb_cell_arr ha]) rfl hin d (fun H1 locs1 hP1 hD1 hS1 => ?_)
    rw [hb_wL_up_arr hlt ha] at hP1
    exact k H1 locs1 ls hP1 hS1 hL
theorem ww_alen {Γ : hb_Ctx} {cc : ByteArray} {nL : Nat} {own : String} {Λ : hb_Lay} {G : hb_Gam} {nf nl : Nat} {Q : State → Prop} {σ : hb_Mem} {L : List (Option Value)} {st : List Value} {pc : Nat} {a : Nat} {v : Int32} (q : Nat) (X : hb_X Γ cc nL own Λ G nf nl) (ha0 : hb_is Λ a 7) (hv : Int32.ofNat (Λ.2.2.2 a) = v) (d : decode cc pc = .ok (.arraylength, 1)) (hq : pc + 1 = q) (k : hb_W Γ Λ G nL Q σ L (.int v :: st) q) : hb_W Γ Λ G nL Q σ L (.ref (G.2.2.2 a) :: st) pc := by
  obtain ⟨p, l, e, R, s, m, args, below, meth, c, cells, slots⟩ := Γ
  obtain ⟨hx, hb, hml, hown, hlocks, hK, hT, hD, hnf, hnl, hcells, hslots⟩ := X
  obtain ⟨hlt, ha⟩ := ha0
  subst hq
  intro H locs ls hP hS hL
  exact va_alen (ws := hb_wL Λ G σ) hx hb hK hP a 0 (x := (Λ.2.2.2 a, .inl (σ a))) (by rw [hb_wL_get hlt, hb_cell_arr ha]) rfl hv d (k H locs ls hP hS hL)
theorem ww_alenq {Γ : hb_Ctx} {cc : ByteArray} {nL : Nat} {own : String} {Λ : hb_Lay} {G : hb_Gam} {nf nl : Nat} {Q : State → Prop} {σ : hb_Mem} {L : List (Option Value)} {st : List Value} {pc : Nat} {a : Nat} {v : Int32} (q : Nat) (X : hb_X Γ cc nL own Λ G nf nl) (ha0 : hb_is Λ a 8) (hv : Int32.ofNat (Λ.2.2.2 a) = v) (d : decode cc pc = .ok (.arraylength, 1)) (hq : pc + 1 = q) (k : hb_W Γ Λ G nL Q σ L (.int v :: st) q) : hb_W Γ Λ G nL Q σ L (.ref (G.2.2.2 a) :: st) pc := by
  obtain ⟨p, l, e, R, s, m, args, below, meth, c, cells, slots⟩ := Γ
  obtain ⟨hx, hb, hml, hown, hlocks, hK, hT, hD, hnf, hnl, hcells, hslots⟩ := X
  obtain ⟨hlt, ha⟩ := ha0
  subst hq
  intro H locs ls hP hS hL
  exact va_alen (ws := hb_wL Λ G σ) hx hb hK hP a 1 (x := (Λ.2.2.2 a, .inr (.inr (.inr (.inr (fun j => some (G.2.2.2 (Λ.2.2.1 a j)))))))) (by rw [hb_wL_get hlt, hb_cell_arq ha]) rfl hv d (k H locs ls hP hS hL)
theorem ww_aald {Γ : hb_Ctx} {cc : ByteArray} {nL : Nat} {own : String} {Λ : hb_Lay} {G : hb_Gam} {nf nl : Nat} {Q : State → Prop} {σ : hb_Mem} {L : List (Option Value)} {st : List Value} {pc : Nat} {a b : Nat} {i : Int32} (q : Nat) (X : hb_X Γ cc nL own Λ G nf nl) (ha0 : hb_is Λ a 8) (hv : hb_ldr Λ a i = some b) (d : decode cc pc = .ok (.aaload, 1)) (hq : pc + 1 = q) (k : hb_W Γ Λ G nL Q σ L (.ref (G.2.2.2 b) :: st) q) : hb_W Γ Λ G nL Q σ L (.int i :: .ref (G.2.2.2 a) :: st) pc := by
  obtain ⟨p, l, e, R, s, m, args, below, meth, c, cells, slots⟩ := Γ
  obtain ⟨hx, hb, hml, hown, hlocks, hK, hT, hD, hnf, hnl, hcells, hslots⟩ := X
  obtain ⟨hlt, ha⟩ := ha0
  subst hq
  intro H locs ls hP hS hL
  unfold hb_ldr at hv
  split at hv
  · cases hv
  · rename_i hin
    cases hv
    exact va_aldq (ws := hb_wL Λ G σ) (f := fun j => some (G.2.2.2 (Λ.2.2.1 a j))) hx hb hK hP a 1 (by rw [hb_wL_get hlt, hb_cell_arq ha]) rfl hin d (k H locs ls hP hS hL)
theorem ww_ret_v {Γ : hb_Ctx} {cc : ByteArray} {nL : Nat} {own : String} {Λ : hb_Lay} {G : hb_Gam} {nf nl : Nat} {Q : State → Prop} {σ : hb_Mem} {L : List (Option Value)} {pc : Nat} (X : hb_X Γ cc nL own Λ G nf nl) (hr : hb_ret Γ = none) (hQ : Q = hb_Q Γ Λ G none σ) (d : decode cc pc = .ok (.return_, 1)) : hb_W Γ Λ G nL Q σ L [] pc := by
  subst hQ
  obtain ⟨p, l, e, R, s, m, args, below, meth, c, cells, slots⟩ := Γ
  obtain ⟨hx, hb, hml, hown, hlocks, hK, hT, hD, hnf, hnl, hcells, hslots⟩ := X
  intro H locs ls hP hS hL
  exact W.vret hx hb hr (fun t ht hW => ⟨rfl, by rw [ht]; exact hP, hS.F ht⟩) hS.2.2 d hlocks
theorem ww_ret_i {Γ : hb_Ctx} {cc : ByteArray} {nL : Nat} {own : String} {Λ : hb_Lay} {G : hb_Gam} {nf nl : Nat} {Q : State → Prop} {σ : hb_Mem} {L : List (Option Value)} {pc : Nat} {v : Int32} (X : hb_X Γ cc nL own Λ G nf nl) (hr : hb_ret Γ = some .int) (hQ : Q = hb_Q Γ Λ G (some (.int v)) σ) (d : decode cc pc = .ok (.ireturn, 1)) : hb_W Γ Λ G nL Q σ L [.int v] pc := by
  subst hQ
  obtain ⟨p, l, e, R, s, m, args, below, meth, c, cells, slots⟩ := Γ
  obtain ⟨hx, hb, hml, hown, hlocks, hK, hT, hD, hnf, hnl, hcells, hslots⟩ := X
  intro H locs ls hP hS hL
  exact W.iret hx hb hr (fun t ht hW => ⟨rfl, by rw [ht]; exact hP, hS.F ht⟩) hS.2.2 d hlocks
theorem ww_ret_z {Γ : hb_Ctx} {cc : ByteArray} {nL : Nat} {own : String} {Λ : hb_Lay} {G : hb_Gam} {nf nl : Nat} {Q : State → Prop} {σ : hb_Mem} {L : List (Option Value)} {pc : Nat} {v : Int32} (X : hb_X Γ cc nL own Λ G nf nl) (hr : hb_ret Γ = some .boolean) (hv : v = 0 ∨ v = 1) (hQ : Q = hb_Q Γ Λ G (some (.int v)) σ) (d : decode cc pc = .ok (.ireturn, 1)) : hb_W Γ Λ G nL Q σ L [.int v] pc := by
  subst hQ
  obtain ⟨p, l, e, R, s, m, args, below, meth, c, cells, slots⟩ := Γ
  obtain ⟨hx, hb, hml, hown, hlocks, hK, hT, hD, hnf, hnl, hcells, hslots⟩ := X
  intro H locs ls hP hS hL
  exact W.zret hx hb hr (by rcases hv with rfl | rfl <;> rfl) (fun t ht hW => ⟨rfl, by rw [ht]; exact hP, hS.F ht⟩) hS.2.2 d hlocks
theorem ww_ret_f {Γ : hb_Ctx} {cc : ByteArray} {nL : Nat} {own : String} {Λ : hb_Lay} {G : hb_Gam} {nf nl : Nat} {Q : State → Prop} {σ : hb_Mem} {L : List (Option Value)} {pc : Nat} {v : UInt32} (X : hb_X Γ cc nL own Λ G nf nl) (hr : hb_ret Γ = some .float) (hQ : Q = hb_Q Γ Λ G (some (.float v)) σ) (d : decode cc pc = .ok (.freturn, 1)) : hb_W Γ Λ G nL Q σ L [.float v] pc := by
  subst hQ
  obtain ⟨p, l, e, R, s, m, args, below, meth, c, cells, slots⟩ := Γ
  obtain ⟨hx, hb, hml, hown, hlocks, hK, hT, hD, hnf, hnl, hcells, hslots⟩ := X
  intro H locs ls hP hS hL
  exact W.fret hx hb hr (fun t ht hW => ⟨rfl, by rw [ht]; exact hP, hS.F ht⟩) hS.2.2 d hlocks
theorem ww_ret_a {Γ : hb_Ctx} {cc : ByteArray} {nL : Nat} {own : String} {Λ : hb_Lay} {G : hb_Gam} {nf nl : Nat} {Q : State → Prop} {σ : hb_Mem} {L : List (Option Value)} {pc : Nat} {v : Value} {n : String} (X : hb_X Γ cc nL own Λ G nf nl) (hr : hb_ret Γ = some (.object n)) (hv : v = .null ∨ ∃ a, v = .ref a) (hQ : Q = hb_Q Γ Λ G (some v) σ) (d : decode cc pc = .ok (.areturn, 1)) : hb_W Γ Λ G nL Q σ L [v] pc := by
  subst hQ
  obtain ⟨p, l, e, R, s, m, args, below, meth, c, cells, slots⟩ := Γ
  obtain ⟨hx, hb, hml, hown, hlocks, hK, hT, hD, hnf, hnl, hcells, hslots⟩ := X
  intro H locs ls hP hS hL
  exact W.aret hx hb hr (Or.inl ⟨n, rfl⟩) hv (fun t ht hW => ⟨rfl, by rw [ht]; exact hP, hS.F ht⟩) hS.2.2 d hlocks
theorem hb_Pc_blind {Λ : hb_Lay} {G : hb_Gam} {av : List Value} {σ : hb_Mem} : FrameBlind (hb_Pc Λ G av σ) := by
  intro a U g mk h
  obtain ⟨h1, h2, h3, h4, h5⟩ := h
  exact ⟨h1, h2, va_K.moved (u := U) (U := U.calling g mk a) (Vm.Alike.refl U.vm) h3, h4.calling g mk a, h5⟩
theorem hb_Pc_at {Λ : hb_Lay} {G : hb_Gam} {av : List Value} {σ : hb_Mem} {s : State} {H : Heap} (hK : va_K G.1 vwCl (hb_tys G) s) (hT : hb_TB s) (hD : ∀ σ, va_D (hb_AA Λ G) (hb_wL Λ G σ)) (hP : va_P G.1 vwCl (hb_wL Λ G σ) H) (U : State) (hU : U.heap = H) (hW : s.WarmedH U.vm) : hb_Pc Λ G av σ av.toArray U :=
  ⟨rfl, by rw [hU]; exact hP, va_K.moved hW.alike hK, hT.warm hW, hD⟩
def hb_l (Γ : hb_Ctx) : Launch := Γ.2.1
theorem ww_run {Γ : hb_Ctx} {nL : Nat} {Λ : hb_Lay} {G : hb_Gam} {Q : State → Prop} {σ : hb_Mem} {L : List (Option Value)} {st : List Value} {pc : Nat} {σ' : hb_Mem} {rv : Option Value} {rest : List Value} {a : Array Value} (q : Nat) (hq : pc + 3 = q)
    (hr : match Γ with | (p, l, e, R, s, m, args, below, meth, c, cells, slots) => ∀ (H : Heap) (locs : List Loc) (ls : Array Slot), va_P G.1 vwCl (hb_wL Λ G σ) H → hb_LS nL L ls → va_Run p l e R s m args below meth c H locs cells slots 0 0 (F0 m pc ls st) rest (hb_Qc Λ G rv σ' a) (hb_AA Λ G))
    (k : hb_W Γ Λ G nL Q σ' L (rv.toList ++ rest) q) : hb_W Γ Λ G nL Q σ L st pc := by
  obtain ⟨p, l, e, R, s, m, args, below, meth, c, cells, slots⟩ := Γ
  subst hq
  intro H locs ls hP hS hL T hT X
  obtain ⟨v, st₀, t, T', L', h0, X', hL', e1, e2, ⟨hv, hP1, hz, hk⟩, st⟩ := hr H locs ls hP hL T hT X
  cases hv
  rw [h0] at hz hk
  obtain ⟨t2, a1, b1⟩ := k T'.heap (locs ++ L') ls (by rw [e1]; exact hP1)
    ⟨Nat.le_trans hS.1 (by rw [e1]; exact hz), fun q h1 h2 => by rw [e1, hk q (Nat.lt_of_lt_of_le h1 hS.1) h2]; exact hS.2.1 q h1 h2, fun q hq => by
      rcases List.mem_append.mp hq with h | h
      · exact hS.2.2 q h
      · exact hL' q h⟩ hL T' rfl X'
  exact ⟨t2, st t2 a1, b1⟩
/-- the words of a call of a static method of the own class -/
abbrev hb_cS (own : String) (idx : Nat) (y : MethodName) (cc' : ByteArray) (nL' : Nat) (ret : Option FieldType) (n : Nat) : Prop := (Cond.methodLink own idx y) ∈ lw_tbl ∧ (Cond.static y) ∈ lw_tbl ∧ (Cond.code y cc' nL' ret) ∈ lw_tbl ∧ (Cond.initialized y.cls) ∈ lw_tbl ∧ (y.cls ≠ "java/lang/invoke/MethodHandle" ∧ y.cls ≠ "java/lang/invoke/VarHandle") ∧ (parseMethodDescriptor y.desc).map (fun d => d.parameters.length) = some n
abbrev hb_cSN (own host : String) (idx : Nat) (y : MethodName) (cc' : ByteArray) (nL' : Nat) (ret : Option FieldType) (n : Nat) : Prop := (Cond.methodLinkNest own idx y host) ∈ lw_tbl ∧ (Cond.static y) ∈ lw_tbl ∧ (Cond.code y cc' nL' ret) ∈ lw_tbl ∧ (Cond.initialized y.cls) ∈ lw_tbl ∧ (y.cls ≠ "java/lang/invoke/MethodHandle" ∧ y.cls ≠ "java/lang/invoke/VarHandle") ∧ (parseMethodDescriptor y.desc).map (fun d => d.parameters.length) = some n
abbrev hb_cV (own : String) (idx : Nat) (y : MethodName) (cc' : ByteArray) (nL' : Nat) (ret : Option FieldType) (n : Nat) : Prop := (Cond.methodLink own idx y) ∈ lw_tbl ∧ (Cond.instanceMethod y) ∈ lw_tbl ∧ (Cond.selects y.cls y y) ∈ lw_tbl ∧ (Cond.code y cc' nL' ret) ∈ lw_tbl ∧ (Cond.initialized y.cls) ∈ lw_tbl ∧ (y.cls ≠ "java/lang/invoke/MethodHandle" ∧ y.cls ≠ "java/lang/invoke/VarHandle") ∧ (parseMethodDescriptor y.desc).map (fun d => d.parameters.length) = some n
theorem hb_len {y : MethodName} {n : Nat} (h : (parseMethodDescriptor y.desc).map (fun d => d.parameters.length) = some n) : ∀ sig, parseMethodDescriptor y.desc = some sig → n = sig.parameters.length := by
  intro sig hs
  rw [hs] at h
  exact (Option.some.inj h).symm
theorem hb_codeW {y : MethodName} {cc' : ByteArray} {nL' : Nat} {ret : Option FieldType} {s : State} (hT : hb_TB s) (h : (Cond.code y cc' nL' ret) ∈ lw_tbl) : ∀ w ∈ [Cond.code y cc' nL' ret], ∀ (a' : Array Value) (U : State), s.WarmedH U.vm → w.before a' U = true := by
  intro w hw a' U hW
  rw [List.mem_singleton] at hw
  subst hw
  exact hT.warm hW _ h rfl a'
theorem ww_callS {Γ : hb_Ctx} {cc : ByteArray} {nL : Nat} {own : String} {Λ : hb_Lay} {G : hb_Gam} {nf nl : Nat} {Q : State → Prop} {σ : hb_Mem} {L : List (Option Value)} {st : List Value} {pc : Nat} {idx nL' nf' nl' n : Nat} {y : MethodName} {cc' : ByteArray} {ret : Option FieldType} {As rest st' : List Value} {rv : Option Value} {σ' : hb_Mem} (q : Nat) (X : hb_X Γ cc nL own Λ G nf nl) (hM : hb_C (hb_l Γ) y cc' nL' ret nf' nl' Λ G As σ rv σ') (cw : hb_cS own idx y cc' nL' ret n) (hn : As.length = n) (hR : nf' + 1 ≤ nf ∧ 8 + (nL' + 11) + nl' ≤ nl) (hrest : (rest.map fun v => v.category).sum ≤ 8) (hst : As.reverse ++ rest = st) (hst2 : rv.toList ++ rest = st') (d : decode cc pc = .ok (.invokestatic idx, 3)) (hq : pc + 3 = q) (k : hb_W Γ Λ G nL Q σ' L st' q) : hb_W Γ Λ G nL Q σ L st pc := by
  subst hst2
  refine ww_run (rv := rv) (rest := rest) (a := As.toArray) q hq ?_ k
  obtain ⟨p, l, e, R, s, m, args, below, meth, c, cells, slots⟩ := Γ
  obtain ⟨hx, hb, hml, hown, hlocks, hK, hT, hD, hnf, hnl, hcells, hslots⟩ := X
  obtain ⟨h1, h2, h3, h4, h5, h6⟩ := cw
  intro H locs ls hP hL
  subst hst
  exact va_runS (own := own) (Ts := []) ⟨hx, hb, hml, hown, fun w h => by cases h⟩ hM ⟨⟨rfl, rfl, Nat.le_trans hR.1 hnf, Nat.le_trans hR.2 hnl, hb_codeW hT h3, List.mem_singleton.mpr rfl, hT _ h3 rfl _, hT _ h4 rfl _, h5, hb_len h6, hT _ h1 rfl _⟩, hT _ h2 rfl _⟩ ⟨hb_Pc_blind, fun U hU hW => hb_Pc_at hK hT hD hP U hU hW⟩ rfl hn hL.2.1 rfl (lv_room hrest) d ⟨hcells, hslots⟩
theorem ww_callSN {Γ : hb_Ctx} {cc : ByteArray} {nL : Nat} {own : String} {Λ : hb_Lay} {G : hb_Gam} {nf nl : Nat} {Q : State → Prop} {σ : hb_Mem} {L : List (Option Value)} {st : List Value} {pc : Nat} {idx nL' nf' nl' n : Nat} {y : MethodName} {cc' : ByteArray} {ret : Option FieldType} {As rest st' : List Value} {rv : Option Value} {σ' : hb_Mem} {host : String} (q : Nat) (X : hb_X Γ cc nL own Λ G nf nl) (hM : hb_C (hb_l Γ) y cc' nL' ret nf' nl' Λ G As σ rv σ') (cw : hb_cSN own host idx y cc' nL' ret n) (hn : As.length = n) (hR : nf' + 1 ≤ nf ∧ 8 + (nL' + 11) + nl' ≤ nl) (hrest : (rest.map fun v => v.category).sum ≤ 8) (hst : As.reverse ++ rest = st) (hst2 : rv.toList ++ rest = st') (d : decode cc pc = .ok (.invokestatic idx, 3)) (hq : pc + 3 = q) (k : hb_W Γ Λ G nL Q σ' L st' q) : hb_W Γ Λ G nL Q σ L st pc := by
  subst hst2
  refine ww_run (rv := rv) (rest := rest) (a := As.toArray) q hq ?_ k
  obtain ⟨p, l, e, R, s, m, args, below, meth, c, cells, slots⟩ := Γ
  obtain ⟨hx, hb, hml, hown, hlocks, hK, hT, hD, hnf, hnl, hcells, hslots⟩ := X
  obtain ⟨h1, h2, h3, h4, h5, h6⟩ := cw
  intro H locs ls hP hL
  subst hst
  exact va_runSN (own := own) (host := host) (Ts := []) ⟨hx, hb, hml, hown, fun w h => by cases h⟩ hM ⟨⟨⟨rfl, rfl, Nat.le_trans hR.1 hnf, Nat.le_trans hR.2 hnl, hb_codeW hT h3, List.mem_singleton.mpr rfl⟩, hT _ h3 rfl _, hT _ h4 rfl _, h5, hb_len h6, hT _ h1 rfl _⟩, hT _ h2 rfl _, trivial⟩ ⟨hb_Pc_blind, fun U hU hW => hb_Pc_at hK hT hD hP U hU hW⟩ rfl hn hL.2.1 rfl (lv_room hrest) d ⟨hcells, hslots⟩
theorem ww_callV {Γ : hb_Ctx} {cc : ByteArray} {nL : Nat} {own : String} {Λ : hb_Lay} {G : hb_Gam} {nf nl : Nat} {Q : State → Prop} {σ : hb_Mem} {L : List (Option Value)} {st : List Value} {pc : Nat} {b ci idx nL' nf' nl' n : Nat} {y : MethodName} {cc' : ByteArray} {ret : Option FieldType} {As rest st' : List Value} {rv : Option Value} {σ' : hb_Mem} {T : u_T} {N : Nat} (q : Nat) (X : hb_X Γ cc nL own Λ G nf nl) (hM : hb_C (hb_l Γ) y cc' nL' ret nf' nl' Λ G (.ref (G.2.2.2 b) :: As) σ rv σ') (cw : hb_cV own idx y cc' nL' ret n) (hc : vwCl[ci]? = some (y.cls, T, N)) (h7 : ci < 7) (hb0 : hb_is Λ b ci) (hn : As.length = n) (hR : nf' + 1 ≤ nf ∧ 8 + (nL' + 11) + nl' ≤ nl) (hrest : (rest.map fun v => v.category).sum ≤ 8) (hst : As.reverse ++ .ref (G.2.2.2 b) :: rest = st) (hst2 : rv.toList ++ rest = st') (d : decode cc pc = .ok (.invokevirtual idx, 3)) (hq : pc + 3 = q) (k : hb_W Γ Λ G nL Q σ' L st' q) : hb_W Γ Λ G nL Q σ L st pc := by
  subst hst2
  refine ww_run (rv := rv) (rest := rest) (a := (Value.ref (G.2.2.2 b) :: As).toArray) q hq ?_ k
  obtain ⟨p, l, e, R, s, m, args, below, meth, c, cells, slots⟩ := Γ
  obtain ⟨hx, hb, hml, hown, hlocks, hK, hT, hD, hnf, hnl, hcells, hslots⟩ := X
  obtain ⟨h1, h2, hsel, h3, h4, h5, h6⟩ := cw
  obtain ⟨hlt, hkb⟩ := hb0
  intro H locs ls hP hL
  subst hst
  exact va_runV (own := own) (C := y.cls) (Ts := []) ⟨hx, hb, hml, hown, fun w h => by cases h⟩ hM ⟨⟨rfl, rfl, Nat.le_trans hR.1 hnf, Nat.le_trans hR.2 hnl, hb_codeW hT h3, List.mem_singleton.mpr rfl, hT _ h3 rfl _, hT _ h4 rfl _, h5, hb_len h6, hT _ h1 rfl _⟩, hT _ h2 rfl _, hT _ hsel rfl _⟩ ⟨hb_Pc_blind, va_recv (q0 := b) hK hP hc (by rw [hb_wL_get hlt, hb_cell_obj hkb h7]), fun U hU hW => hb_Pc_at hK hT hD hP U hU hW⟩ rfl hn hL.2.1 rfl (lv_room hrest) d ⟨hcells, hslots⟩
end
section
/-! what the functions are made of, and the two layouts: the class's cells (hc_), the reference's (hm_) -/
/-- a name for a value -/
def hb_nm {α β : Type} (a : α) (f : α → Option β) : Option β := f a
theorem hb_nm_of {α β : Type} {a : α} {f : α → Option β} {r : β} (h : hb_nm a f = some r) : ∃ x, x = a ∧ f x = some r := ⟨a, rfl, h⟩
theorem hb_bind_of {α β : Type} {a : Option α} {f : α → Option β} {r : β} (h : a.bind f = some r) : ∃ x, a = some x ∧ f x = some r := by
  cases a with
  | none => cases h
  | some x => exact ⟨x, rfl, h⟩
theorem hb_inl_of {α β γ : Type} {f : α → γ} {g : β → γ} {a : α} {r : γ} (h : Sum.elim f g (.inl a) = r) : f a = r := h
theorem hb_inr_of {α β γ : Type} {f : α → γ} {g : β → γ} {b : β} {r : γ} (h : Sum.elim f g (.inr b) = r) : g b = r := h
/-- a loop: at most so many rounds -/
def hb_lp {S T : Type} (f : S → Option (S ⊕ T)) : Nat → S → Option T
  | 0, _ => none
  | n + 1, s => (f s).bind (Sum.elim (fun s' => hb_lp f n s') (fun t => some t))
def hb_F : Nat := 1000000
theorem hb_lp_w {S T : Type} {f : S → Option (S ⊕ T)} {P : S → Prop} {E : T → Prop} (hb : ∀ (s : S) (x : S ⊕ T), f s = some x → Sum.elim P E x → P s) : ∀ (n : Nat) (s : S) (t : T), hb_lp f n s = some t → E t → P s
  | 0, s, t, h, _ => by cases h
  | n + 1, s, t, h, hE => by
    rw [hb_lp] at h
    obtain ⟨x, hx, h⟩ := hb_bind_of h
    cases x with
    | inl s' => exact hb s _ hx (hb_lp_w hb n s' t h hE)
    | inr t' =>
      cases h
      exact hb s _ hx hE
/-- a truth value -/
def hb_bz (v : Int32) : Option Int32 := if v = 0 ∨ v = 1 then some v else none
theorem hb_bz_of {v w : Int32} (h : hb_bz v = some w) : (v = 0 ∨ v = 1) ∧ w = v := by
  unfold hb_bz at h
  split at h
  · rename_i h1
    exact ⟨h1, (Option.some.inj h).symm⟩
  · cases h
theorem hb_bz_n {v : Int32} (h : v = 0 ∨ v = 1) : narrow .boolean (.int v) = .int v := by rcases h with rfl | rfl <;> rfl
theorem hb_bz_f {v : Int32} (h : v = 0 ∨ v = 1) : fits .boolean (.int v) = true := by rcases h with rfl | rfl <;> rfl
abbrev hb_or (G : hb_Gam) (r : Option Nat) : Value := match r with
  | none => .null
  | some k => .ref (G.2.2.2 k)
theorem hb_pad (av : List Value) (n : Nat) : ∀ (i : Nat) (v : Value), (av.map some ++ List.replicate n none)[i]? = some (some v) → av[i]? = some v := by
  intro i v h
  by_cases hi : i < av.length
  · rw [List.getElem?_append_left (by rw [List.length_map]; exact hi), List.getElem?_map] at h
    cases ha : av[i]? with
    | none => rw [ha] at h; cases h
    | some w => rw [ha] at h; cases h; rfl
  · rw [List.getElem?_append_right (by rw [List.length_map]; omega), List.getElem?_replicate] at h
    split at h <;> cases h
-- the class: 0 the book; 1, 20, .. the states now, draft, snapshot, and four of the ring; 134 the history, 135 its ring; 136 the text; 147 the survey
def hc_kd (k : Nat) : Nat := if k = 0 then 5 else if k < 134 then (if (k - 1) % 19 = 0 then 2 else if (k - 1) % 19 % 2 = 1 then 1 else 7) else if k = 134 then 0 else if k = 135 then 8 else if k = 136 then 4 else if k < 147 then (if k % 2 = 1 then 1 else 7) else if k = 147 then 3 else if k < 160 then (if k % 2 = 0 then 1 else 7) else 9
def hc_rf (k j : Nat) : Nat := if k = 0 then (if j = 0 then 1 else if j = 1 then 20 else if j = 2 then 39 else if j = 4 then 134 else if j = 5 then 136 else 147) else if k < 134 then (if (k - 1) % 19 = 0 then k + 2 * j - 1 else k + 1) else if k = 134 then 135 else if k = 135 then 58 + 19 * j else if k = 136 then (if j = 0 then 137 else 139 + 2 * (j - 5)) else if k < 147 then k + 1 else if k = 147 then (if j = 11 then 158 else 148 + 2 * (j - 3)) else k + 1
def hc_ln (k : Nat) : Nat := if k < 134 then (if (k - 1) % 19 < 10 then 32 else if (k - 1) % 19 < 16 then 96 else 2) else if k = 135 then 4 else if k = 138 then 60 else if k < 147 then 16 else 1024
abbrev ΛC : hb_Lay := (160, hc_kd, hc_rf, hc_ln)
def hm_kd (k : Nat) : Nat := if k = 0 then 6 else if k < 13 then 7 else 9
def hm_rf (k j : Nat) : Nat := if j = 0 then 1 else if j = 1 then 2 else if j = 3 then 3 else if j = 5 then 4 else if j < 11 then j - 2 else if j < 15 then j - 3 else 12
def hm_ln (k : Nat) : Nat := if k < 3 then 425 else if k = 3 then 1700 else if k = 4 then 60 else if k = 12 then 120 else 1024
abbrev ΛM : hb_Lay := (13, hm_kd, hm_rf, hm_ln)
theorem cf_0 : vwCl[0]? = some (RX0, TX0, 3) ∧ (∀ w ∈ u_ws RX0 TX0 3, w ∈ lw_tbl) ∧ (∀ w ∈ u_ws RX0 TX0 3, goodWord w = true) ∧ 0 < 7 ∧ hb_nf 0 = 3 := ⟨rfl, inX0, by decide +kernel, by decide, rfl⟩
theorem cg_0 : ∃ ty0 : Nat → FieldType, (∀ k, k < 3 → parseFieldDescriptor (TX0 k).2.2.1 = some (ty0 k)) ∧ ∀ a, a < 3 → ∀ b, b < 3 → a ≠ b → (TX0 a).2.1 ≠ (TX0 b).2.1 := ⟨tyX0, tyX0_ok, nmX0⟩
theorem hc_kr_0_0 {k : Nat} (h : hb_is ΛC k 0) : hb_is ΛC (hc_rf k 0) 8 := (by decide +kernel : ∀ k, k < 160 → hc_kd k = 0 → hc_rf k 0 < 160 ∧ hc_kd (hc_rf k 0) = 8) k h.1 h.2
theorem cf_1 : vwCl[1]? = some (RX1, TX1, 1) ∧ (∀ w ∈ u_ws RX1 TX1 1, w ∈ lw_tbl) ∧ (∀ w ∈ u_ws RX1 TX1 1, goodWord w = true) ∧ 1 < 7 ∧ hb_nf 1 = 1 := ⟨rfl, inX1, by decide +kernel, by decide, rfl⟩
theorem cg_1 : ∃ ty0 : Nat → FieldType, (∀ k, k < 1 → parseFieldDescriptor (TX1 k).2.2.1 = some (ty0 k)) ∧ ∀ a, a < 1 → ∀ b, b < 1 → a ≠ b → (TX1 a).2.1 ≠ (TX1 b).2.1 := ⟨tyX1, tyX1_ok, nmX1⟩
theorem hc_kr_1_0 {k : Nat} (h : hb_is ΛC k 1) : hb_is ΛC (hc_rf k 0) 7 := (by decide +kernel : ∀ k, k < 160 → hc_kd k = 1 → hc_rf k 0 < 160 ∧ hc_kd (hc_rf k 0) = 7) k h.1 h.2
theorem cf_2 : vwCl[2]? = some (RX2, TX2, 11) ∧ (∀ w ∈ u_ws RX2 TX2 11, w ∈ lw_tbl) ∧ (∀ w ∈ u_ws RX2 TX2 11, goodWord w = true) ∧ 2 < 7 ∧ hb_nf 2 = 11 := ⟨rfl, inX2, by decide +kernel, by decide, rfl⟩
theorem cg_2 : ∃ ty0 : Nat → FieldType, (∀ k, k < 11 → parseFieldDescriptor (TX2 k).2.2.1 = some (ty0 k)) ∧ ∀ a, a < 11 → ∀ b, b < 11 → a ≠ b → (TX2 a).2.1 ≠ (TX2 b).2.1 := ⟨tyX2, tyX2_ok, nmX2⟩
theorem hc_kr_2_1 {k : Nat} (h : hb_is ΛC k 2) : hb_is ΛC (hc_rf k 1) 1 := (by decide +kernel : ∀ k, k < 160 → hc_kd k = 2 → hc_rf k 1 < 160 ∧ hc_kd (hc_rf k 1) = 1) k h.1 h.2
theorem hc_kr_2_2 {k : Nat} (h : hb_is ΛC k 2) : hb_is ΛC (hc_rf k 2) 1 := (by decide +kernel : ∀ k, k < 160 → hc_kd k = 2 → hc_rf k 2 < 160 ∧ hc_kd (hc_rf k 2) = 1) k h.1 h.2
theorem hc_kr_2_3 {k : Nat} (h : hb_is ΛC k 2) : hb_is ΛC (hc_rf k 3) 1 := (by decide +kernel : ∀ k, k < 160 → hc_kd k = 2 → hc_rf k 3 < 160 ∧ hc_kd (hc_rf k 3) = 1) k h.1 h.2
theorem hc_kr_2_4 {k : Nat} (h : hb_is ΛC k 2) : hb_is ΛC (hc_rf k 4) 1 := (by decide +kernel : ∀ k, k < 160 → hc_kd k = 2 → hc_rf k 4 < 160 ∧ hc_kd (hc_rf k 4) = 1) k h.1 h.2
theorem hc_kr_2_5 {k : Nat} (h : hb_is ΛC k 2) : hb_is ΛC (hc_rf k 5) 1 := (by decide +kernel : ∀ k, k < 160 → hc_kd k = 2 → hc_rf k 5 < 160 ∧ hc_kd (hc_rf k 5) = 1) k h.1 h.2
theorem hc_kr_2_6 {k : Nat} (h : hb_is ΛC k 2) : hb_is ΛC (hc_rf k 6) 1 := (by decide +kernel : ∀ k, k < 160 → hc_kd k = 2 → hc_rf k 6 < 160 ∧ hc_kd (hc_rf k 6) = 1) k h.1 h.2
theorem hc_kr_2_7 {k : Nat} (h : hb_is ΛC k 2) : hb_is ΛC (hc_rf k 7) 1 := (by decide +kernel : ∀ k, k < 160 → hc_kd k = 2 → hc_rf k 7 < 160 ∧ hc_kd (hc_rf k 7) = 1) k h.1 h.2
theorem hc_kr_2_8 {k : Nat} (h : hb_is ΛC k 2) : hb_is ΛC (hc_rf k 8) 1 := (by decide +kernel : ∀ k, k < 160 → hc_kd k = 2 → hc_rf k 8 < 160 ∧ hc_kd (hc_rf k 8) = 1) k h.1 h.2
theorem hc_kr_2_9 {k : Nat} (h : hb_is ΛC k 2) : hb_is ΛC (hc_rf k 9) 1 := (by decide +kernel : ∀ k, k < 160 → hc_kd k = 2 → hc_rf k 9 < 160 ∧ hc_kd (hc_rf k 9) = 1) k h.1 h.2
theorem cf_3 : vwCl[3]? = some (RX3, TX3, 12) ∧ (∀ w ∈ u_ws RX3 TX3 12, w ∈ lw_tbl) ∧ (∀ w ∈ u_ws RX3 TX3 12, goodWord w = true) ∧ 3 < 7 ∧ hb_nf 3 = 12 := ⟨rfl, inX3, by decide +kernel, by decide, rfl⟩
theorem cg_3 : ∃ ty0 : Nat → FieldType, (∀ k, k < 12 → parseFieldDescriptor (TX3 k).2.2.1 = some (ty0 k)) ∧ ∀ a, a < 12 → ∀ b, b < 12 → a ≠ b → (TX3 a).2.1 ≠ (TX3 b).2.1 := ⟨tyX3, tyX3_ok, nmX3⟩
theorem hc_kr_3_3 {k : Nat} (h : hb_is ΛC k 3) : hb_is ΛC (hc_rf k 3) 1 := (by decide +kernel : ∀ k, k < 160 → hc_kd k = 3 → hc_rf k 3 < 160 ∧ hc_kd (hc_rf k 3) = 1) k h.1 h.2
theorem hc_kr_3_4 {k : Nat} (h : hb_is ΛC k 3) : hb_is ΛC (hc_rf k 4) 1 := (by decide +kernel : ∀ k, k < 160 → hc_kd k = 3 → hc_rf k 4 < 160 ∧ hc_kd (hc_rf k 4) = 1) k h.1 h.2
theorem hc_kr_3_5 {k : Nat} (h : hb_is ΛC k 3) : hb_is ΛC (hc_rf k 5) 1 := (by decide +kernel : ∀ k, k < 160 → hc_kd k = 3 → hc_rf k 5 < 160 ∧ hc_kd (hc_rf k 5) = 1) k h.1 h.2
theorem hc_kr_3_6 {k : Nat} (h : hb_is ΛC k 3) : hb_is ΛC (hc_rf k 6) 1 := (by decide +kernel : ∀ k, k < 160 → hc_kd k = 3 → hc_rf k 6 < 160 ∧ hc_kd (hc_rf k 6) = 1) k h.1 h.2
theorem hc_kr_3_7 {k : Nat} (h : hb_is ΛC k 3) : hb_is ΛC (hc_rf k 7) 1 := (by decide +kernel : ∀ k, k < 160 → hc_kd k = 3 → hc_rf k 7 < 160 ∧ hc_kd (hc_rf k 7) = 1) k h.1 h.2
theorem hc_kr_3_11 {k : Nat} (h : hb_is ΛC k 3) : hb_is ΛC (hc_rf k 11) 1 := (by decide +kernel : ∀ k, k < 160 → hc_kd k = 3 → hc_rf k 11 < 160 ∧ hc_kd (hc_rf k 11) = 1) k h.1 h.2
theorem cf_4 : vwCl[4]? = some (RX4, TX4, 9) ∧ (∀ w ∈ u_ws RX4 TX4 9, w ∈ lw_tbl) ∧ (∀ w ∈ u_ws RX4 TX4 9, goodWord w = true) ∧ 4 < 7 ∧ hb_nf 4 = 9 := ⟨rfl, inX4, by decide +kernel, by decide, rfl⟩
theorem cg_4 : ∃ ty0 : Nat → FieldType, (∀ k, k < 9 → parseFieldDescriptor (TX4 k).2.2.1 = some (ty0 k)) ∧ ∀ a, a < 9 → ∀ b, b < 9 → a ≠ b → (TX4 a).2.1 ≠ (TX4 b).2.1 := ⟨tyX4, tyX4_ok, nmX4⟩
theorem hc_kr_4_0 {k : Nat} (h : hb_is ΛC k 4) : hb_is ΛC (hc_rf k 0) 1 := (by decide +kernel : ∀ k, k < 160 → hc_kd k = 4 → hc_rf k 0 < 160 ∧ hc_kd (hc_rf k 0) = 1) k h.1 h.2
theorem hc_kr_4_5 {k : Nat} (h : hb_is ΛC k 4) : hb_is ΛC (hc_rf k 5) 1 := (by decide +kernel : ∀ k, k < 160 → hc_kd k = 4 → hc_rf k 5 < 160 ∧ hc_kd (hc_rf k 5) = 1) k h.1 h.2
theorem hc_kr_4_6 {k : Nat} (h : hb_is ΛC k 4) : hb_is ΛC (hc_rf k 6) 1 := (by decide +kernel : ∀ k, k < 160 → hc_kd k = 4 → hc_rf k 6 < 160 ∧ hc_kd (hc_rf k 6) = 1) k h.1 h.2
theorem hc_kr_4_7 {k : Nat} (h : hb_is ΛC k 4) : hb_is ΛC (hc_rf k 7) 1 := (by decide +kernel : ∀ k, k < 160 → hc_kd k = 4 → hc_rf k 7 < 160 ∧ hc_kd (hc_rf k 7) = 1) k h.1 h.2
theorem hc_kr_4_8 {k : Nat} (h : hb_is ΛC k 4) : hb_is ΛC (hc_rf k 8) 1 := (by decide +kernel : ∀ k, k < 160 → hc_kd k = 4 → hc_rf k 8 < 160 ∧ hc_kd (hc_rf k 8) = 1) k h.1 h.2
theorem cf_5 : vwCl[5]? = some (RX5, TX5, 7) ∧ (∀ w ∈ u_ws RX5 TX5 7, w ∈ lw_tbl) ∧ (∀ w ∈ u_ws RX5 TX5 7, goodWord w = true) ∧ 5 < 7 ∧ hb_nf 5 = 7 := ⟨rfl, inX5, by decide +kernel, by decide, rfl⟩
theorem cg_5 : ∃ ty0 : Nat → FieldType, (∀ k, k < 7 → parseFieldDescriptor (TX5 k).2.2.1 = some (ty0 k)) ∧ ∀ a, a < 7 → ∀ b, b < 7 → a ≠ b → (TX5 a).2.1 ≠ (TX5 b).2.1 := ⟨tyX5, tyX5_ok, nmX5⟩
theorem hc_kr_5_0 {k : Nat} (h : hb_is ΛC k 5) : hb_is ΛC (hc_rf k 0) 2 := (by decide +kernel : ∀ k, k < 160 → hc_kd k = 5 → hc_rf k 0 < 160 ∧ hc_kd (hc_rf k 0) = 2) k h.1 h.2
theorem hc_kr_5_1 {k : Nat} (h : hb_is ΛC k 5) : hb_is ΛC (hc_rf k 1) 2 := (by decide +kernel : ∀ k, k < 160 → hc_kd k = 5 → hc_rf k 1 < 160 ∧ hc_kd (hc_rf k 1) = 2) k h.1 h.2
theorem hc_kr_5_2 {k : Nat} (h : hb_is ΛC k 5) : hb_is ΛC (hc_rf k 2) 2 := (by decide +kernel : ∀ k, k < 160 → hc_kd k = 5 → hc_rf k 2 < 160 ∧ hc_kd (hc_rf k 2) = 2) k h.1 h.2
theorem hc_kr_5_4 {k : Nat} (h : hb_is ΛC k 5) : hb_is ΛC (hc_rf k 4) 0 := (by decide +kernel : ∀ k, k < 160 → hc_kd k = 5 → hc_rf k 4 < 160 ∧ hc_kd (hc_rf k 4) = 0) k h.1 h.2
theorem hc_kr_5_5 {k : Nat} (h : hb_is ΛC k 5) : hb_is ΛC (hc_rf k 5) 4 := (by decide +kernel : ∀ k, k < 160 → hc_kd k = 5 → hc_rf k 5 < 160 ∧ hc_kd (hc_rf k 5) = 4) k h.1 h.2
theorem hc_kr_5_6 {k : Nat} (h : hb_is ΛC k 5) : hb_is ΛC (hc_rf k 6) 3 := (by decide +kernel : ∀ k, k < 160 → hc_kd k = 5 → hc_rf k 6 < 160 ∧ hc_kd (hc_rf k 6) = 3) k h.1 h.2
theorem cf_6 : vwCl[6]? = some (RX6, TX6, 20) ∧ (∀ w ∈ u_ws RX6 TX6 20, w ∈ lw_tbl) ∧ (∀ w ∈ u_ws RX6 TX6 20, goodWord w = true) ∧ 6 < 7 ∧ hb_nf 6 = 20 := ⟨rfl, inX6, by decide +kernel, by decide, rfl⟩
theorem cg_6 : ∃ ty0 : Nat → FieldType, (∀ k, k < 20 → parseFieldDescriptor (TX6 k).2.2.1 = some (ty0 k)) ∧ ∀ a, a < 20 → ∀ b, b < 20 → a ≠ b → (TX6 a).2.1 ≠ (TX6 b).2.1 := ⟨tyX6, tyX6_ok, nmX6⟩
theorem hm_kr_6_0 {k : Nat} (h : hb_is ΛM k 6) : hb_is ΛM (hm_rf k 0) 7 := (by decide +kernel : ∀ k, k < 13 → hm_kd k = 6 → hm_rf k 0 < 13 ∧ hm_kd (hm_rf k 0) = 7) k h.1 h.2
theorem hm_kr_6_1 {k : Nat} (h : hb_is ΛM k 6) : hb_is ΛM (hm_rf k 1) 7 := (by decide +kernel : ∀ k, k < 13 → hm_kd k = 6 → hm_rf k 1 < 13 ∧ hm_kd (hm_rf k 1) = 7) k h.1 h.2
theorem hm_kr_6_3 {k : Nat} (h : hb_is ΛM k 6) : hb_is ΛM (hm_rf k 3) 7 := (by decide +kernel : ∀ k, k < 13 → hm_kd k = 6 → hm_rf k 3 < 13 ∧ hm_kd (hm_rf k 3) = 7) k h.1 h.2
theorem hm_kr_6_5 {k : Nat} (h : hb_is ΛM k 6) : hb_is ΛM (hm_rf k 5) 7 := (by decide +kernel : ∀ k, k < 13 → hm_kd k = 6 → hm_rf k 5 < 13 ∧ hm_kd (hm_rf k 5) = 7) k h.1 h.2
theorem hm_kr_6_7 {k : Nat} (h : hb_is ΛM k 6) : hb_is ΛM (hm_rf k 7) 7 := (by decide +kernel : ∀ k, k < 13 → hm_kd k = 6 → hm_rf k 7 < 13 ∧ hm_kd (hm_rf k 7) = 7) k h.1 h.2
theorem hm_kr_6_8 {k : Nat} (h : hb_is ΛM k 6) : hb_is ΛM (hm_rf k 8) 7 := (by decide +kernel : ∀ k, k < 13 → hm_kd k = 6 → hm_rf k 8 < 13 ∧ hm_kd (hm_rf k 8) = 7) k h.1 h.2
theorem hm_kr_6_9 {k : Nat} (h : hb_is ΛM k 6) : hb_is ΛM (hm_rf k 9) 7 := (by decide +kernel : ∀ k, k < 13 → hm_kd k = 6 → hm_rf k 9 < 13 ∧ hm_kd (hm_rf k 9) = 7) k h.1 h.2
theorem hm_kr_6_10 {k : Nat} (h : hb_is ΛM k 6) : hb_is ΛM (hm_rf k 10) 7 := (by decide +kernel : ∀ k, k < 13 → hm_kd k = 6 → hm_rf k 10 < 13 ∧ hm_kd (hm_rf k 10) = 7) k h.1 h.2
theorem hm_kr_6_12 {k : Nat} (h : hb_is ΛM k 6) : hb_is ΛM (hm_rf k 12) 7 := (by decide +kernel : ∀ k, k < 13 → hm_kd k = 6 → hm_rf k 12 < 13 ∧ hm_kd (hm_rf k 12) = 7) k h.1 h.2
theorem hm_kr_6_13 {k : Nat} (h : hb_is ΛM k 6) : hb_is ΛM (hm_rf k 13) 7 := (by decide +kernel : ∀ k, k < 13 → hm_kd k = 6 → hm_rf k 13 < 13 ∧ hm_kd (hm_rf k 13) = 7) k h.1 h.2
theorem hm_kr_6_14 {k : Nat} (h : hb_is ΛM k 6) : hb_is ΛM (hm_rf k 14) 7 := (by decide +kernel : ∀ k, k < 13 → hm_kd k = 6 → hm_rf k 14 < 13 ∧ hm_kd (hm_rf k 14) = 7) k h.1 h.2
theorem hm_kr_6_18 {k : Nat} (h : hb_is ΛM k 6) : hb_is ΛM (hm_rf k 18) 7 := (by decide +kernel : ∀ k, k < 13 → hm_kd k = 6 → hm_rf k 18 < 13 ∧ hm_kd (hm_rf k 18) = 7) k h.1 h.2
theorem hc_ldr_kind {a b : Nat} {i : Int32} (ha : hb_is ΛC a 8) (h : hb_ldr ΛC a i = some b) : hb_is ΛC b 2 := by
  have h135 : a = 135 := (by decide +kernel : ∀ k, k < 160 → hc_kd k = 8 → k = 135) a ha.1 ha.2
  subst h135
  unfold hb_ldr at h
  split at h
  · cases h
  · rename_i hin
    cases h
    have h4 : i.toNatClampNeg < 4 := Nat.not_le.mp fun q => hin (Or.inr q)
    exact (by decide +kernel : ∀ j, j < 4 → hc_rf 135 j < 160 ∧ hc_kd (hc_rf 135 j) = 2) _ h4
end
section
/-! the words of fields and calls (laid by wip/whole/gen.py) -/
theorem cw_Jxf58ca_59 : hb_cS RJxf58ca 59 yJxf58ca_isNaN_12338 cJxf58ca_isNaN_12338 1 (some .boolean) 1 := ⟨List.mem_of_getElem? (i := 867) (by decide +kernel), List.mem_of_getElem? (i := 868) (by decide +kernel), List.mem_of_getElem? (i := 869) (by decide +kernel), List.mem_of_getElem? (i := 69) (by decide +kernel), ⟨by decide +kernel, by decide +kernel⟩, by decide +kernel⟩
theorem tw_X0_11 : (Cond.fieldLink RX0 11 (TX0 0).1 (TX0 0).2.1 (TX0 0).2.2.1) ∈ lw_tbl := List.mem_of_getElem? (i := 154) (by decide +kernel)
theorem tw_X0_18 : (Cond.fieldLink RX0 18 (TX0 1).1 (TX0 1).2.1 (TX0 1).2.2.1) ∈ lw_tbl := List.mem_of_getElem? (i := 155) (by decide +kernel)
theorem tw_X0_22 : (Cond.fieldLink RX0 22 (TX0 2).1 (TX0 2).2.1 (TX0 2).2.2.1) ∈ lw_tbl := List.mem_of_getElem? (i := 156) (by decide +kernel)
theorem cw_X0_25 : hb_cV RX0 25 yX0_stateAt cX0_stateAt 2 (some (.object "PathBook$State")) 1 := ⟨List.mem_of_getElem? (i := 299) (by decide +kernel), List.mem_of_getElem? (i := 301) (by decide +kernel), List.mem_of_getElem? (i := 1) (by decide +kernel), List.mem_of_getElem? (i := 302) (by decide +kernel), List.mem_of_getElem? (i := 65) (by decide +kernel), ⟨by decide +kernel, by decide +kernel⟩, by decide +kernel⟩
theorem cw_X0_29 : hb_cV RX0 29 yX2_copyFrom cX2_copyFrom 2 none 1 := ⟨List.mem_of_getElem? (i := 303) (by decide +kernel), List.mem_of_getElem? (i := 304) (by decide +kernel), List.mem_of_getElem? (i := 305) (by decide +kernel), List.mem_of_getElem? (i := 306) (by decide +kernel), List.mem_of_getElem? (i := 63) (by decide +kernel), ⟨by decide +kernel, by decide +kernel⟩, by decide +kernel⟩
theorem tw_X1_7 : (Cond.fieldLink RX1 7 (TX1 0).1 (TX1 0).2.1 (TX1 0).2.2.1) ∈ lw_tbl := List.mem_of_getElem? (i := 90) (by decide +kernel)
theorem cw_X1_13 : hb_cV RX1 13 yX1_at cX1_at 2 (some .int) 1 := ⟨List.mem_of_getElem? (i := 311) (by decide +kernel), List.mem_of_getElem? (i := 312) (by decide +kernel), List.mem_of_getElem? (i := 313) (by decide +kernel), List.mem_of_getElem? (i := 314) (by decide +kernel), List.mem_of_getElem? (i := 64) (by decide +kernel), ⟨by decide +kernel, by decide +kernel⟩, by decide +kernel⟩
theorem cw_X1_17 : hb_cV RX1 17 yX1_put cX1_put 3 none 2 := ⟨List.mem_of_getElem? (i := 409) (by decide +kernel), List.mem_of_getElem? (i := 320) (by decide +kernel), List.mem_of_getElem? (i := 321) (by decide +kernel), List.mem_of_getElem? (i := 322) (by decide +kernel), List.mem_of_getElem? (i := 64) (by decide +kernel), ⟨by decide +kernel, by decide +kernel⟩, by decide +kernel⟩
theorem tw_X2_20 : (Cond.fieldLink RX2 20 (TX2 1).1 (TX2 1).2.1 (TX2 1).2.2.1) ∈ lw_tbl := List.mem_of_getElem? (i := 102) (by decide +kernel)
theorem tw_X2_24 : (Cond.fieldLink RX2 24 (TX2 2).1 (TX2 2).2.1 (TX2 2).2.2.1) ∈ lw_tbl := List.mem_of_getElem? (i := 104) (by decide +kernel)
theorem tw_X2_27 : (Cond.fieldLink RX2 27 (TX2 3).1 (TX2 3).2.1 (TX2 3).2.2.1) ∈ lw_tbl := List.mem_of_getElem? (i := 106) (by decide +kernel)
theorem tw_X2_30 : (Cond.fieldLink RX2 30 (TX2 4).1 (TX2 4).2.1 (TX2 4).2.2.1) ∈ lw_tbl := List.mem_of_getElem? (i := 108) (by decide +kernel)
theorem tw_X2_33 : (Cond.fieldLink RX2 33 (TX2 5).1 (TX2 5).2.1 (TX2 5).2.2.1) ∈ lw_tbl := List.mem_of_getElem? (i := 110) (by decide +kernel)
theorem tw_X2_36 : (Cond.fieldLink RX2 36 (TX2 6).1 (TX2 6).2.1 (TX2 6).2.2.1) ∈ lw_tbl := List.mem_of_getElem? (i := 112) (by decide +kernel)
theorem tw_X2_39 : (Cond.fieldLink RX2 39 (TX2 7).1 (TX2 7).2.1 (TX2 7).2.2.1) ∈ lw_tbl := List.mem_of_getElem? (i := 114) (by decide +kernel)
theorem tw_X2_42 : (Cond.fieldLink RX2 42 (TX2 8).1 (TX2 8).2.1 (TX2 8).2.2.1) ∈ lw_tbl := List.mem_of_getElem? (i := 116) (by decide +kernel)
theorem tw_X2_48 : (Cond.fieldLink RX2 48 (TX2 9).1 (TX2 9).2.1 (TX2 9).2.2.1) ∈ lw_tbl := List.mem_of_getElem? (i := 118) (by decide +kernel)
theorem tw_X2_51 : (Cond.fieldLink RX2 51 (TX2 10).1 (TX2 10).2.1 (TX2 10).2.2.1) ∈ lw_tbl := List.mem_of_getElem? (i := 120) (by decide +kernel)
theorem tw_X2_9 : (Cond.fieldLink RX2 9 (TX2 0).1 (TX2 0).2.1 (TX2 0).2.2.1) ∈ lw_tbl := List.mem_of_getElem? (i := 99) (by decide +kernel)
theorem cw_X2_101 : hb_cV RX2 101 yX2_moodOf cX2_moodOf 2 (some .float) 1 := ⟨List.mem_of_getElem? (i := 527) (by decide +kernel), List.mem_of_getElem? (i := 513) (by decide +kernel), List.mem_of_getElem? (i := 514) (by decide +kernel), List.mem_of_getElem? (i := 515) (by decide +kernel), List.mem_of_getElem? (i := 63) (by decide +kernel), ⟨by decide +kernel, by decide +kernel⟩, by decide +kernel⟩
theorem cw_X2_105 : hb_cV RX2 105 yX2_placeComingTo cX2_placeComingTo 3 (some .int) 2 := ⟨List.mem_of_getElem? (i := 443) (by decide +kernel), List.mem_of_getElem? (i := 444) (by decide +kernel), List.mem_of_getElem? (i := 445) (by decide +kernel), List.mem_of_getElem? (i := 446) (by decide +kernel), List.mem_of_getElem? (i := 63) (by decide +kernel), ⟨by decide +kernel, by decide +kernel⟩, by decide +kernel⟩
theorem cw_X2_108 : hb_cV RX2 108 yX2_reasonAt cX2_reasonAt 6 (some .int) 2 := ⟨List.mem_of_getElem? (i := 463) (by decide +kernel), List.mem_of_getElem? (i := 464) (by decide +kernel), List.mem_of_getElem? (i := 465) (by decide +kernel), List.mem_of_getElem? (i := 466) (by decide +kernel), List.mem_of_getElem? (i := 63) (by decide +kernel), ⟨by decide +kernel, by decide +kernel⟩, by decide +kernel⟩
theorem cw_X2_54 : hb_cV RX2 54 yX1_copyFrom cX1_copyFrom 3 none 1 := ⟨List.mem_of_getElem? (i := 307) (by decide +kernel), List.mem_of_getElem? (i := 308) (by decide +kernel), List.mem_of_getElem? (i := 309) (by decide +kernel), List.mem_of_getElem? (i := 310) (by decide +kernel), List.mem_of_getElem? (i := 64) (by decide +kernel), ⟨by decide +kernel, by decide +kernel⟩, by decide +kernel⟩
theorem cw_X2_58 : hb_cV RX2 58 yX2_hasPage cX2_hasPage 2 (some .boolean) 1 := ⟨List.mem_of_getElem? (i := 341) (by decide +kernel), List.mem_of_getElem? (i := 328) (by decide +kernel), List.mem_of_getElem? (i := 329) (by decide +kernel), List.mem_of_getElem? (i := 330) (by decide +kernel), List.mem_of_getElem? (i := 63) (by decide +kernel), ⟨by decide +kernel, by decide +kernel⟩, by decide +kernel⟩
theorem cw_X2_62 : hb_cV RX2 62 yX1_at cX1_at 2 (some .int) 1 := ⟨List.mem_of_getElem? (i := 343) (by decide +kernel), List.mem_of_getElem? (i := 312) (by decide +kernel), List.mem_of_getElem? (i := 313) (by decide +kernel), List.mem_of_getElem? (i := 314) (by decide +kernel), List.mem_of_getElem? (i := 64) (by decide +kernel), ⟨by decide +kernel, by decide +kernel⟩, by decide +kernel⟩
theorem cw_X2_66 : hb_cV RX2 66 yX1_put cX1_put 3 none 2 := ⟨List.mem_of_getElem? (i := 319) (by decide +kernel), List.mem_of_getElem? (i := 320) (by decide +kernel), List.mem_of_getElem? (i := 321) (by decide +kernel), List.mem_of_getElem? (i := 322) (by decide +kernel), List.mem_of_getElem? (i := 64) (by decide +kernel), ⟨by decide +kernel, by decide +kernel⟩, by decide +kernel⟩
theorem cw_X2_70 : hb_cSN RX2 "PathBook" 70 yX5_isFlagSet cX5_isFlagSet 1 (some .boolean) 1 := ⟨List.mem_of_getElem? (i := 342) (by decide +kernel), List.mem_of_getElem? (i := 289) (by decide +kernel), List.mem_of_getElem? (i := 290) (by decide +kernel), List.mem_of_getElem? (i := 62) (by decide +kernel), ⟨by decide +kernel, by decide +kernel⟩, by decide +kernel⟩
theorem cw_X2_73 : hb_cSN RX2 "PathBook" 73 yX5_slotOf cX5_slotOf 2 (some .int) 2 := ⟨List.mem_of_getElem? (i := 348) (by decide +kernel), List.mem_of_getElem? (i := 349) (by decide +kernel), List.mem_of_getElem? (i := 350) (by decide +kernel), List.mem_of_getElem? (i := 62) (by decide +kernel), ⟨by decide +kernel, by decide +kernel⟩, by decide +kernel⟩
theorem cw_X2_77 : hb_cV RX2 77 yX1_swap cX1_swap 4 none 2 := ⟨List.mem_of_getElem? (i := 405) (by decide +kernel), List.mem_of_getElem? (i := 406) (by decide +kernel), List.mem_of_getElem? (i := 407) (by decide +kernel), List.mem_of_getElem? (i := 408) (by decide +kernel), List.mem_of_getElem? (i := 64) (by decide +kernel), ⟨by decide +kernel, by decide +kernel⟩, by decide +kernel⟩
theorem cw_X2_80 : hb_cS RX2 80 yX2_renumbered cX2_renumbered 3 (some .int) 3 := ⟨List.mem_of_getElem? (i := 410) (by decide +kernel), List.mem_of_getElem? (i := 411) (by decide +kernel), List.mem_of_getElem? (i := 412) (by decide +kernel), List.mem_of_getElem? (i := 63) (by decide +kernel), ⟨by decide +kernel, by decide +kernel⟩, by decide +kernel⟩
theorem cw_X2_84 : hb_cS RX2 84 yX2_moved cX2_moved 3 (some .int) 3 := ⟨List.mem_of_getElem? (i := 413) (by decide +kernel), List.mem_of_getElem? (i := 414) (by decide +kernel), List.mem_of_getElem? (i := 415) (by decide +kernel), List.mem_of_getElem? (i := 63) (by decide +kernel), ⟨by decide +kernel, by decide +kernel⟩, by decide +kernel⟩
theorem cw_X2_87 : hb_cSN RX2 "PathBook" 87 yX5_pageAt cX5_pageAt 1 (some .int) 1 := ⟨List.mem_of_getElem? (i := 416) (by decide +kernel), List.mem_of_getElem? (i := 417) (by decide +kernel), List.mem_of_getElem? (i := 418) (by decide +kernel), List.mem_of_getElem? (i := 62) (by decide +kernel), ⟨by decide +kernel, by decide +kernel⟩, by decide +kernel⟩
theorem cw_X2_90 : hb_cSN RX2 "PathBook" 90 yX5_flagsAt cX5_flagsAt 1 (some .int) 1 := ⟨List.mem_of_getElem? (i := 419) (by decide +kernel), List.mem_of_getElem? (i := 420) (by decide +kernel), List.mem_of_getElem? (i := 421) (by decide +kernel), List.mem_of_getElem? (i := 62) (by decide +kernel), ⟨by decide +kernel, by decide +kernel⟩, by decide +kernel⟩
theorem cw_X2_93 : hb_cSN RX2 "PathBook" 93 yX5_placeOf cX5_placeOf 2 (some .int) 2 := ⟨List.mem_of_getElem? (i := 422) (by decide +kernel), List.mem_of_getElem? (i := 423) (by decide +kernel), List.mem_of_getElem? (i := 424) (by decide +kernel), List.mem_of_getElem? (i := 62) (by decide +kernel), ⟨by decide +kernel, by decide +kernel⟩, by decide +kernel⟩
theorem cw_X2_96 : hb_cSN RX2 "PathBook" 96 yX5_oneIf cX5_oneIf 1 (some .int) 1 := ⟨List.mem_of_getElem? (i := 429) (by decide +kernel), List.mem_of_getElem? (i := 430) (by decide +kernel), List.mem_of_getElem? (i := 431) (by decide +kernel), List.mem_of_getElem? (i := 62) (by decide +kernel), ⟨by decide +kernel, by decide +kernel⟩, by decide +kernel⟩
theorem tw_X3_15 : (Cond.fieldLink RX3 15 (TX3 1).1 (TX3 1).2.1 (TX3 1).2.2.1) ∈ lw_tbl := List.mem_of_getElem? (i := 218) (by decide +kernel)
theorem tw_X3_19 : (Cond.fieldLink RX3 19 (TX3 2).1 (TX3 2).2.1 (TX3 2).2.2.1) ∈ lw_tbl := List.mem_of_getElem? (i := 219) (by decide +kernel)
theorem tw_X3_27 : (Cond.fieldLink RX3 27 (TX3 3).1 (TX3 3).2.1 (TX3 3).2.2.1) ∈ lw_tbl := List.mem_of_getElem? (i := 221) (by decide +kernel)
theorem tw_X3_31 : (Cond.fieldLink RX3 31 (TX3 4).1 (TX3 4).2.1 (TX3 4).2.2.1) ∈ lw_tbl := List.mem_of_getElem? (i := 222) (by decide +kernel)
theorem tw_X3_34 : (Cond.fieldLink RX3 34 (TX3 5).1 (TX3 5).2.1 (TX3 5).2.2.1) ∈ lw_tbl := List.mem_of_getElem? (i := 223) (by decide +kernel)
theorem tw_X3_37 : (Cond.fieldLink RX3 37 (TX3 6).1 (TX3 6).2.1 (TX3 6).2.2.1) ∈ lw_tbl := List.mem_of_getElem? (i := 224) (by decide +kernel)
theorem tw_X3_40 : (Cond.fieldLink RX3 40 (TX3 7).1 (TX3 7).2.1 (TX3 7).2.2.1) ∈ lw_tbl := List.mem_of_getElem? (i := 225) (by decide +kernel)
theorem tw_X3_43 : (Cond.fieldLink RX3 43 (TX3 8).1 (TX3 8).2.1 (TX3 8).2.2.1) ∈ lw_tbl := List.mem_of_getElem? (i := 226) (by decide +kernel)
theorem tw_X3_46 : (Cond.fieldLink RX3 46 (TX3 9).1 (TX3 9).2.1 (TX3 9).2.2.1) ∈ lw_tbl := List.mem_of_getElem? (i := 228) (by decide +kernel)
theorem tw_X3_49 : (Cond.fieldLink RX3 49 (TX3 10).1 (TX3 10).2.1 (TX3 10).2.2.1) ∈ lw_tbl := List.mem_of_getElem? (i := 230) (by decide +kernel)
theorem tw_X3_52 : (Cond.fieldLink RX3 52 (TX3 11).1 (TX3 11).2.1 (TX3 11).2.2.1) ∈ lw_tbl := List.mem_of_getElem? (i := 232) (by decide +kernel)
theorem tw_X3_55 : (Cond.fieldLinkNest RX3 55 (TX2 0).1 (TX2 0).2.1 (TX2 0).2.2.1 "PathBook") ∈ lw_tbl := List.mem_of_getElem? (i := 100) (by decide +kernel)
theorem tw_X3_9 : (Cond.fieldLink RX3 9 (TX3 0).1 (TX3 0).2.1 (TX3 0).2.2.1) ∈ lw_tbl := List.mem_of_getElem? (i := 216) (by decide +kernel)
theorem cw_X3_101 : hb_cV RX3 101 yX1_put cX1_put 3 none 2 := ⟨List.mem_of_getElem? (i := 551) (by decide +kernel), List.mem_of_getElem? (i := 320) (by decide +kernel), List.mem_of_getElem? (i := 321) (by decide +kernel), List.mem_of_getElem? (i := 322) (by decide +kernel), List.mem_of_getElem? (i := 64) (by decide +kernel), ⟨by decide +kernel, by decide +kernel⟩, by decide +kernel⟩
theorem cw_X3_105 : hb_cV RX3 105 yX3_growAhead cX3_growAhead 9 (some .boolean) 1 := ⟨List.mem_of_getElem? (i := 564) (by decide +kernel), List.mem_of_getElem? (i := 566) (by decide +kernel), List.mem_of_getElem? (i := 12) (by decide +kernel), List.mem_of_getElem? (i := 567) (by decide +kernel), List.mem_of_getElem? (i := 67) (by decide +kernel), ⟨by decide +kernel, by decide +kernel⟩, by decide +kernel⟩
theorem cw_X3_109 : hb_cSN RX3 "PathBook" 109 yX5_pageAt cX5_pageAt 1 (some .int) 1 := ⟨List.mem_of_getElem? (i := 568) (by decide +kernel), List.mem_of_getElem? (i := 417) (by decide +kernel), List.mem_of_getElem? (i := 418) (by decide +kernel), List.mem_of_getElem? (i := 62) (by decide +kernel), ⟨by decide +kernel, by decide +kernel⟩, by decide +kernel⟩
theorem cw_X3_112 : hb_cV RX3 112 yX2_kindOf cX2_kindOf 2 (some .int) 1 := ⟨List.mem_of_getElem? (i := 573) (by decide +kernel), List.mem_of_getElem? (i := 524) (by decide +kernel), List.mem_of_getElem? (i := 525) (by decide +kernel), List.mem_of_getElem? (i := 526) (by decide +kernel), List.mem_of_getElem? (i := 63) (by decide +kernel), ⟨by decide +kernel, by decide +kernel⟩, by decide +kernel⟩
theorem cw_X3_115 : hb_cSN RX3 "PathBook" 115 yX5_oneIf cX5_oneIf 1 (some .int) 1 := ⟨List.mem_of_getElem? (i := 574) (by decide +kernel), List.mem_of_getElem? (i := 430) (by decide +kernel), List.mem_of_getElem? (i := 431) (by decide +kernel), List.mem_of_getElem? (i := 62) (by decide +kernel), ⟨by decide +kernel, by decide +kernel⟩, by decide +kernel⟩
theorem cw_X3_119 : hb_cV RX3 119 yX3_layWay cX3_layWay 4 none 1 := ⟨List.mem_of_getElem? (i := 579) (by decide +kernel), List.mem_of_getElem? (i := 581) (by decide +kernel), List.mem_of_getElem? (i := 15) (by decide +kernel), List.mem_of_getElem? (i := 582) (by decide +kernel), List.mem_of_getElem? (i := 67) (by decide +kernel), ⟨by decide +kernel, by decide +kernel⟩, by decide +kernel⟩
theorem cw_X3_122 : hb_cSN RX3 "PathBook" 122 yX5_placeOf cX5_placeOf 2 (some .int) 2 := ⟨List.mem_of_getElem? (i := 591) (by decide +kernel), List.mem_of_getElem? (i := 423) (by decide +kernel), List.mem_of_getElem? (i := 424) (by decide +kernel), List.mem_of_getElem? (i := 62) (by decide +kernel), ⟨by decide +kernel, by decide +kernel⟩, by decide +kernel⟩
theorem cw_X3_125 : hb_cV RX3 125 yX3_placesWith cX3_placesWith 4 (some .int) 1 := ⟨List.mem_of_getElem? (i := 587) (by decide +kernel), List.mem_of_getElem? (i := 588) (by decide +kernel), List.mem_of_getElem? (i := 589) (by decide +kernel), List.mem_of_getElem? (i := 590) (by decide +kernel), List.mem_of_getElem? (i := 67) (by decide +kernel), ⟨by decide +kernel, by decide +kernel⟩, by decide +kernel⟩
theorem cw_X3_128 : hb_cV RX3 128 yX3_isStuck cX3_isStuck 2 (some .boolean) 1 := ⟨List.mem_of_getElem? (i := 601) (by decide +kernel), List.mem_of_getElem? (i := 603) (by decide +kernel), List.mem_of_getElem? (i := 16) (by decide +kernel), List.mem_of_getElem? (i := 604) (by decide +kernel), List.mem_of_getElem? (i := 67) (by decide +kernel), ⟨by decide +kernel, by decide +kernel⟩, by decide +kernel⟩
theorem cw_X3_131 : hb_cV RX3 131 yX3_isDead cX3_isDead 2 (some .boolean) 1 := ⟨List.mem_of_getElem? (i := 653) (by decide +kernel), List.mem_of_getElem? (i := 584) (by decide +kernel), List.mem_of_getElem? (i := 585) (by decide +kernel), List.mem_of_getElem? (i := 586) (by decide +kernel), List.mem_of_getElem? (i := 67) (by decide +kernel), ⟨by decide +kernel, by decide +kernel⟩, by decide +kernel⟩
theorem cw_X3_134 : hb_cV RX3 134 yX3_comesAgain cX3_comesAgain 4 (some .boolean) 1 := ⟨List.mem_of_getElem? (i := 658) (by decide +kernel), List.mem_of_getElem? (i := 594) (by decide +kernel), List.mem_of_getElem? (i := 595) (by decide +kernel), List.mem_of_getElem? (i := 596) (by decide +kernel), List.mem_of_getElem? (i := 67) (by decide +kernel), ⟨by decide +kernel, by decide +kernel⟩, by decide +kernel⟩
theorem cw_X3_137 : hb_cV RX3 137 yX3_stuckPlacesWith cX3_stuckPlacesWith 4 (some .int) 1 := ⟨List.mem_of_getElem? (i := 663) (by decide +kernel), List.mem_of_getElem? (i := 598) (by decide +kernel), List.mem_of_getElem? (i := 599) (by decide +kernel), List.mem_of_getElem? (i := 600) (by decide +kernel), List.mem_of_getElem? (i := 67) (by decide +kernel), ⟨by decide +kernel, by decide +kernel⟩, by decide +kernel⟩
theorem cw_X3_140 : hb_cV RX3 140 yX2_reasonAt cX2_reasonAt 6 (some .int) 2 := ⟨List.mem_of_getElem? (i := 619) (by decide +kernel), List.mem_of_getElem? (i := 464) (by decide +kernel), List.mem_of_getElem? (i := 465) (by decide +kernel), List.mem_of_getElem? (i := 466) (by decide +kernel), List.mem_of_getElem? (i := 63) (by decide +kernel), ⟨by decide +kernel, by decide +kernel⟩, by decide +kernel⟩
theorem cw_X3_58 : hb_cV RX3 58 yX3_findPlaces cX3_findPlaces 7 none 1 := ⟨List.mem_of_getElem? (i := 536) (by decide +kernel), List.mem_of_getElem? (i := 538) (by decide +kernel), List.mem_of_getElem? (i := 8) (by decide +kernel), List.mem_of_getElem? (i := 539) (by decide +kernel), List.mem_of_getElem? (i := 67) (by decide +kernel), ⟨by decide +kernel, by decide +kernel⟩, by decide +kernel⟩
theorem cw_X3_62 : hb_cV RX3 62 yX3_findAhead cX3_findAhead 4 none 1 := ⟨List.mem_of_getElem? (i := 560) (by decide +kernel), List.mem_of_getElem? (i := 562) (by decide +kernel), List.mem_of_getElem? (i := 11) (by decide +kernel), List.mem_of_getElem? (i := 563) (by decide +kernel), List.mem_of_getElem? (i := 67) (by decide +kernel), ⟨by decide +kernel, by decide +kernel⟩, by decide +kernel⟩
theorem cw_X3_65 : hb_cV RX3 65 yX3_findEnds cX3_findEnds 4 none 1 := ⟨List.mem_of_getElem? (i := 569) (by decide +kernel), List.mem_of_getElem? (i := 571) (by decide +kernel), List.mem_of_getElem? (i := 13) (by decide +kernel), List.mem_of_getElem? (i := 572) (by decide +kernel), List.mem_of_getElem? (i := 67) (by decide +kernel), ⟨by decide +kernel, by decide +kernel⟩, by decide +kernel⟩
theorem cw_X3_68 : hb_cV RX3 68 yX3_findWay cX3_findWay 2 none 0 := ⟨List.mem_of_getElem? (i := 575) (by decide +kernel), List.mem_of_getElem? (i := 577) (by decide +kernel), List.mem_of_getElem? (i := 14) (by decide +kernel), List.mem_of_getElem? (i := 578) (by decide +kernel), List.mem_of_getElem? (i := 67) (by decide +kernel), ⟨by decide +kernel, by decide +kernel⟩, by decide +kernel⟩
theorem cw_X3_71 : hb_cV RX3 71 yX1_fill cX1_fill 3 none 1 := ⟨List.mem_of_getElem? (i := 540) (by decide +kernel), List.mem_of_getElem? (i := 96) (by decide +kernel), List.mem_of_getElem? (i := 97) (by decide +kernel), List.mem_of_getElem? (i := 98) (by decide +kernel), List.mem_of_getElem? (i := 64) (by decide +kernel), ⟨by decide +kernel, by decide +kernel⟩, by decide +kernel⟩
theorem cw_X3_74 : hb_cV RX3 74 yX2_firstPlace cX2_firstPlace 1 (some .int) 0 := ⟨List.mem_of_getElem? (i := 541) (by decide +kernel), List.mem_of_getElem? (i := 440) (by decide +kernel), List.mem_of_getElem? (i := 441) (by decide +kernel), List.mem_of_getElem? (i := 442) (by decide +kernel), List.mem_of_getElem? (i := 63) (by decide +kernel), ⟨by decide +kernel, by decide +kernel⟩, by decide +kernel⟩
theorem cw_X3_78 : hb_cV RX3 78 yX3_addPlace cX3_addPlace 5 none 4 := ⟨List.mem_of_getElem? (i := 542) (by decide +kernel), List.mem_of_getElem? (i := 544) (by decide +kernel), List.mem_of_getElem? (i := 9) (by decide +kernel), List.mem_of_getElem? (i := 545) (by decide +kernel), List.mem_of_getElem? (i := 67) (by decide +kernel), ⟨by decide +kernel, by decide +kernel⟩, by decide +kernel⟩
theorem cw_X3_82 : hb_cV RX3 82 yX1_at cX1_at 2 (some .int) 1 := ⟨List.mem_of_getElem? (i := 550) (by decide +kernel), List.mem_of_getElem? (i := 312) (by decide +kernel), List.mem_of_getElem? (i := 313) (by decide +kernel), List.mem_of_getElem? (i := 314) (by decide +kernel), List.mem_of_getElem? (i := 64) (by decide +kernel), ⟨by decide +kernel, by decide +kernel⟩, by decide +kernel⟩
theorem cw_X3_86 : hb_cV RX3 86 yX2_openChoices cX2_openChoices 4 (some .int) 1 := ⟨List.mem_of_getElem? (i := 552) (by decide +kernel), List.mem_of_getElem? (i := 553) (by decide +kernel), List.mem_of_getElem? (i := 554) (by decide +kernel), List.mem_of_getElem? (i := 555) (by decide +kernel), List.mem_of_getElem? (i := 63) (by decide +kernel), ⟨by decide +kernel, by decide +kernel⟩, by decide +kernel⟩
theorem cw_X3_89 : hb_cS RX3 89 yX3_isIn cX3_isIn 2 (some .boolean) 2 := ⟨List.mem_of_getElem? (i := 556) (by decide +kernel), List.mem_of_getElem? (i := 557) (by decide +kernel), List.mem_of_getElem? (i := 558) (by decide +kernel), List.mem_of_getElem? (i := 67) (by decide +kernel), ⟨by decide +kernel, by decide +kernel⟩, by decide +kernel⟩
theorem cw_X3_93 : hb_cV RX3 93 yX2_placeBehind cX2_placeBehind 3 (some .int) 2 := ⟨List.mem_of_getElem? (i := 559) (by decide +kernel), List.mem_of_getElem? (i := 468) (by decide +kernel), List.mem_of_getElem? (i := 469) (by decide +kernel), List.mem_of_getElem? (i := 470) (by decide +kernel), List.mem_of_getElem? (i := 63) (by decide +kernel), ⟨by decide +kernel, by decide +kernel⟩, by decide +kernel⟩
theorem cw_X3_97 : hb_cV RX3 97 yX3_isReached cX3_isReached 2 (some .boolean) 1 := ⟨List.mem_of_getElem? (i := 546) (by decide +kernel), List.mem_of_getElem? (i := 548) (by decide +kernel), List.mem_of_getElem? (i := 10) (by decide +kernel), List.mem_of_getElem? (i := 549) (by decide +kernel), List.mem_of_getElem? (i := 67) (by decide +kernel), ⟨by decide +kernel, by decide +kernel⟩, by decide +kernel⟩
theorem tw_X4_14 : (Cond.fieldLink RX4 14 (TX4 0).1 (TX4 0).2.1 (TX4 0).2.2.1) ∈ lw_tbl := List.mem_of_getElem? (i := 173) (by decide +kernel)
theorem tw_X4_20 : (Cond.fieldLink RX4 20 (TX4 1).1 (TX4 1).2.1 (TX4 1).2.2.1) ∈ lw_tbl := List.mem_of_getElem? (i := 174) (by decide +kernel)
theorem tw_X4_24 : (Cond.fieldLink RX4 24 (TX4 2).1 (TX4 2).2.1 (TX4 2).2.2.1) ∈ lw_tbl := List.mem_of_getElem? (i := 176) (by decide +kernel)
theorem tw_X4_27 : (Cond.fieldLink RX4 27 (TX4 3).1 (TX4 3).2.1 (TX4 3).2.2.1) ∈ lw_tbl := List.mem_of_getElem? (i := 178) (by decide +kernel)
theorem tw_X4_31 : (Cond.fieldLink RX4 31 (TX4 4).1 (TX4 4).2.1 (TX4 4).2.2.1) ∈ lw_tbl := List.mem_of_getElem? (i := 179) (by decide +kernel)
theorem tw_X4_34 : (Cond.fieldLink RX4 34 (TX4 5).1 (TX4 5).2.1 (TX4 5).2.2.1) ∈ lw_tbl := List.mem_of_getElem? (i := 181) (by decide +kernel)
theorem tw_X4_37 : (Cond.fieldLink RX4 37 (TX4 6).1 (TX4 6).2.1 (TX4 6).2.2.1) ∈ lw_tbl := List.mem_of_getElem? (i := 183) (by decide +kernel)
theorem tw_X4_40 : (Cond.fieldLink RX4 40 (TX4 7).1 (TX4 7).2.1 (TX4 7).2.2.1) ∈ lw_tbl := List.mem_of_getElem? (i := 185) (by decide +kernel)
theorem tw_X4_43 : (Cond.fieldLink RX4 43 (TX4 8).1 (TX4 8).2.1 (TX4 8).2.2.1) ∈ lw_tbl := List.mem_of_getElem? (i := 187) (by decide +kernel)
theorem cw_X4_46 : hb_cV RX4 46 yX1_put cX1_put 3 none 2 := ⟨List.mem_of_getElem? (i := 383) (by decide +kernel), List.mem_of_getElem? (i := 320) (by decide +kernel), List.mem_of_getElem? (i := 321) (by decide +kernel), List.mem_of_getElem? (i := 322) (by decide +kernel), List.mem_of_getElem? (i := 64) (by decide +kernel), ⟨by decide +kernel, by decide +kernel⟩, by decide +kernel⟩
theorem cw_X4_50 : hb_cV RX4 50 yX4_parseChoice cX4_parseChoice 5 none 0 := ⟨List.mem_of_getElem? (i := 359) (by decide +kernel), List.mem_of_getElem? (i := 361) (by decide +kernel), List.mem_of_getElem? (i := 2) (by decide +kernel), List.mem_of_getElem? (i := 362) (by decide +kernel), List.mem_of_getElem? (i := 66) (by decide +kernel), ⟨by decide +kernel, by decide +kernel⟩, by decide +kernel⟩
theorem cw_X4_53 : hb_cV RX4 53 yX4_sign cX4_sign 1 (some .int) 0 := ⟨List.mem_of_getElem? (i := 367) (by decide +kernel), List.mem_of_getElem? (i := 369) (by decide +kernel), List.mem_of_getElem? (i := 4) (by decide +kernel), List.mem_of_getElem? (i := 370) (by decide +kernel), List.mem_of_getElem? (i := 66) (by decide +kernel), ⟨by decide +kernel, by decide +kernel⟩, by decide +kernel⟩
theorem cw_X4_57 : hb_cV RX4 57 yX1_at cX1_at 2 (some .int) 1 := ⟨List.mem_of_getElem? (i := 371) (by decide +kernel), List.mem_of_getElem? (i := 312) (by decide +kernel), List.mem_of_getElem? (i := 313) (by decide +kernel), List.mem_of_getElem? (i := 314) (by decide +kernel), List.mem_of_getElem? (i := 64) (by decide +kernel), ⟨by decide +kernel, by decide +kernel⟩, by decide +kernel⟩
theorem cw_X4_60 : hb_cV RX4 60 yX4_parseNumber cX4_parseNumber 3 (some .int) 0 := ⟨List.mem_of_getElem? (i := 363) (by decide +kernel), List.mem_of_getElem? (i := 365) (by decide +kernel), List.mem_of_getElem? (i := 3) (by decide +kernel), List.mem_of_getElem? (i := 366) (by decide +kernel), List.mem_of_getElem? (i := 66) (by decide +kernel), ⟨by decide +kernel, by decide +kernel⟩, by decide +kernel⟩
theorem cw_X4_63 : hb_cV RX4 63 yX4_parseArrow cX4_parseArrow 1 none 0 := ⟨List.mem_of_getElem? (i := 375) (by decide +kernel), List.mem_of_getElem? (i := 377) (by decide +kernel), List.mem_of_getElem? (i := 5) (by decide +kernel), List.mem_of_getElem? (i := 378) (by decide +kernel), List.mem_of_getElem? (i := 66) (by decide +kernel), ⟨by decide +kernel, by decide +kernel⟩, by decide +kernel⟩
theorem cw_X4_66 : hb_cV RX4 66 yX4_parseFlags cX4_parseFlags 4 (some .int) 1 := ⟨List.mem_of_getElem? (i := 379) (by decide +kernel), List.mem_of_getElem? (i := 381) (by decide +kernel), List.mem_of_getElem? (i := 6) (by decide +kernel), List.mem_of_getElem? (i := 382) (by decide +kernel), List.mem_of_getElem? (i := 66) (by decide +kernel), ⟨by decide +kernel, by decide +kernel⟩, by decide +kernel⟩
theorem cw_X4_70 : hb_cS RX4 70 yX4_isDigit cX4_isDigit 1 (some .boolean) 1 := ⟨List.mem_of_getElem? (i := 372) (by decide +kernel), List.mem_of_getElem? (i := 373) (by decide +kernel), List.mem_of_getElem? (i := 374) (by decide +kernel), List.mem_of_getElem? (i := 66) (by decide +kernel), ⟨by decide +kernel, by decide +kernel⟩, by decide +kernel⟩
theorem tw_X5_102 : (Cond.fieldLinkNest RX5 102 (TX4 4).1 (TX4 4).2.1 (TX4 4).2.2.1 "PathBook") ∈ lw_tbl := List.mem_of_getElem? (i := 180) (by decide +kernel)
theorem tw_X5_105 : (Cond.fieldLinkNest RX5 105 (TX4 5).1 (TX4 5).2.1 (TX4 5).2.2.1 "PathBook") ∈ lw_tbl := List.mem_of_getElem? (i := 182) (by decide +kernel)
theorem tw_X5_108 : (Cond.fieldLinkNest RX5 108 (TX4 6).1 (TX4 6).2.1 (TX4 6).2.2.1 "PathBook") ∈ lw_tbl := List.mem_of_getElem? (i := 184) (by decide +kernel)
theorem tw_X5_111 : (Cond.fieldLinkNest RX5 111 (TX4 7).1 (TX4 7).2.1 (TX4 7).2.2.1 "PathBook") ∈ lw_tbl := List.mem_of_getElem? (i := 186) (by decide +kernel)
theorem tw_X5_114 : (Cond.fieldLinkNest RX5 114 (TX4 8).1 (TX4 8).2.1 (TX4 8).2.2.1 "PathBook") ∈ lw_tbl := List.mem_of_getElem? (i := 188) (by decide +kernel)
theorem tw_X5_12 : (Cond.fieldLink RX5 12 (TX5 0).1 (TX5 0).2.1 (TX5 0).2.2.1) ∈ lw_tbl := List.mem_of_getElem? (i := 259) (by decide +kernel)
theorem tw_X5_151 : (Cond.fieldLinkNest RX5 151 (TX2 8).1 (TX2 8).2.1 (TX2 8).2.2.1 "PathBook") ∈ lw_tbl := List.mem_of_getElem? (i := 117) (by decide +kernel)
theorem tw_X5_157 : (Cond.fieldLinkNest RX5 157 (TX2 9).1 (TX2 9).2.1 (TX2 9).2.2.1 "PathBook") ∈ lw_tbl := List.mem_of_getElem? (i := 119) (by decide +kernel)
theorem tw_X5_16 : (Cond.fieldLink RX5 16 (TX5 1).1 (TX5 1).2.1 (TX5 1).2.2.1) ∈ lw_tbl := List.mem_of_getElem? (i := 260) (by decide +kernel)
theorem tw_X5_163 : (Cond.fieldLinkNest RX5 163 (TX2 10).1 (TX2 10).2.1 (TX2 10).2.2.1 "PathBook") ∈ lw_tbl := List.mem_of_getElem? (i := 121) (by decide +kernel)
theorem tw_X5_166 : (Cond.fieldLinkNest RX5 166 (TX4 1).1 (TX4 1).2.1 (TX4 1).2.2.1 "PathBook") ∈ lw_tbl := List.mem_of_getElem? (i := 175) (by decide +kernel)
theorem tw_X5_173 : (Cond.fieldLinkNest RX5 173 (TX0 2).1 (TX0 2).2.1 (TX0 2).2.2.1 "PathBook") ∈ lw_tbl := List.mem_of_getElem? (i := 157) (by decide +kernel)
theorem tw_X5_179 : (Cond.fieldLinkNest RX5 179 (TX3 0).1 (TX3 0).2.1 (TX3 0).2.2.1 "PathBook") ∈ lw_tbl := List.mem_of_getElem? (i := 217) (by decide +kernel)
theorem tw_X5_182 : (Cond.fieldLinkNest RX5 182 (TX2 2).1 (TX2 2).2.1 (TX2 2).2.2.1 "PathBook") ∈ lw_tbl := List.mem_of_getElem? (i := 105) (by decide +kernel)
theorem tw_X5_185 : (Cond.fieldLinkNest RX5 185 (TX2 3).1 (TX2 3).2.1 (TX2 3).2.2.1 "PathBook") ∈ lw_tbl := List.mem_of_getElem? (i := 107) (by decide +kernel)
theorem tw_X5_19 : (Cond.fieldLink RX5 19 (TX5 2).1 (TX5 2).2.1 (TX5 2).2.2.1) ∈ lw_tbl := List.mem_of_getElem? (i := 261) (by decide +kernel)
theorem tw_X5_22 : (Cond.fieldLink RX5 22 (TX5 3).1 (TX5 3).2.1 (TX5 3).2.2.1) ∈ lw_tbl := List.mem_of_getElem? (i := 262) (by decide +kernel)
theorem tw_X5_225 : (Cond.fieldLinkNest RX5 225 (TX2 5).1 (TX2 5).2.1 (TX2 5).2.2.1 "PathBook") ∈ lw_tbl := List.mem_of_getElem? (i := 111) (by decide +kernel)
theorem tw_X5_226 : (Cond.fieldLinkNest RX5 226 (TX2 6).1 (TX2 6).2.1 (TX2 6).2.2.1 "PathBook") ∈ lw_tbl := List.mem_of_getElem? (i := 113) (by decide +kernel)
theorem tw_X5_227 : (Cond.fieldLinkNest RX5 227 (TX2 7).1 (TX2 7).2.1 (TX2 7).2.2.1 "PathBook") ∈ lw_tbl := List.mem_of_getElem? (i := 115) (by decide +kernel)
theorem tw_X5_235 : (Cond.fieldLinkNest RX5 235 (TX3 10).1 (TX3 10).2.1 (TX3 10).2.2.1 "PathBook") ∈ lw_tbl := List.mem_of_getElem? (i := 231) (by decide +kernel)
theorem tw_X5_238 : (Cond.fieldLinkNest RX5 238 (TX3 11).1 (TX3 11).2.1 (TX3 11).2.2.1 "PathBook") ∈ lw_tbl := List.mem_of_getElem? (i := 233) (by decide +kernel)
theorem tw_X5_256 : (Cond.fieldLinkNest RX5 256 (TX3 2).1 (TX3 2).2.1 (TX3 2).2.2.1 "PathBook") ∈ lw_tbl := List.mem_of_getElem? (i := 220) (by decide +kernel)
theorem tw_X5_259 : (Cond.fieldLinkNest RX5 259 (TX3 8).1 (TX3 8).2.1 (TX3 8).2.2.1 "PathBook") ∈ lw_tbl := List.mem_of_getElem? (i := 227) (by decide +kernel)
theorem tw_X5_265 : (Cond.fieldLinkNest RX5 265 (TX3 9).1 (TX3 9).2.1 (TX3 9).2.2.1 "PathBook") ∈ lw_tbl := List.mem_of_getElem? (i := 229) (by decide +kernel)
theorem tw_X5_29 : (Cond.fieldLink RX5 29 (TX5 4).1 (TX5 4).2.1 (TX5 4).2.2.1) ∈ lw_tbl := List.mem_of_getElem? (i := 263) (by decide +kernel)
theorem tw_X5_36 : (Cond.fieldLink RX5 36 (TX5 5).1 (TX5 5).2.1 (TX5 5).2.2.1) ∈ lw_tbl := List.mem_of_getElem? (i := 264) (by decide +kernel)
theorem tw_X5_43 : (Cond.fieldLink RX5 43 (TX5 6).1 (TX5 6).2.1 (TX5 6).2.2.1) ∈ lw_tbl := List.mem_of_getElem? (i := 265) (by decide +kernel)
theorem tw_X5_54 : (Cond.fieldLinkNest RX5 54 (TX2 0).1 (TX2 0).2.1 (TX2 0).2.2.1 "PathBook") ∈ lw_tbl := List.mem_of_getElem? (i := 101) (by decide +kernel)
theorem tw_X5_68 : (Cond.fieldLinkNest RX5 68 (TX2 1).1 (TX2 1).2.1 (TX2 1).2.2.1 "PathBook") ∈ lw_tbl := List.mem_of_getElem? (i := 103) (by decide +kernel)
theorem tw_X5_82 : (Cond.fieldLinkNest RX5 82 (TX2 4).1 (TX2 4).2.1 (TX2 4).2.2.1 "PathBook") ∈ lw_tbl := List.mem_of_getElem? (i := 109) (by decide +kernel)
theorem tw_X5_96 : (Cond.fieldLinkNest RX5 96 (TX4 2).1 (TX4 2).2.1 (TX4 2).2.2.1 "PathBook") ∈ lw_tbl := List.mem_of_getElem? (i := 177) (by decide +kernel)
theorem cw_X5_117 : hb_cV RX5 117 yX2_hasChoice cX2_hasChoice 3 (some .boolean) 2 := ⟨List.mem_of_getElem? (i := 389) (by decide +kernel), List.mem_of_getElem? (i := 390) (by decide +kernel), List.mem_of_getElem? (i := 391) (by decide +kernel), List.mem_of_getElem? (i := 392) (by decide +kernel), List.mem_of_getElem? (i := 63) (by decide +kernel), ⟨by decide +kernel, by decide +kernel⟩, by decide +kernel⟩
theorem cw_X5_121 : hb_cV RX5 121 yX2_removeChoice cX2_removeChoice 7 (some .int) 2 := ⟨List.mem_of_getElem? (i := 393) (by decide +kernel), List.mem_of_getElem? (i := 394) (by decide +kernel), List.mem_of_getElem? (i := 395) (by decide +kernel), List.mem_of_getElem? (i := 396) (by decide +kernel), List.mem_of_getElem? (i := 63) (by decide +kernel), ⟨by decide +kernel, by decide +kernel⟩, by decide +kernel⟩
theorem cw_X5_125 : hb_cV RX5 125 yX2_swapPages cX2_swapPages 6 none 2 := ⟨List.mem_of_getElem? (i := 401) (by decide +kernel), List.mem_of_getElem? (i := 402) (by decide +kernel), List.mem_of_getElem? (i := 403) (by decide +kernel), List.mem_of_getElem? (i := 404) (by decide +kernel), List.mem_of_getElem? (i := 63) (by decide +kernel), ⟨by decide +kernel, by decide +kernel⟩, by decide +kernel⟩
theorem cw_X5_128 : hb_cV RX5 128 yX2_choicesTo cX2_choicesTo 5 (some .int) 1 := ⟨List.mem_of_getElem? (i := 425) (by decide +kernel), List.mem_of_getElem? (i := 426) (by decide +kernel), List.mem_of_getElem? (i := 427) (by decide +kernel), List.mem_of_getElem? (i := 428) (by decide +kernel), List.mem_of_getElem? (i := 63) (by decide +kernel), ⟨by decide +kernel, by decide +kernel⟩, by decide +kernel⟩
theorem cw_X5_131 : hb_cS RX5 131 yX5_isReader cX5_isReader 1 (some .boolean) 1 := ⟨List.mem_of_getElem? (i := 436) (by decide +kernel), List.mem_of_getElem? (i := 437) (by decide +kernel), List.mem_of_getElem? (i := 438) (by decide +kernel), List.mem_of_getElem? (i := 62) (by decide +kernel), ⟨by decide +kernel, by decide +kernel⟩, by decide +kernel⟩
theorem cw_X5_134 : hb_cV RX5 134 yX2_firstPlace cX2_firstPlace 1 (some .int) 0 := ⟨List.mem_of_getElem? (i := 439) (by decide +kernel), List.mem_of_getElem? (i := 440) (by decide +kernel), List.mem_of_getElem? (i := 441) (by decide +kernel), List.mem_of_getElem? (i := 442) (by decide +kernel), List.mem_of_getElem? (i := 63) (by decide +kernel), ⟨by decide +kernel, by decide +kernel⟩, by decide +kernel⟩
theorem cw_X5_138 : hb_cV RX5 138 yX2_putReader cX2_putReader 4 none 3 := ⟨List.mem_of_getElem? (i := 447) (by decide +kernel), List.mem_of_getElem? (i := 448) (by decide +kernel), List.mem_of_getElem? (i := 449) (by decide +kernel), List.mem_of_getElem? (i := 450) (by decide +kernel), List.mem_of_getElem? (i := 63) (by decide +kernel), ⟨by decide +kernel, by decide +kernel⟩, by decide +kernel⟩
theorem cw_X5_142 : hb_cS RX5 142 yX5_flagsAt cX5_flagsAt 1 (some .int) 1 := ⟨List.mem_of_getElem? (i := 451) (by decide +kernel), List.mem_of_getElem? (i := 420) (by decide +kernel), List.mem_of_getElem? (i := 421) (by decide +kernel), List.mem_of_getElem? (i := 62) (by decide +kernel), ⟨by decide +kernel, by decide +kernel⟩, by decide +kernel⟩
theorem cw_X5_145 : hb_cS RX5 145 yX5_isChoiceNumber cX5_isChoiceNumber 1 (some .boolean) 1 := ⟨List.mem_of_getElem? (i := 456) (by decide +kernel), List.mem_of_getElem? (i := 457) (by decide +kernel), List.mem_of_getElem? (i := 458) (by decide +kernel), List.mem_of_getElem? (i := 62) (by decide +kernel), ⟨by decide +kernel, by decide +kernel⟩, by decide +kernel⟩
theorem cw_X5_148 : hb_cV RX5 148 yX2_reasonAgainst cX2_reasonAgainst 4 (some .int) 2 := ⟨List.mem_of_getElem? (i := 459) (by decide +kernel), List.mem_of_getElem? (i := 460) (by decide +kernel), List.mem_of_getElem? (i := 461) (by decide +kernel), List.mem_of_getElem? (i := 462) (by decide +kernel), List.mem_of_getElem? (i := 63) (by decide +kernel), ⟨by decide +kernel, by decide +kernel⟩, by decide +kernel⟩
theorem cw_X5_154 : hb_cV RX5 154 yX2_placeBehind cX2_placeBehind 3 (some .int) 2 := ⟨List.mem_of_getElem? (i := 467) (by decide +kernel), List.mem_of_getElem? (i := 468) (by decide +kernel), List.mem_of_getElem? (i := 469) (by decide +kernel), List.mem_of_getElem? (i := 470) (by decide +kernel), List.mem_of_getElem? (i := 63) (by decide +kernel), ⟨by decide +kernel, by decide +kernel⟩, by decide +kernel⟩
theorem cw_X5_160 : hb_cS RX5 160 yX5_pageAt cX5_pageAt 1 (some .int) 1 := ⟨List.mem_of_getElem? (i := 471) (by decide +kernel), List.mem_of_getElem? (i := 417) (by decide +kernel), List.mem_of_getElem? (i := 418) (by decide +kernel), List.mem_of_getElem? (i := 62) (by decide +kernel), ⟨by decide +kernel, by decide +kernel⟩, by decide +kernel⟩
theorem cw_X5_169 : hb_cV RX5 169 yX4_append cX4_append 2 (some .int) 1 := ⟨List.mem_of_getElem? (i := 484) (by decide +kernel), List.mem_of_getElem? (i := 485) (by decide +kernel), List.mem_of_getElem? (i := 486) (by decide +kernel), List.mem_of_getElem? (i := 487) (by decide +kernel), List.mem_of_getElem? (i := 66) (by decide +kernel), ⟨by decide +kernel, by decide +kernel⟩, by decide +kernel⟩
theorem cw_X5_176 : hb_cV RX5 176 yX0_pop cX0_pop 3 none 1 := ⟨List.mem_of_getElem? (i := 496) (by decide +kernel), List.mem_of_getElem? (i := 497) (by decide +kernel), List.mem_of_getElem? (i := 498) (by decide +kernel), List.mem_of_getElem? (i := 499) (by decide +kernel), List.mem_of_getElem? (i := 65) (by decide +kernel), ⟨by decide +kernel, by decide +kernel⟩, by decide +kernel⟩
theorem cw_X5_188 : hb_cV RX5 188 yX2_moodOf cX2_moodOf 2 (some .float) 1 := ⟨List.mem_of_getElem? (i := 512) (by decide +kernel), List.mem_of_getElem? (i := 513) (by decide +kernel), List.mem_of_getElem? (i := 514) (by decide +kernel), List.mem_of_getElem? (i := 515) (by decide +kernel), List.mem_of_getElem? (i := 63) (by decide +kernel), ⟨by decide +kernel, by decide +kernel⟩, by decide +kernel⟩
theorem cw_X5_192 : hb_cS RX5 192 yX5_bitsOf cX5_bitsOf 5 (some .int) 1 := ⟨List.mem_of_getElem? (i := 517) (by decide +kernel), List.mem_of_getElem? (i := 518) (by decide +kernel), List.mem_of_getElem? (i := 519) (by decide +kernel), List.mem_of_getElem? (i := 62) (by decide +kernel), ⟨by decide +kernel, by decide +kernel⟩, by decide +kernel⟩
theorem cw_X5_196 : hb_cV RX5 196 yX2_kindOf cX2_kindOf 2 (some .int) 1 := ⟨List.mem_of_getElem? (i := 523) (by decide +kernel), List.mem_of_getElem? (i := 524) (by decide +kernel), List.mem_of_getElem? (i := 525) (by decide +kernel), List.mem_of_getElem? (i := 526) (by decide +kernel), List.mem_of_getElem? (i := 63) (by decide +kernel), ⟨by decide +kernel, by decide +kernel⟩, by decide +kernel⟩
theorem cw_X5_199 : hb_cV RX5 199 yX5_surveyed cX5_surveyed 1 (some (.object "PathBook$Survey")) 0 := ⟨List.mem_of_getElem? (i := 528) (by decide +kernel), List.mem_of_getElem? (i := 530) (by decide +kernel), List.mem_of_getElem? (i := 7) (by decide +kernel), List.mem_of_getElem? (i := 531) (by decide +kernel), List.mem_of_getElem? (i := 62) (by decide +kernel), ⟨by decide +kernel, by decide +kernel⟩, by decide +kernel⟩
theorem cw_X5_203 : hb_cV RX5 203 yX3_isDead cX3_isDead 2 (some .boolean) 1 := ⟨List.mem_of_getElem? (i := 583) (by decide +kernel), List.mem_of_getElem? (i := 584) (by decide +kernel), List.mem_of_getElem? (i := 585) (by decide +kernel), List.mem_of_getElem? (i := 586) (by decide +kernel), List.mem_of_getElem? (i := 67) (by decide +kernel), ⟨by decide +kernel, by decide +kernel⟩, by decide +kernel⟩
theorem cw_X5_206 : hb_cS RX5 206 yX5_oneIf cX5_oneIf 1 (some .int) 1 := ⟨List.mem_of_getElem? (i := 592) (by decide +kernel), List.mem_of_getElem? (i := 430) (by decide +kernel), List.mem_of_getElem? (i := 431) (by decide +kernel), List.mem_of_getElem? (i := 62) (by decide +kernel), ⟨by decide +kernel, by decide +kernel⟩, by decide +kernel⟩
theorem cw_X5_210 : hb_cV RX5 210 yX3_comesAgain cX3_comesAgain 4 (some .boolean) 1 := ⟨List.mem_of_getElem? (i := 593) (by decide +kernel), List.mem_of_getElem? (i := 594) (by decide +kernel), List.mem_of_getElem? (i := 595) (by decide +kernel), List.mem_of_getElem? (i := 596) (by decide +kernel), List.mem_of_getElem? (i := 67) (by decide +kernel), ⟨by decide +kernel, by decide +kernel⟩, by decide +kernel⟩
theorem cw_X5_213 : hb_cV RX5 213 yX3_stuckPlacesWith cX3_stuckPlacesWith 4 (some .int) 1 := ⟨List.mem_of_getElem? (i := 597) (by decide +kernel), List.mem_of_getElem? (i := 598) (by decide +kernel), List.mem_of_getElem? (i := 599) (by decide +kernel), List.mem_of_getElem? (i := 600) (by decide +kernel), List.mem_of_getElem? (i := 67) (by decide +kernel), ⟨by decide +kernel, by decide +kernel⟩, by decide +kernel⟩
theorem cw_X5_216 : hb_cV RX5 216 yX3_placesWith cX3_placesWith 4 (some .int) 1 := ⟨List.mem_of_getElem? (i := 605) (by decide +kernel), List.mem_of_getElem? (i := 588) (by decide +kernel), List.mem_of_getElem? (i := 589) (by decide +kernel), List.mem_of_getElem? (i := 590) (by decide +kernel), List.mem_of_getElem? (i := 67) (by decide +kernel), ⟨by decide +kernel, by decide +kernel⟩, by decide +kernel⟩
theorem cw_X5_219 : hb_cV RX5 219 yX3_fewestChoicesTo cX3_fewestChoicesTo 3 (some .int) 1 := ⟨List.mem_of_getElem? (i := 606) (by decide +kernel), List.mem_of_getElem? (i := 607) (by decide +kernel), List.mem_of_getElem? (i := 608) (by decide +kernel), List.mem_of_getElem? (i := 609) (by decide +kernel), List.mem_of_getElem? (i := 67) (by decide +kernel), ⟨by decide +kernel, by decide +kernel⟩, by decide +kernel⟩
theorem cw_X5_222 : hb_cS RX5 222 yX5_slotOf cX5_slotOf 2 (some .int) 2 := ⟨List.mem_of_getElem? (i := 614) (by decide +kernel), List.mem_of_getElem? (i := 349) (by decide +kernel), List.mem_of_getElem? (i := 350) (by decide +kernel), List.mem_of_getElem? (i := 62) (by decide +kernel), ⟨by decide +kernel, by decide +kernel⟩, by decide +kernel⟩
theorem cw_X5_228 : hb_cV RX5 228 yX3_isEverOpen cX3_isEverOpen 6 (some .boolean) 3 := ⟨List.mem_of_getElem? (i := 615) (by decide +kernel), List.mem_of_getElem? (i := 616) (by decide +kernel), List.mem_of_getElem? (i := 617) (by decide +kernel), List.mem_of_getElem? (i := 618) (by decide +kernel), List.mem_of_getElem? (i := 67) (by decide +kernel), ⟨by decide +kernel, by decide +kernel⟩, by decide +kernel⟩
theorem cw_X5_232 : hb_cV RX5 232 yX2_openChoices cX2_openChoices 4 (some .int) 1 := ⟨List.mem_of_getElem? (i := 624) (by decide +kernel), List.mem_of_getElem? (i := 553) (by decide +kernel), List.mem_of_getElem? (i := 554) (by decide +kernel), List.mem_of_getElem? (i := 555) (by decide +kernel), List.mem_of_getElem? (i := 63) (by decide +kernel), ⟨by decide +kernel, by decide +kernel⟩, by decide +kernel⟩
theorem cw_X5_241 : hb_cV RX5 241 yX3_choiceOnWay cX3_choiceOnWay 2 (some .int) 1 := ⟨List.mem_of_getElem? (i := 633) (by decide +kernel), List.mem_of_getElem? (i := 634) (by decide +kernel), List.mem_of_getElem? (i := 635) (by decide +kernel), List.mem_of_getElem? (i := 636) (by decide +kernel), List.mem_of_getElem? (i := 67) (by decide +kernel), ⟨by decide +kernel, by decide +kernel⟩, by decide +kernel⟩
theorem cw_X5_244 : hb_cV RX5 244 yX2_allChoices cX2_allChoices 3 (some .int) 0 := ⟨List.mem_of_getElem? (i := 645) (by decide +kernel), List.mem_of_getElem? (i := 646) (by decide +kernel), List.mem_of_getElem? (i := 647) (by decide +kernel), List.mem_of_getElem? (i := 648) (by decide +kernel), List.mem_of_getElem? (i := 63) (by decide +kernel), ⟨by decide +kernel, by decide +kernel⟩, by decide +kernel⟩
theorem cw_X5_247 : hb_cV RX5 247 yX3_deadPages cX3_deadPages 3 (some .int) 0 := ⟨List.mem_of_getElem? (i := 649) (by decide +kernel), List.mem_of_getElem? (i := 650) (by decide +kernel), List.mem_of_getElem? (i := 651) (by decide +kernel), List.mem_of_getElem? (i := 652) (by decide +kernel), List.mem_of_getElem? (i := 67) (by decide +kernel), ⟨by decide +kernel, by decide +kernel⟩, by decide +kernel⟩
theorem cw_X5_250 : hb_cV RX5 250 yX3_pagesThatComeAgain cX3_pagesThatComeAgain 3 (some .int) 0 := ⟨List.mem_of_getElem? (i := 654) (by decide +kernel), List.mem_of_getElem? (i := 655) (by decide +kernel), List.mem_of_getElem? (i := 656) (by decide +kernel), List.mem_of_getElem? (i := 657) (by decide +kernel), List.mem_of_getElem? (i := 67) (by decide +kernel), ⟨by decide +kernel, by decide +kernel⟩, by decide +kernel⟩
theorem cw_X5_253 : hb_cV RX5 253 yX3_stuckPlaces cX3_stuckPlaces 3 (some .int) 0 := ⟨List.mem_of_getElem? (i := 659) (by decide +kernel), List.mem_of_getElem? (i := 660) (by decide +kernel), List.mem_of_getElem? (i := 661) (by decide +kernel), List.mem_of_getElem? (i := 662) (by decide +kernel), List.mem_of_getElem? (i := 67) (by decide +kernel), ⟨by decide +kernel, by decide +kernel⟩, by decide +kernel⟩
theorem cw_X5_262 : hb_cV RX5 262 yX3_livePagesOf cX3_livePagesOf 4 (some .int) 1 := ⟨List.mem_of_getElem? (i := 664) (by decide +kernel), List.mem_of_getElem? (i := 665) (by decide +kernel), List.mem_of_getElem? (i := 666) (by decide +kernel), List.mem_of_getElem? (i := 667) (by decide +kernel), List.mem_of_getElem? (i := 67) (by decide +kernel), ⟨by decide +kernel, by decide +kernel⟩, by decide +kernel⟩
theorem cw_X5_268 : hb_cV RX5 268 yX0_push cX0_push 3 none 1 := ⟨List.mem_of_getElem? (i := 295) (by decide +kernel), List.mem_of_getElem? (i := 296) (by decide +kernel), List.mem_of_getElem? (i := 297) (by decide +kernel), List.mem_of_getElem? (i := 298) (by decide +kernel), List.mem_of_getElem? (i := 65) (by decide +kernel), ⟨by decide +kernel, by decide +kernel⟩, by decide +kernel⟩
theorem cw_X5_271 : hb_cV RX5 271 yX3_make cX3_make 2 none 1 := ⟨List.mem_of_getElem? (i := 532) (by decide +kernel), List.mem_of_getElem? (i := 533) (by decide +kernel), List.mem_of_getElem? (i := 534) (by decide +kernel), List.mem_of_getElem? (i := 535) (by decide +kernel), List.mem_of_getElem? (i := 67) (by decide +kernel), ⟨by decide +kernel, by decide +kernel⟩, by decide +kernel⟩
theorem cw_X5_47 : hb_cS RX5 47 yX5_isMood cX5_isMood 1 (some .boolean) 1 := ⟨List.mem_of_getElem? (i := 285) (by decide +kernel), List.mem_of_getElem? (i := 286) (by decide +kernel), List.mem_of_getElem? (i := 287) (by decide +kernel), List.mem_of_getElem? (i := 62) (by decide +kernel), ⟨by decide +kernel, by decide +kernel⟩, by decide +kernel⟩
theorem cw_X5_51 : hb_cS RX5 51 yX5_isFlagSet cX5_isFlagSet 1 (some .boolean) 1 := ⟨List.mem_of_getElem? (i := 288) (by decide +kernel), List.mem_of_getElem? (i := 289) (by decide +kernel), List.mem_of_getElem? (i := 290) (by decide +kernel), List.mem_of_getElem? (i := 62) (by decide +kernel), ⟨by decide +kernel, by decide +kernel⟩, by decide +kernel⟩
theorem cw_X5_58 : hb_cV RX5 58 yX5_record cX5_record 1 none 0 := ⟨List.mem_of_getElem? (i := 291) (by decide +kernel), List.mem_of_getElem? (i := 293) (by decide +kernel), List.mem_of_getElem? (i := 0) (by decide +kernel), List.mem_of_getElem? (i := 294) (by decide +kernel), List.mem_of_getElem? (i := 62) (by decide +kernel), ⟨by decide +kernel, by decide +kernel⟩, by decide +kernel⟩
theorem cw_X5_61 : hb_cV RX5 61 yX2_bindPage cX2_bindPage 5 (some .int) 3 := ⟨List.mem_of_getElem? (i := 315) (by decide +kernel), List.mem_of_getElem? (i := 316) (by decide +kernel), List.mem_of_getElem? (i := 317) (by decide +kernel), List.mem_of_getElem? (i := 318) (by decide +kernel), List.mem_of_getElem? (i := 63) (by decide +kernel), ⟨by decide +kernel, by decide +kernel⟩, by decide +kernel⟩
theorem cw_X5_65 : hb_cV RX5 65 yX2_hasPage cX2_hasPage 2 (some .boolean) 1 := ⟨List.mem_of_getElem? (i := 327) (by decide +kernel), List.mem_of_getElem? (i := 328) (by decide +kernel), List.mem_of_getElem? (i := 329) (by decide +kernel), List.mem_of_getElem? (i := 330) (by decide +kernel), List.mem_of_getElem? (i := 63) (by decide +kernel), ⟨by decide +kernel, by decide +kernel⟩, by decide +kernel⟩
theorem cw_X5_72 : hb_cV RX5 72 yX1_at cX1_at 2 (some .int) 1 := ⟨List.mem_of_getElem? (i := 331) (by decide +kernel), List.mem_of_getElem? (i := 312) (by decide +kernel), List.mem_of_getElem? (i := 313) (by decide +kernel), List.mem_of_getElem? (i := 314) (by decide +kernel), List.mem_of_getElem? (i := 64) (by decide +kernel), ⟨by decide +kernel, by decide +kernel⟩, by decide +kernel⟩
theorem cw_X5_78 : hb_cV RX5 78 yX1_put cX1_put 3 none 2 := ⟨List.mem_of_getElem? (i := 332) (by decide +kernel), List.mem_of_getElem? (i := 320) (by decide +kernel), List.mem_of_getElem? (i := 321) (by decide +kernel), List.mem_of_getElem? (i := 322) (by decide +kernel), List.mem_of_getElem? (i := 64) (by decide +kernel), ⟨by decide +kernel, by decide +kernel⟩, by decide +kernel⟩
theorem cw_X5_85 : hb_cV RX5 85 yX2_errorOfChoice cX2_errorOfChoice 5 (some .int) 4 := ⟨List.mem_of_getElem? (i := 337) (by decide +kernel), List.mem_of_getElem? (i := 338) (by decide +kernel), List.mem_of_getElem? (i := 339) (by decide +kernel), List.mem_of_getElem? (i := 340) (by decide +kernel), List.mem_of_getElem? (i := 63) (by decide +kernel), ⟨by decide +kernel, by decide +kernel⟩, by decide +kernel⟩
theorem cw_X5_89 : hb_cV RX5 89 yX2_appendChoice cX2_appendChoice 7 (some .int) 4 := ⟨List.mem_of_getElem? (i := 344) (by decide +kernel), List.mem_of_getElem? (i := 345) (by decide +kernel), List.mem_of_getElem? (i := 346) (by decide +kernel), List.mem_of_getElem? (i := 347) (by decide +kernel), List.mem_of_getElem? (i := 63) (by decide +kernel), ⟨by decide +kernel, by decide +kernel⟩, by decide +kernel⟩
theorem cw_X5_92 : hb_cV RX5 92 yX4_parse cX4_parse 2 (some .boolean) 0 := ⟨List.mem_of_getElem? (i := 355) (by decide +kernel), List.mem_of_getElem? (i := 356) (by decide +kernel), List.mem_of_getElem? (i := 357) (by decide +kernel), List.mem_of_getElem? (i := 358) (by decide +kernel), List.mem_of_getElem? (i := 66) (by decide +kernel), ⟨by decide +kernel, by decide +kernel⟩, by decide +kernel⟩
theorem cw_X5_98 : hb_cV RX5 98 yX2_copyFrom cX2_copyFrom 2 none 1 := ⟨List.mem_of_getElem? (i := 384) (by decide +kernel), List.mem_of_getElem? (i := 304) (by decide +kernel), List.mem_of_getElem? (i := 305) (by decide +kernel), List.mem_of_getElem? (i := 306) (by decide +kernel), List.mem_of_getElem? (i := 63) (by decide +kernel), ⟨by decide +kernel, by decide +kernel⟩, by decide +kernel⟩
theorem tw_X6_13 : (Cond.fieldLink RX6 13 (TX6 1).1 (TX6 1).2.1 (TX6 1).2.2.1) ∈ lw_tbl := List.mem_of_getElem? (i := 675) (by decide +kernel)
theorem tw_X6_16 : (Cond.fieldLink RX6 16 (TX6 3).1 (TX6 3).2.1 (TX6 3).2.2.1) ∈ lw_tbl := List.mem_of_getElem? (i := 677) (by decide +kernel)
theorem tw_X6_184 : (Cond.fieldLink RX6 184 (TX6 15).1 (TX6 15).2.1 (TX6 15).2.2.1) ∈ lw_tbl := List.mem_of_getElem? (i := 689) (by decide +kernel)
theorem tw_X6_19 : (Cond.fieldLink RX6 19 (TX6 5).1 (TX6 5).2.1 (TX6 5).2.2.1) ∈ lw_tbl := List.mem_of_getElem? (i := 679) (by decide +kernel)
theorem tw_X6_203 : (Cond.fieldLink RX6 203 (TX6 6).1 (TX6 6).2.1 (TX6 6).2.2.1) ∈ lw_tbl := List.mem_of_getElem? (i := 680) (by decide +kernel)
theorem tw_X6_206 : (Cond.fieldLink RX6 206 (TX6 2).1 (TX6 2).2.1 (TX6 2).2.2.1) ∈ lw_tbl := List.mem_of_getElem? (i := 676) (by decide +kernel)
theorem tw_X6_210 : (Cond.fieldLink RX6 210 (TX6 16).1 (TX6 16).2.1 (TX6 16).2.2.1) ∈ lw_tbl := List.mem_of_getElem? (i := 690) (by decide +kernel)
theorem tw_X6_213 : (Cond.fieldLink RX6 213 (TX6 17).1 (TX6 17).2.1 (TX6 17).2.2.1) ∈ lw_tbl := List.mem_of_getElem? (i := 691) (by decide +kernel)
theorem tw_X6_22 : (Cond.fieldLink RX6 22 (TX6 7).1 (TX6 7).2.1 (TX6 7).2.2.1) ∈ lw_tbl := List.mem_of_getElem? (i := 681) (by decide +kernel)
theorem tw_X6_223 : (Cond.fieldLink RX6 223 (TX6 19).1 (TX6 19).2.1 (TX6 19).2.2.1) ∈ lw_tbl := List.mem_of_getElem? (i := 693) (by decide +kernel)
theorem tw_X6_25 : (Cond.fieldLink RX6 25 (TX6 8).1 (TX6 8).2.1 (TX6 8).2.2.1) ∈ lw_tbl := List.mem_of_getElem? (i := 682) (by decide +kernel)
theorem tw_X6_28 : (Cond.fieldLink RX6 28 (TX6 9).1 (TX6 9).2.1 (TX6 9).2.2.1) ∈ lw_tbl := List.mem_of_getElem? (i := 683) (by decide +kernel)
theorem tw_X6_31 : (Cond.fieldLink RX6 31 (TX6 10).1 (TX6 10).2.1 (TX6 10).2.2.1) ∈ lw_tbl := List.mem_of_getElem? (i := 684) (by decide +kernel)
theorem tw_X6_34 : (Cond.fieldLink RX6 34 (TX6 12).1 (TX6 12).2.1 (TX6 12).2.2.1) ∈ lw_tbl := List.mem_of_getElem? (i := 686) (by decide +kernel)
theorem tw_X6_37 : (Cond.fieldLink RX6 37 (TX6 13).1 (TX6 13).2.1 (TX6 13).2.2.1) ∈ lw_tbl := List.mem_of_getElem? (i := 687) (by decide +kernel)
theorem tw_X6_40 : (Cond.fieldLink RX6 40 (TX6 14).1 (TX6 14).2.1 (TX6 14).2.2.1) ∈ lw_tbl := List.mem_of_getElem? (i := 688) (by decide +kernel)
theorem tw_X6_43 : (Cond.fieldLink RX6 43 (TX6 18).1 (TX6 18).2.1 (TX6 18).2.2.1) ∈ lw_tbl := List.mem_of_getElem? (i := 692) (by decide +kernel)
theorem tw_X6_46 : (Cond.fieldLink RX6 46 (TX6 4).1 (TX6 4).2.1 (TX6 4).2.2.1) ∈ lw_tbl := List.mem_of_getElem? (i := 678) (by decide +kernel)
theorem tw_X6_7 : (Cond.fieldLink RX6 7 (TX6 0).1 (TX6 0).2.1 (TX6 0).2.2.1) ∈ lw_tbl := List.mem_of_getElem? (i := 674) (by decide +kernel)
theorem tw_X6_76 : (Cond.fieldLink RX6 76 (TX6 11).1 (TX6 11).2.1 (TX6 11).2.2.1) ∈ lw_tbl := List.mem_of_getElem? (i := 685) (by decide +kernel)
theorem cw_X6_102 : hb_cV RX6 102 yX6_leadsOn cX6_leadsOn 5 (some .boolean) 1 := ⟨List.mem_of_getElem? (i := 926) (by decide +kernel), List.mem_of_getElem? (i := 928) (by decide +kernel), List.mem_of_getElem? (i := 46) (by decide +kernel), List.mem_of_getElem? (i := 929) (by decide +kernel), List.mem_of_getElem? (i := 68) (by decide +kernel), ⟨by decide +kernel, by decide +kernel⟩, by decide +kernel⟩
theorem cw_X6_105 : hb_cV RX6 105 yX6_findsEnds cX6_findsEnds 3 none 0 := ⟨List.mem_of_getElem? (i := 922) (by decide +kernel), List.mem_of_getElem? (i := 924) (by decide +kernel), List.mem_of_getElem? (i := 45) (by decide +kernel), List.mem_of_getElem? (i := 925) (by decide +kernel), List.mem_of_getElem? (i := 68) (by decide +kernel), ⟨by decide +kernel, by decide +kernel⟩, by decide +kernel⟩
theorem cw_X6_108 : hb_cS RX6 108 yX6_isTenths cX6_isTenths 1 (some .boolean) 1 := ⟨List.mem_of_getElem? (i := 739) (by decide +kernel), List.mem_of_getElem? (i := 740) (by decide +kernel), List.mem_of_getElem? (i := 741) (by decide +kernel), List.mem_of_getElem? (i := 68) (by decide +kernel), ⟨by decide +kernel, by decide +kernel⟩, by decide +kernel⟩
theorem cw_X6_111 : hb_cS RX6 111 yX6_areFlags cX6_areFlags 1 (some .boolean) 1 := ⟨List.mem_of_getElem? (i := 745) (by decide +kernel), List.mem_of_getElem? (i := 746) (by decide +kernel), List.mem_of_getElem? (i := 747) (by decide +kernel), List.mem_of_getElem? (i := 68) (by decide +kernel), ⟨by decide +kernel, by decide +kernel⟩, by decide +kernel⟩
theorem cw_X6_114 : hb_cV RX6 114 yX6_records cX6_records 2 none 0 := ⟨List.mem_of_getElem? (i := 748) (by decide +kernel), List.mem_of_getElem? (i := 750) (by decide +kernel), List.mem_of_getElem? (i := 17) (by decide +kernel), List.mem_of_getElem? (i := 751) (by decide +kernel), List.mem_of_getElem? (i := 68) (by decide +kernel), ⟨by decide +kernel, by decide +kernel⟩, by decide +kernel⟩
theorem cw_X6_117 : hb_cV RX6 117 yX6_whyNot cX6_whyNot 3 (some .int) 2 := ⟨List.mem_of_getElem? (i := 768) (by decide +kernel), List.mem_of_getElem? (i := 770) (by decide +kernel), List.mem_of_getElem? (i := 20) (by decide +kernel), List.mem_of_getElem? (i := 771) (by decide +kernel), List.mem_of_getElem? (i := 68) (by decide +kernel), ⟨by decide +kernel, by decide +kernel⟩, by decide +kernel⟩
theorem cw_X6_120 : hb_cV RX6 120 yX6_adds cX6_adds 7 (some .int) 4 := ⟨List.mem_of_getElem? (i := 772) (by decide +kernel), List.mem_of_getElem? (i := 774) (by decide +kernel), List.mem_of_getElem? (i := 21) (by decide +kernel), List.mem_of_getElem? (i := 775) (by decide +kernel), List.mem_of_getElem? (i := 68) (by decide +kernel), ⟨by decide +kernel, by decide +kernel⟩, by decide +kernel⟩
theorem cw_X6_124 : hb_cV RX6 124 yX6_isChoice cX6_isChoice 3 (some .boolean) 2 := ⟨List.mem_of_getElem? (i := 780) (by decide +kernel), List.mem_of_getElem? (i := 782) (by decide +kernel), List.mem_of_getElem? (i := 22) (by decide +kernel), List.mem_of_getElem? (i := 783) (by decide +kernel), List.mem_of_getElem? (i := 68) (by decide +kernel), ⟨by decide +kernel, by decide +kernel⟩, by decide +kernel⟩
theorem cw_X6_128 : hb_cV RX6 128 yX6_leadingTo cX6_leadingTo 5 (some .int) 1 := ⟨List.mem_of_getElem? (i := 792) (by decide +kernel), List.mem_of_getElem? (i := 794) (by decide +kernel), List.mem_of_getElem? (i := 24) (by decide +kernel), List.mem_of_getElem? (i := 795) (by decide +kernel), List.mem_of_getElem? (i := 68) (by decide +kernel), ⟨by decide +kernel, by decide +kernel⟩, by decide +kernel⟩
theorem cw_X6_132 : hb_cS RX6 132 yX6_other cX6_other 3 (some .int) 3 := ⟨List.mem_of_getElem? (i := 796) (by decide +kernel), List.mem_of_getElem? (i := 797) (by decide +kernel), List.mem_of_getElem? (i := 798) (by decide +kernel), List.mem_of_getElem? (i := 68) (by decide +kernel), ⟨by decide +kernel, by decide +kernel⟩, by decide +kernel⟩
theorem cw_X6_135 : hb_cS RX6 135 yX6_isReader cX6_isReader 1 (some .boolean) 1 := ⟨List.mem_of_getElem? (i := 803) (by decide +kernel), List.mem_of_getElem? (i := 804) (by decide +kernel), List.mem_of_getElem? (i := 805) (by decide +kernel), List.mem_of_getElem? (i := 68) (by decide +kernel), ⟨by decide +kernel, by decide +kernel⟩, by decide +kernel⟩
theorem cw_X6_138 : hb_cV RX6 138 yX6_goes cX6_goes 5 none 4 := ⟨List.mem_of_getElem? (i := 814) (by decide +kernel), List.mem_of_getElem? (i := 816) (by decide +kernel), List.mem_of_getElem? (i := 27) (by decide +kernel), List.mem_of_getElem? (i := 817) (by decide +kernel), List.mem_of_getElem? (i := 68) (by decide +kernel), ⟨by decide +kernel, by decide +kernel⟩, by decide +kernel⟩
theorem cw_X6_141 : hb_cV RX6 141 yX6_ofReader cX6_ofReader 3 (some .int) 2 := ⟨List.mem_of_getElem? (i := 826) (by decide +kernel), List.mem_of_getElem? (i := 828) (by decide +kernel), List.mem_of_getElem? (i := 29) (by decide +kernel), List.mem_of_getElem? (i := 829) (by decide +kernel), List.mem_of_getElem? (i := 68) (by decide +kernel), ⟨by decide +kernel, by decide +kernel⟩, by decide +kernel⟩
theorem cw_X6_144 : hb_cV RX6 144 yX6_reason cX6_reason 5 (some .int) 2 := ⟨List.mem_of_getElem? (i := 822) (by decide +kernel), List.mem_of_getElem? (i := 824) (by decide +kernel), List.mem_of_getElem? (i := 28) (by decide +kernel), List.mem_of_getElem? (i := 825) (by decide +kernel), List.mem_of_getElem? (i := 68) (by decide +kernel), ⟨by decide +kernel, by decide +kernel⟩, by decide +kernel⟩
theorem cw_X6_147 : hb_cV RX6 147 yX6_why cX6_why 3 (some .int) 2 := ⟨List.mem_of_getElem? (i := 834) (by decide +kernel), List.mem_of_getElem? (i := 819) (by decide +kernel), List.mem_of_getElem? (i := 820) (by decide +kernel), List.mem_of_getElem? (i := 821) (by decide +kernel), List.mem_of_getElem? (i := 68) (by decide +kernel), ⟨by decide +kernel, by decide +kernel⟩, by decide +kernel⟩
theorem cw_X6_150 : hb_cV RX6 150 yX6_isMarked cX6_isMarked 2 (some .boolean) 1 := ⟨List.mem_of_getElem? (i := 839) (by decide +kernel), List.mem_of_getElem? (i := 841) (by decide +kernel), List.mem_of_getElem? (i := 30) (by decide +kernel), List.mem_of_getElem? (i := 842) (by decide +kernel), List.mem_of_getElem? (i := 68) (by decide +kernel), ⟨by decide +kernel, by decide +kernel⟩, by decide +kernel⟩
theorem cw_X6_153 : hb_cV RX6 153 yX6_choicesNow cX6_choicesNow 4 (some .int) 1 := ⟨List.mem_of_getElem? (i := 851) (by decide +kernel), List.mem_of_getElem? (i := 853) (by decide +kernel), List.mem_of_getElem? (i := 31) (by decide +kernel), List.mem_of_getElem? (i := 854) (by decide +kernel), List.mem_of_getElem? (i := 68) (by decide +kernel), ⟨by decide +kernel, by decide +kernel⟩, by decide +kernel⟩
theorem cw_X6_156 : hb_cV RX6 156 yX6_mood cX6_mood 2 (some .float) 1 := ⟨List.mem_of_getElem? (i := 859) (by decide +kernel), List.mem_of_getElem? (i := 861) (by decide +kernel), List.mem_of_getElem? (i := 32) (by decide +kernel), List.mem_of_getElem? (i := 862) (by decide +kernel), List.mem_of_getElem? (i := 68) (by decide +kernel), ⟨by decide +kernel, by decide +kernel⟩, by decide +kernel⟩
theorem cw_X6_160 : hb_cS RX6 160 yJxf58ca_floatToIntBits_5c35a cJxf58ca_floatToIntBits_5c35a 1 (some .int) 1 := ⟨List.mem_of_getElem? (i := 864) (by decide +kernel), List.mem_of_getElem? (i := 865) (by decide +kernel), List.mem_of_getElem? (i := 866) (by decide +kernel), List.mem_of_getElem? (i := 69) (by decide +kernel), ⟨by decide +kernel, by decide +kernel⟩, by decide +kernel⟩
theorem cw_X6_166 : hb_cV RX6 166 yX6_isHappy cX6_isHappy 2 (some .boolean) 1 := ⟨List.mem_of_getElem? (i := 878) (by decide +kernel), List.mem_of_getElem? (i := 880) (by decide +kernel), List.mem_of_getElem? (i := 34) (by decide +kernel), List.mem_of_getElem? (i := 881) (by decide +kernel), List.mem_of_getElem? (i := 68) (by decide +kernel), ⟨by decide +kernel, by decide +kernel⟩, by decide +kernel⟩
theorem cw_X6_169 : hb_cV RX6 169 yX6_placesOf cX6_placesOf 4 (some .int) 1 := ⟨List.mem_of_getElem? (i := 882) (by decide +kernel), List.mem_of_getElem? (i := 884) (by decide +kernel), List.mem_of_getElem? (i := 35) (by decide +kernel), List.mem_of_getElem? (i := 885) (by decide +kernel), List.mem_of_getElem? (i := 68) (by decide +kernel), ⟨by decide +kernel, by decide +kernel⟩, by decide +kernel⟩
theorem cw_X6_172 : hb_cV RX6 172 yX6_comesAgain cX6_comesAgain 5 (some .boolean) 1 := ⟨List.mem_of_getElem? (i := 914) (by decide +kernel), List.mem_of_getElem? (i := 916) (by decide +kernel), List.mem_of_getElem? (i := 43) (by decide +kernel), List.mem_of_getElem? (i := 917) (by decide +kernel), List.mem_of_getElem? (i := 68) (by decide +kernel), ⟨by decide +kernel, by decide +kernel⟩, by decide +kernel⟩
theorem cw_X6_175 : hb_cV RX6 175 yX6_stuckIn cX6_stuckIn 5 (some .int) 2 := ⟨List.mem_of_getElem? (i := 918) (by decide +kernel), List.mem_of_getElem? (i := 920) (by decide +kernel), List.mem_of_getElem? (i := 44) (by decide +kernel), List.mem_of_getElem? (i := 921) (by decide +kernel), List.mem_of_getElem? (i := 68) (by decide +kernel), ⟨by decide +kernel, by decide +kernel⟩, by decide +kernel⟩
theorem cw_X6_178 : hb_cV RX6 178 yX6_fewest cX6_fewest 4 (some .int) 1 := ⟨List.mem_of_getElem? (i := 930) (by decide +kernel), List.mem_of_getElem? (i := 932) (by decide +kernel), List.mem_of_getElem? (i := 47) (by decide +kernel), List.mem_of_getElem? (i := 933) (by decide +kernel), List.mem_of_getElem? (i := 68) (by decide +kernel), ⟨by decide +kernel, by decide +kernel⟩, by decide +kernel⟩
theorem cw_X6_181 : hb_cV RX6 181 yX6_canBeTaken cX6_canBeTaken 5 (some .int) 2 := ⟨List.mem_of_getElem? (i := 938) (by decide +kernel), List.mem_of_getElem? (i := 940) (by decide +kernel), List.mem_of_getElem? (i := 48) (by decide +kernel), List.mem_of_getElem? (i := 941) (by decide +kernel), List.mem_of_getElem? (i := 68) (by decide +kernel), ⟨by decide +kernel, by decide +kernel⟩, by decide +kernel⟩
theorem cw_X6_187 : hb_cV RX6 187 yX6_findsWay cX6_findsWay 3 (some .boolean) 0 := ⟨List.mem_of_getElem? (i := 946) (by decide +kernel), List.mem_of_getElem? (i := 948) (by decide +kernel), List.mem_of_getElem? (i := 49) (by decide +kernel), List.mem_of_getElem? (i := 949) (by decide +kernel), List.mem_of_getElem? (i := 68) (by decide +kernel), ⟨by decide +kernel, by decide +kernel⟩, by decide +kernel⟩
theorem cw_X6_191 : hb_cV RX6 191 yX6_choices cX6_choices 3 (some .int) 0 := ⟨List.mem_of_getElem? (i := 958) (by decide +kernel), List.mem_of_getElem? (i := 960) (by decide +kernel), List.mem_of_getElem? (i := 50) (by decide +kernel), List.mem_of_getElem? (i := 961) (by decide +kernel), List.mem_of_getElem? (i := 68) (by decide +kernel), ⟨by decide +kernel, by decide +kernel⟩, by decide +kernel⟩
theorem cw_X6_194 : hb_cV RX6 194 yX6_pagesThere cX6_pagesThere 6 (some .int) 1 := ⟨List.mem_of_getElem? (i := 962) (by decide +kernel), List.mem_of_getElem? (i := 964) (by decide +kernel), List.mem_of_getElem? (i := 51) (by decide +kernel), List.mem_of_getElem? (i := 965) (by decide +kernel), List.mem_of_getElem? (i := 68) (by decide +kernel), ⟨by decide +kernel, by decide +kernel⟩, by decide +kernel⟩
theorem cw_X6_197 : hb_cV RX6 197 yX6_again cX6_again 3 (some .int) 0 := ⟨List.mem_of_getElem? (i := 966) (by decide +kernel), List.mem_of_getElem? (i := 968) (by decide +kernel), List.mem_of_getElem? (i := 52) (by decide +kernel), List.mem_of_getElem? (i := 969) (by decide +kernel), List.mem_of_getElem? (i := 68) (by decide +kernel), ⟨by decide +kernel, by decide +kernel⟩, by decide +kernel⟩
theorem cw_X6_200 : hb_cV RX6 200 yX6_places cX6_places 1 (some .int) 0 := ⟨List.mem_of_getElem? (i := 970) (by decide +kernel), List.mem_of_getElem? (i := 972) (by decide +kernel), List.mem_of_getElem? (i := 53) (by decide +kernel), List.mem_of_getElem? (i := 973) (by decide +kernel), List.mem_of_getElem? (i := 68) (by decide +kernel), ⟨by decide +kernel, by decide +kernel⟩, by decide +kernel⟩
theorem cw_X6_216 : hb_cV RX6 216 yX6_here cX6_here 1 (some .int) 0 := ⟨List.mem_of_getElem? (i := 1010) (by decide +kernel), List.mem_of_getElem? (i := 1012) (by decide +kernel), List.mem_of_getElem? (i := 57) (by decide +kernel), List.mem_of_getElem? (i := 1013) (by decide +kernel), List.mem_of_getElem? (i := 68) (by decide +kernel), ⟨by decide +kernel, by decide +kernel⟩, by decide +kernel⟩
theorem cw_X6_219 : hb_cV RX6 219 yX6_takes cX6_takes 2 none 1 := ⟨List.mem_of_getElem? (i := 1014) (by decide +kernel), List.mem_of_getElem? (i := 1016) (by decide +kernel), List.mem_of_getElem? (i := 58) (by decide +kernel), List.mem_of_getElem? (i := 1017) (by decide +kernel), List.mem_of_getElem? (i := 68) (by decide +kernel), ⟨by decide +kernel, by decide +kernel⟩, by decide +kernel⟩
theorem cw_X6_226 : hb_cV RX6 226 yX6_number cX6_number 2 (some .int) 0 := ⟨List.mem_of_getElem? (i := 1006) (by decide +kernel), List.mem_of_getElem? (i := 1008) (by decide +kernel), List.mem_of_getElem? (i := 56) (by decide +kernel), List.mem_of_getElem? (i := 1009) (by decide +kernel), List.mem_of_getElem? (i := 68) (by decide +kernel), ⟨by decide +kernel, by decide +kernel⟩, by decide +kernel⟩
theorem cw_X6_229 : hb_cV RX6 229 yX6_flags cX6_flags 4 (some .int) 1 := ⟨List.mem_of_getElem? (i := 1018) (by decide +kernel), List.mem_of_getElem? (i := 1020) (by decide +kernel), List.mem_of_getElem? (i := 59) (by decide +kernel), List.mem_of_getElem? (i := 1021) (by decide +kernel), List.mem_of_getElem? (i := 68) (by decide +kernel), ⟨by decide +kernel, by decide +kernel⟩, by decide +kernel⟩
theorem cw_X6_232 : hb_cV RX6 232 yX6_takesChoice cX6_takesChoice 2 none 0 := ⟨List.mem_of_getElem? (i := 1002) (by decide +kernel), List.mem_of_getElem? (i := 1004) (by decide +kernel), List.mem_of_getElem? (i := 55) (by decide +kernel), List.mem_of_getElem? (i := 1005) (by decide +kernel), List.mem_of_getElem? (i := 68) (by decide +kernel), ⟨by decide +kernel, by decide +kernel⟩, by decide +kernel⟩
theorem cw_X6_235 : hb_cV RX6 235 yX6_isRight cX6_isRight 1 (some .boolean) 0 := ⟨List.mem_of_getElem? (i := 998) (by decide +kernel), List.mem_of_getElem? (i := 1000) (by decide +kernel), List.mem_of_getElem? (i := 54) (by decide +kernel), List.mem_of_getElem? (i := 1001) (by decide +kernel), List.mem_of_getElem? (i := 68) (by decide +kernel), ⟨by decide +kernel, by decide +kernel⟩, by decide +kernel⟩
theorem cw_X6_238 : hb_cV RX6 238 yX6_whyNotAll cX6_whyNotAll 5 (some .int) 0 := ⟨List.mem_of_getElem? (i := 1022) (by decide +kernel), List.mem_of_getElem? (i := 1024) (by decide +kernel), List.mem_of_getElem? (i := 60) (by decide +kernel), List.mem_of_getElem? (i := 1025) (by decide +kernel), List.mem_of_getElem? (i := 68) (by decide +kernel), ⟨by decide +kernel, by decide +kernel⟩, by decide +kernel⟩
theorem cw_X6_50 : hb_cS RX6 50 yX6_in cX6_in 3 (some .boolean) 3 := ⟨List.mem_of_getElem? (i := 742) (by decide +kernel), List.mem_of_getElem? (i := 743) (by decide +kernel), List.mem_of_getElem? (i := 744) (by decide +kernel), List.mem_of_getElem? (i := 68) (by decide +kernel), ⟨by decide +kernel, by decide +kernel⟩, by decide +kernel⟩
theorem cw_X6_54 : hb_cV RX6 54 yX6_isPage cX6_isPage 2 (some .boolean) 1 := ⟨List.mem_of_getElem? (i := 756) (by decide +kernel), List.mem_of_getElem? (i := 758) (by decide +kernel), List.mem_of_getElem? (i := 18) (by decide +kernel), List.mem_of_getElem? (i := 759) (by decide +kernel), List.mem_of_getElem? (i := 68) (by decide +kernel), ⟨by decide +kernel, by decide +kernel⟩, by decide +kernel⟩
theorem cw_X6_58 : hb_cV RX6 58 yX6_ofChoice cX6_ofChoice 4 (some .int) 3 := ⟨List.mem_of_getElem? (i := 784) (by decide +kernel), List.mem_of_getElem? (i := 786) (by decide +kernel), List.mem_of_getElem? (i := 23) (by decide +kernel), List.mem_of_getElem? (i := 787) (by decide +kernel), List.mem_of_getElem? (i := 68) (by decide +kernel), ⟨by decide +kernel, by decide +kernel⟩, by decide +kernel⟩
theorem cw_X6_62 : hb_cV RX6 62 yX6_of cX6_of 3 (some .int) 2 := ⟨List.mem_of_getElem? (i := 760) (by decide +kernel), List.mem_of_getElem? (i := 762) (by decide +kernel), List.mem_of_getElem? (i := 19) (by decide +kernel), List.mem_of_getElem? (i := 763) (by decide +kernel), List.mem_of_getElem? (i := 68) (by decide +kernel), ⟨by decide +kernel, by decide +kernel⟩, by decide +kernel⟩
theorem cw_X6_66 : hb_cV RX6 66 yX6_isEnd cX6_isEnd 2 (some .boolean) 1 := ⟨List.mem_of_getElem? (i := 874) (by decide +kernel), List.mem_of_getElem? (i := 876) (by decide +kernel), List.mem_of_getElem? (i := 33) (by decide +kernel), List.mem_of_getElem? (i := 877) (by decide +kernel), List.mem_of_getElem? (i := 68) (by decide +kernel), ⟨by decide +kernel, by decide +kernel⟩, by decide +kernel⟩
theorem cw_X6_70 : hb_cV RX6 70 yX6_canTake cX6_canTake 4 (some .boolean) 3 := ⟨List.mem_of_getElem? (i := 906) (by decide +kernel), List.mem_of_getElem? (i := 908) (by decide +kernel), List.mem_of_getElem? (i := 41) (by decide +kernel), List.mem_of_getElem? (i := 909) (by decide +kernel), List.mem_of_getElem? (i := 68) (by decide +kernel), ⟨by decide +kernel, by decide +kernel⟩, by decide +kernel⟩
theorem cw_X6_73 : hb_cV RX6 73 yX6_coming cX6_coming 3 (some .int) 2 := ⟨List.mem_of_getElem? (i := 810) (by decide +kernel), List.mem_of_getElem? (i := 812) (by decide +kernel), List.mem_of_getElem? (i := 26) (by decide +kernel), List.mem_of_getElem? (i := 813) (by decide +kernel), List.mem_of_getElem? (i := 68) (by decide +kernel), ⟨by decide +kernel, by decide +kernel⟩, by decide +kernel⟩
theorem cw_X6_79 : hb_cV RX6 79 yX6_behind cX6_behind 6 (some .int) 2 := ⟨List.mem_of_getElem? (i := 902) (by decide +kernel), List.mem_of_getElem? (i := 904) (by decide +kernel), List.mem_of_getElem? (i := 40) (by decide +kernel), List.mem_of_getElem? (i := 905) (by decide +kernel), List.mem_of_getElem? (i := 68) (by decide +kernel), ⟨by decide +kernel, by decide +kernel⟩, by decide +kernel⟩
theorem cw_X6_82 : hb_cV RX6 82 yX6_comesTo cX6_comesTo 5 none 4 := ⟨List.mem_of_getElem? (i := 894) (by decide +kernel), List.mem_of_getElem? (i := 896) (by decide +kernel), List.mem_of_getElem? (i := 38) (by decide +kernel), List.mem_of_getElem? (i := 897) (by decide +kernel), List.mem_of_getElem? (i := 68) (by decide +kernel), ⟨by decide +kernel, by decide +kernel⟩, by decide +kernel⟩
theorem cw_X6_86 : hb_cV RX6 86 yX6_forgets cX6_forgets 2 none 0 := ⟨List.mem_of_getElem? (i := 890) (by decide +kernel), List.mem_of_getElem? (i := 892) (by decide +kernel), List.mem_of_getElem? (i := 37) (by decide +kernel), List.mem_of_getElem? (i := 893) (by decide +kernel), List.mem_of_getElem? (i := 68) (by decide +kernel), ⟨by decide +kernel, by decide +kernel⟩, by decide +kernel⟩
theorem cw_X6_89 : hb_cV RX6 89 yX6_firstPlace cX6_firstPlace 1 (some .int) 0 := ⟨List.mem_of_getElem? (i := 806) (by decide +kernel), List.mem_of_getElem? (i := 808) (by decide +kernel), List.mem_of_getElem? (i := 25) (by decide +kernel), List.mem_of_getElem? (i := 809) (by decide +kernel), List.mem_of_getElem? (i := 68) (by decide +kernel), ⟨by decide +kernel, by decide +kernel⟩, by decide +kernel⟩
theorem cw_X6_93 : hb_cV RX6 93 yX6_spreads cX6_spreads 5 none 0 := ⟨List.mem_of_getElem? (i := 898) (by decide +kernel), List.mem_of_getElem? (i := 900) (by decide +kernel), List.mem_of_getElem? (i := 39) (by decide +kernel), List.mem_of_getElem? (i := 901) (by decide +kernel), List.mem_of_getElem? (i := 68) (by decide +kernel), ⟨by decide +kernel, by decide +kernel⟩, by decide +kernel⟩
theorem cw_X6_96 : hb_cV RX6 96 yX6_reaches cX6_reaches 1 none 0 := ⟨List.mem_of_getElem? (i := 886) (by decide +kernel), List.mem_of_getElem? (i := 888) (by decide +kernel), List.mem_of_getElem? (i := 36) (by decide +kernel), List.mem_of_getElem? (i := 889) (by decide +kernel), List.mem_of_getElem? (i := 68) (by decide +kernel), ⟨by decide +kernel, by decide +kernel⟩, by decide +kernel⟩
theorem cw_X6_99 : hb_cV RX6 99 yX6_keepsPlaces cX6_keepsPlaces 2 none 0 := ⟨List.mem_of_getElem? (i := 910) (by decide +kernel), List.mem_of_getElem? (i := 912) (by decide +kernel), List.mem_of_getElem? (i := 42) (by decide +kernel), List.mem_of_getElem? (i := 913) (by decide +kernel), List.mem_of_getElem? (i := 68) (by decide +kernel), ⟨by decide +kernel, by decide +kernel⟩, by decide +kernel⟩
end
section
/-! methods (laid by wip/whole/gen.py) -/
def lb_X1_fill_2 (k : Nat) (p1 : Int32) (w2 : Int32) (σ : hb_Mem) : Option ((Int32 × hb_Mem) ⊕ hb_Mem) :=
if (Int32.ofNat (hc_ln (hc_rf k 0))) ≤ w2 then (
some (.inr σ))
else (
(hb_st ΛC σ (hc_rf k 0) w2 p1).bind fun σ1 =>
hb_nm (w2 + 1) fun v2 =>
some (.inl (v2, σ1)))
set_option maxRecDepth 100000 in
set_option maxHeartbeats 4000000 in
theorem lk_X1_fill_2 {Γ : hb_Ctx} {G : hb_Gam} {Q : State → Prop} (X : hb_X Γ cX1_fill 3 RX1 ΛC G 0 0)  (k : Nat) (hk : hb_is ΛC k 1) (p1 : Int32) (w2 : Int32) (σ : hb_Mem) {x : ((Int32 × hb_Mem) ⊕ hb_Mem)} (h : lb_X1_fill_2 k p1 w2 σ = some x) (K : Sum.elim (fun s : (Int32 × hb_Mem) => hb_W Γ ΛC G 3 Q s.2 [some (.ref (G.2.2.2 k)), some (.int p1), some (.int s.1)] [] 2) (fun t : hb_Mem => hb_W Γ ΛC G 3 Q t [none, none, none] [] 24) x) : hb_W Γ ΛC G 3 Q σ [some (.ref (G.2.2.2 k)), some (.int p1), some (.int w2)] [] 2 := by
  unfold lb_X1_fill_2 at h
  refine ww_iload_n 3 X dX1_fill_2 rfl rfl ?_
  refine ww_aload_n 4 X dX1_fill_3 rfl rfl ?_
  refine ww_getr (ci := 1) (j := 0) 7 X cf_1 tw_X1_7 (by decide) rfl hk dX1_fill_4 rfl ?_
  refine ww_alen 8 X (hc_kr_1_0 hk) rfl dX1_fill_7 rfl ?_
  refine ww_icmp_ge 24 11 X dX1_fill_8 (by decide) rfl h (fun h => ?_) (fun h => ?_)
  · skip
    obtain rfl := Option.some.inj h
    refine ww_kill [0, 1, 2] (L' := [none, none, none]) rfl ?_
    exact K
  · skip
    refine ww_aload_n 12 X dX1_fill_11 rfl rfl ?_
    refine ww_getr (ci := 1) (j := 0) 15 X cf_1 tw_X1_7 (by decide) rfl hk dX1_fill_12 rfl ?_
    refine ww_iload_n 16 X dX1_fill_15 rfl rfl ?_
    refine ww_iload_n 17 X dX1_fill_16 rfl rfl ?_
    obtain ⟨σ1, hσ1, h⟩ := hb_bind_of h
    refine ww_iast 18 X (hc_kr_1_0 hk) hσ1 dX1_fill_17 rfl ?_
    obtain ⟨v2, ev2, h⟩ := hb_nm_of h
    refine ww_iinc 21 X (L' := [some (.ref (G.2.2.2 k)), some (.int p1), some (.int v2)]) dX1_fill_18 rfl rfl ev2.symm rfl ?_
    refine ww_goto 2 X dX1_fill_21 (by decide) ?_
    obtain rfl := Option.some.inj h
    exact K
def ll_X1_fill_2 (k : Nat) (p1 : Int32) : (Int32 × hb_Mem) → Option hb_Mem := hb_lp (fun s => lb_X1_fill_2 k p1 s.1 s.2) hb_F
theorem lw_X1_fill_2 {Γ : hb_Ctx} {G : hb_Gam} {Q : State → Prop} (X : hb_X Γ cX1_fill 3 RX1 ΛC G 0 0)  (k : Nat) (hk : hb_is ΛC k 1) (p1 : Int32) (s : (Int32 × hb_Mem)) (t : hb_Mem) (h : ll_X1_fill_2 k p1 s = some t) (K : (fun t : hb_Mem => hb_W Γ ΛC G 3 Q t [none, none, none] [] 24) t) : hb_W Γ ΛC G 3 Q s.2 [some (.ref (G.2.2.2 k)), some (.int p1), some (.int s.1)] [] 2 :=
  hb_lp_w (P := fun s : (Int32 × hb_Mem) => hb_W Γ ΛC G 3 Q s.2 [some (.ref (G.2.2.2 k)), some (.int p1), some (.int s.1)] [] 2) (E := (fun t : hb_Mem => hb_W Γ ΛC G 3 Q t [none, none, none] [] 24)) (fun s x hx K => lk_X1_fill_2 X k hk p1 s.1 s.2 hx K) _ s t h K
def fn_X1_fill (k : Nat) (p1 : Int32) (σ : hb_Mem) : Option hb_Mem :=
(ll_X1_fill_2 k p1 (0, σ)).bind fun t3 =>
some t3
set_option maxRecDepth 100000 in
set_option maxHeartbeats 4000000 in
theorem wk_X1_fill {Γ : hb_Ctx} {G : hb_Gam} {Q : State → Prop} (X : hb_X Γ cX1_fill 3 RX1 ΛC G 0 0) (hr : hb_ret Γ = none) (k : Nat) (hk : hb_is ΛC k 1) (p1 : Int32) (σ : hb_Mem) {x : hb_Mem} (h : fn_X1_fill k p1 σ = some x) (K : Q = hb_Q Γ ΛC G none x) : hb_W Γ ΛC G 3 Q σ [some (.ref (G.2.2.2 k)), some (.int p1), none] [] 0 := by
  unfold fn_X1_fill at h
  refine ww_iconst (v := 0) 1 X dX1_fill_0 rfl (by decide) ?_
  refine ww_istore_n 2 X (L' := [some (.ref (G.2.2.2 k)), some (.int p1), some (.int 0)]) dX1_fill_1 rfl (Nat.le_of_ble_eq_true rfl) rfl ?_
  obtain ⟨t3, ht3, h⟩ := hb_bind_of h
  refine lw_X1_fill_2 X k hk p1 (0, σ) t3 ht3 ?_
  obtain rfl := Option.some.inj h
  exact ww_ret_v X hr K dX1_fill_24
theorem ct_X1_fill (l : Launch) (G : hb_Gam) (k : Nat) (hk : hb_is ΛC k 1) (p1 : Int32) (σ : hb_Mem) {x : hb_Mem} (h : fn_X1_fill k p1 σ = some x) : hb_C l yX1_fill cX1_fill 3 none 0 0 ΛC G [.ref (G.2.2.2 k), .int p1] σ none x :=
  hb_C.of [some (.ref (G.2.2.2 k)), some (.int p1), none] (by decide +kernel) (Nat.le_of_ble_eq_true rfl) (by intro v hv; simp only [List.mem_cons, List.not_mem_nil, or_false] at hv; rcases hv with rfl | rfl <;> rfl) rfl (hb_pad [.ref (G.2.2.2 k), .int p1] 1) (fun Γ X hr => wk_X1_fill X hr k hk p1 σ h rfl)
def fn_X0_stateAt (k : Nat) (p1 : Int32) (σ : hb_Mem) : Option (Option Nat) :=
if p1 < 0 then (
some none)
else (
if (Int32.ofNat (hc_ln (hc_rf k 0))) ≤ p1 then (
some none)
else (
(hb_ldr ΛC (hc_rf k 0) p1).bind fun b1 =>
some (some b1)))
set_option maxRecDepth 100000 in
set_option maxHeartbeats 4000000 in
theorem wk_X0_stateAt {Γ : hb_Ctx} {G : hb_Gam} {Q : State → Prop} (X : hb_X Γ cX0_stateAt 2 RX0 ΛC G 0 0) (hr : hb_ret Γ = (some (.object "PathBook$State"))) (k : Nat) (hk : hb_is ΛC k 0) (p1 : Int32) (σ : hb_Mem) {x : Option Nat} (h : fn_X0_stateAt k p1 σ = some x) (K : Q = hb_Q Γ ΛC G (some (hb_or G x)) σ) : hb_W Γ ΛC G 2 Q σ [some (.ref (G.2.2.2 k)), some (.int p1)] [] 0 := by
  unfold fn_X0_stateAt at h
  refine ww_iload_n 1 X dX0_stateAt_0 rfl rfl ?_
  refine ww_if_lt 22 4 X dX0_stateAt_1 (by decide) rfl h (fun h => ?_) (fun h => ?_)
  · skip
    refine ww_null 23 X dX0_stateAt_22 rfl ?_
    obtain rfl := Option.some.inj h
    exact ww_ret_a X hr (.inl rfl) K dX0_stateAt_23
  · skip
    refine ww_iload_n 5 X dX0_stateAt_4 rfl rfl ?_
    refine ww_aload_n 6 X dX0_stateAt_5 rfl rfl ?_
    refine ww_getr (ci := 0) (j := 0) 9 X cf_0 tw_X0_11 (by decide) rfl hk dX0_stateAt_6 rfl ?_
    refine ww_alenq 10 X (hc_kr_0_0 hk) rfl dX0_stateAt_9 rfl ?_
    refine ww_icmp_ge 22 13 X dX0_stateAt_10 (by decide) rfl h (fun h => ?_) (fun h => ?_)
    · skip
      refine ww_null 23 X dX0_stateAt_22 rfl ?_
      obtain rfl := Option.some.inj h
      exact ww_ret_a X hr (.inl rfl) K dX0_stateAt_23
    · skip
      refine ww_aload_n 14 X dX0_stateAt_13 rfl rfl ?_
      refine ww_getr (ci := 0) (j := 0) 17 X cf_0 tw_X0_11 (by decide) rfl hk dX0_stateAt_14 rfl ?_
      refine ww_iload_n 18 X dX0_stateAt_17 rfl rfl ?_
      obtain ⟨b1, hb1, h⟩ := hb_bind_of h
      refine ww_aald 19 X (hc_kr_0_0 hk) hb1 dX0_stateAt_18 rfl ?_
      refine ww_goto 23 X dX0_stateAt_19 (by decide) ?_
      obtain rfl := Option.some.inj h
      exact ww_ret_a X hr (.inr ⟨_, rfl⟩) K dX0_stateAt_23
theorem ct_X0_stateAt (l : Launch) (G : hb_Gam) (k : Nat) (hk : hb_is ΛC k 0) (p1 : Int32) (σ : hb_Mem) {x : Option Nat} (h : fn_X0_stateAt k p1 σ = some x) : hb_C l yX0_stateAt cX0_stateAt 2 (some (.object "PathBook$State")) 0 0 ΛC G [.ref (G.2.2.2 k), .int p1] σ (some (hb_or G x)) σ :=
  hb_C.of [some (.ref (G.2.2.2 k)), some (.int p1)] (by decide +kernel) (Nat.le_of_ble_eq_true rfl) (by intro v hv; simp only [List.mem_cons, List.not_mem_nil, or_false] at hv; rcases hv with rfl | rfl <;> rfl) rfl (hb_pad [.ref (G.2.2.2 k), .int p1] 0) (fun Γ X hr => wk_X0_stateAt X hr k hk p1 σ h rfl)
theorem hc_stateAt_kind {k : Nat} (hk : hb_is ΛC k 0) {i : Int32} {σ : hb_Mem} {b : Nat} (h : fn_X0_stateAt k i σ = some (some b)) : hb_is ΛC b 2 := by
  unfold fn_X0_stateAt at h
  split at h
  · cases h
  · split at h
    · cases h
    · obtain ⟨c, hc, h⟩ := hb_bind_of h
      cases h
      exact hc_ldr_kind (hc_kr_0_0 hk) hc
def fn_X1_at (k : Nat) (p1 : Int32) (σ : hb_Mem) : Option Int32 :=
if p1 < 0 then (
some 0)
else (
if (Int32.ofNat (hc_ln (hc_rf k 0))) ≤ p1 then (
some 0)
else (
(hb_ld ΛC σ (hc_rf k 0) p1).bind fun v1 =>
some v1))
set_option maxRecDepth 100000 in
set_option maxHeartbeats 4000000 in
theorem wk_X1_at {Γ : hb_Ctx} {G : hb_Gam} {Q : State → Prop} (X : hb_X Γ cX1_at 2 RX1 ΛC G 0 0) (hr : hb_ret Γ = (some .int)) (k : Nat) (hk : hb_is ΛC k 1) (p1 : Int32) (σ : hb_Mem) {x : Int32} (h : fn_X1_at k p1 σ = some x) (K : Q = hb_Q Γ ΛC G (some (.int x)) σ) : hb_W Γ ΛC G 2 Q σ [some (.ref (G.2.2.2 k)), some (.int p1)] [] 0 := by
  unfold fn_X1_at at h
  refine ww_iload_n 1 X dX1_at_0 rfl rfl ?_
  refine ww_if_lt 22 4 X dX1_at_1 (by decide) rfl h (fun h => ?_) (fun h => ?_)
  · skip
    refine ww_iconst (v := 0) 23 X dX1_at_22 rfl (by decide) ?_
    obtain rfl := Option.some.inj h
    exact ww_ret_i X hr K dX1_at_23
  · skip
    refine ww_iload_n 5 X dX1_at_4 rfl rfl ?_
    refine ww_aload_n 6 X dX1_at_5 rfl rfl ?_
    refine ww_getr (ci := 1) (j := 0) 9 X cf_1 tw_X1_7 (by decide) rfl hk dX1_at_6 rfl ?_
    refine ww_alen 10 X (hc_kr_1_0 hk) rfl dX1_at_9 rfl ?_
    refine ww_icmp_ge 22 13 X dX1_at_10 (by decide) rfl h (fun h => ?_) (fun h => ?_)
    · skip
      refine ww_iconst (v := 0) 23 X dX1_at_22 rfl (by decide) ?_
      obtain rfl := Option.some.inj h
      exact ww_ret_i X hr K dX1_at_23
    · skip
      refine ww_aload_n 14 X dX1_at_13 rfl rfl ?_
      refine ww_getr (ci := 1) (j := 0) 17 X cf_1 tw_X1_7 (by decide) rfl hk dX1_at_14 rfl ?_
      refine ww_iload_n 18 X dX1_at_17 rfl rfl ?_
      obtain ⟨v1, hv1, h⟩ := hb_bind_of h
      refine ww_iald 19 X (hc_kr_1_0 hk) hv1 dX1_at_18 rfl ?_
      refine ww_goto 23 X dX1_at_19 (by decide) ?_
      obtain rfl := Option.some.inj h
      exact ww_ret_i X hr K dX1_at_23
theorem ct_X1_at (l : Launch) (G : hb_Gam) (k : Nat) (hk : hb_is ΛC k 1) (p1 : Int32) (σ : hb_Mem) {x : Int32} (h : fn_X1_at k p1 σ = some x) : hb_C l yX1_at cX1_at 2 (some .int) 0 0 ΛC G [.ref (G.2.2.2 k), .int p1] σ (some (.int x)) σ :=
  hb_C.of [some (.ref (G.2.2.2 k)), some (.int p1)] (by decide +kernel) (Nat.le_of_ble_eq_true rfl) (by intro v hv; simp only [List.mem_cons, List.not_mem_nil, or_false] at hv; rcases hv with rfl | rfl <;> rfl) rfl (hb_pad [.ref (G.2.2.2 k), .int p1] 0) (fun Γ X hr => wk_X1_at X hr k hk p1 σ h rfl)
def lb_X1_copyFrom_2 (k : Nat) (r1 : Nat) (w2 : Int32) (σ : hb_Mem) : Option ((Int32 × hb_Mem) ⊕ hb_Mem) :=
if (Int32.ofNat (hc_ln (hc_rf k 0))) ≤ w2 then (
some (.inr σ))
else (
(fn_X1_at r1 w2 σ).bind fun x1 =>
(hb_st ΛC σ (hc_rf k 0) w2 x1).bind fun σ2 =>
hb_nm (w2 + 1) fun v3 =>
some (.inl (v3, σ2)))
set_option maxRecDepth 100000 in
set_option maxHeartbeats 4000000 in
theorem lk_X1_copyFrom_2 {Γ : hb_Ctx} {G : hb_Gam} {Q : State → Prop} (X : hb_X Γ cX1_copyFrom 3 RX1 ΛC G 1 21)  (k : Nat) (hk : hb_is ΛC k 1) (r1 : Nat) (hr1 : hb_is ΛC r1 1) (w2 : Int32) (σ : hb_Mem) {x : ((Int32 × hb_Mem) ⊕ hb_Mem)} (h : lb_X1_copyFrom_2 k r1 w2 σ = some x) (K : Sum.elim (fun s : (Int32 × hb_Mem) => hb_W Γ ΛC G 3 Q s.2 [some (.ref (G.2.2.2 k)), some (.ref (G.2.2.2 r1)), some (.int s.1)] [] 2) (fun t : hb_Mem => hb_W Γ ΛC G 3 Q t [none, none, none] [] 28) x) : hb_W Γ ΛC G 3 Q σ [some (.ref (G.2.2.2 k)), some (.ref (G.2.2.2 r1)), some (.int w2)] [] 2 := by
  unfold lb_X1_copyFrom_2 at h
  refine ww_iload_n 3 X dX1_copyFrom_2 rfl rfl ?_
  refine ww_aload_n 4 X dX1_copyFrom_3 rfl rfl ?_
  refine ww_getr (ci := 1) (j := 0) 7 X cf_1 tw_X1_7 (by decide) rfl hk dX1_copyFrom_4 rfl ?_
  refine ww_alen 8 X (hc_kr_1_0 hk) rfl dX1_copyFrom_7 rfl ?_
  refine ww_icmp_ge 28 11 X dX1_copyFrom_8 (by decide) rfl h (fun h => ?_) (fun h => ?_)
  · skip
    obtain rfl := Option.some.inj h
    refine ww_kill [0, 1, 2] (L' := [none, none, none]) rfl ?_
    exact K
  · skip
    refine ww_aload_n 12 X dX1_copyFrom_11 rfl rfl ?_
    refine ww_getr (ci := 1) (j := 0) 15 X cf_1 tw_X1_7 (by decide) rfl hk dX1_copyFrom_12 rfl ?_
    refine ww_iload_n 16 X dX1_copyFrom_15 rfl rfl ?_
    refine ww_aload_n 17 X dX1_copyFrom_16 rfl rfl ?_
    refine ww_iload_n 18 X dX1_copyFrom_17 rfl rfl ?_
    obtain ⟨x1, hx1, h⟩ := hb_bind_of h
    refine ww_callV (ci := 1) (rest := [.int w2, .ref (G.2.2.2 (hc_rf k 0))]) (st' := [.int x1, .int w2, .ref (G.2.2.2 (hc_rf k 0))]) 21 X (ct_X1_at (hb_l Γ) G r1 hr1 w2 σ hx1) cw_X1_13 rfl (by decide) hr1 rfl ⟨by decide, by decide⟩ (Nat.le_of_ble_eq_true rfl) rfl rfl dX1_copyFrom_18 rfl ?_
    obtain ⟨σ2, hσ2, h⟩ := hb_bind_of h
    refine ww_iast 22 X (hc_kr_1_0 hk) hσ2 dX1_copyFrom_21 rfl ?_
    obtain ⟨v3, ev3, h⟩ := hb_nm_of h
    refine ww_iinc 25 X (L' := [some (.ref (G.2.2.2 k)), some (.ref (G.2.2.2 r1)), some (.int v3)]) dX1_copyFrom_22 rfl rfl ev3.symm rfl ?_
    refine ww_goto 2 X dX1_copyFrom_25 (by decide) ?_
    obtain rfl := Option.some.inj h
    exact K
def ll_X1_copyFrom_2 (k : Nat) (r1 : Nat) : (Int32 × hb_Mem) → Option hb_Mem := hb_lp (fun s => lb_X1_copyFrom_2 k r1 s.1 s.2) hb_F
theorem lw_X1_copyFrom_2 {Γ : hb_Ctx} {G : hb_Gam} {Q : State → Prop} (X : hb_X Γ cX1_copyFrom 3 RX1 ΛC G 1 21)  (k : Nat) (hk : hb_is ΛC k 1) (r1 : Nat) (hr1 : hb_is ΛC r1 1) (s : (Int32 × hb_Mem)) (t : hb_Mem) (h : ll_X1_copyFrom_2 k r1 s = some t) (K : (fun t : hb_Mem => hb_W Γ ΛC G 3 Q t [none, none, none] [] 28) t) : hb_W Γ ΛC G 3 Q s.2 [some (.ref (G.2.2.2 k)), some (.ref (G.2.2.2 r1)), some (.int s.1)] [] 2 :=
  hb_lp_w (P := fun s : (Int32 × hb_Mem) => hb_W Γ ΛC G 3 Q s.2 [some (.ref (G.2.2.2 k)), some (.ref (G.2.2.2 r1)), some (.int s.1)] [] 2) (E := (fun t : hb_Mem => hb_W Γ ΛC G 3 Q t [none, none, none] [] 28)) (fun s x hx K => lk_X1_copyFrom_2 X k hk r1 hr1 s.1 s.2 hx K) _ s t h K
def fn_X1_copyFrom (k : Nat) (r1 : Nat) (σ : hb_Mem) : Option hb_Mem :=
(ll_X1_copyFrom_2 k r1 (0, σ)).bind fun t4 =>
some t4
set_option maxRecDepth 100000 in
set_option maxHeartbeats 4000000 in
theorem wk_X1_copyFrom {Γ : hb_Ctx} {G : hb_Gam} {Q : State → Prop} (X : hb_X Γ cX1_copyFrom 3 RX1 ΛC G 1 21) (hr : hb_ret Γ = none) (k : Nat) (hk : hb_is ΛC k 1) (r1 : Nat) (hr1 : hb_is ΛC r1 1) (σ : hb_Mem) {x : hb_Mem} (h : fn_X1_copyFrom k r1 σ = some x) (K : Q = hb_Q Γ ΛC G none x) : hb_W Γ ΛC G 3 Q σ [some (.ref (G.2.2.2 k)), some (.ref (G.2.2.2 r1)), none] [] 0 := by
  unfold fn_X1_copyFrom at h
  refine ww_iconst (v := 0) 1 X dX1_copyFrom_0 rfl (by decide) ?_
  refine ww_istore_n 2 X (L' := [some (.ref (G.2.2.2 k)), some (.ref (G.2.2.2 r1)), some (.int 0)]) dX1_copyFrom_1 rfl (Nat.le_of_ble_eq_true rfl) rfl ?_
  obtain ⟨t4, ht4, h⟩ := hb_bind_of h
  refine lw_X1_copyFrom_2 X k hk r1 hr1 (0, σ) t4 ht4 ?_
  obtain rfl := Option.some.inj h
  exact ww_ret_v X hr K dX1_copyFrom_28
theorem ct_X1_copyFrom (l : Launch) (G : hb_Gam) (k : Nat) (hk : hb_is ΛC k 1) (r1 : Nat) (hr1 : hb_is ΛC r1 1) (σ : hb_Mem) {x : hb_Mem} (h : fn_X1_copyFrom k r1 σ = some x) : hb_C l yX1_copyFrom cX1_copyFrom 3 none 1 21 ΛC G [.ref (G.2.2.2 k), .ref (G.2.2.2 r1)] σ none x :=
  hb_C.of [some (.ref (G.2.2.2 k)), some (.ref (G.2.2.2 r1)), none] (by decide +kernel) (Nat.le_of_ble_eq_true rfl) (by intro v hv; simp only [List.mem_cons, List.not_mem_nil, or_false] at hv; rcases hv with rfl | rfl <;> rfl) rfl (hb_pad [.ref (G.2.2.2 k), .ref (G.2.2.2 r1)] 1) (fun Γ X hr => wk_X1_copyFrom X hr k hk r1 hr1 σ h rfl)
def fn_X2_copyFrom (k : Nat) (r1 : Nat) (σ : hb_Mem) : Option hb_Mem :=
hb_nm (hb_up σ k 0 (σ r1 0)) fun σ1 =>
(fn_X1_copyFrom (hc_rf k 1) (hc_rf r1 1) σ1).bind fun x2 =>
(fn_X1_copyFrom (hc_rf k 2) (hc_rf r1 2) x2).bind fun x3 =>
(fn_X1_copyFrom (hc_rf k 3) (hc_rf r1 3) x3).bind fun x4 =>
(fn_X1_copyFrom (hc_rf k 4) (hc_rf r1 4) x4).bind fun x5 =>
(fn_X1_copyFrom (hc_rf k 5) (hc_rf r1 5) x5).bind fun x6 =>
(fn_X1_copyFrom (hc_rf k 6) (hc_rf r1 6) x6).bind fun x7 =>
(fn_X1_copyFrom (hc_rf k 7) (hc_rf r1 7) x7).bind fun x8 =>
(fn_X1_copyFrom (hc_rf k 8) (hc_rf r1 8) x8).bind fun x9 =>
(fn_X1_copyFrom (hc_rf k 9) (hc_rf r1 9) x9).bind fun x10 =>
hb_nm (hb_up x10 k 10 (x10 r1 10)) fun σ11 =>
some σ11
set_option maxRecDepth 100000 in
set_option maxHeartbeats 4000000 in
theorem wk_X2_copyFrom {Γ : hb_Ctx} {G : hb_Gam} {Q : State → Prop} (X : hb_X Γ cX2_copyFrom 2 RX2 ΛC G 2 43) (hr : hb_ret Γ = none) (k : Nat) (hk : hb_is ΛC k 2) (r1 : Nat) (hr1 : hb_is ΛC r1 2) (σ : hb_Mem) {x : hb_Mem} (h : fn_X2_copyFrom k r1 σ = some x) (K : Q = hb_Q Γ ΛC G none x) : hb_W Γ ΛC G 2 Q σ [some (.ref (G.2.2.2 k)), some (.ref (G.2.2.2 r1))] [] 0 := by
  unfold fn_X2_copyFrom at h
  refine ww_aload_n 1 X dX2_copyFrom_0 rfl rfl ?_
  refine ww_aload_n 2 X dX2_copyFrom_1 rfl rfl ?_
  refine ww_geti (ci := 2) (j := 0) 5 X cf_2 tw_X2_9 (by decide) rfl hr1 dX2_copyFrom_2 rfl ?_
  obtain ⟨σ1, eσ1, h⟩ := hb_nm_of h
  refine ww_put (ci := 2) (j := 0) (ty := .int) 8 X cf_2 cg_2 tw_X2_9 (by decide) rfl rfl rfl rfl rfl hk eσ1.symm dX2_copyFrom_5 rfl ?_
  refine ww_aload_n 9 X dX2_copyFrom_8 rfl rfl ?_
  refine ww_getr (ci := 2) (j := 1) 12 X cf_2 tw_X2_20 (by decide) rfl hk dX2_copyFrom_9 rfl ?_
  refine ww_aload_n 13 X dX2_copyFrom_12 rfl rfl ?_
  refine ww_getr (ci := 2) (j := 1) 16 X cf_2 tw_X2_20 (by decide) rfl hr1 dX2_copyFrom_13 rfl ?_
  obtain ⟨x2, hx2, h⟩ := hb_bind_of h
  refine ww_callV (ci := 1) (rest := []) (st' := []) 19 X (ct_X1_copyFrom (hb_l Γ) G (hc_rf k 1) (hc_kr_2_1 hk) (hc_rf r1 1) (hc_kr_2_1 hr1) σ1 hx2) cw_X2_54 rfl (by decide) (hc_kr_2_1 hk) rfl ⟨by decide, by decide⟩ (Nat.le_of_ble_eq_true rfl) rfl rfl dX2_copyFrom_16 rfl ?_
  refine ww_aload_n 20 X dX2_copyFrom_19 rfl rfl ?_
  refine ww_getr (ci := 2) (j := 2) 23 X cf_2 tw_X2_24 (by decide) rfl hk dX2_copyFrom_20 rfl ?_
  refine ww_aload_n 24 X dX2_copyFrom_23 rfl rfl ?_
  refine ww_getr (ci := 2) (j := 2) 27 X cf_2 tw_X2_24 (by decide) rfl hr1 dX2_copyFrom_24 rfl ?_
  obtain ⟨x3, hx3, h⟩ := hb_bind_of h
  refine ww_callV (ci := 1) (rest := []) (st' := []) 30 X (ct_X1_copyFrom (hb_l Γ) G (hc_rf k 2) (hc_kr_2_2 hk) (hc_rf r1 2) (hc_kr_2_2 hr1) x2 hx3) cw_X2_54 rfl (by decide) (hc_kr_2_2 hk) rfl ⟨by decide, by decide⟩ (Nat.le_of_ble_eq_true rfl) rfl rfl dX2_copyFrom_27 rfl ?_
  refine ww_aload_n 31 X dX2_copyFrom_30 rfl rfl ?_
  refine ww_getr (ci := 2) (j := 3) 34 X cf_2 tw_X2_27 (by decide) rfl hk dX2_copyFrom_31 rfl ?_
  refine ww_aload_n 35 X dX2_copyFrom_34 rfl rfl ?_
  refine ww_getr (ci := 2) (j := 3) 38 X cf_2 tw_X2_27 (by decide) rfl hr1 dX2_copyFrom_35 rfl ?_
  obtain ⟨x4, hx4, h⟩ := hb_bind_of h
  refine ww_callV (ci := 1) (rest := []) (st' := []) 41 X (ct_X1_copyFrom (hb_l Γ) G (hc_rf k 3) (hc_kr_2_3 hk) (hc_rf r1 3) (hc_kr_2_3 hr1) x3 hx4) cw_X2_54 rfl (by decide) (hc_kr_2_3 hk) rfl ⟨by decide, by decide⟩ (Nat.le_of_ble_eq_true rfl) rfl rfl dX2_copyFrom_38 rfl ?_
  refine ww_aload_n 42 X dX2_copyFrom_41 rfl rfl ?_
  refine ww_getr (ci := 2) (j := 4) 45 X cf_2 tw_X2_30 (by decide) rfl hk dX2_copyFrom_42 rfl ?_
  refine ww_aload_n 46 X dX2_copyFrom_45 rfl rfl ?_
  refine ww_getr (ci := 2) (j := 4) 49 X cf_2 tw_X2_30 (by decide) rfl hr1 dX2_copyFrom_46 rfl ?_
  obtain ⟨x5, hx5, h⟩ := hb_bind_of h
  refine ww_callV (ci := 1) (rest := []) (st' := []) 52 X (ct_X1_copyFrom (hb_l Γ) G (hc_rf k 4) (hc_kr_2_4 hk) (hc_rf r1 4) (hc_kr_2_4 hr1) x4 hx5) cw_X2_54 rfl (by decide) (hc_kr_2_4 hk) rfl ⟨by decide, by decide⟩ (Nat.le_of_ble_eq_true rfl) rfl rfl dX2_copyFrom_49 rfl ?_
  refine ww_aload_n 53 X dX2_copyFrom_52 rfl rfl ?_
  refine ww_getr (ci := 2) (j := 5) 56 X cf_2 tw_X2_33 (by decide) rfl hk dX2_copyFrom_53 rfl ?_
  refine ww_aload_n 57 X dX2_copyFrom_56 rfl rfl ?_
  refine ww_getr (ci := 2) (j := 5) 60 X cf_2 tw_X2_33 (by decide) rfl hr1 dX2_copyFrom_57 rfl ?_
  obtain ⟨x6, hx6, h⟩ := hb_bind_of h
  refine ww_callV (ci := 1) (rest := []) (st' := []) 63 X (ct_X1_copyFrom (hb_l Γ) G (hc_rf k 5) (hc_kr_2_5 hk) (hc_rf r1 5) (hc_kr_2_5 hr1) x5 hx6) cw_X2_54 rfl (by decide) (hc_kr_2_5 hk) rfl ⟨by decide, by decide⟩ (Nat.le_of_ble_eq_true rfl) rfl rfl dX2_copyFrom_60 rfl ?_
  refine ww_aload_n 64 X dX2_copyFrom_63 rfl rfl ?_
  refine ww_getr (ci := 2) (j := 6) 67 X cf_2 tw_X2_36 (by decide) rfl hk dX2_copyFrom_64 rfl ?_
  refine ww_aload_n 68 X dX2_copyFrom_67 rfl rfl ?_
  refine ww_getr (ci := 2) (j := 6) 71 X cf_2 tw_X2_36 (by decide) rfl hr1 dX2_copyFrom_68 rfl ?_
  obtain ⟨x7, hx7, h⟩ := hb_bind_of h
  refine ww_callV (ci := 1) (rest := []) (st' := []) 74 X (ct_X1_copyFrom (hb_l Γ) G (hc_rf k 6) (hc_kr_2_6 hk) (hc_rf r1 6) (hc_kr_2_6 hr1) x6 hx7) cw_X2_54 rfl (by decide) (hc_kr_2_6 hk) rfl ⟨by decide, by decide⟩ (Nat.le_of_ble_eq_true rfl) rfl rfl dX2_copyFrom_71 rfl ?_
  refine ww_aload_n 75 X dX2_copyFrom_74 rfl rfl ?_
  refine ww_getr (ci := 2) (j := 7) 78 X cf_2 tw_X2_39 (by decide) rfl hk dX2_copyFrom_75 rfl ?_
  refine ww_aload_n 79 X dX2_copyFrom_78 rfl rfl ?_
  refine ww_getr (ci := 2) (j := 7) 82 X cf_2 tw_X2_39 (by decide) rfl hr1 dX2_copyFrom_79 rfl ?_
  obtain ⟨x8, hx8, h⟩ := hb_bind_of h
  refine ww_callV (ci := 1) (rest := []) (st' := []) 85 X (ct_X1_copyFrom (hb_l Γ) G (hc_rf k 7) (hc_kr_2_7 hk) (hc_rf r1 7) (hc_kr_2_7 hr1) x7 hx8) cw_X2_54 rfl (by decide) (hc_kr_2_7 hk) rfl ⟨by decide, by decide⟩ (Nat.le_of_ble_eq_true rfl) rfl rfl dX2_copyFrom_82 rfl ?_
  refine ww_aload_n 86 X dX2_copyFrom_85 rfl rfl ?_
  refine ww_getr (ci := 2) (j := 8) 89 X cf_2 tw_X2_42 (by decide) rfl hk dX2_copyFrom_86 rfl ?_
  refine ww_aload_n 90 X dX2_copyFrom_89 rfl rfl ?_
  refine ww_getr (ci := 2) (j := 8) 93 X cf_2 tw_X2_42 (by decide) rfl hr1 dX2_copyFrom_90 rfl ?_
  obtain ⟨x9, hx9, h⟩ := hb_bind_of h
  refine ww_callV (ci := 1) (rest := []) (st' := []) 96 X (ct_X1_copyFrom (hb_l Γ) G (hc_rf k 8) (hc_kr_2_8 hk) (hc_rf r1 8) (hc_kr_2_8 hr1) x8 hx9) cw_X2_54 rfl (by decide) (hc_kr_2_8 hk) rfl ⟨by decide, by decide⟩ (Nat.le_of_ble_eq_true rfl) rfl rfl dX2_copyFrom_93 rfl ?_
  refine ww_aload_n 97 X dX2_copyFrom_96 rfl rfl ?_
  refine ww_getr (ci := 2) (j := 9) 100 X cf_2 tw_X2_48 (by decide) rfl hk dX2_copyFrom_97 rfl ?_
  refine ww_aload_n 101 X dX2_copyFrom_100 rfl rfl ?_
  refine ww_getr (ci := 2) (j := 9) 104 X cf_2 tw_X2_48 (by decide) rfl hr1 dX2_copyFrom_101 rfl ?_
  obtain ⟨x10, hx10, h⟩ := hb_bind_of h
  refine ww_callV (ci := 1) (rest := []) (st' := []) 107 X (ct_X1_copyFrom (hb_l Γ) G (hc_rf k 9) (hc_kr_2_9 hk) (hc_rf r1 9) (hc_kr_2_9 hr1) x9 hx10) cw_X2_54 rfl (by decide) (hc_kr_2_9 hk) rfl ⟨by decide, by decide⟩ (Nat.le_of_ble_eq_true rfl) rfl rfl dX2_copyFrom_104 rfl ?_
  refine ww_aload_n 108 X dX2_copyFrom_107 rfl rfl ?_
  refine ww_aload_n 109 X dX2_copyFrom_108 rfl rfl ?_
  refine ww_geti (ci := 2) (j := 10) 112 X cf_2 tw_X2_51 (by decide) rfl hr1 dX2_copyFrom_109 rfl ?_
  obtain ⟨σ11, eσ11, h⟩ := hb_nm_of h
  refine ww_put (ci := 2) (j := 10) (ty := .int) 115 X cf_2 cg_2 tw_X2_51 (by decide) rfl rfl rfl rfl rfl hk eσ11.symm dX2_copyFrom_112 rfl ?_
  obtain rfl := Option.some.inj h
  exact ww_ret_v X hr K dX2_copyFrom_115
theorem ct_X2_copyFrom (l : Launch) (G : hb_Gam) (k : Nat) (hk : hb_is ΛC k 2) (r1 : Nat) (hr1 : hb_is ΛC r1 2) (σ : hb_Mem) {x : hb_Mem} (h : fn_X2_copyFrom k r1 σ = some x) : hb_C l yX2_copyFrom cX2_copyFrom 2 none 2 43 ΛC G [.ref (G.2.2.2 k), .ref (G.2.2.2 r1)] σ none x :=
  hb_C.of [some (.ref (G.2.2.2 k)), some (.ref (G.2.2.2 r1))] (by decide +kernel) (Nat.le_of_ble_eq_true rfl) (by intro v hv; simp only [List.mem_cons, List.not_mem_nil, or_false] at hv; rcases hv with rfl | rfl <;> rfl) rfl (hb_pad [.ref (G.2.2.2 k), .ref (G.2.2.2 r1)] 0) (fun Γ X hr => wk_X2_copyFrom X hr k hk r1 hr1 σ h rfl)
def jn_X0_push_61 (k : Nat) (r1 : Nat) (s1 : Int32) (σ : hb_Mem) : Option hb_Mem :=
hb_nm (hb_up σ k 2 s1) fun σ5 =>
some σ5
set_option maxRecDepth 100000 in
set_option maxHeartbeats 4000000 in
theorem jw_X0_push_61 {Γ : hb_Ctx} {G : hb_Gam} {Q : State → Prop} (X : hb_X Γ cX0_push 3 RX0 ΛC G 3 64) (hr : hb_ret Γ = none) (k : Nat) (hk : hb_is ΛC k 0) (r1 : Nat) (hr1 : hb_is ΛC r1 2) (s1 : Int32) (σ : hb_Mem) {x : hb_Mem} (h : jn_X0_push_61 k r1 s1 σ = some x) (K : Q = hb_Q Γ ΛC G none x) : hb_W Γ ΛC G 3 Q σ [none, none, none] [.int s1, .ref (G.2.2.2 k)] 61 := by
  unfold jn_X0_push_61 at h
  obtain ⟨σ5, eσ5, h⟩ := hb_nm_of h
  refine ww_put (ci := 0) (j := 2) (ty := .int) 64 X cf_0 cg_0 tw_X0_22 (by decide) rfl rfl rfl rfl rfl hk eσ5.symm dX0_push_61 rfl ?_
  obtain rfl := Option.some.inj h
  exact ww_ret_v X hr K dX0_push_64
def jn_X0_push_39 (k : Nat) (r1 : Nat) (s1 : Int32) (σ : hb_Mem) : Option hb_Mem :=
hb_nm (hb_up σ k 1 s1) fun σ4 =>
if 4 ≤ (σ4 k 2) then (
jn_X0_push_61 k r1 4 σ4)
else (
jn_X0_push_61 k r1 ((σ4 k 2) + 1) σ4)
set_option maxRecDepth 100000 in
set_option maxHeartbeats 4000000 in
theorem jw_X0_push_39 {Γ : hb_Ctx} {G : hb_Gam} {Q : State → Prop} (X : hb_X Γ cX0_push 3 RX0 ΛC G 3 64) (hr : hb_ret Γ = none) (k : Nat) (hk : hb_is ΛC k 0) (r1 : Nat) (hr1 : hb_is ΛC r1 2) (s1 : Int32) (σ : hb_Mem) {x : hb_Mem} (h : jn_X0_push_39 k r1 s1 σ = some x) (K : Q = hb_Q Γ ΛC G none x) : hb_W Γ ΛC G 3 Q σ [some (.ref (G.2.2.2 k)), none, none] [.int s1, .ref (G.2.2.2 k)] 39 := by
  unfold jn_X0_push_39 at h
  obtain ⟨σ4, eσ4, h⟩ := hb_nm_of h
  refine ww_put (ci := 0) (j := 1) (ty := .int) 42 X cf_0 cg_0 tw_X0_18 (by decide) rfl rfl rfl rfl rfl hk eσ4.symm dX0_push_39 rfl ?_
  refine ww_aload_n 43 X dX0_push_42 rfl rfl ?_
  refine ww_aload_n 44 X dX0_push_43 rfl rfl ?_
  refine ww_geti (ci := 0) (j := 2) 47 X cf_0 tw_X0_22 (by decide) rfl hk dX0_push_44 rfl ?_
  refine ww_iconst (v := 4) 48 X dX0_push_47 rfl (by decide) ?_
  refine ww_icmp_ge 60 51 X dX0_push_48 (by decide) rfl h (fun h => ?_) (fun h => ?_)
  · skip
    refine ww_iconst (v := 4) 61 X dX0_push_60 rfl (by decide) ?_
    refine ww_kill [0] (L' := [none, none, none]) rfl ?_
    exact jw_X0_push_61 X hr k hk r1 hr1 4 σ4 h K
  · skip
    refine ww_aload_n 52 X dX0_push_51 rfl rfl ?_
    refine ww_geti (ci := 0) (j := 2) 55 X cf_0 tw_X0_22 (by decide) rfl hk dX0_push_52 rfl ?_
    refine ww_iconst (v := 1) 56 X dX0_push_55 rfl (by decide) ?_
    refine ww_iadd 57 X dX0_push_56 rfl ?_
    refine ww_goto 61 X dX0_push_57 (by decide) ?_
    refine ww_kill [0] (L' := [none, none, none]) rfl ?_
    exact jw_X0_push_61 X hr k hk r1 hr1 ((σ4 k 2) + 1) σ4 h K
def jn_X0_push_18 (k : Nat) (r1 : Nat) (σ : hb_Mem) : Option hb_Mem :=
if 4 ≤ ((σ k 1) + 1) then (
jn_X0_push_39 k r1 0 σ)
else (
jn_X0_push_39 k r1 ((σ k 1) + 1) σ)
set_option maxRecDepth 100000 in
set_option maxHeartbeats 4000000 in
theorem jw_X0_push_18 {Γ : hb_Ctx} {G : hb_Gam} {Q : State → Prop} (X : hb_X Γ cX0_push 3 RX0 ΛC G 3 64) (hr : hb_ret Γ = none) (k : Nat) (hk : hb_is ΛC k 0) (r1 : Nat) (hr1 : hb_is ΛC r1 2) (σ : hb_Mem) {x : hb_Mem} (h : jn_X0_push_18 k r1 σ = some x) (K : Q = hb_Q Γ ΛC G none x) : hb_W Γ ΛC G 3 Q σ [some (.ref (G.2.2.2 k)), none, none] [] 18 := by
  unfold jn_X0_push_18 at h
  refine ww_aload_n 19 X dX0_push_18 rfl rfl ?_
  refine ww_aload_n 20 X dX0_push_19 rfl rfl ?_
  refine ww_geti (ci := 0) (j := 1) 23 X cf_0 tw_X0_18 (by decide) rfl hk dX0_push_20 rfl ?_
  refine ww_iconst (v := 1) 24 X dX0_push_23 rfl (by decide) ?_
  refine ww_iadd 25 X dX0_push_24 rfl ?_
  refine ww_iconst (v := 4) 26 X dX0_push_25 rfl (by decide) ?_
  refine ww_icmp_ge 38 29 X dX0_push_26 (by decide) rfl h (fun h => ?_) (fun h => ?_)
  · skip
    refine ww_iconst (v := 0) 39 X dX0_push_38 rfl (by decide) ?_
    exact jw_X0_push_39 X hr k hk r1 hr1 0 σ h K
  · skip
    refine ww_aload_n 30 X dX0_push_29 rfl rfl ?_
    refine ww_geti (ci := 0) (j := 1) 33 X cf_0 tw_X0_18 (by decide) rfl hk dX0_push_30 rfl ?_
    refine ww_iconst (v := 1) 34 X dX0_push_33 rfl (by decide) ?_
    refine ww_iadd 35 X dX0_push_34 rfl ?_
    refine ww_goto 39 X dX0_push_35 (by decide) ?_
    exact jw_X0_push_39 X hr k hk r1 hr1 ((σ k 1) + 1) σ h K
def fn_X0_push (k : Nat) (r1 : Nat) (σ : hb_Mem) : Option hb_Mem :=
(fn_X0_stateAt k (σ k 1) σ).bind fun x1 =>
x1.bind fun b2 =>
(fn_X2_copyFrom b2 r1 σ).bind fun x3 =>
jn_X0_push_18 k r1 x3
set_option maxRecDepth 100000 in
set_option maxHeartbeats 4000000 in
theorem wk_X0_push {Γ : hb_Ctx} {G : hb_Gam} {Q : State → Prop} (X : hb_X Γ cX0_push 3 RX0 ΛC G 3 64) (hr : hb_ret Γ = none) (k : Nat) (hk : hb_is ΛC k 0) (r1 : Nat) (hr1 : hb_is ΛC r1 2) (σ : hb_Mem) {x : hb_Mem} (h : fn_X0_push k r1 σ = some x) (K : Q = hb_Q Γ ΛC G none x) : hb_W Γ ΛC G 3 Q σ [some (.ref (G.2.2.2 k)), some (.ref (G.2.2.2 r1)), none] [] 0 := by
  unfold fn_X0_push at h
  refine ww_aload_n 1 X dX0_push_0 rfl rfl ?_
  refine ww_aload_n 2 X dX0_push_1 rfl rfl ?_
  refine ww_geti (ci := 0) (j := 1) 5 X cf_0 tw_X0_18 (by decide) rfl hk dX0_push_2 rfl ?_
  obtain ⟨x1, hx1, h⟩ := hb_bind_of h
  obtain ⟨b2, eb2, h⟩ := hb_bind_of h
  replace hx1 := hx1.trans (congrArg some eb2)
  refine ww_callV (ci := 0) (rest := []) (st' := [.ref (G.2.2.2 b2)]) 8 X (ct_X0_stateAt (hb_l Γ) G k hk (σ k 1) σ hx1) cw_X0_25 rfl (by decide) hk rfl ⟨by decide, by decide⟩ (Nat.le_of_ble_eq_true rfl) rfl rfl dX0_push_5 rfl ?_
  refine ww_astore_n 9 X (L' := [some (.ref (G.2.2.2 k)), some (.ref (G.2.2.2 r1)), some (.ref (G.2.2.2 b2))]) dX0_push_8 rfl (Nat.le_of_ble_eq_true rfl) rfl ?_
  refine ww_aload_n 10 X dX0_push_9 rfl rfl ?_
  refine ww_ifnull_r 13 X dX0_push_10 rfl ?_
  refine ww_aload_n 14 X dX0_push_13 rfl rfl ?_
  refine ww_aload_n 15 X dX0_push_14 rfl rfl ?_
  obtain ⟨x3, hx3, h⟩ := hb_bind_of h
  refine ww_callV (ci := 2) (rest := []) (st' := []) 18 X (ct_X2_copyFrom (hb_l Γ) G b2 (hc_stateAt_kind hk hx1) r1 hr1 σ hx3) cw_X0_29 rfl (by decide) (hc_stateAt_kind hk hx1) rfl ⟨by decide, by decide⟩ (Nat.le_of_ble_eq_true rfl) rfl rfl dX0_push_15 rfl ?_
  refine ww_kill [1, 2] (L' := [some (.ref (G.2.2.2 k)), none, none]) rfl ?_
  exact jw_X0_push_18 X hr k hk r1 hr1 x3 h K
theorem ct_X0_push (l : Launch) (G : hb_Gam) (k : Nat) (hk : hb_is ΛC k 0) (r1 : Nat) (hr1 : hb_is ΛC r1 2) (σ : hb_Mem) {x : hb_Mem} (h : fn_X0_push k r1 σ = some x) : hb_C l yX0_push cX0_push 3 none 3 64 ΛC G [.ref (G.2.2.2 k), .ref (G.2.2.2 r1)] σ none x :=
  hb_C.of [some (.ref (G.2.2.2 k)), some (.ref (G.2.2.2 r1)), none] (by decide +kernel) (Nat.le_of_ble_eq_true rfl) (by intro v hv; simp only [List.mem_cons, List.not_mem_nil, or_false] at hv; rcases hv with rfl | rfl <;> rfl) rfl (hb_pad [.ref (G.2.2.2 k), .ref (G.2.2.2 r1)] 1) (fun Γ X hr => wk_X0_push X hr k hk r1 hr1 σ h rfl)
def jn_X0_pop_18 (k : Nat) (r1 : Nat) (s1 : Int32) (σ : hb_Mem) : Option hb_Mem :=
hb_nm (hb_up σ k 1 s1) fun σ1 =>
hb_nm (hb_up σ1 k 2 ((σ1 k 2) - 1)) fun σ2 =>
(fn_X0_stateAt k (σ2 k 1) σ2).bind fun x3 =>
x3.bind fun b4 =>
(fn_X2_copyFrom r1 b4 σ2).bind fun x5 =>
some x5
set_option maxRecDepth 100000 in
set_option maxHeartbeats 4000000 in
theorem jw_X0_pop_18 {Γ : hb_Ctx} {G : hb_Gam} {Q : State → Prop} (X : hb_X Γ cX0_pop 3 RX0 ΛC G 3 64) (hr : hb_ret Γ = none) (k : Nat) (hk : hb_is ΛC k 0) (r1 : Nat) (hr1 : hb_is ΛC r1 2) (s1 : Int32) (σ : hb_Mem) {x : hb_Mem} (h : jn_X0_pop_18 k r1 s1 σ = some x) (K : Q = hb_Q Γ ΛC G none x) : hb_W Γ ΛC G 3 Q σ [some (.ref (G.2.2.2 k)), some (.ref (G.2.2.2 r1)), none] [.int s1, .ref (G.2.2.2 k)] 18 := by
  unfold jn_X0_pop_18 at h
  obtain ⟨σ1, eσ1, h⟩ := hb_nm_of h
  refine ww_put (ci := 0) (j := 1) (ty := .int) 21 X cf_0 cg_0 tw_X0_18 (by decide) rfl rfl rfl rfl rfl hk eσ1.symm dX0_pop_18 rfl ?_
  refine ww_aload_n 22 X dX0_pop_21 rfl rfl ?_
  refine ww_aload_n 23 X dX0_pop_22 rfl rfl ?_
  refine ww_geti (ci := 0) (j := 2) 26 X cf_0 tw_X0_22 (by decide) rfl hk dX0_pop_23 rfl ?_
  refine ww_iconst (v := 1) 27 X dX0_pop_26 rfl (by decide) ?_
  refine ww_isub 28 X dX0_pop_27 rfl ?_
  obtain ⟨σ2, eσ2, h⟩ := hb_nm_of h
  refine ww_put (ci := 0) (j := 2) (ty := .int) 31 X cf_0 cg_0 tw_X0_22 (by decide) rfl rfl rfl rfl rfl hk eσ2.symm dX0_pop_28 rfl ?_
  refine ww_aload_n 32 X dX0_pop_31 rfl rfl ?_
  refine ww_aload_n 33 X dX0_pop_32 rfl rfl ?_
  refine ww_geti (ci := 0) (j := 1) 36 X cf_0 tw_X0_18 (by decide) rfl hk dX0_pop_33 rfl ?_
  obtain ⟨x3, hx3, h⟩ := hb_bind_of h
  obtain ⟨b4, eb4, h⟩ := hb_bind_of h
  replace hx3 := hx3.trans (congrArg some eb4)
  refine ww_callV (ci := 0) (rest := []) (st' := [.ref (G.2.2.2 b4)]) 39 X (ct_X0_stateAt (hb_l Γ) G k hk (σ2 k 1) σ2 hx3) cw_X0_25 rfl (by decide) hk rfl ⟨by decide, by decide⟩ (Nat.le_of_ble_eq_true rfl) rfl rfl dX0_pop_36 rfl ?_
  refine ww_astore_n 40 X (L' := [some (.ref (G.2.2.2 k)), some (.ref (G.2.2.2 r1)), some (.ref (G.2.2.2 b4))]) dX0_pop_39 rfl (Nat.le_of_ble_eq_true rfl) rfl ?_
  refine ww_aload_n 41 X dX0_pop_40 rfl rfl ?_
  refine ww_ifnull_r 44 X dX0_pop_41 rfl ?_
  refine ww_aload_n 45 X dX0_pop_44 rfl rfl ?_
  refine ww_aload_n 46 X dX0_pop_45 rfl rfl ?_
  obtain ⟨x5, hx5, h⟩ := hb_bind_of h
  refine ww_callV (ci := 2) (rest := []) (st' := []) 49 X (ct_X2_copyFrom (hb_l Γ) G r1 hr1 b4 (hc_stateAt_kind hk hx3) σ2 hx5) cw_X0_29 rfl (by decide) hr1 rfl ⟨by decide, by decide⟩ (Nat.le_of_ble_eq_true rfl) rfl rfl dX0_pop_46 rfl ?_
  obtain rfl := Option.some.inj h
  exact ww_ret_v X hr K dX0_pop_49
def fn_X0_pop (k : Nat) (r1 : Nat) (σ : hb_Mem) : Option hb_Mem :=
if (σ k 1) ≤ 0 then (
jn_X0_pop_18 k r1 3 σ)
else (
jn_X0_pop_18 k r1 ((σ k 1) - 1) σ)
set_option maxRecDepth 100000 in
set_option maxHeartbeats 4000000 in
theorem wk_X0_pop {Γ : hb_Ctx} {G : hb_Gam} {Q : State → Prop} (X : hb_X Γ cX0_pop 3 RX0 ΛC G 3 64) (hr : hb_ret Γ = none) (k : Nat) (hk : hb_is ΛC k 0) (r1 : Nat) (hr1 : hb_is ΛC r1 2) (σ : hb_Mem) {x : hb_Mem} (h : fn_X0_pop k r1 σ = some x) (K : Q = hb_Q Γ ΛC G none x) : hb_W Γ ΛC G 3 Q σ [some (.ref (G.2.2.2 k)), some (.ref (G.2.2.2 r1)), none] [] 0 := by
  unfold fn_X0_pop at h
  refine ww_aload_n 1 X dX0_pop_0 rfl rfl ?_
  refine ww_aload_n 2 X dX0_pop_1 rfl rfl ?_
  refine ww_geti (ci := 0) (j := 1) 5 X cf_0 tw_X0_18 (by decide) rfl hk dX0_pop_2 rfl ?_
  refine ww_if_le 17 8 X dX0_pop_5 (by decide) rfl h (fun h => ?_) (fun h => ?_)
  · skip
    refine ww_iconst (v := 3) 18 X dX0_pop_17 rfl (by decide) ?_
    exact jw_X0_pop_18 X hr k hk r1 hr1 3 σ h K
  · skip
    refine ww_aload_n 9 X dX0_pop_8 rfl rfl ?_
    refine ww_geti (ci := 0) (j := 1) 12 X cf_0 tw_X0_18 (by decide) rfl hk dX0_pop_9 rfl ?_
    refine ww_iconst (v := 1) 13 X dX0_pop_12 rfl (by decide) ?_
    refine ww_isub 14 X dX0_pop_13 rfl ?_
    refine ww_goto 18 X dX0_pop_14 (by decide) ?_
    exact jw_X0_pop_18 X hr k hk r1 hr1 ((σ k 1) - 1) σ h K
theorem ct_X0_pop (l : Launch) (G : hb_Gam) (k : Nat) (hk : hb_is ΛC k 0) (r1 : Nat) (hr1 : hb_is ΛC r1 2) (σ : hb_Mem) {x : hb_Mem} (h : fn_X0_pop k r1 σ = some x) : hb_C l yX0_pop cX0_pop 3 none 3 64 ΛC G [.ref (G.2.2.2 k), .ref (G.2.2.2 r1)] σ none x :=
  hb_C.of [some (.ref (G.2.2.2 k)), some (.ref (G.2.2.2 r1)), none] (by decide +kernel) (Nat.le_of_ble_eq_true rfl) (by intro v hv; simp only [List.mem_cons, List.not_mem_nil, or_false] at hv; rcases hv with rfl | rfl <;> rfl) rfl (hb_pad [.ref (G.2.2.2 k), .ref (G.2.2.2 r1)] 1) (fun Γ X hr => wk_X0_pop X hr k hk r1 hr1 σ h rfl)
def fn_X1_put (k : Nat) (p1 : Int32) (p2 : Int32) (σ : hb_Mem) : Option hb_Mem :=
if p1 < 0 then (
some σ)
else (
if (Int32.ofNat (hc_ln (hc_rf k 0))) ≤ p1 then (
some σ)
else (
(hb_st ΛC σ (hc_rf k 0) p1 p2).bind fun σ1 =>
some σ1))
set_option maxRecDepth 100000 in
set_option maxHeartbeats 4000000 in
theorem wk_X1_put {Γ : hb_Ctx} {G : hb_Gam} {Q : State → Prop} (X : hb_X Γ cX1_put 3 RX1 ΛC G 0 0) (hr : hb_ret Γ = none) (k : Nat) (hk : hb_is ΛC k 1) (p1 : Int32) (p2 : Int32) (σ : hb_Mem) {x : hb_Mem} (h : fn_X1_put k p1 p2 σ = some x) (K : Q = hb_Q Γ ΛC G none x) : hb_W Γ ΛC G 3 Q σ [some (.ref (G.2.2.2 k)), some (.int p1), some (.int p2)] [] 0 := by
  unfold fn_X1_put at h
  refine ww_iload_n 1 X dX1_put_0 rfl rfl ?_
  refine ww_if_lt 20 4 X dX1_put_1 (by decide) rfl h (fun h => ?_) (fun h => ?_)
  · skip
    obtain rfl := Option.some.inj h
    exact ww_ret_v X hr K dX1_put_20
  · skip
    refine ww_iload_n 5 X dX1_put_4 rfl rfl ?_
    refine ww_aload_n 6 X dX1_put_5 rfl rfl ?_
    refine ww_getr (ci := 1) (j := 0) 9 X cf_1 tw_X1_7 (by decide) rfl hk dX1_put_6 rfl ?_
    refine ww_alen 10 X (hc_kr_1_0 hk) rfl dX1_put_9 rfl ?_
    refine ww_icmp_ge 20 13 X dX1_put_10 (by decide) rfl h (fun h => ?_) (fun h => ?_)
    · skip
      obtain rfl := Option.some.inj h
      exact ww_ret_v X hr K dX1_put_20
    · skip
      refine ww_aload_n 14 X dX1_put_13 rfl rfl ?_
      refine ww_getr (ci := 1) (j := 0) 17 X cf_1 tw_X1_7 (by decide) rfl hk dX1_put_14 rfl ?_
      refine ww_iload_n 18 X dX1_put_17 rfl rfl ?_
      refine ww_iload_n 19 X dX1_put_18 rfl rfl ?_
      obtain ⟨σ1, hσ1, h⟩ := hb_bind_of h
      refine ww_iast 20 X (hc_kr_1_0 hk) hσ1 dX1_put_19 rfl ?_
      obtain rfl := Option.some.inj h
      exact ww_ret_v X hr K dX1_put_20
theorem ct_X1_put (l : Launch) (G : hb_Gam) (k : Nat) (hk : hb_is ΛC k 1) (p1 : Int32) (p2 : Int32) (σ : hb_Mem) {x : hb_Mem} (h : fn_X1_put k p1 p2 σ = some x) : hb_C l yX1_put cX1_put 3 none 0 0 ΛC G [.ref (G.2.2.2 k), .int p1, .int p2] σ none x :=
  hb_C.of [some (.ref (G.2.2.2 k)), some (.int p1), some (.int p2)] (by decide +kernel) (Nat.le_of_ble_eq_true rfl) (by intro v hv; simp only [List.mem_cons, List.not_mem_nil, or_false] at hv; rcases hv with rfl | rfl | rfl <;> rfl) rfl (hb_pad [.ref (G.2.2.2 k), .int p1, .int p2] 0) (fun Γ X hr => wk_X1_put X hr k hk p1 p2 σ h rfl)
def fn_X1_swap (k : Nat) (p1 : Int32) (p2 : Int32) (σ : hb_Mem) : Option hb_Mem :=
(fn_X1_at k p1 σ).bind fun x1 =>
(fn_X1_at k p2 σ).bind fun x2 =>
(fn_X1_put k p1 x2 σ).bind fun x3 =>
(fn_X1_put k p2 x1 x3).bind fun x4 =>
some x4
set_option maxRecDepth 100000 in
set_option maxHeartbeats 4000000 in
theorem wk_X1_swap {Γ : hb_Ctx} {G : hb_Gam} {Q : State → Prop} (X : hb_X Γ cX1_swap 4 RX1 ΛC G 1 22) (hr : hb_ret Γ = none) (k : Nat) (hk : hb_is ΛC k 1) (p1 : Int32) (p2 : Int32) (σ : hb_Mem) {x : hb_Mem} (h : fn_X1_swap k p1 p2 σ = some x) (K : Q = hb_Q Γ ΛC G none x) : hb_W Γ ΛC G 4 Q σ [some (.ref (G.2.2.2 k)), some (.int p1), some (.int p2), none] [] 0 := by
  unfold fn_X1_swap at h
  refine ww_aload_n 1 X dX1_swap_0 rfl rfl ?_
  refine ww_iload_n 2 X dX1_swap_1 rfl rfl ?_
  obtain ⟨x1, hx1, h⟩ := hb_bind_of h
  refine ww_callV (ci := 1) (rest := []) (st' := [.int x1]) 5 X (ct_X1_at (hb_l Γ) G k hk p1 σ hx1) cw_X1_13 rfl (by decide) hk rfl ⟨by decide, by decide⟩ (Nat.le_of_ble_eq_true rfl) rfl rfl dX1_swap_2 rfl ?_
  refine ww_istore_n 6 X (L' := [some (.ref (G.2.2.2 k)), some (.int p1), some (.int p2), some (.int x1)]) dX1_swap_5 rfl (Nat.le_of_ble_eq_true rfl) rfl ?_
  refine ww_aload_n 7 X dX1_swap_6 rfl rfl ?_
  refine ww_iload_n 8 X dX1_swap_7 rfl rfl ?_
  refine ww_aload_n 9 X dX1_swap_8 rfl rfl ?_
  refine ww_iload_n 10 X dX1_swap_9 rfl rfl ?_
  obtain ⟨x2, hx2, h⟩ := hb_bind_of h
  refine ww_callV (ci := 1) (rest := [.int p1, .ref (G.2.2.2 k)]) (st' := [.int x2, .int p1, .ref (G.2.2.2 k)]) 13 X (ct_X1_at (hb_l Γ) G k hk p2 σ hx2) cw_X1_13 rfl (by decide) hk rfl ⟨by decide, by decide⟩ (Nat.le_of_ble_eq_true rfl) rfl rfl dX1_swap_10 rfl ?_
  obtain ⟨x3, hx3, h⟩ := hb_bind_of h
  refine ww_callV (ci := 1) (rest := []) (st' := []) 16 X (ct_X1_put (hb_l Γ) G k hk p1 x2 σ hx3) cw_X1_17 rfl (by decide) hk rfl ⟨by decide, by decide⟩ (Nat.le_of_ble_eq_true rfl) rfl rfl dX1_swap_13 rfl ?_
  refine ww_aload_n 17 X dX1_swap_16 rfl rfl ?_
  refine ww_iload_n 18 X dX1_swap_17 rfl rfl ?_
  refine ww_iload_n 19 X dX1_swap_18 rfl rfl ?_
  obtain ⟨x4, hx4, h⟩ := hb_bind_of h
  refine ww_callV (ci := 1) (rest := []) (st' := []) 22 X (ct_X1_put (hb_l Γ) G k hk p2 x1 x3 hx4) cw_X1_17 rfl (by decide) hk rfl ⟨by decide, by decide⟩ (Nat.le_of_ble_eq_true rfl) rfl rfl dX1_swap_19 rfl ?_
  obtain rfl := Option.some.inj h
  exact ww_ret_v X hr K dX1_swap_22
theorem ct_X1_swap (l : Launch) (G : hb_Gam) (k : Nat) (hk : hb_is ΛC k 1) (p1 : Int32) (p2 : Int32) (σ : hb_Mem) {x : hb_Mem} (h : fn_X1_swap k p1 p2 σ = some x) : hb_C l yX1_swap cX1_swap 4 none 1 22 ΛC G [.ref (G.2.2.2 k), .int p1, .int p2] σ none x :=
  hb_C.of [some (.ref (G.2.2.2 k)), some (.int p1), some (.int p2), none] (by decide +kernel) (Nat.le_of_ble_eq_true rfl) (by intro v hv; simp only [List.mem_cons, List.not_mem_nil, or_false] at hv; rcases hv with rfl | rfl | rfl <;> rfl) rfl (hb_pad [.ref (G.2.2.2 k), .int p1, .int p2] 1) (fun Γ X hr => wk_X1_swap X hr k hk p1 p2 σ h rfl)
def fn_X2_hasPage (k : Nat) (p1 : Int32) (σ : hb_Mem) : Option Int32 :=
if p1 < 0 then (
some 0)
else (
if (σ k 0) ≤ p1 then (
some 0)
else (
some 1))
set_option maxRecDepth 100000 in
set_option maxHeartbeats 4000000 in
theorem wk_X2_hasPage {Γ : hb_Ctx} {G : hb_Gam} {Q : State → Prop} (X : hb_X Γ cX2_hasPage 2 RX2 ΛC G 0 0) (hr : hb_ret Γ = (some .boolean)) (k : Nat) (hk : hb_is ΛC k 2) (p1 : Int32) (σ : hb_Mem) {x : Int32} (h : fn_X2_hasPage k p1 σ = some x) (K : Q = hb_Q Γ ΛC G (some (.int x)) σ) : hb_W Γ ΛC G 2 Q σ [some (.ref (G.2.2.2 k)), some (.int p1)] [] 0 := by
  unfold fn_X2_hasPage at h
  refine ww_iload_n 1 X dX2_hasPage_0 rfl rfl ?_
  refine ww_if_lt 16 4 X dX2_hasPage_1 (by decide) rfl h (fun h => ?_) (fun h => ?_)
  · skip
    refine ww_iconst (v := 0) 17 X dX2_hasPage_16 rfl (by decide) ?_
    obtain rfl := Option.some.inj h
    exact ww_ret_z X hr (by decide) K dX2_hasPage_17
  · skip
    refine ww_iload_n 5 X dX2_hasPage_4 rfl rfl ?_
    refine ww_aload_n 6 X dX2_hasPage_5 rfl rfl ?_
    refine ww_geti (ci := 2) (j := 0) 9 X cf_2 tw_X2_9 (by decide) rfl hk dX2_hasPage_6 rfl ?_
    refine ww_icmp_ge 16 12 X dX2_hasPage_9 (by decide) rfl h (fun h => ?_) (fun h => ?_)
    · skip
      refine ww_iconst (v := 0) 17 X dX2_hasPage_16 rfl (by decide) ?_
      obtain rfl := Option.some.inj h
      exact ww_ret_z X hr (by decide) K dX2_hasPage_17
    · skip
      refine ww_iconst (v := 1) 13 X dX2_hasPage_12 rfl (by decide) ?_
      refine ww_goto 17 X dX2_hasPage_13 (by decide) ?_
      obtain rfl := Option.some.inj h
      exact ww_ret_z X hr (by decide) K dX2_hasPage_17
theorem ct_X2_hasPage (l : Launch) (G : hb_Gam) (k : Nat) (hk : hb_is ΛC k 2) (p1 : Int32) (σ : hb_Mem) {x : Int32} (h : fn_X2_hasPage k p1 σ = some x) : hb_C l yX2_hasPage cX2_hasPage 2 (some .boolean) 0 0 ΛC G [.ref (G.2.2.2 k), .int p1] σ (some (.int x)) σ :=
  hb_C.of [some (.ref (G.2.2.2 k)), some (.int p1)] (by decide +kernel) (Nat.le_of_ble_eq_true rfl) (by intro v hv; simp only [List.mem_cons, List.not_mem_nil, or_false] at hv; rcases hv with rfl | rfl <;> rfl) rfl (hb_pad [.ref (G.2.2.2 k), .int p1] 0) (fun Γ X hr => wk_X2_hasPage X hr k hk p1 σ h rfl)
def fn_X2_hasChoice (k : Nat) (p1 : Int32) (p2 : Int32) (σ : hb_Mem) : Option Int32 :=
(fn_X2_hasPage k p1 σ).bind fun x1 =>
if x1 = 0 then (
some 0)
else (
if p2 < 0 then (
some 0)
else (
(fn_X1_at (hc_rf k 4) p1 σ).bind fun x2 =>
if x2 ≤ p2 then (
some 0)
else (
some 1)))
set_option maxRecDepth 100000 in
set_option maxHeartbeats 4000000 in
theorem wk_X2_hasChoice {Γ : hb_Ctx} {G : hb_Gam} {Q : State → Prop} (X : hb_X Γ cX2_hasChoice 3 RX2 ΛC G 1 21) (hr : hb_ret Γ = (some .boolean)) (k : Nat) (hk : hb_is ΛC k 2) (p1 : Int32) (p2 : Int32) (σ : hb_Mem) {x : Int32} (h : fn_X2_hasChoice k p1 p2 σ = some x) (K : Q = hb_Q Γ ΛC G (some (.int x)) σ) : hb_W Γ ΛC G 3 Q σ [some (.ref (G.2.2.2 k)), some (.int p1), some (.int p2)] [] 0 := by
  unfold fn_X2_hasChoice at h
  refine ww_aload_n 1 X dX2_hasChoice_0 rfl rfl ?_
  refine ww_iload_n 2 X dX2_hasChoice_1 rfl rfl ?_
  obtain ⟨x1, hx1, h⟩ := hb_bind_of h
  refine ww_callV (ci := 2) (rest := []) (st' := [.int x1]) 5 X (ct_X2_hasPage (hb_l Γ) G k hk p1 σ hx1) cw_X2_58 rfl (by decide) hk rfl ⟨by decide, by decide⟩ (Nat.le_of_ble_eq_true rfl) rfl rfl dX2_hasChoice_2 rfl ?_
  refine ww_if_eq 28 8 X dX2_hasChoice_5 (by decide) rfl h (fun h => ?_) (fun h => ?_)
  · skip
    refine ww_iconst (v := 0) 29 X dX2_hasChoice_28 rfl (by decide) ?_
    obtain rfl := Option.some.inj h
    exact ww_ret_z X hr (by decide) K dX2_hasChoice_29
  · skip
    refine ww_iload_n 9 X dX2_hasChoice_8 rfl rfl ?_
    refine ww_if_lt 28 12 X dX2_hasChoice_9 (by decide) rfl h (fun h => ?_) (fun h => ?_)
    · skip
      refine ww_iconst (v := 0) 29 X dX2_hasChoice_28 rfl (by decide) ?_
      obtain rfl := Option.some.inj h
      exact ww_ret_z X hr (by decide) K dX2_hasChoice_29
    · skip
      refine ww_iload_n 13 X dX2_hasChoice_12 rfl rfl ?_
      refine ww_aload_n 14 X dX2_hasChoice_13 rfl rfl ?_
      refine ww_getr (ci := 2) (j := 4) 17 X cf_2 tw_X2_30 (by decide) rfl hk dX2_hasChoice_14 rfl ?_
      refine ww_iload_n 18 X dX2_hasChoice_17 rfl rfl ?_
      obtain ⟨x2, hx2, h⟩ := hb_bind_of h
      refine ww_callV (ci := 1) (rest := [.int p2]) (st' := [.int x2, .int p2]) 21 X (ct_X1_at (hb_l Γ) G (hc_rf k 4) (hc_kr_2_4 hk) p1 σ hx2) cw_X2_62 rfl (by decide) (hc_kr_2_4 hk) rfl ⟨by decide, by decide⟩ (Nat.le_of_ble_eq_true rfl) rfl rfl dX2_hasChoice_18 rfl ?_
      refine ww_icmp_ge 28 24 X dX2_hasChoice_21 (by decide) rfl h (fun h => ?_) (fun h => ?_)
      · skip
        refine ww_iconst (v := 0) 29 X dX2_hasChoice_28 rfl (by decide) ?_
        obtain rfl := Option.some.inj h
        exact ww_ret_z X hr (by decide) K dX2_hasChoice_29
      · skip
        refine ww_iconst (v := 1) 25 X dX2_hasChoice_24 rfl (by decide) ?_
        refine ww_goto 29 X dX2_hasChoice_25 (by decide) ?_
        obtain rfl := Option.some.inj h
        exact ww_ret_z X hr (by decide) K dX2_hasChoice_29
theorem ct_X2_hasChoice (l : Launch) (G : hb_Gam) (k : Nat) (hk : hb_is ΛC k 2) (p1 : Int32) (p2 : Int32) (σ : hb_Mem) {x : Int32} (h : fn_X2_hasChoice k p1 p2 σ = some x) : hb_C l yX2_hasChoice cX2_hasChoice 3 (some .boolean) 1 21 ΛC G [.ref (G.2.2.2 k), .int p1, .int p2] σ (some (.int x)) σ :=
  hb_C.of [some (.ref (G.2.2.2 k)), some (.int p1), some (.int p2)] (by decide +kernel) (Nat.le_of_ble_eq_true rfl) (by intro v hv; simp only [List.mem_cons, List.not_mem_nil, or_false] at hv; rcases hv with rfl | rfl | rfl <;> rfl) rfl (hb_pad [.ref (G.2.2.2 k), .int p1, .int p2] 0) (fun Γ X hr => wk_X2_hasChoice X hr k hk p1 p2 σ h rfl)
def fn_X2_bindPage (k : Nat) (p1 : Int32) (p2 : Int32) (p3 : Int32) (σ : hb_Mem) : Option (Int32 × hb_Mem) :=
hb_nm (σ k 0) fun v1 =>
(fn_X1_put (hc_rf k 1) v1 p1 σ).bind fun x2 =>
(fn_X1_put (hc_rf k 2) v1 p2 x2).bind fun x3 =>
(fn_X1_put (hc_rf k 3) v1 p3 x3).bind fun x4 =>
(fn_X1_put (hc_rf k 4) v1 0 x4).bind fun x5 =>
hb_nm (hb_up x5 k 0 (v1 + 1)) fun σ6 =>
some (v1, σ6)
set_option maxRecDepth 100000 in
set_option maxHeartbeats 4000000 in
theorem wk_X2_bindPage {Γ : hb_Ctx} {G : hb_Gam} {Q : State → Prop} (X : hb_X Γ cX2_bindPage 5 RX2 ΛC G 1 22) (hr : hb_ret Γ = (some .int)) (k : Nat) (hk : hb_is ΛC k 2) (p1 : Int32) (p2 : Int32) (p3 : Int32) (σ : hb_Mem) {x : (Int32 × hb_Mem)} (h : fn_X2_bindPage k p1 p2 p3 σ = some x) (K : Q = hb_Q Γ ΛC G (some (.int x.1)) x.2) : hb_W Γ ΛC G 5 Q σ [some (.ref (G.2.2.2 k)), some (.int p1), some (.int p2), some (.int p3), none] [] 0 := by
  unfold fn_X2_bindPage at h
  refine ww_aload_n 1 X dX2_bindPage_0 rfl rfl ?_
  refine ww_geti (ci := 2) (j := 0) 4 X cf_2 tw_X2_9 (by decide) rfl hk dX2_bindPage_1 rfl ?_
  obtain ⟨v1, ev1, h⟩ := hb_nm_of h
  rw [← ev1]
  refine ww_istore 6 X (L' := [some (.ref (G.2.2.2 k)), some (.int p1), some (.int p2), some (.int p3), some (.int v1)]) dX2_bindPage_4 rfl (Nat.le_of_ble_eq_true rfl) rfl ?_
  refine ww_aload_n 7 X dX2_bindPage_6 rfl rfl ?_
  refine ww_getr (ci := 2) (j := 1) 10 X cf_2 tw_X2_20 (by decide) rfl hk dX2_bindPage_7 rfl ?_
  refine ww_iload 12 X dX2_bindPage_10 rfl rfl ?_
  refine ww_iload_n 13 X dX2_bindPage_12 rfl rfl ?_
  obtain ⟨x2, hx2, h⟩ := hb_bind_of h
  refine ww_callV (ci := 1) (rest := []) (st' := []) 16 X (ct_X1_put (hb_l Γ) G (hc_rf k 1) (hc_kr_2_1 hk) v1 p1 σ hx2) cw_X2_66 rfl (by decide) (hc_kr_2_1 hk) rfl ⟨by decide, by decide⟩ (Nat.le_of_ble_eq_true rfl) rfl rfl dX2_bindPage_13 rfl ?_
  refine ww_aload_n 17 X dX2_bindPage_16 rfl rfl ?_
  refine ww_getr (ci := 2) (j := 2) 20 X cf_2 tw_X2_24 (by decide) rfl hk dX2_bindPage_17 rfl ?_
  refine ww_iload 22 X dX2_bindPage_20 rfl rfl ?_
  refine ww_iload_n 23 X dX2_bindPage_22 rfl rfl ?_
  obtain ⟨x3, hx3, h⟩ := hb_bind_of h
  refine ww_callV (ci := 1) (rest := []) (st' := []) 26 X (ct_X1_put (hb_l Γ) G (hc_rf k 2) (hc_kr_2_2 hk) v1 p2 x2 hx3) cw_X2_66 rfl (by decide) (hc_kr_2_2 hk) rfl ⟨by decide, by decide⟩ (Nat.le_of_ble_eq_true rfl) rfl rfl dX2_bindPage_23 rfl ?_
  refine ww_aload_n 27 X dX2_bindPage_26 rfl rfl ?_
  refine ww_getr (ci := 2) (j := 3) 30 X cf_2 tw_X2_27 (by decide) rfl hk dX2_bindPage_27 rfl ?_
  refine ww_iload 32 X dX2_bindPage_30 rfl rfl ?_
  refine ww_iload_n 33 X dX2_bindPage_32 rfl rfl ?_
  obtain ⟨x4, hx4, h⟩ := hb_bind_of h
  refine ww_callV (ci := 1) (rest := []) (st' := []) 36 X (ct_X1_put (hb_l Γ) G (hc_rf k 3) (hc_kr_2_3 hk) v1 p3 x3 hx4) cw_X2_66 rfl (by decide) (hc_kr_2_3 hk) rfl ⟨by decide, by decide⟩ (Nat.le_of_ble_eq_true rfl) rfl rfl dX2_bindPage_33 rfl ?_
  refine ww_aload_n 37 X dX2_bindPage_36 rfl rfl ?_
  refine ww_getr (ci := 2) (j := 4) 40 X cf_2 tw_X2_30 (by decide) rfl hk dX2_bindPage_37 rfl ?_
  refine ww_iload 42 X dX2_bindPage_40 rfl rfl ?_
  refine ww_iconst (v := 0) 43 X dX2_bindPage_42 rfl (by decide) ?_
  obtain ⟨x5, hx5, h⟩ := hb_bind_of h
  refine ww_callV (ci := 1) (rest := []) (st' := []) 46 X (ct_X1_put (hb_l Γ) G (hc_rf k 4) (hc_kr_2_4 hk) v1 0 x4 hx5) cw_X2_66 rfl (by decide) (hc_kr_2_4 hk) rfl ⟨by decide, by decide⟩ (Nat.le_of_ble_eq_true rfl) rfl rfl dX2_bindPage_43 rfl ?_
  refine ww_aload_n 47 X dX2_bindPage_46 rfl rfl ?_
  refine ww_iload 49 X dX2_bindPage_47 rfl rfl ?_
  refine ww_iconst (v := 1) 50 X dX2_bindPage_49 rfl (by decide) ?_
  refine ww_iadd 51 X dX2_bindPage_50 rfl ?_
  obtain ⟨σ6, eσ6, h⟩ := hb_nm_of h
  refine ww_put (ci := 2) (j := 0) (ty := .int) 54 X cf_2 cg_2 tw_X2_9 (by decide) rfl rfl rfl rfl rfl hk eσ6.symm dX2_bindPage_51 rfl ?_
  refine ww_iload 56 X dX2_bindPage_54 rfl rfl ?_
  obtain rfl := Option.some.inj h
  exact ww_ret_i X hr K dX2_bindPage_56
theorem ct_X2_bindPage (l : Launch) (G : hb_Gam) (k : Nat) (hk : hb_is ΛC k 2) (p1 : Int32) (p2 : Int32) (p3 : Int32) (σ : hb_Mem) {x : (Int32 × hb_Mem)} (h : fn_X2_bindPage k p1 p2 p3 σ = some x) : hb_C l yX2_bindPage cX2_bindPage 5 (some .int) 1 22 ΛC G [.ref (G.2.2.2 k), .int p1, .int p2, .int p3] σ (some (.int x.1)) x.2 :=
  hb_C.of [some (.ref (G.2.2.2 k)), some (.int p1), some (.int p2), some (.int p3), none] (by decide +kernel) (Nat.le_of_ble_eq_true rfl) (by intro v hv; simp only [List.mem_cons, List.not_mem_nil, or_false] at hv; rcases hv with rfl | rfl | rfl | rfl <;> rfl) rfl (hb_pad [.ref (G.2.2.2 k), .int p1, .int p2, .int p3] 1) (fun Γ X hr => wk_X2_bindPage X hr k hk p1 p2 p3 σ h rfl)
def fn_X5_isFlagSet (p0 : Int32) : Option Int32 :=
if p0 < 0 then (
some 0)
else (
if 32 ≤ p0 then (
some 0)
else (
some 1))
set_option maxRecDepth 100000 in
set_option maxHeartbeats 4000000 in
theorem wk_X5_isFlagSet {Γ : hb_Ctx} {G : hb_Gam} {Q : State → Prop} (X : hb_X Γ cX5_isFlagSet 1 RX5 ΛC G 0 0) (hr : hb_ret Γ = (some .boolean)) (p0 : Int32) (σ : hb_Mem) {x : Int32} (h : fn_X5_isFlagSet p0 = some x) (K : Q = hb_Q Γ ΛC G (some (.int x)) σ) : hb_W Γ ΛC G 1 Q σ [some (.int p0)] [] 0 := by
  unfold fn_X5_isFlagSet at h
  refine ww_iload_n 1 X dX5_isFlagSet_0 rfl rfl ?_
  refine ww_if_lt 14 4 X dX5_isFlagSet_1 (by decide) rfl h (fun h => ?_) (fun h => ?_)
  · skip
    refine ww_iconst (v := 0) 15 X dX5_isFlagSet_14 rfl (by decide) ?_
    obtain rfl := Option.some.inj h
    exact ww_ret_z X hr (by decide) K dX5_isFlagSet_15
  · skip
    refine ww_iload_n 5 X dX5_isFlagSet_4 rfl rfl ?_
    refine ww_bipush (v := 32) 7 X dX5_isFlagSet_5 rfl (by decide) ?_
    refine ww_icmp_ge 14 10 X dX5_isFlagSet_7 (by decide) rfl h (fun h => ?_) (fun h => ?_)
    · skip
      refine ww_iconst (v := 0) 15 X dX5_isFlagSet_14 rfl (by decide) ?_
      obtain rfl := Option.some.inj h
      exact ww_ret_z X hr (by decide) K dX5_isFlagSet_15
    · skip
      refine ww_iconst (v := 1) 11 X dX5_isFlagSet_10 rfl (by decide) ?_
      refine ww_goto 15 X dX5_isFlagSet_11 (by decide) ?_
      obtain rfl := Option.some.inj h
      exact ww_ret_z X hr (by decide) K dX5_isFlagSet_15
theorem ct_X5_isFlagSet (l : Launch) (G : hb_Gam) (p0 : Int32) (σ : hb_Mem) {x : Int32} (h : fn_X5_isFlagSet p0 = some x) : hb_C l yX5_isFlagSet cX5_isFlagSet 1 (some .boolean) 0 0 ΛC G [.int p0] σ (some (.int x)) σ :=
  hb_C.of [some (.int p0)] (by decide +kernel) (Nat.le_of_ble_eq_true rfl) (by intro v hv; simp only [List.mem_cons, List.not_mem_nil, or_false] at hv; subst hv; rfl) rfl (hb_pad [.int p0] 0) (fun Γ X hr => wk_X5_isFlagSet X hr p0 σ h rfl)
def fn_X2_errorOfChoice (k : Nat) (p1 : Int32) (p2 : Int32) (p3 : Int32) (p4 : Int32) (σ : hb_Mem) : Option Int32 :=
(fn_X2_hasPage k p1 σ).bind fun x1 =>
if x1 = 0 then (
some (-1))
else (
(fn_X2_hasPage k p2 σ).bind fun x2 =>
if x2 = 0 then (
some (-1))
else (
(fn_X5_isFlagSet p3).bind fun x3 =>
if x3 = 0 then (
some (-2))
else (
(fn_X5_isFlagSet p4).bind fun x4 =>
if x4 = 0 then (
some (-2))
else (
(fn_X1_at (hc_rf k 4) p1 σ).bind fun x5 =>
if x5 < 3 then (
some 0)
else (
some (-3))))))
set_option maxRecDepth 100000 in
set_option maxHeartbeats 4000000 in
theorem wk_X2_errorOfChoice {Γ : hb_Ctx} {G : hb_Gam} {Q : State → Prop} (X : hb_X Γ cX2_errorOfChoice 5 RX2 ΛC G 1 21) (hr : hb_ret Γ = (some .int)) (k : Nat) (hk : hb_is ΛC k 2) (p1 : Int32) (p2 : Int32) (p3 : Int32) (p4 : Int32) (σ : hb_Mem) {x : Int32} (h : fn_X2_errorOfChoice k p1 p2 p3 p4 σ = some x) (K : Q = hb_Q Γ ΛC G (some (.int x)) σ) : hb_W Γ ΛC G 5 Q σ [some (.ref (G.2.2.2 k)), some (.int p1), some (.int p2), some (.int p3), some (.int p4)] [] 0 := by
  unfold fn_X2_errorOfChoice at h
  refine ww_aload_n 1 X dX2_errorOfChoice_0 rfl rfl ?_
  refine ww_iload_n 2 X dX2_errorOfChoice_1 rfl rfl ?_
  obtain ⟨x1, hx1, h⟩ := hb_bind_of h
  refine ww_callV (ci := 2) (rest := []) (st' := [.int x1]) 5 X (ct_X2_hasPage (hb_l Γ) G k hk p1 σ hx1) cw_X2_58 rfl (by decide) hk rfl ⟨by decide, by decide⟩ (Nat.le_of_ble_eq_true rfl) rfl rfl dX2_errorOfChoice_2 rfl ?_
  refine ww_if_eq 16 8 X dX2_errorOfChoice_5 (by decide) rfl h (fun h => ?_) (fun h => ?_)
  · skip
    refine ww_iconst (v := (-1)) 17 X dX2_errorOfChoice_16 rfl (by decide) ?_
    obtain rfl := Option.some.inj h
    exact ww_ret_i X hr K dX2_errorOfChoice_17
  · skip
    refine ww_aload_n 9 X dX2_errorOfChoice_8 rfl rfl ?_
    refine ww_iload_n 10 X dX2_errorOfChoice_9 rfl rfl ?_
    obtain ⟨x2, hx2, h⟩ := hb_bind_of h
    refine ww_callV (ci := 2) (rest := []) (st' := [.int x2]) 13 X (ct_X2_hasPage (hb_l Γ) G k hk p2 σ hx2) cw_X2_58 rfl (by decide) hk rfl ⟨by decide, by decide⟩ (Nat.le_of_ble_eq_true rfl) rfl rfl dX2_errorOfChoice_10 rfl ?_
    refine ww_if_ne 18 16 X dX2_errorOfChoice_13 (by decide) rfl h (fun h => ?_) (fun h => ?_)
    · skip
      refine ww_iconst (v := (-1)) 17 X dX2_errorOfChoice_16 rfl (by decide) ?_
      obtain rfl := Option.some.inj h
      exact ww_ret_i X hr K dX2_errorOfChoice_17
    · skip
      refine ww_iload_n 19 X dX2_errorOfChoice_18 rfl rfl ?_
      obtain ⟨x3, hx3, h⟩ := hb_bind_of h
      refine ww_callSN (rest := []) (st' := [.int x3]) 22 X (ct_X5_isFlagSet (hb_l Γ) G p3 σ hx3) cw_X2_70 rfl ⟨by decide, by decide⟩ (Nat.le_of_ble_eq_true rfl) rfl rfl dX2_errorOfChoice_19 rfl ?_
      refine ww_if_eq 33 25 X dX2_errorOfChoice_22 (by decide) rfl h (fun h => ?_) (fun h => ?_)
      · skip
        refine ww_bipush (v := (-2)) 35 X dX2_errorOfChoice_33 rfl (by decide) ?_
        obtain rfl := Option.some.inj h
        exact ww_ret_i X hr K dX2_errorOfChoice_35
      · skip
        refine ww_iload 27 X dX2_errorOfChoice_25 rfl rfl ?_
        obtain ⟨x4, hx4, h⟩ := hb_bind_of h
        refine ww_callSN (rest := []) (st' := [.int x4]) 30 X (ct_X5_isFlagSet (hb_l Γ) G p4 σ hx4) cw_X2_70 rfl ⟨by decide, by decide⟩ (Nat.le_of_ble_eq_true rfl) rfl rfl dX2_errorOfChoice_27 rfl ?_
        refine ww_if_ne 36 33 X dX2_errorOfChoice_30 (by decide) rfl h (fun h => ?_) (fun h => ?_)
        · skip
          refine ww_bipush (v := (-2)) 35 X dX2_errorOfChoice_33 rfl (by decide) ?_
          obtain rfl := Option.some.inj h
          exact ww_ret_i X hr K dX2_errorOfChoice_35
        · skip
          refine ww_aload_n 37 X dX2_errorOfChoice_36 rfl rfl ?_
          refine ww_getr (ci := 2) (j := 4) 40 X cf_2 tw_X2_30 (by decide) rfl hk dX2_errorOfChoice_37 rfl ?_
          refine ww_iload_n 41 X dX2_errorOfChoice_40 rfl rfl ?_
          obtain ⟨x5, hx5, h⟩ := hb_bind_of h
          refine ww_callV (ci := 1) (rest := []) (st' := [.int x5]) 44 X (ct_X1_at (hb_l Γ) G (hc_rf k 4) (hc_kr_2_4 hk) p1 σ hx5) cw_X2_62 rfl (by decide) (hc_kr_2_4 hk) rfl ⟨by decide, by decide⟩ (Nat.le_of_ble_eq_true rfl) rfl rfl dX2_errorOfChoice_41 rfl ?_
          refine ww_iconst (v := 3) 45 X dX2_errorOfChoice_44 rfl (by decide) ?_
          refine ww_icmp_lt 53 48 X dX2_errorOfChoice_45 (by decide) rfl h (fun h => ?_) (fun h => ?_)
          · skip
            refine ww_iconst (v := 0) 54 X dX2_errorOfChoice_53 rfl (by decide) ?_
            obtain rfl := Option.some.inj h
            exact ww_ret_i X hr K dX2_errorOfChoice_54
          · skip
            refine ww_bipush (v := (-3)) 50 X dX2_errorOfChoice_48 rfl (by decide) ?_
            refine ww_goto 54 X dX2_errorOfChoice_50 (by decide) ?_
            obtain rfl := Option.some.inj h
            exact ww_ret_i X hr K dX2_errorOfChoice_54
theorem ct_X2_errorOfChoice (l : Launch) (G : hb_Gam) (k : Nat) (hk : hb_is ΛC k 2) (p1 : Int32) (p2 : Int32) (p3 : Int32) (p4 : Int32) (σ : hb_Mem) {x : Int32} (h : fn_X2_errorOfChoice k p1 p2 p3 p4 σ = some x) : hb_C l yX2_errorOfChoice cX2_errorOfChoice 5 (some .int) 1 21 ΛC G [.ref (G.2.2.2 k), .int p1, .int p2, .int p3, .int p4] σ (some (.int x)) σ :=
  hb_C.of [some (.ref (G.2.2.2 k)), some (.int p1), some (.int p2), some (.int p3), some (.int p4)] (by decide +kernel) (Nat.le_of_ble_eq_true rfl) (by intro v hv; simp only [List.mem_cons, List.not_mem_nil, or_false] at hv; rcases hv with rfl | rfl | rfl | rfl | rfl <;> rfl) rfl (hb_pad [.ref (G.2.2.2 k), .int p1, .int p2, .int p3, .int p4] 0) (fun Γ X hr => wk_X2_errorOfChoice X hr k hk p1 p2 p3 p4 σ h rfl)
def fn_X5_slotOf (p0 : Int32) (p1 : Int32) : Option Int32 :=
some ((p0 * 3) + p1)
set_option maxRecDepth 100000 in
set_option maxHeartbeats 4000000 in
theorem wk_X5_slotOf {Γ : hb_Ctx} {G : hb_Gam} {Q : State → Prop} (X : hb_X Γ cX5_slotOf 2 RX5 ΛC G 0 0) (hr : hb_ret Γ = (some .int)) (p0 : Int32) (p1 : Int32) (σ : hb_Mem) {x : Int32} (h : fn_X5_slotOf p0 p1 = some x) (K : Q = hb_Q Γ ΛC G (some (.int x)) σ) : hb_W Γ ΛC G 2 Q σ [some (.int p0), some (.int p1)] [] 0 := by
  unfold fn_X5_slotOf at h
  refine ww_iload_n 1 X dX5_slotOf_0 rfl rfl ?_
  refine ww_iconst (v := 3) 2 X dX5_slotOf_1 rfl (by decide) ?_
  refine ww_imul 3 X dX5_slotOf_2 rfl ?_
  refine ww_iload_n 4 X dX5_slotOf_3 rfl rfl ?_
  refine ww_iadd 5 X dX5_slotOf_4 rfl ?_
  obtain rfl := Option.some.inj h
  exact ww_ret_i X hr K dX5_slotOf_5
theorem ct_X5_slotOf (l : Launch) (G : hb_Gam) (p0 : Int32) (p1 : Int32) (σ : hb_Mem) {x : Int32} (h : fn_X5_slotOf p0 p1 = some x) : hb_C l yX5_slotOf cX5_slotOf 2 (some .int) 0 0 ΛC G [.int p0, .int p1] σ (some (.int x)) σ :=
  hb_C.of [some (.int p0), some (.int p1)] (by decide +kernel) (Nat.le_of_ble_eq_true rfl) (by intro v hv; simp only [List.mem_cons, List.not_mem_nil, or_false] at hv; rcases hv with rfl | rfl <;> rfl) rfl (hb_pad [.int p0, .int p1] 0) (fun Γ X hr => wk_X5_slotOf X hr p0 p1 σ h rfl)
def fn_X2_appendChoice (k : Nat) (p1 : Int32) (p2 : Int32) (p3 : Int32) (p4 : Int32) (σ : hb_Mem) : Option (Int32 × hb_Mem) :=
(fn_X1_at (hc_rf k 4) p1 σ).bind fun x1 =>
(fn_X5_slotOf p1 x1).bind fun x2 =>
(fn_X1_put (hc_rf k 5) x2 p2 σ).bind fun x3 =>
(fn_X1_put (hc_rf k 6) x2 p3 x3).bind fun x4 =>
(fn_X1_put (hc_rf k 7) x2 p4 x4).bind fun x5 =>
(fn_X1_put (hc_rf k 4) p1 (x1 + 1) x5).bind fun x6 =>
some (x1, x6)
set_option maxRecDepth 100000 in
set_option maxHeartbeats 4000000 in
theorem wk_X2_appendChoice {Γ : hb_Ctx} {G : hb_Gam} {Q : State → Prop} (X : hb_X Γ cX2_appendChoice 7 RX2 ΛC G 1 22) (hr : hb_ret Γ = (some .int)) (k : Nat) (hk : hb_is ΛC k 2) (p1 : Int32) (p2 : Int32) (p3 : Int32) (p4 : Int32) (σ : hb_Mem) {x : (Int32 × hb_Mem)} (h : fn_X2_appendChoice k p1 p2 p3 p4 σ = some x) (K : Q = hb_Q Γ ΛC G (some (.int x.1)) x.2) : hb_W Γ ΛC G 7 Q σ [some (.ref (G.2.2.2 k)), some (.int p1), some (.int p2), some (.int p3), some (.int p4), none, none] [] 0 := by
  unfold fn_X2_appendChoice at h
  refine ww_aload_n 1 X dX2_appendChoice_0 rfl rfl ?_
  refine ww_getr (ci := 2) (j := 4) 4 X cf_2 tw_X2_30 (by decide) rfl hk dX2_appendChoice_1 rfl ?_
  refine ww_iload_n 5 X dX2_appendChoice_4 rfl rfl ?_
  obtain ⟨x1, hx1, h⟩ := hb_bind_of h
  refine ww_callV (ci := 1) (rest := []) (st' := [.int x1]) 8 X (ct_X1_at (hb_l Γ) G (hc_rf k 4) (hc_kr_2_4 hk) p1 σ hx1) cw_X2_62 rfl (by decide) (hc_kr_2_4 hk) rfl ⟨by decide, by decide⟩ (Nat.le_of_ble_eq_true rfl) rfl rfl dX2_appendChoice_5 rfl ?_
  refine ww_istore 10 X (L' := [some (.ref (G.2.2.2 k)), some (.int p1), some (.int p2), some (.int p3), some (.int p4), some (.int x1), none]) dX2_appendChoice_8 rfl (Nat.le_of_ble_eq_true rfl) rfl ?_
  refine ww_iload_n 11 X dX2_appendChoice_10 rfl rfl ?_
  refine ww_iload 13 X dX2_appendChoice_11 rfl rfl ?_
  obtain ⟨x2, hx2, h⟩ := hb_bind_of h
  refine ww_callSN (rest := []) (st' := [.int x2]) 16 X (ct_X5_slotOf (hb_l Γ) G p1 x1 σ hx2) cw_X2_73 rfl ⟨by decide, by decide⟩ (Nat.le_of_ble_eq_true rfl) rfl rfl dX2_appendChoice_13 rfl ?_
  refine ww_istore 18 X (L' := [some (.ref (G.2.2.2 k)), some (.int p1), some (.int p2), some (.int p3), some (.int p4), some (.int x1), some (.int x2)]) dX2_appendChoice_16 rfl (Nat.le_of_ble_eq_true rfl) rfl ?_
  refine ww_aload_n 19 X dX2_appendChoice_18 rfl rfl ?_
  refine ww_getr (ci := 2) (j := 5) 22 X cf_2 tw_X2_33 (by decide) rfl hk dX2_appendChoice_19 rfl ?_
  refine ww_iload 24 X dX2_appendChoice_22 rfl rfl ?_
  refine ww_iload_n 25 X dX2_appendChoice_24 rfl rfl ?_
  obtain ⟨x3, hx3, h⟩ := hb_bind_of h
  refine ww_callV (ci := 1) (rest := []) (st' := []) 28 X (ct_X1_put (hb_l Γ) G (hc_rf k 5) (hc_kr_2_5 hk) x2 p2 σ hx3) cw_X2_66 rfl (by decide) (hc_kr_2_5 hk) rfl ⟨by decide, by decide⟩ (Nat.le_of_ble_eq_true rfl) rfl rfl dX2_appendChoice_25 rfl ?_
  refine ww_aload_n 29 X dX2_appendChoice_28 rfl rfl ?_
  refine ww_getr (ci := 2) (j := 6) 32 X cf_2 tw_X2_36 (by decide) rfl hk dX2_appendChoice_29 rfl ?_
  refine ww_iload 34 X dX2_appendChoice_32 rfl rfl ?_
  refine ww_iload_n 35 X dX2_appendChoice_34 rfl rfl ?_
  obtain ⟨x4, hx4, h⟩ := hb_bind_of h
  refine ww_callV (ci := 1) (rest := []) (st' := []) 38 X (ct_X1_put (hb_l Γ) G (hc_rf k 6) (hc_kr_2_6 hk) x2 p3 x3 hx4) cw_X2_66 rfl (by decide) (hc_kr_2_6 hk) rfl ⟨by decide, by decide⟩ (Nat.le_of_ble_eq_true rfl) rfl rfl dX2_appendChoice_35 rfl ?_
  refine ww_aload_n 39 X dX2_appendChoice_38 rfl rfl ?_
  refine ww_getr (ci := 2) (j := 7) 42 X cf_2 tw_X2_39 (by decide) rfl hk dX2_appendChoice_39 rfl ?_
  refine ww_iload 44 X dX2_appendChoice_42 rfl rfl ?_
  refine ww_iload 46 X dX2_appendChoice_44 rfl rfl ?_
  obtain ⟨x5, hx5, h⟩ := hb_bind_of h
  refine ww_callV (ci := 1) (rest := []) (st' := []) 49 X (ct_X1_put (hb_l Γ) G (hc_rf k 7) (hc_kr_2_7 hk) x2 p4 x4 hx5) cw_X2_66 rfl (by decide) (hc_kr_2_7 hk) rfl ⟨by decide, by decide⟩ (Nat.le_of_ble_eq_true rfl) rfl rfl dX2_appendChoice_46 rfl ?_
  refine ww_aload_n 50 X dX2_appendChoice_49 rfl rfl ?_
  refine ww_getr (ci := 2) (j := 4) 53 X cf_2 tw_X2_30 (by decide) rfl hk dX2_appendChoice_50 rfl ?_
  refine ww_iload_n 54 X dX2_appendChoice_53 rfl rfl ?_
  refine ww_iload 56 X dX2_appendChoice_54 rfl rfl ?_
  refine ww_iconst (v := 1) 57 X dX2_appendChoice_56 rfl (by decide) ?_
  refine ww_iadd 58 X dX2_appendChoice_57 rfl ?_
  obtain ⟨x6, hx6, h⟩ := hb_bind_of h
  refine ww_callV (ci := 1) (rest := []) (st' := []) 61 X (ct_X1_put (hb_l Γ) G (hc_rf k 4) (hc_kr_2_4 hk) p1 (x1 + 1) x5 hx6) cw_X2_66 rfl (by decide) (hc_kr_2_4 hk) rfl ⟨by decide, by decide⟩ (Nat.le_of_ble_eq_true rfl) rfl rfl dX2_appendChoice_58 rfl ?_
  refine ww_iload 63 X dX2_appendChoice_61 rfl rfl ?_
  obtain rfl := Option.some.inj h
  exact ww_ret_i X hr K dX2_appendChoice_63
theorem ct_X2_appendChoice (l : Launch) (G : hb_Gam) (k : Nat) (hk : hb_is ΛC k 2) (p1 : Int32) (p2 : Int32) (p3 : Int32) (p4 : Int32) (σ : hb_Mem) {x : (Int32 × hb_Mem)} (h : fn_X2_appendChoice k p1 p2 p3 p4 σ = some x) : hb_C l yX2_appendChoice cX2_appendChoice 7 (some .int) 1 22 ΛC G [.ref (G.2.2.2 k), .int p1, .int p2, .int p3, .int p4] σ (some (.int x.1)) x.2 :=
  hb_C.of [some (.ref (G.2.2.2 k)), some (.int p1), some (.int p2), some (.int p3), some (.int p4), none, none] (by decide +kernel) (Nat.le_of_ble_eq_true rfl) (by intro v hv; simp only [List.mem_cons, List.not_mem_nil, or_false] at hv; rcases hv with rfl | rfl | rfl | rfl | rfl <;> rfl) rfl (hb_pad [.ref (G.2.2.2 k), .int p1, .int p2, .int p3, .int p4] 2) (fun Γ X hr => wk_X2_appendChoice X hr k hk p1 p2 p3 p4 σ h rfl)
def lb_X2_removeChoice_28 (k : Nat) (p1 : Int32) (p2 : Int32) (i3 : Int32) (i4 : Int32) (w5 : Int32) (σ : hb_Mem) : Option ((Int32 × hb_Mem) ⊕ hb_Mem) :=
if i4 ≤ w5 then (
some (.inr σ))
else (
if 3 ≤ w5 then (
some (.inr σ))
else (
(fn_X5_slotOf p1 w5).bind fun x5 =>
(fn_X1_at (hc_rf k 5) (x5 + 1) σ).bind fun x6 =>
(fn_X1_put (hc_rf k 5) x5 x6 σ).bind fun x7 =>
(fn_X1_at (hc_rf k 6) (x5 + 1) x7).bind fun x8 =>
(fn_X1_put (hc_rf k 6) x5 x8 x7).bind fun x9 =>
(fn_X1_at (hc_rf k 7) (x5 + 1) x9).bind fun x10 =>
(fn_X1_put (hc_rf k 7) x5 x10 x9).bind fun x11 =>
hb_nm (w5 + 1) fun v12 =>
some (.inl (v12, x11))))
set_option maxRecDepth 100000 in
set_option maxHeartbeats 4000000 in
theorem lk_X2_removeChoice_28 {Γ : hb_Ctx} {G : hb_Gam} {Q : State → Prop} (X : hb_X Γ cX2_removeChoice 7 RX2 ΛC G 1 22)  (k : Nat) (hk : hb_is ΛC k 2) (p1 : Int32) (p2 : Int32) (i3 : Int32) (i4 : Int32) (w5 : Int32) (σ : hb_Mem) {x : ((Int32 × hb_Mem) ⊕ hb_Mem)} (h : lb_X2_removeChoice_28 k p1 p2 i3 i4 w5 σ = some x) (K : Sum.elim (fun s : (Int32 × hb_Mem) => hb_W Γ ΛC G 7 Q s.2 [some (.ref (G.2.2.2 k)), some (.int p1), none, some (.int i3), some (.int i4), some (.int s.1), none] [] 28) (fun t : hb_Mem => hb_W Γ ΛC G 7 Q t [some (.ref (G.2.2.2 k)), some (.int p1), none, some (.int i3), some (.int i4), none, none] [] 115) x) : hb_W Γ ΛC G 7 Q σ [some (.ref (G.2.2.2 k)), some (.int p1), none, some (.int i3), some (.int i4), some (.int w5), none] [] 28 := by
  unfold lb_X2_removeChoice_28 at h
  refine ww_iload 30 X dX2_removeChoice_28 rfl rfl ?_
  refine ww_iload 32 X dX2_removeChoice_30 rfl rfl ?_
  refine ww_icmp_ge 115 35 X dX2_removeChoice_32 (by decide) rfl h (fun h => ?_) (fun h => ?_)
  · skip
    obtain rfl := Option.some.inj h
    refine ww_kill [5] (L' := [some (.ref (G.2.2.2 k)), some (.int p1), none, some (.int i3), some (.int i4), none, none]) rfl ?_
    exact K
  · skip
    refine ww_iload 37 X dX2_removeChoice_35 rfl rfl ?_
    refine ww_iconst (v := 3) 38 X dX2_removeChoice_37 rfl (by decide) ?_
    refine ww_icmp_ge 115 41 X dX2_removeChoice_38 (by decide) rfl h (fun h => ?_) (fun h => ?_)
    · skip
      obtain rfl := Option.some.inj h
      refine ww_kill [5] (L' := [some (.ref (G.2.2.2 k)), some (.int p1), none, some (.int i3), some (.int i4), none, none]) rfl ?_
      exact K
    · skip
      refine ww_iload_n 42 X dX2_removeChoice_41 rfl rfl ?_
      refine ww_iload 44 X dX2_removeChoice_42 rfl rfl ?_
      obtain ⟨x5, hx5, h⟩ := hb_bind_of h
      refine ww_callSN (rest := []) (st' := [.int x5]) 47 X (ct_X5_slotOf (hb_l Γ) G p1 w5 σ hx5) cw_X2_73 rfl ⟨by decide, by decide⟩ (Nat.le_of_ble_eq_true rfl) rfl rfl dX2_removeChoice_44 rfl ?_
      refine ww_istore 49 X (L' := [some (.ref (G.2.2.2 k)), some (.int p1), none, some (.int i3), some (.int i4), some (.int w5), some (.int x5)]) dX2_removeChoice_47 rfl (Nat.le_of_ble_eq_true rfl) rfl ?_
      refine ww_aload_n 50 X dX2_removeChoice_49 rfl rfl ?_
      refine ww_getr (ci := 2) (j := 5) 53 X cf_2 tw_X2_33 (by decide) rfl hk dX2_removeChoice_50 rfl ?_
      refine ww_iload 55 X dX2_removeChoice_53 rfl rfl ?_
      refine ww_aload_n 56 X dX2_removeChoice_55 rfl rfl ?_
      refine ww_getr (ci := 2) (j := 5) 59 X cf_2 tw_X2_33 (by decide) rfl hk dX2_removeChoice_56 rfl ?_
      refine ww_iload 61 X dX2_removeChoice_59 rfl rfl ?_
      refine ww_iconst (v := 1) 62 X dX2_removeChoice_61 rfl (by decide) ?_
      refine ww_iadd 63 X dX2_removeChoice_62 rfl ?_
      obtain ⟨x6, hx6, h⟩ := hb_bind_of h
      refine ww_callV (ci := 1) (rest := [.int x5, .ref (G.2.2.2 (hc_rf k 5))]) (st' := [.int x6, .int x5, .ref (G.2.2.2 (hc_rf k 5))]) 66 X (ct_X1_at (hb_l Γ) G (hc_rf k 5) (hc_kr_2_5 hk) (x5 + 1) σ hx6) cw_X2_62 rfl (by decide) (hc_kr_2_5 hk) rfl ⟨by decide, by decide⟩ (Nat.le_of_ble_eq_true rfl) rfl rfl dX2_removeChoice_63 rfl ?_
      obtain ⟨x7, hx7, h⟩ := hb_bind_of h
      refine ww_callV (ci := 1) (rest := []) (st' := []) 69 X (ct_X1_put (hb_l Γ) G (hc_rf k 5) (hc_kr_2_5 hk) x5 x6 σ hx7) cw_X2_66 rfl (by decide) (hc_kr_2_5 hk) rfl ⟨by decide, by decide⟩ (Nat.le_of_ble_eq_true rfl) rfl rfl dX2_removeChoice_66 rfl ?_
      refine ww_aload_n 70 X dX2_removeChoice_69 rfl rfl ?_
      refine ww_getr (ci := 2) (j := 6) 73 X cf_2 tw_X2_36 (by decide) rfl hk dX2_removeChoice_70 rfl ?_
      refine ww_iload 75 X dX2_removeChoice_73 rfl rfl ?_
      refine ww_aload_n 76 X dX2_removeChoice_75 rfl rfl ?_
      refine ww_getr (ci := 2) (j := 6) 79 X cf_2 tw_X2_36 (by decide) rfl hk dX2_removeChoice_76 rfl ?_
      refine ww_iload 81 X dX2_removeChoice_79 rfl rfl ?_
      refine ww_iconst (v := 1) 82 X dX2_removeChoice_81 rfl (by decide) ?_
      refine ww_iadd 83 X dX2_removeChoice_82 rfl ?_
      obtain ⟨x8, hx8, h⟩ := hb_bind_of h
      refine ww_callV (ci := 1) (rest := [.int x5, .ref (G.2.2.2 (hc_rf k 6))]) (st' := [.int x8, .int x5, .ref (G.2.2.2 (hc_rf k 6))]) 86 X (ct_X1_at (hb_l Γ) G (hc_rf k 6) (hc_kr_2_6 hk) (x5 + 1) x7 hx8) cw_X2_62 rfl (by decide) (hc_kr_2_6 hk) rfl ⟨by decide, by decide⟩ (Nat.le_of_ble_eq_true rfl) rfl rfl dX2_removeChoice_83 rfl ?_
      obtain ⟨x9, hx9, h⟩ := hb_bind_of h
      refine ww_callV (ci := 1) (rest := []) (st' := []) 89 X (ct_X1_put (hb_l Γ) G (hc_rf k 6) (hc_kr_2_6 hk) x5 x8 x7 hx9) cw_X2_66 rfl (by decide) (hc_kr_2_6 hk) rfl ⟨by decide, by decide⟩ (Nat.le_of_ble_eq_true rfl) rfl rfl dX2_removeChoice_86 rfl ?_
      refine ww_aload_n 90 X dX2_removeChoice_89 rfl rfl ?_
      refine ww_getr (ci := 2) (j := 7) 93 X cf_2 tw_X2_39 (by decide) rfl hk dX2_removeChoice_90 rfl ?_
      refine ww_iload 95 X dX2_removeChoice_93 rfl rfl ?_
      refine ww_aload_n 96 X dX2_removeChoice_95 rfl rfl ?_
      refine ww_getr (ci := 2) (j := 7) 99 X cf_2 tw_X2_39 (by decide) rfl hk dX2_removeChoice_96 rfl ?_
      refine ww_iload 101 X dX2_removeChoice_99 rfl rfl ?_
      refine ww_iconst (v := 1) 102 X dX2_removeChoice_101 rfl (by decide) ?_
      refine ww_iadd 103 X dX2_removeChoice_102 rfl ?_
      obtain ⟨x10, hx10, h⟩ := hb_bind_of h
      refine ww_callV (ci := 1) (rest := [.int x5, .ref (G.2.2.2 (hc_rf k 7))]) (st' := [.int x10, .int x5, .ref (G.2.2.2 (hc_rf k 7))]) 106 X (ct_X1_at (hb_l Γ) G (hc_rf k 7) (hc_kr_2_7 hk) (x5 + 1) x9 hx10) cw_X2_62 rfl (by decide) (hc_kr_2_7 hk) rfl ⟨by decide, by decide⟩ (Nat.le_of_ble_eq_true rfl) rfl rfl dX2_removeChoice_103 rfl ?_
      obtain ⟨x11, hx11, h⟩ := hb_bind_of h
      refine ww_callV (ci := 1) (rest := []) (st' := []) 109 X (ct_X1_put (hb_l Γ) G (hc_rf k 7) (hc_kr_2_7 hk) x5 x10 x9 hx11) cw_X2_66 rfl (by decide) (hc_kr_2_7 hk) rfl ⟨by decide, by decide⟩ (Nat.le_of_ble_eq_true rfl) rfl rfl dX2_removeChoice_106 rfl ?_
      obtain ⟨v12, ev12, h⟩ := hb_nm_of h
      refine ww_iinc 112 X (L' := [some (.ref (G.2.2.2 k)), some (.int p1), none, some (.int i3), some (.int i4), some (.int v12), some (.int x5)]) dX2_removeChoice_109 rfl rfl ev12.symm rfl ?_
      refine ww_goto 28 X dX2_removeChoice_112 (by decide) ?_
      obtain rfl := Option.some.inj h
      refine ww_kill [6] (L' := [some (.ref (G.2.2.2 k)), some (.int p1), none, some (.int i3), some (.int i4), some (.int v12), none]) rfl ?_
      exact K
def ll_X2_removeChoice_28 (k : Nat) (p1 : Int32) (p2 : Int32) (i3 : Int32) (i4 : Int32) : (Int32 × hb_Mem) → Option hb_Mem := hb_lp (fun s => lb_X2_removeChoice_28 k p1 p2 i3 i4 s.1 s.2) hb_F
theorem lw_X2_removeChoice_28 {Γ : hb_Ctx} {G : hb_Gam} {Q : State → Prop} (X : hb_X Γ cX2_removeChoice 7 RX2 ΛC G 1 22)  (k : Nat) (hk : hb_is ΛC k 2) (p1 : Int32) (p2 : Int32) (i3 : Int32) (i4 : Int32) (s : (Int32 × hb_Mem)) (t : hb_Mem) (h : ll_X2_removeChoice_28 k p1 p2 i3 i4 s = some t) (K : (fun t : hb_Mem => hb_W Γ ΛC G 7 Q t [some (.ref (G.2.2.2 k)), some (.int p1), none, some (.int i3), some (.int i4), none, none] [] 115) t) : hb_W Γ ΛC G 7 Q s.2 [some (.ref (G.2.2.2 k)), some (.int p1), none, some (.int i3), some (.int i4), some (.int s.1), none] [] 28 :=
  hb_lp_w (P := fun s : (Int32 × hb_Mem) => hb_W Γ ΛC G 7 Q s.2 [some (.ref (G.2.2.2 k)), some (.int p1), none, some (.int i3), some (.int i4), some (.int s.1), none] [] 28) (E := (fun t : hb_Mem => hb_W Γ ΛC G 7 Q t [some (.ref (G.2.2.2 k)), some (.int p1), none, some (.int i3), some (.int i4), none, none] [] 115)) (fun s x hx K => lk_X2_removeChoice_28 X k hk p1 p2 i3 i4 s.1 s.2 hx K) _ s t h K
def jn_X2_removeChoice_115 (k : Nat) (p1 : Int32) (p2 : Int32) (j3 : Int32) (j4 : Int32) (σ : hb_Mem) : Option (Int32 × hb_Mem) :=
(fn_X1_put (hc_rf k 4) p1 j4 σ).bind fun x14 =>
some (j3, x14)
set_option maxRecDepth 100000 in
set_option maxHeartbeats 4000000 in
theorem jw_X2_removeChoice_115 {Γ : hb_Ctx} {G : hb_Gam} {Q : State → Prop} (X : hb_X Γ cX2_removeChoice 7 RX2 ΛC G 1 22) (hr : hb_ret Γ = (some .int)) (k : Nat) (hk : hb_is ΛC k 2) (p1 : Int32) (p2 : Int32) (j3 : Int32) (j4 : Int32) (σ : hb_Mem) {x : (Int32 × hb_Mem)} (h : jn_X2_removeChoice_115 k p1 p2 j3 j4 σ = some x) (K : Q = hb_Q Γ ΛC G (some (.int x.1)) x.2) : hb_W Γ ΛC G 7 Q σ [some (.ref (G.2.2.2 k)), some (.int p1), none, some (.int j3), some (.int j4), none, none] [] 115 := by
  unfold jn_X2_removeChoice_115 at h
  refine ww_aload_n 116 X dX2_removeChoice_115 rfl rfl ?_
  refine ww_getr (ci := 2) (j := 4) 119 X cf_2 tw_X2_30 (by decide) rfl hk dX2_removeChoice_116 rfl ?_
  refine ww_iload_n 120 X dX2_removeChoice_119 rfl rfl ?_
  refine ww_iload 122 X dX2_removeChoice_120 rfl rfl ?_
  obtain ⟨x14, hx14, h⟩ := hb_bind_of h
  refine ww_callV (ci := 1) (rest := []) (st' := []) 125 X (ct_X1_put (hb_l Γ) G (hc_rf k 4) (hc_kr_2_4 hk) p1 j4 σ hx14) cw_X2_66 rfl (by decide) (hc_kr_2_4 hk) rfl ⟨by decide, by decide⟩ (Nat.le_of_ble_eq_true rfl) rfl rfl dX2_removeChoice_122 rfl ?_
  refine ww_iload_n 126 X dX2_removeChoice_125 rfl rfl ?_
  obtain rfl := Option.some.inj h
  exact ww_ret_i X hr K dX2_removeChoice_126
def fn_X2_removeChoice (k : Nat) (p1 : Int32) (p2 : Int32) (σ : hb_Mem) : Option (Int32 × hb_Mem) :=
(fn_X5_slotOf p1 p2).bind fun x1 =>
(fn_X1_at (hc_rf k 5) x1 σ).bind fun x2 =>
(fn_X1_at (hc_rf k 4) p1 σ).bind fun x3 =>
hb_nm (x3 - 1) fun v4 =>
(ll_X2_removeChoice_28 k p1 p2 x2 v4 (p2, σ)).bind fun t13 =>
jn_X2_removeChoice_115 k p1 p2 x2 v4 t13
set_option maxRecDepth 100000 in
set_option maxHeartbeats 4000000 in
theorem wk_X2_removeChoice {Γ : hb_Ctx} {G : hb_Gam} {Q : State → Prop} (X : hb_X Γ cX2_removeChoice 7 RX2 ΛC G 1 22) (hr : hb_ret Γ = (some .int)) (k : Nat) (hk : hb_is ΛC k 2) (p1 : Int32) (p2 : Int32) (σ : hb_Mem) {x : (Int32 × hb_Mem)} (h : fn_X2_removeChoice k p1 p2 σ = some x) (K : Q = hb_Q Γ ΛC G (some (.int x.1)) x.2) : hb_W Γ ΛC G 7 Q σ [some (.ref (G.2.2.2 k)), some (.int p1), some (.int p2), none, none, none, none] [] 0 := by
  unfold fn_X2_removeChoice at h
  refine ww_aload_n 1 X dX2_removeChoice_0 rfl rfl ?_
  refine ww_getr (ci := 2) (j := 5) 4 X cf_2 tw_X2_33 (by decide) rfl hk dX2_removeChoice_1 rfl ?_
  refine ww_iload_n 5 X dX2_removeChoice_4 rfl rfl ?_
  refine ww_iload_n 6 X dX2_removeChoice_5 rfl rfl ?_
  obtain ⟨x1, hx1, h⟩ := hb_bind_of h
  refine ww_callSN (rest := [.ref (G.2.2.2 (hc_rf k 5))]) (st' := [.int x1, .ref (G.2.2.2 (hc_rf k 5))]) 9 X (ct_X5_slotOf (hb_l Γ) G p1 p2 σ hx1) cw_X2_73 rfl ⟨by decide, by decide⟩ (Nat.le_of_ble_eq_true rfl) rfl rfl dX2_removeChoice_6 rfl ?_
  obtain ⟨x2, hx2, h⟩ := hb_bind_of h
  refine ww_callV (ci := 1) (rest := []) (st' := [.int x2]) 12 X (ct_X1_at (hb_l Γ) G (hc_rf k 5) (hc_kr_2_5 hk) x1 σ hx2) cw_X2_62 rfl (by decide) (hc_kr_2_5 hk) rfl ⟨by decide, by decide⟩ (Nat.le_of_ble_eq_true rfl) rfl rfl dX2_removeChoice_9 rfl ?_
  refine ww_istore_n 13 X (L' := [some (.ref (G.2.2.2 k)), some (.int p1), some (.int p2), some (.int x2), none, none, none]) dX2_removeChoice_12 rfl (Nat.le_of_ble_eq_true rfl) rfl ?_
  refine ww_aload_n 14 X dX2_removeChoice_13 rfl rfl ?_
  refine ww_getr (ci := 2) (j := 4) 17 X cf_2 tw_X2_30 (by decide) rfl hk dX2_removeChoice_14 rfl ?_
  refine ww_iload_n 18 X dX2_removeChoice_17 rfl rfl ?_
  obtain ⟨x3, hx3, h⟩ := hb_bind_of h
  refine ww_callV (ci := 1) (rest := []) (st' := [.int x3]) 21 X (ct_X1_at (hb_l Γ) G (hc_rf k 4) (hc_kr_2_4 hk) p1 σ hx3) cw_X2_62 rfl (by decide) (hc_kr_2_4 hk) rfl ⟨by decide, by decide⟩ (Nat.le_of_ble_eq_true rfl) rfl rfl dX2_removeChoice_18 rfl ?_
  refine ww_iconst (v := 1) 22 X dX2_removeChoice_21 rfl (by decide) ?_
  refine ww_isub 23 X dX2_removeChoice_22 rfl ?_
  obtain ⟨v4, ev4, h⟩ := hb_nm_of h
  rw [← ev4]
  refine ww_istore 25 X (L' := [some (.ref (G.2.2.2 k)), some (.int p1), some (.int p2), some (.int x2), some (.int v4), none, none]) dX2_removeChoice_23 rfl (Nat.le_of_ble_eq_true rfl) rfl ?_
  refine ww_iload_n 26 X dX2_removeChoice_25 rfl rfl ?_
  refine ww_istore 28 X (L' := [some (.ref (G.2.2.2 k)), some (.int p1), some (.int p2), some (.int x2), some (.int v4), some (.int p2), none]) dX2_removeChoice_26 rfl (Nat.le_of_ble_eq_true rfl) rfl ?_
  obtain ⟨t13, ht13, h⟩ := hb_bind_of h
  refine ww_kill [2] (L' := [some (.ref (G.2.2.2 k)), some (.int p1), none, some (.int x2), some (.int v4), some (.int p2), none]) rfl ?_
  refine lw_X2_removeChoice_28 X k hk p1 p2 x2 v4 (p2, σ) t13 ht13 ?_
  exact jw_X2_removeChoice_115 X hr k hk p1 p2 x2 v4 t13 h K
theorem ct_X2_removeChoice (l : Launch) (G : hb_Gam) (k : Nat) (hk : hb_is ΛC k 2) (p1 : Int32) (p2 : Int32) (σ : hb_Mem) {x : (Int32 × hb_Mem)} (h : fn_X2_removeChoice k p1 p2 σ = some x) : hb_C l yX2_removeChoice cX2_removeChoice 7 (some .int) 1 22 ΛC G [.ref (G.2.2.2 k), .int p1, .int p2] σ (some (.int x.1)) x.2 :=
  hb_C.of [some (.ref (G.2.2.2 k)), some (.int p1), some (.int p2), none, none, none, none] (by decide +kernel) (Nat.le_of_ble_eq_true rfl) (by intro v hv; simp only [List.mem_cons, List.not_mem_nil, or_false] at hv; rcases hv with rfl | rfl | rfl <;> rfl) rfl (hb_pad [.ref (G.2.2.2 k), .int p1, .int p2] 4) (fun Γ X hr => wk_X2_removeChoice X hr k hk p1 p2 σ h rfl)
def fn_X2_renumbered (p0 : Int32) (p1 : Int32) (p2 : Int32) : Option Int32 :=
if p0 = p1 then (
some p2)
else (
if p0 = p2 then (
some p1)
else (
some p0))
set_option maxRecDepth 100000 in
set_option maxHeartbeats 4000000 in
theorem wk_X2_renumbered {Γ : hb_Ctx} {G : hb_Gam} {Q : State → Prop} (X : hb_X Γ cX2_renumbered 3 RX2 ΛC G 0 0) (hr : hb_ret Γ = (some .int)) (p0 : Int32) (p1 : Int32) (p2 : Int32) (σ : hb_Mem) {x : Int32} (h : fn_X2_renumbered p0 p1 p2 = some x) (K : Q = hb_Q Γ ΛC G (some (.int x)) σ) : hb_W Γ ΛC G 3 Q σ [some (.int p0), some (.int p1), some (.int p2)] [] 0 := by
  unfold fn_X2_renumbered at h
  refine ww_iload_n 1 X dX2_renumbered_0 rfl rfl ?_
  refine ww_iload_n 2 X dX2_renumbered_1 rfl rfl ?_
  refine ww_icmp_ne 7 5 X dX2_renumbered_2 (by decide) rfl h (fun h => ?_) (fun h => ?_)
  · skip
    refine ww_iload_n 6 X dX2_renumbered_5 rfl rfl ?_
    obtain rfl := Option.some.inj h
    exact ww_ret_i X hr K dX2_renumbered_6
  · skip
    refine ww_iload_n 8 X dX2_renumbered_7 rfl rfl ?_
    refine ww_iload_n 9 X dX2_renumbered_8 rfl rfl ?_
    refine ww_icmp_ne 16 12 X dX2_renumbered_9 (by decide) rfl h (fun h => ?_) (fun h => ?_)
    · skip
      refine ww_iload_n 13 X dX2_renumbered_12 rfl rfl ?_
      refine ww_goto 17 X dX2_renumbered_13 (by decide) ?_
      obtain rfl := Option.some.inj h
      exact ww_ret_i X hr K dX2_renumbered_17
    · skip
      refine ww_iload_n 17 X dX2_renumbered_16 rfl rfl ?_
      obtain rfl := Option.some.inj h
      exact ww_ret_i X hr K dX2_renumbered_17
theorem ct_X2_renumbered (l : Launch) (G : hb_Gam) (p0 : Int32) (p1 : Int32) (p2 : Int32) (σ : hb_Mem) {x : Int32} (h : fn_X2_renumbered p0 p1 p2 = some x) : hb_C l yX2_renumbered cX2_renumbered 3 (some .int) 0 0 ΛC G [.int p0, .int p1, .int p2] σ (some (.int x)) σ :=
  hb_C.of [some (.int p0), some (.int p1), some (.int p2)] (by decide +kernel) (Nat.le_of_ble_eq_true rfl) (by intro v hv; simp only [List.mem_cons, List.not_mem_nil, or_false] at hv; rcases hv with rfl | rfl | rfl <;> rfl) rfl (hb_pad [.int p0, .int p1, .int p2] 0) (fun Γ X hr => wk_X2_renumbered X hr p0 p1 p2 σ h rfl)
def fn_X5_pageAt (p0 : Int32) : Option Int32 :=
some (p0 >>> (5 &&& 31))
set_option maxRecDepth 100000 in
set_option maxHeartbeats 4000000 in
theorem wk_X5_pageAt {Γ : hb_Ctx} {G : hb_Gam} {Q : State → Prop} (X : hb_X Γ cX5_pageAt 1 RX5 ΛC G 0 0) (hr : hb_ret Γ = (some .int)) (p0 : Int32) (σ : hb_Mem) {x : Int32} (h : fn_X5_pageAt p0 = some x) (K : Q = hb_Q Γ ΛC G (some (.int x)) σ) : hb_W Γ ΛC G 1 Q σ [some (.int p0)] [] 0 := by
  unfold fn_X5_pageAt at h
  refine ww_iload_n 1 X dX5_pageAt_0 rfl rfl ?_
  refine ww_iconst (v := 5) 2 X dX5_pageAt_1 rfl (by decide) ?_
  refine ww_ishr 3 X dX5_pageAt_2 rfl ?_
  obtain rfl := Option.some.inj h
  exact ww_ret_i X hr K dX5_pageAt_3
theorem ct_X5_pageAt (l : Launch) (G : hb_Gam) (p0 : Int32) (σ : hb_Mem) {x : Int32} (h : fn_X5_pageAt p0 = some x) : hb_C l yX5_pageAt cX5_pageAt 1 (some .int) 0 0 ΛC G [.int p0] σ (some (.int x)) σ :=
  hb_C.of [some (.int p0)] (by decide +kernel) (Nat.le_of_ble_eq_true rfl) (by intro v hv; simp only [List.mem_cons, List.not_mem_nil, or_false] at hv; subst hv; rfl) rfl (hb_pad [.int p0] 0) (fun Γ X hr => wk_X5_pageAt X hr p0 σ h rfl)
def fn_X5_flagsAt (p0 : Int32) : Option Int32 :=
some (p0 &&& 31)
set_option maxRecDepth 100000 in
set_option maxHeartbeats 4000000 in
theorem wk_X5_flagsAt {Γ : hb_Ctx} {G : hb_Gam} {Q : State → Prop} (X : hb_X Γ cX5_flagsAt 1 RX5 ΛC G 0 0) (hr : hb_ret Γ = (some .int)) (p0 : Int32) (σ : hb_Mem) {x : Int32} (h : fn_X5_flagsAt p0 = some x) (K : Q = hb_Q Γ ΛC G (some (.int x)) σ) : hb_W Γ ΛC G 1 Q σ [some (.int p0)] [] 0 := by
  unfold fn_X5_flagsAt at h
  refine ww_iload_n 1 X dX5_flagsAt_0 rfl rfl ?_
  refine ww_bipush (v := 31) 3 X dX5_flagsAt_1 rfl (by decide) ?_
  refine ww_iand 4 X dX5_flagsAt_3 rfl ?_
  obtain rfl := Option.some.inj h
  exact ww_ret_i X hr K dX5_flagsAt_4
theorem ct_X5_flagsAt (l : Launch) (G : hb_Gam) (p0 : Int32) (σ : hb_Mem) {x : Int32} (h : fn_X5_flagsAt p0 = some x) : hb_C l yX5_flagsAt cX5_flagsAt 1 (some .int) 0 0 ΛC G [.int p0] σ (some (.int x)) σ :=
  hb_C.of [some (.int p0)] (by decide +kernel) (Nat.le_of_ble_eq_true rfl) (by intro v hv; simp only [List.mem_cons, List.not_mem_nil, or_false] at hv; subst hv; rfl) rfl (hb_pad [.int p0] 0) (fun Γ X hr => wk_X5_flagsAt X hr p0 σ h rfl)
def fn_X5_placeOf (p0 : Int32) (p1 : Int32) : Option Int32 :=
some ((p0 * 32) + p1)
set_option maxRecDepth 100000 in
set_option maxHeartbeats 4000000 in
theorem wk_X5_placeOf {Γ : hb_Ctx} {G : hb_Gam} {Q : State → Prop} (X : hb_X Γ cX5_placeOf 2 RX5 ΛC G 0 0) (hr : hb_ret Γ = (some .int)) (p0 : Int32) (p1 : Int32) (σ : hb_Mem) {x : Int32} (h : fn_X5_placeOf p0 p1 = some x) (K : Q = hb_Q Γ ΛC G (some (.int x)) σ) : hb_W Γ ΛC G 2 Q σ [some (.int p0), some (.int p1)] [] 0 := by
  unfold fn_X5_placeOf at h
  refine ww_iload_n 1 X dX5_placeOf_0 rfl rfl ?_
  refine ww_bipush (v := 32) 3 X dX5_placeOf_1 rfl (by decide) ?_
  refine ww_imul 4 X dX5_placeOf_3 rfl ?_
  refine ww_iload_n 5 X dX5_placeOf_4 rfl rfl ?_
  refine ww_iadd 6 X dX5_placeOf_5 rfl ?_
  obtain rfl := Option.some.inj h
  exact ww_ret_i X hr K dX5_placeOf_6
theorem ct_X5_placeOf (l : Launch) (G : hb_Gam) (p0 : Int32) (p1 : Int32) (σ : hb_Mem) {x : Int32} (h : fn_X5_placeOf p0 p1 = some x) : hb_C l yX5_placeOf cX5_placeOf 2 (some .int) 0 0 ΛC G [.int p0, .int p1] σ (some (.int x)) σ :=
  hb_C.of [some (.int p0), some (.int p1)] (by decide +kernel) (Nat.le_of_ble_eq_true rfl) (by intro v hv; simp only [List.mem_cons, List.not_mem_nil, or_false] at hv; rcases hv with rfl | rfl <;> rfl) rfl (hb_pad [.int p0, .int p1] 0) (fun Γ X hr => wk_X5_placeOf X hr p0 p1 σ h rfl)
def fn_X2_moved (p0 : Int32) (p1 : Int32) (p2 : Int32) : Option Int32 :=
if p0 = (-1) then (
some (-1))
else (
(fn_X5_pageAt p0).bind fun x1 =>
(fn_X2_renumbered x1 p1 p2).bind fun x2 =>
(fn_X5_flagsAt p0).bind fun x3 =>
(fn_X5_placeOf x2 x3).bind fun x4 =>
some x4)
set_option maxRecDepth 100000 in
set_option maxHeartbeats 4000000 in
theorem wk_X2_moved {Γ : hb_Ctx} {G : hb_Gam} {Q : State → Prop} (X : hb_X Γ cX2_moved 3 RX2 ΛC G 1 22) (hr : hb_ret Γ = (some .int)) (p0 : Int32) (p1 : Int32) (p2 : Int32) (σ : hb_Mem) {x : Int32} (h : fn_X2_moved p0 p1 p2 = some x) (K : Q = hb_Q Γ ΛC G (some (.int x)) σ) : hb_W Γ ΛC G 3 Q σ [some (.int p0), some (.int p1), some (.int p2)] [] 0 := by
  unfold fn_X2_moved at h
  refine ww_iload_n 1 X dX2_moved_0 rfl rfl ?_
  refine ww_iconst (v := (-1)) 2 X dX2_moved_1 rfl (by decide) ?_
  refine ww_icmp_ne 7 5 X dX2_moved_2 (by decide) rfl h (fun h => ?_) (fun h => ?_)
  · skip
    refine ww_iconst (v := (-1)) 6 X dX2_moved_5 rfl (by decide) ?_
    obtain rfl := Option.some.inj h
    exact ww_ret_i X hr K dX2_moved_6
  · skip
    refine ww_iload_n 8 X dX2_moved_7 rfl rfl ?_
    obtain ⟨x1, hx1, h⟩ := hb_bind_of h
    refine ww_callSN (rest := []) (st' := [.int x1]) 11 X (ct_X5_pageAt (hb_l Γ) G p0 σ hx1) cw_X2_87 rfl ⟨by decide, by decide⟩ (Nat.le_of_ble_eq_true rfl) rfl rfl dX2_moved_8 rfl ?_
    refine ww_iload_n 12 X dX2_moved_11 rfl rfl ?_
    refine ww_iload_n 13 X dX2_moved_12 rfl rfl ?_
    obtain ⟨x2, hx2, h⟩ := hb_bind_of h
    refine ww_callS (rest := []) (st' := [.int x2]) 16 X (ct_X2_renumbered (hb_l Γ) G x1 p1 p2 σ hx2) cw_X2_80 rfl ⟨by decide, by decide⟩ (Nat.le_of_ble_eq_true rfl) rfl rfl dX2_moved_13 rfl ?_
    refine ww_iload_n 17 X dX2_moved_16 rfl rfl ?_
    obtain ⟨x3, hx3, h⟩ := hb_bind_of h
    refine ww_callSN (rest := [.int x2]) (st' := [.int x3, .int x2]) 20 X (ct_X5_flagsAt (hb_l Γ) G p0 σ hx3) cw_X2_90 rfl ⟨by decide, by decide⟩ (Nat.le_of_ble_eq_true rfl) rfl rfl dX2_moved_17 rfl ?_
    obtain ⟨x4, hx4, h⟩ := hb_bind_of h
    refine ww_callSN (rest := []) (st' := [.int x4]) 23 X (ct_X5_placeOf (hb_l Γ) G x2 x3 σ hx4) cw_X2_93 rfl ⟨by decide, by decide⟩ (Nat.le_of_ble_eq_true rfl) rfl rfl dX2_moved_20 rfl ?_
    obtain rfl := Option.some.inj h
    exact ww_ret_i X hr K dX2_moved_23
theorem ct_X2_moved (l : Launch) (G : hb_Gam) (p0 : Int32) (p1 : Int32) (p2 : Int32) (σ : hb_Mem) {x : Int32} (h : fn_X2_moved p0 p1 p2 = some x) : hb_C l yX2_moved cX2_moved 3 (some .int) 1 22 ΛC G [.int p0, .int p1, .int p2] σ (some (.int x)) σ :=
  hb_C.of [some (.int p0), some (.int p1), some (.int p2)] (by decide +kernel) (Nat.le_of_ble_eq_true rfl) (by intro v hv; simp only [List.mem_cons, List.not_mem_nil, or_false] at hv; rcases hv with rfl | rfl | rfl <;> rfl) rfl (hb_pad [.int p0, .int p1, .int p2] 0) (fun Γ X hr => wk_X2_moved X hr p0 p1 p2 σ h rfl)
def lb_X2_swapPages_38 (k : Nat) (p1 : Int32) (p2 : Int32) (w3 : Int32) (σ : hb_Mem) : Option ((Int32 × hb_Mem) ⊕ hb_Mem) :=
if 3 ≤ w3 then (
some (.inr σ))
else (
(fn_X5_slotOf p1 w3).bind fun x5 =>
(fn_X5_slotOf p2 w3).bind fun x6 =>
(fn_X1_swap (hc_rf k 5) x5 x6 σ).bind fun x7 =>
(fn_X1_swap (hc_rf k 6) x5 x6 x7).bind fun x8 =>
(fn_X1_swap (hc_rf k 7) x5 x6 x8).bind fun x9 =>
hb_nm (w3 + 1) fun v10 =>
some (.inl (v10, x9)))
set_option maxRecDepth 100000 in
set_option maxHeartbeats 4000000 in
theorem lk_X2_swapPages_38 {Γ : hb_Ctx} {G : hb_Gam} {Q : State → Prop} (X : hb_X Γ cX2_swapPages 6 RX2 ΛC G 2 45)  (k : Nat) (hk : hb_is ΛC k 2) (p1 : Int32) (p2 : Int32) (w3 : Int32) (σ : hb_Mem) {x : ((Int32 × hb_Mem) ⊕ hb_Mem)} (h : lb_X2_swapPages_38 k p1 p2 w3 σ = some x) (K : Sum.elim (fun s : (Int32 × hb_Mem) => hb_W Γ ΛC G 6 Q s.2 [some (.ref (G.2.2.2 k)), some (.int p1), some (.int p2), some (.int s.1), none, none] [] 38) (fun t : hb_Mem => hb_W Γ ΛC G 6 Q t [some (.ref (G.2.2.2 k)), some (.int p1), some (.int p2), none, none, none] [] 96) x) : hb_W Γ ΛC G 6 Q σ [some (.ref (G.2.2.2 k)), some (.int p1), some (.int p2), some (.int w3), none, none] [] 38 := by
  unfold lb_X2_swapPages_38 at h
  refine ww_iload_n 39 X dX2_swapPages_38 rfl rfl ?_
  refine ww_iconst (v := 3) 40 X dX2_swapPages_39 rfl (by decide) ?_
  refine ww_icmp_ge 96 43 X dX2_swapPages_40 (by decide) rfl h (fun h => ?_) (fun h => ?_)
  · skip
    obtain rfl := Option.some.inj h
    refine ww_kill [3] (L' := [some (.ref (G.2.2.2 k)), some (.int p1), some (.int p2), none, none, none]) rfl ?_
    exact K
  · skip
    refine ww_iload_n 44 X dX2_swapPages_43 rfl rfl ?_
    refine ww_iload_n 45 X dX2_swapPages_44 rfl rfl ?_
    obtain ⟨x5, hx5, h⟩ := hb_bind_of h
    refine ww_callSN (rest := []) (st' := [.int x5]) 48 X (ct_X5_slotOf (hb_l Γ) G p1 w3 σ hx5) cw_X2_73 rfl ⟨by decide, by decide⟩ (Nat.le_of_ble_eq_true rfl) rfl rfl dX2_swapPages_45 rfl ?_
    refine ww_istore 50 X (L' := [some (.ref (G.2.2.2 k)), some (.int p1), some (.int p2), some (.int w3), some (.int x5), none]) dX2_swapPages_48 rfl (Nat.le_of_ble_eq_true rfl) rfl ?_
    refine ww_iload_n 51 X dX2_swapPages_50 rfl rfl ?_
    refine ww_iload_n 52 X dX2_swapPages_51 rfl rfl ?_
    obtain ⟨x6, hx6, h⟩ := hb_bind_of h
    refine ww_callSN (rest := []) (st' := [.int x6]) 55 X (ct_X5_slotOf (hb_l Γ) G p2 w3 σ hx6) cw_X2_73 rfl ⟨by decide, by decide⟩ (Nat.le_of_ble_eq_true rfl) rfl rfl dX2_swapPages_52 rfl ?_
    refine ww_istore 57 X (L' := [some (.ref (G.2.2.2 k)), some (.int p1), some (.int p2), some (.int w3), some (.int x5), some (.int x6)]) dX2_swapPages_55 rfl (Nat.le_of_ble_eq_true rfl) rfl ?_
    refine ww_aload_n 58 X dX2_swapPages_57 rfl rfl ?_
    refine ww_getr (ci := 2) (j := 5) 61 X cf_2 tw_X2_33 (by decide) rfl hk dX2_swapPages_58 rfl ?_
    refine ww_iload 63 X dX2_swapPages_61 rfl rfl ?_
    refine ww_iload 65 X dX2_swapPages_63 rfl rfl ?_
    obtain ⟨x7, hx7, h⟩ := hb_bind_of h
    refine ww_callV (ci := 1) (rest := []) (st' := []) 68 X (ct_X1_swap (hb_l Γ) G (hc_rf k 5) (hc_kr_2_5 hk) x5 x6 σ hx7) cw_X2_77 rfl (by decide) (hc_kr_2_5 hk) rfl ⟨by decide, by decide⟩ (Nat.le_of_ble_eq_true rfl) rfl rfl dX2_swapPages_65 rfl ?_
    refine ww_aload_n 69 X dX2_swapPages_68 rfl rfl ?_
    refine ww_getr (ci := 2) (j := 6) 72 X cf_2 tw_X2_36 (by decide) rfl hk dX2_swapPages_69 rfl ?_
    refine ww_iload 74 X dX2_swapPages_72 rfl rfl ?_
    refine ww_iload 76 X dX2_swapPages_74 rfl rfl ?_
    obtain ⟨x8, hx8, h⟩ := hb_bind_of h
    refine ww_callV (ci := 1) (rest := []) (st' := []) 79 X (ct_X1_swap (hb_l Γ) G (hc_rf k 6) (hc_kr_2_6 hk) x5 x6 x7 hx8) cw_X2_77 rfl (by decide) (hc_kr_2_6 hk) rfl ⟨by decide, by decide⟩ (Nat.le_of_ble_eq_true rfl) rfl rfl dX2_swapPages_76 rfl ?_
    refine ww_aload_n 80 X dX2_swapPages_79 rfl rfl ?_
    refine ww_getr (ci := 2) (j := 7) 83 X cf_2 tw_X2_39 (by decide) rfl hk dX2_swapPages_80 rfl ?_
    refine ww_iload 85 X dX2_swapPages_83 rfl rfl ?_
    refine ww_iload 87 X dX2_swapPages_85 rfl rfl ?_
    obtain ⟨x9, hx9, h⟩ := hb_bind_of h
    refine ww_callV (ci := 1) (rest := []) (st' := []) 90 X (ct_X1_swap (hb_l Γ) G (hc_rf k 7) (hc_kr_2_7 hk) x5 x6 x8 hx9) cw_X2_77 rfl (by decide) (hc_kr_2_7 hk) rfl ⟨by decide, by decide⟩ (Nat.le_of_ble_eq_true rfl) rfl rfl dX2_swapPages_87 rfl ?_
    obtain ⟨v10, ev10, h⟩ := hb_nm_of h
    refine ww_iinc 93 X (L' := [some (.ref (G.2.2.2 k)), some (.int p1), some (.int p2), some (.int v10), some (.int x5), some (.int x6)]) dX2_swapPages_90 rfl rfl ev10.symm rfl ?_
    refine ww_goto 38 X dX2_swapPages_93 (by decide) ?_
    obtain rfl := Option.some.inj h
    refine ww_kill [4, 5] (L' := [some (.ref (G.2.2.2 k)), some (.int p1), some (.int p2), some (.int v10), none, none]) rfl ?_
    exact K
def ll_X2_swapPages_38 (k : Nat) (p1 : Int32) (p2 : Int32) : (Int32 × hb_Mem) → Option hb_Mem := hb_lp (fun s => lb_X2_swapPages_38 k p1 p2 s.1 s.2) hb_F
theorem lw_X2_swapPages_38 {Γ : hb_Ctx} {G : hb_Gam} {Q : State → Prop} (X : hb_X Γ cX2_swapPages 6 RX2 ΛC G 2 45)  (k : Nat) (hk : hb_is ΛC k 2) (p1 : Int32) (p2 : Int32) (s : (Int32 × hb_Mem)) (t : hb_Mem) (h : ll_X2_swapPages_38 k p1 p2 s = some t) (K : (fun t : hb_Mem => hb_W Γ ΛC G 6 Q t [some (.ref (G.2.2.2 k)), some (.int p1), some (.int p2), none, none, none] [] 96) t) : hb_W Γ ΛC G 6 Q s.2 [some (.ref (G.2.2.2 k)), some (.int p1), some (.int p2), some (.int s.1), none, none] [] 38 :=
  hb_lp_w (P := fun s : (Int32 × hb_Mem) => hb_W Γ ΛC G 6 Q s.2 [some (.ref (G.2.2.2 k)), some (.int p1), some (.int p2), some (.int s.1), none, none] [] 38) (E := (fun t : hb_Mem => hb_W Γ ΛC G 6 Q t [some (.ref (G.2.2.2 k)), some (.int p1), some (.int p2), none, none, none] [] 96)) (fun s x hx K => lk_X2_swapPages_38 X k hk p1 p2 s.1 s.2 hx K) _ s t h K
def lb_X2_swapPages_98 (k : Nat) (p1 : Int32) (p2 : Int32) (w3 : Int32) (σ : hb_Mem) : Option ((Int32 × hb_Mem) ⊕ hb_Mem) :=
if 96 ≤ w3 then (
some (.inr σ))
else (
(fn_X1_at (hc_rf k 5) w3 σ).bind fun x12 =>
(fn_X2_renumbered x12 p1 p2).bind fun x13 =>
(fn_X1_put (hc_rf k 5) w3 x13 σ).bind fun x14 =>
hb_nm (w3 + 1) fun v15 =>
some (.inl (v15, x14)))
set_option maxRecDepth 100000 in
set_option maxHeartbeats 4000000 in
theorem lk_X2_swapPages_98 {Γ : hb_Ctx} {G : hb_Gam} {Q : State → Prop} (X : hb_X Γ cX2_swapPages 6 RX2 ΛC G 2 45)  (k : Nat) (hk : hb_is ΛC k 2) (p1 : Int32) (p2 : Int32) (w3 : Int32) (σ : hb_Mem) {x : ((Int32 × hb_Mem) ⊕ hb_Mem)} (h : lb_X2_swapPages_98 k p1 p2 w3 σ = some x) (K : Sum.elim (fun s : (Int32 × hb_Mem) => hb_W Γ ΛC G 6 Q s.2 [some (.ref (G.2.2.2 k)), some (.int p1), some (.int p2), some (.int s.1), none, none] [] 98) (fun t : hb_Mem => hb_W Γ ΛC G 6 Q t [some (.ref (G.2.2.2 k)), some (.int p1), some (.int p2), none, none, none] [] 131) x) : hb_W Γ ΛC G 6 Q σ [some (.ref (G.2.2.2 k)), some (.int p1), some (.int p2), some (.int w3), none, none] [] 98 := by
  unfold lb_X2_swapPages_98 at h
  refine ww_iload_n 99 X dX2_swapPages_98 rfl rfl ?_
  refine ww_bipush (v := 96) 101 X dX2_swapPages_99 rfl (by decide) ?_
  refine ww_icmp_ge 131 104 X dX2_swapPages_101 (by decide) rfl h (fun h => ?_) (fun h => ?_)
  · skip
    obtain rfl := Option.some.inj h
    refine ww_kill [3] (L' := [some (.ref (G.2.2.2 k)), some (.int p1), some (.int p2), none, none, none]) rfl ?_
    exact K
  · skip
    refine ww_aload_n 105 X dX2_swapPages_104 rfl rfl ?_
    refine ww_getr (ci := 2) (j := 5) 108 X cf_2 tw_X2_33 (by decide) rfl hk dX2_swapPages_105 rfl ?_
    refine ww_iload_n 109 X dX2_swapPages_108 rfl rfl ?_
    refine ww_aload_n 110 X dX2_swapPages_109 rfl rfl ?_
    refine ww_getr (ci := 2) (j := 5) 113 X cf_2 tw_X2_33 (by decide) rfl hk dX2_swapPages_110 rfl ?_
    refine ww_iload_n 114 X dX2_swapPages_113 rfl rfl ?_
    obtain ⟨x12, hx12, h⟩ := hb_bind_of h
    refine ww_callV (ci := 1) (rest := [.int w3, .ref (G.2.2.2 (hc_rf k 5))]) (st' := [.int x12, .int w3, .ref (G.2.2.2 (hc_rf k 5))]) 117 X (ct_X1_at (hb_l Γ) G (hc_rf k 5) (hc_kr_2_5 hk) w3 σ hx12) cw_X2_62 rfl (by decide) (hc_kr_2_5 hk) rfl ⟨by decide, by decide⟩ (Nat.le_of_ble_eq_true rfl) rfl rfl dX2_swapPages_114 rfl ?_
    refine ww_iload_n 118 X dX2_swapPages_117 rfl rfl ?_
    refine ww_iload_n 119 X dX2_swapPages_118 rfl rfl ?_
    obtain ⟨x13, hx13, h⟩ := hb_bind_of h
    refine ww_callS (rest := [.int w3, .ref (G.2.2.2 (hc_rf k 5))]) (st' := [.int x13, .int w3, .ref (G.2.2.2 (hc_rf k 5))]) 122 X (ct_X2_renumbered (hb_l Γ) G x12 p1 p2 σ hx13) cw_X2_80 rfl ⟨by decide, by decide⟩ (Nat.le_of_ble_eq_true rfl) rfl rfl dX2_swapPages_119 rfl ?_
    obtain ⟨x14, hx14, h⟩ := hb_bind_of h
    refine ww_callV (ci := 1) (rest := []) (st' := []) 125 X (ct_X1_put (hb_l Γ) G (hc_rf k 5) (hc_kr_2_5 hk) w3 x13 σ hx14) cw_X2_66 rfl (by decide) (hc_kr_2_5 hk) rfl ⟨by decide, by decide⟩ (Nat.le_of_ble_eq_true rfl) rfl rfl dX2_swapPages_122 rfl ?_
    obtain ⟨v15, ev15, h⟩ := hb_nm_of h
    refine ww_iinc 128 X (L' := [some (.ref (G.2.2.2 k)), some (.int p1), some (.int p2), some (.int v15), none, none]) dX2_swapPages_125 rfl rfl ev15.symm rfl ?_
    refine ww_goto 98 X dX2_swapPages_128 (by decide) ?_
    obtain rfl := Option.some.inj h
    exact K
def ll_X2_swapPages_98 (k : Nat) (p1 : Int32) (p2 : Int32) : (Int32 × hb_Mem) → Option hb_Mem := hb_lp (fun s => lb_X2_swapPages_98 k p1 p2 s.1 s.2) hb_F
theorem lw_X2_swapPages_98 {Γ : hb_Ctx} {G : hb_Gam} {Q : State → Prop} (X : hb_X Γ cX2_swapPages 6 RX2 ΛC G 2 45)  (k : Nat) (hk : hb_is ΛC k 2) (p1 : Int32) (p2 : Int32) (s : (Int32 × hb_Mem)) (t : hb_Mem) (h : ll_X2_swapPages_98 k p1 p2 s = some t) (K : (fun t : hb_Mem => hb_W Γ ΛC G 6 Q t [some (.ref (G.2.2.2 k)), some (.int p1), some (.int p2), none, none, none] [] 131) t) : hb_W Γ ΛC G 6 Q s.2 [some (.ref (G.2.2.2 k)), some (.int p1), some (.int p2), some (.int s.1), none, none] [] 98 :=
  hb_lp_w (P := fun s : (Int32 × hb_Mem) => hb_W Γ ΛC G 6 Q s.2 [some (.ref (G.2.2.2 k)), some (.int p1), some (.int p2), some (.int s.1), none, none] [] 98) (E := (fun t : hb_Mem => hb_W Γ ΛC G 6 Q t [some (.ref (G.2.2.2 k)), some (.int p1), some (.int p2), none, none, none] [] 131)) (fun s x hx K => lk_X2_swapPages_98 X k hk p1 p2 s.1 s.2 hx K) _ s t h K
def lb_X2_swapPages_133 (k : Nat) (p1 : Int32) (p2 : Int32) (w3 : Int32) (σ : hb_Mem) : Option ((Int32 × hb_Mem) ⊕ hb_Mem) :=
if 2 ≤ w3 then (
some (.inr σ))
else (
(fn_X1_at (hc_rf k 8) w3 σ).bind fun x17 =>
(fn_X2_moved x17 p1 p2).bind fun x18 =>
(fn_X1_put (hc_rf k 8) w3 x18 σ).bind fun x19 =>
hb_nm (w3 + 1) fun v20 =>
some (.inl (v20, x19)))
set_option maxRecDepth 100000 in
set_option maxHeartbeats 4000000 in
theorem lk_X2_swapPages_133 {Γ : hb_Ctx} {G : hb_Gam} {Q : State → Prop} (X : hb_X Γ cX2_swapPages 6 RX2 ΛC G 2 45)  (k : Nat) (hk : hb_is ΛC k 2) (p1 : Int32) (p2 : Int32) (w3 : Int32) (σ : hb_Mem) {x : ((Int32 × hb_Mem) ⊕ hb_Mem)} (h : lb_X2_swapPages_133 k p1 p2 w3 σ = some x) (K : Sum.elim (fun s : (Int32 × hb_Mem) => hb_W Γ ΛC G 6 Q s.2 [some (.ref (G.2.2.2 k)), some (.int p1), some (.int p2), some (.int s.1), none, none] [] 133) (fun t : hb_Mem => hb_W Γ ΛC G 6 Q t [some (.ref (G.2.2.2 k)), some (.int p1), some (.int p2), none, none, none] [] 165) x) : hb_W Γ ΛC G 6 Q σ [some (.ref (G.2.2.2 k)), some (.int p1), some (.int p2), some (.int w3), none, none] [] 133 := by
  unfold lb_X2_swapPages_133 at h
  refine ww_iload_n 134 X dX2_swapPages_133 rfl rfl ?_
  refine ww_iconst (v := 2) 135 X dX2_swapPages_134 rfl (by decide) ?_
  refine ww_icmp_ge 165 138 X dX2_swapPages_135 (by decide) rfl h (fun h => ?_) (fun h => ?_)
  · skip
    obtain rfl := Option.some.inj h
    refine ww_kill [3] (L' := [some (.ref (G.2.2.2 k)), some (.int p1), some (.int p2), none, none, none]) rfl ?_
    exact K
  · skip
    refine ww_aload_n 139 X dX2_swapPages_138 rfl rfl ?_
    refine ww_getr (ci := 2) (j := 8) 142 X cf_2 tw_X2_42 (by decide) rfl hk dX2_swapPages_139 rfl ?_
    refine ww_iload_n 143 X dX2_swapPages_142 rfl rfl ?_
    refine ww_aload_n 144 X dX2_swapPages_143 rfl rfl ?_
    refine ww_getr (ci := 2) (j := 8) 147 X cf_2 tw_X2_42 (by decide) rfl hk dX2_swapPages_144 rfl ?_
    refine ww_iload_n 148 X dX2_swapPages_147 rfl rfl ?_
    obtain ⟨x17, hx17, h⟩ := hb_bind_of h
    refine ww_callV (ci := 1) (rest := [.int w3, .ref (G.2.2.2 (hc_rf k 8))]) (st' := [.int x17, .int w3, .ref (G.2.2.2 (hc_rf k 8))]) 151 X (ct_X1_at (hb_l Γ) G (hc_rf k 8) (hc_kr_2_8 hk) w3 σ hx17) cw_X2_62 rfl (by decide) (hc_kr_2_8 hk) rfl ⟨by decide, by decide⟩ (Nat.le_of_ble_eq_true rfl) rfl rfl dX2_swapPages_148 rfl ?_
    refine ww_iload_n 152 X dX2_swapPages_151 rfl rfl ?_
    refine ww_iload_n 153 X dX2_swapPages_152 rfl rfl ?_
    obtain ⟨x18, hx18, h⟩ := hb_bind_of h
    refine ww_callS (rest := [.int w3, .ref (G.2.2.2 (hc_rf k 8))]) (st' := [.int x18, .int w3, .ref (G.2.2.2 (hc_rf k 8))]) 156 X (ct_X2_moved (hb_l Γ) G x17 p1 p2 σ hx18) cw_X2_84 rfl ⟨by decide, by decide⟩ (Nat.le_of_ble_eq_true rfl) rfl rfl dX2_swapPages_153 rfl ?_
    obtain ⟨x19, hx19, h⟩ := hb_bind_of h
    refine ww_callV (ci := 1) (rest := []) (st' := []) 159 X (ct_X1_put (hb_l Γ) G (hc_rf k 8) (hc_kr_2_8 hk) w3 x18 σ hx19) cw_X2_66 rfl (by decide) (hc_kr_2_8 hk) rfl ⟨by decide, by decide⟩ (Nat.le_of_ble_eq_true rfl) rfl rfl dX2_swapPages_156 rfl ?_
    obtain ⟨v20, ev20, h⟩ := hb_nm_of h
    refine ww_iinc 162 X (L' := [some (.ref (G.2.2.2 k)), some (.int p1), some (.int p2), some (.int v20), none, none]) dX2_swapPages_159 rfl rfl ev20.symm rfl ?_
    refine ww_goto 133 X dX2_swapPages_162 (by decide) ?_
    obtain rfl := Option.some.inj h
    exact K
def ll_X2_swapPages_133 (k : Nat) (p1 : Int32) (p2 : Int32) : (Int32 × hb_Mem) → Option hb_Mem := hb_lp (fun s => lb_X2_swapPages_133 k p1 p2 s.1 s.2) hb_F
theorem lw_X2_swapPages_133 {Γ : hb_Ctx} {G : hb_Gam} {Q : State → Prop} (X : hb_X Γ cX2_swapPages 6 RX2 ΛC G 2 45)  (k : Nat) (hk : hb_is ΛC k 2) (p1 : Int32) (p2 : Int32) (s : (Int32 × hb_Mem)) (t : hb_Mem) (h : ll_X2_swapPages_133 k p1 p2 s = some t) (K : (fun t : hb_Mem => hb_W Γ ΛC G 6 Q t [some (.ref (G.2.2.2 k)), some (.int p1), some (.int p2), none, none, none] [] 165) t) : hb_W Γ ΛC G 6 Q s.2 [some (.ref (G.2.2.2 k)), some (.int p1), some (.int p2), some (.int s.1), none, none] [] 133 :=
  hb_lp_w (P := fun s : (Int32 × hb_Mem) => hb_W Γ ΛC G 6 Q s.2 [some (.ref (G.2.2.2 k)), some (.int p1), some (.int p2), some (.int s.1), none, none] [] 133) (E := (fun t : hb_Mem => hb_W Γ ΛC G 6 Q t [some (.ref (G.2.2.2 k)), some (.int p1), some (.int p2), none, none, none] [] 165)) (fun s x hx K => lk_X2_swapPages_133 X k hk p1 p2 s.1 s.2 hx K) _ s t h K
def fn_X2_swapPages (k : Nat) (p1 : Int32) (p2 : Int32) (σ : hb_Mem) : Option hb_Mem :=
(fn_X1_swap (hc_rf k 1) p1 p2 σ).bind fun x1 =>
(fn_X1_swap (hc_rf k 2) p1 p2 x1).bind fun x2 =>
(fn_X1_swap (hc_rf k 3) p1 p2 x2).bind fun x3 =>
(fn_X1_swap (hc_rf k 4) p1 p2 x3).bind fun x4 =>
(ll_X2_swapPages_38 k p1 p2 (0, x4)).bind fun t11 =>
(ll_X2_swapPages_98 k p1 p2 (0, t11)).bind fun t16 =>
(ll_X2_swapPages_133 k p1 p2 (0, t16)).bind fun t21 =>
(fn_X2_moved (t21 k 10) p1 p2).bind fun x22 =>
hb_nm (hb_up t21 k 10 x22) fun σ23 =>
some σ23
set_option maxRecDepth 100000 in
set_option maxHeartbeats 4000000 in
theorem wk_X2_swapPages {Γ : hb_Ctx} {G : hb_Gam} {Q : State → Prop} (X : hb_X Γ cX2_swapPages 6 RX2 ΛC G 2 45) (hr : hb_ret Γ = none) (k : Nat) (hk : hb_is ΛC k 2) (p1 : Int32) (p2 : Int32) (σ : hb_Mem) {x : hb_Mem} (h : fn_X2_swapPages k p1 p2 σ = some x) (K : Q = hb_Q Γ ΛC G none x) : hb_W Γ ΛC G 6 Q σ [some (.ref (G.2.2.2 k)), some (.int p1), some (.int p2), none, none, none] [] 0 := by
  unfold fn_X2_swapPages at h
  refine ww_aload_n 1 X dX2_swapPages_0 rfl rfl ?_
  refine ww_getr (ci := 2) (j := 1) 4 X cf_2 tw_X2_20 (by decide) rfl hk dX2_swapPages_1 rfl ?_
  refine ww_iload_n 5 X dX2_swapPages_4 rfl rfl ?_
  refine ww_iload_n 6 X dX2_swapPages_5 rfl rfl ?_
  obtain ⟨x1, hx1, h⟩ := hb_bind_of h
  refine ww_callV (ci := 1) (rest := []) (st' := []) 9 X (ct_X1_swap (hb_l Γ) G (hc_rf k 1) (hc_kr_2_1 hk) p1 p2 σ hx1) cw_X2_77 rfl (by decide) (hc_kr_2_1 hk) rfl ⟨by decide, by decide⟩ (Nat.le_of_ble_eq_true rfl) rfl rfl dX2_swapPages_6 rfl ?_
  refine ww_aload_n 10 X dX2_swapPages_9 rfl rfl ?_
  refine ww_getr (ci := 2) (j := 2) 13 X cf_2 tw_X2_24 (by decide) rfl hk dX2_swapPages_10 rfl ?_
  refine ww_iload_n 14 X dX2_swapPages_13 rfl rfl ?_
  refine ww_iload_n 15 X dX2_swapPages_14 rfl rfl ?_
  obtain ⟨x2, hx2, h⟩ := hb_bind_of h
  refine ww_callV (ci := 1) (rest := []) (st' := []) 18 X (ct_X1_swap (hb_l Γ) G (hc_rf k 2) (hc_kr_2_2 hk) p1 p2 x1 hx2) cw_X2_77 rfl (by decide) (hc_kr_2_2 hk) rfl ⟨by decide, by decide⟩ (Nat.le_of_ble_eq_true rfl) rfl rfl dX2_swapPages_15 rfl ?_
  refine ww_aload_n 19 X dX2_swapPages_18 rfl rfl ?_
  refine ww_getr (ci := 2) (j := 3) 22 X cf_2 tw_X2_27 (by decide) rfl hk dX2_swapPages_19 rfl ?_
  refine ww_iload_n 23 X dX2_swapPages_22 rfl rfl ?_
  refine ww_iload_n 24 X dX2_swapPages_23 rfl rfl ?_
  obtain ⟨x3, hx3, h⟩ := hb_bind_of h
  refine ww_callV (ci := 1) (rest := []) (st' := []) 27 X (ct_X1_swap (hb_l Γ) G (hc_rf k 3) (hc_kr_2_3 hk) p1 p2 x2 hx3) cw_X2_77 rfl (by decide) (hc_kr_2_3 hk) rfl ⟨by decide, by decide⟩ (Nat.le_of_ble_eq_true rfl) rfl rfl dX2_swapPages_24 rfl ?_
  refine ww_aload_n 28 X dX2_swapPages_27 rfl rfl ?_
  refine ww_getr (ci := 2) (j := 4) 31 X cf_2 tw_X2_30 (by decide) rfl hk dX2_swapPages_28 rfl ?_
  refine ww_iload_n 32 X dX2_swapPages_31 rfl rfl ?_
  refine ww_iload_n 33 X dX2_swapPages_32 rfl rfl ?_
  obtain ⟨x4, hx4, h⟩ := hb_bind_of h
  refine ww_callV (ci := 1) (rest := []) (st' := []) 36 X (ct_X1_swap (hb_l Γ) G (hc_rf k 4) (hc_kr_2_4 hk) p1 p2 x3 hx4) cw_X2_77 rfl (by decide) (hc_kr_2_4 hk) rfl ⟨by decide, by decide⟩ (Nat.le_of_ble_eq_true rfl) rfl rfl dX2_swapPages_33 rfl ?_
  refine ww_iconst (v := 0) 37 X dX2_swapPages_36 rfl (by decide) ?_
  refine ww_istore_n 38 X (L' := [some (.ref (G.2.2.2 k)), some (.int p1), some (.int p2), some (.int 0), none, none]) dX2_swapPages_37 rfl (Nat.le_of_ble_eq_true rfl) rfl ?_
  obtain ⟨t11, ht11, h⟩ := hb_bind_of h
  refine lw_X2_swapPages_38 X k hk p1 p2 (0, x4) t11 ht11 ?_
  refine ww_iconst (v := 0) 97 X dX2_swapPages_96 rfl (by decide) ?_
  refine ww_istore_n 98 X (L' := [some (.ref (G.2.2.2 k)), some (.int p1), some (.int p2), some (.int 0), none, none]) dX2_swapPages_97 rfl (Nat.le_of_ble_eq_true rfl) rfl ?_
  obtain ⟨t16, ht16, h⟩ := hb_bind_of h
  refine lw_X2_swapPages_98 X k hk p1 p2 (0, t11) t16 ht16 ?_
  refine ww_iconst (v := 0) 132 X dX2_swapPages_131 rfl (by decide) ?_
  refine ww_istore_n 133 X (L' := [some (.ref (G.2.2.2 k)), some (.int p1), some (.int p2), some (.int 0), none, none]) dX2_swapPages_132 rfl (Nat.le_of_ble_eq_true rfl) rfl ?_
  obtain ⟨t21, ht21, h⟩ := hb_bind_of h
  refine lw_X2_swapPages_133 X k hk p1 p2 (0, t16) t21 ht21 ?_
  refine ww_aload_n 166 X dX2_swapPages_165 rfl rfl ?_
  refine ww_aload_n 167 X dX2_swapPages_166 rfl rfl ?_
  refine ww_geti (ci := 2) (j := 10) 170 X cf_2 tw_X2_51 (by decide) rfl hk dX2_swapPages_167 rfl ?_
  refine ww_iload_n 171 X dX2_swapPages_170 rfl rfl ?_
  refine ww_iload_n 172 X dX2_swapPages_171 rfl rfl ?_
  obtain ⟨x22, hx22, h⟩ := hb_bind_of h
  refine ww_callS (rest := [.ref (G.2.2.2 k)]) (st' := [.int x22, .ref (G.2.2.2 k)]) 175 X (ct_X2_moved (hb_l Γ) G (t21 k 10) p1 p2 t21 hx22) cw_X2_84 rfl ⟨by decide, by decide⟩ (Nat.le_of_ble_eq_true rfl) rfl rfl dX2_swapPages_172 rfl ?_
  obtain ⟨σ23, eσ23, h⟩ := hb_nm_of h
  refine ww_put (ci := 2) (j := 10) (ty := .int) 178 X cf_2 cg_2 tw_X2_51 (by decide) rfl rfl rfl rfl rfl hk eσ23.symm dX2_swapPages_175 rfl ?_
  obtain rfl := Option.some.inj h
  exact ww_ret_v X hr K dX2_swapPages_178
theorem ct_X2_swapPages (l : Launch) (G : hb_Gam) (k : Nat) (hk : hb_is ΛC k 2) (p1 : Int32) (p2 : Int32) (σ : hb_Mem) {x : hb_Mem} (h : fn_X2_swapPages k p1 p2 σ = some x) : hb_C l yX2_swapPages cX2_swapPages 6 none 2 45 ΛC G [.ref (G.2.2.2 k), .int p1, .int p2] σ none x :=
  hb_C.of [some (.ref (G.2.2.2 k)), some (.int p1), some (.int p2), none, none, none] (by decide +kernel) (Nat.le_of_ble_eq_true rfl) (by intro v hv; simp only [List.mem_cons, List.not_mem_nil, or_false] at hv; rcases hv with rfl | rfl | rfl <;> rfl) rfl (hb_pad [.ref (G.2.2.2 k), .int p1, .int p2] 3) (fun Γ X hr => wk_X2_swapPages X hr k hk p1 p2 σ h rfl)
def lb_X2_allChoices_4 (k : Nat) (w1 : Int32) (w2 : Int32) (σ : hb_Mem) : Option ((Int32 × Int32) ⊕ Int32) :=
if (σ k 0) ≤ w2 then (
some (.inr w1))
else (
(fn_X1_at (hc_rf k 4) w2 σ).bind fun x1 =>
hb_nm (w1 + x1) fun v2 =>
hb_nm (w2 + 1) fun v3 =>
some (.inl (v2, v3)))
set_option maxRecDepth 100000 in
set_option maxHeartbeats 4000000 in
theorem lk_X2_allChoices_4 {Γ : hb_Ctx} {G : hb_Gam} {Q : State → Prop} (X : hb_X Γ cX2_allChoices 3 RX2 ΛC G 1 21)  (k : Nat) (hk : hb_is ΛC k 2) (w1 : Int32) (w2 : Int32) (σ : hb_Mem) {x : ((Int32 × Int32) ⊕ Int32)} (h : lb_X2_allChoices_4 k w1 w2 σ = some x) (K : Sum.elim (fun s : (Int32 × Int32) => hb_W Γ ΛC G 3 Q σ [some (.ref (G.2.2.2 k)), some (.int s.1), some (.int s.2)] [] 4) (fun t : Int32 => hb_W Γ ΛC G 3 Q σ [none, some (.int t), none] [] 29) x) : hb_W Γ ΛC G 3 Q σ [some (.ref (G.2.2.2 k)), some (.int w1), some (.int w2)] [] 4 := by
  unfold lb_X2_allChoices_4 at h
  refine ww_iload_n 5 X dX2_allChoices_4 rfl rfl ?_
  refine ww_aload_n 6 X dX2_allChoices_5 rfl rfl ?_
  refine ww_geti (ci := 2) (j := 0) 9 X cf_2 tw_X2_9 (by decide) rfl hk dX2_allChoices_6 rfl ?_
  refine ww_icmp_ge 29 12 X dX2_allChoices_9 (by decide) rfl h (fun h => ?_) (fun h => ?_)
  · skip
    obtain rfl := Option.some.inj h
    refine ww_kill [0, 2] (L' := [none, some (.int w1), none]) rfl ?_
    exact K
  · skip
    refine ww_iload_n 13 X dX2_allChoices_12 rfl rfl ?_
    refine ww_aload_n 14 X dX2_allChoices_13 rfl rfl ?_
    refine ww_getr (ci := 2) (j := 4) 17 X cf_2 tw_X2_30 (by decide) rfl hk dX2_allChoices_14 rfl ?_
    refine ww_iload_n 18 X dX2_allChoices_17 rfl rfl ?_
    obtain ⟨x1, hx1, h⟩ := hb_bind_of h
    refine ww_callV (ci := 1) (rest := [.int w1]) (st' := [.int x1, .int w1]) 21 X (ct_X1_at (hb_l Γ) G (hc_rf k 4) (hc_kr_2_4 hk) w2 σ hx1) cw_X2_62 rfl (by decide) (hc_kr_2_4 hk) rfl ⟨by decide, by decide⟩ (Nat.le_of_ble_eq_true rfl) rfl rfl dX2_allChoices_18 rfl ?_
    refine ww_iadd 22 X dX2_allChoices_21 rfl ?_
    obtain ⟨v2, ev2, h⟩ := hb_nm_of h
    rw [← ev2]
    refine ww_istore_n 23 X (L' := [some (.ref (G.2.2.2 k)), some (.int v2), some (.int w2)]) dX2_allChoices_22 rfl (Nat.le_of_ble_eq_true rfl) rfl ?_
    obtain ⟨v3, ev3, h⟩ := hb_nm_of h
    refine ww_iinc 26 X (L' := [some (.ref (G.2.2.2 k)), some (.int v2), some (.int v3)]) dX2_allChoices_23 rfl rfl ev3.symm rfl ?_
    refine ww_goto 4 X dX2_allChoices_26 (by decide) ?_
    obtain rfl := Option.some.inj h
    exact K
def ll_X2_allChoices_4 (k : Nat) (σ : hb_Mem) : (Int32 × Int32) → Option Int32 := hb_lp (fun s => lb_X2_allChoices_4 k s.1 s.2 σ) hb_F
theorem lw_X2_allChoices_4 {Γ : hb_Ctx} {G : hb_Gam} {Q : State → Prop} (X : hb_X Γ cX2_allChoices 3 RX2 ΛC G 1 21)  (k : Nat) (hk : hb_is ΛC k 2) (σ : hb_Mem) (s : (Int32 × Int32)) (t : Int32) (h : ll_X2_allChoices_4 k σ s = some t) (K : (fun t : Int32 => hb_W Γ ΛC G 3 Q σ [none, some (.int t), none] [] 29) t) : hb_W Γ ΛC G 3 Q σ [some (.ref (G.2.2.2 k)), some (.int s.1), some (.int s.2)] [] 4 :=
  hb_lp_w (P := fun s : (Int32 × Int32) => hb_W Γ ΛC G 3 Q σ [some (.ref (G.2.2.2 k)), some (.int s.1), some (.int s.2)] [] 4) (E := (fun t : Int32 => hb_W Γ ΛC G 3 Q σ [none, some (.int t), none] [] 29)) (fun s x hx K => lk_X2_allChoices_4 X k hk s.1 s.2 σ hx K) _ s t h K
def fn_X2_allChoices (k : Nat) (σ : hb_Mem) : Option Int32 :=
(ll_X2_allChoices_4 k σ (0, 0)).bind fun t4 =>
some t4
set_option maxRecDepth 100000 in
set_option maxHeartbeats 4000000 in
theorem wk_X2_allChoices {Γ : hb_Ctx} {G : hb_Gam} {Q : State → Prop} (X : hb_X Γ cX2_allChoices 3 RX2 ΛC G 1 21) (hr : hb_ret Γ = (some .int)) (k : Nat) (hk : hb_is ΛC k 2) (σ : hb_Mem) {x : Int32} (h : fn_X2_allChoices k σ = some x) (K : Q = hb_Q Γ ΛC G (some (.int x)) σ) : hb_W Γ ΛC G 3 Q σ [some (.ref (G.2.2.2 k)), none, none] [] 0 := by
  unfold fn_X2_allChoices at h
  refine ww_iconst (v := 0) 1 X dX2_allChoices_0 rfl (by decide) ?_
  refine ww_istore_n 2 X (L' := [some (.ref (G.2.2.2 k)), some (.int 0), none]) dX2_allChoices_1 rfl (Nat.le_of_ble_eq_true rfl) rfl ?_
  refine ww_iconst (v := 0) 3 X dX2_allChoices_2 rfl (by decide) ?_
  refine ww_istore_n 4 X (L' := [some (.ref (G.2.2.2 k)), some (.int 0), some (.int 0)]) dX2_allChoices_3 rfl (Nat.le_of_ble_eq_true rfl) rfl ?_
  obtain ⟨t4, ht4, h⟩ := hb_bind_of h
  refine lw_X2_allChoices_4 X k hk σ (0, 0) t4 ht4 ?_
  refine ww_iload_n 30 X dX2_allChoices_29 rfl rfl ?_
  obtain rfl := Option.some.inj h
  exact ww_ret_i X hr K dX2_allChoices_30
theorem ct_X2_allChoices (l : Launch) (G : hb_Gam) (k : Nat) (hk : hb_is ΛC k 2) (σ : hb_Mem) {x : Int32} (h : fn_X2_allChoices k σ = some x) : hb_C l yX2_allChoices cX2_allChoices 3 (some .int) 1 21 ΛC G [.ref (G.2.2.2 k)] σ (some (.int x)) σ :=
  hb_C.of [some (.ref (G.2.2.2 k)), none, none] (by decide +kernel) (Nat.le_of_ble_eq_true rfl) (by intro v hv; simp only [List.mem_cons, List.not_mem_nil, or_false] at hv; subst hv; rfl) rfl (hb_pad [.ref (G.2.2.2 k)] 2) (fun Γ X hr => wk_X2_allChoices X hr k hk σ h rfl)
def fn_X5_oneIf (p0 : Int32) : Option Int32 :=
if p0 = 0 then (
some 0)
else (
some 1)
set_option maxRecDepth 100000 in
set_option maxHeartbeats 4000000 in
theorem wk_X5_oneIf {Γ : hb_Ctx} {G : hb_Gam} {Q : State → Prop} (X : hb_X Γ cX5_oneIf 1 RX5 ΛC G 0 0) (hr : hb_ret Γ = (some .int)) (p0 : Int32) (σ : hb_Mem) {x : Int32} (h : fn_X5_oneIf p0 = some x) (K : Q = hb_Q Γ ΛC G (some (.int x)) σ) : hb_W Γ ΛC G 1 Q σ [some (.int p0)] [] 0 := by
  unfold fn_X5_oneIf at h
  refine ww_iload_n 1 X dX5_oneIf_0 rfl rfl ?_
  refine ww_if_eq 8 4 X dX5_oneIf_1 (by decide) rfl h (fun h => ?_) (fun h => ?_)
  · skip
    refine ww_iconst (v := 0) 9 X dX5_oneIf_8 rfl (by decide) ?_
    obtain rfl := Option.some.inj h
    exact ww_ret_i X hr K dX5_oneIf_9
  · skip
    refine ww_iconst (v := 1) 5 X dX5_oneIf_4 rfl (by decide) ?_
    refine ww_goto 9 X dX5_oneIf_5 (by decide) ?_
    obtain rfl := Option.some.inj h
    exact ww_ret_i X hr K dX5_oneIf_9
theorem ct_X5_oneIf (l : Launch) (G : hb_Gam) (p0 : Int32) (σ : hb_Mem) {x : Int32} (h : fn_X5_oneIf p0 = some x) : hb_C l yX5_oneIf cX5_oneIf 1 (some .int) 0 0 ΛC G [.int p0] σ (some (.int x)) σ :=
  hb_C.of [some (.int p0)] (by decide +kernel) (Nat.le_of_ble_eq_true rfl) (by intro v hv; simp only [List.mem_cons, List.not_mem_nil, or_false] at hv; subst hv; rfl) rfl (hb_pad [.int p0] 0) (fun Γ X hr => wk_X5_oneIf X hr p0 σ h rfl)
def jn_X2_choicesTo_57 (k : Nat) (p1 : Int32) (i3 : Int32) (j4 : Int32) (s0 : Int32) (s1 : Int32) (σ : hb_Mem) : Option ((Int32 × Int32) ⊕ Int32) :=
(fn_X5_oneIf s1).bind fun x4 =>
hb_nm (s0 + x4) fun v5 =>
hb_nm (j4 + 1) fun v6 =>
some (.inl (v5, v6))
set_option maxRecDepth 100000 in
set_option maxHeartbeats 4000000 in
theorem jw_X2_choicesTo_57 {Γ : hb_Ctx} {G : hb_Gam} {Q : State → Prop} (X : hb_X Γ cX2_choicesTo 5 RX2 ΛC G 1 21) (hr : hb_ret Γ = (some .int)) (k : Nat) (hk : hb_is ΛC k 2) (p1 : Int32) (i3 : Int32) (j4 : Int32) (s0 : Int32) (s1 : Int32) (σ : hb_Mem) {x : ((Int32 × Int32) ⊕ Int32)} (h : jn_X2_choicesTo_57 k p1 i3 j4 s0 s1 σ = some x) (K : Sum.elim (fun s : (Int32 × Int32) => hb_W Γ ΛC G 5 Q σ [some (.ref (G.2.2.2 k)), some (.int p1), some (.int s.1), some (.int i3), some (.int s.2)] [] 15) (fun t : Int32 => hb_W Γ ΛC G 5 Q σ [some (.ref (G.2.2.2 k)), some (.int p1), some (.int t), some (.int i3), none] [] 68) x) : hb_W Γ ΛC G 5 Q σ [some (.ref (G.2.2.2 k)), some (.int p1), none, some (.int i3), some (.int j4)] [.int s1, .int s0] 57 := by
  unfold jn_X2_choicesTo_57 at h
  obtain ⟨x4, hx4, h⟩ := hb_bind_of h
  refine ww_callSN (rest := [.int s0]) (st' := [.int x4, .int s0]) 60 X (ct_X5_oneIf (hb_l Γ) G s1 σ hx4) cw_X2_96 rfl ⟨by decide, by decide⟩ (Nat.le_of_ble_eq_true rfl) rfl rfl dX2_choicesTo_57 rfl ?_
  refine ww_iadd 61 X dX2_choicesTo_60 rfl ?_
  obtain ⟨v5, ev5, h⟩ := hb_nm_of h
  rw [← ev5]
  refine ww_istore_n 62 X (L' := [some (.ref (G.2.2.2 k)), some (.int p1), some (.int v5), some (.int i3), some (.int j4)]) dX2_choicesTo_61 rfl (Nat.le_of_ble_eq_true rfl) rfl ?_
  obtain ⟨v6, ev6, h⟩ := hb_nm_of h
  refine ww_iinc 65 X (L' := [some (.ref (G.2.2.2 k)), some (.int p1), some (.int v5), some (.int i3), some (.int v6)]) dX2_choicesTo_62 rfl rfl ev6.symm rfl ?_
  refine ww_goto 15 X dX2_choicesTo_65 (by decide) ?_
  obtain rfl := Option.some.inj h
  exact K
def lb_X2_choicesTo_15 (k : Nat) (p1 : Int32) (i3 : Int32) (w2 : Int32) (w4 : Int32) (σ : hb_Mem) : Option ((Int32 × Int32) ⊕ Int32) :=
(fn_X1_at (hc_rf k 4) i3 σ).bind fun x1 =>
if x1 ≤ w4 then (
some (.inr w2))
else (
if 3 ≤ w4 then (
some (.inr w2))
else (
(fn_X5_slotOf i3 w4).bind fun x2 =>
(fn_X1_at (hc_rf k 5) x2 σ).bind fun x3 =>
if x3 = p1 then (
jn_X2_choicesTo_57 k p1 i3 w4 w2 1 σ)
else (
jn_X2_choicesTo_57 k p1 i3 w4 w2 0 σ)))
set_option maxRecDepth 100000 in
set_option maxHeartbeats 4000000 in
theorem lk_X2_choicesTo_15 {Γ : hb_Ctx} {G : hb_Gam} {Q : State → Prop} (X : hb_X Γ cX2_choicesTo 5 RX2 ΛC G 1 21)  (k : Nat) (hk : hb_is ΛC k 2) (p1 : Int32) (i3 : Int32) (w2 : Int32) (w4 : Int32) (σ : hb_Mem) {x : ((Int32 × Int32) ⊕ Int32)} (h : lb_X2_choicesTo_15 k p1 i3 w2 w4 σ = some x) (K : Sum.elim (fun s : (Int32 × Int32) => hb_W Γ ΛC G 5 Q σ [some (.ref (G.2.2.2 k)), some (.int p1), some (.int s.1), some (.int i3), some (.int s.2)] [] 15) (fun t : Int32 => hb_W Γ ΛC G 5 Q σ [some (.ref (G.2.2.2 k)), some (.int p1), some (.int t), some (.int i3), none] [] 68) x) : hb_W Γ ΛC G 5 Q σ [some (.ref (G.2.2.2 k)), some (.int p1), some (.int w2), some (.int i3), some (.int w4)] [] 15 := by
  unfold lb_X2_choicesTo_15 at h
  refine ww_iload 17 X dX2_choicesTo_15 rfl rfl ?_
  refine ww_aload_n 18 X dX2_choicesTo_17 rfl rfl ?_
  refine ww_getr (ci := 2) (j := 4) 21 X cf_2 tw_X2_30 (by decide) rfl hk dX2_choicesTo_18 rfl ?_
  refine ww_iload_n 22 X dX2_choicesTo_21 rfl rfl ?_
  obtain ⟨x1, hx1, h⟩ := hb_bind_of h
  refine ww_callV (ci := 1) (rest := [.int w4]) (st' := [.int x1, .int w4]) 25 X (ct_X1_at (hb_l Γ) G (hc_rf k 4) (hc_kr_2_4 hk) i3 σ hx1) cw_X2_62 rfl (by decide) (hc_kr_2_4 hk) rfl ⟨by decide, by decide⟩ (Nat.le_of_ble_eq_true rfl) rfl rfl dX2_choicesTo_22 rfl ?_
  refine ww_icmp_ge 68 28 X dX2_choicesTo_25 (by decide) rfl h (fun h => ?_) (fun h => ?_)
  · skip
    obtain rfl := Option.some.inj h
    refine ww_kill [4] (L' := [some (.ref (G.2.2.2 k)), some (.int p1), some (.int w2), some (.int i3), none]) rfl ?_
    exact K
  · skip
    refine ww_iload 30 X dX2_choicesTo_28 rfl rfl ?_
    refine ww_iconst (v := 3) 31 X dX2_choicesTo_30 rfl (by decide) ?_
    refine ww_icmp_ge 68 34 X dX2_choicesTo_31 (by decide) rfl h (fun h => ?_) (fun h => ?_)
    · skip
      obtain rfl := Option.some.inj h
      refine ww_kill [4] (L' := [some (.ref (G.2.2.2 k)), some (.int p1), some (.int w2), some (.int i3), none]) rfl ?_
      exact K
    · skip
      refine ww_iload_n 35 X dX2_choicesTo_34 rfl rfl ?_
      refine ww_aload_n 36 X dX2_choicesTo_35 rfl rfl ?_
      refine ww_getr (ci := 2) (j := 5) 39 X cf_2 tw_X2_33 (by decide) rfl hk dX2_choicesTo_36 rfl ?_
      refine ww_iload_n 40 X dX2_choicesTo_39 rfl rfl ?_
      refine ww_iload 42 X dX2_choicesTo_40 rfl rfl ?_
      obtain ⟨x2, hx2, h⟩ := hb_bind_of h
      refine ww_callSN (rest := [.ref (G.2.2.2 (hc_rf k 5)), .int w2]) (st' := [.int x2, .ref (G.2.2.2 (hc_rf k 5)), .int w2]) 45 X (ct_X5_slotOf (hb_l Γ) G i3 w4 σ hx2) cw_X2_73 rfl ⟨by decide, by decide⟩ (Nat.le_of_ble_eq_true rfl) rfl rfl dX2_choicesTo_42 rfl ?_
      obtain ⟨x3, hx3, h⟩ := hb_bind_of h
      refine ww_callV (ci := 1) (rest := [.int w2]) (st' := [.int x3, .int w2]) 48 X (ct_X1_at (hb_l Γ) G (hc_rf k 5) (hc_kr_2_5 hk) x2 σ hx3) cw_X2_62 rfl (by decide) (hc_kr_2_5 hk) rfl ⟨by decide, by decide⟩ (Nat.le_of_ble_eq_true rfl) rfl rfl dX2_choicesTo_45 rfl ?_
      refine ww_iload_n 49 X dX2_choicesTo_48 rfl rfl ?_
      refine ww_icmp_ne 56 52 X dX2_choicesTo_49 (by decide) rfl h (fun h => ?_) (fun h => ?_)
      · skip
        refine ww_iconst (v := 1) 53 X dX2_choicesTo_52 rfl (by decide) ?_
        refine ww_goto 57 X dX2_choicesTo_53 (by decide) ?_
        refine ww_kill [2] (L' := [some (.ref (G.2.2.2 k)), some (.int p1), none, some (.int i3), some (.int j4)]) rfl ?_
        exact jw_X2_choicesTo_57 X hr k hk p1 i3 w4 w2 1 σ h K
      · skip
        refine ww_iconst (v := 0) 57 X dX2_choicesTo_56 rfl (by decide) ?_
        refine ww_kill [2] (L' := [some (.ref (G.2.2.2 k)), some (.int p1), none, some (.int i3), some (.int j4)]) rfl ?_
        exact jw_X2_choicesTo_57 X hr k hk p1 i3 w4 w2 0 σ h K
def ll_X2_choicesTo_15 (k : Nat) (p1 : Int32) (i3 : Int32) (σ : hb_Mem) : (Int32 × Int32) → Option Int32 := hb_lp (fun s => lb_X2_choicesTo_15 k p1 i3 s.1 s.2 σ) hb_F
theorem lw_X2_choicesTo_15 {Γ : hb_Ctx} {G : hb_Gam} {Q : State → Prop} (X : hb_X Γ cX2_choicesTo 5 RX2 ΛC G 1 21)  (k : Nat) (hk : hb_is ΛC k 2) (p1 : Int32) (i3 : Int32) (σ : hb_Mem) (s : (Int32 × Int32)) (t : Int32) (h : ll_X2_choicesTo_15 k p1 i3 σ s = some t) (K : (fun t : Int32 => hb_W Γ ΛC G 5 Q σ [some (.ref (G.2.2.2 k)), some (.int p1), some (.int t), some (.int i3), none] [] 68) t) : hb_W Γ ΛC G 5 Q σ [some (.ref (G.2.2.2 k)), some (.int p1), some (.int s.1), some (.int i3), some (.int s.2)] [] 15 :=
  hb_lp_w (P := fun s : (Int32 × Int32) => hb_W Γ ΛC G 5 Q σ [some (.ref (G.2.2.2 k)), some (.int p1), some (.int s.1), some (.int i3), some (.int s.2)] [] 15) (E := (fun t : Int32 => hb_W Γ ΛC G 5 Q σ [some (.ref (G.2.2.2 k)), some (.int p1), some (.int t), some (.int i3), none] [] 68)) (fun s x hx K => lk_X2_choicesTo_15 X k hk p1 i3 s.1 s.2 σ hx K) _ s t h K
def jn_X2_choicesTo_68 (k : Nat) (p1 : Int32) (j2 : Int32) (j3 : Int32) (σ : hb_Mem) : Option ((Int32 × Int32) ⊕ Int32) :=
hb_nm (j3 + 1) fun v8 =>
some (.inl (j2, v8))
set_option maxRecDepth 100000 in
set_option maxHeartbeats 4000000 in
theorem jw_X2_choicesTo_68 {Γ : hb_Ctx} {G : hb_Gam} {Q : State → Prop} (X : hb_X Γ cX2_choicesTo 5 RX2 ΛC G 1 21) (hr : hb_ret Γ = (some .int)) (k : Nat) (hk : hb_is ΛC k 2) (p1 : Int32) (j2 : Int32) (j3 : Int32) (σ : hb_Mem) {x : ((Int32 × Int32) ⊕ Int32)} (h : jn_X2_choicesTo_68 k p1 j2 j3 σ = some x) (K : Sum.elim (fun s : (Int32 × Int32) => hb_W Γ ΛC G 5 Q σ [some (.ref (G.2.2.2 k)), some (.int p1), some (.int s.1), some (.int s.2), none] [] 4) (fun t : Int32 => hb_W Γ ΛC G 5 Q σ [none, none, some (.int t), none, none] [] 74) x) : hb_W Γ ΛC G 5 Q σ [some (.ref (G.2.2.2 k)), some (.int p1), some (.int j2), some (.int j3), none] [] 68 := by
  unfold jn_X2_choicesTo_68 at h
  obtain ⟨v8, ev8, h⟩ := hb_nm_of h
  refine ww_iinc 71 X (L' := [some (.ref (G.2.2.2 k)), some (.int p1), some (.int j2), some (.int v8), none]) dX2_choicesTo_68 rfl rfl ev8.symm rfl ?_
  refine ww_goto 4 X dX2_choicesTo_71 (by decide) ?_
  obtain rfl := Option.some.inj h
  exact K
def lb_X2_choicesTo_4 (k : Nat) (p1 : Int32) (w2 : Int32) (w3 : Int32) (σ : hb_Mem) : Option ((Int32 × Int32) ⊕ Int32) :=
if (σ k 0) ≤ w3 then (
some (.inr w2))
else (
(ll_X2_choicesTo_15 k p1 w3 σ (w2, 0)).bind fun t7 =>
jn_X2_choicesTo_68 k p1 t7 w3 σ)
set_option maxRecDepth 100000 in
set_option maxHeartbeats 4000000 in
theorem lk_X2_choicesTo_4 {Γ : hb_Ctx} {G : hb_Gam} {Q : State → Prop} (X : hb_X Γ cX2_choicesTo 5 RX2 ΛC G 1 21)  (k : Nat) (hk : hb_is ΛC k 2) (p1 : Int32) (w2 : Int32) (w3 : Int32) (σ : hb_Mem) {x : ((Int32 × Int32) ⊕ Int32)} (h : lb_X2_choicesTo_4 k p1 w2 w3 σ = some x) (K : Sum.elim (fun s : (Int32 × Int32) => hb_W Γ ΛC G 5 Q σ [some (.ref (G.2.2.2 k)), some (.int p1), some (.int s.1), some (.int s.2), none] [] 4) (fun t : Int32 => hb_W Γ ΛC G 5 Q σ [none, none, some (.int t), none, none] [] 74) x) : hb_W Γ ΛC G 5 Q σ [some (.ref (G.2.2.2 k)), some (.int p1), some (.int w2), some (.int w3), none] [] 4 := by
  unfold lb_X2_choicesTo_4 at h
  refine ww_iload_n 5 X dX2_choicesTo_4 rfl rfl ?_
  refine ww_aload_n 6 X dX2_choicesTo_5 rfl rfl ?_
  refine ww_geti (ci := 2) (j := 0) 9 X cf_2 tw_X2_9 (by decide) rfl hk dX2_choicesTo_6 rfl ?_
  refine ww_icmp_ge 74 12 X dX2_choicesTo_9 (by decide) rfl h (fun h => ?_) (fun h => ?_)
  · skip
    obtain rfl := Option.some.inj h
    refine ww_kill [0, 1, 3] (L' := [none, none, some (.int w2), none, none]) rfl ?_
    exact K
  · skip
    refine ww_iconst (v := 0) 13 X dX2_choicesTo_12 rfl (by decide) ?_
    refine ww_istore 15 X (L' := [some (.ref (G.2.2.2 k)), some (.int p1), some (.int w2), some (.int w3), some (.int 0)]) dX2_choicesTo_13 rfl (Nat.le_of_ble_eq_true rfl) rfl ?_
    obtain ⟨t7, ht7, h⟩ := hb_bind_of h
    refine lw_X2_choicesTo_15 X k hk p1 w3 σ (w2, 0) t7 ht7 ?_
    exact jw_X2_choicesTo_68 X hr k hk p1 t7 w3 σ h K
def ll_X2_choicesTo_4 (k : Nat) (p1 : Int32) (σ : hb_Mem) : (Int32 × Int32) → Option Int32 := hb_lp (fun s => lb_X2_choicesTo_4 k p1 s.1 s.2 σ) hb_F
theorem lw_X2_choicesTo_4 {Γ : hb_Ctx} {G : hb_Gam} {Q : State → Prop} (X : hb_X Γ cX2_choicesTo 5 RX2 ΛC G 1 21)  (k : Nat) (hk : hb_is ΛC k 2) (p1 : Int32) (σ : hb_Mem) (s : (Int32 × Int32)) (t : Int32) (h : ll_X2_choicesTo_4 k p1 σ s = some t) (K : (fun t : Int32 => hb_W Γ ΛC G 5 Q σ [none, none, some (.int t), none, none] [] 74) t) : hb_W Γ ΛC G 5 Q σ [some (.ref (G.2.2.2 k)), some (.int p1), some (.int s.1), some (.int s.2), none] [] 4 :=
  hb_lp_w (P := fun s : (Int32 × Int32) => hb_W Γ ΛC G 5 Q σ [some (.ref (G.2.2.2 k)), some (.int p1), some (.int s.1), some (.int s.2), none] [] 4) (E := (fun t : Int32 => hb_W Γ ΛC G 5 Q σ [none, none, some (.int t), none, none] [] 74)) (fun s x hx K => lk_X2_choicesTo_4 X k hk p1 s.1 s.2 σ hx K) _ s t h K
def fn_X2_choicesTo (k : Nat) (p1 : Int32) (σ : hb_Mem) : Option Int32 :=
(ll_X2_choicesTo_4 k p1 σ (0, 0)).bind fun t9 =>
some t9
set_option maxRecDepth 100000 in
set_option maxHeartbeats 4000000 in
theorem wk_X2_choicesTo {Γ : hb_Ctx} {G : hb_Gam} {Q : State → Prop} (X : hb_X Γ cX2_choicesTo 5 RX2 ΛC G 1 21) (hr : hb_ret Γ = (some .int)) (k : Nat) (hk : hb_is ΛC k 2) (p1 : Int32) (σ : hb_Mem) {x : Int32} (h : fn_X2_choicesTo k p1 σ = some x) (K : Q = hb_Q Γ ΛC G (some (.int x)) σ) : hb_W Γ ΛC G 5 Q σ [some (.ref (G.2.2.2 k)), some (.int p1), none, none, none] [] 0 := by
  unfold fn_X2_choicesTo at h
  refine ww_iconst (v := 0) 1 X dX2_choicesTo_0 rfl (by decide) ?_
  refine ww_istore_n 2 X (L' := [some (.ref (G.2.2.2 k)), some (.int p1), some (.int 0), none, none]) dX2_choicesTo_1 rfl (Nat.le_of_ble_eq_true rfl) rfl ?_
  refine ww_iconst (v := 0) 3 X dX2_choicesTo_2 rfl (by decide) ?_
  refine ww_istore_n 4 X (L' := [some (.ref (G.2.2.2 k)), some (.int p1), some (.int 0), some (.int 0), none]) dX2_choicesTo_3 rfl (Nat.le_of_ble_eq_true rfl) rfl ?_
  obtain ⟨t9, ht9, h⟩ := hb_bind_of h
  refine lw_X2_choicesTo_4 X k hk p1 σ (0, 0) t9 ht9 ?_
  refine ww_iload_n 75 X dX2_choicesTo_74 rfl rfl ?_
  obtain rfl := Option.some.inj h
  exact ww_ret_i X hr K dX2_choicesTo_75
theorem ct_X2_choicesTo (l : Launch) (G : hb_Gam) (k : Nat) (hk : hb_is ΛC k 2) (p1 : Int32) (σ : hb_Mem) {x : Int32} (h : fn_X2_choicesTo k p1 σ = some x) : hb_C l yX2_choicesTo cX2_choicesTo 5 (some .int) 1 21 ΛC G [.ref (G.2.2.2 k), .int p1] σ (some (.int x)) σ :=
  hb_C.of [some (.ref (G.2.2.2 k)), some (.int p1), none, none, none] (by decide +kernel) (Nat.le_of_ble_eq_true rfl) (by intro v hv; simp only [List.mem_cons, List.not_mem_nil, or_false] at hv; rcases hv with rfl | rfl <;> rfl) rfl (hb_pad [.ref (G.2.2.2 k), .int p1] 3) (fun Γ X hr => wk_X2_choicesTo X hr k hk p1 σ h rfl)
def fn_X2_moodOf (k : Nat) (p1 : Int32) (σ : hb_Mem) : Option UInt32 :=
(fn_X1_at (hc_rf k 1) p1 σ).bind fun x1 =>
(hb_nn (FP.fdiv (FP.i2f x1) 1092616192)).bind fun z2 =>
some z2
set_option maxRecDepth 100000 in
set_option maxHeartbeats 4000000 in
theorem wk_X2_moodOf {Γ : hb_Ctx} {G : hb_Gam} {Q : State → Prop} (X : hb_X Γ cX2_moodOf 2 RX2 ΛC G 1 21) (hr : hb_ret Γ = (some .float)) (k : Nat) (hk : hb_is ΛC k 2) (p1 : Int32) (σ : hb_Mem) {x : UInt32} (h : fn_X2_moodOf k p1 σ = some x) (K : Q = hb_Q Γ ΛC G (some (.float x)) σ) : hb_W Γ ΛC G 2 Q σ [some (.ref (G.2.2.2 k)), some (.int p1)] [] 0 := by
  unfold fn_X2_moodOf at h
  refine ww_aload_n 1 X dX2_moodOf_0 rfl rfl ?_
  refine ww_getr (ci := 2) (j := 1) 4 X cf_2 tw_X2_20 (by decide) rfl hk dX2_moodOf_1 rfl ?_
  refine ww_iload_n 5 X dX2_moodOf_4 rfl rfl ?_
  obtain ⟨x1, hx1, h⟩ := hb_bind_of h
  refine ww_callV (ci := 1) (rest := []) (st' := [.int x1]) 8 X (ct_X1_at (hb_l Γ) G (hc_rf k 1) (hc_kr_2_1 hk) p1 σ hx1) cw_X2_62 rfl (by decide) (hc_kr_2_1 hk) rfl ⟨by decide, by decide⟩ (Nat.le_of_ble_eq_true rfl) rfl rfl dX2_moodOf_5 rfl ?_
  refine ww_i2f 9 X dX2_moodOf_8 rfl ?_
  refine ww_ldcf (v := 1092616192) 11 X dX2_moodOf_9 rfl (by decide +kernel) ?_
  obtain ⟨z2, hz2, h⟩ := hb_bind_of h
  refine ww_fdiv 12 X dX2_moodOf_11 rfl hz2 ?_
  obtain rfl := Option.some.inj h
  exact ww_ret_f X hr K dX2_moodOf_12
theorem ct_X2_moodOf (l : Launch) (G : hb_Gam) (k : Nat) (hk : hb_is ΛC k 2) (p1 : Int32) (σ : hb_Mem) {x : UInt32} (h : fn_X2_moodOf k p1 σ = some x) : hb_C l yX2_moodOf cX2_moodOf 2 (some .float) 1 21 ΛC G [.ref (G.2.2.2 k), .int p1] σ (some (.float x)) σ :=
  hb_C.of [some (.ref (G.2.2.2 k)), some (.int p1)] (by decide +kernel) (Nat.le_of_ble_eq_true rfl) (by intro v hv; simp only [List.mem_cons, List.not_mem_nil, or_false] at hv; rcases hv with rfl | rfl <;> rfl) rfl (hb_pad [.ref (G.2.2.2 k), .int p1] 0) (fun Γ X hr => wk_X2_moodOf X hr k hk p1 σ h rfl)
def fn_X2_kindOf (k : Nat) (p1 : Int32) (σ : hb_Mem) : Option Int32 :=
(fn_X1_at (hc_rf k 4) p1 σ).bind fun x1 =>
if x1 ≤ 0 then (
(fn_X2_moodOf k p1 σ).bind fun x2 =>
if (Op.cmpValue (FP.fcmp x2 FP.fconst0) .l) ≤ 0 then (
some 2)
else (
some 1))
else (
some 0)
set_option maxRecDepth 100000 in
set_option maxHeartbeats 4000000 in
theorem wk_X2_kindOf {Γ : hb_Ctx} {G : hb_Gam} {Q : State → Prop} (X : hb_X Γ cX2_kindOf 2 RX2 ΛC G 2 42) (hr : hb_ret Γ = (some .int)) (k : Nat) (hk : hb_is ΛC k 2) (p1 : Int32) (σ : hb_Mem) {x : Int32} (h : fn_X2_kindOf k p1 σ = some x) (K : Q = hb_Q Γ ΛC G (some (.int x)) σ) : hb_W Γ ΛC G 2 Q σ [some (.ref (G.2.2.2 k)), some (.int p1)] [] 0 := by
  unfold fn_X2_kindOf at h
  refine ww_aload_n 1 X dX2_kindOf_0 rfl rfl ?_
  refine ww_getr (ci := 2) (j := 4) 4 X cf_2 tw_X2_30 (by decide) rfl hk dX2_kindOf_1 rfl ?_
  refine ww_iload_n 5 X dX2_kindOf_4 rfl rfl ?_
  obtain ⟨x1, hx1, h⟩ := hb_bind_of h
  refine ww_callV (ci := 1) (rest := []) (st' := [.int x1]) 8 X (ct_X1_at (hb_l Γ) G (hc_rf k 4) (hc_kr_2_4 hk) p1 σ hx1) cw_X2_62 rfl (by decide) (hc_kr_2_4 hk) rfl ⟨by decide, by decide⟩ (Nat.le_of_ble_eq_true rfl) rfl rfl dX2_kindOf_5 rfl ?_
  refine ww_if_le 13 11 X dX2_kindOf_8 (by decide) rfl h (fun h => ?_) (fun h => ?_)
  · skip
    refine ww_aload_n 14 X dX2_kindOf_13 rfl rfl ?_
    refine ww_iload_n 15 X dX2_kindOf_14 rfl rfl ?_
    obtain ⟨x2, hx2, h⟩ := hb_bind_of h
    refine ww_callV (ci := 2) (rest := []) (st' := [.float x2]) 18 X (ct_X2_moodOf (hb_l Γ) G k hk p1 σ hx2) cw_X2_101 rfl (by decide) hk rfl ⟨by decide, by decide⟩ (Nat.le_of_ble_eq_true rfl) rfl rfl dX2_kindOf_15 rfl ?_
    refine ww_fconst0 19 X dX2_kindOf_18 rfl ?_
    refine ww_fcmp 20 X dX2_kindOf_19 rfl ?_
    refine ww_if_le 27 23 X dX2_kindOf_20 (by decide) rfl h (fun h => ?_) (fun h => ?_)
    · skip
      refine ww_iconst (v := 2) 28 X dX2_kindOf_27 rfl (by decide) ?_
      obtain rfl := Option.some.inj h
      exact ww_ret_i X hr K dX2_kindOf_28
    · skip
      refine ww_iconst (v := 1) 24 X dX2_kindOf_23 rfl (by decide) ?_
      refine ww_goto 28 X dX2_kindOf_24 (by decide) ?_
      obtain rfl := Option.some.inj h
      exact ww_ret_i X hr K dX2_kindOf_28
  · skip
    refine ww_iconst (v := 0) 12 X dX2_kindOf_11 rfl (by decide) ?_
    obtain rfl := Option.some.inj h
    exact ww_ret_i X hr K dX2_kindOf_12
theorem ct_X2_kindOf (l : Launch) (G : hb_Gam) (k : Nat) (hk : hb_is ΛC k 2) (p1 : Int32) (σ : hb_Mem) {x : Int32} (h : fn_X2_kindOf k p1 σ = some x) : hb_C l yX2_kindOf cX2_kindOf 2 (some .int) 2 42 ΛC G [.ref (G.2.2.2 k), .int p1] σ (some (.int x)) σ :=
  hb_C.of [some (.ref (G.2.2.2 k)), some (.int p1)] (by decide +kernel) (Nat.le_of_ble_eq_true rfl) (by intro v hv; simp only [List.mem_cons, List.not_mem_nil, or_false] at hv; rcases hv with rfl | rfl <;> rfl) rfl (hb_pad [.ref (G.2.2.2 k), .int p1] 0) (fun Γ X hr => wk_X2_kindOf X hr k hk p1 σ h rfl)
def fn_X2_placeComingTo (k : Nat) (p1 : Int32) (p2 : Int32) (σ : hb_Mem) : Option Int32 :=
(fn_X1_at (hc_rf k 3) p1 σ).bind fun x1 =>
(fn_X1_at (hc_rf k 2) p1 σ).bind fun x2 =>
(fn_X5_placeOf p1 ((p2 &&& (x1 ^^^ (-1))) ||| x2)).bind fun x3 =>
some x3
set_option maxRecDepth 100000 in
set_option maxHeartbeats 4000000 in
theorem wk_X2_placeComingTo {Γ : hb_Ctx} {G : hb_Gam} {Q : State → Prop} (X : hb_X Γ cX2_placeComingTo 3 RX2 ΛC G 1 21) (hr : hb_ret Γ = (some .int)) (k : Nat) (hk : hb_is ΛC k 2) (p1 : Int32) (p2 : Int32) (σ : hb_Mem) {x : Int32} (h : fn_X2_placeComingTo k p1 p2 σ = some x) (K : Q = hb_Q Γ ΛC G (some (.int x)) σ) : hb_W Γ ΛC G 3 Q σ [some (.ref (G.2.2.2 k)), some (.int p1), some (.int p2)] [] 0 := by
  unfold fn_X2_placeComingTo at h
  refine ww_iload_n 1 X dX2_placeComingTo_0 rfl rfl ?_
  refine ww_iload_n 2 X dX2_placeComingTo_1 rfl rfl ?_
  refine ww_aload_n 3 X dX2_placeComingTo_2 rfl rfl ?_
  refine ww_getr (ci := 2) (j := 3) 6 X cf_2 tw_X2_27 (by decide) rfl hk dX2_placeComingTo_3 rfl ?_
  refine ww_iload_n 7 X dX2_placeComingTo_6 rfl rfl ?_
  obtain ⟨x1, hx1, h⟩ := hb_bind_of h
  refine ww_callV (ci := 1) (rest := [.int p2, .int p1]) (st' := [.int x1, .int p2, .int p1]) 10 X (ct_X1_at (hb_l Γ) G (hc_rf k 3) (hc_kr_2_3 hk) p1 σ hx1) cw_X2_62 rfl (by decide) (hc_kr_2_3 hk) rfl ⟨by decide, by decide⟩ (Nat.le_of_ble_eq_true rfl) rfl rfl dX2_placeComingTo_7 rfl ?_
  refine ww_iconst (v := (-1)) 11 X dX2_placeComingTo_10 rfl (by decide) ?_
  refine ww_ixor 12 X dX2_placeComingTo_11 rfl ?_
  refine ww_iand 13 X dX2_placeComingTo_12 rfl ?_
  refine ww_aload_n 14 X dX2_placeComingTo_13 rfl rfl ?_
  refine ww_getr (ci := 2) (j := 2) 17 X cf_2 tw_X2_24 (by decide) rfl hk dX2_placeComingTo_14 rfl ?_
  refine ww_iload_n 18 X dX2_placeComingTo_17 rfl rfl ?_
  obtain ⟨x2, hx2, h⟩ := hb_bind_of h
  refine ww_callV (ci := 1) (rest := [.int (p2 &&& (x1 ^^^ (-1))), .int p1]) (st' := [.int x2, .int (p2 &&& (x1 ^^^ (-1))), .int p1]) 21 X (ct_X1_at (hb_l Γ) G (hc_rf k 2) (hc_kr_2_2 hk) p1 σ hx2) cw_X2_62 rfl (by decide) (hc_kr_2_2 hk) rfl ⟨by decide, by decide⟩ (Nat.le_of_ble_eq_true rfl) rfl rfl dX2_placeComingTo_18 rfl ?_
  refine ww_ior 22 X dX2_placeComingTo_21 rfl ?_
  obtain ⟨x3, hx3, h⟩ := hb_bind_of h
  refine ww_callSN (rest := []) (st' := [.int x3]) 25 X (ct_X5_placeOf (hb_l Γ) G p1 ((p2 &&& (x1 ^^^ (-1))) ||| x2) σ hx3) cw_X2_93 rfl ⟨by decide, by decide⟩ (Nat.le_of_ble_eq_true rfl) rfl rfl dX2_placeComingTo_22 rfl ?_
  obtain rfl := Option.some.inj h
  exact ww_ret_i X hr K dX2_placeComingTo_25
theorem ct_X2_placeComingTo (l : Launch) (G : hb_Gam) (k : Nat) (hk : hb_is ΛC k 2) (p1 : Int32) (p2 : Int32) (σ : hb_Mem) {x : Int32} (h : fn_X2_placeComingTo k p1 p2 σ = some x) : hb_C l yX2_placeComingTo cX2_placeComingTo 3 (some .int) 1 21 ΛC G [.ref (G.2.2.2 k), .int p1, .int p2] σ (some (.int x)) σ :=
  hb_C.of [some (.ref (G.2.2.2 k)), some (.int p1), some (.int p2)] (by decide +kernel) (Nat.le_of_ble_eq_true rfl) (by intro v hv; simp only [List.mem_cons, List.not_mem_nil, or_false] at hv; rcases hv with rfl | rfl | rfl <;> rfl) rfl (hb_pad [.ref (G.2.2.2 k), .int p1, .int p2] 0) (fun Γ X hr => wk_X2_placeComingTo X hr k hk p1 p2 σ h rfl)
def fn_X2_firstPlace (k : Nat) (σ : hb_Mem) : Option Int32 :=
(fn_X2_placeComingTo k 0 0 σ).bind fun x1 =>
some x1
set_option maxRecDepth 100000 in
set_option maxHeartbeats 4000000 in
theorem wk_X2_firstPlace {Γ : hb_Ctx} {G : hb_Gam} {Q : State → Prop} (X : hb_X Γ cX2_firstPlace 1 RX2 ΛC G 2 43) (hr : hb_ret Γ = (some .int)) (k : Nat) (hk : hb_is ΛC k 2) (σ : hb_Mem) {x : Int32} (h : fn_X2_firstPlace k σ = some x) (K : Q = hb_Q Γ ΛC G (some (.int x)) σ) : hb_W Γ ΛC G 1 Q σ [some (.ref (G.2.2.2 k))] [] 0 := by
  unfold fn_X2_firstPlace at h
  refine ww_aload_n 1 X dX2_firstPlace_0 rfl rfl ?_
  refine ww_iconst (v := 0) 2 X dX2_firstPlace_1 rfl (by decide) ?_
  refine ww_iconst (v := 0) 3 X dX2_firstPlace_2 rfl (by decide) ?_
  obtain ⟨x1, hx1, h⟩ := hb_bind_of h
  refine ww_callV (ci := 2) (rest := []) (st' := [.int x1]) 6 X (ct_X2_placeComingTo (hb_l Γ) G k hk 0 0 σ hx1) cw_X2_105 rfl (by decide) hk rfl ⟨by decide, by decide⟩ (Nat.le_of_ble_eq_true rfl) rfl rfl dX2_firstPlace_3 rfl ?_
  obtain rfl := Option.some.inj h
  exact ww_ret_i X hr K dX2_firstPlace_6
theorem ct_X2_firstPlace (l : Launch) (G : hb_Gam) (k : Nat) (hk : hb_is ΛC k 2) (σ : hb_Mem) {x : Int32} (h : fn_X2_firstPlace k σ = some x) : hb_C l yX2_firstPlace cX2_firstPlace 1 (some .int) 2 43 ΛC G [.ref (G.2.2.2 k)] σ (some (.int x)) σ :=
  hb_C.of [some (.ref (G.2.2.2 k))] (by decide +kernel) (Nat.le_of_ble_eq_true rfl) (by intro v hv; simp only [List.mem_cons, List.not_mem_nil, or_false] at hv; subst hv; rfl) rfl (hb_pad [.ref (G.2.2.2 k)] 0) (fun Γ X hr => wk_X2_firstPlace X hr k hk σ h rfl)
def fn_X2_placeBehind (k : Nat) (p1 : Int32) (p2 : Int32) (σ : hb_Mem) : Option Int32 :=
(fn_X5_pageAt p1).bind fun x1 =>
(fn_X5_slotOf x1 p2).bind fun x2 =>
(fn_X1_at (hc_rf k 5) x2 σ).bind fun x3 =>
(fn_X5_flagsAt p1).bind fun x4 =>
(fn_X2_placeComingTo k x3 x4 σ).bind fun x5 =>
some x5
set_option maxRecDepth 100000 in
set_option maxHeartbeats 4000000 in
theorem wk_X2_placeBehind {Γ : hb_Ctx} {G : hb_Gam} {Q : State → Prop} (X : hb_X Γ cX2_placeBehind 3 RX2 ΛC G 2 43) (hr : hb_ret Γ = (some .int)) (k : Nat) (hk : hb_is ΛC k 2) (p1 : Int32) (p2 : Int32) (σ : hb_Mem) {x : Int32} (h : fn_X2_placeBehind k p1 p2 σ = some x) (K : Q = hb_Q Γ ΛC G (some (.int x)) σ) : hb_W Γ ΛC G 3 Q σ [some (.ref (G.2.2.2 k)), some (.int p1), some (.int p2)] [] 0 := by
  unfold fn_X2_placeBehind at h
  refine ww_aload_n 1 X dX2_placeBehind_0 rfl rfl ?_
  refine ww_aload_n 2 X dX2_placeBehind_1 rfl rfl ?_
  refine ww_getr (ci := 2) (j := 5) 5 X cf_2 tw_X2_33 (by decide) rfl hk dX2_placeBehind_2 rfl ?_
  refine ww_iload_n 6 X dX2_placeBehind_5 rfl rfl ?_
  obtain ⟨x1, hx1, h⟩ := hb_bind_of h
  refine ww_callSN (rest := [.ref (G.2.2.2 (hc_rf k 5)), .ref (G.2.2.2 k)]) (st' := [.int x1, .ref (G.2.2.2 (hc_rf k 5)), .ref (G.2.2.2 k)]) 9 X (ct_X5_pageAt (hb_l Γ) G p1 σ hx1) cw_X2_87 rfl ⟨by decide, by decide⟩ (Nat.le_of_ble_eq_true rfl) rfl rfl dX2_placeBehind_6 rfl ?_
  refine ww_iload_n 10 X dX2_placeBehind_9 rfl rfl ?_
  obtain ⟨x2, hx2, h⟩ := hb_bind_of h
  refine ww_callSN (rest := [.ref (G.2.2.2 (hc_rf k 5)), .ref (G.2.2.2 k)]) (st' := [.int x2, .ref (G.2.2.2 (hc_rf k 5)), .ref (G.2.2.2 k)]) 13 X (ct_X5_slotOf (hb_l Γ) G x1 p2 σ hx2) cw_X2_73 rfl ⟨by decide, by decide⟩ (Nat.le_of_ble_eq_true rfl) rfl rfl dX2_placeBehind_10 rfl ?_
  obtain ⟨x3, hx3, h⟩ := hb_bind_of h
  refine ww_callV (ci := 1) (rest := [.ref (G.2.2.2 k)]) (st' := [.int x3, .ref (G.2.2.2 k)]) 16 X (ct_X1_at (hb_l Γ) G (hc_rf k 5) (hc_kr_2_5 hk) x2 σ hx3) cw_X2_62 rfl (by decide) (hc_kr_2_5 hk) rfl ⟨by decide, by decide⟩ (Nat.le_of_ble_eq_true rfl) rfl rfl dX2_placeBehind_13 rfl ?_
  refine ww_iload_n 17 X dX2_placeBehind_16 rfl rfl ?_
  obtain ⟨x4, hx4, h⟩ := hb_bind_of h
  refine ww_callSN (rest := [.int x3, .ref (G.2.2.2 k)]) (st' := [.int x4, .int x3, .ref (G.2.2.2 k)]) 20 X (ct_X5_flagsAt (hb_l Γ) G p1 σ hx4) cw_X2_90 rfl ⟨by decide, by decide⟩ (Nat.le_of_ble_eq_true rfl) rfl rfl dX2_placeBehind_17 rfl ?_
  obtain ⟨x5, hx5, h⟩ := hb_bind_of h
  refine ww_callV (ci := 2) (rest := []) (st' := [.int x5]) 23 X (ct_X2_placeComingTo (hb_l Γ) G k hk x3 x4 σ hx5) cw_X2_105 rfl (by decide) hk rfl ⟨by decide, by decide⟩ (Nat.le_of_ble_eq_true rfl) rfl rfl dX2_placeBehind_20 rfl ?_
  obtain rfl := Option.some.inj h
  exact ww_ret_i X hr K dX2_placeBehind_23
theorem ct_X2_placeBehind (l : Launch) (G : hb_Gam) (k : Nat) (hk : hb_is ΛC k 2) (p1 : Int32) (p2 : Int32) (σ : hb_Mem) {x : Int32} (h : fn_X2_placeBehind k p1 p2 σ = some x) : hb_C l yX2_placeBehind cX2_placeBehind 3 (some .int) 2 43 ΛC G [.ref (G.2.2.2 k), .int p1, .int p2] σ (some (.int x)) σ :=
  hb_C.of [some (.ref (G.2.2.2 k)), some (.int p1), some (.int p2)] (by decide +kernel) (Nat.le_of_ble_eq_true rfl) (by intro v hv; simp only [List.mem_cons, List.not_mem_nil, or_false] at hv; rcases hv with rfl | rfl | rfl <;> rfl) rfl (hb_pad [.ref (G.2.2.2 k), .int p1, .int p2] 0) (fun Γ X hr => wk_X2_placeBehind X hr k hk p1 p2 σ h rfl)
def fn_X2_reasonAt (k : Nat) (p1 : Int32) (p2 : Int32) (σ : hb_Mem) : Option Int32 :=
(fn_X5_pageAt p1).bind fun x1 =>
(fn_X5_flagsAt p1).bind fun x2 =>
if p2 < 0 then (
some 2)
else (
(fn_X1_at (hc_rf k 4) x1 σ).bind fun x3 =>
if p2 < x3 then (
(fn_X5_slotOf x1 p2).bind fun x4 =>
(fn_X1_at (hc_rf k 6) x4 σ).bind fun x5 =>
if (x5 &&& (x2 ^^^ (-1))) = 0 then (
(fn_X1_at (hc_rf k 7) x4 σ).bind fun x6 =>
if (x6 &&& x2) = 0 then (
some 0)
else (
some 4))
else (
some 3))
else (
some 2))
set_option maxRecDepth 100000 in
set_option maxHeartbeats 4000000 in
theorem wk_X2_reasonAt {Γ : hb_Ctx} {G : hb_Gam} {Q : State → Prop} (X : hb_X Γ cX2_reasonAt 6 RX2 ΛC G 1 21) (hr : hb_ret Γ = (some .int)) (k : Nat) (hk : hb_is ΛC k 2) (p1 : Int32) (p2 : Int32) (σ : hb_Mem) {x : Int32} (h : fn_X2_reasonAt k p1 p2 σ = some x) (K : Q = hb_Q Γ ΛC G (some (.int x)) σ) : hb_W Γ ΛC G 6 Q σ [some (.ref (G.2.2.2 k)), some (.int p1), some (.int p2), none, none, none] [] 0 := by
  unfold fn_X2_reasonAt at h
  refine ww_iload_n 1 X dX2_reasonAt_0 rfl rfl ?_
  obtain ⟨x1, hx1, h⟩ := hb_bind_of h
  refine ww_callSN (rest := []) (st' := [.int x1]) 4 X (ct_X5_pageAt (hb_l Γ) G p1 σ hx1) cw_X2_87 rfl ⟨by decide, by decide⟩ (Nat.le_of_ble_eq_true rfl) rfl rfl dX2_reasonAt_1 rfl ?_
  refine ww_istore_n 5 X (L' := [some (.ref (G.2.2.2 k)), some (.int p1), some (.int p2), some (.int x1), none, none]) dX2_reasonAt_4 rfl (Nat.le_of_ble_eq_true rfl) rfl ?_
  refine ww_iload_n 6 X dX2_reasonAt_5 rfl rfl ?_
  obtain ⟨x2, hx2, h⟩ := hb_bind_of h
  refine ww_callSN (rest := []) (st' := [.int x2]) 9 X (ct_X5_flagsAt (hb_l Γ) G p1 σ hx2) cw_X2_90 rfl ⟨by decide, by decide⟩ (Nat.le_of_ble_eq_true rfl) rfl rfl dX2_reasonAt_6 rfl ?_
  refine ww_istore 11 X (L' := [some (.ref (G.2.2.2 k)), some (.int p1), some (.int p2), some (.int x1), some (.int x2), none]) dX2_reasonAt_9 rfl (Nat.le_of_ble_eq_true rfl) rfl ?_
  refine ww_iload_n 12 X dX2_reasonAt_11 rfl rfl ?_
  refine ww_if_lt 27 15 X dX2_reasonAt_12 (by decide) rfl h (fun h => ?_) (fun h => ?_)
  · skip
    refine ww_iconst (v := 2) 28 X dX2_reasonAt_27 rfl (by decide) ?_
    obtain rfl := Option.some.inj h
    exact ww_ret_i X hr K dX2_reasonAt_28
  · skip
    refine ww_iload_n 16 X dX2_reasonAt_15 rfl rfl ?_
    refine ww_aload_n 17 X dX2_reasonAt_16 rfl rfl ?_
    refine ww_getr (ci := 2) (j := 4) 20 X cf_2 tw_X2_30 (by decide) rfl hk dX2_reasonAt_17 rfl ?_
    refine ww_iload_n 21 X dX2_reasonAt_20 rfl rfl ?_
    obtain ⟨x3, hx3, h⟩ := hb_bind_of h
    refine ww_callV (ci := 1) (rest := [.int p2]) (st' := [.int x3, .int p2]) 24 X (ct_X1_at (hb_l Γ) G (hc_rf k 4) (hc_kr_2_4 hk) x1 σ hx3) cw_X2_62 rfl (by decide) (hc_kr_2_4 hk) rfl ⟨by decide, by decide⟩ (Nat.le_of_ble_eq_true rfl) rfl rfl dX2_reasonAt_21 rfl ?_
    refine ww_icmp_lt 29 27 X dX2_reasonAt_24 (by decide) rfl h (fun h => ?_) (fun h => ?_)
    · skip
      refine ww_iload_n 30 X dX2_reasonAt_29 rfl rfl ?_
      refine ww_iload_n 31 X dX2_reasonAt_30 rfl rfl ?_
      obtain ⟨x4, hx4, h⟩ := hb_bind_of h
      refine ww_callSN (rest := []) (st' := [.int x4]) 34 X (ct_X5_slotOf (hb_l Γ) G x1 p2 σ hx4) cw_X2_73 rfl ⟨by decide, by decide⟩ (Nat.le_of_ble_eq_true rfl) rfl rfl dX2_reasonAt_31 rfl ?_
      refine ww_istore 36 X (L' := [some (.ref (G.2.2.2 k)), some (.int p1), some (.int p2), some (.int x1), some (.int x2), some (.int x4)]) dX2_reasonAt_34 rfl (Nat.le_of_ble_eq_true rfl) rfl ?_
      refine ww_aload_n 37 X dX2_reasonAt_36 rfl rfl ?_
      refine ww_getr (ci := 2) (j := 6) 40 X cf_2 tw_X2_36 (by decide) rfl hk dX2_reasonAt_37 rfl ?_
      refine ww_iload 42 X dX2_reasonAt_40 rfl rfl ?_
      obtain ⟨x5, hx5, h⟩ := hb_bind_of h
      refine ww_callV (ci := 1) (rest := []) (st' := [.int x5]) 45 X (ct_X1_at (hb_l Γ) G (hc_rf k 6) (hc_kr_2_6 hk) x4 σ hx5) cw_X2_62 rfl (by decide) (hc_kr_2_6 hk) rfl ⟨by decide, by decide⟩ (Nat.le_of_ble_eq_true rfl) rfl rfl dX2_reasonAt_42 rfl ?_
      refine ww_iload 47 X dX2_reasonAt_45 rfl rfl ?_
      refine ww_iconst (v := (-1)) 48 X dX2_reasonAt_47 rfl (by decide) ?_
      refine ww_ixor 49 X dX2_reasonAt_48 rfl ?_
      refine ww_iand 50 X dX2_reasonAt_49 rfl ?_
      refine ww_if_eq 55 53 X dX2_reasonAt_50 (by decide) rfl h (fun h => ?_) (fun h => ?_)
      · skip
        refine ww_aload_n 56 X dX2_reasonAt_55 rfl rfl ?_
        refine ww_getr (ci := 2) (j := 7) 59 X cf_2 tw_X2_39 (by decide) rfl hk dX2_reasonAt_56 rfl ?_
        refine ww_iload 61 X dX2_reasonAt_59 rfl rfl ?_
        obtain ⟨x6, hx6, h⟩ := hb_bind_of h
        refine ww_callV (ci := 1) (rest := []) (st' := [.int x6]) 64 X (ct_X1_at (hb_l Γ) G (hc_rf k 7) (hc_kr_2_7 hk) x4 σ hx6) cw_X2_62 rfl (by decide) (hc_kr_2_7 hk) rfl ⟨by decide, by decide⟩ (Nat.le_of_ble_eq_true rfl) rfl rfl dX2_reasonAt_61 rfl ?_
        refine ww_iload 66 X dX2_reasonAt_64 rfl rfl ?_
        refine ww_iand 67 X dX2_reasonAt_66 rfl ?_
        refine ww_if_eq 74 70 X dX2_reasonAt_67 (by decide) rfl h (fun h => ?_) (fun h => ?_)
        · skip
          refine ww_iconst (v := 0) 75 X dX2_reasonAt_74 rfl (by decide) ?_
          obtain rfl := Option.some.inj h
          exact ww_ret_i X hr K dX2_reasonAt_75
        · skip
          refine ww_iconst (v := 4) 71 X dX2_reasonAt_70 rfl (by decide) ?_
          refine ww_goto 75 X dX2_reasonAt_71 (by decide) ?_
          obtain rfl := Option.some.inj h
          exact ww_ret_i X hr K dX2_reasonAt_75
      · skip
        refine ww_iconst (v := 3) 54 X dX2_reasonAt_53 rfl (by decide) ?_
        obtain rfl := Option.some.inj h
        exact ww_ret_i X hr K dX2_reasonAt_54
    · skip
      refine ww_iconst (v := 2) 28 X dX2_reasonAt_27 rfl (by decide) ?_
      obtain rfl := Option.some.inj h
      exact ww_ret_i X hr K dX2_reasonAt_28
theorem ct_X2_reasonAt (l : Launch) (G : hb_Gam) (k : Nat) (hk : hb_is ΛC k 2) (p1 : Int32) (p2 : Int32) (σ : hb_Mem) {x : Int32} (h : fn_X2_reasonAt k p1 p2 σ = some x) : hb_C l yX2_reasonAt cX2_reasonAt 6 (some .int) 1 21 ΛC G [.ref (G.2.2.2 k), .int p1, .int p2] σ (some (.int x)) σ :=
  hb_C.of [some (.ref (G.2.2.2 k)), some (.int p1), some (.int p2), none, none, none] (by decide +kernel) (Nat.le_of_ble_eq_true rfl) (by intro v hv; simp only [List.mem_cons, List.not_mem_nil, or_false] at hv; rcases hv with rfl | rfl | rfl <;> rfl) rfl (hb_pad [.ref (G.2.2.2 k), .int p1, .int p2] 3) (fun Γ X hr => wk_X2_reasonAt X hr k hk p1 p2 σ h rfl)
def fn_X2_reasonAgainst (k : Nat) (p1 : Int32) (p2 : Int32) (σ : hb_Mem) : Option Int32 :=
(fn_X1_at (hc_rf k 8) p1 σ).bind fun x1 =>
if x1 = (-1) then (
some 1)
else (
(fn_X2_reasonAt k x1 p2 σ).bind fun x2 =>
some x2)
set_option maxRecDepth 100000 in
set_option maxHeartbeats 4000000 in
theorem wk_X2_reasonAgainst {Γ : hb_Ctx} {G : hb_Gam} {Q : State → Prop} (X : hb_X Γ cX2_reasonAgainst 4 RX2 ΛC G 2 46) (hr : hb_ret Γ = (some .int)) (k : Nat) (hk : hb_is ΛC k 2) (p1 : Int32) (p2 : Int32) (σ : hb_Mem) {x : Int32} (h : fn_X2_reasonAgainst k p1 p2 σ = some x) (K : Q = hb_Q Γ ΛC G (some (.int x)) σ) : hb_W Γ ΛC G 4 Q σ [some (.ref (G.2.2.2 k)), some (.int p1), some (.int p2), none] [] 0 := by
  unfold fn_X2_reasonAgainst at h
  refine ww_aload_n 1 X dX2_reasonAgainst_0 rfl rfl ?_
  refine ww_getr (ci := 2) (j := 8) 4 X cf_2 tw_X2_42 (by decide) rfl hk dX2_reasonAgainst_1 rfl ?_
  refine ww_iload_n 5 X dX2_reasonAgainst_4 rfl rfl ?_
  obtain ⟨x1, hx1, h⟩ := hb_bind_of h
  refine ww_callV (ci := 1) (rest := []) (st' := [.int x1]) 8 X (ct_X1_at (hb_l Γ) G (hc_rf k 8) (hc_kr_2_8 hk) p1 σ hx1) cw_X2_62 rfl (by decide) (hc_kr_2_8 hk) rfl ⟨by decide, by decide⟩ (Nat.le_of_ble_eq_true rfl) rfl rfl dX2_reasonAgainst_5 rfl ?_
  refine ww_istore_n 9 X (L' := [some (.ref (G.2.2.2 k)), some (.int p1), some (.int p2), some (.int x1)]) dX2_reasonAgainst_8 rfl (Nat.le_of_ble_eq_true rfl) rfl ?_
  refine ww_iload_n 10 X dX2_reasonAgainst_9 rfl rfl ?_
  refine ww_iconst (v := (-1)) 11 X dX2_reasonAgainst_10 rfl (by decide) ?_
  refine ww_icmp_ne 18 14 X dX2_reasonAgainst_11 (by decide) rfl h (fun h => ?_) (fun h => ?_)
  · skip
    refine ww_iconst (v := 1) 15 X dX2_reasonAgainst_14 rfl (by decide) ?_
    refine ww_goto 24 X dX2_reasonAgainst_15 (by decide) ?_
    obtain rfl := Option.some.inj h
    exact ww_ret_i X hr K dX2_reasonAgainst_24
  · skip
    refine ww_aload_n 19 X dX2_reasonAgainst_18 rfl rfl ?_
    refine ww_iload_n 20 X dX2_reasonAgainst_19 rfl rfl ?_
    refine ww_iload_n 21 X dX2_reasonAgainst_20 rfl rfl ?_
    obtain ⟨x2, hx2, h⟩ := hb_bind_of h
    refine ww_callV (ci := 2) (rest := []) (st' := [.int x2]) 24 X (ct_X2_reasonAt (hb_l Γ) G k hk x1 p2 σ hx2) cw_X2_108 rfl (by decide) hk rfl ⟨by decide, by decide⟩ (Nat.le_of_ble_eq_true rfl) rfl rfl dX2_reasonAgainst_21 rfl ?_
    obtain rfl := Option.some.inj h
    exact ww_ret_i X hr K dX2_reasonAgainst_24
theorem ct_X2_reasonAgainst (l : Launch) (G : hb_Gam) (k : Nat) (hk : hb_is ΛC k 2) (p1 : Int32) (p2 : Int32) (σ : hb_Mem) {x : Int32} (h : fn_X2_reasonAgainst k p1 p2 σ = some x) : hb_C l yX2_reasonAgainst cX2_reasonAgainst 4 (some .int) 2 46 ΛC G [.ref (G.2.2.2 k), .int p1, .int p2] σ (some (.int x)) σ :=
  hb_C.of [some (.ref (G.2.2.2 k)), some (.int p1), some (.int p2), none] (by decide +kernel) (Nat.le_of_ble_eq_true rfl) (by intro v hv; simp only [List.mem_cons, List.not_mem_nil, or_false] at hv; rcases hv with rfl | rfl | rfl <;> rfl) rfl (hb_pad [.ref (G.2.2.2 k), .int p1, .int p2] 1) (fun Γ X hr => wk_X2_reasonAgainst X hr k hk p1 p2 σ h rfl)
def jn_X2_openChoices_24 (k : Nat) (p1 : Int32) (j2 : Int32) (j3 : Int32) (σ : hb_Mem) : Option ((Int32 × Int32) ⊕ Int32) :=
hb_nm (j3 + 1) fun v2 =>
some (.inl (j2, v2))
set_option maxRecDepth 100000 in
set_option maxHeartbeats 4000000 in
theorem jw_X2_openChoices_24 {Γ : hb_Ctx} {G : hb_Gam} {Q : State → Prop} (X : hb_X Γ cX2_openChoices 4 RX2 ΛC G 2 46) (hr : hb_ret Γ = (some .int)) (k : Nat) (hk : hb_is ΛC k 2) (p1 : Int32) (j2 : Int32) (j3 : Int32) (σ : hb_Mem) {x : ((Int32 × Int32) ⊕ Int32)} (h : jn_X2_openChoices_24 k p1 j2 j3 σ = some x) (K : Sum.elim (fun s : (Int32 × Int32) => hb_W Γ ΛC G 4 Q σ [some (.ref (G.2.2.2 k)), some (.int p1), some (.int s.1), some (.int s.2)] [] 4) (fun t : Int32 => hb_W Γ ΛC G 4 Q σ [none, none, some (.int t), none] [] 30) x) : hb_W Γ ΛC G 4 Q σ [some (.ref (G.2.2.2 k)), some (.int p1), some (.int j2), some (.int j3)] [] 24 := by
  unfold jn_X2_openChoices_24 at h
  obtain ⟨v2, ev2, h⟩ := hb_nm_of h
  refine ww_iinc 27 X (L' := [some (.ref (G.2.2.2 k)), some (.int p1), some (.int j2), some (.int v2)]) dX2_openChoices_24 rfl rfl ev2.symm rfl ?_
  refine ww_goto 4 X dX2_openChoices_27 (by decide) ?_
  obtain rfl := Option.some.inj h
  exact K
def lb_X2_openChoices_4 (k : Nat) (p1 : Int32) (w2 : Int32) (w3 : Int32) (σ : hb_Mem) : Option ((Int32 × Int32) ⊕ Int32) :=
if 3 ≤ w3 then (
some (.inr w2))
else (
(fn_X2_reasonAt k p1 w3 σ).bind fun x1 =>
if x1 = 0 then (
hb_nm (w2 ||| ((1 : Int32) <<< (w3 &&& 31))) fun v3 =>
jn_X2_openChoices_24 k p1 v3 w3 σ)
else (
jn_X2_openChoices_24 k p1 w2 w3 σ))
set_option maxRecDepth 100000 in
set_option maxHeartbeats 4000000 in
theorem lk_X2_openChoices_4 {Γ : hb_Ctx} {G : hb_Gam} {Q : State → Prop} (X : hb_X Γ cX2_openChoices 4 RX2 ΛC G 2 46)  (k : Nat) (hk : hb_is ΛC k 2) (p1 : Int32) (w2 : Int32) (w3 : Int32) (σ : hb_Mem) {x : ((Int32 × Int32) ⊕ Int32)} (h : lb_X2_openChoices_4 k p1 w2 w3 σ = some x) (K : Sum.elim (fun s : (Int32 × Int32) => hb_W Γ ΛC G 4 Q σ [some (.ref (G.2.2.2 k)), some (.int p1), some (.int s.1), some (.int s.2)] [] 4) (fun t : Int32 => hb_W Γ ΛC G 4 Q σ [none, none, some (.int t), none] [] 30) x) : hb_W Γ ΛC G 4 Q σ [some (.ref (G.2.2.2 k)), some (.int p1), some (.int w2), some (.int w3)] [] 4 := by
  unfold lb_X2_openChoices_4 at h
  refine ww_iload_n 5 X dX2_openChoices_4 rfl rfl ?_
  refine ww_iconst (v := 3) 6 X dX2_openChoices_5 rfl (by decide) ?_
  refine ww_icmp_ge 30 9 X dX2_openChoices_6 (by decide) rfl h (fun h => ?_) (fun h => ?_)
  · skip
    obtain rfl := Option.some.inj h
    refine ww_kill [0, 1, 3] (L' := [none, none, some (.int w2), none]) rfl ?_
    exact K
  · skip
    refine ww_aload_n 10 X dX2_openChoices_9 rfl rfl ?_
    refine ww_iload_n 11 X dX2_openChoices_10 rfl rfl ?_
    refine ww_iload_n 12 X dX2_openChoices_11 rfl rfl ?_
    obtain ⟨x1, hx1, h⟩ := hb_bind_of h
    refine ww_callV (ci := 2) (rest := []) (st' := [.int x1]) 15 X (ct_X2_reasonAt (hb_l Γ) G k hk p1 w3 σ hx1) cw_X2_108 rfl (by decide) hk rfl ⟨by decide, by decide⟩ (Nat.le_of_ble_eq_true rfl) rfl rfl dX2_openChoices_12 rfl ?_
    refine ww_if_ne 24 18 X dX2_openChoices_15 (by decide) rfl h (fun h => ?_) (fun h => ?_)
    · skip
      refine ww_iload_n 19 X dX2_openChoices_18 rfl rfl ?_
      refine ww_iconst (v := 1) 20 X dX2_openChoices_19 rfl (by decide) ?_
      refine ww_iload_n 21 X dX2_openChoices_20 rfl rfl ?_
      refine ww_ishl 22 X dX2_openChoices_21 rfl ?_
      refine ww_ior 23 X dX2_openChoices_22 rfl ?_
      obtain ⟨v3, ev3, h⟩ := hb_nm_of h
      rw [← ev3]
      refine ww_istore_n 24 X (L' := [some (.ref (G.2.2.2 k)), some (.int p1), some (.int v3), some (.int w3)]) dX2_openChoices_23 rfl (Nat.le_of_ble_eq_true rfl) rfl ?_
      exact jw_X2_openChoices_24 X hr k hk p1 v3 w3 σ h K
    · skip
      exact jw_X2_openChoices_24 X hr k hk p1 w2 w3 σ h K
def ll_X2_openChoices_4 (k : Nat) (p1 : Int32) (σ : hb_Mem) : (Int32 × Int32) → Option Int32 := hb_lp (fun s => lb_X2_openChoices_4 k p1 s.1 s.2 σ) hb_F
theorem lw_X2_openChoices_4 {Γ : hb_Ctx} {G : hb_Gam} {Q : State → Prop} (X : hb_X Γ cX2_openChoices 4 RX2 ΛC G 2 46)  (k : Nat) (hk : hb_is ΛC k 2) (p1 : Int32) (σ : hb_Mem) (s : (Int32 × Int32)) (t : Int32) (h : ll_X2_openChoices_4 k p1 σ s = some t) (K : (fun t : Int32 => hb_W Γ ΛC G 4 Q σ [none, none, some (.int t), none] [] 30) t) : hb_W Γ ΛC G 4 Q σ [some (.ref (G.2.2.2 k)), some (.int p1), some (.int s.1), some (.int s.2)] [] 4 :=
  hb_lp_w (P := fun s : (Int32 × Int32) => hb_W Γ ΛC G 4 Q σ [some (.ref (G.2.2.2 k)), some (.int p1), some (.int s.1), some (.int s.2)] [] 4) (E := (fun t : Int32 => hb_W Γ ΛC G 4 Q σ [none, none, some (.int t), none] [] 30)) (fun s x hx K => lk_X2_openChoices_4 X k hk p1 s.1 s.2 σ hx K) _ s t h K
def fn_X2_openChoices (k : Nat) (p1 : Int32) (σ : hb_Mem) : Option Int32 :=
(ll_X2_openChoices_4 k p1 σ (0, 0)).bind fun t4 =>
some t4
set_option maxRecDepth 100000 in
set_option maxHeartbeats 4000000 in
theorem wk_X2_openChoices {Γ : hb_Ctx} {G : hb_Gam} {Q : State → Prop} (X : hb_X Γ cX2_openChoices 4 RX2 ΛC G 2 46) (hr : hb_ret Γ = (some .int)) (k : Nat) (hk : hb_is ΛC k 2) (p1 : Int32) (σ : hb_Mem) {x : Int32} (h : fn_X2_openChoices k p1 σ = some x) (K : Q = hb_Q Γ ΛC G (some (.int x)) σ) : hb_W Γ ΛC G 4 Q σ [some (.ref (G.2.2.2 k)), some (.int p1), none, none] [] 0 := by
  unfold fn_X2_openChoices at h
  refine ww_iconst (v := 0) 1 X dX2_openChoices_0 rfl (by decide) ?_
  refine ww_istore_n 2 X (L' := [some (.ref (G.2.2.2 k)), some (.int p1), some (.int 0), none]) dX2_openChoices_1 rfl (Nat.le_of_ble_eq_true rfl) rfl ?_
  refine ww_iconst (v := 0) 3 X dX2_openChoices_2 rfl (by decide) ?_
  refine ww_istore_n 4 X (L' := [some (.ref (G.2.2.2 k)), some (.int p1), some (.int 0), some (.int 0)]) dX2_openChoices_3 rfl (Nat.le_of_ble_eq_true rfl) rfl ?_
  obtain ⟨t4, ht4, h⟩ := hb_bind_of h
  refine lw_X2_openChoices_4 X k hk p1 σ (0, 0) t4 ht4 ?_
  refine ww_iload_n 31 X dX2_openChoices_30 rfl rfl ?_
  obtain rfl := Option.some.inj h
  exact ww_ret_i X hr K dX2_openChoices_31
theorem ct_X2_openChoices (l : Launch) (G : hb_Gam) (k : Nat) (hk : hb_is ΛC k 2) (p1 : Int32) (σ : hb_Mem) {x : Int32} (h : fn_X2_openChoices k p1 σ = some x) : hb_C l yX2_openChoices cX2_openChoices 4 (some .int) 2 46 ΛC G [.ref (G.2.2.2 k), .int p1] σ (some (.int x)) σ :=
  hb_C.of [some (.ref (G.2.2.2 k)), some (.int p1), none, none] (by decide +kernel) (Nat.le_of_ble_eq_true rfl) (by intro v hv; simp only [List.mem_cons, List.not_mem_nil, or_false] at hv; rcases hv with rfl | rfl <;> rfl) rfl (hb_pad [.ref (G.2.2.2 k), .int p1] 2) (fun Γ X hr => wk_X2_openChoices X hr k hk p1 σ h rfl)
end
section
theorem zz_last : True := trivial
end
