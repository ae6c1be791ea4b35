-- ===== PART A: goes FIRST, ahead of the names: the tables' words, and 'selects' of the private methods out of them =====
/-- a private method of a class that the tables say can be made, by its rows of tables_1 -/
def lw_okq (q : MethodName × Nat) : Prop := (q.1.cls ≠ "java/lang/invoke/MethodHandle" ∧ q.1.cls ≠ "java/lang/invoke/VarHandle") ∧ Cond.instantiable q.1.cls q.2 ∈ tables_1 ∧ Cond.privateMethod q.1 ∈ tables_1 ∧ Cond.instanceMethod q.1 ∈ tables_1
theorem lw_p0 : lw_okq (⟨"PathBook", "record", "()V"⟩, 7) := ⟨⟨by decide +kernel, by decide +kernel⟩, List.mem_of_getElem? (i := 10) (by decide +kernel), List.mem_of_getElem? (i := 231) (by decide +kernel), List.mem_of_getElem? (i := 232) (by decide +kernel)⟩
theorem lw_p1 : lw_okq (⟨"PathBook$History", "stateAt", "(I)LPathBook$State;"⟩, 3) := ⟨⟨by decide +kernel, by decide +kernel⟩, List.mem_of_getElem? (i := 85) (by decide +kernel), List.mem_of_getElem? (i := 239) (by decide +kernel), List.mem_of_getElem? (i := 240) (by decide +kernel)⟩
theorem lw_p2 : lw_okq (⟨"PathBook$Text", "parseChoice", "()V"⟩, 9) := ⟨⟨by decide +kernel, by decide +kernel⟩, List.mem_of_getElem? (i := 105) (by decide +kernel), List.mem_of_getElem? (i := 299) (by decide +kernel), List.mem_of_getElem? (i := 300) (by decide +kernel)⟩
theorem lw_p3 : lw_okq (⟨"PathBook$Text", "parseNumber", "()I"⟩, 9) := ⟨⟨by decide +kernel, by decide +kernel⟩, List.mem_of_getElem? (i := 105) (by decide +kernel), List.mem_of_getElem? (i := 303) (by decide +kernel), List.mem_of_getElem? (i := 304) (by decide +kernel)⟩
theorem lw_p4 : lw_okq (⟨"PathBook$Text", "sign", "()I"⟩, 9) := ⟨⟨by decide +kernel, by decide +kernel⟩, List.mem_of_getElem? (i := 105) (by decide +kernel), List.mem_of_getElem? (i := 307) (by decide +kernel), List.mem_of_getElem? (i := 308) (by decide +kernel)⟩
theorem lw_p5 : lw_okq (⟨"PathBook$Text", "parseArrow", "()V"⟩, 9) := ⟨⟨by decide +kernel, by decide +kernel⟩, List.mem_of_getElem? (i := 105) (by decide +kernel), List.mem_of_getElem? (i := 315) (by decide +kernel), List.mem_of_getElem? (i := 316) (by decide +kernel)⟩
theorem lw_p6 : lw_okq (⟨"PathBook$Text", "parseFlags", "(C)I"⟩, 9) := ⟨⟨by decide +kernel, by decide +kernel⟩, List.mem_of_getElem? (i := 105) (by decide +kernel), List.mem_of_getElem? (i := 319) (by decide +kernel), List.mem_of_getElem? (i := 320) (by decide +kernel)⟩
theorem lw_p7 : lw_okq (⟨"PathBook", "surveyed", "()LPathBook$Survey;"⟩, 7) := ⟨⟨by decide +kernel, by decide +kernel⟩, List.mem_of_getElem? (i := 10) (by decide +kernel), List.mem_of_getElem? (i := 468) (by decide +kernel), List.mem_of_getElem? (i := 469) (by decide +kernel)⟩
theorem lw_p8 : lw_okq (⟨"PathBook$Survey", "findPlaces", "(LPathBook$State;)V"⟩, 12) := ⟨⟨by decide +kernel, by decide +kernel⟩, List.mem_of_getElem? (i := 148) (by decide +kernel), List.mem_of_getElem? (i := 476) (by decide +kernel), List.mem_of_getElem? (i := 477) (by decide +kernel)⟩
theorem lw_p9 : lw_okq (⟨"PathBook$Survey", "addPlace", "(IIII)V"⟩, 12) := ⟨⟨by decide +kernel, by decide +kernel⟩, List.mem_of_getElem? (i := 148) (by decide +kernel), List.mem_of_getElem? (i := 482) (by decide +kernel), List.mem_of_getElem? (i := 483) (by decide +kernel)⟩
theorem lw_p10 : lw_okq (⟨"PathBook$Survey", "isReached", "(I)Z"⟩, 12) := ⟨⟨by decide +kernel, by decide +kernel⟩, List.mem_of_getElem? (i := 148) (by decide +kernel), List.mem_of_getElem? (i := 486) (by decide +kernel), List.mem_of_getElem? (i := 487) (by decide +kernel)⟩
theorem lw_p11 : lw_okq (⟨"PathBook$Survey", "findAhead", "(LPathBook$State;)V"⟩, 12) := ⟨⟨by decide +kernel, by decide +kernel⟩, List.mem_of_getElem? (i := 148) (by decide +kernel), List.mem_of_getElem? (i := 500) (by decide +kernel), List.mem_of_getElem? (i := 501) (by decide +kernel)⟩
theorem lw_p12 : lw_okq (⟨"PathBook$Survey", "growAhead", "(LPathBook$State;)Z"⟩, 12) := ⟨⟨by decide +kernel, by decide +kernel⟩, List.mem_of_getElem? (i := 148) (by decide +kernel), List.mem_of_getElem? (i := 504) (by decide +kernel), List.mem_of_getElem? (i := 505) (by decide +kernel)⟩
theorem lw_p13 : lw_okq (⟨"PathBook$Survey", "findEnds", "(LPathBook$State;)V"⟩, 12) := ⟨⟨by decide +kernel, by decide +kernel⟩, List.mem_of_getElem? (i := 148) (by decide +kernel), List.mem_of_getElem? (i := 509) (by decide +kernel), List.mem_of_getElem? (i := 510) (by decide +kernel)⟩
theorem lw_p14 : lw_okq (⟨"PathBook$Survey", "findWay", "()V"⟩, 12) := ⟨⟨by decide +kernel, by decide +kernel⟩, List.mem_of_getElem? (i := 148) (by decide +kernel), List.mem_of_getElem? (i := 515) (by decide +kernel), List.mem_of_getElem? (i := 516) (by decide +kernel)⟩
theorem lw_p15 : lw_okq (⟨"PathBook$Survey", "layWay", "(I)V"⟩, 12) := ⟨⟨by decide +kernel, by decide +kernel⟩, List.mem_of_getElem? (i := 148) (by decide +kernel), List.mem_of_getElem? (i := 519) (by decide +kernel), List.mem_of_getElem? (i := 520) (by decide +kernel)⟩
def lw_privs_1 : List (MethodName × Nat) := [(⟨"PathBook", "record", "()V"⟩, 7), (⟨"PathBook$History", "stateAt", "(I)LPathBook$State;"⟩, 3), (⟨"PathBook$Text", "parseChoice", "()V"⟩, 9), (⟨"PathBook$Text", "parseNumber", "()I"⟩, 9), (⟨"PathBook$Text", "sign", "()I"⟩, 9), (⟨"PathBook$Text", "parseArrow", "()V"⟩, 9), (⟨"PathBook$Text", "parseFlags", "(C)I"⟩, 9), (⟨"PathBook", "surveyed", "()LPathBook$Survey;"⟩, 7), (⟨"PathBook$Survey", "findPlaces", "(LPathBook$State;)V"⟩, 12), (⟨"PathBook$Survey", "addPlace", "(IIII)V"⟩, 12), (⟨"PathBook$Survey", "isReached", "(I)Z"⟩, 12), (⟨"PathBook$Survey", "findAhead", "(LPathBook$State;)V"⟩, 12), (⟨"PathBook$Survey", "growAhead", "(LPathBook$State;)Z"⟩, 12), (⟨"PathBook$Survey", "findEnds", "(LPathBook$State;)V"⟩, 12), (⟨"PathBook$Survey", "findWay", "()V"⟩, 12), (⟨"PathBook$Survey", "layWay", "(I)V"⟩, 12)]
theorem lw_r1 : ∀ q ∈ lw_privs_1, lw_okq q := List.forall_mem_cons.mpr ⟨lw_p0, List.forall_mem_cons.mpr ⟨lw_p1, List.forall_mem_cons.mpr ⟨lw_p2, List.forall_mem_cons.mpr ⟨lw_p3, List.forall_mem_cons.mpr ⟨lw_p4, List.forall_mem_cons.mpr ⟨lw_p5, List.forall_mem_cons.mpr ⟨lw_p6, List.forall_mem_cons.mpr ⟨lw_p7, List.forall_mem_cons.mpr ⟨lw_p8, List.forall_mem_cons.mpr ⟨lw_p9, List.forall_mem_cons.mpr ⟨lw_p10, List.forall_mem_cons.mpr ⟨lw_p11, List.forall_mem_cons.mpr ⟨lw_p12, List.forall_mem_cons.mpr ⟨lw_p13, List.forall_mem_cons.mpr ⟨lw_p14, List.forall_mem_cons.mpr ⟨lw_p15, fun _ h => absurd h List.not_mem_nil⟩⟩⟩⟩⟩⟩⟩⟩⟩⟩⟩⟩⟩⟩⟩⟩
theorem lw_p16 : lw_okq (⟨"PathBook$Survey", "isStuck", "(I)Z"⟩, 12) := ⟨⟨by decide +kernel, by decide +kernel⟩, List.mem_of_getElem? (i := 148) (by decide +kernel), List.mem_of_getElem? (i := 541) (by decide +kernel), List.mem_of_getElem? (i := 542) (by decide +kernel)⟩
theorem lw_p17 : lw_okq (⟨"PathBookModel", "records", "()V"⟩, 20) := ⟨⟨by decide +kernel, by decide +kernel⟩, List.mem_of_getElem? (i := 608) (by decide +kernel), List.mem_of_getElem? (i := 688) (by decide +kernel), List.mem_of_getElem? (i := 689) (by decide +kernel)⟩
theorem lw_p18 : lw_okq (⟨"PathBookModel", "isPage", "(I)Z"⟩, 20) := ⟨⟨by decide +kernel, by decide +kernel⟩, List.mem_of_getElem? (i := 608) (by decide +kernel), List.mem_of_getElem? (i := 696) (by decide +kernel), List.mem_of_getElem? (i := 697) (by decide +kernel)⟩
theorem lw_p19 : lw_okq (⟨"PathBookModel", "of", "(II)I"⟩, 20) := ⟨⟨by decide +kernel, by decide +kernel⟩, List.mem_of_getElem? (i := 608) (by decide +kernel), List.mem_of_getElem? (i := 700) (by decide +kernel), List.mem_of_getElem? (i := 701) (by decide +kernel)⟩
theorem lw_p20 : lw_okq (⟨"PathBookModel", "whyNot", "(II)I"⟩, 20) := ⟨⟨by decide +kernel, by decide +kernel⟩, List.mem_of_getElem? (i := 608) (by decide +kernel), List.mem_of_getElem? (i := 708) (by decide +kernel), List.mem_of_getElem? (i := 709) (by decide +kernel)⟩
theorem lw_p21 : lw_okq (⟨"PathBookModel", "adds", "(IIII)I"⟩, 20) := ⟨⟨by decide +kernel, by decide +kernel⟩, List.mem_of_getElem? (i := 608) (by decide +kernel), List.mem_of_getElem? (i := 712) (by decide +kernel), List.mem_of_getElem? (i := 713) (by decide +kernel)⟩
theorem lw_p22 : lw_okq (⟨"PathBookModel", "isChoice", "(II)Z"⟩, 20) := ⟨⟨by decide +kernel, by decide +kernel⟩, List.mem_of_getElem? (i := 608) (by decide +kernel), List.mem_of_getElem? (i := 720) (by decide +kernel), List.mem_of_getElem? (i := 721) (by decide +kernel)⟩
theorem lw_p23 : lw_okq (⟨"PathBookModel", "ofChoice", "(III)I"⟩, 20) := ⟨⟨by decide +kernel, by decide +kernel⟩, List.mem_of_getElem? (i := 608) (by decide +kernel), List.mem_of_getElem? (i := 724) (by decide +kernel), List.mem_of_getElem? (i := 725) (by decide +kernel)⟩
theorem lw_p24 : lw_okq (⟨"PathBookModel", "leadingTo", "(I)I"⟩, 20) := ⟨⟨by decide +kernel, by decide +kernel⟩, List.mem_of_getElem? (i := 608) (by decide +kernel), List.mem_of_getElem? (i := 732) (by decide +kernel), List.mem_of_getElem? (i := 733) (by decide +kernel)⟩
theorem lw_p25 : lw_okq (⟨"PathBookModel", "firstPlace", "()I"⟩, 20) := ⟨⟨by decide +kernel, by decide +kernel⟩, List.mem_of_getElem? (i := 608) (by decide +kernel), List.mem_of_getElem? (i := 746) (by decide +kernel), List.mem_of_getElem? (i := 747) (by decide +kernel)⟩
theorem lw_p26 : lw_okq (⟨"PathBookModel", "coming", "(II)I"⟩, 20) := ⟨⟨by decide +kernel, by decide +kernel⟩, List.mem_of_getElem? (i := 608) (by decide +kernel), List.mem_of_getElem? (i := 750) (by decide +kernel), List.mem_of_getElem? (i := 751) (by decide +kernel)⟩
theorem lw_p27 : lw_okq (⟨"PathBookModel", "goes", "(IIII)V"⟩, 20) := ⟨⟨by decide +kernel, by decide +kernel⟩, List.mem_of_getElem? (i := 608) (by decide +kernel), List.mem_of_getElem? (i := 754) (by decide +kernel), List.mem_of_getElem? (i := 755) (by decide +kernel)⟩
theorem lw_p28 : lw_okq (⟨"PathBookModel", "reason", "(II)I"⟩, 20) := ⟨⟨by decide +kernel, by decide +kernel⟩, List.mem_of_getElem? (i := 608) (by decide +kernel), List.mem_of_getElem? (i := 762) (by decide +kernel), List.mem_of_getElem? (i := 763) (by decide +kernel)⟩
theorem lw_p29 : lw_okq (⟨"PathBookModel", "ofReader", "(II)I"⟩, 20) := ⟨⟨by decide +kernel, by decide +kernel⟩, List.mem_of_getElem? (i := 608) (by decide +kernel), List.mem_of_getElem? (i := 766) (by decide +kernel), List.mem_of_getElem? (i := 767) (by decide +kernel)⟩
theorem lw_p30 : lw_okq (⟨"PathBookModel", "isMarked", "(I)Z"⟩, 20) := ⟨⟨by decide +kernel, by decide +kernel⟩, List.mem_of_getElem? (i := 608) (by decide +kernel), List.mem_of_getElem? (i := 779) (by decide +kernel), List.mem_of_getElem? (i := 780) (by decide +kernel)⟩
theorem lw_p31 : lw_okq (⟨"PathBookModel", "choicesNow", "(I)I"⟩, 20) := ⟨⟨by decide +kernel, by decide +kernel⟩, List.mem_of_getElem? (i := 608) (by decide +kernel), List.mem_of_getElem? (i := 791) (by decide +kernel), List.mem_of_getElem? (i := 792) (by decide +kernel)⟩
def lw_privs_2 : List (MethodName × Nat) := [(⟨"PathBook$Survey", "isStuck", "(I)Z"⟩, 12), (⟨"PathBookModel", "records", "()V"⟩, 20), (⟨"PathBookModel", "isPage", "(I)Z"⟩, 20), (⟨"PathBookModel", "of", "(II)I"⟩, 20), (⟨"PathBookModel", "whyNot", "(II)I"⟩, 20), (⟨"PathBookModel", "adds", "(IIII)I"⟩, 20), (⟨"PathBookModel", "isChoice", "(II)Z"⟩, 20), (⟨"PathBookModel", "ofChoice", "(III)I"⟩, 20), (⟨"PathBookModel", "leadingTo", "(I)I"⟩, 20), (⟨"PathBookModel", "firstPlace", "()I"⟩, 20), (⟨"PathBookModel", "coming", "(II)I"⟩, 20), (⟨"PathBookModel", "goes", "(IIII)V"⟩, 20), (⟨"PathBookModel", "reason", "(II)I"⟩, 20), (⟨"PathBookModel", "ofReader", "(II)I"⟩, 20), (⟨"PathBookModel", "isMarked", "(I)Z"⟩, 20), (⟨"PathBookModel", "choicesNow", "(I)I"⟩, 20)]
theorem lw_r2 : ∀ q ∈ lw_privs_2, lw_okq q := List.forall_mem_cons.mpr ⟨lw_p16, List.forall_mem_cons.mpr ⟨lw_p17, List.forall_mem_cons.mpr ⟨lw_p18, List.forall_mem_cons.mpr ⟨lw_p19, List.forall_mem_cons.mpr ⟨lw_p20, List.forall_mem_cons.mpr ⟨lw_p21, List.forall_mem_cons.mpr ⟨lw_p22, List.forall_mem_cons.mpr ⟨lw_p23, List.forall_mem_cons.mpr ⟨lw_p24, List.forall_mem_cons.mpr ⟨lw_p25, List.forall_mem_cons.mpr ⟨lw_p26, List.forall_mem_cons.mpr ⟨lw_p27, List.forall_mem_cons.mpr ⟨lw_p28, List.forall_mem_cons.mpr ⟨lw_p29, List.forall_mem_cons.mpr ⟨lw_p30, List.forall_mem_cons.mpr ⟨lw_p31, fun _ h => absurd h List.not_mem_nil⟩⟩⟩⟩⟩⟩⟩⟩⟩⟩⟩⟩⟩⟩⟩⟩
theorem lw_p32 : lw_okq (⟨"PathBookModel", "mood", "(I)F"⟩, 20) := ⟨⟨by decide +kernel, by decide +kernel⟩, List.mem_of_getElem? (i := 608) (by decide +kernel), List.mem_of_getElem? (i := 799) (by decide +kernel), List.mem_of_getElem? (i := 800) (by decide +kernel)⟩
theorem lw_p33 : lw_okq (⟨"PathBookModel", "isEnd", "(I)Z"⟩, 20) := ⟨⟨by decide +kernel, by decide +kernel⟩, List.mem_of_getElem? (i := 608) (by decide +kernel), List.mem_of_getElem? (i := 814) (by decide +kernel), List.mem_of_getElem? (i := 815) (by decide +kernel)⟩
theorem lw_p34 : lw_okq (⟨"PathBookModel", "isHappy", "(I)Z"⟩, 20) := ⟨⟨by decide +kernel, by decide +kernel⟩, List.mem_of_getElem? (i := 608) (by decide +kernel), List.mem_of_getElem? (i := 818) (by decide +kernel), List.mem_of_getElem? (i := 819) (by decide +kernel)⟩
theorem lw_p35 : lw_okq (⟨"PathBookModel", "placesOf", "(I)I"⟩, 20) := ⟨⟨by decide +kernel, by decide +kernel⟩, List.mem_of_getElem? (i := 608) (by decide +kernel), List.mem_of_getElem? (i := 822) (by decide +kernel), List.mem_of_getElem? (i := 823) (by decide +kernel)⟩
theorem lw_p36 : lw_okq (⟨"PathBookModel", "reaches", "()V"⟩, 20) := ⟨⟨by decide +kernel, by decide +kernel⟩, List.mem_of_getElem? (i := 608) (by decide +kernel), List.mem_of_getElem? (i := 826) (by decide +kernel), List.mem_of_getElem? (i := 827) (by decide +kernel)⟩
theorem lw_p37 : lw_okq (⟨"PathBookModel", "forgets", "()V"⟩, 20) := ⟨⟨by decide +kernel, by decide +kernel⟩, List.mem_of_getElem? (i := 608) (by decide +kernel), List.mem_of_getElem? (i := 830) (by decide +kernel), List.mem_of_getElem? (i := 831) (by decide +kernel)⟩
theorem lw_p38 : lw_okq (⟨"PathBookModel", "comesTo", "(IIII)V"⟩, 20) := ⟨⟨by decide +kernel, by decide +kernel⟩, List.mem_of_getElem? (i := 608) (by decide +kernel), List.mem_of_getElem? (i := 834) (by decide +kernel), List.mem_of_getElem? (i := 835) (by decide +kernel)⟩
theorem lw_p39 : lw_okq (⟨"PathBookModel", "spreads", "()V"⟩, 20) := ⟨⟨by decide +kernel, by decide +kernel⟩, List.mem_of_getElem? (i := 608) (by decide +kernel), List.mem_of_getElem? (i := 838) (by decide +kernel), List.mem_of_getElem? (i := 839) (by decide +kernel)⟩
theorem lw_p40 : lw_okq (⟨"PathBookModel", "behind", "(II)I"⟩, 20) := ⟨⟨by decide +kernel, by decide +kernel⟩, List.mem_of_getElem? (i := 608) (by decide +kernel), List.mem_of_getElem? (i := 842) (by decide +kernel), List.mem_of_getElem? (i := 843) (by decide +kernel)⟩
theorem lw_p41 : lw_okq (⟨"PathBookModel", "canTake", "(III)Z"⟩, 20) := ⟨⟨by decide +kernel, by decide +kernel⟩, List.mem_of_getElem? (i := 608) (by decide +kernel), List.mem_of_getElem? (i := 846) (by decide +kernel), List.mem_of_getElem? (i := 847) (by decide +kernel)⟩
theorem lw_p42 : lw_okq (⟨"PathBookModel", "keepsPlaces", "()V"⟩, 20) := ⟨⟨by decide +kernel, by decide +kernel⟩, List.mem_of_getElem? (i := 608) (by decide +kernel), List.mem_of_getElem? (i := 850) (by decide +kernel), List.mem_of_getElem? (i := 851) (by decide +kernel)⟩
theorem lw_p43 : lw_okq (⟨"PathBookModel", "comesAgain", "(I)Z"⟩, 20) := ⟨⟨by decide +kernel, by decide +kernel⟩, List.mem_of_getElem? (i := 608) (by decide +kernel), List.mem_of_getElem? (i := 854) (by decide +kernel), List.mem_of_getElem? (i := 855) (by decide +kernel)⟩
theorem lw_p44 : lw_okq (⟨"PathBookModel", "stuckIn", "(II)I"⟩, 20) := ⟨⟨by decide +kernel, by decide +kernel⟩, List.mem_of_getElem? (i := 608) (by decide +kernel), List.mem_of_getElem? (i := 858) (by decide +kernel), List.mem_of_getElem? (i := 859) (by decide +kernel)⟩
theorem lw_p45 : lw_okq (⟨"PathBookModel", "findsEnds", "()V"⟩, 20) := ⟨⟨by decide +kernel, by decide +kernel⟩, List.mem_of_getElem? (i := 608) (by decide +kernel), List.mem_of_getElem? (i := 862) (by decide +kernel), List.mem_of_getElem? (i := 863) (by decide +kernel)⟩
theorem lw_p46 : lw_okq (⟨"PathBookModel", "leadsOn", "(I)Z"⟩, 20) := ⟨⟨by decide +kernel, by decide +kernel⟩, List.mem_of_getElem? (i := 608) (by decide +kernel), List.mem_of_getElem? (i := 866) (by decide +kernel), List.mem_of_getElem? (i := 867) (by decide +kernel)⟩
theorem lw_p47 : lw_okq (⟨"PathBookModel", "fewest", "(I)I"⟩, 20) := ⟨⟨by decide +kernel, by decide +kernel⟩, List.mem_of_getElem? (i := 608) (by decide +kernel), List.mem_of_getElem? (i := 870) (by decide +kernel), List.mem_of_getElem? (i := 871) (by decide +kernel)⟩
def lw_privs_3 : List (MethodName × Nat) := [(⟨"PathBookModel", "mood", "(I)F"⟩, 20), (⟨"PathBookModel", "isEnd", "(I)Z"⟩, 20), (⟨"PathBookModel", "isHappy", "(I)Z"⟩, 20), (⟨"PathBookModel", "placesOf", "(I)I"⟩, 20), (⟨"PathBookModel", "reaches", "()V"⟩, 20), (⟨"PathBookModel", "forgets", "()V"⟩, 20), (⟨"PathBookModel", "comesTo", "(IIII)V"⟩, 20), (⟨"PathBookModel", "spreads", "()V"⟩, 20), (⟨"PathBookModel", "behind", "(II)I"⟩, 20), (⟨"PathBookModel", "canTake", "(III)Z"⟩, 20), (⟨"PathBookModel", "keepsPlaces", "()V"⟩, 20), (⟨"PathBookModel", "comesAgain", "(I)Z"⟩, 20), (⟨"PathBookModel", "stuckIn", "(II)I"⟩, 20), (⟨"PathBookModel", "findsEnds", "()V"⟩, 20), (⟨"PathBookModel", "leadsOn", "(I)Z"⟩, 20), (⟨"PathBookModel", "fewest", "(I)I"⟩, 20)]
theorem lw_r3 : ∀ q ∈ lw_privs_3, lw_okq q := List.forall_mem_cons.mpr ⟨lw_p32, List.forall_mem_cons.mpr ⟨lw_p33, List.forall_mem_cons.mpr ⟨lw_p34, List.forall_mem_cons.mpr ⟨lw_p35, List.forall_mem_cons.mpr ⟨lw_p36, List.forall_mem_cons.mpr ⟨lw_p37, List.forall_mem_cons.mpr ⟨lw_p38, List.forall_mem_cons.mpr ⟨lw_p39, List.forall_mem_cons.mpr ⟨lw_p40, List.forall_mem_cons.mpr ⟨lw_p41, List.forall_mem_cons.mpr ⟨lw_p42, List.forall_mem_cons.mpr ⟨lw_p43, List.forall_mem_cons.mpr ⟨lw_p44, List.forall_mem_cons.mpr ⟨lw_p45, List.forall_mem_cons.mpr ⟨lw_p46, List.forall_mem_cons.mpr ⟨lw_p47, fun _ h => absurd h List.not_mem_nil⟩⟩⟩⟩⟩⟩⟩⟩⟩⟩⟩⟩⟩⟩⟩⟩
theorem lw_p48 : lw_okq (⟨"PathBookModel", "canBeTaken", "(II)I"⟩, 20) := ⟨⟨by decide +kernel, by decide +kernel⟩, List.mem_of_getElem? (i := 608) (by decide +kernel), List.mem_of_getElem? (i := 878) (by decide +kernel), List.mem_of_getElem? (i := 879) (by decide +kernel)⟩
theorem lw_p49 : lw_okq (⟨"PathBookModel", "findsWay", "()Z"⟩, 20) := ⟨⟨by decide +kernel, by decide +kernel⟩, List.mem_of_getElem? (i := 608) (by decide +kernel), List.mem_of_getElem? (i := 886) (by decide +kernel), List.mem_of_getElem? (i := 887) (by decide +kernel)⟩
theorem lw_p50 : lw_okq (⟨"PathBookModel", "choices", "()I"⟩, 20) := ⟨⟨by decide +kernel, by decide +kernel⟩, List.mem_of_getElem? (i := 608) (by decide +kernel), List.mem_of_getElem? (i := 898) (by decide +kernel), List.mem_of_getElem? (i := 899) (by decide +kernel)⟩
theorem lw_p51 : lw_okq (⟨"PathBookModel", "pagesThere", "(I)I"⟩, 20) := ⟨⟨by decide +kernel, by decide +kernel⟩, List.mem_of_getElem? (i := 608) (by decide +kernel), List.mem_of_getElem? (i := 902) (by decide +kernel), List.mem_of_getElem? (i := 903) (by decide +kernel)⟩
theorem lw_p52 : lw_okq (⟨"PathBookModel", "again", "()I"⟩, 20) := ⟨⟨by decide +kernel, by decide +kernel⟩, List.mem_of_getElem? (i := 608) (by decide +kernel), List.mem_of_getElem? (i := 906) (by decide +kernel), List.mem_of_getElem? (i := 907) (by decide +kernel)⟩
theorem lw_p53 : lw_okq (⟨"PathBookModel", "places", "()I"⟩, 20) := ⟨⟨by decide +kernel, by decide +kernel⟩, List.mem_of_getElem? (i := 608) (by decide +kernel), List.mem_of_getElem? (i := 910) (by decide +kernel), List.mem_of_getElem? (i := 911) (by decide +kernel)⟩
theorem lw_p54 : lw_okq (⟨"PathBookModel", "isRight", "()Z"⟩, 20) := ⟨⟨by decide +kernel, by decide +kernel⟩, List.mem_of_getElem? (i := 608) (by decide +kernel), List.mem_of_getElem? (i := 938) (by decide +kernel), List.mem_of_getElem? (i := 939) (by decide +kernel)⟩
theorem lw_p55 : lw_okq (⟨"PathBookModel", "takesChoice", "()V"⟩, 20) := ⟨⟨by decide +kernel, by decide +kernel⟩, List.mem_of_getElem? (i := 608) (by decide +kernel), List.mem_of_getElem? (i := 942) (by decide +kernel), List.mem_of_getElem? (i := 943) (by decide +kernel)⟩
theorem lw_p56 : lw_okq (⟨"PathBookModel", "number", "()I"⟩, 20) := ⟨⟨by decide +kernel, by decide +kernel⟩, List.mem_of_getElem? (i := 608) (by decide +kernel), List.mem_of_getElem? (i := 946) (by decide +kernel), List.mem_of_getElem? (i := 947) (by decide +kernel)⟩
theorem lw_p57 : lw_okq (⟨"PathBookModel", "here", "()I"⟩, 20) := ⟨⟨by decide +kernel, by decide +kernel⟩, List.mem_of_getElem? (i := 608) (by decide +kernel), List.mem_of_getElem? (i := 950) (by decide +kernel), List.mem_of_getElem? (i := 951) (by decide +kernel)⟩
theorem lw_p58 : lw_okq (⟨"PathBookModel", "takes", "(Z)V"⟩, 20) := ⟨⟨by decide +kernel, by decide +kernel⟩, List.mem_of_getElem? (i := 608) (by decide +kernel), List.mem_of_getElem? (i := 954) (by decide +kernel), List.mem_of_getElem? (i := 955) (by decide +kernel)⟩
theorem lw_p59 : lw_okq (⟨"PathBookModel", "flags", "(I)I"⟩, 20) := ⟨⟨by decide +kernel, by decide +kernel⟩, List.mem_of_getElem? (i := 608) (by decide +kernel), List.mem_of_getElem? (i := 958) (by decide +kernel), List.mem_of_getElem? (i := 959) (by decide +kernel)⟩
theorem lw_p60 : lw_okq (⟨"PathBookModel", "whyNotAll", "()I"⟩, 20) := ⟨⟨by decide +kernel, by decide +kernel⟩, List.mem_of_getElem? (i := 608) (by decide +kernel), List.mem_of_getElem? (i := 962) (by decide +kernel), List.mem_of_getElem? (i := 963) (by decide +kernel)⟩
def lw_privs_4 : List (MethodName × Nat) := [(⟨"PathBookModel", "canBeTaken", "(II)I"⟩, 20), (⟨"PathBookModel", "findsWay", "()Z"⟩, 20), (⟨"PathBookModel", "choices", "()I"⟩, 20), (⟨"PathBookModel", "pagesThere", "(I)I"⟩, 20), (⟨"PathBookModel", "again", "()I"⟩, 20), (⟨"PathBookModel", "places", "()I"⟩, 20), (⟨"PathBookModel", "isRight", "()Z"⟩, 20), (⟨"PathBookModel", "takesChoice", "()V"⟩, 20), (⟨"PathBookModel", "number", "()I"⟩, 20), (⟨"PathBookModel", "here", "()I"⟩, 20), (⟨"PathBookModel", "takes", "(Z)V"⟩, 20), (⟨"PathBookModel", "flags", "(I)I"⟩, 20), (⟨"PathBookModel", "whyNotAll", "()I"⟩, 20)]
theorem lw_r4 : ∀ q ∈ lw_privs_4, lw_okq q := List.forall_mem_cons.mpr ⟨lw_p48, List.forall_mem_cons.mpr ⟨lw_p49, List.forall_mem_cons.mpr ⟨lw_p50, List.forall_mem_cons.mpr ⟨lw_p51, List.forall_mem_cons.mpr ⟨lw_p52, List.forall_mem_cons.mpr ⟨lw_p53, List.forall_mem_cons.mpr ⟨lw_p54, List.forall_mem_cons.mpr ⟨lw_p55, List.forall_mem_cons.mpr ⟨lw_p56, List.forall_mem_cons.mpr ⟨lw_p57, List.forall_mem_cons.mpr ⟨lw_p58, List.forall_mem_cons.mpr ⟨lw_p59, List.forall_mem_cons.mpr ⟨lw_p60, fun _ h => absurd h List.not_mem_nil⟩⟩⟩⟩⟩⟩⟩⟩⟩⟩⟩⟩⟩
def lw_privs : List (MethodName × Nat) := lw_privs_1 ++ (lw_privs_2 ++ (lw_privs_3 ++ (lw_privs_4)))
def lw_tbl : List Cond := k2_sels lw_privs ++ tables_1
theorem lw_privs_ok : ∀ q ∈ lw_privs, lw_okq q := by
  show ∀ q ∈ lw_privs_1 ++ (lw_privs_2 ++ (lw_privs_3 ++ (lw_privs_4))), lw_okq q
  exact List.forall_mem_append.mpr ⟨lw_r1, List.forall_mem_append.mpr ⟨lw_r2, List.forall_mem_append.mpr ⟨lw_r3, lw_r4⟩⟩⟩
/-- the streams that the claim lets the run draw from -/
abbrev lw_cs : List Choice := [Jvm.Choice.named "NaN.bits"]
theorem lw_bits : nanBits ∈ lw_cs := by first | decide | exact List.mem_cons_self | simp [lw_cs, nanBits]
/-! ===== BEGIN words of one list among another's, by their places ===== -/
theorem goodIn_r {big : List Cond} (ws : List Cond) (ps : List Nat) (hp : ws = ps.filterMap (fun i => big[i]?)) (h : ws.all goodWord = true) : GoodIn big ws := by
  intro w hw
  have h1 := List.all_eq_true.mp h w hw
  rw [hp] at hw
  obtain ⟨i, -, hi⟩ := List.mem_filterMap.mp hw
  have hm : w ∈ big := by first | exact List.mem_of_getElem? hi | exact List.getElem?_mem hi
  exact ⟨hm, good_of_word h1⟩
theorem goodIn_app {big a b : List Cond} (ha : GoodIn big a) (hb : GoodIn big b) : GoodIn big (a ++ b) := fun w h => (List.mem_append.mp h).elim (ha w) (hb w)
theorem goodIn_ca {big a b : List Cond} {c : Cond} (ha : GoodIn big (c :: a)) (hb : GoodIn big b) : GoodIn big (c :: (a ++ b)) := fun w h => (List.mem_cons.mp h).elim (fun e => ha w (List.mem_cons.mpr (Or.inl e))) (fun h => (List.mem_append.mp h).elim (fun h => ha w (List.mem_cons.mpr (Or.inr h))) (hb w))
theorem goodIn_sub {big ws : List Cond} (hm : ∀ w ∈ ws, w ∈ big) (h : ws.all goodWord = true) : GoodIn big ws := fun w hw => ⟨hm w hw, good_of_word (List.all_eq_true.mp h w hw)⟩
/-! ===== END ===== -/

/-! ===== BEGIN printed: names, fields, word lists, decode rows ===== -/
def RX0 : String := "PathBook$History"
def TX0 : u_T := fun k => match k with
  | 0 => ("PathBook$History", "ring", "[LPathBook$State;", true)
  | 1 => ("PathBook$History", "next", "I", false)
  | _ => ("PathBook$History", "size", "I", false)
def tyX0 : Nat → FieldType := fun k => match k with
  | 0 => .array (.object "PathBook$State")
  | 1 => .int
  | _ => .int
abbrev wsX00 : List Cond := u_ws RX0 TX0 3
theorem nmX0 : ∀ a, a < 3 → ∀ b, b < 3 → a ≠ b → (TX0 a).2.1 ≠ (TX0 b).2.1 := by decide +kernel
theorem tyX0_ok : ∀ k, k < 3 → parseFieldDescriptor (TX0 k).2.2.1 = some (tyX0 k) := by decide +kernel
abbrev cX0_init : ByteArray := prog_2_method_1_code
def yX0_init : MethodName := ⟨RX0, "<init>", "()V"⟩
abbrev cX0_push : ByteArray := prog_2_method_2_code
def yX0_push : MethodName := ⟨RX0, "push", "(LPathBook$State;)V"⟩
abbrev cX0_pop : ByteArray := prog_2_method_3_code
def yX0_pop : MethodName := ⟨RX0, "pop", "(LPathBook$State;)V"⟩
abbrev cX0_stateAt : ByteArray := prog_2_method_4_code
def yX0_stateAt : MethodName := ⟨RX0, "stateAt", "(I)LPathBook$State;"⟩
def RX1 : String := "PathBook$Row"
def TX1 : u_T := fun k => match k with
  | _ => ("PathBook$Row", "cells", "[I", true)
def tyX1 : Nat → FieldType := fun k => match k with
  | _ => .array .int
abbrev wsX10 : List Cond := u_ws RX1 TX1 1
theorem nmX1 : ∀ a, a < 1 → ∀ b, b < 1 → a ≠ b → (TX1 a).2.1 ≠ (TX1 b).2.1 := by decide +kernel
theorem tyX1_ok : ∀ k, k < 1 → parseFieldDescriptor (TX1 k).2.2.1 = some (tyX1 k) := by decide +kernel
abbrev cX1_init : ByteArray := prog_3_method_1_code
def yX1_init : MethodName := ⟨RX1, "<init>", "(I)V"⟩
abbrev cX1_at : ByteArray := prog_3_method_2_code
def yX1_at : MethodName := ⟨RX1, "at", "(I)I"⟩
abbrev cX1_put : ByteArray := prog_3_method_3_code
def yX1_put : MethodName := ⟨RX1, "put", "(II)V"⟩
abbrev cX1_fill : ByteArray := prog_3_method_4_code
def yX1_fill : MethodName := ⟨RX1, "fill", "(I)V"⟩
abbrev cX1_swap : ByteArray := prog_3_method_5_code
def yX1_swap : MethodName := ⟨RX1, "swap", "(II)V"⟩
abbrev cX1_copyFrom : ByteArray := prog_3_method_6_code
def yX1_copyFrom : MethodName := ⟨RX1, "copyFrom", "(LPathBook$Row;)V"⟩
def RX2 : String := "PathBook$State"
def TX2 : u_T := fun k => match k with
  | 0 => ("PathBook$State", "pages", "I", false)
  | 1 => ("PathBook$State", "tenths", "LPathBook$Row;", true)
  | 2 => ("PathBook$State", "sets", "LPathBook$Row;", true)
  | 3 => ("PathBook$State", "takes", "LPathBook$Row;", true)
  | 4 => ("PathBook$State", "sizes", "LPathBook$Row;", true)
  | 5 => ("PathBook$State", "to", "LPathBook$Row;", true)
  | 6 => ("PathBook$State", "needs", "LPathBook$Row;", true)
  | 7 => ("PathBook$State", "bars", "LPathBook$Row;", true)
  | 8 => ("PathBook$State", "places", "LPathBook$Row;", true)
  | 9 => ("PathBook$State", "taken", "LPathBook$Row;", true)
  | _ => ("PathBook$State", "bookmark", "I", false)
def tyX2 : Nat → FieldType := fun k => match k with
  | 0 => .int
  | 1 => .object "PathBook$Row"
  | 2 => .object "PathBook$Row"
  | 3 => .object "PathBook$Row"
  | 4 => .object "PathBook$Row"
  | 5 => .object "PathBook$Row"
  | 6 => .object "PathBook$Row"
  | 7 => .object "PathBook$Row"
  | 8 => .object "PathBook$Row"
  | 9 => .object "PathBook$Row"
  | _ => .int
abbrev wsX20 : List Cond := u_ws RX2 TX2 11
theorem nmX2 : ∀ a, a < 11 → ∀ b, b < 11 → a ≠ b → (TX2 a).2.1 ≠ (TX2 b).2.1 := by decide +kernel
theorem tyX2_ok : ∀ k, k < 11 → parseFieldDescriptor (TX2 k).2.2.1 = some (tyX2 k) := by decide +kernel
abbrev cX2_init : ByteArray := prog_4_method_1_code
def yX2_init : MethodName := ⟨RX2, "<init>", "()V"⟩
abbrev cX2_copyFrom : ByteArray := prog_4_method_2_code
def yX2_copyFrom : MethodName := ⟨RX2, "copyFrom", "(LPathBook$State;)V"⟩
abbrev cX2_hasPage : ByteArray := prog_4_method_3_code
def yX2_hasPage : MethodName := ⟨RX2, "hasPage", "(I)Z"⟩
abbrev cX2_hasChoice : ByteArray := prog_4_method_4_code
def yX2_hasChoice : MethodName := ⟨RX2, "hasChoice", "(II)Z"⟩
abbrev cX2_bindPage : ByteArray := prog_4_method_5_code
def yX2_bindPage : MethodName := ⟨RX2, "bindPage", "(III)I"⟩
abbrev cX2_errorOfChoice : ByteArray := prog_4_method_6_code
def yX2_errorOfChoice : MethodName := ⟨RX2, "errorOfChoice", "(IIII)I"⟩
abbrev cX2_appendChoice : ByteArray := prog_4_method_7_code
def yX2_appendChoice : MethodName := ⟨RX2, "appendChoice", "(IIII)I"⟩
abbrev cX2_removeChoice : ByteArray := prog_4_method_8_code
def yX2_removeChoice : MethodName := ⟨RX2, "removeChoice", "(II)I"⟩
abbrev cX2_swapPages : ByteArray := prog_4_method_9_code
def yX2_swapPages : MethodName := ⟨RX2, "swapPages", "(II)V"⟩
abbrev cX2_renumbered : ByteArray := prog_4_method_10_code
def yX2_renumbered : MethodName := ⟨RX2, "renumbered", "(III)I"⟩
abbrev cX2_moved : ByteArray := prog_4_method_11_code
def yX2_moved : MethodName := ⟨RX2, "moved", "(III)I"⟩
abbrev cX2_allChoices : ByteArray := prog_4_method_12_code
def yX2_allChoices : MethodName := ⟨RX2, "allChoices", "()I"⟩
abbrev cX2_choicesTo : ByteArray := prog_4_method_13_code
def yX2_choicesTo : MethodName := ⟨RX2, "choicesTo", "(I)I"⟩
abbrev cX2_moodOf : ByteArray := prog_4_method_14_code
def yX2_moodOf : MethodName := ⟨RX2, "moodOf", "(I)F"⟩
abbrev cX2_kindOf : ByteArray := prog_4_method_15_code
def yX2_kindOf : MethodName := ⟨RX2, "kindOf", "(I)I"⟩
abbrev cX2_placeComingTo : ByteArray := prog_4_method_16_code
def yX2_placeComingTo : MethodName := ⟨RX2, "placeComingTo", "(II)I"⟩
abbrev cX2_firstPlace : ByteArray := prog_4_method_17_code
def yX2_firstPlace : MethodName := ⟨RX2, "firstPlace", "()I"⟩
abbrev cX2_placeBehind : ByteArray := prog_4_method_18_code
def yX2_placeBehind : MethodName := ⟨RX2, "placeBehind", "(II)I"⟩
abbrev cX2_reasonAt : ByteArray := prog_4_method_19_code
def yX2_reasonAt : MethodName := ⟨RX2, "reasonAt", "(II)I"⟩
abbrev cX2_reasonAgainst : ByteArray := prog_4_method_20_code
def yX2_reasonAgainst : MethodName := ⟨RX2, "reasonAgainst", "(II)I"⟩
abbrev cX2_openChoices : ByteArray := prog_4_method_21_code
def yX2_openChoices : MethodName := ⟨RX2, "openChoices", "(I)I"⟩
abbrev cX2_putReader : ByteArray := prog_4_method_22_code
def yX2_putReader : MethodName := ⟨RX2, "putReader", "(III)V"⟩
def RX3 : String := "PathBook$Survey"
def TX3 : u_T := fun k => match k with
  | 0 => ("PathBook$Survey", "known", "Z", false)
  | 1 => ("PathBook$Survey", "pages", "I", false)
  | 2 => ("PathBook$Survey", "found", "I", false)
  | 3 => ("PathBook$Survey", "order", "LPathBook$Row;", true)
  | 4 => ("PathBook$Survey", "distance", "LPathBook$Row;", true)
  | 5 => ("PathBook$Survey", "before", "LPathBook$Row;", true)
  | 6 => ("PathBook$Survey", "by", "LPathBook$Row;", true)
  | 7 => ("PathBook$Survey", "ahead", "LPathBook$Row;", true)
  | 8 => ("PathBook$Survey", "ends", "I", false)
  | 9 => ("PathBook$Survey", "happyEnds", "I", false)
  | 10 => ("PathBook$Survey", "wayLength", "I", false)
  | _ => ("PathBook$Survey", "way", "LPathBook$Row;", true)
def tyX3 : Nat → FieldType := fun k => match k with
  | 0 => .boolean
  | 1 => .int
  | 2 => .int
  | 3 => .object "PathBook$Row"
  | 4 => .object "PathBook$Row"
  | 5 => .object "PathBook$Row"
  | 6 => .object "PathBook$Row"
  | 7 => .object "PathBook$Row"
  | 8 => .int
  | 9 => .int
  | 10 => .int
  | _ => .object "PathBook$Row"
abbrev wsX30 : List Cond := u_ws RX3 TX3 12
theorem nmX3 : ∀ a, a < 12 → ∀ b, b < 12 → a ≠ b → (TX3 a).2.1 ≠ (TX3 b).2.1 := by decide +kernel
theorem tyX3_ok : ∀ k, k < 12 → parseFieldDescriptor (TX3 k).2.2.1 = some (tyX3 k) := by decide +kernel
abbrev cX3_init : ByteArray := prog_5_method_1_code
def yX3_init : MethodName := ⟨RX3, "<init>", "()V"⟩
abbrev cX3_make : ByteArray := prog_5_method_2_code
def yX3_make : MethodName := ⟨RX3, "make", "(LPathBook$State;)V"⟩
abbrev cX3_findPlaces : ByteArray := prog_5_method_3_code
def yX3_findPlaces : MethodName := ⟨RX3, "findPlaces", "(LPathBook$State;)V"⟩
abbrev cX3_addPlace : ByteArray := prog_5_method_4_code
def yX3_addPlace : MethodName := ⟨RX3, "addPlace", "(IIII)V"⟩
abbrev cX3_findAhead : ByteArray := prog_5_method_5_code
def yX3_findAhead : MethodName := ⟨RX3, "findAhead", "(LPathBook$State;)V"⟩
abbrev cX3_growAhead : ByteArray := prog_5_method_6_code
def yX3_growAhead : MethodName := ⟨RX3, "growAhead", "(LPathBook$State;)Z"⟩
abbrev cX3_findEnds : ByteArray := prog_5_method_7_code
def yX3_findEnds : MethodName := ⟨RX3, "findEnds", "(LPathBook$State;)V"⟩
abbrev cX3_findWay : ByteArray := prog_5_method_8_code
def yX3_findWay : MethodName := ⟨RX3, "findWay", "()V"⟩
abbrev cX3_layWay : ByteArray := prog_5_method_9_code
def yX3_layWay : MethodName := ⟨RX3, "layWay", "(I)V"⟩
abbrev cX3_choiceOnWay : ByteArray := prog_5_method_10_code
def yX3_choiceOnWay : MethodName := ⟨RX3, "choiceOnWay", "(I)I"⟩
abbrev cX3_isIn : ByteArray := prog_5_method_11_code
def yX3_isIn : MethodName := ⟨RX3, "isIn", "(II)Z"⟩
abbrev cX3_isReached : ByteArray := prog_5_method_12_code
def yX3_isReached : MethodName := ⟨RX3, "isReached", "(I)Z"⟩
abbrev cX3_isStuck : ByteArray := prog_5_method_13_code
def yX3_isStuck : MethodName := ⟨RX3, "isStuck", "(I)Z"⟩
abbrev cX3_placesWith : ByteArray := prog_5_method_14_code
def yX3_placesWith : MethodName := ⟨RX3, "placesWith", "(I)I"⟩
abbrev cX3_isDead : ByteArray := prog_5_method_15_code
def yX3_isDead : MethodName := ⟨RX3, "isDead", "(I)Z"⟩
abbrev cX3_comesAgain : ByteArray := prog_5_method_16_code
def yX3_comesAgain : MethodName := ⟨RX3, "comesAgain", "(I)Z"⟩
abbrev cX3_stuckPlacesWith : ByteArray := prog_5_method_17_code
def yX3_stuckPlacesWith : MethodName := ⟨RX3, "stuckPlacesWith", "(I)I"⟩
abbrev cX3_fewestChoicesTo : ByteArray := prog_5_method_18_code
def yX3_fewestChoicesTo : MethodName := ⟨RX3, "fewestChoicesTo", "(I)I"⟩
abbrev cX3_deadPages : ByteArray := prog_5_method_19_code
def yX3_deadPages : MethodName := ⟨RX3, "deadPages", "()I"⟩
abbrev cX3_pagesThatComeAgain : ByteArray := prog_5_method_20_code
def yX3_pagesThatComeAgain : MethodName := ⟨RX3, "pagesThatComeAgain", "()I"⟩
abbrev cX3_stuckPlaces : ByteArray := prog_5_method_21_code
def yX3_stuckPlaces : MethodName := ⟨RX3, "stuckPlaces", "()I"⟩
abbrev cX3_livePagesOf : ByteArray := prog_5_method_22_code
def yX3_livePagesOf : MethodName := ⟨RX3, "livePagesOf", "(I)I"⟩
abbrev cX3_isEverOpen : ByteArray := prog_5_method_23_code
def yX3_isEverOpen : MethodName := ⟨RX3, "isEverOpen", "(LPathBook$State;II)Z"⟩
def RX4 : String := "PathBook$Text"
def TX4 : u_T := fun k => match k with
  | 0 => ("PathBook$Text", "signs", "LPathBook$Row;", true)
  | 1 => ("PathBook$Text", "length", "I", false)
  | 2 => ("PathBook$Text", "at", "I", false)
  | 3 => ("PathBook$Text", "sound", "Z", false)
  | 4 => ("PathBook$Text", "choices", "I", false)
  | 5 => ("PathBook$Text", "from", "LPathBook$Row;", true)
  | 6 => ("PathBook$Text", "to", "LPathBook$Row;", true)
  | 7 => ("PathBook$Text", "needs", "LPathBook$Row;", true)
  | _ => ("PathBook$Text", "bars", "LPathBook$Row;", true)
def tyX4 : Nat → FieldType := fun k => match k with
  | 0 => .object "PathBook$Row"
  | 1 => .int
  | 2 => .int
  | 3 => .boolean
  | 4 => .int
  | 5 => .object "PathBook$Row"
  | 6 => .object "PathBook$Row"
  | 7 => .object "PathBook$Row"
  | _ => .object "PathBook$Row"
abbrev wsX40 : List Cond := u_ws RX4 TX4 9
theorem nmX4 : ∀ a, a < 9 → ∀ b, b < 9 → a ≠ b → (TX4 a).2.1 ≠ (TX4 b).2.1 := by decide +kernel
theorem tyX4_ok : ∀ k, k < 9 → parseFieldDescriptor (TX4 k).2.2.1 = some (tyX4 k) := by decide +kernel
abbrev cX4_init : ByteArray := prog_6_method_1_code
def yX4_init : MethodName := ⟨RX4, "<init>", "()V"⟩
abbrev cX4_append : ByteArray := prog_6_method_2_code
def yX4_append : MethodName := ⟨RX4, "append", "(C)I"⟩
abbrev cX4_parse : ByteArray := prog_6_method_3_code
def yX4_parse : MethodName := ⟨RX4, "parse", "()Z"⟩
abbrev cX4_sign : ByteArray := prog_6_method_4_code
def yX4_sign : MethodName := ⟨RX4, "sign", "()I"⟩
abbrev cX4_parseChoice : ByteArray := prog_6_method_5_code
def yX4_parseChoice : MethodName := ⟨RX4, "parseChoice", "()V"⟩
abbrev cX4_parseNumber : ByteArray := prog_6_method_6_code
def yX4_parseNumber : MethodName := ⟨RX4, "parseNumber", "()I"⟩
abbrev cX4_parseArrow : ByteArray := prog_6_method_7_code
def yX4_parseArrow : MethodName := ⟨RX4, "parseArrow", "()V"⟩
abbrev cX4_parseFlags : ByteArray := prog_6_method_8_code
def yX4_parseFlags : MethodName := ⟨RX4, "parseFlags", "(C)I"⟩
abbrev cX4_isDigit : ByteArray := prog_6_method_9_code
def yX4_isDigit : MethodName := ⟨RX4, "isDigit", "(I)Z"⟩
def RX5 : String := "PathBook"
def TX5 : u_T := fun k => match k with
  | 0 => ("PathBook", "now", "LPathBook$State;", true)
  | 1 => ("PathBook", "draft", "LPathBook$State;", true)
  | 2 => ("PathBook", "snapshot", "LPathBook$State;", true)
  | 3 => ("PathBook", "hasSnapshot", "Z", false)
  | 4 => ("PathBook", "history", "LPathBook$History;", true)
  | 5 => ("PathBook", "text", "LPathBook$Text;", true)
  | _ => ("PathBook", "survey", "LPathBook$Survey;", true)
def tyX5 : Nat → FieldType := fun k => match k with
  | 0 => .object "PathBook$State"
  | 1 => .object "PathBook$State"
  | 2 => .object "PathBook$State"
  | 3 => .boolean
  | 4 => .object "PathBook$History"
  | 5 => .object "PathBook$Text"
  | _ => .object "PathBook$Survey"
abbrev wsX50 : List Cond := u_ws RX5 TX5 7
theorem nmX5 : ∀ a, a < 7 → ∀ b, b < 7 → a ≠ b → (TX5 a).2.1 ≠ (TX5 b).2.1 := by decide +kernel
theorem tyX5_ok : ∀ k, k < 7 → parseFieldDescriptor (TX5 k).2.2.1 = some (tyX5 k) := by decide +kernel
abbrev cX5_init : ByteArray := prog_1_method_1_code
def yX5_init : MethodName := ⟨RX5, "<init>", "()V"⟩
abbrev cX5_addPage : ByteArray := prog_1_method_2_code
def yX5_addPage : MethodName := ⟨RX5, "addPage", "(III)I"⟩
abbrev cX5_setMood : ByteArray := prog_1_method_3_code
def yX5_setMood : MethodName := ⟨RX5, "setMood", "(II)I"⟩
abbrev cX5_addChoice : ByteArray := prog_1_method_4_code
def yX5_addChoice : MethodName := ⟨RX5, "addChoice", "(IIII)I"⟩
abbrev cX5_addChoices : ByteArray := prog_1_method_5_code
def yX5_addChoices : MethodName := ⟨RX5, "addChoices", "()I"⟩
abbrev cX5_takeChoice : ByteArray := prog_1_method_6_code
def yX5_takeChoice : MethodName := ⟨RX5, "takeChoice", "(II)I"⟩
abbrev cX5_exchange : ByteArray := prog_1_method_7_code
def yX5_exchange : MethodName := ⟨RX5, "exchange", "(II)I"⟩
abbrev cX5_begin : ByteArray := prog_1_method_8_code
def yX5_begin : MethodName := ⟨RX5, "begin", "(I)I"⟩
abbrev cX5_choose : ByteArray := prog_1_method_9_code
def yX5_choose : MethodName := ⟨RX5, "choose", "(II)I"⟩
abbrev cX5_mark : ByteArray := prog_1_method_10_code
def yX5_mark : MethodName := ⟨RX5, "mark", "(I)I"⟩
abbrev cX5_goToMark : ByteArray := prog_1_method_11_code
def yX5_goToMark : MethodName := ⟨RX5, "goToMark", "(I)I"⟩
abbrev cX5_type : ByteArray := prog_1_method_12_code
def yX5_type : MethodName := ⟨RX5, "type", "(C)I"⟩
abbrev cX5_clearText : ByteArray := prog_1_method_13_code
def yX5_clearText : MethodName := ⟨RX5, "clearText", "()I"⟩
abbrev cX5_undo : ByteArray := prog_1_method_14_code
def yX5_undo : MethodName := ⟨RX5, "undo", "()I"⟩
abbrev cX5_keep : ByteArray := prog_1_method_15_code
def yX5_keep : MethodName := ⟨RX5, "keep", "()I"⟩
abbrev cX5_restore : ByteArray := prog_1_method_16_code
def yX5_restore : MethodName := ⟨RX5, "restore", "()I"⟩
abbrev cX5_page : ByteArray := prog_1_method_17_code
def yX5_page : MethodName := ⟨RX5, "page", "(II)I"⟩
abbrev cX5_choice : ByteArray := prog_1_method_18_code
def yX5_choice : MethodName := ⟨RX5, "choice", "(III)I"⟩
abbrev cX5_reader : ByteArray := prog_1_method_19_code
def yX5_reader : MethodName := ⟨RX5, "reader", "(II)I"⟩
abbrev cX5_why : ByteArray := prog_1_method_20_code
def yX5_why : MethodName := ⟨RX5, "why", "(II)I"⟩
abbrev cX5_way : ByteArray := prog_1_method_21_code
def yX5_way : MethodName := ⟨RX5, "way", "(II)I"⟩
abbrev cX5_wayMood : ByteArray := prog_1_method_22_code
def yX5_wayMood : MethodName := ⟨RX5, "wayMood", "()I"⟩
abbrev cX5_count : ByteArray := prog_1_method_23_code
def yX5_count : MethodName := ⟨RX5, "count", "(I)I"⟩
abbrev cX5_record : ByteArray := prog_1_method_24_code
def yX5_record : MethodName := ⟨RX5, "record", "()V"⟩
abbrev cX5_surveyed : ByteArray := prog_1_method_25_code
def yX5_surveyed : MethodName := ⟨RX5, "surveyed", "()LPathBook$Survey;"⟩
abbrev cX5_isMood : ByteArray := prog_1_method_26_code
def yX5_isMood : MethodName := ⟨RX5, "isMood", "(I)Z"⟩
abbrev cX5_isFlagSet : ByteArray := prog_1_method_27_code
def yX5_isFlagSet : MethodName := ⟨RX5, "isFlagSet", "(I)Z"⟩
abbrev cX5_isReader : ByteArray := prog_1_method_28_code
def yX5_isReader : MethodName := ⟨RX5, "isReader", "(I)Z"⟩
abbrev cX5_isChoiceNumber : ByteArray := prog_1_method_29_code
def yX5_isChoiceNumber : MethodName := ⟨RX5, "isChoiceNumber", "(I)Z"⟩
abbrev cX5_oneIf : ByteArray := prog_1_method_30_code
def yX5_oneIf : MethodName := ⟨RX5, "oneIf", "(Z)I"⟩
abbrev cX5_slotOf : ByteArray := prog_1_method_31_code
def yX5_slotOf : MethodName := ⟨RX5, "slotOf", "(II)I"⟩
abbrev cX5_placeOf : ByteArray := prog_1_method_32_code
def yX5_placeOf : MethodName := ⟨RX5, "placeOf", "(II)I"⟩
abbrev cX5_pageAt : ByteArray := prog_1_method_33_code
def yX5_pageAt : MethodName := ⟨RX5, "pageAt", "(I)I"⟩
abbrev cX5_flagsAt : ByteArray := prog_1_method_34_code
def yX5_flagsAt : MethodName := ⟨RX5, "flagsAt", "(I)I"⟩
abbrev cX5_bitsOf : ByteArray := prog_1_method_35_code
def yX5_bitsOf : MethodName := ⟨RX5, "bitsOf", "(F)I"⟩
def RX6 : String := "PathBookModel"
def TX6 : u_T := fun k => match k with
  | 0 => ("PathBookModel", "s", "[I", true)
  | 1 => ("PathBookModel", "slot", "[I", true)
  | 2 => ("PathBookModel", "isKept", "Z", false)
  | 3 => ("PathBookModel", "past", "[I", true)
  | 4 => ("PathBookModel", "states", "I", false)
  | 5 => ("PathBookModel", "text", "[I", true)
  | 6 => ("PathBookModel", "length", "I", false)
  | 7 => ("PathBookModel", "away", "[I", true)
  | 8 => ("PathBookModel", "from", "[I", true)
  | 9 => ("PathBookModel", "by", "[I", true)
  | 10 => ("PathBookModel", "queue", "[I", true)
  | 11 => ("PathBookModel", "queued", "I", false)
  | 12 => ("PathBookModel", "there", "[I", true)
  | 13 => ("PathBookModel", "canEnd", "[I", true)
  | 14 => ("PathBookModel", "steps", "[I", true)
  | 15 => ("PathBookModel", "wayLong", "I", false)
  | 16 => ("PathBookModel", "spot", "I", false)
  | 17 => ("PathBookModel", "isForm", "Z", false)
  | 18 => ("PathBookModel", "list", "[I", true)
  | _ => ("PathBookModel", "listed", "I", false)
def tyX6 : Nat → FieldType := fun k => match k with
  | 0 => .array .int
  | 1 => .array .int
  | 2 => .boolean
  | 3 => .array .int
  | 4 => .int
  | 5 => .array .int
  | 6 => .int
  | 7 => .array .int
  | 8 => .array .int
  | 9 => .array .int
  | 10 => .array .int
  | 11 => .int
  | 12 => .array .int
  | 13 => .array .int
  | 14 => .array .int
  | 15 => .int
  | 16 => .int
  | 17 => .boolean
  | 18 => .array .int
  | _ => .int
abbrev wsX60 : List Cond := u_ws RX6 TX6 20
theorem nmX6 : ∀ a, a < 20 → ∀ b, b < 20 → a ≠ b → (TX6 a).2.1 ≠ (TX6 b).2.1 := by decide +kernel
theorem tyX6_ok : ∀ k, k < 20 → parseFieldDescriptor (TX6 k).2.2.1 = some (tyX6 k) := by decide +kernel
abbrev cX6_init : ByteArray := prog_8_method_1_code
def yX6_init : MethodName := ⟨RX6, "<init>", "()V"⟩
abbrev cX6_in : ByteArray := prog_8_method_3_code
def yX6_in : MethodName := ⟨RX6, "in", "(III)Z"⟩
abbrev cX6_records : ByteArray := prog_8_method_4_code
def yX6_records : MethodName := ⟨RX6, "records", "()V"⟩
abbrev cX6_isPage : ByteArray := prog_8_method_5_code
def yX6_isPage : MethodName := ⟨RX6, "isPage", "(I)Z"⟩
abbrev cX6_isChoice : ByteArray := prog_8_method_6_code
def yX6_isChoice : MethodName := ⟨RX6, "isChoice", "(II)Z"⟩
abbrev cX6_of : ByteArray := prog_8_method_7_code
def yX6_of : MethodName := ⟨RX6, "of", "(II)I"⟩
abbrev cX6_ofChoice : ByteArray := prog_8_method_8_code
def yX6_ofChoice : MethodName := ⟨RX6, "ofChoice", "(III)I"⟩
abbrev cX6_canTake : ByteArray := prog_8_method_9_code
def yX6_canTake : MethodName := ⟨RX6, "canTake", "(III)Z"⟩
abbrev cX6_coming : ByteArray := prog_8_method_10_code
def yX6_coming : MethodName := ⟨RX6, "coming", "(II)I"⟩
abbrev cX6_isEnd : ByteArray := prog_8_method_11_code
def yX6_isEnd : MethodName := ⟨RX6, "isEnd", "(I)Z"⟩
abbrev cX6_isHappy : ByteArray := prog_8_method_12_code
def yX6_isHappy : MethodName := ⟨RX6, "isHappy", "(I)Z"⟩
abbrev cX6_mood : ByteArray := prog_8_method_13_code
def yX6_mood : MethodName := ⟨RX6, "mood", "(I)F"⟩
abbrev cX6_behind : ByteArray := prog_8_method_14_code
def yX6_behind : MethodName := ⟨RX6, "behind", "(II)I"⟩
abbrev cX6_forgets : ByteArray := prog_8_method_15_code
def yX6_forgets : MethodName := ⟨RX6, "forgets", "()V"⟩
abbrev cX6_comesTo : ByteArray := prog_8_method_16_code
def yX6_comesTo : MethodName := ⟨RX6, "comesTo", "(IIII)V"⟩
abbrev cX6_spreads : ByteArray := prog_8_method_17_code
def yX6_spreads : MethodName := ⟨RX6, "spreads", "()V"⟩
abbrev cX6_firstPlace : ByteArray := prog_8_method_18_code
def yX6_firstPlace : MethodName := ⟨RX6, "firstPlace", "()I"⟩
abbrev cX6_reaches : ByteArray := prog_8_method_19_code
def yX6_reaches : MethodName := ⟨RX6, "reaches", "()V"⟩
abbrev cX6_keepsPlaces : ByteArray := prog_8_method_20_code
def yX6_keepsPlaces : MethodName := ⟨RX6, "keepsPlaces", "()V"⟩
abbrev cX6_placesOf : ByteArray := prog_8_method_21_code
def yX6_placesOf : MethodName := ⟨RX6, "placesOf", "(I)I"⟩
abbrev cX6_fewest : ByteArray := prog_8_method_22_code
def yX6_fewest : MethodName := ⟨RX6, "fewest", "(I)I"⟩
abbrev cX6_comesAgain : ByteArray := prog_8_method_23_code
def yX6_comesAgain : MethodName := ⟨RX6, "comesAgain", "(I)Z"⟩
abbrev cX6_leadsOn : ByteArray := prog_8_method_24_code
def yX6_leadsOn : MethodName := ⟨RX6, "leadsOn", "(I)Z"⟩
abbrev cX6_findsEnds : ByteArray := prog_8_method_25_code
def yX6_findsEnds : MethodName := ⟨RX6, "findsEnds", "()V"⟩
abbrev cX6_stuckIn : ByteArray := prog_8_method_26_code
def yX6_stuckIn : MethodName := ⟨RX6, "stuckIn", "(II)I"⟩
abbrev cX6_isTenths : ByteArray := prog_8_method_27_code
def yX6_isTenths : MethodName := ⟨RX6, "isTenths", "(I)Z"⟩
abbrev cX6_areFlags : ByteArray := prog_8_method_28_code
def yX6_areFlags : MethodName := ⟨RX6, "areFlags", "(I)Z"⟩
abbrev cX6_addPage : ByteArray := prog_8_method_29_code
def yX6_addPage : MethodName := ⟨RX6, "addPage", "(III)I"⟩
abbrev cX6_setMood : ByteArray := prog_8_method_30_code
def yX6_setMood : MethodName := ⟨RX6, "setMood", "(II)I"⟩
abbrev cX6_whyNot : ByteArray := prog_8_method_31_code
def yX6_whyNot : MethodName := ⟨RX6, "whyNot", "(II)I"⟩
abbrev cX6_adds : ByteArray := prog_8_method_32_code
def yX6_adds : MethodName := ⟨RX6, "adds", "(IIII)I"⟩
abbrev cX6_addChoice : ByteArray := prog_8_method_33_code
def yX6_addChoice : MethodName := ⟨RX6, "addChoice", "(IIII)I"⟩
abbrev cX6_takeChoice : ByteArray := prog_8_method_34_code
def yX6_takeChoice : MethodName := ⟨RX6, "takeChoice", "(II)I"⟩
abbrev cX6_other : ByteArray := prog_8_method_35_code
def yX6_other : MethodName := ⟨RX6, "other", "(III)I"⟩
abbrev cX6_leadingTo : ByteArray := prog_8_method_36_code
def yX6_leadingTo : MethodName := ⟨RX6, "leadingTo", "(I)I"⟩
abbrev cX6_exchange : ByteArray := prog_8_method_37_code
def yX6_exchange : MethodName := ⟨RX6, "exchange", "(II)I"⟩
abbrev cX6_isReader : ByteArray := prog_8_method_38_code
def yX6_isReader : MethodName := ⟨RX6, "isReader", "(I)Z"⟩
abbrev cX6_ofReader : ByteArray := prog_8_method_39_code
def yX6_ofReader : MethodName := ⟨RX6, "ofReader", "(II)I"⟩
abbrev cX6_goes : ByteArray := prog_8_method_40_code
def yX6_goes : MethodName := ⟨RX6, "goes", "(IIII)V"⟩
abbrev cX6_begin : ByteArray := prog_8_method_41_code
def yX6_begin : MethodName := ⟨RX6, "begin", "(I)I"⟩
abbrev cX6_reason : ByteArray := prog_8_method_42_code
def yX6_reason : MethodName := ⟨RX6, "reason", "(II)I"⟩
abbrev cX6_why : ByteArray := prog_8_method_43_code
def yX6_why : MethodName := ⟨RX6, "why", "(II)I"⟩
abbrev cX6_choose : ByteArray := prog_8_method_44_code
def yX6_choose : MethodName := ⟨RX6, "choose", "(II)I"⟩
abbrev cX6_isMarked : ByteArray := prog_8_method_45_code
def yX6_isMarked : MethodName := ⟨RX6, "isMarked", "(I)Z"⟩
abbrev cX6_mark : ByteArray := prog_8_method_46_code
def yX6_mark : MethodName := ⟨RX6, "mark", "(I)I"⟩
abbrev cX6_goToMark : ByteArray := prog_8_method_47_code
def yX6_goToMark : MethodName := ⟨RX6, "goToMark", "(I)I"⟩
abbrev cX6_choicesNow : ByteArray := prog_8_method_48_code
def yX6_choicesNow : MethodName := ⟨RX6, "choicesNow", "(I)I"⟩
abbrev cX6_reader : ByteArray := prog_8_method_49_code
def yX6_reader : MethodName := ⟨RX6, "reader", "(II)I"⟩
abbrev cX6_page : ByteArray := prog_8_method_50_code
def yX6_page : MethodName := ⟨RX6, "page", "(II)I"⟩
abbrev cX6_canBeTaken : ByteArray := prog_8_method_51_code
def yX6_canBeTaken : MethodName := ⟨RX6, "canBeTaken", "(II)I"⟩
abbrev cX6_choice : ByteArray := prog_8_method_52_code
def yX6_choice : MethodName := ⟨RX6, "choice", "(III)I"⟩
abbrev cX6_findsWay : ByteArray := prog_8_method_53_code
def yX6_findsWay : MethodName := ⟨RX6, "findsWay", "()Z"⟩
abbrev cX6_way : ByteArray := prog_8_method_54_code
def yX6_way : MethodName := ⟨RX6, "way", "(II)I"⟩
abbrev cX6_wayMood : ByteArray := prog_8_method_55_code
def yX6_wayMood : MethodName := ⟨RX6, "wayMood", "()I"⟩
abbrev cX6_choices : ByteArray := prog_8_method_56_code
def yX6_choices : MethodName := ⟨RX6, "choices", "()I"⟩
abbrev cX6_again : ByteArray := prog_8_method_57_code
def yX6_again : MethodName := ⟨RX6, "again", "()I"⟩
abbrev cX6_pagesThere : ByteArray := prog_8_method_58_code
def yX6_pagesThere : MethodName := ⟨RX6, "pagesThere", "(I)I"⟩
abbrev cX6_places : ByteArray := prog_8_method_59_code
def yX6_places : MethodName := ⟨RX6, "places", "()I"⟩
abbrev cX6_count : ByteArray := prog_8_method_60_code
def yX6_count : MethodName := ⟨RX6, "count", "(I)I"⟩
abbrev cX6_undo : ByteArray := prog_8_method_61_code
def yX6_undo : MethodName := ⟨RX6, "undo", "()I"⟩
abbrev cX6_keep : ByteArray := prog_8_method_62_code
def yX6_keep : MethodName := ⟨RX6, "keep", "()I"⟩
abbrev cX6_restore : ByteArray := prog_8_method_63_code
def yX6_restore : MethodName := ⟨RX6, "restore", "()I"⟩
abbrev cX6_type : ByteArray := prog_8_method_64_code
def yX6_type : MethodName := ⟨RX6, "type", "(C)I"⟩
abbrev cX6_clearText : ByteArray := prog_8_method_65_code
def yX6_clearText : MethodName := ⟨RX6, "clearText", "()I"⟩
abbrev cX6_here : ByteArray := prog_8_method_66_code
def yX6_here : MethodName := ⟨RX6, "here", "()I"⟩
abbrev cX6_takes : ByteArray := prog_8_method_67_code
def yX6_takes : MethodName := ⟨RX6, "takes", "(Z)V"⟩
abbrev cX6_number : ByteArray := prog_8_method_68_code
def yX6_number : MethodName := ⟨RX6, "number", "()I"⟩
abbrev cX6_flags : ByteArray := prog_8_method_69_code
def yX6_flags : MethodName := ⟨RX6, "flags", "(I)I"⟩
abbrev cX6_takesChoice : ByteArray := prog_8_method_70_code
def yX6_takesChoice : MethodName := ⟨RX6, "takesChoice", "()V"⟩
abbrev cX6_isRight : ByteArray := prog_8_method_71_code
def yX6_isRight : MethodName := ⟨RX6, "isRight", "()Z"⟩
abbrev cX6_whyNotAll : ByteArray := prog_8_method_72_code
def yX6_whyNotAll : MethodName := ⟨RX6, "whyNotAll", "()I"⟩
abbrev cX6_addChoices : ByteArray := prog_8_method_73_code
def yX6_addChoices : MethodName := ⟨RX6, "addChoices", "()I"⟩
def RJxf58ca : String := "java/lang/Float"
def TJxf58ca : u_T := fun k => match k with
  | _ => ("", "", "", false)
def tyJxf58ca : Nat → FieldType := fun k => match k with
  | _ => .int
abbrev wsJxf58ca0 : List Cond := u_ws RJxf58ca TJxf58ca 0
theorem nmJxf58ca : ∀ a, a < 0 → ∀ b, b < 0 → a ≠ b → (TJxf58ca a).2.1 ≠ (TJxf58ca b).2.1 := by decide +kernel
theorem tyJxf58ca_ok : ∀ k, k < 0 → parseFieldDescriptor (TJxf58ca k).2.2.1 = some (tyJxf58ca k) := by decide +kernel
abbrev cJxf58ca_isNaN_12338 : ByteArray := prog_9_method_6_code
def yJxf58ca_isNaN_12338 : MethodName := ⟨RJxf58ca, "isNaN", "(F)Z"⟩
abbrev cJxf58ca_floatToIntBits_5c35a : ByteArray := prog_9_method_24_code
def yJxf58ca_floatToIntBits_5c35a : MethodName := ⟨RJxf58ca, "floatToIntBits", "(F)I"⟩
def RL : String := "PathBookLaw"
abbrev cL_law : ByteArray := code
def yL_law : MethodName := ⟨RL, "law", "([I)Z"⟩
def wsJxf58ca_isNaN_12338 : List Cond := .code yJxf58ca_isNaN_12338 cJxf58ca_isNaN_12338 1 (some .boolean) :: ([])
def wsJxf58ca_floatToIntBits_5c35a : List Cond := .code yJxf58ca_floatToIntBits_5c35a cJxf58ca_floatToIntBits_5c35a 1 (some .int) :: ([.methodLink RJxf58ca 74 ⟨"java/lang/Float", "floatToRawIntBits", "(F)I"⟩, .native ⟨"java/lang/Float", "floatToRawIntBits", "(F)I"⟩, .static ⟨"java/lang/Float", "floatToRawIntBits", "(F)I"⟩, .initialized "java/lang/Float", .constant RJxf58ca 77 (2143289344), .methodLink RJxf58ca 59 yJxf58ca_isNaN_12338, .static yJxf58ca_isNaN_12338, .initialized RJxf58ca, .code yJxf58ca_isNaN_12338 cJxf58ca_isNaN_12338 1 (some .boolean)])
set_option maxRecDepth 20000 in
theorem inX0 : ∀ w ∈ wsX00, w ∈ lw_tbl := by decide +kernel
theorem inX1 : ∀ w ∈ wsX10, w ∈ lw_tbl := by decide +kernel
theorem inX2 : ∀ w ∈ wsX20, w ∈ lw_tbl := by decide +kernel
theorem inX3 : ∀ w ∈ wsX30, w ∈ lw_tbl := by decide +kernel
theorem inX4 : ∀ w ∈ wsX40, w ∈ lw_tbl := by decide +kernel
theorem inX5 : ∀ w ∈ wsX50, w ∈ lw_tbl := by decide +kernel
theorem inX6 : ∀ w ∈ wsX60, w ∈ lw_tbl := by decide +kernel
theorem inJxf58ca : ∀ w ∈ wsJxf58ca0, w ∈ lw_tbl := by decide +kernel
theorem dJxf58ca_isNaN_12338_0 : decode cJxf58ca_isNaN_12338 0 = .ok (.fload_n 0, 1) := by decide +kernel
theorem dJxf58ca_isNaN_12338_1 : decode cJxf58ca_isNaN_12338 1 = .ok (.fload_n 0, 1) := by decide +kernel
theorem dJxf58ca_isNaN_12338_2 : decode cJxf58ca_isNaN_12338 2 = .ok (.fcmp .l, 1) := by decide +kernel
theorem dJxf58ca_isNaN_12338_3 : decode cJxf58ca_isNaN_12338 3 = .ok (.ifCond .eq 7, 3) := by decide +kernel
theorem dJxf58ca_isNaN_12338_6 : decode cJxf58ca_isNaN_12338 6 = .ok (.iconst 1, 1) := by decide +kernel
theorem dJxf58ca_isNaN_12338_7 : decode cJxf58ca_isNaN_12338 7 = .ok (.goto 4, 3) := by decide +kernel
theorem dJxf58ca_isNaN_12338_10 : decode cJxf58ca_isNaN_12338 10 = .ok (.iconst 0, 1) := by decide +kernel
theorem dJxf58ca_isNaN_12338_11 : decode cJxf58ca_isNaN_12338 11 = .ok (.ireturn, 1) := by decide +kernel
set_option maxRecDepth 20000 in
theorem ggJxf58ca_floatToIntBits_5c35a_Jxf58ca_isNaN_12338 : GoodIn wsJxf58ca_floatToIntBits_5c35a wsJxf58ca_isNaN_12338 := goodIn_r _ [9] (by decide +kernel) (by decide +kernel)
set_option maxRecDepth 20000 in
theorem gJxf58ca_floatToIntBits_5c35a_Jxf58ca_isNaN_12338 : GoodIn wsJxf58ca_floatToIntBits_5c35a (va_wsS RJxf58ca 59 yJxf58ca_isNaN_12338 wsJxf58ca_isNaN_12338) := goodIn_app (goodIn_of _ (by decide +kernel)) ggJxf58ca_floatToIntBits_5c35a_Jxf58ca_isNaN_12338
theorem dJxf58ca_floatToIntBits_5c35a_0 : decode cJxf58ca_floatToIntBits_5c35a 0 = .ok (.fload_n 0, 1) := by decide +kernel
theorem dJxf58ca_floatToIntBits_5c35a_1 : decode cJxf58ca_floatToIntBits_5c35a 1 = .ok (.invokestatic 59, 3) := by decide +kernel
theorem dJxf58ca_floatToIntBits_5c35a_4 : decode cJxf58ca_floatToIntBits_5c35a 4 = .ok (.ifCond .ne 8, 3) := by decide +kernel
theorem dJxf58ca_floatToIntBits_5c35a_7 : decode cJxf58ca_floatToIntBits_5c35a 7 = .ok (.fload_n 0, 1) := by decide +kernel
theorem dJxf58ca_floatToIntBits_5c35a_8 : decode cJxf58ca_floatToIntBits_5c35a 8 = .ok (.invokestatic 74, 3) := by decide +kernel
theorem dJxf58ca_floatToIntBits_5c35a_11 : decode cJxf58ca_floatToIntBits_5c35a 11 = .ok (.ireturn, 1) := by decide +kernel
theorem dJxf58ca_floatToIntBits_5c35a_12 : decode cJxf58ca_floatToIntBits_5c35a 12 = .ok (.ldc 77, 2) := by decide +kernel
theorem dJxf58ca_floatToIntBits_5c35a_14 : decode cJxf58ca_floatToIntBits_5c35a 14 = .ok (.ireturn, 1) := by decide +kernel
abbrev vwCl : List vw_C := [(RX0, TX0, 3), (RX1, TX1, 1), (RX2, TX2, 11), (RX3, TX3, 12), (RX4, TX4, 9), (RX5, TX5, 7), (RX6, TX6, 20)]

