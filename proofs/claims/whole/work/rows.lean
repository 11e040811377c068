section
-- ===== PART A: goes FIRST, ahead of the names: the tables' words, and 'selects' of the private methods out of them =====
/-- a private method of a class that the tables say can be made, by its rows of tables_1 -/
def lw_okq (q : MethodName × Nat) : Prop := (q.1.cls ≠ "java/lang/invoke/MethodHandle" ∧ q.1.cls ≠ "java/lang/invoke/VarHandle") ∧ Cond.instantiable q.1.cls q.2 ∈ tables_1 ∧ Cond.privateMethod q.1 ∈ tables_1 ∧ Cond.instanceMethod q.1 ∈ tables_1
theorem lw_p0 : lw_okq (⟨"MarketSpring$Town", "forgetParts", "()V"⟩, 9) := ⟨⟨by decide +kernel, by decide +kernel⟩, List.mem_of_getElem? (i := 23) (by decide +kernel), List.mem_of_getElem? (i := 332) (by decide +kernel), List.mem_of_getElem? (i := 333) (by decide +kernel)⟩
theorem lw_p1 : lw_okq (⟨"MarketSpring$Town", "parsePart", "()V"⟩, 9) := ⟨⟨by decide +kernel, by decide +kernel⟩, List.mem_of_getElem? (i := 23) (by decide +kernel), List.mem_of_getElem? (i := 336) (by decide +kernel), List.mem_of_getElem? (i := 337) (by decide +kernel)⟩
theorem lw_p2 : lw_okq (⟨"MarketSpring$Town", "next", "()I"⟩, 9) := ⟨⟨by decide +kernel, by decide +kernel⟩, List.mem_of_getElem? (i := 23) (by decide +kernel), List.mem_of_getElem? (i := 340) (by decide +kernel), List.mem_of_getElem? (i := 341) (by decide +kernel)⟩
theorem lw_p3 : lw_okq (⟨"MarketSpring$Town", "parseThing", "(I)V"⟩, 9) := ⟨⟨by decide +kernel, by decide +kernel⟩, List.mem_of_getElem? (i := 23) (by decide +kernel), List.mem_of_getElem? (i := 344) (by decide +kernel), List.mem_of_getElem? (i := 345) (by decide +kernel)⟩
theorem lw_p4 : lw_okq (⟨"MarketSpring$Town", "twoFigures", "(II)I"⟩, 9) := ⟨⟨by decide +kernel, by decide +kernel⟩, List.mem_of_getElem? (i := 23) (by decide +kernel), List.mem_of_getElem? (i := 348) (by decide +kernel), List.mem_of_getElem? (i := 349) (by decide +kernel)⟩
theorem lw_p5 : lw_okq (⟨"MarketSpring$Town", "figure", "()I"⟩, 9) := ⟨⟨by decide +kernel, by decide +kernel⟩, List.mem_of_getElem? (i := 23) (by decide +kernel), List.mem_of_getElem? (i := 352) (by decide +kernel), List.mem_of_getElem? (i := 353) (by decide +kernel)⟩
theorem lw_p6 : lw_okq (⟨"MarketSpring$Town", "parseHandle", "()V"⟩, 9) := ⟨⟨by decide +kernel, by decide +kernel⟩, List.mem_of_getElem? (i := 23) (by decide +kernel), List.mem_of_getElem? (i := 357) (by decide +kernel), List.mem_of_getElem? (i := 358) (by decide +kernel)⟩
theorem lw_p7 : lw_okq (⟨"MarketSpring$Town", "oneFigure", "(I)I"⟩, 9) := ⟨⟨by decide +kernel, by decide +kernel⟩, List.mem_of_getElem? (i := 23) (by decide +kernel), List.mem_of_getElem? (i := 361) (by decide +kernel), List.mem_of_getElem? (i := 362) (by decide +kernel)⟩
theorem lw_p8 : lw_okq (⟨"MarketSpring$Town", "refuseLast", "(Z)V"⟩, 9) := ⟨⟨by decide +kernel, by decide +kernel⟩, List.mem_of_getElem? (i := 23) (by decide +kernel), List.mem_of_getElem? (i := 365) (by decide +kernel), List.mem_of_getElem? (i := 366) (by decide +kernel)⟩
theorem lw_p9 : lw_okq (⟨"MarketSpring$Town", "parseGroup", "(I)V"⟩, 9) := ⟨⟨by decide +kernel, by decide +kernel⟩, List.mem_of_getElem? (i := 23) (by decide +kernel), List.mem_of_getElem? (i := 372) (by decide +kernel), List.mem_of_getElem? (i := 373) (by decide +kernel)⟩
theorem lw_p10 : lw_okq (⟨"MarketSpring$Town", "parseBetween", "()V"⟩, 9) := ⟨⟨by decide +kernel, by decide +kernel⟩, List.mem_of_getElem? (i := 23) (by decide +kernel), List.mem_of_getElem? (i := 376) (by decide +kernel), List.mem_of_getElem? (i := 377) (by decide +kernel)⟩
theorem lw_p11 : lw_okq (⟨"MarketSpring", "outdate", "()V"⟩, 11) := ⟨⟨by decide +kernel, by decide +kernel⟩, List.mem_of_getElem? (i := 15) (by decide +kernel), List.mem_of_getElem? (i := 380) (by decide +kernel), List.mem_of_getElem? (i := 381) (by decide +kernel)⟩
theorem lw_p12 : lw_okq (⟨"MarketSpring", "find", "(I)I"⟩, 11) := ⟨⟨by decide +kernel, by decide +kernel⟩, List.mem_of_getElem? (i := 15) (by decide +kernel), List.mem_of_getElem? (i := 444) (by decide +kernel), List.mem_of_getElem? (i := 445) (by decide +kernel)⟩
theorem lw_p13 : lw_okq (⟨"MarketSpring", "recordDays", "()V"⟩, 11) := ⟨⟨by decide +kernel, by decide +kernel⟩, List.mem_of_getElem? (i := 15) (by decide +kernel), List.mem_of_getElem? (i := 489) (by decide +kernel), List.mem_of_getElem? (i := 490) (by decide +kernel)⟩
theorem lw_p14 : lw_okq (⟨"MarketSpring", "makeReady", "(II)V"⟩, 11) := ⟨⟨by decide +kernel, by decide +kernel⟩, List.mem_of_getElem? (i := 15) (by decide +kernel), List.mem_of_getElem? (i := 493) (by decide +kernel), List.mem_of_getElem? (i := 494) (by decide +kernel)⟩
theorem lw_p15 : lw_okq (⟨"MarketSpring$Spring", "draw", "(I)V"⟩, 17) := ⟨⟨by decide +kernel, by decide +kernel⟩, List.mem_of_getElem? (i := 86) (by decide +kernel), List.mem_of_getElem? (i := 531) (by decide +kernel), List.mem_of_getElem? (i := 532) (by decide +kernel)⟩
def lw_privs_1 : List (MethodName × Nat) := [(⟨"MarketSpring$Town", "forgetParts", "()V"⟩, 9), (⟨"MarketSpring$Town", "parsePart", "()V"⟩, 9), (⟨"MarketSpring$Town", "next", "()I"⟩, 9), (⟨"MarketSpring$Town", "parseThing", "(I)V"⟩, 9), (⟨"MarketSpring$Town", "twoFigures", "(II)I"⟩, 9), (⟨"MarketSpring$Town", "figure", "()I"⟩, 9), (⟨"MarketSpring$Town", "parseHandle", "()V"⟩, 9), (⟨"MarketSpring$Town", "oneFigure", "(I)I"⟩, 9), (⟨"MarketSpring$Town", "refuseLast", "(Z)V"⟩, 9), (⟨"MarketSpring$Town", "parseGroup", "(I)V"⟩, 9), (⟨"MarketSpring$Town", "parseBetween", "()V"⟩, 9), (⟨"MarketSpring", "outdate", "()V"⟩, 11), (⟨"MarketSpring", "find", "(I)I"⟩, 11), (⟨"MarketSpring", "recordDays", "()V"⟩, 11), (⟨"MarketSpring", "makeReady", "(II)V"⟩, 11), (⟨"MarketSpring$Spring", "draw", "(I)V"⟩, 17)]
theorem lw_r1 : ∀ q ∈ lw_privs_1, lw_okq q := List.forall_mem_cons.mpr ⟨lw_p0, List.forall_mem_cons.mpr ⟨lw_p1, List.forall_mem_cons.mpr ⟨lw_p2, List.forall_mem_cons.mpr ⟨lw_p3, List.forall_mem_cons.mpr ⟨lw_p4, List.forall_mem_cons.mpr ⟨lw_p5, List.forall_mem_cons.mpr ⟨lw_p6, List.forall_mem_cons.mpr ⟨lw_p7, List.forall_mem_cons.mpr ⟨lw_p8, List.forall_mem_cons.mpr ⟨lw_p9, List.forall_mem_cons.mpr ⟨lw_p10, List.forall_mem_cons.mpr ⟨lw_p11, List.forall_mem_cons.mpr ⟨lw_p12, List.forall_mem_cons.mpr ⟨lw_p13, List.forall_mem_cons.mpr ⟨lw_p14, List.forall_mem_cons.mpr ⟨lw_p15, fun _ h => absurd h List.not_mem_nil⟩⟩⟩⟩⟩⟩⟩⟩⟩⟩⟩⟩⟩⟩⟩⟩
theorem lw_p16 : lw_okq (⟨"MarketSpring$Spring", "pullChain", "()V"⟩, 17) := ⟨⟨by decide +kernel, by decide +kernel⟩, List.mem_of_getElem? (i := 86) (by decide +kernel), List.mem_of_getElem? (i := 536) (by decide +kernel), List.mem_of_getElem? (i := 537) (by decide +kernel)⟩
theorem lw_p17 : lw_okq (⟨"MarketSpring", "waitingBits", "()I"⟩, 11) := ⟨⟨by decide +kernel, by decide +kernel⟩, List.mem_of_getElem? (i := 15) (by decide +kernel), List.mem_of_getElem? (i := 604) (by decide +kernel), List.mem_of_getElem? (i := 605) (by decide +kernel)⟩
theorem lw_p18 : lw_okq (⟨"MarketSpring$Plan", "gather", "(I)V"⟩, 8) := ⟨⟨by decide +kernel, by decide +kernel⟩, List.mem_of_getElem? (i := 187) (by decide +kernel), List.mem_of_getElem? (i := 616) (by decide +kernel), List.mem_of_getElem? (i := 617) (by decide +kernel)⟩
theorem lw_p19 : lw_okq (⟨"MarketSpring$Plan", "layTrial", "(I)V"⟩, 8) := ⟨⟨by decide +kernel, by decide +kernel⟩, List.mem_of_getElem? (i := 187) (by decide +kernel), List.mem_of_getElem? (i := 623) (by decide +kernel), List.mem_of_getElem? (i := 624) (by decide +kernel)⟩
theorem lw_p20 : lw_okq (⟨"MarketSpring$Plan", "tryOut", "(LMarketSpring$Spring;)V"⟩, 8) := ⟨⟨by decide +kernel, by decide +kernel⟩, List.mem_of_getElem? (i := 187) (by decide +kernel), List.mem_of_getElem? (i := 628) (by decide +kernel), List.mem_of_getElem? (i := 629) (by decide +kernel)⟩
theorem lw_p21 : lw_okq (⟨"MarketSpring$Plan", "keepTrial", "(II)V"⟩, 8) := ⟨⟨by decide +kernel, by decide +kernel⟩, List.mem_of_getElem? (i := 187) (by decide +kernel), List.mem_of_getElem? (i := 635) (by decide +kernel), List.mem_of_getElem? (i := 636) (by decide +kernel)⟩
theorem lw_p22 : lw_okq (⟨"MarketSpring$Watch", "layDue", "()V"⟩, 9) := ⟨⟨by decide +kernel, by decide +kernel⟩, List.mem_of_getElem? (i := 221) (by decide +kernel), List.mem_of_getElem? (i := 683) (by decide +kernel), List.mem_of_getElem? (i := 684) (by decide +kernel)⟩
theorem lw_p23 : lw_okq (⟨"MarketSpring$Watch", "fits", "(LMarketSpring$Spring;)Z"⟩, 9) := ⟨⟨by decide +kernel, by decide +kernel⟩, List.mem_of_getElem? (i := 221) (by decide +kernel), List.mem_of_getElem? (i := 692) (by decide +kernel), List.mem_of_getElem? (i := 693) (by decide +kernel)⟩
theorem lw_p24 : lw_okq (⟨"MarketSpringModel", "faultNow", "()I"⟩, 34) := ⟨⟨by decide +kernel, by decide +kernel⟩, List.mem_of_getElem? (i := 787) (by decide +kernel), List.mem_of_getElem? (i := 912) (by decide +kernel), List.mem_of_getElem? (i := 913) (by decide +kernel)⟩
theorem lw_p25 : lw_okq (⟨"MarketSpringModel", "reads", "()I"⟩, 34) := ⟨⟨by decide +kernel, by decide +kernel⟩, List.mem_of_getElem? (i := 787) (by decide +kernel), List.mem_of_getElem? (i := 916) (by decide +kernel), List.mem_of_getElem? (i := 917) (by decide +kernel)⟩
theorem lw_p26 : lw_okq (⟨"MarketSpringModel", "byteAt", "(I)I"⟩, 34) := ⟨⟨by decide +kernel, by decide +kernel⟩, List.mem_of_getElem? (i := 787) (by decide +kernel), List.mem_of_getElem? (i := 920) (by decide +kernel), List.mem_of_getElem? (i := 921) (by decide +kernel)⟩
theorem lw_p27 : lw_okq (⟨"MarketSpringModel", "wrongThing", "(I)I"⟩, 34) := ⟨⟨by decide +kernel, by decide +kernel⟩, List.mem_of_getElem? (i := 787) (by decide +kernel), List.mem_of_getElem? (i := 924) (by decide +kernel), List.mem_of_getElem? (i := 925) (by decide +kernel)⟩
theorem lw_p28 : lw_okq (⟨"MarketSpringModel", "wrongAt", "(III)I"⟩, 34) := ⟨⟨by decide +kernel, by decide +kernel⟩, List.mem_of_getElem? (i := 787) (by decide +kernel), List.mem_of_getElem? (i := 928) (by decide +kernel), List.mem_of_getElem? (i := 929) (by decide +kernel)⟩
theorem lw_p29 : lw_okq (⟨"MarketSpringModel", "figureAt", "(I)I"⟩, 34) := ⟨⟨by decide +kernel, by decide +kernel⟩, List.mem_of_getElem? (i := 787) (by decide +kernel), List.mem_of_getElem? (i := 932) (by decide +kernel), List.mem_of_getElem? (i := 933) (by decide +kernel)⟩
theorem lw_p30 : lw_okq (⟨"MarketSpringModel", "numberAt", "(I)I"⟩, 34) := ⟨⟨by decide +kernel, by decide +kernel⟩, List.mem_of_getElem? (i := 787) (by decide +kernel), List.mem_of_getElem? (i := 936) (by decide +kernel), List.mem_of_getElem? (i := 937) (by decide +kernel)⟩
theorem lw_p31 : lw_okq (⟨"MarketSpringModel", "wrongGroup", "(I)I"⟩, 34) := ⟨⟨by decide +kernel, by decide +kernel⟩, List.mem_of_getElem? (i := 787) (by decide +kernel), List.mem_of_getElem? (i := 943) (by decide +kernel), List.mem_of_getElem? (i := 944) (by decide +kernel)⟩
def lw_privs_2 : List (MethodName × Nat) := [(⟨"MarketSpring$Spring", "pullChain", "()V"⟩, 17), (⟨"MarketSpring", "waitingBits", "()I"⟩, 11), (⟨"MarketSpring$Plan", "gather", "(I)V"⟩, 8), (⟨"MarketSpring$Plan", "layTrial", "(I)V"⟩, 8), (⟨"MarketSpring$Plan", "tryOut", "(LMarketSpring$Spring;)V"⟩, 8), (⟨"MarketSpring$Plan", "keepTrial", "(II)V"⟩, 8), (⟨"MarketSpring$Watch", "layDue", "()V"⟩, 9), (⟨"MarketSpring$Watch", "fits", "(LMarketSpring$Spring;)Z"⟩, 9), (⟨"MarketSpringModel", "faultNow", "()I"⟩, 34), (⟨"MarketSpringModel", "reads", "()I"⟩, 34), (⟨"MarketSpringModel", "byteAt", "(I)I"⟩, 34), (⟨"MarketSpringModel", "wrongThing", "(I)I"⟩, 34), (⟨"MarketSpringModel", "wrongAt", "(III)I"⟩, 34), (⟨"MarketSpringModel", "figureAt", "(I)I"⟩, 34), (⟨"MarketSpringModel", "numberAt", "(I)I"⟩, 34), (⟨"MarketSpringModel", "wrongGroup", "(I)I"⟩, 34)]
theorem lw_r2 : ∀ q ∈ lw_privs_2, lw_okq q := List.forall_mem_cons.mpr ⟨lw_p16, List.forall_mem_cons.mpr ⟨lw_p17, List.forall_mem_cons.mpr ⟨lw_p18, List.forall_mem_cons.mpr ⟨lw_p19, List.forall_mem_cons.mpr ⟨lw_p20, List.forall_mem_cons.mpr ⟨lw_p21, List.forall_mem_cons.mpr ⟨lw_p22, List.forall_mem_cons.mpr ⟨lw_p23, List.forall_mem_cons.mpr ⟨lw_p24, List.forall_mem_cons.mpr ⟨lw_p25, List.forall_mem_cons.mpr ⟨lw_p26, List.forall_mem_cons.mpr ⟨lw_p27, List.forall_mem_cons.mpr ⟨lw_p28, List.forall_mem_cons.mpr ⟨lw_p29, List.forall_mem_cons.mpr ⟨lw_p30, List.forall_mem_cons.mpr ⟨lw_p31, fun _ h => absurd h List.not_mem_nil⟩⟩⟩⟩⟩⟩⟩⟩⟩⟩⟩⟩⟩⟩⟩⟩
theorem lw_p32 : lw_okq (⟨"MarketSpringModel", "isThing", "(I)Z"⟩, 34) := ⟨⟨by decide +kernel, by decide +kernel⟩, List.mem_of_getElem? (i := 787) (by decide +kernel), List.mem_of_getElem? (i := 951) (by decide +kernel), List.mem_of_getElem? (i := 952) (by decide +kernel)⟩
theorem lw_p33 : lw_okq (⟨"MarketSpringModel", "thingOf", "(II)I"⟩, 34) := ⟨⟨by decide +kernel, by decide +kernel⟩, List.mem_of_getElem? (i := 787) (by decide +kernel), List.mem_of_getElem? (i := 955) (by decide +kernel), List.mem_of_getElem? (i := 956) (by decide +kernel)⟩
theorem lw_p34 : lw_okq (⟨"MarketSpringModel", "handleOf", "(I)I"⟩, 34) := ⟨⟨by decide +kernel, by decide +kernel⟩, List.mem_of_getElem? (i := 787) (by decide +kernel), List.mem_of_getElem? (i := 963) (by decide +kernel), List.mem_of_getElem? (i := 964) (by decide +kernel)⟩
theorem lw_p35 : lw_okq (⟨"MarketSpringModel", "isGroup", "(I)Z"⟩, 34) := ⟨⟨by decide +kernel, by decide +kernel⟩, List.mem_of_getElem? (i := 787) (by decide +kernel), List.mem_of_getElem? (i := 971) (by decide +kernel), List.mem_of_getElem? (i := 972) (by decide +kernel)⟩
theorem lw_p36 : lw_okq (⟨"MarketSpringModel", "meets", "(I)I"⟩, 34) := ⟨⟨by decide +kernel, by decide +kernel⟩, List.mem_of_getElem? (i := 787) (by decide +kernel), List.mem_of_getElem? (i := 997) (by decide +kernel), List.mem_of_getElem? (i := 998) (by decide +kernel)⟩
theorem lw_p37 : lw_okq (⟨"MarketSpringModel", "goesOf", "(I)I"⟩, 34) := ⟨⟨by decide +kernel, by decide +kernel⟩, List.mem_of_getElem? (i := 787) (by decide +kernel), List.mem_of_getElem? (i := 1005) (by decide +kernel), List.mem_of_getElem? (i := 1006) (by decide +kernel)⟩
theorem lw_p38 : lw_okq (⟨"MarketSpringModel", "wayOf", "(II)I"⟩, 34) := ⟨⟨by decide +kernel, by decide +kernel⟩, List.mem_of_getElem? (i := 787) (by decide +kernel), List.mem_of_getElem? (i := 1009) (by decide +kernel), List.mem_of_getElem? (i := 1010) (by decide +kernel)⟩
theorem lw_p39 : lw_okq (⟨"MarketSpringModel", "costOf", "(II)I"⟩, 34) := ⟨⟨by decide +kernel, by decide +kernel⟩, List.mem_of_getElem? (i := 787) (by decide +kernel), List.mem_of_getElem? (i := 1013) (by decide +kernel), List.mem_of_getElem? (i := 1014) (by decide +kernel)⟩
theorem lw_p40 : lw_okq (⟨"MarketSpringModel", "toilOf", "(I)I"⟩, 34) := ⟨⟨by decide +kernel, by decide +kernel⟩, List.mem_of_getElem? (i := 787) (by decide +kernel), List.mem_of_getElem? (i := 1021) (by decide +kernel), List.mem_of_getElem? (i := 1022) (by decide +kernel)⟩
theorem lw_p41 : lw_okq (⟨"MarketSpringModel", "woundAt", "(I)I"⟩, 34) := ⟨⟨by decide +kernel, by decide +kernel⟩, List.mem_of_getElem? (i := 787) (by decide +kernel), List.mem_of_getElem? (i := 1029) (by decide +kernel), List.mem_of_getElem? (i := 1030) (by decide +kernel)⟩
theorem lw_p42 : lw_okq (⟨"MarketSpringModel", "levelOf", "(II)I"⟩, 34) := ⟨⟨by decide +kernel, by decide +kernel⟩, List.mem_of_getElem? (i := 787) (by decide +kernel), List.mem_of_getElem? (i := 1040) (by decide +kernel), List.mem_of_getElem? (i := 1041) (by decide +kernel)⟩
theorem lw_p43 : lw_okq (⟨"MarketSpringModel", "lays", "()V"⟩, 34) := ⟨⟨by decide +kernel, by decide +kernel⟩, List.mem_of_getElem? (i := 787) (by decide +kernel), List.mem_of_getElem? (i := 1044) (by decide +kernel), List.mem_of_getElem? (i := 1045) (by decide +kernel)⟩
theorem lw_p44 : lw_okq (⟨"MarketSpringModel", "laysWinds", "()V"⟩, 34) := ⟨⟨by decide +kernel, by decide +kernel⟩, List.mem_of_getElem? (i := 787) (by decide +kernel), List.mem_of_getElem? (i := 1048) (by decide +kernel), List.mem_of_getElem? (i := 1049) (by decide +kernel)⟩
theorem lw_p45 : lw_okq (⟨"MarketSpringModel", "runs", "(IIII)V"⟩, 34) := ⟨⟨by decide +kernel, by decide +kernel⟩, List.mem_of_getElem? (i := 787) (by decide +kernel), List.mem_of_getElem? (i := 1052) (by decide +kernel), List.mem_of_getElem? (i := 1053) (by decide +kernel)⟩
theorem lw_p46 : lw_okq (⟨"MarketSpringModel", "isGoing", "(III)Z"⟩, 34) := ⟨⟨by decide +kernel, by decide +kernel⟩, List.mem_of_getElem? (i := 787) (by decide +kernel), List.mem_of_getElem? (i := 1056) (by decide +kernel), List.mem_of_getElem? (i := 1057) (by decide +kernel)⟩
theorem lw_p47 : lw_okq (⟨"MarketSpringModel", "stoodOf", "(II)I"⟩, 34) := ⟨⟨by decide +kernel, by decide +kernel⟩, List.mem_of_getElem? (i := 787) (by decide +kernel), List.mem_of_getElem? (i := 1071) (by decide +kernel), List.mem_of_getElem? (i := 1072) (by decide +kernel)⟩
def lw_privs_3 : List (MethodName × Nat) := [(⟨"MarketSpringModel", "isThing", "(I)Z"⟩, 34), (⟨"MarketSpringModel", "thingOf", "(II)I"⟩, 34), (⟨"MarketSpringModel", "handleOf", "(I)I"⟩, 34), (⟨"MarketSpringModel", "isGroup", "(I)Z"⟩, 34), (⟨"MarketSpringModel", "meets", "(I)I"⟩, 34), (⟨"MarketSpringModel", "goesOf", "(I)I"⟩, 34), (⟨"MarketSpringModel", "wayOf", "(II)I"⟩, 34), (⟨"MarketSpringModel", "costOf", "(II)I"⟩, 34), (⟨"MarketSpringModel", "toilOf", "(I)I"⟩, 34), (⟨"MarketSpringModel", "woundAt", "(I)I"⟩, 34), (⟨"MarketSpringModel", "levelOf", "(II)I"⟩, 34), (⟨"MarketSpringModel", "lays", "()V"⟩, 34), (⟨"MarketSpringModel", "laysWinds", "()V"⟩, 34), (⟨"MarketSpringModel", "runs", "(IIII)V"⟩, 34), (⟨"MarketSpringModel", "isGoing", "(III)Z"⟩, 34), (⟨"MarketSpringModel", "stoodOf", "(II)I"⟩, 34)]
theorem lw_r3 : ∀ q ∈ lw_privs_3, lw_okq q := List.forall_mem_cons.mpr ⟨lw_p32, List.forall_mem_cons.mpr ⟨lw_p33, List.forall_mem_cons.mpr ⟨lw_p34, List.forall_mem_cons.mpr ⟨lw_p35, List.forall_mem_cons.mpr ⟨lw_p36, List.forall_mem_cons.mpr ⟨lw_p37, List.forall_mem_cons.mpr ⟨lw_p38, List.forall_mem_cons.mpr ⟨lw_p39, List.forall_mem_cons.mpr ⟨lw_p40, List.forall_mem_cons.mpr ⟨lw_p41, List.forall_mem_cons.mpr ⟨lw_p42, List.forall_mem_cons.mpr ⟨lw_p43, List.forall_mem_cons.mpr ⟨lw_p44, List.forall_mem_cons.mpr ⟨lw_p45, List.forall_mem_cons.mpr ⟨lw_p46, List.forall_mem_cons.mpr ⟨lw_p47, fun _ h => absurd h List.not_mem_nil⟩⟩⟩⟩⟩⟩⟩⟩⟩⟩⟩⟩⟩⟩⟩⟩
theorem lw_p48 : lw_okq (⟨"MarketSpringModel", "stoodBy", "(II)I"⟩, 34) := ⟨⟨by decide +kernel, by decide +kernel⟩, List.mem_of_getElem? (i := 787) (by decide +kernel), List.mem_of_getElem? (i := 1075) (by decide +kernel), List.mem_of_getElem? (i := 1076) (by decide +kernel)⟩
theorem lw_p49 : lw_okq (⟨"MarketSpringModel", "lostOf", "(I)I"⟩, 34) := ⟨⟨by decide +kernel, by decide +kernel⟩, List.mem_of_getElem? (i := 787) (by decide +kernel), List.mem_of_getElem? (i := 1083) (by decide +kernel), List.mem_of_getElem? (i := 1084) (by decide +kernel)⟩
theorem lw_p50 : lw_okq (⟨"MarketSpringModel", "flowOf", "(I)I"⟩, 34) := ⟨⟨by decide +kernel, by decide +kernel⟩, List.mem_of_getElem? (i := 787) (by decide +kernel), List.mem_of_getElem? (i := 1091) (by decide +kernel), List.mem_of_getElem? (i := 1092) (by decide +kernel)⟩
theorem lw_p51 : lw_okq (⟨"MarketSpringModel", "worstOf", "(II)I"⟩, 34) := ⟨⟨by decide +kernel, by decide +kernel⟩, List.mem_of_getElem? (i := 787) (by decide +kernel), List.mem_of_getElem? (i := 1099) (by decide +kernel), List.mem_of_getElem? (i := 1100) (by decide +kernel)⟩
theorem lw_p52 : lw_okq (⟨"MarketSpringModel", "worstBy", "(I)I"⟩, 34) := ⟨⟨by decide +kernel, by decide +kernel⟩, List.mem_of_getElem? (i := 787) (by decide +kernel), List.mem_of_getElem? (i := 1103) (by decide +kernel), List.mem_of_getElem? (i := 1104) (by decide +kernel)⟩
theorem lw_p53 : lw_okq (⟨"MarketSpringModel", "fewestOf", "(I)I"⟩, 34) := ⟨⟨by decide +kernel, by decide +kernel⟩, List.mem_of_getElem? (i := 787) (by decide +kernel), List.mem_of_getElem? (i := 1111) (by decide +kernel), List.mem_of_getElem? (i := 1112) (by decide +kernel)⟩
theorem lw_p54 : lw_okq (⟨"MarketSpringModel", "placeOf", "(II)I"⟩, 34) := ⟨⟨by decide +kernel, by decide +kernel⟩, List.mem_of_getElem? (i := 787) (by decide +kernel), List.mem_of_getElem? (i := 1122) (by decide +kernel), List.mem_of_getElem? (i := 1123) (by decide +kernel)⟩
theorem lw_p55 : lw_okq (⟨"MarketSpringModel", "mayWait", "(I)Z"⟩, 34) := ⟨⟨by decide +kernel, by decide +kernel⟩, List.mem_of_getElem? (i := 787) (by decide +kernel), List.mem_of_getElem? (i := 1130) (by decide +kernel), List.mem_of_getElem? (i := 1131) (by decide +kernel)⟩
theorem lw_p56 : lw_okq (⟨"MarketSpringModel", "lastsNow", "()I"⟩, 34) := ⟨⟨by decide +kernel, by decide +kernel⟩, List.mem_of_getElem? (i := 787) (by decide +kernel), List.mem_of_getElem? (i := 1138) (by decide +kernel), List.mem_of_getElem? (i := 1139) (by decide +kernel)⟩
theorem lw_p57 : lw_okq (⟨"MarketSpringModel", "unlikeNow", "()I"⟩, 34) := ⟨⟨by decide +kernel, by decide +kernel⟩, List.mem_of_getElem? (i := 787) (by decide +kernel), List.mem_of_getElem? (i := 1154) (by decide +kernel), List.mem_of_getElem? (i := 1155) (by decide +kernel)⟩
theorem lw_p58 : lw_okq (⟨"MarketSpringModel", "unlikeBy", "()I"⟩, 34) := ⟨⟨by decide +kernel, by decide +kernel⟩, List.mem_of_getElem? (i := 787) (by decide +kernel), List.mem_of_getElem? (i := 1158) (by decide +kernel), List.mem_of_getElem? (i := 1159) (by decide +kernel)⟩
theorem lw_p59 : lw_okq (⟨"MarketSpringModel", "robbedOf", "(III)I"⟩, 34) := ⟨⟨by decide +kernel, by decide +kernel⟩, List.mem_of_getElem? (i := 787) (by decide +kernel), List.mem_of_getElem? (i := 1170) (by decide +kernel), List.mem_of_getElem? (i := 1171) (by decide +kernel)⟩
theorem lw_p60 : lw_okq (⟨"MarketSpringModel", "lacks", "(III)I"⟩, 34) := ⟨⟨by decide +kernel, by decide +kernel⟩, List.mem_of_getElem? (i := 787) (by decide +kernel), List.mem_of_getElem? (i := 1186) (by decide +kernel), List.mem_of_getElem? (i := 1187) (by decide +kernel)⟩
theorem lw_p61 : lw_okq (⟨"MarketSpringModel", "keep", "(III)V"⟩, 34) := ⟨⟨by decide +kernel, by decide +kernel⟩, List.mem_of_getElem? (i := 787) (by decide +kernel), List.mem_of_getElem? (i := 1190) (by decide +kernel), List.mem_of_getElem? (i := 1191) (by decide +kernel)⟩
theorem lw_p62 : lw_okq (⟨"MarketSpringModel", "sumOf", "(I)I"⟩, 34) := ⟨⟨by decide +kernel, by decide +kernel⟩, List.mem_of_getElem? (i := 787) (by decide +kernel), List.mem_of_getElem? (i := 1211) (by decide +kernel), List.mem_of_getElem? (i := 1212) (by decide +kernel)⟩
def lw_privs_4 : List (MethodName × Nat) := [(⟨"MarketSpringModel", "stoodBy", "(II)I"⟩, 34), (⟨"MarketSpringModel", "lostOf", "(I)I"⟩, 34), (⟨"MarketSpringModel", "flowOf", "(I)I"⟩, 34), (⟨"MarketSpringModel", "worstOf", "(II)I"⟩, 34), (⟨"MarketSpringModel", "worstBy", "(I)I"⟩, 34), (⟨"MarketSpringModel", "fewestOf", "(I)I"⟩, 34), (⟨"MarketSpringModel", "placeOf", "(II)I"⟩, 34), (⟨"MarketSpringModel", "mayWait", "(I)Z"⟩, 34), (⟨"MarketSpringModel", "lastsNow", "()I"⟩, 34), (⟨"MarketSpringModel", "unlikeNow", "()I"⟩, 34), (⟨"MarketSpringModel", "unlikeBy", "()I"⟩, 34), (⟨"MarketSpringModel", "robbedOf", "(III)I"⟩, 34), (⟨"MarketSpringModel", "lacks", "(III)I"⟩, 34), (⟨"MarketSpringModel", "keep", "(III)V"⟩, 34), (⟨"MarketSpringModel", "sumOf", "(I)I"⟩, 34)]
theorem lw_r4 : ∀ q ∈ lw_privs_4, lw_okq q := List.forall_mem_cons.mpr ⟨lw_p48, List.forall_mem_cons.mpr ⟨lw_p49, List.forall_mem_cons.mpr ⟨lw_p50, List.forall_mem_cons.mpr ⟨lw_p51, List.forall_mem_cons.mpr ⟨lw_p52, List.forall_mem_cons.mpr ⟨lw_p53, List.forall_mem_cons.mpr ⟨lw_p54, List.forall_mem_cons.mpr ⟨lw_p55, List.forall_mem_cons.mpr ⟨lw_p56, List.forall_mem_cons.mpr ⟨lw_p57, List.forall_mem_cons.mpr ⟨lw_p58, List.forall_mem_cons.mpr ⟨lw_p59, List.forall_mem_cons.mpr ⟨lw_p60, List.forall_mem_cons.mpr ⟨lw_p61, List.forall_mem_cons.mpr ⟨lw_p62, fun _ h => absurd h List.not_mem_nil⟩⟩⟩⟩⟩⟩⟩⟩⟩⟩⟩⟩⟩⟩⟩
def lw_privs : List (MethodName × Nat) := lw_privs_1 ++ (lw_privs_2 ++ (lw_privs_3 ++ (lw_privs_4)))
def lw_tbl : List Cond := k2_sels lw_privs ++ tables_1
theorem lw_privs_ok : ∀ q ∈ lw_privs, lw_okq q := by
  show ∀ q ∈ lw_privs_1 ++ (lw_privs_2 ++ (lw_privs_3 ++ (lw_privs_4))), lw_okq q
  exact List.forall_mem_append.mpr ⟨lw_r1, List.forall_mem_append.mpr ⟨lw_r2, List.forall_mem_append.mpr ⟨lw_r3, lw_r4⟩⟩⟩
end
section
/-! ===== BEGIN words of one list among another's, by their places ===== -/
theorem goodIn_r {big : List Cond} (ws : List Cond) (ps : List Nat) (hp : ws = ps.filterMap (fun i => big[i]?)) (h : ws.all goodWord = true) : GoodIn big ws := by
  intro w hw
  have h1 := List.all_eq_true.mp h w hw
  rw [hp] at hw
  obtain ⟨i, -, hi⟩ := List.mem_filterMap.mp hw
  have hm : w ∈ big := by first | exact List.mem_of_getElem? hi | exact List.getElem?_mem hi
  exact ⟨hm, good_of_word h1⟩
theorem goodIn_app {big a b : List Cond} (ha : GoodIn big a) (hb : GoodIn big b) : GoodIn big (a ++ b) := fun w h => (List.mem_append.mp h).elim (ha w) (hb w)
theorem goodIn_ca {big a b : List Cond} {c : Cond} (ha : GoodIn big (c :: a)) (hb : GoodIn big b) : GoodIn big (c :: (a ++ b)) := fun w h => (List.mem_cons.mp h).elim (fun e => ha w (List.mem_cons.mpr (Or.inl e))) (fun h => (List.mem_append.mp h).elim (fun h => ha w (List.mem_cons.mpr (Or.inr h))) (hb w))
theorem goodIn_sub {big ws : List Cond} (hm : ∀ w ∈ ws, w ∈ big) (h : ws.all goodWord = true) : GoodIn big ws := fun w hw => ⟨hm w hw, good_of_word (List.all_eq_true.mp h w hw)⟩
/-! ===== END ===== -/

/-! ===== BEGIN printed: names, fields, word lists, decode rows ===== -/
def RX0 : String := "MarketSpring$Days"
def TX0 : u_T := fun k => match k with
  | 0 => ("MarketSpring$Days", "levels", "[I", true)
  | 1 => ("MarketSpring$Days", "seconds", "[I", true)
  | 2 => ("MarketSpring$Days", "flows", "[I", true)
  | 3 => ("MarketSpring$Days", "spilt", "[I", true)
  | 4 => ("MarketSpring$Days", "standing", "[I", true)
  | _ => ("MarketSpring$Days", "known", "Z", false)
def tyX0 : Nat → FieldType := fun k => match k with
  | 0 => .array .int
  | 1 => .array .int
  | 2 => .array .int
  | 3 => .array .int
  | 4 => .array .int
  | _ => .boolean
abbrev wsX00 : List Cond := u_ws RX0 TX0 6
theorem nmX0 : ∀ a, a < 6 → ∀ b, b < 6 → a ≠ b → (TX0 a).2.1 ≠ (TX0 b).2.1 := by decide +kernel
theorem tyX0_ok : ∀ k, k < 6 → parseFieldDescriptor (TX0 k).2.2.1 = some (tyX0 k) := by decide +kernel
abbrev cX0_init : ByteArray := prog_2_method_1_code
def yX0_init : MethodName := ⟨RX0, "<init>", "()V"⟩
abbrev cX0_record : ByteArray := prog_2_method_2_code
def yX0_record : MethodName := ⟨RX0, "record", "(LMarketSpring$Spring;)V"⟩
abbrev cX0_hoursStood : ByteArray := prog_2_method_3_code
def yX0_hoursStood : MethodName := ⟨RX0, "hoursStood", "(II)I"⟩
abbrev cX0_spiltWithin : ByteArray := prog_2_method_4_code
def yX0_spiltWithin : MethodName := ⟨RX0, "spiltWithin", "(I)I"⟩
abbrev cX0_worstHour : ByteArray := prog_2_method_5_code
def yX0_worstHour : MethodName := ⟨RX0, "worstHour", "(I)I"⟩
abbrev cX0_firstStanding : ByteArray := prog_2_method_6_code
def yX0_firstStanding : MethodName := ⟨RX0, "firstStanding", "()I"⟩
def RX1 : String := "MarketSpring$Plan"
def TX1 : u_T := fun k => match k with
  | 0 => ("MarketSpring$Plan", "waiting", "[I", true)
  | 1 => ("MarketSpring$Plan", "trial", "[I", true)
  | 2 => ("MarketSpring$Plan", "bestShifts", "[I", true)
  | 3 => ("MarketSpring$Plan", "size", "I", false)
  | 4 => ("MarketSpring$Plan", "mustBits", "I", false)
  | 5 => ("MarketSpring$Plan", "mustStood", "I", false)
  | 6 => ("MarketSpring$Plan", "allStood", "I", false)
  | _ => ("MarketSpring$Plan", "known", "Z", false)
def tyX1 : Nat → FieldType := fun k => match k with
  | 0 => .array .int
  | 1 => .array .int
  | 2 => .array .int
  | 3 => .int
  | 4 => .int
  | 5 => .int
  | 6 => .int
  | _ => .boolean
abbrev wsX10 : List Cond := u_ws RX1 TX1 8
theorem nmX1 : ∀ a, a < 8 → ∀ b, b < 8 → a ≠ b → (TX1 a).2.1 ≠ (TX1 b).2.1 := by decide +kernel
theorem tyX1_ok : ∀ k, k < 8 → parseFieldDescriptor (TX1 k).2.2.1 = some (tyX1 k) := by decide +kernel
abbrev cX1_init : ByteArray := prog_3_method_1_code
def yX1_init : MethodName := ⟨RX1, "<init>", "()V"⟩
abbrev cX1_shiftOf : ByteArray := prog_3_method_2_code
def yX1_shiftOf : MethodName := ⟨RX1, "shiftOf", "(I)I"⟩
abbrev cX1_search : ByteArray := prog_3_method_3_code
def yX1_search : MethodName := ⟨RX1, "search", "(LMarketSpring$Spring;LMarketSpring$Town;I)V"⟩
abbrev cX1_gather : ByteArray := prog_3_method_4_code
def yX1_gather : MethodName := ⟨RX1, "gather", "(I)V"⟩
abbrev cX1_layTrial : ByteArray := prog_3_method_5_code
def yX1_layTrial : MethodName := ⟨RX1, "layTrial", "(I)V"⟩
abbrev cX1_tryOut : ByteArray := prog_3_method_6_code
def yX1_tryOut : MethodName := ⟨RX1, "tryOut", "(LMarketSpring$Spring;)V"⟩
abbrev cX1_keepTrial : ByteArray := prog_3_method_7_code
def yX1_keepTrial : MethodName := ⟨RX1, "keepTrial", "(II)V"⟩
def RX2 : String := "MarketSpring$Sheet"
def TX2 : u_T := fun k => match k with
  | 0 => ("MarketSpring$Sheet", "items", "[I", true)
  | 1 => ("MarketSpring$Sheet", "form", "I", false)
  | 2 => ("MarketSpring$Sheet", "size", "I", false)
  | _ => ("MarketSpring$Sheet", "gone", "Z", false)
def tyX2 : Nat → FieldType := fun k => match k with
  | 0 => .array .int
  | 1 => .int
  | 2 => .int
  | _ => .boolean
abbrev wsX20 : List Cond := u_ws RX2 TX2 4
theorem nmX2 : ∀ a, a < 4 → ∀ b, b < 4 → a ≠ b → (TX2 a).2.1 ≠ (TX2 b).2.1 := by decide +kernel
theorem tyX2_ok : ∀ k, k < 4 → parseFieldDescriptor (TX2 k).2.2.1 = some (tyX2 k) := by decide +kernel
abbrev cX2_init : ByteArray := prog_4_method_1_code
def yX2_init : MethodName := ⟨RX2, "<init>", "()V"⟩
abbrev cX2_renew : ByteArray := prog_4_method_2_code
def yX2_renew : MethodName := ⟨RX2, "renew", "(II)V"⟩
abbrev cX2_hasRun : ByteArray := prog_4_method_3_code
def yX2_hasRun : MethodName := ⟨RX2, "hasRun", "(II)Z"⟩
abbrev cX2_store : ByteArray := prog_4_method_4_code
def yX2_store : MethodName := ⟨RX2, "store", "(II)V"⟩
def RX3 : String := "MarketSpring$Spring"
def TX3 : u_T := fun k => match k with
  | 0 => ("MarketSpring$Spring", "gains", "[I", true)
  | 1 => ("MarketSpring$Spring", "needs", "[I", true)
  | 2 => ("MarketSpring$Spring", "hoursOf", "[I", true)
  | 3 => ("MarketSpring$Spring", "things", "I", false)
  | 4 => ("MarketSpring$Spring", "most", "I", false)
  | 5 => ("MarketSpring$Spring", "tire", "I", false)
  | 6 => ("MarketSpring$Spring", "link", "I", false)
  | 7 => ("MarketSpring$Spring", "drain", "I", false)
  | 8 => ("MarketSpring$Spring", "start", "I", false)
  | 9 => ("MarketSpring$Spring", "secondStart", "I", false)
  | 10 => ("MarketSpring$Spring", "thiefHour", "I", false)
  | 11 => ("MarketSpring$Spring", "thiefTakes", "I", false)
  | 12 => ("MarketSpring$Spring", "level", "I", false)
  | 13 => ("MarketSpring$Spring", "second", "I", false)
  | 14 => ("MarketSpring$Spring", "spilt", "I", false)
  | 15 => ("MarketSpring$Spring", "flowed", "I", false)
  | _ => ("MarketSpring$Spring", "standing", "I", false)
def tyX3 : Nat → FieldType := fun k => match k with
  | 0 => .array .int
  | 1 => .array .int
  | 2 => .array .int
  | 3 => .int
  | 4 => .int
  | 5 => .int
  | 6 => .int
  | 7 => .int
  | 8 => .int
  | 9 => .int
  | 10 => .int
  | 11 => .int
  | 12 => .int
  | 13 => .int
  | 14 => .int
  | 15 => .int
  | _ => .int
abbrev wsX30 : List Cond := u_ws RX3 TX3 17
theorem nmX3 : ∀ a, a < 17 → ∀ b, b < 17 → a ≠ b → (TX3 a).2.1 ≠ (TX3 b).2.1 := by decide +kernel
theorem tyX3_ok : ∀ k, k < 17 → parseFieldDescriptor (TX3 k).2.2.1 = some (tyX3 k) := by decide +kernel
abbrev cX3_init : ByteArray := prog_5_method_1_code
def yX3_init : MethodName := ⟨RX3, "<init>", "()V"⟩
abbrev cX3_take : ByteArray := prog_5_method_2_code
def yX3_take : MethodName := ⟨RX3, "take", "([I)V"⟩
abbrev cX3_rob : ByteArray := prog_5_method_3_code
def yX3_rob : MethodName := ⟨RX3, "rob", "(II)V"⟩
abbrev cX3_begin : ByteArray := prog_5_method_4_code
def yX3_begin : MethodName := ⟨RX3, "begin", "()V"⟩
abbrev cX3_turn : ByteArray := prog_5_method_5_code
def yX3_turn : MethodName := ⟨RX3, "turn", "(I)V"⟩
abbrev cX3_leastLevel : ByteArray := prog_5_method_6_code
def yX3_leastLevel : MethodName := ⟨RX3, "leastLevel", "(I)I"⟩
abbrev cX3_allGoWithin : ByteArray := prog_5_method_7_code
def yX3_allGoWithin : MethodName := ⟨RX3, "allGoWithin", "(I)Z"⟩
abbrev cX3_draw : ByteArray := prog_5_method_8_code
def yX3_draw : MethodName := ⟨RX3, "draw", "(I)V"⟩
abbrev cX3_pullChain : ByteArray := prog_5_method_9_code
def yX3_pullChain : MethodName := ⟨RX3, "pullChain", "()V"⟩
def RX4 : String := "MarketSpring$Town"
def TX4 : u_T := fun k => match k with
  | 0 => ("MarketSpring$Town", "text", "[I", true)
  | 1 => ("MarketSpring$Town", "thingRows", "[I", true)
  | 2 => ("MarketSpring$Town", "groupRows", "[I", true)
  | 3 => ("MarketSpring$Town", "length", "I", false)
  | 4 => ("MarketSpring$Town", "things", "I", false)
  | 5 => ("MarketSpring$Town", "groups", "I", false)
  | 6 => ("MarketSpring$Town", "handleBits", "I", false)
  | 7 => ("MarketSpring$Town", "faultAt", "I", false)
  | _ => ("MarketSpring$Town", "at", "I", false)
def tyX4 : Nat → FieldType := fun k => match k with
  | 0 => .array .int
  | 1 => .array .int
  | 2 => .array .int
  | 3 => .int
  | 4 => .int
  | 5 => .int
  | 6 => .int
  | 7 => .int
  | _ => .int
abbrev wsX40 : List Cond := u_ws RX4 TX4 9
theorem nmX4 : ∀ a, a < 9 → ∀ b, b < 9 → a ≠ b → (TX4 a).2.1 ≠ (TX4 b).2.1 := by decide +kernel
theorem tyX4_ok : ∀ k, k < 9 → parseFieldDescriptor (TX4 k).2.2.1 = some (tyX4 k) := by decide +kernel
abbrev cX4_init : ByteArray := prog_6_method_1_code
def yX4_init : MethodName := ⟨RX4, "<init>", "()V"⟩
abbrev cX4_append : ByteArray := prog_6_method_2_code
def yX4_append : MethodName := ⟨RX4, "append", "(I)V"⟩
abbrev cX4_hasThing : ByteArray := prog_6_method_3_code
def yX4_hasThing : MethodName := ⟨RX4, "hasThing", "(I)Z"⟩
abbrev cX4_hasGroup : ByteArray := prog_6_method_4_code
def yX4_hasGroup : MethodName := ⟨RX4, "hasGroup", "(I)Z"⟩
abbrev cX4_ofThing : ByteArray := prog_6_method_5_code
def yX4_ofThing : MethodName := ⟨RX4, "ofThing", "(II)I"⟩
abbrev cX4_ofGroup : ByteArray := prog_6_method_6_code
def yX4_ofGroup : MethodName := ⟨RX4, "ofGroup", "(II)I"⟩
abbrev cX4_mustBits : ByteArray := prog_6_method_7_code
def yX4_mustBits : MethodName := ⟨RX4, "mustBits", "()I"⟩
abbrev cX4_allPeople : ByteArray := prog_6_method_8_code
def yX4_allPeople : MethodName := ⟨RX4, "allPeople", "()I"⟩
abbrev cX4_hoursOf : ByteArray := prog_6_method_9_code
def yX4_hoursOf : MethodName := ⟨RX4, "hoursOf", "(II)I"⟩
abbrev cX4_parse : ByteArray := prog_6_method_10_code
def yX4_parse : MethodName := ⟨RX4, "parse", "()V"⟩
abbrev cX4_forgetParts : ByteArray := prog_6_method_11_code
def yX4_forgetParts : MethodName := ⟨RX4, "forgetParts", "()V"⟩
abbrev cX4_parseBetween : ByteArray := prog_6_method_12_code
def yX4_parseBetween : MethodName := ⟨RX4, "parseBetween", "()V"⟩
abbrev cX4_parsePart : ByteArray := prog_6_method_13_code
def yX4_parsePart : MethodName := ⟨RX4, "parsePart", "()V"⟩
abbrev cX4_parseThing : ByteArray := prog_6_method_14_code
def yX4_parseThing : MethodName := ⟨RX4, "parseThing", "(I)V"⟩
abbrev cX4_parseHandle : ByteArray := prog_6_method_15_code
def yX4_parseHandle : MethodName := ⟨RX4, "parseHandle", "()V"⟩
abbrev cX4_parseGroup : ByteArray := prog_6_method_16_code
def yX4_parseGroup : MethodName := ⟨RX4, "parseGroup", "(I)V"⟩
abbrev cX4_refuseLast : ByteArray := prog_6_method_17_code
def yX4_refuseLast : MethodName := ⟨RX4, "refuseLast", "(Z)V"⟩
abbrev cX4_next : ByteArray := prog_6_method_18_code
def yX4_next : MethodName := ⟨RX4, "next", "()I"⟩
abbrev cX4_oneFigure : ByteArray := prog_6_method_19_code
def yX4_oneFigure : MethodName := ⟨RX4, "oneFigure", "(I)I"⟩
abbrev cX4_twoFigures : ByteArray := prog_6_method_20_code
def yX4_twoFigures : MethodName := ⟨RX4, "twoFigures", "(II)I"⟩
abbrev cX4_figure : ByteArray := prog_6_method_21_code
def yX4_figure : MethodName := ⟨RX4, "figure", "()I"⟩
def RX5 : String := "MarketSpring$Watch"
def TX5 : u_T := fun k => match k with
  | 0 => ("MarketSpring$Watch", "seenHours", "[I", true)
  | 1 => ("MarketSpring$Watch", "seenLevels", "[I", true)
  | 2 => ("MarketSpring$Watch", "due", "[I", true)
  | 3 => ("MarketSpring$Watch", "size", "I", false)
  | 4 => ("MarketSpring$Watch", "hoursDue", "I", false)
  | 5 => ("MarketSpring$Watch", "clash", "Z", false)
  | 6 => ("MarketSpring$Watch", "thieves", "I", false)
  | 7 => ("MarketSpring$Watch", "firstThief", "I", false)
  | _ => ("MarketSpring$Watch", "known", "Z", false)
def tyX5 : Nat → FieldType := fun k => match k with
  | 0 => .array .int
  | 1 => .array .int
  | 2 => .array .int
  | 3 => .int
  | 4 => .int
  | 5 => .boolean
  | 6 => .int
  | 7 => .int
  | _ => .boolean
abbrev wsX50 : List Cond := u_ws RX5 TX5 9
theorem nmX5 : ∀ a, a < 9 → ∀ b, b < 9 → a ≠ b → (TX5 a).2.1 ≠ (TX5 b).2.1 := by decide +kernel
theorem tyX5_ok : ∀ k, k < 9 → parseFieldDescriptor (TX5 k).2.2.1 = some (tyX5 k) := by decide +kernel
abbrev cX5_init : ByteArray := prog_7_method_1_code
def yX5_init : MethodName := ⟨RX5, "<init>", "()V"⟩
abbrev cX5_note : ByteArray := prog_7_method_2_code
def yX5_note : MethodName := ⟨RX5, "note", "(II)V"⟩
abbrev cX5_clearNotes : ByteArray := prog_7_method_3_code
def yX5_clearNotes : MethodName := ⟨RX5, "clearNotes", "()V"⟩
abbrev cX5_differing : ByteArray := prog_7_method_4_code
def yX5_differing : MethodName := ⟨RX5, "differing", "([I)I"⟩
abbrev cX5_search : ByteArray := prog_7_method_5_code
def yX5_search : MethodName := ⟨RX5, "search", "(LMarketSpring$Spring;)V"⟩
abbrev cX5_layDue : ByteArray := prog_7_method_6_code
def yX5_layDue : MethodName := ⟨RX5, "layDue", "()V"⟩
abbrev cX5_fits : ByteArray := prog_7_method_7_code
def yX5_fits : MethodName := ⟨RX5, "fits", "(LMarketSpring$Spring;)Z"⟩
def RX6 : String := "MarketSpring$Ways"
def TX6 : u_T := fun k => match k with
  | 0 => ("MarketSpring$Ways", "town", "LMarketSpring$Town;", true)
  | _ => ("MarketSpring$Ways", "settings", "[I", true)
def tyX6 : Nat → FieldType := fun k => match k with
  | 0 => .object "MarketSpring$Town"
  | _ => .array .int
abbrev wsX60 : List Cond := u_ws RX6 TX6 2
theorem nmX6 : ∀ a, a < 2 → ∀ b, b < 2 → a ≠ b → (TX6 a).2.1 ≠ (TX6 b).2.1 := by decide +kernel
theorem tyX6_ok : ∀ k, k < 2 → parseFieldDescriptor (TX6 k).2.2.1 = some (tyX6 k) := by decide +kernel
abbrev cX6_init : ByteArray := prog_8_method_1_code
def yX6_init : MethodName := ⟨RX6, "<init>", "(LMarketSpring$Town;[I)V"⟩
abbrev cX6_sideOf : ByteArray := prog_8_method_2_code
def yX6_sideOf : MethodName := ⟨RX6, "sideOf", "(III)I"⟩
abbrev cX6_costOfAll : ByteArray := prog_8_method_3_code
def yX6_costOfAll : MethodName := ⟨RX6, "costOfAll", "(II)I"⟩
abbrev cX6_windingOfGroup : ByteArray := prog_8_method_4_code
def yX6_windingOfGroup : MethodName := ⟨RX6, "windingOfGroup", "(II)I"⟩
abbrev cX6_windingOf : ByteArray := prog_8_method_5_code
def yX6_windingOf : MethodName := ⟨RX6, "windingOf", "(II)I"⟩
abbrev cX6_windingOfDay : ByteArray := prog_8_method_6_code
def yX6_windingOfDay : MethodName := ⟨RX6, "windingOfDay", "(I)I"⟩
abbrev cX6_windDay : ByteArray := prog_8_method_7_code
def yX6_windDay : MethodName := ⟨RX6, "windDay", "(I[I)V"⟩
def RX7 : String := "MarketSpring"
def TX7 : u_T := fun k => match k with
  | 0 => ("MarketSpring", "town", "LMarketSpring$Town;", true)
  | 1 => ("MarketSpring", "settings", "[I", true)
  | 2 => ("MarketSpring", "shifts", "[I", true)
  | 3 => ("MarketSpring", "shutBits", "I", false)
  | 4 => ("MarketSpring", "ways", "LMarketSpring$Ways;", true)
  | 5 => ("MarketSpring", "spring", "LMarketSpring$Spring;", true)
  | 6 => ("MarketSpring", "tenDays", "LMarketSpring$Days;", true)
  | 7 => ("MarketSpring", "plan", "LMarketSpring$Plan;", true)
  | 8 => ("MarketSpring", "watch", "LMarketSpring$Watch;", true)
  | 9 => ("MarketSpring", "sheets", "[LMarketSpring$Sheet;", true)
  | _ => ("MarketSpring", "finding", "I", false)
def tyX7 : Nat → FieldType := fun k => match k with
  | 0 => .object "MarketSpring$Town"
  | 1 => .array .int
  | 2 => .array .int
  | 3 => .int
  | 4 => .object "MarketSpring$Ways"
  | 5 => .object "MarketSpring$Spring"
  | 6 => .object "MarketSpring$Days"
  | 7 => .object "MarketSpring$Plan"
  | 8 => .object "MarketSpring$Watch"
  | 9 => .array (.object "MarketSpring$Sheet")
  | _ => .int
abbrev wsX70 : List Cond := u_ws RX7 TX7 11
theorem nmX7 : ∀ a, a < 11 → ∀ b, b < 11 → a ≠ b → (TX7 a).2.1 ≠ (TX7 b).2.1 := by decide +kernel
theorem tyX7_ok : ∀ k, k < 11 → parseFieldDescriptor (TX7 k).2.2.1 = some (tyX7 k) := by decide +kernel
abbrev cX7_init : ByteArray := prog_1_method_1_code
def yX7_init : MethodName := ⟨RX7, "<init>", "()V"⟩
abbrev cX7_type : ByteArray := prog_1_method_2_code
def yX7_type : MethodName := ⟨RX7, "type", "(I)I"⟩
abbrev cX7_wipe : ByteArray := prog_1_method_3_code
def yX7_wipe : MethodName := ⟨RX7, "wipe", "()I"⟩
abbrev cX7_fault : ByteArray := prog_1_method_4_code
def yX7_fault : MethodName := ⟨RX7, "fault", "()I"⟩
abbrev cX7_thing : ByteArray := prog_1_method_5_code
def yX7_thing : MethodName := ⟨RX7, "thing", "(II)I"⟩
abbrev cX7_handle : ByteArray := prog_1_method_6_code
def yX7_handle : MethodName := ⟨RX7, "handle", "(I)I"⟩
abbrev cX7_group : ByteArray := prog_1_method_7_code
def yX7_group : MethodName := ⟨RX7, "group", "(II)I"⟩
abbrev cX7_set : ByteArray := prog_1_method_8_code
def yX7_set : MethodName := ⟨RX7, "set", "(II)I"⟩
abbrev cX7_shut : ByteArray := prog_1_method_9_code
def yX7_shut : MethodName := ⟨RX7, "shut", "(II)I"⟩
abbrev cX7_shift : ByteArray := prog_1_method_10_code
def yX7_shift : MethodName := ⟨RX7, "shift", "(II)I"⟩
abbrev cX7_read : ByteArray := prog_1_method_11_code
def yX7_read : MethodName := ⟨RX7, "read", "(I)I"⟩
abbrev cX7_goes : ByteArray := prog_1_method_12_code
def yX7_goes : MethodName := ⟨RX7, "goes", "(I)I"⟩
abbrev cX7_toil : ByteArray := prog_1_method_13_code
def yX7_toil : MethodName := ⟨RX7, "toil", "(I)I"⟩
abbrev cX7_wound : ByteArray := prog_1_method_14_code
def yX7_wound : MethodName := ⟨RX7, "wound", "(I)I"⟩
abbrev cX7_level : ByteArray := prog_1_method_15_code
def yX7_level : MethodName := ⟨RX7, "level", "(II)I"⟩
abbrev cX7_stands : ByteArray := prog_1_method_16_code
def yX7_stands : MethodName := ⟨RX7, "stands", "(II)I"⟩
abbrev cX7_stood : ByteArray := prog_1_method_17_code
def yX7_stood : MethodName := ⟨RX7, "stood", "(II)I"⟩
abbrev cX7_lost : ByteArray := prog_1_method_18_code
def yX7_lost : MethodName := ⟨RX7, "lost", "(I)I"⟩
abbrev cX7_flow : ByteArray := prog_1_method_19_code
def yX7_flow : MethodName := ⟨RX7, "flow", "(I)I"⟩
abbrev cX7_worst : ByteArray := prog_1_method_20_code
def yX7_worst : MethodName := ⟨RX7, "worst", "(II)I"⟩
abbrev cX7_fewest : ByteArray := prog_1_method_21_code
def yX7_fewest : MethodName := ⟨RX7, "fewest", "(I)I"⟩
abbrev cX7_place : ByteArray := prog_1_method_22_code
def yX7_place : MethodName := ⟨RX7, "place", "(II)I"⟩
abbrev cX7_best : ByteArray := prog_1_method_23_code
def yX7_best : MethodName := ⟨RX7, "best", "(I)I"⟩
abbrev cX7_lasts : ByteArray := prog_1_method_24_code
def yX7_lasts : MethodName := ⟨RX7, "lasts", "()I"⟩
abbrev cX7_seen : ByteArray := prog_1_method_25_code
def yX7_seen : MethodName := ⟨RX7, "seen", "(II)I"⟩
abbrev cX7_forget : ByteArray := prog_1_method_26_code
def yX7_forget : MethodName := ⟨RX7, "forget", "()I"⟩
abbrev cX7_unlike : ByteArray := prog_1_method_27_code
def yX7_unlike : MethodName := ⟨RX7, "unlike", "()I"⟩
abbrev cX7_thief : ByteArray := prog_1_method_28_code
def yX7_thief : MethodName := ⟨RX7, "thief", "(I)I"⟩
abbrev cX7_robbed : ByteArray := prog_1_method_29_code
def yX7_robbed : MethodName := ⟨RX7, "robbed", "(III)I"⟩
abbrev cX7_sheet : ByteArray := prog_1_method_30_code
def yX7_sheet : MethodName := ⟨RX7, "sheet", "(III)I"⟩
abbrev cX7_lose : ByteArray := prog_1_method_31_code
def yX7_lose : MethodName := ⟨RX7, "lose", "(I)I"⟩
abbrev cX7_put : ByteArray := prog_1_method_32_code
def yX7_put : MethodName := ⟨RX7, "put", "(IIII)I"⟩
abbrev cX7_get : ByteArray := prog_1_method_33_code
def yX7_get : MethodName := ⟨RX7, "get", "(III)I"⟩
abbrev cX7_copy : ByteArray := prog_1_method_34_code
def yX7_copy : MethodName := ⟨RX7, "copy", "(IIIII)I"⟩
abbrev cX7_write : ByteArray := prog_1_method_35_code
def yX7_write : MethodName := ⟨RX7, "write", "(II)I"⟩
abbrev cX7_count : ByteArray := prog_1_method_36_code
def yX7_count : MethodName := ⟨RX7, "count", "(I)I"⟩
abbrev cX7_digest : ByteArray := prog_1_method_37_code
def yX7_digest : MethodName := ⟨RX7, "digest", "()J"⟩
abbrev cX7_within : ByteArray := prog_1_method_38_code
def yX7_within : MethodName := ⟨RX7, "within", "(III)Z"⟩
abbrev cX7_isHour : ByteArray := prog_1_method_39_code
def yX7_isHour : MethodName := ⟨RX7, "isHour", "(I)Z"⟩
abbrev cX7_areDays : ByteArray := prog_1_method_40_code
def yX7_areDays : MethodName := ⟨RX7, "areDays", "(I)Z"⟩
abbrev cX7_isSheet : ByteArray := prog_1_method_41_code
def yX7_isSheet : MethodName := ⟨RX7, "isSheet", "(I)Z"⟩
abbrev cX7_isForm : ByteArray := prog_1_method_42_code
def yX7_isForm : MethodName := ⟨RX7, "isForm", "(I)Z"⟩
abbrev cX7_bit : ByteArray := prog_1_method_43_code
def yX7_bit : MethodName := ⟨RX7, "bit", "(II)I"⟩
abbrev cX7_find : ByteArray := prog_1_method_44_code
def yX7_find : MethodName := ⟨RX7, "find", "(I)I"⟩
abbrev cX7_findingOfItem : ByteArray := prog_1_method_45_code
def yX7_findingOfItem : MethodName := ⟨RX7, "findingOfItem", "(LMarketSpring$Sheet;II)I"⟩
abbrev cX7_outdate : ByteArray := prog_1_method_46_code
def yX7_outdate : MethodName := ⟨RX7, "outdate", "()V"⟩
abbrev cX7_recordDays : ByteArray := prog_1_method_47_code
def yX7_recordDays : MethodName := ⟨RX7, "recordDays", "()V"⟩
abbrev cX7_waitingBits : ByteArray := prog_1_method_48_code
def yX7_waitingBits : MethodName := ⟨RX7, "waitingBits", "()I"⟩
abbrev cX7_makeReady : ByteArray := prog_1_method_49_code
def yX7_makeReady : MethodName := ⟨RX7, "makeReady", "(II)V"⟩
def RX8 : String := "MarketSpringModel"
def TX8 : u_T := fun k => match k with
  | 0 => ("MarketSpringModel", "typed", "I", false)
  | 1 => ("MarketSpringModel", "text", "[I", true)
  | 2 => ("MarketSpringModel", "setting", "[I", true)
  | 3 => ("MarketSpringModel", "things", "I", false)
  | 4 => ("MarketSpringModel", "need", "[I", true)
  | 5 => ("MarketSpringModel", "from", "[I", true)
  | 6 => ("MarketSpringModel", "long1", "[I", true)
  | 7 => ("MarketSpringModel", "must", "[I", true)
  | 8 => ("MarketSpringModel", "shuts", "[I", true)
  | 9 => ("MarketSpringModel", "shifts", "[I", true)
  | 10 => ("MarketSpringModel", "handles", "I", false)
  | 11 => ("MarketSpringModel", "groups", "I", false)
  | 12 => ("MarketSpringModel", "people", "[I", true)
  | 13 => ("MarketSpringModel", "hour", "[I", true)
  | 14 => ("MarketSpringModel", "streets", "[I", true)
  | 15 => ("MarketSpringModel", "lengths", "[I", true)
  | 16 => ("MarketSpringModel", "winds", "[I", true)
  | 17 => ("MarketSpringModel", "levels", "[I", true)
  | 18 => ("MarketSpringModel", "seconds", "[I", true)
  | 19 => ("MarketSpringModel", "losses", "[I", true)
  | 20 => ("MarketSpringModel", "flows", "[I", true)
  | 21 => ("MarketSpringModel", "standing", "[I", true)
  | 22 => ("MarketSpringModel", "waits", "[I", true)
  | 23 => ("MarketSpringModel", "hadShift", "[I", true)
  | 24 => ("MarketSpringModel", "bestShift", "[I", true)
  | 25 => ("MarketSpringModel", "sights", "I", false)
  | 26 => ("MarketSpringModel", "seenHour", "[I", true)
  | 27 => ("MarketSpringModel", "seenLevel", "[I", true)
  | 28 => ("MarketSpringModel", "isThere", "[Z", true)
  | 29 => ("MarketSpringModel", "forms", "[I", true)
  | 30 => ("MarketSpringModel", "sizes", "[I", true)
  | 31 => ("MarketSpringModel", "items", "[I", true)
  | 32 => ("MarketSpringModel", "moved", "[I", true)
  | _ => ("MarketSpringModel", "finding", "I", false)
def tyX8 : Nat → FieldType := fun k => match k with
  | 0 => .int
  | 1 => .array .int
  | 2 => .array .int
  | 3 => .int
  | 4 => .array .int
  | 5 => .array .int
  | 6 => .array .int
  | 7 => .array .int
  | 8 => .array .int
  | 9 => .array .int
  | 10 => .int
  | 11 => .int
  | 12 => .array .int
  | 13 => .array .int
  | 14 => .array .int
  | 15 => .array .int
  | 16 => .array .int
  | 17 => .array .int
  | 18 => .array .int
  | 19 => .array .int
  | 20 => .array .int
  | 21 => .array .int
  | 22 => .array .int
  | 23 => .array .int
  | 24 => .array .int
  | 25 => .int
  | 26 => .array .int
  | 27 => .array .int
  | 28 => .array .boolean
  | 29 => .array .int
  | 30 => .array .int
  | 31 => .array .int
  | 32 => .array .int
  | _ => .int
abbrev wsX80 : List Cond := u_ws RX8 TX8 34
theorem nmX8 : ∀ a, a < 34 → ∀ b, b < 34 → a ≠ b → (TX8 a).2.1 ≠ (TX8 b).2.1 := by decide +kernel
theorem tyX8_ok : ∀ k, k < 34 → parseFieldDescriptor (TX8 k).2.2.1 = some (tyX8 k) := by decide +kernel
abbrev cX8_init : ByteArray := prog_10_method_1_code
def yX8_init : MethodName := ⟨RX8, "<init>", "()V"⟩
abbrev cX8_in : ByteArray := prog_10_method_3_code
def yX8_in : MethodName := ⟨RX8, "in", "(III)Z"⟩
abbrev cX8_isIn : ByteArray := prog_10_method_4_code
def yX8_isIn : MethodName := ⟨RX8, "isIn", "(II)Z"⟩
abbrev cX8_ones : ByteArray := prog_10_method_5_code
def yX8_ones : MethodName := ⟨RX8, "ones", "(I)I"⟩
abbrev cX8_type : ByteArray := prog_10_method_6_code
def yX8_type : MethodName := ⟨RX8, "type", "(I)I"⟩
abbrev cX8_wipe : ByteArray := prog_10_method_7_code
def yX8_wipe : MethodName := ⟨RX8, "wipe", "()I"⟩
abbrev cX8_byteAt : ByteArray := prog_10_method_8_code
def yX8_byteAt : MethodName := ⟨RX8, "byteAt", "(I)I"⟩
abbrev cX8_figureAt : ByteArray := prog_10_method_9_code
def yX8_figureAt : MethodName := ⟨RX8, "figureAt", "(I)I"⟩
abbrev cX8_numberAt : ByteArray := prog_10_method_10_code
def yX8_numberAt : MethodName := ⟨RX8, "numberAt", "(I)I"⟩
abbrev cX8_wrongAt : ByteArray := prog_10_method_11_code
def yX8_wrongAt : MethodName := ⟨RX8, "wrongAt", "(III)I"⟩
abbrev cX8_wrongThing : ByteArray := prog_10_method_12_code
def yX8_wrongThing : MethodName := ⟨RX8, "wrongThing", "(I)I"⟩
abbrev cX8_wrongGroup : ByteArray := prog_10_method_13_code
def yX8_wrongGroup : MethodName := ⟨RX8, "wrongGroup", "(I)I"⟩
abbrev cX8_reads : ByteArray := prog_10_method_14_code
def yX8_reads : MethodName := ⟨RX8, "reads", "()I"⟩
abbrev cX8_faultNow : ByteArray := prog_10_method_15_code
def yX8_faultNow : MethodName := ⟨RX8, "faultNow", "()I"⟩
abbrev cX8_fault : ByteArray := prog_10_method_16_code
def yX8_fault : MethodName := ⟨RX8, "fault", "()I"⟩
abbrev cX8_isThing : ByteArray := prog_10_method_17_code
def yX8_isThing : MethodName := ⟨RX8, "isThing", "(I)Z"⟩
abbrev cX8_thingOf : ByteArray := prog_10_method_18_code
def yX8_thingOf : MethodName := ⟨RX8, "thingOf", "(II)I"⟩
abbrev cX8_thing : ByteArray := prog_10_method_19_code
def yX8_thing : MethodName := ⟨RX8, "thing", "(II)I"⟩
abbrev cX8_handleOf : ByteArray := prog_10_method_20_code
def yX8_handleOf : MethodName := ⟨RX8, "handleOf", "(I)I"⟩
abbrev cX8_handle : ByteArray := prog_10_method_21_code
def yX8_handle : MethodName := ⟨RX8, "handle", "(I)I"⟩
abbrev cX8_isGroup : ByteArray := prog_10_method_22_code
def yX8_isGroup : MethodName := ⟨RX8, "isGroup", "(I)Z"⟩
abbrev cX8_group : ByteArray := prog_10_method_23_code
def yX8_group : MethodName := ⟨RX8, "group", "(II)I"⟩
abbrev cX8_mostOf : ByteArray := prog_10_method_24_code
def yX8_mostOf : MethodName := ⟨RX8, "mostOf", "(I)I"⟩
abbrev cX8_set : ByteArray := prog_10_method_25_code
def yX8_set : MethodName := ⟨RX8, "set", "(II)I"⟩
abbrev cX8_shut : ByteArray := prog_10_method_26_code
def yX8_shut : MethodName := ⟨RX8, "shut", "(II)I"⟩
abbrev cX8_shift : ByteArray := prog_10_method_27_code
def yX8_shift : MethodName := ⟨RX8, "shift", "(II)I"⟩
abbrev cX8_read : ByteArray := prog_10_method_28_code
def yX8_read : MethodName := ⟨RX8, "read", "(I)I"⟩
abbrev cX8_costOf : ByteArray := prog_10_method_29_code
def yX8_costOf : MethodName := ⟨RX8, "costOf", "(II)I"⟩
abbrev cX8_wayOf : ByteArray := prog_10_method_30_code
def yX8_wayOf : MethodName := ⟨RX8, "wayOf", "(II)I"⟩
abbrev cX8_goesOf : ByteArray := prog_10_method_31_code
def yX8_goesOf : MethodName := ⟨RX8, "goesOf", "(I)I"⟩
abbrev cX8_goes : ByteArray := prog_10_method_32_code
def yX8_goes : MethodName := ⟨RX8, "goes", "(I)I"⟩
abbrev cX8_toilOf : ByteArray := prog_10_method_33_code
def yX8_toilOf : MethodName := ⟨RX8, "toilOf", "(I)I"⟩
abbrev cX8_toil : ByteArray := prog_10_method_34_code
def yX8_toil : MethodName := ⟨RX8, "toil", "(I)I"⟩
abbrev cX8_woundAt : ByteArray := prog_10_method_35_code
def yX8_woundAt : MethodName := ⟨RX8, "woundAt", "(I)I"⟩
abbrev cX8_wound : ByteArray := prog_10_method_36_code
def yX8_wound : MethodName := ⟨RX8, "wound", "(I)I"⟩
abbrev cX8_laysWinds : ByteArray := prog_10_method_37_code
def yX8_laysWinds : MethodName := ⟨RX8, "laysWinds", "()V"⟩
abbrev cX8_isGoing : ByteArray := prog_10_method_38_code
def yX8_isGoing : MethodName := ⟨RX8, "isGoing", "(III)Z"⟩
abbrev cX8_runs : ByteArray := prog_10_method_39_code
def yX8_runs : MethodName := ⟨RX8, "runs", "(IIII)V"⟩
abbrev cX8_lays : ByteArray := prog_10_method_40_code
def yX8_lays : MethodName := ⟨RX8, "lays", "()V"⟩
abbrev cX8_isHour : ByteArray := prog_10_method_41_code
def yX8_isHour : MethodName := ⟨RX8, "isHour", "(I)Z"⟩
abbrev cX8_levelOf : ByteArray := prog_10_method_42_code
def yX8_levelOf : MethodName := ⟨RX8, "levelOf", "(II)I"⟩
abbrev cX8_level : ByteArray := prog_10_method_43_code
def yX8_level : MethodName := ⟨RX8, "level", "(II)I"⟩
abbrev cX8_stands : ByteArray := prog_10_method_44_code
def yX8_stands : MethodName := ⟨RX8, "stands", "(II)I"⟩
abbrev cX8_stoodBy : ByteArray := prog_10_method_45_code
def yX8_stoodBy : MethodName := ⟨RX8, "stoodBy", "(II)I"⟩
abbrev cX8_stoodOf : ByteArray := prog_10_method_46_code
def yX8_stoodOf : MethodName := ⟨RX8, "stoodOf", "(II)I"⟩
abbrev cX8_areDays : ByteArray := prog_10_method_47_code
def yX8_areDays : MethodName := ⟨RX8, "areDays", "(I)Z"⟩
abbrev cX8_stood : ByteArray := prog_10_method_48_code
def yX8_stood : MethodName := ⟨RX8, "stood", "(II)I"⟩
abbrev cX8_lostOf : ByteArray := prog_10_method_49_code
def yX8_lostOf : MethodName := ⟨RX8, "lostOf", "(I)I"⟩
abbrev cX8_lost : ByteArray := prog_10_method_50_code
def yX8_lost : MethodName := ⟨RX8, "lost", "(I)I"⟩
abbrev cX8_flowOf : ByteArray := prog_10_method_51_code
def yX8_flowOf : MethodName := ⟨RX8, "flowOf", "(I)I"⟩
abbrev cX8_flow : ByteArray := prog_10_method_52_code
def yX8_flow : MethodName := ⟨RX8, "flow", "(I)I"⟩
abbrev cX8_worstBy : ByteArray := prog_10_method_53_code
def yX8_worstBy : MethodName := ⟨RX8, "worstBy", "(I)I"⟩
abbrev cX8_worstOf : ByteArray := prog_10_method_54_code
def yX8_worstOf : MethodName := ⟨RX8, "worstOf", "(II)I"⟩
abbrev cX8_worst : ByteArray := prog_10_method_55_code
def yX8_worst : MethodName := ⟨RX8, "worst", "(II)I"⟩
abbrev cX8_fewestOf : ByteArray := prog_10_method_56_code
def yX8_fewestOf : MethodName := ⟨RX8, "fewestOf", "(I)I"⟩
abbrev cX8_fewest : ByteArray := prog_10_method_57_code
def yX8_fewest : MethodName := ⟨RX8, "fewest", "(I)I"⟩
abbrev cX8_placeOf : ByteArray := prog_10_method_58_code
def yX8_placeOf : MethodName := ⟨RX8, "placeOf", "(II)I"⟩
abbrev cX8_place : ByteArray := prog_10_method_59_code
def yX8_place : MethodName := ⟨RX8, "place", "(II)I"⟩
abbrev cX8_mayWait : ByteArray := prog_10_method_60_code
def yX8_mayWait : MethodName := ⟨RX8, "mayWait", "(I)Z"⟩
abbrev cX8_best : ByteArray := prog_10_method_61_code
def yX8_best : MethodName := ⟨RX8, "best", "(I)I"⟩
abbrev cX8_lastsNow : ByteArray := prog_10_method_62_code
def yX8_lastsNow : MethodName := ⟨RX8, "lastsNow", "()I"⟩
abbrev cX8_lasts : ByteArray := prog_10_method_63_code
def yX8_lasts : MethodName := ⟨RX8, "lasts", "()I"⟩
abbrev cX8_seen : ByteArray := prog_10_method_64_code
def yX8_seen : MethodName := ⟨RX8, "seen", "(II)I"⟩
abbrev cX8_forget : ByteArray := prog_10_method_65_code
def yX8_forget : MethodName := ⟨RX8, "forget", "()I"⟩
abbrev cX8_unlikeBy : ByteArray := prog_10_method_66_code
def yX8_unlikeBy : MethodName := ⟨RX8, "unlikeBy", "()I"⟩
abbrev cX8_unlikeNow : ByteArray := prog_10_method_67_code
def yX8_unlikeNow : MethodName := ⟨RX8, "unlikeNow", "()I"⟩
abbrev cX8_unlike : ByteArray := prog_10_method_68_code
def yX8_unlike : MethodName := ⟨RX8, "unlike", "()I"⟩
abbrev cX8_thief : ByteArray := prog_10_method_69_code
def yX8_thief : MethodName := ⟨RX8, "thief", "(I)I"⟩
abbrev cX8_robbedOf : ByteArray := prog_10_method_70_code
def yX8_robbedOf : MethodName := ⟨RX8, "robbedOf", "(III)I"⟩
abbrev cX8_robbed : ByteArray := prog_10_method_71_code
def yX8_robbed : MethodName := ⟨RX8, "robbed", "(III)I"⟩
abbrev cX8_meets : ByteArray := prog_10_method_72_code
def yX8_meets : MethodName := ⟨RX8, "meets", "(I)I"⟩
abbrev cX8_isSheet : ByteArray := prog_10_method_73_code
def yX8_isSheet : MethodName := ⟨RX8, "isSheet", "(I)Z"⟩
abbrev cX8_sheet : ByteArray := prog_10_method_74_code
def yX8_sheet : MethodName := ⟨RX8, "sheet", "(III)I"⟩
abbrev cX8_lose : ByteArray := prog_10_method_75_code
def yX8_lose : MethodName := ⟨RX8, "lose", "(I)I"⟩
abbrev cX8_lacks : ByteArray := prog_10_method_76_code
def yX8_lacks : MethodName := ⟨RX8, "lacks", "(III)I"⟩
abbrev cX8_keep : ByteArray := prog_10_method_77_code
def yX8_keep : MethodName := ⟨RX8, "keep", "(III)V"⟩
abbrev cX8_put : ByteArray := prog_10_method_78_code
def yX8_put : MethodName := ⟨RX8, "put", "(IIII)I"⟩
abbrev cX8_get : ByteArray := prog_10_method_79_code
def yX8_get : MethodName := ⟨RX8, "get", "(III)I"⟩
abbrev cX8_copy : ByteArray := prog_10_method_80_code
def yX8_copy : MethodName := ⟨RX8, "copy", "(IIIII)I"⟩
abbrev cX8_write : ByteArray := prog_10_method_81_code
def yX8_write : MethodName := ⟨RX8, "write", "(II)I"⟩
abbrev cX8_sumOf : ByteArray := prog_10_method_82_code
def yX8_sumOf : MethodName := ⟨RX8, "sumOf", "(I)I"⟩
abbrev cX8_count : ByteArray := prog_10_method_83_code
def yX8_count : MethodName := ⟨RX8, "count", "(I)I"⟩
abbrev cX8_digest : ByteArray := prog_10_method_84_code
def yX8_digest : MethodName := ⟨RX8, "digest", "()J"⟩
def RJx8e188 : String := "java/lang/Cloneable"
def TJx8e188 : u_T := fun k => match k with
  | _ => ("", "", "", false)
def tyJx8e188 : Nat → FieldType := fun k => match k with
  | _ => .int
abbrev wsJx8e1880 : List Cond := u_ws RJx8e188 TJx8e188 0
theorem nmJx8e188 : ∀ a, a < 0 → ∀ b, b < 0 → a ≠ b → (TJx8e188 a).2.1 ≠ (TJx8e188 b).2.1 := by decide +kernel
theorem tyJx8e188_ok : ∀ k, k < 0 → parseFieldDescriptor (TJx8e188 k).2.2.1 = some (tyJx8e188 k) := by decide +kernel
def RJ6 : String := "java/lang/Integer"
def TJ6 : u_T := fun k => match k with
  | _ => ("", "", "", false)
def tyJ6 : Nat → FieldType := fun k => match k with
  | _ => .int
abbrev wsJ60 : List Cond := u_ws RJ6 TJ6 0
theorem nmJ6 : ∀ a, a < 0 → ∀ b, b < 0 → a ≠ b → (TJ6 a).2.1 ≠ (TJ6 b).2.1 := by decide +kernel
theorem tyJ6_ok : ∀ k, k < 0 → parseFieldDescriptor (TJ6 k).2.2.1 = some (tyJ6 k) := by decide +kernel
abbrev cJ6_bitCount_0f7a4 : ByteArray := prog_12_method_49_code
def yJ6_bitCount_0f7a4 : MethodName := ⟨RJ6, "bitCount", "(I)I"⟩
def RJ9 : String := "java/lang/Math"
def TJ9 : u_T := fun k => match k with
  | _ => ("", "", "", false)
def tyJ9 : Nat → FieldType := fun k => match k with
  | _ => .int
abbrev wsJ90 : List Cond := u_ws RJ9 TJ9 0
theorem nmJ9 : ∀ a, a < 0 → ∀ b, b < 0 → a ≠ b → (TJ9 a).2.1 ≠ (TJ9 b).2.1 := by decide +kernel
theorem tyJ9_ok : ∀ k, k < 0 → parseFieldDescriptor (TJ9 k).2.2.1 = some (tyJ9 k) := by decide +kernel
abbrev cJ9_max_7cf53 : ByteArray := prog_13_method_65_code
def yJ9_max_7cf53 : MethodName := ⟨RJ9, "max", "(II)I"⟩
abbrev cJ9_min_7cf53 : ByteArray := prog_13_method_69_code
def yJ9_min_7cf53 : MethodName := ⟨RJ9, "min", "(II)I"⟩
def RJ10 : String := "java/lang/System"
def TJ10 : u_T := fun k => match k with
  | _ => ("", "", "", false)
def tyJ10 : Nat → FieldType := fun k => match k with
  | _ => .int
abbrev wsJ100 : List Cond := u_ws RJ10 TJ10 0
theorem nmJ10 : ∀ a, a < 0 → ∀ b, b < 0 → a ≠ b → (TJ10 a).2.1 ≠ (TJ10 b).2.1 := by decide +kernel
theorem tyJ10_ok : ∀ k, k < 0 → parseFieldDescriptor (TJ10 k).2.2.1 = some (tyJ10 k) := by decide +kernel
def RJ7 : String := "java/util/Arrays"
def TJ7 : u_T := fun k => match k with
  | _ => ("", "", "", false)
def tyJ7 : Nat → FieldType := fun k => match k with
  | _ => .int
abbrev wsJ70 : List Cond := u_ws RJ7 TJ7 0
theorem nmJ7 : ∀ a, a < 0 → ∀ b, b < 0 → a ≠ b → (TJ7 a).2.1 ≠ (TJ7 b).2.1 := by decide +kernel
theorem tyJ7_ok : ∀ k, k < 0 → parseFieldDescriptor (TJ7 k).2.2.1 = some (tyJ7 k) := by decide +kernel
abbrev cJ7_fill_53178 : ByteArray := prog_15_method_103_code
def yJ7_fill_53178 : MethodName := ⟨RJ7, "fill", "([II)V"⟩
def RL : String := "MarketSpringLaw"
abbrev cL_law : ByteArray := code
def yL_law : MethodName := ⟨RL, "law", "([I)Z"⟩
def wsL_law_r1 : List Cond := [Cond.classLink RL 7 RX7, Cond.instantiable RX7 11, Cond.initialized RX7, Cond.classLink RL 10 RX8, Cond.instantiable RX8 34, Cond.initialized RX8, Cond.methodLink RL 9 yX7_init, Cond.instanceMethod yX7_init, Cond.code yX7_init cX7_init 2 none, Cond.methodLink RX7 3 objectInit, Cond.instanceMethod objectInit, Cond.code objectInit ⟨#[0xb1]⟩ 1 none, Cond.classLink RX7 9 RX4, Cond.instantiable RX4 9, Cond.initialized RX4, Cond.fieldLink RX7 12 "MarketSpring" "town" "LMarketSpring$Town;", Cond.fieldLink RX7 16 "MarketSpring" "SETTING_FIRST" "[I", Cond.methodLink RX7 20 ⟨"[I", "clone", "()Ljava/lang/Object;"⟩, Cond.sameMethod "[I" "java/lang/Object" "clone" "()Ljava/lang/Object;", Cond.native ⟨"java/lang/Object", "clone", "()Ljava/lang/Object;"⟩, Cond.instanceMethod ⟨"java/lang/Object", "clone", "()Ljava/lang/Object;"⟩, Cond.selects "[I" ⟨"[I", "clone", "()Ljava/lang/Object;"⟩ ⟨"java/lang/Object", "clone", "()Ljava/lang/Object;"⟩, Cond.classLink RX7 21 "[I", Cond.fieldLink RX7 25 "MarketSpring" "settings" "[I"]
def wsL_law_r2 : List Cond := [Cond.arrayClass .int, Cond.fieldLink RX7 28 "MarketSpring" "shifts" "[I", Cond.fieldLink RX7 31 "MarketSpring" "shutBits" "I", Cond.classLink RX7 35 RX6, Cond.instantiable RX6 2, Cond.initialized RX6, Cond.fieldLink RX7 40 "MarketSpring" "ways" "LMarketSpring$Ways;", Cond.classLink RX7 44 RX3, Cond.instantiable RX3 17, Cond.initialized RX3, Cond.fieldLink RX7 47 "MarketSpring" "spring" "LMarketSpring$Spring;", Cond.classLink RX7 51 RX0, Cond.instantiable RX0 6, Cond.initialized RX0, Cond.fieldLink RX7 54 "MarketSpring" "tenDays" "LMarketSpring$Days;", Cond.classLink RX7 58 RX1, Cond.instantiable RX1 8, Cond.initialized RX1, Cond.fieldLink RX7 61 "MarketSpring" "plan" "LMarketSpring$Plan;", Cond.classLink RX7 65 RX5, Cond.instantiable RX5 9, Cond.initialized RX5, Cond.fieldLink RX7 68 "MarketSpring" "watch" "LMarketSpring$Watch;", Cond.classLink RX7 72 RX2]
def wsL_law_r3 : List Cond := [Cond.fieldLink RX7 74 "MarketSpring" "sheets" "[LMarketSpring$Sheet;", Cond.fieldLink RX7 78 "MarketSpring" "finding" "I", Cond.instantiable RX2 4, Cond.initialized RX2, Cond.instanceMethod yX4_init, Cond.code yX4_init cX4_init 1 none, Cond.methodLink RX4 3 objectInit, Cond.fieldLink RX4 9 "MarketSpring$Town" "text" "[I", Cond.fieldLink RX4 15 "MarketSpring$Town" "thingRows" "[I", Cond.fieldLink RX4 18 "MarketSpring$Town" "groupRows" "[I", Cond.fieldLink RX4 21 "MarketSpring$Town" "length" "I", Cond.fieldLink RX4 25 "MarketSpring$Town" "things" "I", Cond.fieldLink RX4 28 "MarketSpring$Town" "groups" "I", Cond.fieldLink RX4 31 "MarketSpring$Town" "handleBits" "I", Cond.fieldLink RX4 34 "MarketSpring$Town" "faultAt" "I", Cond.fieldLink RX4 37 "MarketSpring$Town" "at" "I", Cond.methodLink RX7 37 yX6_init, Cond.instanceMethod yX6_init, Cond.code yX6_init cX6_init 3 none, Cond.methodLink RX6 3 objectInit, Cond.fieldLink RX6 9 "MarketSpring$Ways" "town" "LMarketSpring$Town;", Cond.fieldLink RX6 15 "MarketSpring$Ways" "settings" "[I", Cond.instanceMethod yX3_init, Cond.code yX3_init cX3_init 1 none]
def wsL_law_r4 : List Cond := [Cond.methodLink RX3 3 objectInit, Cond.fieldLink RX3 9 "MarketSpring$Spring" "gains" "[I", Cond.fieldLink RX3 15 "MarketSpring$Spring" "needs" "[I", Cond.fieldLink RX3 18 "MarketSpring$Spring" "hoursOf" "[I", Cond.fieldLink RX3 21 "MarketSpring$Spring" "things" "I", Cond.fieldLink RX3 25 "MarketSpring$Spring" "most" "I", Cond.fieldLink RX3 28 "MarketSpring$Spring" "tire" "I", Cond.fieldLink RX3 31 "MarketSpring$Spring" "link" "I", Cond.fieldLink RX3 34 "MarketSpring$Spring" "drain" "I", Cond.fieldLink RX3 37 "MarketSpring$Spring" "start" "I", Cond.fieldLink RX3 40 "MarketSpring$Spring" "secondStart" "I", Cond.fieldLink RX3 43 "MarketSpring$Spring" "thiefHour" "I", Cond.fieldLink RX3 46 "MarketSpring$Spring" "thiefTakes" "I", Cond.fieldLink RX3 49 "MarketSpring$Spring" "level" "I", Cond.fieldLink RX3 52 "MarketSpring$Spring" "second" "I", Cond.fieldLink RX3 55 "MarketSpring$Spring" "spilt" "I", Cond.fieldLink RX3 58 "MarketSpring$Spring" "flowed" "I", Cond.fieldLink RX3 61 "MarketSpring$Spring" "standing" "I", Cond.instanceMethod yX0_init, Cond.code yX0_init cX0_init 1 none, Cond.methodLink RX0 3 objectInit, Cond.fieldLink RX0 9 "MarketSpring$Days" "levels" "[I", Cond.fieldLink RX0 15 "MarketSpring$Days" "seconds" "[I", Cond.fieldLink RX0 18 "MarketSpring$Days" "flows" "[I"]
def wsL_law_r5 : List Cond := [Cond.fieldLink RX0 21 "MarketSpring$Days" "spilt" "[I", Cond.fieldLink RX0 24 "MarketSpring$Days" "standing" "[I", Cond.fieldLink RX0 27 "MarketSpring$Days" "known" "Z", Cond.instanceMethod yX1_init, Cond.code yX1_init cX1_init 1 none, Cond.methodLink RX1 3 objectInit, Cond.fieldLink RX1 9 "MarketSpring$Plan" "waiting" "[I", Cond.fieldLink RX1 15 "MarketSpring$Plan" "trial" "[I", Cond.fieldLink RX1 18 "MarketSpring$Plan" "bestShifts" "[I", Cond.fieldLink RX1 21 "MarketSpring$Plan" "size" "I", Cond.fieldLink RX1 25 "MarketSpring$Plan" "mustBits" "I", Cond.fieldLink RX1 28 "MarketSpring$Plan" "mustStood" "I", Cond.fieldLink RX1 31 "MarketSpring$Plan" "allStood" "I", Cond.fieldLink RX1 34 "MarketSpring$Plan" "known" "Z", Cond.instanceMethod yX5_init, Cond.code yX5_init cX5_init 1 none, Cond.methodLink RX5 3 objectInit, Cond.fieldLink RX5 9 "MarketSpring$Watch" "seenHours" "[I", Cond.fieldLink RX5 15 "MarketSpring$Watch" "seenLevels" "[I", Cond.fieldLink RX5 18 "MarketSpring$Watch" "due" "[I", Cond.fieldLink RX5 21 "MarketSpring$Watch" "size" "I", Cond.fieldLink RX5 25 "MarketSpring$Watch" "hoursDue" "I", Cond.fieldLink RX5 28 "MarketSpring$Watch" "clash" "Z", Cond.fieldLink RX5 32 "MarketSpring$Watch" "thieves" "I"]
def wsL_law_r6 : List Cond := [Cond.fieldLink RX5 35 "MarketSpring$Watch" "firstThief" "I", Cond.fieldLink RX5 38 "MarketSpring$Watch" "known" "Z", Cond.instanceMethod yX2_init, Cond.code yX2_init cX2_init 1 none, Cond.methodLink RX2 3 objectInit, Cond.fieldLink RX2 9 "MarketSpring$Sheet" "items" "[I", Cond.fieldLink RX2 15 "MarketSpring$Sheet" "form" "I", Cond.fieldLink RX2 19 "MarketSpring$Sheet" "size" "I", Cond.fieldLink RX2 22 "MarketSpring$Sheet" "gone" "Z", Cond.methodLink RL 12 yX8_init, Cond.instanceMethod yX8_init, Cond.code yX8_init cX8_init 1 none, Cond.methodLink RX8 1 objectInit, Cond.fieldLink RX8 7 "MarketSpringModel" "text" "[I", Cond.fieldLink RX8 13 "MarketSpringModel" "setting" "[I", Cond.fieldLink RX8 16 "MarketSpringModel" "need" "[I", Cond.fieldLink RX8 19 "MarketSpringModel" "from" "[I", Cond.fieldLink RX8 22 "MarketSpringModel" "long1" "[I", Cond.fieldLink RX8 25 "MarketSpringModel" "must" "[I", Cond.fieldLink RX8 28 "MarketSpringModel" "shuts" "[I", Cond.fieldLink RX8 31 "MarketSpringModel" "shifts" "[I", Cond.fieldLink RX8 34 "MarketSpringModel" "people" "[I", Cond.fieldLink RX8 37 "MarketSpringModel" "hour" "[I", Cond.fieldLink RX8 40 "MarketSpringModel" "streets" "[I"]
def wsL_law_r7 : List Cond := [Cond.fieldLink RX8 43 "MarketSpringModel" "lengths" "[I", Cond.fieldLink RX8 46 "MarketSpringModel" "winds" "[I", Cond.fieldLink RX8 49 "MarketSpringModel" "levels" "[I", Cond.fieldLink RX8 52 "MarketSpringModel" "seconds" "[I", Cond.fieldLink RX8 55 "MarketSpringModel" "losses" "[I", Cond.fieldLink RX8 58 "MarketSpringModel" "flows" "[I", Cond.fieldLink RX8 61 "MarketSpringModel" "standing" "[I", Cond.fieldLink RX8 64 "MarketSpringModel" "waits" "[I", Cond.fieldLink RX8 67 "MarketSpringModel" "hadShift" "[I", Cond.fieldLink RX8 70 "MarketSpringModel" "bestShift" "[I", Cond.fieldLink RX8 73 "MarketSpringModel" "seenHour" "[I", Cond.fieldLink RX8 76 "MarketSpringModel" "seenLevel" "[I", Cond.arrayClass .boolean, Cond.fieldLink RX8 79 "MarketSpringModel" "isThere" "[Z", Cond.fieldLink RX8 83 "MarketSpringModel" "forms" "[I", Cond.fieldLink RX8 86 "MarketSpringModel" "sizes" "[I", Cond.fieldLink RX8 89 "MarketSpringModel" "items" "[I", Cond.fieldLink RX8 92 "MarketSpringModel" "moved" "[I", Cond.methodLink RL 13 yX7_type, Cond.instanceMethod yX7_type, Cond.selects RX7 yX7_type yX7_type, Cond.code yX7_type cX7_type 2 (some .int), Cond.fieldLink RX7 86 "MarketSpring$Town" "length" "I", Cond.methodLink RX7 82 yX7_within]
def wsL_law_r8 : List Cond := [Cond.static yX7_within, Cond.code yX7_within cX7_within 3 (some .boolean), Cond.methodLink RX7 89 yX4_append, Cond.instanceMethod yX4_append, Cond.selects RX4 yX4_append yX4_append, Cond.code yX4_append cX4_append 2 none, Cond.methodLink RX7 93 yX4_parse, Cond.instanceMethod yX4_parse, Cond.selects RX4 yX4_parse yX4_parse, Cond.code yX4_parse cX4_parse 3 none, Cond.methodLink RX4 48 yX4_forgetParts, Cond.instanceMethod yX4_forgetParts, Cond.selects RX4 yX4_forgetParts yX4_forgetParts, Cond.code yX4_forgetParts cX4_forgetParts 1 none, Cond.methodLink RX4 51 yX4_parsePart, Cond.instanceMethod yX4_parsePart, Cond.selects RX4 yX4_parsePart yX4_parsePart, Cond.code yX4_parsePart cX4_parsePart 2 none, Cond.methodLink RX4 57 yX4_next, Cond.instanceMethod yX4_next, Cond.selects RX4 yX4_next yX4_next, Cond.code yX4_next cX4_next 1 (some .int), Cond.methodLink RX4 61 yX4_parseThing, Cond.instanceMethod yX4_parseThing]
def wsL_law_r9 : List Cond := [Cond.selects RX4 yX4_parseThing yX4_parseThing, Cond.code yX4_parseThing cX4_parseThing 2 none, Cond.methodLink RX4 71 yX4_twoFigures, Cond.instanceMethod yX4_twoFigures, Cond.selects RX4 yX4_twoFigures yX4_twoFigures, Cond.code yX4_twoFigures cX4_twoFigures 5 (some .int), Cond.methodLink RX4 85 yX4_figure, Cond.instanceMethod yX4_figure, Cond.selects RX4 yX4_figure yX4_figure, Cond.code yX4_figure cX4_figure 2 (some .int), Cond.methodLink RX4 65 yX4_parseHandle, Cond.instanceMethod yX4_parseHandle, Cond.selects RX4 yX4_parseHandle yX4_parseHandle, Cond.code yX4_parseHandle cX4_parseHandle 2 none, Cond.methodLink RX4 74 yX4_oneFigure, Cond.instanceMethod yX4_oneFigure, Cond.selects RX4 yX4_oneFigure yX4_oneFigure, Cond.code yX4_oneFigure cX4_oneFigure 3 (some .int), Cond.methodLink RX4 81 yX4_refuseLast, Cond.instanceMethod yX4_refuseLast, Cond.selects RX4 yX4_refuseLast yX4_refuseLast, Cond.code yX4_refuseLast cX4_refuseLast 2 none, Cond.static yX7_bit, Cond.code yX7_bit cX7_bit 2 (some .int)]
def wsL_law_r10 : List Cond := [Cond.methodLink RX4 68 yX4_parseGroup, Cond.instanceMethod yX4_parseGroup, Cond.selects RX4 yX4_parseGroup yX4_parseGroup, Cond.code yX4_parseGroup cX4_parseGroup 2 none, Cond.methodLink RX4 54 yX4_parseBetween, Cond.instanceMethod yX4_parseBetween, Cond.selects RX4 yX4_parseBetween yX4_parseBetween, Cond.code yX4_parseBetween cX4_parseBetween 1 none, Cond.methodLink RX7 96 yX7_outdate, Cond.instanceMethod yX7_outdate, Cond.selects RX7 yX7_outdate yX7_outdate, Cond.code yX7_outdate cX7_outdate 1 none, Cond.fieldLink RX7 354 "MarketSpring$Days" "known" "Z", Cond.fieldLink RX7 212 "MarketSpring$Plan" "known" "Z", Cond.fieldLink RX7 242 "MarketSpring$Watch" "known" "Z", Cond.methodLink RL 17 yX8_type, Cond.instanceMethod yX8_type, Cond.selects RX8 yX8_type yX8_type, Cond.code yX8_type cX8_type 2 (some .int), Cond.fieldLink RX8 99 "MarketSpringModel" "typed" "I", Cond.methodLink RX8 95 yX8_in, Cond.static yX8_in, Cond.code yX8_in cX8_in 3 (some .boolean), Cond.methodLink RL 18 yX7_wipe]
def wsL_law_r11 : List Cond := [Cond.instanceMethod yX7_wipe, Cond.selects RX7 yX7_wipe yX7_wipe, Cond.code yX7_wipe cX7_wipe 2 (some .int), Cond.methodLink RL 22 yX8_wipe, Cond.instanceMethod yX8_wipe, Cond.selects RX8 yX8_wipe yX8_wipe, Cond.code yX8_wipe cX8_wipe 2 (some .int), Cond.methodLink RL 23 yX7_fault, Cond.instanceMethod yX7_fault, Cond.selects RX7 yX7_fault yX7_fault, Cond.code yX7_fault cX7_fault 1 (some .int), Cond.fieldLink RX7 99 "MarketSpring$Town" "faultAt" "I", Cond.methodLink RL 26 yX8_fault, Cond.instanceMethod yX8_fault, Cond.selects RX8 yX8_fault yX8_fault, Cond.code yX8_fault cX8_fault 1 (some .int), Cond.methodLink RX8 140 yX8_faultNow, Cond.instanceMethod yX8_faultNow, Cond.selects RX8 yX8_faultNow yX8_faultNow, Cond.code yX8_faultNow cX8_faultNow 2 (some .int), Cond.fieldLink RX8 117 "MarketSpringModel" "things" "I", Cond.fieldLink RX8 120 "MarketSpringModel" "handles" "I", Cond.fieldLink RX8 123 "MarketSpringModel" "groups" "I", Cond.methodLink RX8 136 yX8_reads]
def wsL_law_r12 : List Cond := [Cond.instanceMethod yX8_reads, Cond.selects RX8 yX8_reads yX8_reads, Cond.code yX8_reads cX8_reads 5 (some .int), Cond.methodLink RX8 103 yX8_byteAt, Cond.instanceMethod yX8_byteAt, Cond.selects RX8 yX8_byteAt yX8_byteAt, Cond.code yX8_byteAt cX8_byteAt 2 (some .int), Cond.methodLink RX8 126 yX8_wrongThing, Cond.instanceMethod yX8_wrongThing, Cond.selects RX8 yX8_wrongThing yX8_wrongThing, Cond.code yX8_wrongThing cX8_wrongThing 4 (some .int), Cond.methodLink RX8 113 yX8_wrongAt, Cond.instanceMethod yX8_wrongAt, Cond.selects RX8 yX8_wrongAt yX8_wrongAt, Cond.code yX8_wrongAt cX8_wrongAt 4 (some .int), Cond.methodLink RX8 107 yX8_figureAt, Cond.instanceMethod yX8_figureAt, Cond.selects RX8 yX8_figureAt yX8_figureAt, Cond.code yX8_figureAt cX8_figureAt 3 (some .int), Cond.methodLink RX8 110 yX8_numberAt, Cond.instanceMethod yX8_numberAt, Cond.selects RX8 yX8_numberAt yX8_numberAt, Cond.code yX8_numberAt cX8_numberAt 2 (some .int), Cond.methodLink RX8 129 yX8_isIn]
def wsL_law_r13 : List Cond := [Cond.static yX8_isIn, Cond.code yX8_isIn cX8_isIn 2 (some .boolean), Cond.methodLink RX8 133 yX8_wrongGroup, Cond.instanceMethod yX8_wrongGroup, Cond.selects RX8 yX8_wrongGroup yX8_wrongGroup, Cond.code yX8_wrongGroup cX8_wrongGroup 4 (some .int), Cond.methodLink RL 27 yX7_thing, Cond.instanceMethod yX7_thing, Cond.selects RX7 yX7_thing yX7_thing, Cond.code yX7_thing cX7_thing 3 (some .int), Cond.methodLink RX7 102 yX4_hasThing, Cond.instanceMethod yX4_hasThing, Cond.selects RX4 yX4_hasThing yX4_hasThing, Cond.code yX4_hasThing cX4_hasThing 2 (some .boolean), Cond.methodLink RX7 106 yX7_bit, Cond.methodLink RX7 110 yX4_ofThing, Cond.instanceMethod yX4_ofThing, Cond.selects RX4 yX4_ofThing yX4_ofThing, Cond.code yX4_ofThing cX4_ofThing 3 (some .int), Cond.methodLink RL 31 yX8_thing, Cond.instanceMethod yX8_thing, Cond.selects RX8 yX8_thing yX8_thing, Cond.code yX8_thing cX8_thing 3 (some .int), Cond.methodLink RX8 143 yX8_isThing]
def wsL_law_r14 : List Cond := [Cond.instanceMethod yX8_isThing, Cond.selects RX8 yX8_isThing yX8_isThing, Cond.code yX8_isThing cX8_isThing 3 (some .boolean), Cond.methodLink RX8 147 yX8_thingOf, Cond.instanceMethod yX8_thingOf, Cond.selects RX8 yX8_thingOf yX8_thingOf, Cond.code yX8_thingOf cX8_thingOf 3 (some .int), Cond.methodLink RL 32 yX7_handle, Cond.instanceMethod yX7_handle, Cond.selects RX7 yX7_handle yX7_handle, Cond.code yX7_handle cX7_handle 2 (some .int), Cond.fieldLink RX7 113 "MarketSpring$Town" "handleBits" "I", Cond.methodLink RL 35 yX8_handle, Cond.instanceMethod yX8_handle, Cond.selects RX8 yX8_handle yX8_handle, Cond.code yX8_handle cX8_handle 2 (some .int), Cond.methodLink RX8 151 yX8_handleOf, Cond.instanceMethod yX8_handleOf, Cond.selects RX8 yX8_handleOf yX8_handleOf, Cond.code yX8_handleOf cX8_handleOf 3 (some .int), Cond.methodLink RL 36 yX7_group, Cond.instanceMethod yX7_group, Cond.selects RX7 yX7_group yX7_group, Cond.code yX7_group cX7_group 3 (some .int)]
def wsL_law_r15 : List Cond := [Cond.methodLink RX7 116 yX4_hasGroup, Cond.instanceMethod yX4_hasGroup, Cond.selects RX4 yX4_hasGroup yX4_hasGroup, Cond.code yX4_hasGroup cX4_hasGroup 2 (some .boolean), Cond.methodLink RX7 119 yX4_ofGroup, Cond.instanceMethod yX4_ofGroup, Cond.selects RX4 yX4_ofGroup yX4_ofGroup, Cond.code yX4_ofGroup cX4_ofGroup 3 (some .int), Cond.methodLink RL 39 yX8_group, Cond.instanceMethod yX8_group, Cond.selects RX8 yX8_group yX8_group, Cond.code yX8_group cX8_group 3 (some .int), Cond.methodLink RX8 154 yX8_isGroup, Cond.instanceMethod yX8_isGroup, Cond.selects RX8 yX8_isGroup yX8_isGroup, Cond.code yX8_isGroup cX8_isGroup 3 (some .boolean), Cond.methodLink RL 40 yX7_set, Cond.instanceMethod yX7_set, Cond.selects RX7 yX7_set yX7_set, Cond.code yX7_set cX7_set 4 (some .int), Cond.fieldLink RX7 122 "MarketSpring" "SETTING_LEAST" "[I", Cond.fieldLink RX7 125 "MarketSpring" "SETTING_MOST" "[I", Cond.methodLink RL 43 yX8_set, Cond.instanceMethod yX8_set]
def wsL_law_r16 : List Cond := [Cond.selects RX8 yX8_set yX8_set, Cond.code yX8_set cX8_set 4 (some .int), Cond.methodLink RX8 157 yX8_mostOf, Cond.static yX8_mostOf, Cond.code yX8_mostOf cX8_mostOf 1 (some .int), Cond.methodLink RL 44 yX7_shut, Cond.instanceMethod yX7_shut, Cond.selects RX7 yX7_shut yX7_shut, Cond.code yX7_shut cX7_shut 4 (some .int), Cond.methodLink RL 47 yX8_shut, Cond.instanceMethod yX8_shut, Cond.selects RX8 yX8_shut yX8_shut, Cond.code yX8_shut cX8_shut 4 (some .int), Cond.methodLink RL 48 yX7_shift, Cond.instanceMethod yX7_shift, Cond.selects RX7 yX7_shift yX7_shift, Cond.code yX7_shift cX7_shift 4 (some .int), Cond.methodLink RL 51 yX8_shift, Cond.instanceMethod yX8_shift, Cond.selects RX8 yX8_shift yX8_shift, Cond.code yX8_shift cX8_shift 4 (some .int), Cond.methodLink RL 52 yX7_read, Cond.instanceMethod yX7_read, Cond.selects RX7 yX7_read yX7_read]
def wsL_law_r17 : List Cond := [Cond.code yX7_read cX7_read 5 (some .int), Cond.fieldLink RX7 131 "MarketSpring$Sheet" "gone" "Z", Cond.fieldLink RX7 139 "MarketSpring$Sheet" "size" "I", Cond.methodLink RX7 142 Lib.Math.min.name, Cond.static Lib.Math.min.name, Cond.initialized "java/lang/Math", Cond.code Lib.Math.min.name Lib.Math.min.code 2 (some .int), Cond.fieldLink RX7 147 "MarketSpring$Sheet" "items" "[I", Cond.methodLink RX7 128 yX7_isSheet, Cond.static yX7_isSheet, Cond.code yX7_isSheet cX7_isSheet 1 (some .boolean), Cond.methodLink RX7 135 yX7_find, Cond.instanceMethod yX7_find, Cond.selects RX7 yX7_find yX7_find, Cond.code yX7_find cX7_find 2 (some .int), Cond.methodLink RL 55 yX8_read, Cond.instanceMethod yX8_read, Cond.selects RX8 yX8_read yX8_read, Cond.code yX8_read cX8_read 3 (some .int), Cond.methodLink RX8 160 yX8_isSheet, Cond.static yX8_isSheet, Cond.code yX8_isSheet cX8_isSheet 1 (some .boolean), Cond.methodLink RX8 163 yX8_meets, Cond.instanceMethod yX8_meets]
def wsL_law_r18 : List Cond := [Cond.selects RX8 yX8_meets yX8_meets, Cond.code yX8_meets cX8_meets 2 (some .int), Cond.fieldLink RX8 248 "MarketSpringModel" "finding" "I", Cond.methodLink RL 56 yX7_goes, Cond.instanceMethod yX7_goes, Cond.selects RX7 yX7_goes yX7_goes, Cond.code yX7_goes cX7_goes 3 (some .int), Cond.methodLink RX7 150 yX6_sideOf, Cond.instanceMethod yX6_sideOf, Cond.selects RX6 yX6_sideOf yX6_sideOf, Cond.code yX6_sideOf cX6_sideOf 8 (some .int), Cond.methodLink RX6 19 yX4_ofGroup, Cond.methodLink RL 59 yX8_goes, Cond.instanceMethod yX8_goes, Cond.selects RX8 yX8_goes yX8_goes, Cond.code yX8_goes cX8_goes 2 (some .int), Cond.methodLink RX8 172 yX8_goesOf, Cond.instanceMethod yX8_goesOf, Cond.selects RX8 yX8_goesOf yX8_goesOf, Cond.code yX8_goesOf cX8_goesOf 2 (some .int), Cond.methodLink RX8 169 yX8_wayOf, Cond.instanceMethod yX8_wayOf, Cond.selects RX8 yX8_wayOf yX8_wayOf, Cond.code yX8_wayOf cX8_wayOf 5 (some .int)]
def wsL_law_r19 : List Cond := [Cond.methodLink RX8 166 yX8_costOf, Cond.instanceMethod yX8_costOf, Cond.selects RX8 yX8_costOf yX8_costOf, Cond.code yX8_costOf cX8_costOf 3 (some .int), Cond.methodLink RL 60 yX7_toil, Cond.instanceMethod yX7_toil, Cond.selects RX7 yX7_toil yX7_toil, Cond.code yX7_toil cX7_toil 2 (some .int), Cond.methodLink RX7 154 yX6_costOfAll, Cond.instanceMethod yX6_costOfAll, Cond.selects RX6 yX6_costOfAll yX6_costOfAll, Cond.code yX6_costOfAll cX6_costOfAll 8 (some .int), Cond.fieldLink RX6 28 "MarketSpring$Town" "groups" "I", Cond.methodLink RX6 32 yX6_sideOf, Cond.methodLink RL 63 yX8_toil, Cond.instanceMethod yX8_toil, Cond.selects RX8 yX8_toil yX8_toil, Cond.code yX8_toil cX8_toil 2 (some .int), Cond.methodLink RX8 175 yX8_toilOf, Cond.instanceMethod yX8_toilOf, Cond.selects RX8 yX8_toilOf yX8_toilOf, Cond.code yX8_toilOf cX8_toilOf 5 (some .int), Cond.methodLink RL 64 yX7_wound, Cond.instanceMethod yX7_wound]
def wsL_law_r20 : List Cond := [Cond.selects RX7 yX7_wound yX7_wound, Cond.code yX7_wound cX7_wound 2 (some .int), Cond.methodLink RX7 157 yX6_windingOf, Cond.instanceMethod yX6_windingOf, Cond.selects RX6 yX6_windingOf yX6_windingOf, Cond.code yX6_windingOf cX6_windingOf 5 (some .int), Cond.methodLink RX6 36 yX6_windingOfGroup, Cond.instanceMethod yX6_windingOfGroup, Cond.selects RX6 yX6_windingOfGroup yX6_windingOfGroup, Cond.code yX6_windingOfGroup cX6_windingOfGroup 5 (some .int), Cond.methodLink RL 67 yX8_wound, Cond.instanceMethod yX8_wound, Cond.selects RX8 yX8_wound yX8_wound, Cond.code yX8_wound cX8_wound 3 (some .int), Cond.methodLink RX8 178 yX8_woundAt, Cond.instanceMethod yX8_woundAt, Cond.selects RX8 yX8_woundAt yX8_woundAt, Cond.code yX8_woundAt cX8_woundAt 4 (some .int), Cond.methodLink RL 68 yX7_level, Cond.instanceMethod yX7_level, Cond.selects RX7 yX7_level yX7_level, Cond.code yX7_level cX7_level 3 (some .int), Cond.fieldLink RX7 166 "MarketSpring$Days" "levels" "[I", Cond.fieldLink RX7 169 "MarketSpring$Days" "seconds" "[I"]
def wsL_law_r21 : List Cond := [Cond.methodLink RX7 160 yX7_isHour, Cond.static yX7_isHour, Cond.code yX7_isHour cX7_isHour 1 (some .boolean), Cond.methodLink RX7 163 yX7_recordDays, Cond.instanceMethod yX7_recordDays, Cond.selects RX7 yX7_recordDays yX7_recordDays, Cond.code yX7_recordDays cX7_recordDays 1 none, Cond.methodLink RX7 198 yX7_makeReady, Cond.instanceMethod yX7_makeReady, Cond.selects RX7 yX7_makeReady yX7_makeReady, Cond.code yX7_makeReady cX7_makeReady 4 none, Cond.fieldLink RX7 190 "MarketSpring$Town" "things" "I", Cond.fieldLink RX7 362 "MarketSpring$Spring" "things" "I", Cond.fieldLink RX7 363 "MarketSpring$Spring" "needs" "[I", Cond.fieldLink RX7 366 "MarketSpring$Spring" "hoursOf" "[I", Cond.fieldLink RX7 371 "MarketSpring$Spring" "gains" "[I", Cond.methodLink RX7 358 yX3_take, Cond.instanceMethod yX3_take, Cond.selects RX3 yX3_take yX3_take, Cond.code yX3_take cX3_take 2 none, Cond.methodLink RX3 64 Lib.Math.min.name, Cond.methodLink RX7 369 yX4_hoursOf, Cond.instanceMethod yX4_hoursOf, Cond.selects RX4 yX4_hoursOf yX4_hoursOf]
def wsL_law_r22 : List Cond := [Cond.code yX4_hoursOf cX4_hoursOf 5 (some .int), Cond.constant RX4 47 (16777215), Cond.methodLink RX4 40 yX4_ofThing, Cond.methodLink RX7 374 yX6_windDay, Cond.instanceMethod yX6_windDay, Cond.selects RX6 yX6_windDay yX6_windDay, Cond.code yX6_windDay cX6_windDay 4 none, Cond.methodLink RX6 39 yJ7_fill_53178, Cond.static yJ7_fill_53178, Cond.initialized RJ7, Cond.code yJ7_fill_53178 cJ7_fill_53178 4 none, Cond.methodLink RX7 252 yX3_rob, Cond.instanceMethod yX3_rob, Cond.selects RX3 yX3_rob yX3_rob, Cond.code yX3_rob cX3_rob 3 none, Cond.methodLink RX7 355 yX0_record, Cond.instanceMethod yX0_record, Cond.selects RX0 yX0_record yX0_record, Cond.code yX0_record cX0_record 3 none, Cond.fieldLink RX0 40 "MarketSpring$Spring" "level" "I", Cond.fieldLink RX0 44 "MarketSpring$Spring" "second" "I", Cond.fieldLink RX0 47 "MarketSpring$Spring" "flowed" "I", Cond.fieldLink RX0 50 "MarketSpring$Spring" "spilt" "I", Cond.fieldLink RX0 52 "MarketSpring$Spring" "standing" "I"]
def wsL_law_r23 : List Cond := [Cond.methodLink RX0 31 yX3_begin, Cond.instanceMethod yX3_begin, Cond.selects RX3 yX3_begin yX3_begin, Cond.code yX3_begin cX3_begin 1 none, Cond.methodLink RX0 36 yX3_turn, Cond.instanceMethod yX3_turn, Cond.selects RX3 yX3_turn yX3_turn, Cond.code yX3_turn cX3_turn 3 none, Cond.methodLink RX3 70 yX3_draw, Cond.instanceMethod yX3_draw, Cond.selects RX3 yX3_draw yX3_draw, Cond.code yX3_draw cX3_draw 3 none, Cond.methodLink RX3 74 yX3_pullChain, Cond.instanceMethod yX3_pullChain, Cond.selects RX3 yX3_pullChain yX3_pullChain, Cond.code yX3_pullChain cX3_pullChain 2 none, Cond.methodLink RL 71 yX8_level, Cond.instanceMethod yX8_level, Cond.selects RX8 yX8_level yX8_level, Cond.code yX8_level cX8_level 3 (some .int), Cond.methodLink RX8 194 yX8_isHour, Cond.static yX8_isHour, Cond.code yX8_isHour cX8_isHour 1 (some .boolean), Cond.methodLink RX8 197 yX8_levelOf]
def wsL_law_r24 : List Cond := [Cond.instanceMethod yX8_levelOf, Cond.selects RX8 yX8_levelOf yX8_levelOf, Cond.code yX8_levelOf cX8_levelOf 3 (some .int), Cond.methodLink RX8 191 yX8_lays, Cond.instanceMethod yX8_lays, Cond.selects RX8 yX8_lays yX8_lays, Cond.code yX8_lays cX8_lays 2 none, Cond.methodLink RX8 184 yX8_laysWinds, Cond.instanceMethod yX8_laysWinds, Cond.selects RX8 yX8_laysWinds yX8_laysWinds, Cond.code yX8_laysWinds cX8_laysWinds 2 none, Cond.methodLink RX8 187 yX8_runs, Cond.instanceMethod yX8_runs, Cond.selects RX8 yX8_runs yX8_runs, Cond.code yX8_runs cX8_runs 12 none, Cond.methodLink RX8 181 yX8_isGoing, Cond.instanceMethod yX8_isGoing, Cond.selects RX8 yX8_isGoing yX8_isGoing, Cond.code yX8_isGoing cX8_isGoing 6 (some .boolean), Cond.methodLink RL 72 yX7_stands, Cond.instanceMethod yX7_stands, Cond.selects RX7 yX7_stands yX7_stands, Cond.code yX7_stands cX7_stands 3 (some .int), Cond.fieldLink RX7 172 "MarketSpring$Days" "standing" "[I"]
def wsL_law_r25 : List Cond := [Cond.methodLink RL 75 yX8_stands, Cond.instanceMethod yX8_stands, Cond.selects RX8 yX8_stands yX8_stands, Cond.code yX8_stands cX8_stands 3 (some .int), Cond.methodLink RL 76 yX7_stood, Cond.instanceMethod yX7_stood, Cond.selects RX7 yX7_stood yX7_stood, Cond.code yX7_stood cX7_stood 3 (some .int), Cond.methodLink RX7 175 yX7_areDays, Cond.static yX7_areDays, Cond.code yX7_areDays cX7_areDays 1 (some .boolean), Cond.methodLink RX7 178 yX0_hoursStood, Cond.instanceMethod yX0_hoursStood, Cond.selects RX0 yX0_hoursStood yX0_hoursStood, Cond.code yX0_hoursStood cX0_hoursStood 5 (some .int), Cond.methodLink RL 79 yX8_stood, Cond.instanceMethod yX8_stood, Cond.selects RX8 yX8_stood yX8_stood, Cond.code yX8_stood cX8_stood 3 (some .int), Cond.methodLink RX8 203 yX8_areDays, Cond.static yX8_areDays, Cond.code yX8_areDays cX8_areDays 1 (some .boolean), Cond.methodLink RX8 206 yX8_stoodOf, Cond.instanceMethod yX8_stoodOf]
def wsL_law_r26 : List Cond := [Cond.selects RX8 yX8_stoodOf yX8_stoodOf, Cond.code yX8_stoodOf cX8_stoodOf 3 (some .int), Cond.methodLink RX8 200 yX8_stoodBy, Cond.instanceMethod yX8_stoodBy, Cond.selects RX8 yX8_stoodBy yX8_stoodBy, Cond.code yX8_stoodBy cX8_stoodBy 5 (some .int), Cond.methodLink RL 80 yX7_lost, Cond.instanceMethod yX7_lost, Cond.selects RX7 yX7_lost yX7_lost, Cond.code yX7_lost cX7_lost 2 (some .int), Cond.methodLink RX7 181 yX0_spiltWithin, Cond.instanceMethod yX0_spiltWithin, Cond.selects RX0 yX0_spiltWithin yX0_spiltWithin, Cond.code yX0_spiltWithin cX0_spiltWithin 4 (some .int), Cond.methodLink RL 83 yX8_lost, Cond.instanceMethod yX8_lost, Cond.selects RX8 yX8_lost yX8_lost, Cond.code yX8_lost cX8_lost 2 (some .int), Cond.methodLink RX8 209 yX8_lostOf, Cond.instanceMethod yX8_lostOf, Cond.selects RX8 yX8_lostOf yX8_lostOf, Cond.code yX8_lostOf cX8_lostOf 4 (some .int), Cond.methodLink RL 84 yX7_flow, Cond.instanceMethod yX7_flow]
def wsL_law_r27 : List Cond := [Cond.selects RX7 yX7_flow yX7_flow, Cond.code yX7_flow cX7_flow 2 (some .int), Cond.fieldLink RX7 184 "MarketSpring$Days" "flows" "[I", Cond.methodLink RL 87 yX8_flow, Cond.instanceMethod yX8_flow, Cond.selects RX8 yX8_flow yX8_flow, Cond.code yX8_flow cX8_flow 2 (some .int), Cond.methodLink RX8 212 yX8_flowOf, Cond.instanceMethod yX8_flowOf, Cond.selects RX8 yX8_flowOf yX8_flowOf, Cond.code yX8_flowOf cX8_flowOf 2 (some .int), Cond.methodLink RL 88 yX7_worst, Cond.instanceMethod yX7_worst, Cond.selects RX7 yX7_worst yX7_worst, Cond.code yX7_worst cX7_worst 4 (some .int), Cond.methodLink RX7 187 yX0_worstHour, Cond.instanceMethod yX0_worstHour, Cond.selects RX0 yX0_worstHour yX0_worstHour, Cond.code yX0_worstHour cX0_worstHour 4 (some .int), Cond.methodLink RL 91 yX8_worst, Cond.instanceMethod yX8_worst, Cond.selects RX8 yX8_worst yX8_worst, Cond.code yX8_worst cX8_worst 3 (some .int), Cond.methodLink RX8 218 yX8_worstOf]
def wsL_law_r28 : List Cond := [Cond.instanceMethod yX8_worstOf, Cond.selects RX8 yX8_worstOf yX8_worstOf, Cond.code yX8_worstOf cX8_worstOf 4 (some .int), Cond.methodLink RX8 215 yX8_worstBy, Cond.instanceMethod yX8_worstBy, Cond.selects RX8 yX8_worstBy yX8_worstBy, Cond.code yX8_worstBy cX8_worstBy 4 (some .int), Cond.methodLink RL 92 yX7_fewest, Cond.instanceMethod yX7_fewest, Cond.selects RX7 yX7_fewest yX7_fewest, Cond.code yX7_fewest cX7_fewest 5 (some .int), Cond.methodLink RX7 193 yJ6_bitCount_0f7a4, Cond.static yJ6_bitCount_0f7a4, Cond.initialized RJ6, Cond.code yJ6_bitCount_0f7a4 cJ6_bitCount_0f7a4 1 (some .int), Cond.constant RJ6 265 (1431655765), Cond.constant RJ6 266 (858993459), Cond.constant RJ6 267 (252645135), Cond.methodLink RX7 202 yX3_allGoWithin, Cond.instanceMethod yX3_allGoWithin, Cond.selects RX3 yX3_allGoWithin yX3_allGoWithin, Cond.code yX3_allGoWithin cX3_allGoWithin 3 (some .boolean), Cond.methodLink RX3 77 yX3_begin, Cond.methodLink RX3 80 yX3_turn]
def wsL_law_r29 : List Cond := [Cond.methodLink RL 95 yX8_fewest, Cond.instanceMethod yX8_fewest, Cond.selects RX8 yX8_fewest yX8_fewest, Cond.code yX8_fewest cX8_fewest 2 (some .int), Cond.methodLink RX8 224 yX8_fewestOf, Cond.instanceMethod yX8_fewestOf, Cond.selects RX8 yX8_fewestOf yX8_fewestOf, Cond.code yX8_fewestOf cX8_fewestOf 8 (some .int), Cond.methodLink RX8 221 yX8_ones, Cond.static yX8_ones, Cond.code yX8_ones cX8_ones 3 (some .int), Cond.methodLink RL 96 yX7_place, Cond.instanceMethod yX7_place, Cond.selects RX7 yX7_place yX7_place, Cond.code yX7_place cX7_place 7 (some .int), Cond.methodLink RX7 205 yX3_leastLevel, Cond.instanceMethod yX3_leastLevel, Cond.selects RX3 yX3_leastLevel yX3_leastLevel, Cond.code yX3_leastLevel cX3_leastLevel 4 (some .int), Cond.methodLink RL 99 yX8_place, Cond.instanceMethod yX8_place, Cond.selects RX8 yX8_place yX8_place, Cond.code yX8_place cX8_place 3 (some .int), Cond.methodLink RX8 227 yX8_placeOf]
def wsL_law_r30 : List Cond := [Cond.instanceMethod yX8_placeOf, Cond.selects RX8 yX8_placeOf yX8_placeOf, Cond.code yX8_placeOf cX8_placeOf 9 (some .int), Cond.methodLink RL 100 yX7_best, Cond.instanceMethod yX7_best, Cond.selects RX7 yX7_best yX7_best, Cond.code yX7_best cX7_best 3 (some .int), Cond.fieldLink RX7 219 "MarketSpring$Plan" "mustStood" "I", Cond.fieldLink RX7 222 "MarketSpring$Plan" "allStood" "I", Cond.methodLink RX7 208 yX7_waitingBits, Cond.instanceMethod yX7_waitingBits, Cond.selects RX7 yX7_waitingBits yX7_waitingBits, Cond.code yX7_waitingBits cX7_waitingBits 1 (some .int), Cond.methodLink RX7 297 yX4_mustBits, Cond.instanceMethod yX4_mustBits, Cond.selects RX4 yX4_mustBits yX4_mustBits, Cond.code yX4_mustBits cX4_mustBits 3 (some .int), Cond.methodLink RX7 215 yX1_search, Cond.instanceMethod yX1_search, Cond.selects RX1 yX1_search yX1_search, Cond.code yX1_search cX1_search 7 none, Cond.constant RX1 49 (2147483647), Cond.fieldLink RX1 53 "MarketSpring$Spring" "hoursOf" "[I", Cond.methodLink RX1 38 yX1_gather]
def wsL_law_r31 : List Cond := [Cond.instanceMethod yX1_gather, Cond.selects RX1 yX1_gather yX1_gather, Cond.code yX1_gather cX1_gather 3 none, Cond.methodLink RX1 42 yX4_mustBits, Cond.methodLink RX1 50 yX1_layTrial, Cond.instanceMethod yX1_layTrial, Cond.selects RX1 yX1_layTrial yX1_layTrial, Cond.code yX1_layTrial cX1_layTrial 4 none, Cond.methodLink RX1 58 yX4_hoursOf, Cond.methodLink RX1 61 yX1_tryOut, Cond.instanceMethod yX1_tryOut, Cond.selects RX1 yX1_tryOut yX1_tryOut, Cond.code yX1_tryOut cX1_tryOut 5 none, Cond.fieldLink RX1 74 "MarketSpring$Spring" "standing" "I", Cond.methodLink RX1 68 yX3_begin, Cond.methodLink RX1 71 yX3_turn, Cond.methodLink RX1 77 yJ6_bitCount_0f7a4, Cond.methodLink RX1 81 yX1_keepTrial, Cond.instanceMethod yX1_keepTrial, Cond.selects RX1 yX1_keepTrial yX1_keepTrial, Cond.code yX1_keepTrial cX1_keepTrial 4 none, Cond.methodLink RX7 225 yX1_shiftOf, Cond.instanceMethod yX1_shiftOf, Cond.selects RX1 yX1_shiftOf yX1_shiftOf]
def wsL_law_r32 : List Cond := [Cond.code yX1_shiftOf cX1_shiftOf 2 (some .int), Cond.methodLink RL 103 yX8_best, Cond.instanceMethod yX8_best, Cond.selects RX8 yX8_best yX8_best, Cond.code yX8_best cX8_best 13 (some .int), Cond.methodLink RX8 230 yX8_mayWait, Cond.instanceMethod yX8_mayWait, Cond.selects RX8 yX8_mayWait yX8_mayWait, Cond.code yX8_mayWait cX8_mayWait 2 (some .boolean), Cond.methodLink RL 104 yX7_lasts, Cond.instanceMethod yX7_lasts, Cond.selects RX7 yX7_lasts yX7_lasts, Cond.code yX7_lasts cX7_lasts 1 (some .int), Cond.methodLink RX7 228 yX0_firstStanding, Cond.instanceMethod yX0_firstStanding, Cond.selects RX0 yX0_firstStanding yX0_firstStanding, Cond.code yX0_firstStanding cX0_firstStanding 2 (some .int), Cond.methodLink RL 107 yX8_lasts, Cond.instanceMethod yX8_lasts, Cond.selects RX8 yX8_lasts yX8_lasts, Cond.code yX8_lasts cX8_lasts 1 (some .int), Cond.methodLink RX8 233 yX8_lastsNow, Cond.instanceMethod yX8_lastsNow, Cond.selects RX8 yX8_lastsNow yX8_lastsNow]
def wsL_law_r33 : List Cond := [Cond.code yX8_lastsNow cX8_lastsNow 2 (some .int), Cond.methodLink RL 108 yX7_seen, Cond.instanceMethod yX7_seen, Cond.selects RX7 yX7_seen yX7_seen, Cond.code yX7_seen cX7_seen 3 (some .int), Cond.fieldLink RX7 231 "MarketSpring$Watch" "size" "I", Cond.methodLink RX7 232 yX5_note, Cond.instanceMethod yX5_note, Cond.selects RX5 yX5_note yX5_note, Cond.code yX5_note cX5_note 3 none, Cond.methodLink RL 111 yX8_seen, Cond.instanceMethod yX8_seen, Cond.selects RX8 yX8_seen yX8_seen, Cond.code yX8_seen cX8_seen 3 (some .int), Cond.fieldLink RX8 236 "MarketSpringModel" "sights" "I", Cond.methodLink RL 112 yX7_forget, Cond.instanceMethod yX7_forget, Cond.selects RX7 yX7_forget yX7_forget, Cond.code yX7_forget cX7_forget 2 (some .int), Cond.methodLink RX7 235 yX5_clearNotes, Cond.instanceMethod yX5_clearNotes, Cond.selects RX5 yX5_clearNotes yX5_clearNotes, Cond.code yX5_clearNotes cX5_clearNotes 1 none, Cond.methodLink RL 115 yX8_forget]
def wsL_law_r34 : List Cond := [Cond.instanceMethod yX8_forget, Cond.selects RX8 yX8_forget yX8_forget, Cond.code yX8_forget cX8_forget 2 (some .int), Cond.methodLink RL 116 yX7_unlike, Cond.instanceMethod yX7_unlike, Cond.selects RX7 yX7_unlike yX7_unlike, Cond.code yX7_unlike cX7_unlike 1 (some .int), Cond.methodLink RX7 238 yX5_differing, Cond.instanceMethod yX5_differing, Cond.selects RX5 yX5_differing yX5_differing, Cond.code yX5_differing cX5_differing 4 (some .int), Cond.methodLink RL 119 yX8_unlike, Cond.instanceMethod yX8_unlike, Cond.selects RX8 yX8_unlike yX8_unlike, Cond.code yX8_unlike cX8_unlike 1 (some .int), Cond.methodLink RX8 242 yX8_unlikeNow, Cond.instanceMethod yX8_unlikeNow, Cond.selects RX8 yX8_unlikeNow yX8_unlikeNow, Cond.code yX8_unlikeNow cX8_unlikeNow 1 (some .int), Cond.methodLink RX8 239 yX8_unlikeBy, Cond.instanceMethod yX8_unlikeBy, Cond.selects RX8 yX8_unlikeBy yX8_unlikeBy, Cond.code yX8_unlikeBy cX8_unlikeBy 3 (some .int), Cond.methodLink RL 120 yX7_thief]
def wsL_law_r35 : List Cond := [Cond.instanceMethod yX7_thief, Cond.selects RX7 yX7_thief yX7_thief, Cond.code yX7_thief cX7_thief 2 (some .int), Cond.fieldLink RX7 246 "MarketSpring$Watch" "thieves" "I", Cond.fieldLink RX7 249 "MarketSpring$Watch" "firstThief" "I", Cond.methodLink RX7 243 yX5_search, Cond.instanceMethod yX5_search, Cond.selects RX5 yX5_search yX5_search, Cond.code yX5_search cX5_search 4 none, Cond.methodLink RX5 41 yX5_layDue, Cond.instanceMethod yX5_layDue, Cond.selects RX5 yX5_layDue yX5_layDue, Cond.code yX5_layDue cX5_layDue 3 none, Cond.methodLink RX5 60 Lib.Math.max.name, Cond.static Lib.Math.max.name, Cond.code Lib.Math.max.name Lib.Math.max.code 2 (some .int), Cond.methodLink RX5 54 yJ7_fill_53178, Cond.methodLink RX5 44 yX3_rob, Cond.methodLink RX5 50 yX5_fits, Cond.instanceMethod yX5_fits, Cond.selects RX5 yX5_fits yX5_fits, Cond.code yX5_fits cX5_fits 3 (some .boolean), Cond.fieldLink RX5 73 "MarketSpring$Spring" "level" "I", Cond.methodLink RX5 66 yX3_begin]
def wsL_law_r36 : List Cond := [Cond.methodLink RX5 69 yX3_turn, Cond.methodLink RL 123 yX8_thief, Cond.instanceMethod yX8_thief, Cond.selects RX8 yX8_thief yX8_thief, Cond.code yX8_thief cX8_thief 8 (some .int), Cond.methodLink RL 124 yX7_robbed, Cond.instanceMethod yX7_robbed, Cond.selects RX7 yX7_robbed yX7_robbed, Cond.code yX7_robbed cX7_robbed 5 (some .int), Cond.fieldLink RX7 261 "MarketSpring$Spring" "level" "I", Cond.methodLink RX7 255 yX3_begin, Cond.methodLink RX7 258 yX3_turn, Cond.methodLink RL 128 yX8_robbed, Cond.instanceMethod yX8_robbed, Cond.selects RX8 yX8_robbed yX8_robbed, Cond.code yX8_robbed cX8_robbed 4 (some .int), Cond.methodLink RX8 245 yX8_robbedOf, Cond.instanceMethod yX8_robbedOf, Cond.selects RX8 yX8_robbedOf yX8_robbedOf, Cond.code yX8_robbedOf cX8_robbedOf 5 (some .int), Cond.methodLink RL 129 yX7_sheet, Cond.instanceMethod yX7_sheet, Cond.selects RX7 yX7_sheet yX7_sheet, Cond.code yX7_sheet cX7_sheet 4 (some .int)]
def wsL_law_r37 : List Cond := [Cond.methodLink RX7 264 yX7_isForm, Cond.static yX7_isForm, Cond.code yX7_isForm cX7_isForm 1 (some .boolean), Cond.methodLink RX7 267 yX2_renew, Cond.instanceMethod yX2_renew, Cond.selects RX2 yX2_renew yX2_renew, Cond.code yX2_renew cX2_renew 3 none, Cond.methodLink RX2 26 yJ7_fill_53178, Cond.methodLink RL 132 yX8_sheet, Cond.instanceMethod yX8_sheet, Cond.selects RX8 yX8_sheet yX8_sheet, Cond.code yX8_sheet cX8_sheet 5 (some .int), Cond.methodLink RL 133 yX7_lose, Cond.instanceMethod yX7_lose, Cond.selects RX7 yX7_lose yX7_lose, Cond.code yX7_lose cX7_lose 2 (some .int), Cond.methodLink RL 136 yX8_lose, Cond.instanceMethod yX8_lose, Cond.selects RX8 yX8_lose yX8_lose, Cond.code yX8_lose cX8_lose 2 (some .int), Cond.methodLink RL 137 yX7_put, Cond.instanceMethod yX7_put, Cond.selects RX7 yX7_put yX7_put, Cond.code yX7_put cX7_put 6 (some .int)]
def wsL_law_r38 : List Cond := [Cond.methodLink RX7 270 yX7_findingOfItem, Cond.static yX7_findingOfItem, Cond.code yX7_findingOfItem cX7_findingOfItem 3 (some .int), Cond.fieldLink RX7 278 "MarketSpring$Sheet" "form" "I", Cond.methodLink RX7 274 yX2_store, Cond.instanceMethod yX2_store, Cond.selects RX2 yX2_store yX2_store, Cond.code yX2_store cX2_store 3 none, Cond.methodLink RL 141 yX8_put, Cond.instanceMethod yX8_put, Cond.selects RX8 yX8_put yX8_put, Cond.code yX8_put cX8_put 6 (some .int), Cond.methodLink RX8 251 yX8_lacks, Cond.instanceMethod yX8_lacks, Cond.selects RX8 yX8_lacks yX8_lacks, Cond.code yX8_lacks cX8_lacks 4 (some .int), Cond.methodLink RX8 254 yX8_keep, Cond.instanceMethod yX8_keep, Cond.selects RX8 yX8_keep yX8_keep, Cond.code yX8_keep cX8_keep 4 none, Cond.methodLink RL 142 yX7_get, Cond.instanceMethod yX7_get, Cond.selects RX7 yX7_get yX7_get, Cond.code yX7_get cX7_get 5 (some .int)]
def wsL_law_r39 : List Cond := [Cond.constant RX7 277 (-2147483648), Cond.methodLink RL 145 yX8_get, Cond.instanceMethod yX8_get, Cond.selects RX8 yX8_get yX8_get, Cond.code yX8_get cX8_get 5 (some .int), Cond.constant RX8 258 (-2147483648), Cond.methodLink RL 146 yX7_copy, Cond.instanceMethod yX7_copy, Cond.selects RX7 yX7_copy yX7_copy, Cond.code yX7_copy cX7_copy 8 (some .int), Cond.methodLink RX7 285 arraycopyName, Cond.native arraycopyName, Cond.static arraycopyName, Cond.initialized "java/lang/System", Cond.methodLink RX7 281 yX2_hasRun, Cond.instanceMethod yX2_hasRun, Cond.selects RX2 yX2_hasRun yX2_hasRun, Cond.code yX2_hasRun cX2_hasRun 3 (some .boolean), Cond.methodLink RL 150 yX8_copy, Cond.instanceMethod yX8_copy, Cond.selects RX8 yX8_copy yX8_copy, Cond.code yX8_copy cX8_copy 7 (some .int), Cond.methodLink RL 151 yX7_write, Cond.instanceMethod yX7_write]
def wsL_law_r40 : List Cond := [Cond.selects RX7 yX7_write yX7_write, Cond.code yX7_write cX7_write 5 (some .int), Cond.methodLink RL 154 yX8_write, Cond.instanceMethod yX8_write, Cond.selects RX8 yX8_write yX8_write, Cond.code yX8_write cX8_write 4 (some .int), Cond.methodLink RL 155 yX7_count, Cond.instanceMethod yX7_count, Cond.selects RX7 yX7_count yX7_count, Cond.code yX7_count cX7_count 2 (some .int), Cond.fieldLink RX7 291 "MarketSpring$Town" "groups" "I", Cond.methodLink RX7 294 yX4_allPeople, Cond.instanceMethod yX4_allPeople, Cond.selects RX4 yX4_allPeople yX4_allPeople, Cond.code yX4_allPeople cX4_allPeople 3 (some .int), Cond.methodLink RX4 44 yX4_ofGroup, Cond.methodLink RX7 300 yX6_windingOfDay, Cond.instanceMethod yX6_windingOfDay, Cond.selects RX6 yX6_windingOfDay yX6_windingOfDay, Cond.code yX6_windingOfDay cX6_windingOfDay 4 (some .int), Cond.methodLink RL 158 yX8_count, Cond.instanceMethod yX8_count, Cond.selects RX8 yX8_count yX8_count, Cond.code yX8_count cX8_count 2 (some .int)]
def wsL_law_r41 : List Cond := [Cond.methodLink RX8 259 yX8_sumOf, Cond.instanceMethod yX8_sumOf, Cond.selects RX8 yX8_sumOf yX8_sumOf, Cond.code yX8_sumOf cX8_sumOf 5 (some .int), Cond.methodLink RL 159 yX7_digest, Cond.instanceMethod yX7_digest, Cond.selects RX7 yX7_digest yX7_digest, Cond.code yX7_digest cX7_digest 7 (some .long), Cond.constantLong RX7 303 (17), Cond.constantLong RX7 305 (31), Cond.fieldLink RX7 325 "MarketSpring" "DIGEST_HOURS" "[I", Cond.methodLink RX7 307 yX7_count, Cond.methodLink RX7 310 yX7_fault, Cond.methodLink RX7 313 yX7_thing, Cond.methodLink RX7 316 yX7_stood, Cond.methodLink RX7 319 yX7_goes, Cond.methodLink RX7 322 yX7_toil, Cond.methodLink RX7 328 yX7_level, Cond.methodLink RX7 330 yX7_flow, Cond.methodLink RX7 333 yX7_lost, Cond.methodLink RX7 336 yX7_worst, Cond.methodLink RX7 339 yX7_fewest, Cond.methodLink RX7 342 yX7_place, Cond.methodLink RX7 345 yX7_lasts]
def wsL_law_r42 : List Cond := [Cond.methodLink RX7 348 yX7_unlike, Cond.methodLink RX7 351 yX7_robbed, Cond.methodLink RL 163 yX8_digest, Cond.instanceMethod yX8_digest, Cond.selects RX8 yX8_digest yX8_digest, Cond.code yX8_digest cX8_digest 5 (some .long), Cond.constantLong RX8 262 (17), Cond.constantLong RX8 264 (31), Cond.methodLink RX8 266 yX8_count]
def wsL_law : List Cond := (wsL_law_r1 ++ (wsL_law_r2 ++ (wsL_law_r3 ++ (wsL_law_r4 ++ (wsL_law_r5 ++ (wsL_law_r6 ++ (wsL_law_r7 ++ (wsL_law_r8 ++ (wsL_law_r9 ++ (wsL_law_r10 ++ (wsL_law_r11 ++ (wsL_law_r12 ++ (wsL_law_r13 ++ (wsL_law_r14 ++ (wsL_law_r15 ++ (wsL_law_r16 ++ (wsL_law_r17 ++ (wsL_law_r18 ++ (wsL_law_r19 ++ (wsL_law_r20 ++ (wsL_law_r21 ++ (wsL_law_r22 ++ (wsL_law_r23 ++ (wsL_law_r24 ++ (wsL_law_r25 ++ (wsL_law_r26 ++ (wsL_law_r27 ++ (wsL_law_r28 ++ (wsL_law_r29 ++ (wsL_law_r30 ++ (wsL_law_r31 ++ (wsL_law_r32 ++ (wsL_law_r33 ++ (wsL_law_r34 ++ (wsL_law_r35 ++ (wsL_law_r36 ++ (wsL_law_r37 ++ (wsL_law_r38 ++ (wsL_law_r39 ++ (wsL_law_r40 ++ (wsL_law_r41 ++ wsL_law_r42))))))))))))))))))))))))))))))))))))))))) ++ wsX70 ++ wsX80 ++ wsX40 ++ wsX60 ++ wsX30 ++ wsX00 ++ wsX10 ++ wsX50 ++ wsX20 ++ ([] : List Cond)
theorem inlX0 : ∀ w ∈ wsX00, w ∈ wsL_law := fun _ h => List.mem_append_left _ (List.mem_append_left _ (List.mem_append_left _ (List.mem_append_left _ (List.mem_append_right _ h))))
theorem inlX1 : ∀ w ∈ wsX10, w ∈ wsL_law := fun _ h => List.mem_append_left _ (List.mem_append_left _ (List.mem_append_left _ (List.mem_append_right _ h)))
theorem inlX2 : ∀ w ∈ wsX20, w ∈ wsL_law := fun _ h => List.mem_append_left _ (List.mem_append_right _ h)
theorem inlX3 : ∀ w ∈ wsX30, w ∈ wsL_law := fun _ h => List.mem_append_left _ (List.mem_append_left _ (List.mem_append_left _ (List.mem_append_left _ (List.mem_append_left _ (List.mem_append_right _ h)))))
theorem inlX4 : ∀ w ∈ wsX40, w ∈ wsL_law := fun _ h => List.mem_append_left _ (List.mem_append_left _ (List.mem_append_left _ (List.mem_append_left _ (List.mem_append_left _ (List.mem_append_left _ (List.mem_append_left _ (List.mem_append_right _ h)))))))
theorem inlX5 : ∀ w ∈ wsX50, w ∈ wsL_law := fun _ h => List.mem_append_left _ (List.mem_append_left _ (List.mem_append_right _ h))
theorem inlX6 : ∀ w ∈ wsX60, w ∈ wsL_law := fun _ h => List.mem_append_left _ (List.mem_append_left _ (List.mem_append_left _ (List.mem_append_left _ (List.mem_append_left _ (List.mem_append_left _ (List.mem_append_right _ h))))))
theorem inlX7 : ∀ w ∈ wsX70, w ∈ wsL_law := fun _ h => List.mem_append_left _ (List.mem_append_left _ (List.mem_append_left _ (List.mem_append_left _ (List.mem_append_left _ (List.mem_append_left _ (List.mem_append_left _ (List.mem_append_left _ (List.mem_append_left _ (List.mem_append_right _ h)))))))))
theorem inlX8 : ∀ w ∈ wsX80, w ∈ wsL_law := fun _ h => List.mem_append_left _ (List.mem_append_left _ (List.mem_append_left _ (List.mem_append_left _ (List.mem_append_left _ (List.mem_append_left _ (List.mem_append_left _ (List.mem_append_left _ (List.mem_append_right _ h))))))))
abbrev vwCl : List vw_C := [(RX0, TX0, 6), (RX1, TX1, 8), (RX2, TX2, 4), (RX3, TX3, 17), (RX4, TX4, 9), (RX5, TX5, 9), (RX6, TX6, 2), (RX7, TX7, 11), (RX8, TX8, 34)]
end
section
/-! ===== the words of the law, each by its place ===== -/
theorem wr_1 : ∀ w ∈ wsL_law_r1, w ∈ wsL_law := fun _ h => List.mem_append_left _ (List.mem_append_left _ (List.mem_append_left _ (List.mem_append_left _ (List.mem_append_left _ (List.mem_append_left _ (List.mem_append_left _ (List.mem_append_left _ (List.mem_append_left _ (List.mem_append_left _ (List.mem_append_left _ h))))))))))
theorem wr_2 : ∀ w ∈ wsL_law_r2, w ∈ wsL_law := fun _ h => List.mem_append_left _ (List.mem_append_left _ (List.mem_append_left _ (List.mem_append_left _ (List.mem_append_left _ (List.mem_append_left _ (List.mem_append_left _ (List.mem_append_left _ (List.mem_append_left _ (List.mem_append_left _ (List.mem_append_right _ (List.mem_append_left _ h)))))))))))
theorem wr_3 : ∀ w ∈ wsL_law_r3, w ∈ wsL_law := fun _ h => List.mem_append_left _ (List.mem_append_left _ (List.mem_append_left _ (List.mem_append_left _ (List.mem_append_left _ (List.mem_append_left _ (List.mem_append_left _ (List.mem_append_left _ (List.mem_append_left _ (List.mem_append_left _ (List.mem_append_right _ (List.mem_append_right _ (List.mem_append_left _ h))))))))))))
theorem wr_4 : ∀ w ∈ wsL_law_r4, w ∈ wsL_law := fun _ h => List.mem_append_left _ (List.mem_append_left _ (List.mem_append_left _ (List.mem_append_left _ (List.mem_append_left _ (List.mem_append_left _ (List.mem_append_left _ (List.mem_append_left _ (List.mem_append_left _ (List.mem_append_left _ (List.mem_append_right _ (List.mem_append_right _ (List.mem_append_right _ (List.mem_append_left _ h)))))))))))))
theorem wr_5 : ∀ w ∈ wsL_law_r5, w ∈ wsL_law := fun _ h => List.mem_append_left _ (List.mem_append_left _ (List.mem_append_left _ (List.mem_append_left _ (List.mem_append_left _ (List.mem_append_left _ (List.mem_append_left _ (List.mem_append_left _ (List.mem_append_left _ (List.mem_append_left _ (List.mem_append_right _ (List.mem_append_right _ (List.mem_append_right _ (List.mem_append_right _ (List.mem_append_left _ h))))))))))))))
theorem wr_6 : ∀ w ∈ wsL_law_r6, w ∈ wsL_law := fun _ h => List.mem_append_left _ (List.mem_append_left _ (List.mem_append_left _ (List.mem_append_left _ (List.mem_append_left _ (List.mem_append_left _ (List.mem_append_left _ (List.mem_append_left _ (List.mem_append_left _ (List.mem_append_left _ (List.mem_append_right _ (List.mem_append_right _ (List.mem_append_right _ (List.mem_append_right _ (List.mem_append_right _ (List.mem_append_left _ h)))))))))))))))
theorem wr_7 : ∀ w ∈ wsL_law_r7, w ∈ wsL_law := fun _ h => List.mem_append_left _ (List.mem_append_left _ (List.mem_append_left _ (List.mem_append_left _ (List.mem_append_left _ (List.mem_append_left _ (List.mem_append_left _ (List.mem_append_left _ (List.mem_append_left _ (List.mem_append_left _ (List.mem_append_right _ (List.mem_append_right _ (List.mem_append_right _ (List.mem_append_right _ (List.mem_append_right _ (List.mem_append_right _ (List.mem_append_left _ h))))))))))))))))
theorem wr_8 : ∀ w ∈ wsL_law_r8, w ∈ wsL_law := fun _ h => List.mem_append_left _ (List.mem_append_left _ (List.mem_append_left _ (List.mem_append_left _ (List.mem_append_left _ (List.mem_append_left _ (List.mem_append_left _ (List.mem_append_left _ (List.mem_append_left _ (List.mem_append_left _ (List.mem_append_right _ (List.mem_append_right _ (List.mem_append_right _ (List.mem_append_right _ (List.mem_append_right _ (List.mem_append_right _ (List.mem_append_right _ (List.mem_append_left _ h)))))))))))))))))
theorem wr_9 : ∀ w ∈ wsL_law_r9, w ∈ wsL_law := fun _ h => List.mem_append_left _ (List.mem_append_left _ (List.mem_append_left _ (List.mem_append_left _ (List.mem_append_left _ (List.mem_append_left _ (List.mem_append_left _ (List.mem_append_left _ (List.mem_append_left _ (List.mem_append_left _ (List.mem_append_right _ (List.mem_append_right _ (List.mem_append_right _ (List.mem_append_right _ (List.mem_append_right _ (List.mem_append_right _ (List.mem_append_right _ (List.mem_append_right _ (List.mem_append_left _ h))))))))))))))))))
theorem wr_10 : ∀ w ∈ wsL_law_r10, w ∈ wsL_law := fun _ h => List.mem_append_left _ (List.mem_append_left _ (List.mem_append_left _ (List.mem_append_left _ (List.mem_append_left _ (List.mem_append_left _ (List.mem_append_left _ (List.mem_append_left _ (List.mem_append_left _ (List.mem_append_left _ (List.mem_append_right _ (List.mem_append_right _ (List.mem_append_right _ (List.mem_append_right _ (List.mem_append_right _ (List.mem_append_right _ (List.mem_append_right _ (List.mem_append_right _ (List.mem_append_right _ (List.mem_append_left _ h)))))))))))))))))))
theorem wr_11 : ∀ w ∈ wsL_law_r11, w ∈ wsL_law := fun _ h => List.mem_append_left _ (List.mem_append_left _ (List.mem_append_left _ (List.mem_append_left _ (List.mem_append_left _ (List.mem_append_left _ (List.mem_append_left _ (List.mem_append_left _ (List.mem_append_left _ (List.mem_append_left _ (List.mem_append_right _ (List.mem_append_right _ (List.mem_append_right _ (List.mem_append_right _ (List.mem_append_right _ (List.mem_append_right _ (List.mem_append_right _ (List.mem_append_right _ (List.mem_append_right _ (List.mem_append_right _ (List.mem_append_left _ h))))))))))))))))))))
theorem wr_12 : ∀ w ∈ wsL_law_r12, w ∈ wsL_law := fun _ h => List.mem_append_left _ (List.mem_append_left _ (List.mem_append_left _ (List.mem_append_left _ (List.mem_append_left _ (List.mem_append_left _ (List.mem_append_left _ (List.mem_append_left _ (List.mem_append_left _ (List.mem_append_left _ (List.mem_append_right _ (List.mem_append_right _ (List.mem_append_right _ (List.mem_append_right _ (List.mem_append_right _ (List.mem_append_right _ (List.mem_append_right _ (List.mem_append_right _ (List.mem_append_right _ (List.mem_append_right _ (List.mem_append_right _ (List.mem_append_left _ h)))))))))))))))))))))
theorem wr_13 : ∀ w ∈ wsL_law_r13, w ∈ wsL_law := fun _ h => List.mem_append_left _ (List.mem_append_left _ (List.mem_append_left _ (List.mem_append_left _ (List.mem_append_left _ (List.mem_append_left _ (List.mem_append_left _ (List.mem_append_left _ (List.mem_append_left _ (List.mem_append_left _ (List.mem_append_right _ (List.mem_append_right _ (List.mem_append_right _ (List.mem_append_right _ (List.mem_append_right _ (List.mem_append_right _ (List.mem_append_right _ (List.mem_append_right _ (List.mem_append_right _ (List.mem_append_right _ (List.mem_append_right _ (List.mem_append_right _ (List.mem_append_left _ h))))))))))))))))))))))
theorem wr_14 : ∀ w ∈ wsL_law_r14, w ∈ wsL_law := fun _ h => List.mem_append_left _ (List.mem_append_left _ (List.mem_append_left _ (List.mem_append_left _ (List.mem_append_left _ (List.mem_append_left _ (List.mem_append_left _ (List.mem_append_left _ (List.mem_append_left _ (List.mem_append_left _ (List.mem_append_right _ (List.mem_append_right _ (List.mem_append_right _ (List.mem_append_right _ (List.mem_append_right _ (List.mem_append_right _ (List.mem_append_right _ (List.mem_append_right _ (List.mem_append_right _ (List.mem_append_right _ (List.mem_append_right _ (List.mem_append_right _ (List.mem_append_right _ (List.mem_append_left _ h)))))))))))))))))))))))
theorem wr_15 : ∀ w ∈ wsL_law_r15, w ∈ wsL_law := fun _ h => List.mem_append_left _ (List.mem_append_left _ (List.mem_append_left _ (List.mem_append_left _ (List.mem_append_left _ (List.mem_append_left _ (List.mem_append_left _ (List.mem_append_left _ (List.mem_append_left _ (List.mem_append_left _ (List.mem_append_right _ (List.mem_append_right _ (List.mem_append_right _ (List.mem_append_right _ (List.mem_append_right _ (List.mem_append_right _ (List.mem_append_right _ (List.mem_append_right _ (List.mem_append_right _ (List.mem_append_right _ (List.mem_append_right _ (List.mem_append_right _ (List.mem_append_right _ (List.mem_append_right _ (List.mem_append_left _ h))))))))))))))))))))))))
theorem wr_16 : ∀ w ∈ wsL_law_r16, w ∈ wsL_law := fun _ h => List.mem_append_left _ (List.mem_append_left _ (List.mem_append_left _ (List.mem_append_left _ (List.mem_append_left _ (List.mem_append_left _ (List.mem_append_left _ (List.mem_append_left _ (List.mem_append_left _ (List.mem_append_left _ (List.mem_append_right _ (List.mem_append_right _ (List.mem_append_right _ (List.mem_append_right _ (List.mem_append_right _ (List.mem_append_right _ (List.mem_append_right _ (List.mem_append_right _ (List.mem_append_right _ (List.mem_append_right _ (List.mem_append_right _ (List.mem_append_right _ (List.mem_append_right _ (List.mem_append_right _ (List.mem_append_right _ (List.mem_append_left _ h)))))))))))))))))))))))))
theorem wr_17 : ∀ w ∈ wsL_law_r17, w ∈ wsL_law := fun _ h => List.mem_append_left _ (List.mem_append_left _ (List.mem_append_left _ (List.mem_append_left _ (List.mem_append_left _ (List.mem_append_left _ (List.mem_append_left _ (List.mem_append_left _ (List.mem_append_left _ (List.mem_append_left _ (List.mem_append_right _ (List.mem_append_right _ (List.mem_append_right _ (List.mem_append_right _ (List.mem_append_right _ (List.mem_append_right _ (List.mem_append_right _ (List.mem_append_right _ (List.mem_append_right _ (List.mem_append_right _ (List.mem_append_right _ (List.mem_append_right _ (List.mem_append_right _ (List.mem_append_right _ (List.mem_append_right _ (List.mem_append_right _ (List.mem_append_left _ h))))))))))))))))))))))))))
theorem wr_18 : ∀ w ∈ wsL_law_r18, w ∈ wsL_law := fun _ h => List.mem_append_left _ (List.mem_append_left _ (List.mem_append_left _ (List.mem_append_left _ (List.mem_append_left _ (List.mem_append_left _ (List.mem_append_left _ (List.mem_append_left _ (List.mem_append_left _ (List.mem_append_left _ (List.mem_append_right _ (List.mem_append_right _ (List.mem_append_right _ (List.mem_append_right _ (List.mem_append_right _ (List.mem_append_right _ (List.mem_append_right _ (List.mem_append_right _ (List.mem_append_right _ (List.mem_append_right _ (List.mem_append_right _ (List.mem_append_right _ (List.mem_append_right _ (List.mem_append_right _ (List.mem_append_right _ (List.mem_append_right _ (List.mem_append_right _ (List.mem_append_left _ h)))))))))))))))))))))))))))
theorem wr_19 : ∀ w ∈ wsL_law_r19, w ∈ wsL_law := fun _ h => List.mem_append_left _ (List.mem_append_left _ (List.mem_append_left _ (List.mem_append_left _ (List.mem_append_left _ (List.mem_append_left _ (List.mem_append_left _ (List.mem_append_left _ (List.mem_append_left _ (List.mem_append_left _ (List.mem_append_right _ (List.mem_append_right _ (List.mem_append_right _ (List.mem_append_right _ (List.mem_append_right _ (List.mem_append_right _ (List.mem_append_right _ (List.mem_append_right _ (List.mem_append_right _ (List.mem_append_right _ (List.mem_append_right _ (List.mem_append_right _ (List.mem_append_right _ (List.mem_append_right _ (List.mem_append_right _ (List.mem_append_right _ (List.mem_append_right _ (List.mem_append_right _ (List.mem_append_left _ h))))))))))))))))))))))))))))
theorem wr_20 : ∀ w ∈ wsL_law_r20, w ∈ wsL_law := fun _ h => List.mem_append_left _ (List.mem_append_left _ (List.mem_append_left _ (List.mem_append_left _ (List.mem_append_left _ (List.mem_append_left _ (List.mem_append_left _ (List.mem_append_left _ (List.mem_append_left _ (List.mem_append_left _ (List.mem_append_right _ (List.mem_append_right _ (List.mem_append_right _ (List.mem_append_right _ (List.mem_append_right _ (List.mem_append_right _ (List.mem_append_right _ (List.mem_append_right _ (List.mem_append_right _ (List.mem_append_right _ (List.mem_append_right _ (List.mem_append_right _ (List.mem_append_right _ (List.mem_append_right _ (List.mem_append_right _ (List.mem_append_right _ (List.mem_append_right _ (List.mem_append_right _ (List.mem_append_right _ (List.mem_append_left _ h)))))))))))))))))))))))))))))
theorem wr_21 : ∀ w ∈ wsL_law_r21, w ∈ wsL_law := fun _ h => List.mem_append_left _ (List.mem_append_left _ (List.mem_append_left _ (List.mem_append_left _ (List.mem_append_left _ (List.mem_append_left _ (List.mem_append_left _ (List.mem_append_left _ (List.mem_append_left _ (List.mem_append_left _ (List.mem_append_right _ (List.mem_append_right _ (List.mem_append_right _ (List.mem_append_right _ (List.mem_append_right _ (List.mem_append_right _ (List.mem_append_right _ (List.mem_append_right _ (List.mem_append_right _ (List.mem_append_right _ (List.mem_append_right _ (List.mem_append_right _ (List.mem_append_right _ (List.mem_append_right _ (List.mem_append_right _ (List.mem_append_right _ (List.mem_append_right _ (List.mem_append_right _ (List.mem_append_right _ (List.mem_append_right _ (List.mem_append_left _ h))))))))))))))))))))))))))))))
theorem wr_22 : ∀ w ∈ wsL_law_r22, w ∈ wsL_law := fun _ h => List.mem_append_left _ (List.mem_append_left _ (List.mem_append_left _ (List.mem_append_left _ (List.mem_append_left _ (List.mem_append_left _ (List.mem_append_left _ (List.mem_append_left _ (List.mem_append_left _ (List.mem_append_left _ (List.mem_append_right _ (List.mem_append_right _ (List.mem_append_right _ (List.mem_append_right _ (List.mem_append_right _ (List.mem_append_right _ (List.mem_append_right _ (List.mem_append_right _ (List.mem_append_right _ (List.mem_append_right _ (List.mem_append_right _ (List.mem_append_right _ (List.mem_append_right _ (List.mem_append_right _ (List.mem_append_right _ (List.mem_append_right _ (List.mem_append_right _ (List.mem_append_right _ (List.mem_append_right _ (List.mem_append_right _ (List.mem_append_right _ (List.mem_append_left _ h)))))))))))))))))))))))))))))))
theorem wr_23 : ∀ w ∈ wsL_law_r23, w ∈ wsL_law := fun _ h => List.mem_append_left _ (List.mem_append_left _ (List.mem_append_left _ (List.mem_append_left _ (List.mem_append_left _ (List.mem_append_left _ (List.mem_append_left _ (List.mem_append_left _ (List.mem_append_left _ (List.mem_append_left _ (List.mem_append_right _ (List.mem_append_right _ (List.mem_append_right _ (List.mem_append_right _ (List.mem_append_right _ (List.mem_append_right _ (List.mem_append_right _ (List.mem_append_right _ (List.mem_append_right _ (List.mem_append_right _ (List.mem_append_right _ (List.mem_append_right _ (List.mem_append_right _ (List.mem_append_right _ (List.mem_append_right _ (List.mem_append_right _ (List.mem_append_right _ (List.mem_append_right _ (List.mem_append_right _ (List.mem_append_right _ (List.mem_append_right _ (List.mem_append_right _ (List.mem_append_left _ h))))))))))))))))))))))))))))))))
theorem wr_24 : ∀ w ∈ wsL_law_r24, w ∈ wsL_law := fun _ h => List.mem_append_left _ (List.mem_append_left _ (List.mem_append_left _ (List.mem_append_left _ (List.mem_append_left _ (List.mem_append_left _ (List.mem_append_left _ (List.mem_append_left _ (List.mem_append_left _ (List.mem_append_left _ (List.mem_append_right _ (List.mem_append_right _ (List.mem_append_right _ (List.mem_append_right _ (List.mem_append_right _ (List.mem_append_right _ (List.mem_append_right _ (List.mem_append_right _ (List.mem_append_right _ (List.mem_append_right _ (List.mem_append_right _ (List.mem_append_right _ (List.mem_append_right _ (List.mem_append_right _ (List.mem_append_right _ (List.mem_append_right _ (List.mem_append_right _ (List.mem_append_right _ (List.mem_append_right _ (List.mem_append_right _ (List.mem_append_right _ (List.mem_append_right _ (List.mem_append_right _ (List.mem_append_left _ h)))))))))))))))))))))))))))))))))
theorem wr_25 : ∀ w ∈ wsL_law_r25, w ∈ wsL_law := fun _ h => List.mem_append_left _ (List.mem_append_left _ (List.mem_append_left _ (List.mem_append_left _ (List.mem_append_left _ (List.mem_append_left _ (List.mem_append_left _ (List.mem_append_left _ (List.mem_append_left _ (List.mem_append_left _ (List.mem_append_right _ (List.mem_append_right _ (List.mem_append_right _ (List.mem_append_right _ (List.mem_append_right _ (List.mem_append_right _ (List.mem_append_right _ (List.mem_append_right _ (List.mem_append_right _ (List.mem_append_right _ (List.mem_append_right _ (List.mem_append_right _ (List.mem_append_right _ (List.mem_append_right _ (List.mem_append_right _ (List.mem_append_right _ (List.mem_append_right _ (List.mem_append_right _ (List.mem_append_right _ (List.mem_append_right _ (List.mem_append_right _ (List.mem_append_right _ (List.mem_append_right _ (List.mem_append_right _ (List.mem_append_left _ h))))))))))))))))))))))))))))))))))
theorem wr_26 : ∀ w ∈ wsL_law_r26, w ∈ wsL_law := fun _ h => List.mem_append_left _ (List.mem_append_left _ (List.mem_append_left _ (List.mem_append_left _ (List.mem_append_left _ (List.mem_append_left _ (List.mem_append_left _ (List.mem_append_left _ (List.mem_append_left _ (List.mem_append_left _ (List.mem_append_right _ (List.mem_append_right _ (List.mem_append_right _ (List.mem_append_right _ (List.mem_append_right _ (List.mem_append_right _ (List.mem_append_right _ (List.mem_append_right _ (List.mem_append_right _ (List.mem_append_right _ (List.mem_append_right _ (List.mem_append_right _ (List.mem_append_right _ (List.mem_append_right _ (List.mem_append_right _ (List.mem_append_right _ (List.mem_append_right _ (List.mem_append_right _ (List.mem_append_right _ (List.mem_append_right _ (List.mem_append_right _ (List.mem_append_right _ (List.mem_append_right _ (List.mem_append_right _ (List.mem_append_right _ (List.mem_append_left _ h)))))))))))))))))))))))))))))))))))
theorem wr_27 : ∀ w ∈ wsL_law_r27, w ∈ wsL_law := fun _ h => List.mem_append_left _ (List.mem_append_left _ (List.mem_append_left _ (List.mem_append_left _ (List.mem_append_left _ (List.mem_append_left _ (List.mem_append_left _ (List.mem_append_left _ (List.mem_append_left _ (List.mem_append_left _ (List.mem_append_right _ (List.mem_append_right _ (List.mem_append_right _ (List.mem_append_right _ (List.mem_append_right _ (List.mem_append_right _ (List.mem_append_right _ (List.mem_append_right _ (List.mem_append_right _ (List.mem_append_right _ (List.mem_append_right _ (List.mem_append_right _ (List.mem_append_right _ (List.mem_append_right _ (List.mem_append_right _ (List.mem_append_right _ (List.mem_append_right _ (List.mem_append_right _ (List.mem_append_right _ (List.mem_append_right _ (List.mem_append_right _ (List.mem_append_right _ (List.mem_append_right _ (List.mem_append_right _ (List.mem_append_right _ (List.mem_append_right _ (List.mem_append_left _ h))))))))))))))))))))))))))))))))))))
theorem wr_28 : ∀ w ∈ wsL_law_r28, w ∈ wsL_law := fun _ h => List.mem_append_left _ (List.mem_append_left _ (List.mem_append_left _ (List.mem_append_left _ (List.mem_append_left _ (List.mem_append_left _ (List.mem_append_left _ (List.mem_append_left _ (List.mem_append_left _ (List.mem_append_left _ (List.mem_append_right _ (List.mem_append_right _ (List.mem_append_right _ (List.mem_append_right _ (List.mem_append_right _ (List.mem_append_right _ (List.mem_append_right _ (List.mem_append_right _ (List.mem_append_right _ (List.mem_append_right _ (List.mem_append_right _ (List.mem_append_right _ (List.mem_append_right _ (List.mem_append_right _ (List.mem_append_right _ (List.mem_append_right _ (List.mem_append_right _ (List.mem_append_right _ (List.mem_append_right _ (List.mem_append_right _ (List.mem_append_right _ (List.mem_append_right _ (List.mem_append_right _ (List.mem_append_right _ (List.mem_append_right _ (List.mem_append_right _ (List.mem_append_right _ (List.mem_append_left _ h)))))))))))))))))))))))))))))))))))))
theorem wr_29 : ∀ w ∈ wsL_law_r29, w ∈ wsL_law := fun _ h => List.mem_append_left _ (List.mem_append_left _ (List.mem_append_left _ (List.mem_append_left _ (List.mem_append_left _ (List.mem_append_left _ (List.mem_append_left _ (List.mem_append_left _ (List.mem_append_left _ (List.mem_append_left _ (List.mem_append_right _ (List.mem_append_right _ (List.mem_append_right _ (List.mem_append_right _ (List.mem_append_right _ (List.mem_append_right _ (List.mem_append_right _ (List.mem_append_right _ (List.mem_append_right _ (List.mem_append_right _ (List.mem_append_right _ (List.mem_append_right _ (List.mem_append_right _ (List.mem_append_right _ (List.mem_append_right _ (List.mem_append_right _ (List.mem_append_right _ (List.mem_append_right _ (List.mem_append_right _ (List.mem_append_right _ (List.mem_append_right _ (List.mem_append_right _ (List.mem_append_right _ (List.mem_append_right _ (List.mem_append_right _ (List.mem_append_right _ (List.mem_append_right _ (List.mem_append_right _ (List.mem_append_left _ h))))))))))))))))))))))))))))))))))))))
theorem wr_30 : ∀ w ∈ wsL_law_r30, w ∈ wsL_law := fun _ h => List.mem_append_left _ (List.mem_append_left _ (List.mem_append_left _ (List.mem_append_left _ (List.mem_append_left _ (List.mem_append_left _ (List.mem_append_left _ (List.mem_append_left _ (List.mem_append_left _ (List.mem_append_left _ (List.mem_append_right _ (List.mem_append_right _ (List.mem_append_right _ (List.mem_append_right _ (List.mem_append_right _ (List.mem_append_right _ (List.mem_append_right _ (List.mem_append_right _ (List.mem_append_right _ (List.mem_append_right _ (List.mem_append_right _ (List.mem_append_right _ (List.mem_append_right _ (List.mem_append_right _ (List.mem_append_right _ (List.mem_append_right _ (List.mem_append_right _ (List.mem_append_right _ (List.mem_append_right _ (List.mem_append_right _ (List.mem_append_right _ (List.mem_append_right _ (List.mem_append_right _ (List.mem_append_right _ (List.mem_append_right _ (List.mem_append_right _ (List.mem_append_right _ (List.mem_append_right _ (List.mem_append_right _ (List.mem_append_left _ h)))))))))))))))))))))))))))))))))))))))
theorem wr_31 : ∀ w ∈ wsL_law_r31, w ∈ wsL_law := fun _ h => List.mem_append_left _ (List.mem_append_left _ (List.mem_append_left _ (List.mem_append_left _ (List.mem_append_left _ (List.mem_append_left _ (List.mem_append_left _ (List.mem_append_left _ (List.mem_append_left _ (List.mem_append_left _ (List.mem_append_right _ (List.mem_append_right _ (List.mem_append_right _ (List.mem_append_right _ (List.mem_append_right _ (List.mem_append_right _ (List.mem_append_right _ (List.mem_append_right _ (List.mem_append_right _ (List.mem_append_right _ (List.mem_append_right _ (List.mem_append_right _ (List.mem_append_right _ (List.mem_append_right _ (List.mem_append_right _ (List.mem_append_right _ (List.mem_append_right _ (List.mem_append_right _ (List.mem_append_right _ (List.mem_append_right _ (List.mem_append_right _ (List.mem_append_right _ (List.mem_append_right _ (List.mem_append_right _ (List.mem_append_right _ (List.mem_append_right _ (List.mem_append_right _ (List.mem_append_right _ (List.mem_append_right _ (List.mem_append_right _ (List.mem_append_left _ h))))))))))))))))))))))))))))))))))))))))
theorem wr_32 : ∀ w ∈ wsL_law_r32, w ∈ wsL_law := fun _ h => List.mem_append_left _ (List.mem_append_left _ (List.mem_append_left _ (List.mem_append_left _ (List.mem_append_left _ (List.mem_append_left _ (List.mem_append_left _ (List.mem_append_left _ (List.mem_append_left _ (List.mem_append_left _ (List.mem_append_right _ (List.mem_append_right _ (List.mem_append_right _ (List.mem_append_right _ (List.mem_append_right _ (List.mem_append_right _ (List.mem_append_right _ (List.mem_append_right _ (List.mem_append_right _ (List.mem_append_right _ (List.mem_append_right _ (List.mem_append_right _ (List.mem_append_right _ (List.mem_append_right _ (List.mem_append_right _ (List.mem_append_right _ (List.mem_append_right _ (List.mem_append_right _ (List.mem_append_right _ (List.mem_append_right _ (List.mem_append_right _ (List.mem_append_right _ (List.mem_append_right _ (List.mem_append_right _ (List.mem_append_right _ (List.mem_append_right _ (List.mem_append_right _ (List.mem_append_right _ (List.mem_append_right _ (List.mem_append_right _ (List.mem_append_right _ (List.mem_append_left _ h)))))))))))))))))))))))))))))))))))))))))
theorem wr_33 : ∀ w ∈ wsL_law_r33, w ∈ wsL_law := fun _ h => List.mem_append_left _ (List.mem_append_left _ (List.mem_append_left _ (List.mem_append_left _ (List.mem_append_left _ (List.mem_append_left _ (List.mem_append_left _ (List.mem_append_left _ (List.mem_append_left _ (List.mem_append_left _ (List.mem_append_right _ (List.mem_append_right _ (List.mem_append_right _ (List.mem_append_right _ (List.mem_append_right _ (List.mem_append_right _ (List.mem_append_right _ (List.mem_append_right _ (List.mem_append_right _ (List.mem_append_right _ (List.mem_append_right _ (List.mem_append_right _ (List.mem_append_right _ (List.mem_append_right _ (List.mem_append_right _ (List.mem_append_right _ (List.mem_append_right _ (List.mem_append_right _ (List.mem_append_right _ (List.mem_append_right _ (List.mem_append_right _ (List.mem_append_right _ (List.mem_append_right _ (List.mem_append_right _ (List.mem_append_right _ (List.mem_append_right _ (List.mem_append_right _ (List.mem_append_right _ (List.mem_append_right _ (List.mem_append_right _ (List.mem_append_right _ (List.mem_append_right _ (List.mem_append_left _ h))))))))))))))))))))))))))))))))))))))))))
theorem wr_34 : ∀ w ∈ wsL_law_r34, w ∈ wsL_law := fun _ h => List.mem_append_left _ (List.mem_append_left _ (List.mem_append_left _ (List.mem_append_left _ (List.mem_append_left _ (List.mem_append_left _ (List.mem_append_left _ (List.mem_append_left _ (List.mem_append_left _ (List.mem_append_left _ (List.mem_append_right _ (List.mem_append_right _ (List.mem_append_right _ (List.mem_append_right _ (List.mem_append_right _ (List.mem_append_right _ (List.mem_append_right _ (List.mem_append_right _ (List.mem_append_right _ (List.mem_append_right _ (List.mem_append_right _ (List.mem_append_right _ (List.mem_append_right _ (List.mem_append_right _ (List.mem_append_right _ (List.mem_append_right _ (List.mem_append_right _ (List.mem_append_right _ (List.mem_append_right _ (List.mem_append_right _ (List.mem_append_right _ (List.mem_append_right _ (List.mem_append_right _ (List.mem_append_right _ (List.mem_append_right _ (List.mem_append_right _ (List.mem_append_right _ (List.mem_append_right _ (List.mem_append_right _ (List.mem_append_right _ (List.mem_append_right _ (List.mem_append_right _ (List.mem_append_right _ (List.mem_append_left _ h)))))))))))))))))))))))))))))))))))))))))))
theorem wr_35 : ∀ w ∈ wsL_law_r35, w ∈ wsL_law := fun _ h => List.mem_append_left _ (List.mem_append_left _ (List.mem_append_left _ (List.mem_append_left _ (List.mem_append_left _ (List.mem_append_left _ (List.mem_append_left _ (List.mem_append_left _ (List.mem_append_left _ (List.mem_append_left _ (List.mem_append_right _ (List.mem_append_right _ (List.mem_append_right _ (List.mem_append_right _ (List.mem_append_right _ (List.mem_append_right _ (List.mem_append_right _ (List.mem_append_right _ (List.mem_append_right _ (List.mem_append_right _ (List.mem_append_right _ (List.mem_append_right _ (List.mem_append_right _ (List.mem_append_right _ (List.mem_append_right _ (List.mem_append_right _ (List.mem_append_right _ (List.mem_append_right _ (List.mem_append_right _ (List.mem_append_right _ (List.mem_append_right _ (List.mem_append_right _ (List.mem_append_right _ (List.mem_append_right _ (List.mem_append_right _ (List.mem_append_right _ (List.mem_append_right _ (List.mem_append_right _ (List.mem_append_right _ (List.mem_append_right _ (List.mem_append_right _ (List.mem_append_right _ (List.mem_append_right _ (List.mem_append_right _ (List.mem_append_left _ h))))))))))))))))))))))))))))))))))))))))))))
theorem wr_36 : ∀ w ∈ wsL_law_r36, w ∈ wsL_law := fun _ h => List.mem_append_left _ (List.mem_append_left _ (List.mem_append_left _ (List.mem_append_left _ (List.mem_append_left _ (List.mem_append_left _ (List.mem_append_left _ (List.mem_append_left _ (List.mem_append_left _ (List.mem_append_left _ (List.mem_append_right _ (List.mem_append_right _ (List.mem_append_right _ (List.mem_append_right _ (List.mem_append_right _ (List.mem_append_right _ (List.mem_append_right _ (List.mem_append_right _ (List.mem_append_right _ (List.mem_append_right _ (List.mem_append_right _ (List.mem_append_right _ (List.mem_append_right _ (List.mem_append_right _ (List.mem_append_right _ (List.mem_append_right _ (List.mem_append_right _ (List.mem_append_right _ (List.mem_append_right _ (List.mem_append_right _ (List.mem_append_right _ (List.mem_append_right _ (List.mem_append_right _ (List.mem_append_right _ (List.mem_append_right _ (List.mem_append_right _ (List.mem_append_right _ (List.mem_append_right _ (List.mem_append_right _ (List.mem_append_right _ (List.mem_append_right _ (List.mem_append_right _ (List.mem_append_right _ (List.mem_append_right _ (List.mem_append_right _ (List.mem_append_left _ h)))))))))))))))))))))))))))))))))))))))))))))
theorem wr_37 : ∀ w ∈ wsL_law_r37, w ∈ wsL_law := fun _ h => List.mem_append_left _ (List.mem_append_left _ (List.mem_append_left _ (List.mem_append_left _ (List.mem_append_left _ (List.mem_append_left _ (List.mem_append_left _ (List.mem_append_left _ (List.mem_append_left _ (List.mem_append_left _ (List.mem_append_right _ (List.mem_append_right _ (List.mem_append_right _ (List.mem_append_right _ (List.mem_append_right _ (List.mem_append_right _ (List.mem_append_right _ (List.mem_append_right _ (List.mem_append_right _ (List.mem_append_right _ (List.mem_append_right _ (List.mem_append_right _ (List.mem_append_right _ (List.mem_append_right _ (List.mem_append_right _ (List.mem_append_right _ (List.mem_append_right _ (List.mem_append_right _ (List.mem_append_right _ (List.mem_append_right _ (List.mem_append_right _ (List.mem_append_right _ (List.mem_append_right _ (List.mem_append_right _ (List.mem_append_right _ (List.mem_append_right _ (List.mem_append_right _ (List.mem_append_right _ (List.mem_append_right _ (List.mem_append_right _ (List.mem_append_right _ (List.mem_append_right _ (List.mem_append_right _ (List.mem_append_right _ (List.mem_append_right _ (List.mem_append_right _ (List.mem_append_left _ h))))))))))))))))))))))))))))))))))))))))))))))
theorem wr_38 : ∀ w ∈ wsL_law_r38, w ∈ wsL_law := fun _ h => List.mem_append_left _ (List.mem_append_left _ (List.mem_append_left _ (List.mem_append_left _ (List.mem_append_left _ (List.mem_append_left _ (List.mem_append_left _ (List.mem_append_left _ (List.mem_append_left _ (List.mem_append_left _ (List.mem_append_right _ (List.mem_append_right _ (List.mem_append_right _ (List.mem_append_right _ (List.mem_append_right _ (List.mem_append_right _ (List.mem_append_right _ (List.mem_append_right _ (List.mem_append_right _ (List.mem_append_right _ (List.mem_append_right _ (List.mem_append_right _ (List.mem_append_right _ (List.mem_append_right _ (List.mem_append_right _ (List.mem_append_right _ (List.mem_append_right _ (List.mem_append_right _ (List.mem_append_right _ (List.mem_append_right _ (List.mem_append_right _ (List.mem_append_right _ (List.mem_append_right _ (List.mem_append_right _ (List.mem_append_right _ (List.mem_append_right _ (List.mem_append_right _ (List.mem_append_right _ (List.mem_append_right _ (List.mem_append_right _ (List.mem_append_right _ (List.mem_append_right _ (List.mem_append_right _ (List.mem_append_right _ (List.mem_append_right _ (List.mem_append_right _ (List.mem_append_right _ (List.mem_append_left _ h)))))))))))))))))))))))))))))))))))))))))))))))
theorem wr_39 : ∀ w ∈ wsL_law_r39, w ∈ wsL_law := fun _ h => List.mem_append_left _ (List.mem_append_left _ (List.mem_append_left _ (List.mem_append_left _ (List.mem_append_left _ (List.mem_append_left _ (List.mem_append_left _ (List.mem_append_left _ (List.mem_append_left _ (List.mem_append_left _ (List.mem_append_right _ (List.mem_append_right _ (List.mem_append_right _ (List.mem_append_right _ (List.mem_append_right _ (List.mem_append_right _ (List.mem_append_right _ (List.mem_append_right _ (List.mem_append_right _ (List.mem_append_right _ (List.mem_append_right _ (List.mem_append_right _ (List.mem_append_right _ (List.mem_append_right _ (List.mem_append_right _ (List.mem_append_right _ (List.mem_append_right _ (List.mem_append_right _ (List.mem_append_right _ (List.mem_append_right _ (List.mem_append_right _ (List.mem_append_right _ (List.mem_append_right _ (List.mem_append_right _ (List.mem_append_right _ (List.mem_append_right _ (List.mem_append_right _ (List.mem_append_right _ (List.mem_append_right _ (List.mem_append_right _ (List.mem_append_right _ (List.mem_append_right _ (List.mem_append_right _ (List.mem_append_right _ (List.mem_append_right _ (List.mem_append_right _ (List.mem_append_right _ (List.mem_append_right _ (List.mem_append_left _ h))))))))))))))))))))))))))))))))))))))))))))))))
theorem wr_40 : ∀ w ∈ wsL_law_r40, w ∈ wsL_law := fun _ h => List.mem_append_left _ (List.mem_append_left _ (List.mem_append_left _ (List.mem_append_left _ (List.mem_append_left _ (List.mem_append_left _ (List.mem_append_left _ (List.mem_append_left _ (List.mem_append_left _ (List.mem_append_left _ (List.mem_append_right _ (List.mem_append_right _ (List.mem_append_right _ (List.mem_append_right _ (List.mem_append_right _ (List.mem_append_right _ (List.mem_append_right _ (List.mem_append_right _ (List.mem_append_right _ (List.mem_append_right _ (List.mem_append_right _ (List.mem_append_right _ (List.mem_append_right _ (List.mem_append_right _ (List.mem_append_right _ (List.mem_append_right _ (List.mem_append_right _ (List.mem_append_right _ (List.mem_append_right _ (List.mem_append_right _ (List.mem_append_right _ (List.mem_append_right _ (List.mem_append_right _ (List.mem_append_right _ (List.mem_append_right _ (List.mem_append_right _ (List.mem_append_right _ (List.mem_append_right _ (List.mem_append_right _ (List.mem_append_right _ (List.mem_append_right _ (List.mem_append_right _ (List.mem_append_right _ (List.mem_append_right _ (List.mem_append_right _ (List.mem_append_right _ (List.mem_append_right _ (List.mem_append_right _ (List.mem_append_right _ (List.mem_append_left _ h)))))))))))))))))))))))))))))))))))))))))))))))))
theorem wr_41 : ∀ w ∈ wsL_law_r41, w ∈ wsL_law := fun _ h => List.mem_append_left _ (List.mem_append_left _ (List.mem_append_left _ (List.mem_append_left _ (List.mem_append_left _ (List.mem_append_left _ (List.mem_append_left _ (List.mem_append_left _ (List.mem_append_left _ (List.mem_append_left _ (List.mem_append_right _ (List.mem_append_right _ (List.mem_append_right _ (List.mem_append_right _ (List.mem_append_right _ (List.mem_append_right _ (List.mem_append_right _ (List.mem_append_right _ (List.mem_append_right _ (List.mem_append_right _ (List.mem_append_right _ (List.mem_append_right _ (List.mem_append_right _ (List.mem_append_right _ (List.mem_append_right _ (List.mem_append_right _ (List.mem_append_right _ (List.mem_append_right _ (List.mem_append_right _ (List.mem_append_right _ (List.mem_append_right _ (List.mem_append_right _ (List.mem_append_right _ (List.mem_append_right _ (List.mem_append_right _ (List.mem_append_right _ (List.mem_append_right _ (List.mem_append_right _ (List.mem_append_right _ (List.mem_append_right _ (List.mem_append_right _ (List.mem_append_right _ (List.mem_append_right _ (List.mem_append_right _ (List.mem_append_right _ (List.mem_append_right _ (List.mem_append_right _ (List.mem_append_right _ (List.mem_append_right _ (List.mem_append_right _ (List.mem_append_left _ h))))))))))))))))))))))))))))))))))))))))))))))))))
theorem wr_42 : ∀ w ∈ wsL_law_r42, w ∈ wsL_law := fun _ h => List.mem_append_left _ (List.mem_append_left _ (List.mem_append_left _ (List.mem_append_left _ (List.mem_append_left _ (List.mem_append_left _ (List.mem_append_left _ (List.mem_append_left _ (List.mem_append_left _ (List.mem_append_left _ (List.mem_append_right _ (List.mem_append_right _ (List.mem_append_right _ (List.mem_append_right _ (List.mem_append_right _ (List.mem_append_right _ (List.mem_append_right _ (List.mem_append_right _ (List.mem_append_right _ (List.mem_append_right _ (List.mem_append_right _ (List.mem_append_right _ (List.mem_append_right _ (List.mem_append_right _ (List.mem_append_right _ (List.mem_append_right _ (List.mem_append_right _ (List.mem_append_right _ (List.mem_append_right _ (List.mem_append_right _ (List.mem_append_right _ (List.mem_append_right _ (List.mem_append_right _ (List.mem_append_right _ (List.mem_append_right _ (List.mem_append_right _ (List.mem_append_right _ (List.mem_append_right _ (List.mem_append_right _ (List.mem_append_right _ (List.mem_append_right _ (List.mem_append_right _ (List.mem_append_right _ (List.mem_append_right _ (List.mem_append_right _ (List.mem_append_right _ (List.mem_append_right _ (List.mem_append_right _ (List.mem_append_right _ (List.mem_append_right _ (List.mem_append_right _ (h)))))))))))))))))))))))))))))))))))))))))))))))))))
theorem wd_1_0 : Cond.classLink RL 7 RX7 ∈ wsL_law := wr_1 _ (List.mem_of_getElem? (i := 0) rfl)
theorem wd_1_1 : Cond.instantiable RX7 11 ∈ wsL_law := wr_1 _ (List.mem_of_getElem? (i := 1) rfl)
theorem wd_1_2 : Cond.initialized RX7 ∈ wsL_law := wr_1 _ (List.mem_of_getElem? (i := 2) rfl)
theorem wd_1_3 : Cond.classLink RL 10 RX8 ∈ wsL_law := wr_1 _ (List.mem_of_getElem? (i := 3) rfl)
theorem wd_1_4 : Cond.instantiable RX8 34 ∈ wsL_law := wr_1 _ (List.mem_of_getElem? (i := 4) rfl)
theorem wd_1_5 : Cond.initialized RX8 ∈ wsL_law := wr_1 _ (List.mem_of_getElem? (i := 5) rfl)
theorem wd_1_6 : Cond.methodLink RL 9 yX7_init ∈ wsL_law := wr_1 _ (List.mem_of_getElem? (i := 6) rfl)
theorem wd_1_7 : Cond.instanceMethod yX7_init ∈ wsL_law := wr_1 _ (List.mem_of_getElem? (i := 7) rfl)
theorem wd_1_8 : Cond.code yX7_init cX7_init 2 none ∈ wsL_law := wr_1 _ (List.mem_of_getElem? (i := 8) rfl)
theorem wd_1_9 : Cond.methodLink RX7 3 objectInit ∈ wsL_law := wr_1 _ (List.mem_of_getElem? (i := 9) rfl)
theorem wd_1_10 : Cond.instanceMethod objectInit ∈ wsL_law := wr_1 _ (List.mem_of_getElem? (i := 10) rfl)
theorem wd_1_11 : Cond.code objectInit ⟨#[0xb1]⟩ 1 none ∈ wsL_law := wr_1 _ (List.mem_of_getElem? (i := 11) rfl)
theorem wd_1_12 : Cond.classLink RX7 9 RX4 ∈ wsL_law := wr_1 _ (List.mem_of_getElem? (i := 12) rfl)
theorem wd_1_13 : Cond.instantiable RX4 9 ∈ wsL_law := wr_1 _ (List.mem_of_getElem? (i := 13) rfl)
theorem wd_1_14 : Cond.initialized RX4 ∈ wsL_law := wr_1 _ (List.mem_of_getElem? (i := 14) rfl)
theorem wd_1_15 : Cond.fieldLink RX7 12 "MarketSpring" "town" "LMarketSpring$Town;" ∈ wsL_law := wr_1 _ (List.mem_of_getElem? (i := 15) rfl)
theorem wd_1_16 : Cond.fieldLink RX7 16 "MarketSpring" "SETTING_FIRST" "[I" ∈ wsL_law := wr_1 _ (List.mem_of_getElem? (i := 16) rfl)
theorem wd_1_17 : Cond.methodLink RX7 20 ⟨"[I", "clone", "()Ljava/lang/Object;"⟩ ∈ wsL_law := wr_1 _ (List.mem_of_getElem? (i := 17) rfl)
theorem wd_1_18 : Cond.sameMethod "[I" "java/lang/Object" "clone" "()Ljava/lang/Object;" ∈ wsL_law := wr_1 _ (List.mem_of_getElem? (i := 18) rfl)
theorem wd_1_19 : Cond.native ⟨"java/lang/Object", "clone", "()Ljava/lang/Object;"⟩ ∈ wsL_law := wr_1 _ (List.mem_of_getElem? (i := 19) rfl)
theorem wd_1_20 : Cond.instanceMethod ⟨"java/lang/Object", "clone", "()Ljava/lang/Object;"⟩ ∈ wsL_law := wr_1 _ (List.mem_of_getElem? (i := 20) rfl)
theorem wd_1_21 : Cond.selects "[I" ⟨"[I", "clone", "()Ljava/lang/Object;"⟩ ⟨"java/lang/Object", "clone", "()Ljava/lang/Object;"⟩ ∈ wsL_law := wr_1 _ (List.mem_of_getElem? (i := 21) rfl)
theorem wd_1_22 : Cond.classLink RX7 21 "[I" ∈ wsL_law := wr_1 _ (List.mem_of_getElem? (i := 22) rfl)
theorem wd_1_23 : Cond.fieldLink RX7 25 "MarketSpring" "settings" "[I" ∈ wsL_law := wr_1 _ (List.mem_of_getElem? (i := 23) rfl)
theorem wd_2_0 : Cond.arrayClass .int ∈ wsL_law := wr_2 _ (List.mem_of_getElem? (i := 0) rfl)
theorem wd_2_1 : Cond.fieldLink RX7 28 "MarketSpring" "shifts" "[I" ∈ wsL_law := wr_2 _ (List.mem_of_getElem? (i := 1) rfl)
theorem wd_2_2 : Cond.fieldLink RX7 31 "MarketSpring" "shutBits" "I" ∈ wsL_law := wr_2 _ (List.mem_of_getElem? (i := 2) rfl)
theorem wd_2_3 : Cond.classLink RX7 35 RX6 ∈ wsL_law := wr_2 _ (List.mem_of_getElem? (i := 3) rfl)
theorem wd_2_4 : Cond.instantiable RX6 2 ∈ wsL_law := wr_2 _ (List.mem_of_getElem? (i := 4) rfl)
theorem wd_2_5 : Cond.initialized RX6 ∈ wsL_law := wr_2 _ (List.mem_of_getElem? (i := 5) rfl)
theorem wd_2_6 : Cond.fieldLink RX7 40 "MarketSpring" "ways" "LMarketSpring$Ways;" ∈ wsL_law := wr_2 _ (List.mem_of_getElem? (i := 6) rfl)
theorem wd_2_7 : Cond.classLink RX7 44 RX3 ∈ wsL_law := wr_2 _ (List.mem_of_getElem? (i := 7) rfl)
theorem wd_2_8 : Cond.instantiable RX3 17 ∈ wsL_law := wr_2 _ (List.mem_of_getElem? (i := 8) rfl)
theorem wd_2_9 : Cond.initialized RX3 ∈ wsL_law := wr_2 _ (List.mem_of_getElem? (i := 9) rfl)
theorem wd_2_10 : Cond.fieldLink RX7 47 "MarketSpring" "spring" "LMarketSpring$Spring;" ∈ wsL_law := wr_2 _ (List.mem_of_getElem? (i := 10) rfl)
theorem wd_2_11 : Cond.classLink RX7 51 RX0 ∈ wsL_law := wr_2 _ (List.mem_of_getElem? (i := 11) rfl)
theorem wd_2_12 : Cond.instantiable RX0 6 ∈ wsL_law := wr_2 _ (List.mem_of_getElem? (i := 12) rfl)
theorem wd_2_13 : Cond.initialized RX0 ∈ wsL_law := wr_2 _ (List.mem_of_getElem? (i := 13) rfl)
theorem wd_2_14 : Cond.fieldLink RX7 54 "MarketSpring" "tenDays" "LMarketSpring$Days;" ∈ wsL_law := wr_2 _ (List.mem_of_getElem? (i := 14) rfl)
theorem wd_2_15 : Cond.classLink RX7 58 RX1 ∈ wsL_law := wr_2 _ (List.mem_of_getElem? (i := 15) rfl)
theorem wd_2_16 : Cond.instantiable RX1 8 ∈ wsL_law := wr_2 _ (List.mem_of_getElem? (i := 16) rfl)
theorem wd_2_17 : Cond.initialized RX1 ∈ wsL_law := wr_2 _ (List.mem_of_getElem? (i := 17) rfl)
theorem wd_2_18 : Cond.fieldLink RX7 61 "MarketSpring" "plan" "LMarketSpring$Plan;" ∈ wsL_law := wr_2 _ (List.mem_of_getElem? (i := 18) rfl)
theorem wd_2_19 : Cond.classLink RX7 65 RX5 ∈ wsL_law := wr_2 _ (List.mem_of_getElem? (i := 19) rfl)
theorem wd_2_20 : Cond.instantiable RX5 9 ∈ wsL_law := wr_2 _ (List.mem_of_getElem? (i := 20) rfl)
theorem wd_2_21 : Cond.initialized RX5 ∈ wsL_law := wr_2 _ (List.mem_of_getElem? (i := 21) rfl)
theorem wd_2_22 : Cond.fieldLink RX7 68 "MarketSpring" "watch" "LMarketSpring$Watch;" ∈ wsL_law := wr_2 _ (List.mem_of_getElem? (i := 22) rfl)
theorem wd_2_23 : Cond.classLink RX7 72 RX2 ∈ wsL_law := wr_2 _ (List.mem_of_getElem? (i := 23) rfl)
theorem wd_3_0 : Cond.fieldLink RX7 74 "MarketSpring" "sheets" "[LMarketSpring$Sheet;" ∈ wsL_law := wr_3 _ (List.mem_of_getElem? (i := 0) rfl)
theorem wd_3_1 : Cond.fieldLink RX7 78 "MarketSpring" "finding" "I" ∈ wsL_law := wr_3 _ (List.mem_of_getElem? (i := 1) rfl)
theorem wd_3_2 : Cond.instantiable RX2 4 ∈ wsL_law := wr_3 _ (List.mem_of_getElem? (i := 2) rfl)
theorem wd_3_3 : Cond.initialized RX2 ∈ wsL_law := wr_3 _ (List.mem_of_getElem? (i := 3) rfl)
theorem wd_3_4 : Cond.instanceMethod yX4_init ∈ wsL_law := wr_3 _ (List.mem_of_getElem? (i := 4) rfl)
theorem wd_3_5 : Cond.code yX4_init cX4_init 1 none ∈ wsL_law := wr_3 _ (List.mem_of_getElem? (i := 5) rfl)
theorem wd_3_6 : Cond.methodLink RX4 3 objectInit ∈ wsL_law := wr_3 _ (List.mem_of_getElem? (i := 6) rfl)
theorem wd_3_7 : Cond.fieldLink RX4 9 "MarketSpring$Town" "text" "[I" ∈ wsL_law := wr_3 _ (List.mem_of_getElem? (i := 7) rfl)
theorem wd_3_8 : Cond.fieldLink RX4 15 "MarketSpring$Town" "thingRows" "[I" ∈ wsL_law := wr_3 _ (List.mem_of_getElem? (i := 8) rfl)
theorem wd_3_9 : Cond.fieldLink RX4 18 "MarketSpring$Town" "groupRows" "[I" ∈ wsL_law := wr_3 _ (List.mem_of_getElem? (i := 9) rfl)
theorem wd_3_10 : Cond.fieldLink RX4 21 "MarketSpring$Town" "length" "I" ∈ wsL_law := wr_3 _ (List.mem_of_getElem? (i := 10) rfl)
theorem wd_3_11 : Cond.fieldLink RX4 25 "MarketSpring$Town" "things" "I" ∈ wsL_law := wr_3 _ (List.mem_of_getElem? (i := 11) rfl)
theorem wd_3_12 : Cond.fieldLink RX4 28 "MarketSpring$Town" "groups" "I" ∈ wsL_law := wr_3 _ (List.mem_of_getElem? (i := 12) rfl)
theorem wd_3_13 : Cond.fieldLink RX4 31 "MarketSpring$Town" "handleBits" "I" ∈ wsL_law := wr_3 _ (List.mem_of_getElem? (i := 13) rfl)
theorem wd_3_14 : Cond.fieldLink RX4 34 "MarketSpring$Town" "faultAt" "I" ∈ wsL_law := wr_3 _ (List.mem_of_getElem? (i := 14) rfl)
theorem wd_3_15 : Cond.fieldLink RX4 37 "MarketSpring$Town" "at" "I" ∈ wsL_law := wr_3 _ (List.mem_of_getElem? (i := 15) rfl)
theorem wd_3_16 : Cond.methodLink RX7 37 yX6_init ∈ wsL_law := wr_3 _ (List.mem_of_getElem? (i := 16) rfl)
theorem wd_3_17 : Cond.instanceMethod yX6_init ∈ wsL_law := wr_3 _ (List.mem_of_getElem? (i := 17) rfl)
theorem wd_3_18 : Cond.code yX6_init cX6_init 3 none ∈ wsL_law := wr_3 _ (List.mem_of_getElem? (i := 18) rfl)
theorem wd_3_19 : Cond.methodLink RX6 3 objectInit ∈ wsL_law := wr_3 _ (List.mem_of_getElem? (i := 19) rfl)
theorem wd_3_20 : Cond.fieldLink RX6 9 "MarketSpring$Ways" "town" "LMarketSpring$Town;" ∈ wsL_law := wr_3 _ (List.mem_of_getElem? (i := 20) rfl)
theorem wd_3_21 : Cond.fieldLink RX6 15 "MarketSpring$Ways" "settings" "[I" ∈ wsL_law := wr_3 _ (List.mem_of_getElem? (i := 21) rfl)
theorem wd_3_22 : Cond.instanceMethod yX3_init ∈ wsL_law := wr_3 _ (List.mem_of_getElem? (i := 22) rfl)
theorem wd_3_23 : Cond.code yX3_init cX3_init 1 none ∈ wsL_law := wr_3 _ (List.mem_of_getElem? (i := 23) rfl)
theorem wd_4_0 : Cond.methodLink RX3 3 objectInit ∈ wsL_law := wr_4 _ (List.mem_of_getElem? (i := 0) rfl)
theorem wd_4_1 : Cond.fieldLink RX3 9 "MarketSpring$Spring" "gains" "[I" ∈ wsL_law := wr_4 _ (List.mem_of_getElem? (i := 1) rfl)
theorem wd_4_2 : Cond.fieldLink RX3 15 "MarketSpring$Spring" "needs" "[I" ∈ wsL_law := wr_4 _ (List.mem_of_getElem? (i := 2) rfl)
theorem wd_4_3 : Cond.fieldLink RX3 18 "MarketSpring$Spring" "hoursOf" "[I" ∈ wsL_law := wr_4 _ (List.mem_of_getElem? (i := 3) rfl)
theorem wd_4_4 : Cond.fieldLink RX3 21 "MarketSpring$Spring" "things" "I" ∈ wsL_law := wr_4 _ (List.mem_of_getElem? (i := 4) rfl)
theorem wd_4_5 : Cond.fieldLink RX3 25 "MarketSpring$Spring" "most" "I" ∈ wsL_law := wr_4 _ (List.mem_of_getElem? (i := 5) rfl)
theorem wd_4_6 : Cond.fieldLink RX3 28 "MarketSpring$Spring" "tire" "I" ∈ wsL_law := wr_4 _ (List.mem_of_getElem? (i := 6) rfl)
theorem wd_4_7 : Cond.fieldLink RX3 31 "MarketSpring$Spring" "link" "I" ∈ wsL_law := wr_4 _ (List.mem_of_getElem? (i := 7) rfl)
theorem wd_4_8 : Cond.fieldLink RX3 34 "MarketSpring$Spring" "drain" "I" ∈ wsL_law := wr_4 _ (List.mem_of_getElem? (i := 8) rfl)
theorem wd_4_9 : Cond.fieldLink RX3 37 "MarketSpring$Spring" "start" "I" ∈ wsL_law := wr_4 _ (List.mem_of_getElem? (i := 9) rfl)
theorem wd_4_10 : Cond.fieldLink RX3 40 "MarketSpring$Spring" "secondStart" "I" ∈ wsL_law := wr_4 _ (List.mem_of_getElem? (i := 10) rfl)
theorem wd_4_11 : Cond.fieldLink RX3 43 "MarketSpring$Spring" "thiefHour" "I" ∈ wsL_law := wr_4 _ (List.mem_of_getElem? (i := 11) rfl)
theorem wd_4_12 : Cond.fieldLink RX3 46 "MarketSpring$Spring" "thiefTakes" "I" ∈ wsL_law := wr_4 _ (List.mem_of_getElem? (i := 12) rfl)
theorem wd_4_13 : Cond.fieldLink RX3 49 "MarketSpring$Spring" "level" "I" ∈ wsL_law := wr_4 _ (List.mem_of_getElem? (i := 13) rfl)
theorem wd_4_14 : Cond.fieldLink RX3 52 "MarketSpring$Spring" "second" "I" ∈ wsL_law := wr_4 _ (List.mem_of_getElem? (i := 14) rfl)
theorem wd_4_15 : Cond.fieldLink RX3 55 "MarketSpring$Spring" "spilt" "I" ∈ wsL_law := wr_4 _ (List.mem_of_getElem? (i := 15) rfl)
theorem wd_4_16 : Cond.fieldLink RX3 58 "MarketSpring$Spring" "flowed" "I" ∈ wsL_law := wr_4 _ (List.mem_of_getElem? (i := 16) rfl)
theorem wd_4_17 : Cond.fieldLink RX3 61 "MarketSpring$Spring" "standing" "I" ∈ wsL_law := wr_4 _ (List.mem_of_getElem? (i := 17) rfl)
theorem wd_4_18 : Cond.instanceMethod yX0_init ∈ wsL_law := wr_4 _ (List.mem_of_getElem? (i := 18) rfl)
theorem wd_4_19 : Cond.code yX0_init cX0_init 1 none ∈ wsL_law := wr_4 _ (List.mem_of_getElem? (i := 19) rfl)
theorem wd_4_20 : Cond.methodLink RX0 3 objectInit ∈ wsL_law := wr_4 _ (List.mem_of_getElem? (i := 20) rfl)
theorem wd_4_21 : Cond.fieldLink RX0 9 "MarketSpring$Days" "levels" "[I" ∈ wsL_law := wr_4 _ (List.mem_of_getElem? (i := 21) rfl)
theorem wd_4_22 : Cond.fieldLink RX0 15 "MarketSpring$Days" "seconds" "[I" ∈ wsL_law := wr_4 _ (List.mem_of_getElem? (i := 22) rfl)
theorem wd_4_23 : Cond.fieldLink RX0 18 "MarketSpring$Days" "flows" "[I" ∈ wsL_law := wr_4 _ (List.mem_of_getElem? (i := 23) rfl)
theorem wd_5_0 : Cond.fieldLink RX0 21 "MarketSpring$Days" "spilt" "[I" ∈ wsL_law := wr_5 _ (List.mem_of_getElem? (i := 0) rfl)
theorem wd_5_1 : Cond.fieldLink RX0 24 "MarketSpring$Days" "standing" "[I" ∈ wsL_law := wr_5 _ (List.mem_of_getElem? (i := 1) rfl)
theorem wd_5_2 : Cond.fieldLink RX0 27 "MarketSpring$Days" "known" "Z" ∈ wsL_law := wr_5 _ (List.mem_of_getElem? (i := 2) rfl)
theorem wd_5_3 : Cond.instanceMethod yX1_init ∈ wsL_law := wr_5 _ (List.mem_of_getElem? (i := 3) rfl)
theorem wd_5_4 : Cond.code yX1_init cX1_init 1 none ∈ wsL_law := wr_5 _ (List.mem_of_getElem? (i := 4) rfl)
theorem wd_5_5 : Cond.methodLink RX1 3 objectInit ∈ wsL_law := wr_5 _ (List.mem_of_getElem? (i := 5) rfl)
theorem wd_5_6 : Cond.fieldLink RX1 9 "MarketSpring$Plan" "waiting" "[I" ∈ wsL_law := wr_5 _ (List.mem_of_getElem? (i := 6) rfl)
theorem wd_5_7 : Cond.fieldLink RX1 15 "MarketSpring$Plan" "trial" "[I" ∈ wsL_law := wr_5 _ (List.mem_of_getElem? (i := 7) rfl)
theorem wd_5_8 : Cond.fieldLink RX1 18 "MarketSpring$Plan" "bestShifts" "[I" ∈ wsL_law := wr_5 _ (List.mem_of_getElem? (i := 8) rfl)
theorem wd_5_9 : Cond.fieldLink RX1 21 "MarketSpring$Plan" "size" "I" ∈ wsL_law := wr_5 _ (List.mem_of_getElem? (i := 9) rfl)
theorem wd_5_10 : Cond.fieldLink RX1 25 "MarketSpring$Plan" "mustBits" "I" ∈ wsL_law := wr_5 _ (List.mem_of_getElem? (i := 10) rfl)
theorem wd_5_11 : Cond.fieldLink RX1 28 "MarketSpring$Plan" "mustStood" "I" ∈ wsL_law := wr_5 _ (List.mem_of_getElem? (i := 11) rfl)
theorem wd_5_12 : Cond.fieldLink RX1 31 "MarketSpring$Plan" "allStood" "I" ∈ wsL_law := wr_5 _ (List.mem_of_getElem? (i := 12) rfl)
theorem wd_5_13 : Cond.fieldLink RX1 34 "MarketSpring$Plan" "known" "Z" ∈ wsL_law := wr_5 _ (List.mem_of_getElem? (i := 13) rfl)
theorem wd_5_14 : Cond.instanceMethod yX5_init ∈ wsL_law := wr_5 _ (List.mem_of_getElem? (i := 14) rfl)
theorem wd_5_15 : Cond.code yX5_init cX5_init 1 none ∈ wsL_law := wr_5 _ (List.mem_of_getElem? (i := 15) rfl)
theorem wd_5_16 : Cond.methodLink RX5 3 objectInit ∈ wsL_law := wr_5 _ (List.mem_of_getElem? (i := 16) rfl)
theorem wd_5_17 : Cond.fieldLink RX5 9 "MarketSpring$Watch" "seenHours" "[I" ∈ wsL_law := wr_5 _ (List.mem_of_getElem? (i := 17) rfl)
theorem wd_5_18 : Cond.fieldLink RX5 15 "MarketSpring$Watch" "seenLevels" "[I" ∈ wsL_law := wr_5 _ (List.mem_of_getElem? (i := 18) rfl)
theorem wd_5_19 : Cond.fieldLink RX5 18 "MarketSpring$Watch" "due" "[I" ∈ wsL_law := wr_5 _ (List.mem_of_getElem? (i := 19) rfl)
theorem wd_5_20 : Cond.fieldLink RX5 21 "MarketSpring$Watch" "size" "I" ∈ wsL_law := wr_5 _ (List.mem_of_getElem? (i := 20) rfl)
theorem wd_5_21 : Cond.fieldLink RX5 25 "MarketSpring$Watch" "hoursDue" "I" ∈ wsL_law := wr_5 _ (List.mem_of_getElem? (i := 21) rfl)
theorem wd_5_22 : Cond.fieldLink RX5 28 "MarketSpring$Watch" "clash" "Z" ∈ wsL_law := wr_5 _ (List.mem_of_getElem? (i := 22) rfl)
theorem wd_5_23 : Cond.fieldLink RX5 32 "MarketSpring$Watch" "thieves" "I" ∈ wsL_law := wr_5 _ (List.mem_of_getElem? (i := 23) rfl)
theorem wd_6_0 : Cond.fieldLink RX5 35 "MarketSpring$Watch" "firstThief" "I" ∈ wsL_law := wr_6 _ (List.mem_of_getElem? (i := 0) rfl)
theorem wd_6_1 : Cond.fieldLink RX5 38 "MarketSpring$Watch" "known" "Z" ∈ wsL_law := wr_6 _ (List.mem_of_getElem? (i := 1) rfl)
theorem wd_6_2 : Cond.instanceMethod yX2_init ∈ wsL_law := wr_6 _ (List.mem_of_getElem? (i := 2) rfl)
theorem wd_6_3 : Cond.code yX2_init cX2_init 1 none ∈ wsL_law := wr_6 _ (List.mem_of_getElem? (i := 3) rfl)
theorem wd_6_4 : Cond.methodLink RX2 3 objectInit ∈ wsL_law := wr_6 _ (List.mem_of_getElem? (i := 4) rfl)
theorem wd_6_5 : Cond.fieldLink RX2 9 "MarketSpring$Sheet" "items" "[I" ∈ wsL_law := wr_6 _ (List.mem_of_getElem? (i := 5) rfl)
theorem wd_6_6 : Cond.fieldLink RX2 15 "MarketSpring$Sheet" "form" "I" ∈ wsL_law := wr_6 _ (List.mem_of_getElem? (i := 6) rfl)
theorem wd_6_7 : Cond.fieldLink RX2 19 "MarketSpring$Sheet" "size" "I" ∈ wsL_law := wr_6 _ (List.mem_of_getElem? (i := 7) rfl)
theorem wd_6_8 : Cond.fieldLink RX2 22 "MarketSpring$Sheet" "gone" "Z" ∈ wsL_law := wr_6 _ (List.mem_of_getElem? (i := 8) rfl)
theorem wd_6_9 : Cond.methodLink RL 12 yX8_init ∈ wsL_law := wr_6 _ (List.mem_of_getElem? (i := 9) rfl)
theorem wd_6_10 : Cond.instanceMethod yX8_init ∈ wsL_law := wr_6 _ (List.mem_of_getElem? (i := 10) rfl)
theorem wd_6_11 : Cond.code yX8_init cX8_init 1 none ∈ wsL_law := wr_6 _ (List.mem_of_getElem? (i := 11) rfl)
theorem wd_6_12 : Cond.methodLink RX8 1 objectInit ∈ wsL_law := wr_6 _ (List.mem_of_getElem? (i := 12) rfl)
theorem wd_6_13 : Cond.fieldLink RX8 7 "MarketSpringModel" "text" "[I" ∈ wsL_law := wr_6 _ (List.mem_of_getElem? (i := 13) rfl)
theorem wd_6_14 : Cond.fieldLink RX8 13 "MarketSpringModel" "setting" "[I" ∈ wsL_law := wr_6 _ (List.mem_of_getElem? (i := 14) rfl)
theorem wd_6_15 : Cond.fieldLink RX8 16 "MarketSpringModel" "need" "[I" ∈ wsL_law := wr_6 _ (List.mem_of_getElem? (i := 15) rfl)
theorem wd_6_16 : Cond.fieldLink RX8 19 "MarketSpringModel" "from" "[I" ∈ wsL_law := wr_6 _ (List.mem_of_getElem? (i := 16) rfl)
theorem wd_6_17 : Cond.fieldLink RX8 22 "MarketSpringModel" "long1" "[I" ∈ wsL_law := wr_6 _ (List.mem_of_getElem? (i := 17) rfl)
theorem wd_6_18 : Cond.fieldLink RX8 25 "MarketSpringModel" "must" "[I" ∈ wsL_law := wr_6 _ (List.mem_of_getElem? (i := 18) rfl)
theorem wd_6_19 : Cond.fieldLink RX8 28 "MarketSpringModel" "shuts" "[I" ∈ wsL_law := wr_6 _ (List.mem_of_getElem? (i := 19) rfl)
theorem wd_6_20 : Cond.fieldLink RX8 31 "MarketSpringModel" "shifts" "[I" ∈ wsL_law := wr_6 _ (List.mem_of_getElem? (i := 20) rfl)
theorem wd_6_21 : Cond.fieldLink RX8 34 "MarketSpringModel" "people" "[I" ∈ wsL_law := wr_6 _ (List.mem_of_getElem? (i := 21) rfl)
theorem wd_6_22 : Cond.fieldLink RX8 37 "MarketSpringModel" "hour" "[I" ∈ wsL_law := wr_6 _ (List.mem_of_getElem? (i := 22) rfl)
theorem wd_6_23 : Cond.fieldLink RX8 40 "MarketSpringModel" "streets" "[I" ∈ wsL_law := wr_6 _ (List.mem_of_getElem? (i := 23) rfl)
theorem wd_7_0 : Cond.fieldLink RX8 43 "MarketSpringModel" "lengths" "[I" ∈ wsL_law := wr_7 _ (List.mem_of_getElem? (i := 0) rfl)
theorem wd_7_1 : Cond.fieldLink RX8 46 "MarketSpringModel" "winds" "[I" ∈ wsL_law := wr_7 _ (List.mem_of_getElem? (i := 1) rfl)
theorem wd_7_2 : Cond.fieldLink RX8 49 "MarketSpringModel" "levels" "[I" ∈ wsL_law := wr_7 _ (List.mem_of_getElem? (i := 2) rfl)
theorem wd_7_3 : Cond.fieldLink RX8 52 "MarketSpringModel" "seconds" "[I" ∈ wsL_law := wr_7 _ (List.mem_of_getElem? (i := 3) rfl)
theorem wd_7_4 : Cond.fieldLink RX8 55 "MarketSpringModel" "losses" "[I" ∈ wsL_law := wr_7 _ (List.mem_of_getElem? (i := 4) rfl)
theorem wd_7_5 : Cond.fieldLink RX8 58 "MarketSpringModel" "flows" "[I" ∈ wsL_law := wr_7 _ (List.mem_of_getElem? (i := 5) rfl)
theorem wd_7_6 : Cond.fieldLink RX8 61 "MarketSpringModel" "standing" "[I" ∈ wsL_law := wr_7 _ (List.mem_of_getElem? (i := 6) rfl)
theorem wd_7_7 : Cond.fieldLink RX8 64 "MarketSpringModel" "waits" "[I" ∈ wsL_law := wr_7 _ (List.mem_of_getElem? (i := 7) rfl)
theorem wd_7_8 : Cond.fieldLink RX8 67 "MarketSpringModel" "hadShift" "[I" ∈ wsL_law := wr_7 _ (List.mem_of_getElem? (i := 8) rfl)
theorem wd_7_9 : Cond.fieldLink RX8 70 "MarketSpringModel" "bestShift" "[I" ∈ wsL_law := wr_7 _ (List.mem_of_getElem? (i := 9) rfl)
theorem wd_7_10 : Cond.fieldLink RX8 73 "MarketSpringModel" "seenHour" "[I" ∈ wsL_law := wr_7 _ (List.mem_of_getElem? (i := 10) rfl)
theorem wd_7_11 : Cond.fieldLink RX8 76 "MarketSpringModel" "seenLevel" "[I" ∈ wsL_law := wr_7 _ (List.mem_of_getElem? (i := 11) rfl)
theorem wd_7_12 : Cond.arrayClass .boolean ∈ wsL_law := wr_7 _ (List.mem_of_getElem? (i := 12) rfl)
theorem wd_7_13 : Cond.fieldLink RX8 79 "MarketSpringModel" "isThere" "[Z" ∈ wsL_law := wr_7 _ (List.mem_of_getElem? (i := 13) rfl)
theorem wd_7_14 : Cond.fieldLink RX8 83 "MarketSpringModel" "forms" "[I" ∈ wsL_law := wr_7 _ (List.mem_of_getElem? (i := 14) rfl)
theorem wd_7_15 : Cond.fieldLink RX8 86 "MarketSpringModel" "sizes" "[I" ∈ wsL_law := wr_7 _ (List.mem_of_getElem? (i := 15) rfl)
theorem wd_7_16 : Cond.fieldLink RX8 89 "MarketSpringModel" "items" "[I" ∈ wsL_law := wr_7 _ (List.mem_of_getElem? (i := 16) rfl)
theorem wd_7_17 : Cond.fieldLink RX8 92 "MarketSpringModel" "moved" "[I" ∈ wsL_law := wr_7 _ (List.mem_of_getElem? (i := 17) rfl)
theorem wd_7_18 : Cond.methodLink RL 13 yX7_type ∈ wsL_law := wr_7 _ (List.mem_of_getElem? (i := 18) rfl)
theorem wd_7_19 : Cond.instanceMethod yX7_type ∈ wsL_law := wr_7 _ (List.mem_of_getElem? (i := 19) rfl)
theorem wd_7_20 : Cond.selects RX7 yX7_type yX7_type ∈ wsL_law := wr_7 _ (List.mem_of_getElem? (i := 20) rfl)
theorem wd_7_21 : Cond.code yX7_type cX7_type 2 (some .int) ∈ wsL_law := wr_7 _ (List.mem_of_getElem? (i := 21) rfl)
theorem wd_7_22 : Cond.fieldLink RX7 86 "MarketSpring$Town" "length" "I" ∈ wsL_law := wr_7 _ (List.mem_of_getElem? (i := 22) rfl)
theorem wd_7_23 : Cond.methodLink RX7 82 yX7_within ∈ wsL_law := wr_7 _ (List.mem_of_getElem? (i := 23) rfl)
theorem wd_8_0 : Cond.static yX7_within ∈ wsL_law := wr_8 _ (List.mem_of_getElem? (i := 0) rfl)
theorem wd_8_1 : Cond.code yX7_within cX7_within 3 (some .boolean) ∈ wsL_law := wr_8 _ (List.mem_of_getElem? (i := 1) rfl)
theorem wd_8_2 : Cond.methodLink RX7 89 yX4_append ∈ wsL_law := wr_8 _ (List.mem_of_getElem? (i := 2) rfl)
theorem wd_8_3 : Cond.instanceMethod yX4_append ∈ wsL_law := wr_8 _ (List.mem_of_getElem? (i := 3) rfl)
theorem wd_8_4 : Cond.selects RX4 yX4_append yX4_append ∈ wsL_law := wr_8 _ (List.mem_of_getElem? (i := 4) rfl)
theorem wd_8_5 : Cond.code yX4_append cX4_append 2 none ∈ wsL_law := wr_8 _ (List.mem_of_getElem? (i := 5) rfl)
theorem wd_8_6 : Cond.methodLink RX7 93 yX4_parse ∈ wsL_law := wr_8 _ (List.mem_of_getElem? (i := 6) rfl)
theorem wd_8_7 : Cond.instanceMethod yX4_parse ∈ wsL_law := wr_8 _ (List.mem_of_getElem? (i := 7) rfl)
theorem wd_8_8 : Cond.selects RX4 yX4_parse yX4_parse ∈ wsL_law := wr_8 _ (List.mem_of_getElem? (i := 8) rfl)
theorem wd_8_9 : Cond.code yX4_parse cX4_parse 3 none ∈ wsL_law := wr_8 _ (List.mem_of_getElem? (i := 9) rfl)
theorem wd_8_10 : Cond.methodLink RX4 48 yX4_forgetParts ∈ wsL_law := wr_8 _ (List.mem_of_getElem? (i := 10) rfl)
theorem wd_8_11 : Cond.instanceMethod yX4_forgetParts ∈ wsL_law := wr_8 _ (List.mem_of_getElem? (i := 11) rfl)
theorem wd_8_12 : Cond.selects RX4 yX4_forgetParts yX4_forgetParts ∈ wsL_law := wr_8 _ (List.mem_of_getElem? (i := 12) rfl)
theorem wd_8_13 : Cond.code yX4_forgetParts cX4_forgetParts 1 none ∈ wsL_law := wr_8 _ (List.mem_of_getElem? (i := 13) rfl)
theorem wd_8_14 : Cond.methodLink RX4 51 yX4_parsePart ∈ wsL_law := wr_8 _ (List.mem_of_getElem? (i := 14) rfl)
theorem wd_8_15 : Cond.instanceMethod yX4_parsePart ∈ wsL_law := wr_8 _ (List.mem_of_getElem? (i := 15) rfl)
theorem wd_8_16 : Cond.selects RX4 yX4_parsePart yX4_parsePart ∈ wsL_law := wr_8 _ (List.mem_of_getElem? (i := 16) rfl)
theorem wd_8_17 : Cond.code yX4_parsePart cX4_parsePart 2 none ∈ wsL_law := wr_8 _ (List.mem_of_getElem? (i := 17) rfl)
theorem wd_8_18 : Cond.methodLink RX4 57 yX4_next ∈ wsL_law := wr_8 _ (List.mem_of_getElem? (i := 18) rfl)
theorem wd_8_19 : Cond.instanceMethod yX4_next ∈ wsL_law := wr_8 _ (List.mem_of_getElem? (i := 19) rfl)
theorem wd_8_20 : Cond.selects RX4 yX4_next yX4_next ∈ wsL_law := wr_8 _ (List.mem_of_getElem? (i := 20) rfl)
theorem wd_8_21 : Cond.code yX4_next cX4_next 1 (some .int) ∈ wsL_law := wr_8 _ (List.mem_of_getElem? (i := 21) rfl)
theorem wd_8_22 : Cond.methodLink RX4 61 yX4_parseThing ∈ wsL_law := wr_8 _ (List.mem_of_getElem? (i := 22) rfl)
theorem wd_8_23 : Cond.instanceMethod yX4_parseThing ∈ wsL_law := wr_8 _ (List.mem_of_getElem? (i := 23) rfl)
theorem wd_9_0 : Cond.selects RX4 yX4_parseThing yX4_parseThing ∈ wsL_law := wr_9 _ (List.mem_of_getElem? (i := 0) rfl)
theorem wd_9_1 : Cond.code yX4_parseThing cX4_parseThing 2 none ∈ wsL_law := wr_9 _ (List.mem_of_getElem? (i := 1) rfl)
theorem wd_9_2 : Cond.methodLink RX4 71 yX4_twoFigures ∈ wsL_law := wr_9 _ (List.mem_of_getElem? (i := 2) rfl)
theorem wd_9_3 : Cond.instanceMethod yX4_twoFigures ∈ wsL_law := wr_9 _ (List.mem_of_getElem? (i := 3) rfl)
theorem wd_9_4 : Cond.selects RX4 yX4_twoFigures yX4_twoFigures ∈ wsL_law := wr_9 _ (List.mem_of_getElem? (i := 4) rfl)
theorem wd_9_5 : Cond.code yX4_twoFigures cX4_twoFigures 5 (some .int) ∈ wsL_law := wr_9 _ (List.mem_of_getElem? (i := 5) rfl)
theorem wd_9_6 : Cond.methodLink RX4 85 yX4_figure ∈ wsL_law := wr_9 _ (List.mem_of_getElem? (i := 6) rfl)
theorem wd_9_7 : Cond.instanceMethod yX4_figure ∈ wsL_law := wr_9 _ (List.mem_of_getElem? (i := 7) rfl)
theorem wd_9_8 : Cond.selects RX4 yX4_figure yX4_figure ∈ wsL_law := wr_9 _ (List.mem_of_getElem? (i := 8) rfl)
theorem wd_9_9 : Cond.code yX4_figure cX4_figure 2 (some .int) ∈ wsL_law := wr_9 _ (List.mem_of_getElem? (i := 9) rfl)
theorem wd_9_10 : Cond.methodLink RX4 65 yX4_parseHandle ∈ wsL_law := wr_9 _ (List.mem_of_getElem? (i := 10) rfl)
theorem wd_9_11 : Cond.instanceMethod yX4_parseHandle ∈ wsL_law := wr_9 _ (List.mem_of_getElem? (i := 11) rfl)
theorem wd_9_12 : Cond.selects RX4 yX4_parseHandle yX4_parseHandle ∈ wsL_law := wr_9 _ (List.mem_of_getElem? (i := 12) rfl)
theorem wd_9_13 : Cond.code yX4_parseHandle cX4_parseHandle 2 none ∈ wsL_law := wr_9 _ (List.mem_of_getElem? (i := 13) rfl)
theorem wd_9_14 : Cond.methodLink RX4 74 yX4_oneFigure ∈ wsL_law := wr_9 _ (List.mem_of_getElem? (i := 14) rfl)
theorem wd_9_15 : Cond.instanceMethod yX4_oneFigure ∈ wsL_law := wr_9 _ (List.mem_of_getElem? (i := 15) rfl)
theorem wd_9_16 : Cond.selects RX4 yX4_oneFigure yX4_oneFigure ∈ wsL_law := wr_9 _ (List.mem_of_getElem? (i := 16) rfl)
theorem wd_9_17 : Cond.code yX4_oneFigure cX4_oneFigure 3 (some .int) ∈ wsL_law := wr_9 _ (List.mem_of_getElem? (i := 17) rfl)
theorem wd_9_18 : Cond.methodLink RX4 81 yX4_refuseLast ∈ wsL_law := wr_9 _ (List.mem_of_getElem? (i := 18) rfl)
theorem wd_9_19 : Cond.instanceMethod yX4_refuseLast ∈ wsL_law := wr_9 _ (List.mem_of_getElem? (i := 19) rfl)
theorem wd_9_20 : Cond.selects RX4 yX4_refuseLast yX4_refuseLast ∈ wsL_law := wr_9 _ (List.mem_of_getElem? (i := 20) rfl)
theorem wd_9_21 : Cond.code yX4_refuseLast cX4_refuseLast 2 none ∈ wsL_law := wr_9 _ (List.mem_of_getElem? (i := 21) rfl)
theorem wd_9_22 : Cond.static yX7_bit ∈ wsL_law := wr_9 _ (List.mem_of_getElem? (i := 22) rfl)
theorem wd_9_23 : Cond.code yX7_bit cX7_bit 2 (some .int) ∈ wsL_law := wr_9 _ (List.mem_of_getElem? (i := 23) rfl)
theorem wd_10_0 : Cond.methodLink RX4 68 yX4_parseGroup ∈ wsL_law := wr_10 _ (List.mem_of_getElem? (i := 0) rfl)
theorem wd_10_1 : Cond.instanceMethod yX4_parseGroup ∈ wsL_law := wr_10 _ (List.mem_of_getElem? (i := 1) rfl)
theorem wd_10_2 : Cond.selects RX4 yX4_parseGroup yX4_parseGroup ∈ wsL_law := wr_10 _ (List.mem_of_getElem? (i := 2) rfl)
theorem wd_10_3 : Cond.code yX4_parseGroup cX4_parseGroup 2 none ∈ wsL_law := wr_10 _ (List.mem_of_getElem? (i := 3) rfl)
theorem wd_10_4 : Cond.methodLink RX4 54 yX4_parseBetween ∈ wsL_law := wr_10 _ (List.mem_of_getElem? (i := 4) rfl)
theorem wd_10_5 : Cond.instanceMethod yX4_parseBetween ∈ wsL_law := wr_10 _ (List.mem_of_getElem? (i := 5) rfl)
theorem wd_10_6 : Cond.selects RX4 yX4_parseBetween yX4_parseBetween ∈ wsL_law := wr_10 _ (List.mem_of_getElem? (i := 6) rfl)
theorem wd_10_7 : Cond.code yX4_parseBetween cX4_parseBetween 1 none ∈ wsL_law := wr_10 _ (List.mem_of_getElem? (i := 7) rfl)
theorem wd_10_8 : Cond.methodLink RX7 96 yX7_outdate ∈ wsL_law := wr_10 _ (List.mem_of_getElem? (i := 8) rfl)
theorem wd_10_9 : Cond.instanceMethod yX7_outdate ∈ wsL_law := wr_10 _ (List.mem_of_getElem? (i := 9) rfl)
theorem wd_10_10 : Cond.selects RX7 yX7_outdate yX7_outdate ∈ wsL_law := wr_10 _ (List.mem_of_getElem? (i := 10) rfl)
theorem wd_10_11 : Cond.code yX7_outdate cX7_outdate 1 none ∈ wsL_law := wr_10 _ (List.mem_of_getElem? (i := 11) rfl)
theorem wd_10_12 : Cond.fieldLink RX7 354 "MarketSpring$Days" "known" "Z" ∈ wsL_law := wr_10 _ (List.mem_of_getElem? (i := 12) rfl)
theorem wd_10_13 : Cond.fieldLink RX7 212 "MarketSpring$Plan" "known" "Z" ∈ wsL_law := wr_10 _ (List.mem_of_getElem? (i := 13) rfl)
theorem wd_10_14 : Cond.fieldLink RX7 242 "MarketSpring$Watch" "known" "Z" ∈ wsL_law := wr_10 _ (List.mem_of_getElem? (i := 14) rfl)
theorem wd_10_15 : Cond.methodLink RL 17 yX8_type ∈ wsL_law := wr_10 _ (List.mem_of_getElem? (i := 15) rfl)
theorem wd_10_16 : Cond.instanceMethod yX8_type ∈ wsL_law := wr_10 _ (List.mem_of_getElem? (i := 16) rfl)
theorem wd_10_17 : Cond.selects RX8 yX8_type yX8_type ∈ wsL_law := wr_10 _ (List.mem_of_getElem? (i := 17) rfl)
theorem wd_10_18 : Cond.code yX8_type cX8_type 2 (some .int) ∈ wsL_law := wr_10 _ (List.mem_of_getElem? (i := 18) rfl)
theorem wd_10_19 : Cond.fieldLink RX8 99 "MarketSpringModel" "typed" "I" ∈ wsL_law := wr_10 _ (List.mem_of_getElem? (i := 19) rfl)
theorem wd_10_20 : Cond.methodLink RX8 95 yX8_in ∈ wsL_law := wr_10 _ (List.mem_of_getElem? (i := 20) rfl)
theorem wd_10_21 : Cond.static yX8_in ∈ wsL_law := wr_10 _ (List.mem_of_getElem? (i := 21) rfl)
theorem wd_10_22 : Cond.code yX8_in cX8_in 3 (some .boolean) ∈ wsL_law := wr_10 _ (List.mem_of_getElem? (i := 22) rfl)
theorem wd_10_23 : Cond.methodLink RL 18 yX7_wipe ∈ wsL_law := wr_10 _ (List.mem_of_getElem? (i := 23) rfl)
theorem wd_11_0 : Cond.instanceMethod yX7_wipe ∈ wsL_law := wr_11 _ (List.mem_of_getElem? (i := 0) rfl)
theorem wd_11_1 : Cond.selects RX7 yX7_wipe yX7_wipe ∈ wsL_law := wr_11 _ (List.mem_of_getElem? (i := 1) rfl)
theorem wd_11_2 : Cond.code yX7_wipe cX7_wipe 2 (some .int) ∈ wsL_law := wr_11 _ (List.mem_of_getElem? (i := 2) rfl)
theorem wd_11_3 : Cond.methodLink RL 22 yX8_wipe ∈ wsL_law := wr_11 _ (List.mem_of_getElem? (i := 3) rfl)
theorem wd_11_4 : Cond.instanceMethod yX8_wipe ∈ wsL_law := wr_11 _ (List.mem_of_getElem? (i := 4) rfl)
theorem wd_11_5 : Cond.selects RX8 yX8_wipe yX8_wipe ∈ wsL_law := wr_11 _ (List.mem_of_getElem? (i := 5) rfl)
theorem wd_11_6 : Cond.code yX8_wipe cX8_wipe 2 (some .int) ∈ wsL_law := wr_11 _ (List.mem_of_getElem? (i := 6) rfl)
theorem wd_11_7 : Cond.methodLink RL 23 yX7_fault ∈ wsL_law := wr_11 _ (List.mem_of_getElem? (i := 7) rfl)
theorem wd_11_8 : Cond.instanceMethod yX7_fault ∈ wsL_law := wr_11 _ (List.mem_of_getElem? (i := 8) rfl)
theorem wd_11_9 : Cond.selects RX7 yX7_fault yX7_fault ∈ wsL_law := wr_11 _ (List.mem_of_getElem? (i := 9) rfl)
theorem wd_11_10 : Cond.code yX7_fault cX7_fault 1 (some .int) ∈ wsL_law := wr_11 _ (List.mem_of_getElem? (i := 10) rfl)
theorem wd_11_11 : Cond.fieldLink RX7 99 "MarketSpring$Town" "faultAt" "I" ∈ wsL_law := wr_11 _ (List.mem_of_getElem? (i := 11) rfl)
theorem wd_11_12 : Cond.methodLink RL 26 yX8_fault ∈ wsL_law := wr_11 _ (List.mem_of_getElem? (i := 12) rfl)
theorem wd_11_13 : Cond.instanceMethod yX8_fault ∈ wsL_law := wr_11 _ (List.mem_of_getElem? (i := 13) rfl)
theorem wd_11_14 : Cond.selects RX8 yX8_fault yX8_fault ∈ wsL_law := wr_11 _ (List.mem_of_getElem? (i := 14) rfl)
theorem wd_11_15 : Cond.code yX8_fault cX8_fault 1 (some .int) ∈ wsL_law := wr_11 _ (List.mem_of_getElem? (i := 15) rfl)
theorem wd_11_16 : Cond.methodLink RX8 140 yX8_faultNow ∈ wsL_law := wr_11 _ (List.mem_of_getElem? (i := 16) rfl)
theorem wd_11_17 : Cond.instanceMethod yX8_faultNow ∈ wsL_law := wr_11 _ (List.mem_of_getElem? (i := 17) rfl)
theorem wd_11_18 : Cond.selects RX8 yX8_faultNow yX8_faultNow ∈ wsL_law := wr_11 _ (List.mem_of_getElem? (i := 18) rfl)
theorem wd_11_19 : Cond.code yX8_faultNow cX8_faultNow 2 (some .int) ∈ wsL_law := wr_11 _ (List.mem_of_getElem? (i := 19) rfl)
theorem wd_11_20 : Cond.fieldLink RX8 117 "MarketSpringModel" "things" "I" ∈ wsL_law := wr_11 _ (List.mem_of_getElem? (i := 20) rfl)
theorem wd_11_21 : Cond.fieldLink RX8 120 "MarketSpringModel" "handles" "I" ∈ wsL_law := wr_11 _ (List.mem_of_getElem? (i := 21) rfl)
theorem wd_11_22 : Cond.fieldLink RX8 123 "MarketSpringModel" "groups" "I" ∈ wsL_law := wr_11 _ (List.mem_of_getElem? (i := 22) rfl)
theorem wd_11_23 : Cond.methodLink RX8 136 yX8_reads ∈ wsL_law := wr_11 _ (List.mem_of_getElem? (i := 23) rfl)
theorem wd_12_0 : Cond.instanceMethod yX8_reads ∈ wsL_law := wr_12 _ (List.mem_of_getElem? (i := 0) rfl)
theorem wd_12_1 : Cond.selects RX8 yX8_reads yX8_reads ∈ wsL_law := wr_12 _ (List.mem_of_getElem? (i := 1) rfl)
theorem wd_12_2 : Cond.code yX8_reads cX8_reads 5 (some .int) ∈ wsL_law := wr_12 _ (List.mem_of_getElem? (i := 2) rfl)
theorem wd_12_3 : Cond.methodLink RX8 103 yX8_byteAt ∈ wsL_law := wr_12 _ (List.mem_of_getElem? (i := 3) rfl)
theorem wd_12_4 : Cond.instanceMethod yX8_byteAt ∈ wsL_law := wr_12 _ (List.mem_of_getElem? (i := 4) rfl)
theorem wd_12_5 : Cond.selects RX8 yX8_byteAt yX8_byteAt ∈ wsL_law := wr_12 _ (List.mem_of_getElem? (i := 5) rfl)
theorem wd_12_6 : Cond.code yX8_byteAt cX8_byteAt 2 (some .int) ∈ wsL_law := wr_12 _ (List.mem_of_getElem? (i := 6) rfl)
theorem wd_12_7 : Cond.methodLink RX8 126 yX8_wrongThing ∈ wsL_law := wr_12 _ (List.mem_of_getElem? (i := 7) rfl)
theorem wd_12_8 : Cond.instanceMethod yX8_wrongThing ∈ wsL_law := wr_12 _ (List.mem_of_getElem? (i := 8) rfl)
theorem wd_12_9 : Cond.selects RX8 yX8_wrongThing yX8_wrongThing ∈ wsL_law := wr_12 _ (List.mem_of_getElem? (i := 9) rfl)
theorem wd_12_10 : Cond.code yX8_wrongThing cX8_wrongThing 4 (some .int) ∈ wsL_law := wr_12 _ (List.mem_of_getElem? (i := 10) rfl)
theorem wd_12_11 : Cond.methodLink RX8 113 yX8_wrongAt ∈ wsL_law := wr_12 _ (List.mem_of_getElem? (i := 11) rfl)
theorem wd_12_12 : Cond.instanceMethod yX8_wrongAt ∈ wsL_law := wr_12 _ (List.mem_of_getElem? (i := 12) rfl)
theorem wd_12_13 : Cond.selects RX8 yX8_wrongAt yX8_wrongAt ∈ wsL_law := wr_12 _ (List.mem_of_getElem? (i := 13) rfl)
theorem wd_12_14 : Cond.code yX8_wrongAt cX8_wrongAt 4 (some .int) ∈ wsL_law := wr_12 _ (List.mem_of_getElem? (i := 14) rfl)
theorem wd_12_15 : Cond.methodLink RX8 107 yX8_figureAt ∈ wsL_law := wr_12 _ (List.mem_of_getElem? (i := 15) rfl)
theorem wd_12_16 : Cond.instanceMethod yX8_figureAt ∈ wsL_law := wr_12 _ (List.mem_of_getElem? (i := 16) rfl)
theorem wd_12_17 : Cond.selects RX8 yX8_figureAt yX8_figureAt ∈ wsL_law := wr_12 _ (List.mem_of_getElem? (i := 17) rfl)
theorem wd_12_18 : Cond.code yX8_figureAt cX8_figureAt 3 (some .int) ∈ wsL_law := wr_12 _ (List.mem_of_getElem? (i := 18) rfl)
theorem wd_12_19 : Cond.methodLink RX8 110 yX8_numberAt ∈ wsL_law := wr_12 _ (List.mem_of_getElem? (i := 19) rfl)
theorem wd_12_20 : Cond.instanceMethod yX8_numberAt ∈ wsL_law := wr_12 _ (List.mem_of_getElem? (i := 20) rfl)
theorem wd_12_21 : Cond.selects RX8 yX8_numberAt yX8_numberAt ∈ wsL_law := wr_12 _ (List.mem_of_getElem? (i := 21) rfl)
theorem wd_12_22 : Cond.code yX8_numberAt cX8_numberAt 2 (some .int) ∈ wsL_law := wr_12 _ (List.mem_of_getElem? (i := 22) rfl)
theorem wd_12_23 : Cond.methodLink RX8 129 yX8_isIn ∈ wsL_law := wr_12 _ (List.mem_of_getElem? (i := 23) rfl)
theorem wd_13_0 : Cond.static yX8_isIn ∈ wsL_law := wr_13 _ (List.mem_of_getElem? (i := 0) rfl)
theorem wd_13_1 : Cond.code yX8_isIn cX8_isIn 2 (some .boolean) ∈ wsL_law := wr_13 _ (List.mem_of_getElem? (i := 1) rfl)
theorem wd_13_2 : Cond.methodLink RX8 133 yX8_wrongGroup ∈ wsL_law := wr_13 _ (List.mem_of_getElem? (i := 2) rfl)
theorem wd_13_3 : Cond.instanceMethod yX8_wrongGroup ∈ wsL_law := wr_13 _ (List.mem_of_getElem? (i := 3) rfl)
theorem wd_13_4 : Cond.selects RX8 yX8_wrongGroup yX8_wrongGroup ∈ wsL_law := wr_13 _ (List.mem_of_getElem? (i := 4) rfl)
theorem wd_13_5 : Cond.code yX8_wrongGroup cX8_wrongGroup 4 (some .int) ∈ wsL_law := wr_13 _ (List.mem_of_getElem? (i := 5) rfl)
theorem wd_13_6 : Cond.methodLink RL 27 yX7_thing ∈ wsL_law := wr_13 _ (List.mem_of_getElem? (i := 6) rfl)
theorem wd_13_7 : Cond.instanceMethod yX7_thing ∈ wsL_law := wr_13 _ (List.mem_of_getElem? (i := 7) rfl)
theorem wd_13_8 : Cond.selects RX7 yX7_thing yX7_thing ∈ wsL_law := wr_13 _ (List.mem_of_getElem? (i := 8) rfl)
theorem wd_13_9 : Cond.code yX7_thing cX7_thing 3 (some .int) ∈ wsL_law := wr_13 _ (List.mem_of_getElem? (i := 9) rfl)
theorem wd_13_10 : Cond.methodLink RX7 102 yX4_hasThing ∈ wsL_law := wr_13 _ (List.mem_of_getElem? (i := 10) rfl)
theorem wd_13_11 : Cond.instanceMethod yX4_hasThing ∈ wsL_law := wr_13 _ (List.mem_of_getElem? (i := 11) rfl)
theorem wd_13_12 : Cond.selects RX4 yX4_hasThing yX4_hasThing ∈ wsL_law := wr_13 _ (List.mem_of_getElem? (i := 12) rfl)
theorem wd_13_13 : Cond.code yX4_hasThing cX4_hasThing 2 (some .boolean) ∈ wsL_law := wr_13 _ (List.mem_of_getElem? (i := 13) rfl)
theorem wd_13_14 : Cond.methodLink RX7 106 yX7_bit ∈ wsL_law := wr_13 _ (List.mem_of_getElem? (i := 14) rfl)
theorem wd_13_15 : Cond.methodLink RX7 110 yX4_ofThing ∈ wsL_law := wr_13 _ (List.mem_of_getElem? (i := 15) rfl)
theorem wd_13_16 : Cond.instanceMethod yX4_ofThing ∈ wsL_law := wr_13 _ (List.mem_of_getElem? (i := 16) rfl)
theorem wd_13_17 : Cond.selects RX4 yX4_ofThing yX4_ofThing ∈ wsL_law := wr_13 _ (List.mem_of_getElem? (i := 17) rfl)
theorem wd_13_18 : Cond.code yX4_ofThing cX4_ofThing 3 (some .int) ∈ wsL_law := wr_13 _ (List.mem_of_getElem? (i := 18) rfl)
theorem wd_13_19 : Cond.methodLink RL 31 yX8_thing ∈ wsL_law := wr_13 _ (List.mem_of_getElem? (i := 19) rfl)
theorem wd_13_20 : Cond.instanceMethod yX8_thing ∈ wsL_law := wr_13 _ (List.mem_of_getElem? (i := 20) rfl)
theorem wd_13_21 : Cond.selects RX8 yX8_thing yX8_thing ∈ wsL_law := wr_13 _ (List.mem_of_getElem? (i := 21) rfl)
theorem wd_13_22 : Cond.code yX8_thing cX8_thing 3 (some .int) ∈ wsL_law := wr_13 _ (List.mem_of_getElem? (i := 22) rfl)
theorem wd_13_23 : Cond.methodLink RX8 143 yX8_isThing ∈ wsL_law := wr_13 _ (List.mem_of_getElem? (i := 23) rfl)
theorem wd_14_0 : Cond.instanceMethod yX8_isThing ∈ wsL_law := wr_14 _ (List.mem_of_getElem? (i := 0) rfl)
theorem wd_14_1 : Cond.selects RX8 yX8_isThing yX8_isThing ∈ wsL_law := wr_14 _ (List.mem_of_getElem? (i := 1) rfl)
theorem wd_14_2 : Cond.code yX8_isThing cX8_isThing 3 (some .boolean) ∈ wsL_law := wr_14 _ (List.mem_of_getElem? (i := 2) rfl)
theorem wd_14_3 : Cond.methodLink RX8 147 yX8_thingOf ∈ wsL_law := wr_14 _ (List.mem_of_getElem? (i := 3) rfl)
theorem wd_14_4 : Cond.instanceMethod yX8_thingOf ∈ wsL_law := wr_14 _ (List.mem_of_getElem? (i := 4) rfl)
theorem wd_14_5 : Cond.selects RX8 yX8_thingOf yX8_thingOf ∈ wsL_law := wr_14 _ (List.mem_of_getElem? (i := 5) rfl)
theorem wd_14_6 : Cond.code yX8_thingOf cX8_thingOf 3 (some .int) ∈ wsL_law := wr_14 _ (List.mem_of_getElem? (i := 6) rfl)
theorem wd_14_7 : Cond.methodLink RL 32 yX7_handle ∈ wsL_law := wr_14 _ (List.mem_of_getElem? (i := 7) rfl)
theorem wd_14_8 : Cond.instanceMethod yX7_handle ∈ wsL_law := wr_14 _ (List.mem_of_getElem? (i := 8) rfl)
theorem wd_14_9 : Cond.selects RX7 yX7_handle yX7_handle ∈ wsL_law := wr_14 _ (List.mem_of_getElem? (i := 9) rfl)
theorem wd_14_10 : Cond.code yX7_handle cX7_handle 2 (some .int) ∈ wsL_law := wr_14 _ (List.mem_of_getElem? (i := 10) rfl)
theorem wd_14_11 : Cond.fieldLink RX7 113 "MarketSpring$Town" "handleBits" "I" ∈ wsL_law := wr_14 _ (List.mem_of_getElem? (i := 11) rfl)
theorem wd_14_12 : Cond.methodLink RL 35 yX8_handle ∈ wsL_law := wr_14 _ (List.mem_of_getElem? (i := 12) rfl)
theorem wd_14_13 : Cond.instanceMethod yX8_handle ∈ wsL_law := wr_14 _ (List.mem_of_getElem? (i := 13) rfl)
theorem wd_14_14 : Cond.selects RX8 yX8_handle yX8_handle ∈ wsL_law := wr_14 _ (List.mem_of_getElem? (i := 14) rfl)
theorem wd_14_15 : Cond.code yX8_handle cX8_handle 2 (some .int) ∈ wsL_law := wr_14 _ (List.mem_of_getElem? (i := 15) rfl)
theorem wd_14_16 : Cond.methodLink RX8 151 yX8_handleOf ∈ wsL_law := wr_14 _ (List.mem_of_getElem? (i := 16) rfl)
theorem wd_14_17 : Cond.instanceMethod yX8_handleOf ∈ wsL_law := wr_14 _ (List.mem_of_getElem? (i := 17) rfl)
theorem wd_14_18 : Cond.selects RX8 yX8_handleOf yX8_handleOf ∈ wsL_law := wr_14 _ (List.mem_of_getElem? (i := 18) rfl)
theorem wd_14_19 : Cond.code yX8_handleOf cX8_handleOf 3 (some .int) ∈ wsL_law := wr_14 _ (List.mem_of_getElem? (i := 19) rfl)
theorem wd_14_20 : Cond.methodLink RL 36 yX7_group ∈ wsL_law := wr_14 _ (List.mem_of_getElem? (i := 20) rfl)
theorem wd_14_21 : Cond.instanceMethod yX7_group ∈ wsL_law := wr_14 _ (List.mem_of_getElem? (i := 21) rfl)
theorem wd_14_22 : Cond.selects RX7 yX7_group yX7_group ∈ wsL_law := wr_14 _ (List.mem_of_getElem? (i := 22) rfl)
theorem wd_14_23 : Cond.code yX7_group cX7_group 3 (some .int) ∈ wsL_law := wr_14 _ (List.mem_of_getElem? (i := 23) rfl)
theorem wd_15_0 : Cond.methodLink RX7 116 yX4_hasGroup ∈ wsL_law := wr_15 _ (List.mem_of_getElem? (i := 0) rfl)
theorem wd_15_1 : Cond.instanceMethod yX4_hasGroup ∈ wsL_law := wr_15 _ (List.mem_of_getElem? (i := 1) rfl)
theorem wd_15_2 : Cond.selects RX4 yX4_hasGroup yX4_hasGroup ∈ wsL_law := wr_15 _ (List.mem_of_getElem? (i := 2) rfl)
theorem wd_15_3 : Cond.code yX4_hasGroup cX4_hasGroup 2 (some .boolean) ∈ wsL_law := wr_15 _ (List.mem_of_getElem? (i := 3) rfl)
theorem wd_15_4 : Cond.methodLink RX7 119 yX4_ofGroup ∈ wsL_law := wr_15 _ (List.mem_of_getElem? (i := 4) rfl)
theorem wd_15_5 : Cond.instanceMethod yX4_ofGroup ∈ wsL_law := wr_15 _ (List.mem_of_getElem? (i := 5) rfl)
theorem wd_15_6 : Cond.selects RX4 yX4_ofGroup yX4_ofGroup ∈ wsL_law := wr_15 _ (List.mem_of_getElem? (i := 6) rfl)
theorem wd_15_7 : Cond.code yX4_ofGroup cX4_ofGroup 3 (some .int) ∈ wsL_law := wr_15 _ (List.mem_of_getElem? (i := 7) rfl)
theorem wd_15_8 : Cond.methodLink RL 39 yX8_group ∈ wsL_law := wr_15 _ (List.mem_of_getElem? (i := 8) rfl)
theorem wd_15_9 : Cond.instanceMethod yX8_group ∈ wsL_law := wr_15 _ (List.mem_of_getElem? (i := 9) rfl)
theorem wd_15_10 : Cond.selects RX8 yX8_group yX8_group ∈ wsL_law := wr_15 _ (List.mem_of_getElem? (i := 10) rfl)
theorem wd_15_11 : Cond.code yX8_group cX8_group 3 (some .int) ∈ wsL_law := wr_15 _ (List.mem_of_getElem? (i := 11) rfl)
theorem wd_15_12 : Cond.methodLink RX8 154 yX8_isGroup ∈ wsL_law := wr_15 _ (List.mem_of_getElem? (i := 12) rfl)
theorem wd_15_13 : Cond.instanceMethod yX8_isGroup ∈ wsL_law := wr_15 _ (List.mem_of_getElem? (i := 13) rfl)
theorem wd_15_14 : Cond.selects RX8 yX8_isGroup yX8_isGroup ∈ wsL_law := wr_15 _ (List.mem_of_getElem? (i := 14) rfl)
theorem wd_15_15 : Cond.code yX8_isGroup cX8_isGroup 3 (some .boolean) ∈ wsL_law := wr_15 _ (List.mem_of_getElem? (i := 15) rfl)
theorem wd_15_16 : Cond.methodLink RL 40 yX7_set ∈ wsL_law := wr_15 _ (List.mem_of_getElem? (i := 16) rfl)
theorem wd_15_17 : Cond.instanceMethod yX7_set ∈ wsL_law := wr_15 _ (List.mem_of_getElem? (i := 17) rfl)
theorem wd_15_18 : Cond.selects RX7 yX7_set yX7_set ∈ wsL_law := wr_15 _ (List.mem_of_getElem? (i := 18) rfl)
theorem wd_15_19 : Cond.code yX7_set cX7_set 4 (some .int) ∈ wsL_law := wr_15 _ (List.mem_of_getElem? (i := 19) rfl)
theorem wd_15_20 : Cond.fieldLink RX7 122 "MarketSpring" "SETTING_LEAST" "[I" ∈ wsL_law := wr_15 _ (List.mem_of_getElem? (i := 20) rfl)
theorem wd_15_21 : Cond.fieldLink RX7 125 "MarketSpring" "SETTING_MOST" "[I" ∈ wsL_law := wr_15 _ (List.mem_of_getElem? (i := 21) rfl)
theorem wd_15_22 : Cond.methodLink RL 43 yX8_set ∈ wsL_law := wr_15 _ (List.mem_of_getElem? (i := 22) rfl)
theorem wd_15_23 : Cond.instanceMethod yX8_set ∈ wsL_law := wr_15 _ (List.mem_of_getElem? (i := 23) rfl)
theorem wd_16_0 : Cond.selects RX8 yX8_set yX8_set ∈ wsL_law := wr_16 _ (List.mem_of_getElem? (i := 0) rfl)
theorem wd_16_1 : Cond.code yX8_set cX8_set 4 (some .int) ∈ wsL_law := wr_16 _ (List.mem_of_getElem? (i := 1) rfl)
theorem wd_16_2 : Cond.methodLink RX8 157 yX8_mostOf ∈ wsL_law := wr_16 _ (List.mem_of_getElem? (i := 2) rfl)
theorem wd_16_3 : Cond.static yX8_mostOf ∈ wsL_law := wr_16 _ (List.mem_of_getElem? (i := 3) rfl)
theorem wd_16_4 : Cond.code yX8_mostOf cX8_mostOf 1 (some .int) ∈ wsL_law := wr_16 _ (List.mem_of_getElem? (i := 4) rfl)
theorem wd_16_5 : Cond.methodLink RL 44 yX7_shut ∈ wsL_law := wr_16 _ (List.mem_of_getElem? (i := 5) rfl)
theorem wd_16_6 : Cond.instanceMethod yX7_shut ∈ wsL_law := wr_16 _ (List.mem_of_getElem? (i := 6) rfl)
theorem wd_16_7 : Cond.selects RX7 yX7_shut yX7_shut ∈ wsL_law := wr_16 _ (List.mem_of_getElem? (i := 7) rfl)
theorem wd_16_8 : Cond.code yX7_shut cX7_shut 4 (some .int) ∈ wsL_law := wr_16 _ (List.mem_of_getElem? (i := 8) rfl)
theorem wd_16_9 : Cond.methodLink RL 47 yX8_shut ∈ wsL_law := wr_16 _ (List.mem_of_getElem? (i := 9) rfl)
theorem wd_16_10 : Cond.instanceMethod yX8_shut ∈ wsL_law := wr_16 _ (List.mem_of_getElem? (i := 10) rfl)
theorem wd_16_11 : Cond.selects RX8 yX8_shut yX8_shut ∈ wsL_law := wr_16 _ (List.mem_of_getElem? (i := 11) rfl)
theorem wd_16_12 : Cond.code yX8_shut cX8_shut 4 (some .int) ∈ wsL_law := wr_16 _ (List.mem_of_getElem? (i := 12) rfl)
theorem wd_16_13 : Cond.methodLink RL 48 yX7_shift ∈ wsL_law := wr_16 _ (List.mem_of_getElem? (i := 13) rfl)
theorem wd_16_14 : Cond.instanceMethod yX7_shift ∈ wsL_law := wr_16 _ (List.mem_of_getElem? (i := 14) rfl)
theorem wd_16_15 : Cond.selects RX7 yX7_shift yX7_shift ∈ wsL_law := wr_16 _ (List.mem_of_getElem? (i := 15) rfl)
theorem wd_16_16 : Cond.code yX7_shift cX7_shift 4 (some .int) ∈ wsL_law := wr_16 _ (List.mem_of_getElem? (i := 16) rfl)
theorem wd_16_17 : Cond.methodLink RL 51 yX8_shift ∈ wsL_law := wr_16 _ (List.mem_of_getElem? (i := 17) rfl)
theorem wd_16_18 : Cond.instanceMethod yX8_shift ∈ wsL_law := wr_16 _ (List.mem_of_getElem? (i := 18) rfl)
theorem wd_16_19 : Cond.selects RX8 yX8_shift yX8_shift ∈ wsL_law := wr_16 _ (List.mem_of_getElem? (i := 19) rfl)
theorem wd_16_20 : Cond.code yX8_shift cX8_shift 4 (some .int) ∈ wsL_law := wr_16 _ (List.mem_of_getElem? (i := 20) rfl)
theorem wd_16_21 : Cond.methodLink RL 52 yX7_read ∈ wsL_law := wr_16 _ (List.mem_of_getElem? (i := 21) rfl)
theorem wd_16_22 : Cond.instanceMethod yX7_read ∈ wsL_law := wr_16 _ (List.mem_of_getElem? (i := 22) rfl)
theorem wd_16_23 : Cond.selects RX7 yX7_read yX7_read ∈ wsL_law := wr_16 _ (List.mem_of_getElem? (i := 23) rfl)
theorem wd_17_0 : Cond.code yX7_read cX7_read 5 (some .int) ∈ wsL_law := wr_17 _ (List.mem_of_getElem? (i := 0) rfl)
theorem wd_17_1 : Cond.fieldLink RX7 131 "MarketSpring$Sheet" "gone" "Z" ∈ wsL_law := wr_17 _ (List.mem_of_getElem? (i := 1) rfl)
theorem wd_17_2 : Cond.fieldLink RX7 139 "MarketSpring$Sheet" "size" "I" ∈ wsL_law := wr_17 _ (List.mem_of_getElem? (i := 2) rfl)
theorem wd_17_3 : Cond.methodLink RX7 142 Lib.Math.min.name ∈ wsL_law := wr_17 _ (List.mem_of_getElem? (i := 3) rfl)
theorem wd_17_4 : Cond.static Lib.Math.min.name ∈ wsL_law := wr_17 _ (List.mem_of_getElem? (i := 4) rfl)
theorem wd_17_5 : Cond.initialized "java/lang/Math" ∈ wsL_law := wr_17 _ (List.mem_of_getElem? (i := 5) rfl)
theorem wd_17_6 : Cond.code Lib.Math.min.name Lib.Math.min.code 2 (some .int) ∈ wsL_law := wr_17 _ (List.mem_of_getElem? (i := 6) rfl)
theorem wd_17_7 : Cond.fieldLink RX7 147 "MarketSpring$Sheet" "items" "[I" ∈ wsL_law := wr_17 _ (List.mem_of_getElem? (i := 7) rfl)
theorem wd_17_8 : Cond.methodLink RX7 128 yX7_isSheet ∈ wsL_law := wr_17 _ (List.mem_of_getElem? (i := 8) rfl)
theorem wd_17_9 : Cond.static yX7_isSheet ∈ wsL_law := wr_17 _ (List.mem_of_getElem? (i := 9) rfl)
theorem wd_17_10 : Cond.code yX7_isSheet cX7_isSheet 1 (some .boolean) ∈ wsL_law := wr_17 _ (List.mem_of_getElem? (i := 10) rfl)
theorem wd_17_11 : Cond.methodLink RX7 135 yX7_find ∈ wsL_law := wr_17 _ (List.mem_of_getElem? (i := 11) rfl)
theorem wd_17_12 : Cond.instanceMethod yX7_find ∈ wsL_law := wr_17 _ (List.mem_of_getElem? (i := 12) rfl)
theorem wd_17_13 : Cond.selects RX7 yX7_find yX7_find ∈ wsL_law := wr_17 _ (List.mem_of_getElem? (i := 13) rfl)
theorem wd_17_14 : Cond.code yX7_find cX7_find 2 (some .int) ∈ wsL_law := wr_17 _ (List.mem_of_getElem? (i := 14) rfl)
theorem wd_17_15 : Cond.methodLink RL 55 yX8_read ∈ wsL_law := wr_17 _ (List.mem_of_getElem? (i := 15) rfl)
theorem wd_17_16 : Cond.instanceMethod yX8_read ∈ wsL_law := wr_17 _ (List.mem_of_getElem? (i := 16) rfl)
theorem wd_17_17 : Cond.selects RX8 yX8_read yX8_read ∈ wsL_law := wr_17 _ (List.mem_of_getElem? (i := 17) rfl)
theorem wd_17_18 : Cond.code yX8_read cX8_read 3 (some .int) ∈ wsL_law := wr_17 _ (List.mem_of_getElem? (i := 18) rfl)
theorem wd_17_19 : Cond.methodLink RX8 160 yX8_isSheet ∈ wsL_law := wr_17 _ (List.mem_of_getElem? (i := 19) rfl)
theorem wd_17_20 : Cond.static yX8_isSheet ∈ wsL_law := wr_17 _ (List.mem_of_getElem? (i := 20) rfl)
theorem wd_17_21 : Cond.code yX8_isSheet cX8_isSheet 1 (some .boolean) ∈ wsL_law := wr_17 _ (List.mem_of_getElem? (i := 21) rfl)
theorem wd_17_22 : Cond.methodLink RX8 163 yX8_meets ∈ wsL_law := wr_17 _ (List.mem_of_getElem? (i := 22) rfl)
theorem wd_17_23 : Cond.instanceMethod yX8_meets ∈ wsL_law := wr_17 _ (List.mem_of_getElem? (i := 23) rfl)
theorem wd_18_0 : Cond.selects RX8 yX8_meets yX8_meets ∈ wsL_law := wr_18 _ (List.mem_of_getElem? (i := 0) rfl)
theorem wd_18_1 : Cond.code yX8_meets cX8_meets 2 (some .int) ∈ wsL_law := wr_18 _ (List.mem_of_getElem? (i := 1) rfl)
theorem wd_18_2 : Cond.fieldLink RX8 248 "MarketSpringModel" "finding" "I" ∈ wsL_law := wr_18 _ (List.mem_of_getElem? (i := 2) rfl)
theorem wd_18_3 : Cond.methodLink RL 56 yX7_goes ∈ wsL_law := wr_18 _ (List.mem_of_getElem? (i := 3) rfl)
theorem wd_18_4 : Cond.instanceMethod yX7_goes ∈ wsL_law := wr_18 _ (List.mem_of_getElem? (i := 4) rfl)
theorem wd_18_5 : Cond.selects RX7 yX7_goes yX7_goes ∈ wsL_law := wr_18 _ (List.mem_of_getElem? (i := 5) rfl)
theorem wd_18_6 : Cond.code yX7_goes cX7_goes 3 (some .int) ∈ wsL_law := wr_18 _ (List.mem_of_getElem? (i := 6) rfl)
theorem wd_18_7 : Cond.methodLink RX7 150 yX6_sideOf ∈ wsL_law := wr_18 _ (List.mem_of_getElem? (i := 7) rfl)
theorem wd_18_8 : Cond.instanceMethod yX6_sideOf ∈ wsL_law := wr_18 _ (List.mem_of_getElem? (i := 8) rfl)
theorem wd_18_9 : Cond.selects RX6 yX6_sideOf yX6_sideOf ∈ wsL_law := wr_18 _ (List.mem_of_getElem? (i := 9) rfl)
theorem wd_18_10 : Cond.code yX6_sideOf cX6_sideOf 8 (some .int) ∈ wsL_law := wr_18 _ (List.mem_of_getElem? (i := 10) rfl)
theorem wd_18_11 : Cond.methodLink RX6 19 yX4_ofGroup ∈ wsL_law := wr_18 _ (List.mem_of_getElem? (i := 11) rfl)
theorem wd_18_12 : Cond.methodLink RL 59 yX8_goes ∈ wsL_law := wr_18 _ (List.mem_of_getElem? (i := 12) rfl)
theorem wd_18_13 : Cond.instanceMethod yX8_goes ∈ wsL_law := wr_18 _ (List.mem_of_getElem? (i := 13) rfl)
theorem wd_18_14 : Cond.selects RX8 yX8_goes yX8_goes ∈ wsL_law := wr_18 _ (List.mem_of_getElem? (i := 14) rfl)
theorem wd_18_15 : Cond.code yX8_goes cX8_goes 2 (some .int) ∈ wsL_law := wr_18 _ (List.mem_of_getElem? (i := 15) rfl)
theorem wd_18_16 : Cond.methodLink RX8 172 yX8_goesOf ∈ wsL_law := wr_18 _ (List.mem_of_getElem? (i := 16) rfl)
theorem wd_18_17 : Cond.instanceMethod yX8_goesOf ∈ wsL_law := wr_18 _ (List.mem_of_getElem? (i := 17) rfl)
theorem wd_18_18 : Cond.selects RX8 yX8_goesOf yX8_goesOf ∈ wsL_law := wr_18 _ (List.mem_of_getElem? (i := 18) rfl)
theorem wd_18_19 : Cond.code yX8_goesOf cX8_goesOf 2 (some .int) ∈ wsL_law := wr_18 _ (List.mem_of_getElem? (i := 19) rfl)
theorem wd_18_20 : Cond.methodLink RX8 169 yX8_wayOf ∈ wsL_law := wr_18 _ (List.mem_of_getElem? (i := 20) rfl)
theorem wd_18_21 : Cond.instanceMethod yX8_wayOf ∈ wsL_law := wr_18 _ (List.mem_of_getElem? (i := 21) rfl)
theorem wd_18_22 : Cond.selects RX8 yX8_wayOf yX8_wayOf ∈ wsL_law := wr_18 _ (List.mem_of_getElem? (i := 22) rfl)
theorem wd_18_23 : Cond.code yX8_wayOf cX8_wayOf 5 (some .int) ∈ wsL_law := wr_18 _ (List.mem_of_getElem? (i := 23) rfl)
theorem wd_19_0 : Cond.methodLink RX8 166 yX8_costOf ∈ wsL_law := wr_19 _ (List.mem_of_getElem? (i := 0) rfl)
theorem wd_19_1 : Cond.instanceMethod yX8_costOf ∈ wsL_law := wr_19 _ (List.mem_of_getElem? (i := 1) rfl)
theorem wd_19_2 : Cond.selects RX8 yX8_costOf yX8_costOf ∈ wsL_law := wr_19 _ (List.mem_of_getElem? (i := 2) rfl)
theorem wd_19_3 : Cond.code yX8_costOf cX8_costOf 3 (some .int) ∈ wsL_law := wr_19 _ (List.mem_of_getElem? (i := 3) rfl)
theorem wd_19_4 : Cond.methodLink RL 60 yX7_toil ∈ wsL_law := wr_19 _ (List.mem_of_getElem? (i := 4) rfl)
theorem wd_19_5 : Cond.instanceMethod yX7_toil ∈ wsL_law := wr_19 _ (List.mem_of_getElem? (i := 5) rfl)
theorem wd_19_6 : Cond.selects RX7 yX7_toil yX7_toil ∈ wsL_law := wr_19 _ (List.mem_of_getElem? (i := 6) rfl)
theorem wd_19_7 : Cond.code yX7_toil cX7_toil 2 (some .int) ∈ wsL_law := wr_19 _ (List.mem_of_getElem? (i := 7) rfl)
theorem wd_19_8 : Cond.methodLink RX7 154 yX6_costOfAll ∈ wsL_law := wr_19 _ (List.mem_of_getElem? (i := 8) rfl)
theorem wd_19_9 : Cond.instanceMethod yX6_costOfAll ∈ wsL_law := wr_19 _ (List.mem_of_getElem? (i := 9) rfl)
theorem wd_19_10 : Cond.selects RX6 yX6_costOfAll yX6_costOfAll ∈ wsL_law := wr_19 _ (List.mem_of_getElem? (i := 10) rfl)
theorem wd_19_11 : Cond.code yX6_costOfAll cX6_costOfAll 8 (some .int) ∈ wsL_law := wr_19 _ (List.mem_of_getElem? (i := 11) rfl)
theorem wd_19_12 : Cond.fieldLink RX6 28 "MarketSpring$Town" "groups" "I" ∈ wsL_law := wr_19 _ (List.mem_of_getElem? (i := 12) rfl)
theorem wd_19_13 : Cond.methodLink RX6 32 yX6_sideOf ∈ wsL_law := wr_19 _ (List.mem_of_getElem? (i := 13) rfl)
theorem wd_19_14 : Cond.methodLink RL 63 yX8_toil ∈ wsL_law := wr_19 _ (List.mem_of_getElem? (i := 14) rfl)
theorem wd_19_15 : Cond.instanceMethod yX8_toil ∈ wsL_law := wr_19 _ (List.mem_of_getElem? (i := 15) rfl)
theorem wd_19_16 : Cond.selects RX8 yX8_toil yX8_toil ∈ wsL_law := wr_19 _ (List.mem_of_getElem? (i := 16) rfl)
theorem wd_19_17 : Cond.code yX8_toil cX8_toil 2 (some .int) ∈ wsL_law := wr_19 _ (List.mem_of_getElem? (i := 17) rfl)
theorem wd_19_18 : Cond.methodLink RX8 175 yX8_toilOf ∈ wsL_law := wr_19 _ (List.mem_of_getElem? (i := 18) rfl)
theorem wd_19_19 : Cond.instanceMethod yX8_toilOf ∈ wsL_law := wr_19 _ (List.mem_of_getElem? (i := 19) rfl)
theorem wd_19_20 : Cond.selects RX8 yX8_toilOf yX8_toilOf ∈ wsL_law := wr_19 _ (List.mem_of_getElem? (i := 20) rfl)
theorem wd_19_21 : Cond.code yX8_toilOf cX8_toilOf 5 (some .int) ∈ wsL_law := wr_19 _ (List.mem_of_getElem? (i := 21) rfl)
theorem wd_19_22 : Cond.methodLink RL 64 yX7_wound ∈ wsL_law := wr_19 _ (List.mem_of_getElem? (i := 22) rfl)
theorem wd_19_23 : Cond.instanceMethod yX7_wound ∈ wsL_law := wr_19 _ (List.mem_of_getElem? (i := 23) rfl)
theorem wd_20_0 : Cond.selects RX7 yX7_wound yX7_wound ∈ wsL_law := wr_20 _ (List.mem_of_getElem? (i := 0) rfl)
theorem wd_20_1 : Cond.code yX7_wound cX7_wound 2 (some .int) ∈ wsL_law := wr_20 _ (List.mem_of_getElem? (i := 1) rfl)
theorem wd_20_2 : Cond.methodLink RX7 157 yX6_windingOf ∈ wsL_law := wr_20 _ (List.mem_of_getElem? (i := 2) rfl)
theorem wd_20_3 : Cond.instanceMethod yX6_windingOf ∈ wsL_law := wr_20 _ (List.mem_of_getElem? (i := 3) rfl)
theorem wd_20_4 : Cond.selects RX6 yX6_windingOf yX6_windingOf ∈ wsL_law := wr_20 _ (List.mem_of_getElem? (i := 4) rfl)
theorem wd_20_5 : Cond.code yX6_windingOf cX6_windingOf 5 (some .int) ∈ wsL_law := wr_20 _ (List.mem_of_getElem? (i := 5) rfl)
theorem wd_20_6 : Cond.methodLink RX6 36 yX6_windingOfGroup ∈ wsL_law := wr_20 _ (List.mem_of_getElem? (i := 6) rfl)
theorem wd_20_7 : Cond.instanceMethod yX6_windingOfGroup ∈ wsL_law := wr_20 _ (List.mem_of_getElem? (i := 7) rfl)
theorem wd_20_8 : Cond.selects RX6 yX6_windingOfGroup yX6_windingOfGroup ∈ wsL_law := wr_20 _ (List.mem_of_getElem? (i := 8) rfl)
theorem wd_20_9 : Cond.code yX6_windingOfGroup cX6_windingOfGroup 5 (some .int) ∈ wsL_law := wr_20 _ (List.mem_of_getElem? (i := 9) rfl)
theorem wd_20_10 : Cond.methodLink RL 67 yX8_wound ∈ wsL_law := wr_20 _ (List.mem_of_getElem? (i := 10) rfl)
theorem wd_20_11 : Cond.instanceMethod yX8_wound ∈ wsL_law := wr_20 _ (List.mem_of_getElem? (i := 11) rfl)
theorem wd_20_12 : Cond.selects RX8 yX8_wound yX8_wound ∈ wsL_law := wr_20 _ (List.mem_of_getElem? (i := 12) rfl)
theorem wd_20_13 : Cond.code yX8_wound cX8_wound 3 (some .int) ∈ wsL_law := wr_20 _ (List.mem_of_getElem? (i := 13) rfl)
theorem wd_20_14 : Cond.methodLink RX8 178 yX8_woundAt ∈ wsL_law := wr_20 _ (List.mem_of_getElem? (i := 14) rfl)
theorem wd_20_15 : Cond.instanceMethod yX8_woundAt ∈ wsL_law := wr_20 _ (List.mem_of_getElem? (i := 15) rfl)
theorem wd_20_16 : Cond.selects RX8 yX8_woundAt yX8_woundAt ∈ wsL_law := wr_20 _ (List.mem_of_getElem? (i := 16) rfl)
theorem wd_20_17 : Cond.code yX8_woundAt cX8_woundAt 4 (some .int) ∈ wsL_law := wr_20 _ (List.mem_of_getElem? (i := 17) rfl)
theorem wd_20_18 : Cond.methodLink RL 68 yX7_level ∈ wsL_law := wr_20 _ (List.mem_of_getElem? (i := 18) rfl)
theorem wd_20_19 : Cond.instanceMethod yX7_level ∈ wsL_law := wr_20 _ (List.mem_of_getElem? (i := 19) rfl)
theorem wd_20_20 : Cond.selects RX7 yX7_level yX7_level ∈ wsL_law := wr_20 _ (List.mem_of_getElem? (i := 20) rfl)
theorem wd_20_21 : Cond.code yX7_level cX7_level 3 (some .int) ∈ wsL_law := wr_20 _ (List.mem_of_getElem? (i := 21) rfl)
theorem wd_20_22 : Cond.fieldLink RX7 166 "MarketSpring$Days" "levels" "[I" ∈ wsL_law := wr_20 _ (List.mem_of_getElem? (i := 22) rfl)
theorem wd_20_23 : Cond.fieldLink RX7 169 "MarketSpring$Days" "seconds" "[I" ∈ wsL_law := wr_20 _ (List.mem_of_getElem? (i := 23) rfl)
theorem wd_21_0 : Cond.methodLink RX7 160 yX7_isHour ∈ wsL_law := wr_21 _ (List.mem_of_getElem? (i := 0) rfl)
theorem wd_21_1 : Cond.static yX7_isHour ∈ wsL_law := wr_21 _ (List.mem_of_getElem? (i := 1) rfl)
theorem wd_21_2 : Cond.code yX7_isHour cX7_isHour 1 (some .boolean) ∈ wsL_law := wr_21 _ (List.mem_of_getElem? (i := 2) rfl)
theorem wd_21_3 : Cond.methodLink RX7 163 yX7_recordDays ∈ wsL_law := wr_21 _ (List.mem_of_getElem? (i := 3) rfl)
theorem wd_21_4 : Cond.instanceMethod yX7_recordDays ∈ wsL_law := wr_21 _ (List.mem_of_getElem? (i := 4) rfl)
theorem wd_21_5 : Cond.selects RX7 yX7_recordDays yX7_recordDays ∈ wsL_law := wr_21 _ (List.mem_of_getElem? (i := 5) rfl)
theorem wd_21_6 : Cond.code yX7_recordDays cX7_recordDays 1 none ∈ wsL_law := wr_21 _ (List.mem_of_getElem? (i := 6) rfl)
theorem wd_21_7 : Cond.methodLink RX7 198 yX7_makeReady ∈ wsL_law := wr_21 _ (List.mem_of_getElem? (i := 7) rfl)
theorem wd_21_8 : Cond.instanceMethod yX7_makeReady ∈ wsL_law := wr_21 _ (List.mem_of_getElem? (i := 8) rfl)
theorem wd_21_9 : Cond.selects RX7 yX7_makeReady yX7_makeReady ∈ wsL_law := wr_21 _ (List.mem_of_getElem? (i := 9) rfl)
theorem wd_21_10 : Cond.code yX7_makeReady cX7_makeReady 4 none ∈ wsL_law := wr_21 _ (List.mem_of_getElem? (i := 10) rfl)
theorem wd_21_11 : Cond.fieldLink RX7 190 "MarketSpring$Town" "things" "I" ∈ wsL_law := wr_21 _ (List.mem_of_getElem? (i := 11) rfl)
theorem wd_21_12 : Cond.fieldLink RX7 362 "MarketSpring$Spring" "things" "I" ∈ wsL_law := wr_21 _ (List.mem_of_getElem? (i := 12) rfl)
theorem wd_21_13 : Cond.fieldLink RX7 363 "MarketSpring$Spring" "needs" "[I" ∈ wsL_law := wr_21 _ (List.mem_of_getElem? (i := 13) rfl)
theorem wd_21_14 : Cond.fieldLink RX7 366 "MarketSpring$Spring" "hoursOf" "[I" ∈ wsL_law := wr_21 _ (List.mem_of_getElem? (i := 14) rfl)
theorem wd_21_15 : Cond.fieldLink RX7 371 "MarketSpring$Spring" "gains" "[I" ∈ wsL_law := wr_21 _ (List.mem_of_getElem? (i := 15) rfl)
theorem wd_21_16 : Cond.methodLink RX7 358 yX3_take ∈ wsL_law := wr_21 _ (List.mem_of_getElem? (i := 16) rfl)
theorem wd_21_17 : Cond.instanceMethod yX3_take ∈ wsL_law := wr_21 _ (List.mem_of_getElem? (i := 17) rfl)
theorem wd_21_18 : Cond.selects RX3 yX3_take yX3_take ∈ wsL_law := wr_21 _ (List.mem_of_getElem? (i := 18) rfl)
theorem wd_21_19 : Cond.code yX3_take cX3_take 2 none ∈ wsL_law := wr_21 _ (List.mem_of_getElem? (i := 19) rfl)
theorem wd_21_20 : Cond.methodLink RX3 64 Lib.Math.min.name ∈ wsL_law := wr_21 _ (List.mem_of_getElem? (i := 20) rfl)
theorem wd_21_21 : Cond.methodLink RX7 369 yX4_hoursOf ∈ wsL_law := wr_21 _ (List.mem_of_getElem? (i := 21) rfl)
theorem wd_21_22 : Cond.instanceMethod yX4_hoursOf ∈ wsL_law := wr_21 _ (List.mem_of_getElem? (i := 22) rfl)
theorem wd_21_23 : Cond.selects RX4 yX4_hoursOf yX4_hoursOf ∈ wsL_law := wr_21 _ (List.mem_of_getElem? (i := 23) rfl)
theorem wd_22_0 : Cond.code yX4_hoursOf cX4_hoursOf 5 (some .int) ∈ wsL_law := wr_22 _ (List.mem_of_getElem? (i := 0) rfl)
theorem wd_22_1 : Cond.constant RX4 47 (16777215) ∈ wsL_law := wr_22 _ (List.mem_of_getElem? (i := 1) rfl)
theorem wd_22_2 : Cond.methodLink RX4 40 yX4_ofThing ∈ wsL_law := wr_22 _ (List.mem_of_getElem? (i := 2) rfl)
theorem wd_22_3 : Cond.methodLink RX7 374 yX6_windDay ∈ wsL_law := wr_22 _ (List.mem_of_getElem? (i := 3) rfl)
theorem wd_22_4 : Cond.instanceMethod yX6_windDay ∈ wsL_law := wr_22 _ (List.mem_of_getElem? (i := 4) rfl)
theorem wd_22_5 : Cond.selects RX6 yX6_windDay yX6_windDay ∈ wsL_law := wr_22 _ (List.mem_of_getElem? (i := 5) rfl)
theorem wd_22_6 : Cond.code yX6_windDay cX6_windDay 4 none ∈ wsL_law := wr_22 _ (List.mem_of_getElem? (i := 6) rfl)
theorem wd_22_7 : Cond.methodLink RX6 39 yJ7_fill_53178 ∈ wsL_law := wr_22 _ (List.mem_of_getElem? (i := 7) rfl)
theorem wd_22_8 : Cond.static yJ7_fill_53178 ∈ wsL_law := wr_22 _ (List.mem_of_getElem? (i := 8) rfl)
theorem wd_22_9 : Cond.initialized RJ7 ∈ wsL_law := wr_22 _ (List.mem_of_getElem? (i := 9) rfl)
theorem wd_22_10 : Cond.code yJ7_fill_53178 cJ7_fill_53178 4 none ∈ wsL_law := wr_22 _ (List.mem_of_getElem? (i := 10) rfl)
theorem wd_22_11 : Cond.methodLink RX7 252 yX3_rob ∈ wsL_law := wr_22 _ (List.mem_of_getElem? (i := 11) rfl)
theorem wd_22_12 : Cond.instanceMethod yX3_rob ∈ wsL_law := wr_22 _ (List.mem_of_getElem? (i := 12) rfl)
theorem wd_22_13 : Cond.selects RX3 yX3_rob yX3_rob ∈ wsL_law := wr_22 _ (List.mem_of_getElem? (i := 13) rfl)
theorem wd_22_14 : Cond.code yX3_rob cX3_rob 3 none ∈ wsL_law := wr_22 _ (List.mem_of_getElem? (i := 14) rfl)
theorem wd_22_15 : Cond.methodLink RX7 355 yX0_record ∈ wsL_law := wr_22 _ (List.mem_of_getElem? (i := 15) rfl)
theorem wd_22_16 : Cond.instanceMethod yX0_record ∈ wsL_law := wr_22 _ (List.mem_of_getElem? (i := 16) rfl)
theorem wd_22_17 : Cond.selects RX0 yX0_record yX0_record ∈ wsL_law := wr_22 _ (List.mem_of_getElem? (i := 17) rfl)
theorem wd_22_18 : Cond.code yX0_record cX0_record 3 none ∈ wsL_law := wr_22 _ (List.mem_of_getElem? (i := 18) rfl)
theorem wd_22_19 : Cond.fieldLink RX0 40 "MarketSpring$Spring" "level" "I" ∈ wsL_law := wr_22 _ (List.mem_of_getElem? (i := 19) rfl)
theorem wd_22_20 : Cond.fieldLink RX0 44 "MarketSpring$Spring" "second" "I" ∈ wsL_law := wr_22 _ (List.mem_of_getElem? (i := 20) rfl)
theorem wd_22_21 : Cond.fieldLink RX0 47 "MarketSpring$Spring" "flowed" "I" ∈ wsL_law := wr_22 _ (List.mem_of_getElem? (i := 21) rfl)
theorem wd_22_22 : Cond.fieldLink RX0 50 "MarketSpring$Spring" "spilt" "I" ∈ wsL_law := wr_22 _ (List.mem_of_getElem? (i := 22) rfl)
theorem wd_22_23 : Cond.fieldLink RX0 52 "MarketSpring$Spring" "standing" "I" ∈ wsL_law := wr_22 _ (List.mem_of_getElem? (i := 23) rfl)
theorem wd_23_0 : Cond.methodLink RX0 31 yX3_begin ∈ wsL_law := wr_23 _ (List.mem_of_getElem? (i := 0) rfl)
theorem wd_23_1 : Cond.instanceMethod yX3_begin ∈ wsL_law := wr_23 _ (List.mem_of_getElem? (i := 1) rfl)
theorem wd_23_2 : Cond.selects RX3 yX3_begin yX3_begin ∈ wsL_law := wr_23 _ (List.mem_of_getElem? (i := 2) rfl)
theorem wd_23_3 : Cond.code yX3_begin cX3_begin 1 none ∈ wsL_law := wr_23 _ (List.mem_of_getElem? (i := 3) rfl)
theorem wd_23_4 : Cond.methodLink RX0 36 yX3_turn ∈ wsL_law := wr_23 _ (List.mem_of_getElem? (i := 4) rfl)
theorem wd_23_5 : Cond.instanceMethod yX3_turn ∈ wsL_law := wr_23 _ (List.mem_of_getElem? (i := 5) rfl)
theorem wd_23_6 : Cond.selects RX3 yX3_turn yX3_turn ∈ wsL_law := wr_23 _ (List.mem_of_getElem? (i := 6) rfl)
theorem wd_23_7 : Cond.code yX3_turn cX3_turn 3 none ∈ wsL_law := wr_23 _ (List.mem_of_getElem? (i := 7) rfl)
theorem wd_23_8 : Cond.methodLink RX3 70 yX3_draw ∈ wsL_law := wr_23 _ (List.mem_of_getElem? (i := 8) rfl)
theorem wd_23_9 : Cond.instanceMethod yX3_draw ∈ wsL_law := wr_23 _ (List.mem_of_getElem? (i := 9) rfl)
theorem wd_23_10 : Cond.selects RX3 yX3_draw yX3_draw ∈ wsL_law := wr_23 _ (List.mem_of_getElem? (i := 10) rfl)
theorem wd_23_11 : Cond.code yX3_draw cX3_draw 3 none ∈ wsL_law := wr_23 _ (List.mem_of_getElem? (i := 11) rfl)
theorem wd_23_12 : Cond.methodLink RX3 74 yX3_pullChain ∈ wsL_law := wr_23 _ (List.mem_of_getElem? (i := 12) rfl)
theorem wd_23_13 : Cond.instanceMethod yX3_pullChain ∈ wsL_law := wr_23 _ (List.mem_of_getElem? (i := 13) rfl)
theorem wd_23_14 : Cond.selects RX3 yX3_pullChain yX3_pullChain ∈ wsL_law := wr_23 _ (List.mem_of_getElem? (i := 14) rfl)
theorem wd_23_15 : Cond.code yX3_pullChain cX3_pullChain 2 none ∈ wsL_law := wr_23 _ (List.mem_of_getElem? (i := 15) rfl)
theorem wd_23_16 : Cond.methodLink RL 71 yX8_level ∈ wsL_law := wr_23 _ (List.mem_of_getElem? (i := 16) rfl)
theorem wd_23_17 : Cond.instanceMethod yX8_level ∈ wsL_law := wr_23 _ (List.mem_of_getElem? (i := 17) rfl)
theorem wd_23_18 : Cond.selects RX8 yX8_level yX8_level ∈ wsL_law := wr_23 _ (List.mem_of_getElem? (i := 18) rfl)
theorem wd_23_19 : Cond.code yX8_level cX8_level 3 (some .int) ∈ wsL_law := wr_23 _ (List.mem_of_getElem? (i := 19) rfl)
theorem wd_23_20 : Cond.methodLink RX8 194 yX8_isHour ∈ wsL_law := wr_23 _ (List.mem_of_getElem? (i := 20) rfl)
theorem wd_23_21 : Cond.static yX8_isHour ∈ wsL_law := wr_23 _ (List.mem_of_getElem? (i := 21) rfl)
theorem wd_23_22 : Cond.code yX8_isHour cX8_isHour 1 (some .boolean) ∈ wsL_law := wr_23 _ (List.mem_of_getElem? (i := 22) rfl)
theorem wd_23_23 : Cond.methodLink RX8 197 yX8_levelOf ∈ wsL_law := wr_23 _ (List.mem_of_getElem? (i := 23) rfl)
theorem wd_24_0 : Cond.instanceMethod yX8_levelOf ∈ wsL_law := wr_24 _ (List.mem_of_getElem? (i := 0) rfl)
theorem wd_24_1 : Cond.selects RX8 yX8_levelOf yX8_levelOf ∈ wsL_law := wr_24 _ (List.mem_of_getElem? (i := 1) rfl)
theorem wd_24_2 : Cond.code yX8_levelOf cX8_levelOf 3 (some .int) ∈ wsL_law := wr_24 _ (List.mem_of_getElem? (i := 2) rfl)
theorem wd_24_3 : Cond.methodLink RX8 191 yX8_lays ∈ wsL_law := wr_24 _ (List.mem_of_getElem? (i := 3) rfl)
theorem wd_24_4 : Cond.instanceMethod yX8_lays ∈ wsL_law := wr_24 _ (List.mem_of_getElem? (i := 4) rfl)
theorem wd_24_5 : Cond.selects RX8 yX8_lays yX8_lays ∈ wsL_law := wr_24 _ (List.mem_of_getElem? (i := 5) rfl)
theorem wd_24_6 : Cond.code yX8_lays cX8_lays 2 none ∈ wsL_law := wr_24 _ (List.mem_of_getElem? (i := 6) rfl)
theorem wd_24_7 : Cond.methodLink RX8 184 yX8_laysWinds ∈ wsL_law := wr_24 _ (List.mem_of_getElem? (i := 7) rfl)
theorem wd_24_8 : Cond.instanceMethod yX8_laysWinds ∈ wsL_law := wr_24 _ (List.mem_of_getElem? (i := 8) rfl)
theorem wd_24_9 : Cond.selects RX8 yX8_laysWinds yX8_laysWinds ∈ wsL_law := wr_24 _ (List.mem_of_getElem? (i := 9) rfl)
theorem wd_24_10 : Cond.code yX8_laysWinds cX8_laysWinds 2 none ∈ wsL_law := wr_24 _ (List.mem_of_getElem? (i := 10) rfl)
theorem wd_24_11 : Cond.methodLink RX8 187 yX8_runs ∈ wsL_law := wr_24 _ (List.mem_of_getElem? (i := 11) rfl)
theorem wd_24_12 : Cond.instanceMethod yX8_runs ∈ wsL_law := wr_24 _ (List.mem_of_getElem? (i := 12) rfl)
theorem wd_24_13 : Cond.selects RX8 yX8_runs yX8_runs ∈ wsL_law := wr_24 _ (List.mem_of_getElem? (i := 13) rfl)
theorem wd_24_14 : Cond.code yX8_runs cX8_runs 12 none ∈ wsL_law := wr_24 _ (List.mem_of_getElem? (i := 14) rfl)
theorem wd_24_15 : Cond.methodLink RX8 181 yX8_isGoing ∈ wsL_law := wr_24 _ (List.mem_of_getElem? (i := 15) rfl)
theorem wd_24_16 : Cond.instanceMethod yX8_isGoing ∈ wsL_law := wr_24 _ (List.mem_of_getElem? (i := 16) rfl)
theorem wd_24_17 : Cond.selects RX8 yX8_isGoing yX8_isGoing ∈ wsL_law := wr_24 _ (List.mem_of_getElem? (i := 17) rfl)
theorem wd_24_18 : Cond.code yX8_isGoing cX8_isGoing 6 (some .boolean) ∈ wsL_law := wr_24 _ (List.mem_of_getElem? (i := 18) rfl)
theorem wd_24_19 : Cond.methodLink RL 72 yX7_stands ∈ wsL_law := wr_24 _ (List.mem_of_getElem? (i := 19) rfl)
theorem wd_24_20 : Cond.instanceMethod yX7_stands ∈ wsL_law := wr_24 _ (List.mem_of_getElem? (i := 20) rfl)
theorem wd_24_21 : Cond.selects RX7 yX7_stands yX7_stands ∈ wsL_law := wr_24 _ (List.mem_of_getElem? (i := 21) rfl)
theorem wd_24_22 : Cond.code yX7_stands cX7_stands 3 (some .int) ∈ wsL_law := wr_24 _ (List.mem_of_getElem? (i := 22) rfl)
theorem wd_24_23 : Cond.fieldLink RX7 172 "MarketSpring$Days" "standing" "[I" ∈ wsL_law := wr_24 _ (List.mem_of_getElem? (i := 23) rfl)
theorem wd_25_0 : Cond.methodLink RL 75 yX8_stands ∈ wsL_law := wr_25 _ (List.mem_of_getElem? (i := 0) rfl)
theorem wd_25_1 : Cond.instanceMethod yX8_stands ∈ wsL_law := wr_25 _ (List.mem_of_getElem? (i := 1) rfl)
theorem wd_25_2 : Cond.selects RX8 yX8_stands yX8_stands ∈ wsL_law := wr_25 _ (List.mem_of_getElem? (i := 2) rfl)
theorem wd_25_3 : Cond.code yX8_stands cX8_stands 3 (some .int) ∈ wsL_law := wr_25 _ (List.mem_of_getElem? (i := 3) rfl)
theorem wd_25_4 : Cond.methodLink RL 76 yX7_stood ∈ wsL_law := wr_25 _ (List.mem_of_getElem? (i := 4) rfl)
theorem wd_25_5 : Cond.instanceMethod yX7_stood ∈ wsL_law := wr_25 _ (List.mem_of_getElem? (i := 5) rfl)
theorem wd_25_6 : Cond.selects RX7 yX7_stood yX7_stood ∈ wsL_law := wr_25 _ (List.mem_of_getElem? (i := 6) rfl)
theorem wd_25_7 : Cond.code yX7_stood cX7_stood 3 (some .int) ∈ wsL_law := wr_25 _ (List.mem_of_getElem? (i := 7) rfl)
theorem wd_25_8 : Cond.methodLink RX7 175 yX7_areDays ∈ wsL_law := wr_25 _ (List.mem_of_getElem? (i := 8) rfl)
theorem wd_25_9 : Cond.static yX7_areDays ∈ wsL_law := wr_25 _ (List.mem_of_getElem? (i := 9) rfl)
theorem wd_25_10 : Cond.code yX7_areDays cX7_areDays 1 (some .boolean) ∈ wsL_law := wr_25 _ (List.mem_of_getElem? (i := 10) rfl)
theorem wd_25_11 : Cond.methodLink RX7 178 yX0_hoursStood ∈ wsL_law := wr_25 _ (List.mem_of_getElem? (i := 11) rfl)
theorem wd_25_12 : Cond.instanceMethod yX0_hoursStood ∈ wsL_law := wr_25 _ (List.mem_of_getElem? (i := 12) rfl)
theorem wd_25_13 : Cond.selects RX0 yX0_hoursStood yX0_hoursStood ∈ wsL_law := wr_25 _ (List.mem_of_getElem? (i := 13) rfl)
theorem wd_25_14 : Cond.code yX0_hoursStood cX0_hoursStood 5 (some .int) ∈ wsL_law := wr_25 _ (List.mem_of_getElem? (i := 14) rfl)
theorem wd_25_15 : Cond.methodLink RL 79 yX8_stood ∈ wsL_law := wr_25 _ (List.mem_of_getElem? (i := 15) rfl)
theorem wd_25_16 : Cond.instanceMethod yX8_stood ∈ wsL_law := wr_25 _ (List.mem_of_getElem? (i := 16) rfl)
theorem wd_25_17 : Cond.selects RX8 yX8_stood yX8_stood ∈ wsL_law := wr_25 _ (List.mem_of_getElem? (i := 17) rfl)
theorem wd_25_18 : Cond.code yX8_stood cX8_stood 3 (some .int) ∈ wsL_law := wr_25 _ (List.mem_of_getElem? (i := 18) rfl)
theorem wd_25_19 : Cond.methodLink RX8 203 yX8_areDays ∈ wsL_law := wr_25 _ (List.mem_of_getElem? (i := 19) rfl)
theorem wd_25_20 : Cond.static yX8_areDays ∈ wsL_law := wr_25 _ (List.mem_of_getElem? (i := 20) rfl)
theorem wd_25_21 : Cond.code yX8_areDays cX8_areDays 1 (some .boolean) ∈ wsL_law := wr_25 _ (List.mem_of_getElem? (i := 21) rfl)
theorem wd_25_22 : Cond.methodLink RX8 206 yX8_stoodOf ∈ wsL_law := wr_25 _ (List.mem_of_getElem? (i := 22) rfl)
theorem wd_25_23 : Cond.instanceMethod yX8_stoodOf ∈ wsL_law := wr_25 _ (List.mem_of_getElem? (i := 23) rfl)
theorem wd_26_0 : Cond.selects RX8 yX8_stoodOf yX8_stoodOf ∈ wsL_law := wr_26 _ (List.mem_of_getElem? (i := 0) rfl)
theorem wd_26_1 : Cond.code yX8_stoodOf cX8_stoodOf 3 (some .int) ∈ wsL_law := wr_26 _ (List.mem_of_getElem? (i := 1) rfl)
theorem wd_26_2 : Cond.methodLink RX8 200 yX8_stoodBy ∈ wsL_law := wr_26 _ (List.mem_of_getElem? (i := 2) rfl)
theorem wd_26_3 : Cond.instanceMethod yX8_stoodBy ∈ wsL_law := wr_26 _ (List.mem_of_getElem? (i := 3) rfl)
theorem wd_26_4 : Cond.selects RX8 yX8_stoodBy yX8_stoodBy ∈ wsL_law := wr_26 _ (List.mem_of_getElem? (i := 4) rfl)
theorem wd_26_5 : Cond.code yX8_stoodBy cX8_stoodBy 5 (some .int) ∈ wsL_law := wr_26 _ (List.mem_of_getElem? (i := 5) rfl)
theorem wd_26_6 : Cond.methodLink RL 80 yX7_lost ∈ wsL_law := wr_26 _ (List.mem_of_getElem? (i := 6) rfl)
theorem wd_26_7 : Cond.instanceMethod yX7_lost ∈ wsL_law := wr_26 _ (List.mem_of_getElem? (i := 7) rfl)
theorem wd_26_8 : Cond.selects RX7 yX7_lost yX7_lost ∈ wsL_law := wr_26 _ (List.mem_of_getElem? (i := 8) rfl)
theorem wd_26_9 : Cond.code yX7_lost cX7_lost 2 (some .int) ∈ wsL_law := wr_26 _ (List.mem_of_getElem? (i := 9) rfl)
theorem wd_26_10 : Cond.methodLink RX7 181 yX0_spiltWithin ∈ wsL_law := wr_26 _ (List.mem_of_getElem? (i := 10) rfl)
theorem wd_26_11 : Cond.instanceMethod yX0_spiltWithin ∈ wsL_law := wr_26 _ (List.mem_of_getElem? (i := 11) rfl)
theorem wd_26_12 : Cond.selects RX0 yX0_spiltWithin yX0_spiltWithin ∈ wsL_law := wr_26 _ (List.mem_of_getElem? (i := 12) rfl)
theorem wd_26_13 : Cond.code yX0_spiltWithin cX0_spiltWithin 4 (some .int) ∈ wsL_law := wr_26 _ (List.mem_of_getElem? (i := 13) rfl)
theorem wd_26_14 : Cond.methodLink RL 83 yX8_lost ∈ wsL_law := wr_26 _ (List.mem_of_getElem? (i := 14) rfl)
theorem wd_26_15 : Cond.instanceMethod yX8_lost ∈ wsL_law := wr_26 _ (List.mem_of_getElem? (i := 15) rfl)
theorem wd_26_16 : Cond.selects RX8 yX8_lost yX8_lost ∈ wsL_law := wr_26 _ (List.mem_of_getElem? (i := 16) rfl)
theorem wd_26_17 : Cond.code yX8_lost cX8_lost 2 (some .int) ∈ wsL_law := wr_26 _ (List.mem_of_getElem? (i := 17) rfl)
theorem wd_26_18 : Cond.methodLink RX8 209 yX8_lostOf ∈ wsL_law := wr_26 _ (List.mem_of_getElem? (i := 18) rfl)
theorem wd_26_19 : Cond.instanceMethod yX8_lostOf ∈ wsL_law := wr_26 _ (List.mem_of_getElem? (i := 19) rfl)
theorem wd_26_20 : Cond.selects RX8 yX8_lostOf yX8_lostOf ∈ wsL_law := wr_26 _ (List.mem_of_getElem? (i := 20) rfl)
theorem wd_26_21 : Cond.code yX8_lostOf cX8_lostOf 4 (some .int) ∈ wsL_law := wr_26 _ (List.mem_of_getElem? (i := 21) rfl)
theorem wd_26_22 : Cond.methodLink RL 84 yX7_flow ∈ wsL_law := wr_26 _ (List.mem_of_getElem? (i := 22) rfl)
theorem wd_26_23 : Cond.instanceMethod yX7_flow ∈ wsL_law := wr_26 _ (List.mem_of_getElem? (i := 23) rfl)
theorem wd_27_0 : Cond.selects RX7 yX7_flow yX7_flow ∈ wsL_law := wr_27 _ (List.mem_of_getElem? (i := 0) rfl)
theorem wd_27_1 : Cond.code yX7_flow cX7_flow 2 (some .int) ∈ wsL_law := wr_27 _ (List.mem_of_getElem? (i := 1) rfl)
theorem wd_27_2 : Cond.fieldLink RX7 184 "MarketSpring$Days" "flows" "[I" ∈ wsL_law := wr_27 _ (List.mem_of_getElem? (i := 2) rfl)
theorem wd_27_3 : Cond.methodLink RL 87 yX8_flow ∈ wsL_law := wr_27 _ (List.mem_of_getElem? (i := 3) rfl)
theorem wd_27_4 : Cond.instanceMethod yX8_flow ∈ wsL_law := wr_27 _ (List.mem_of_getElem? (i := 4) rfl)
theorem wd_27_5 : Cond.selects RX8 yX8_flow yX8_flow ∈ wsL_law := wr_27 _ (List.mem_of_getElem? (i := 5) rfl)
theorem wd_27_6 : Cond.code yX8_flow cX8_flow 2 (some .int) ∈ wsL_law := wr_27 _ (List.mem_of_getElem? (i := 6) rfl)
theorem wd_27_7 : Cond.methodLink RX8 212 yX8_flowOf ∈ wsL_law := wr_27 _ (List.mem_of_getElem? (i := 7) rfl)
theorem wd_27_8 : Cond.instanceMethod yX8_flowOf ∈ wsL_law := wr_27 _ (List.mem_of_getElem? (i := 8) rfl)
theorem wd_27_9 : Cond.selects RX8 yX8_flowOf yX8_flowOf ∈ wsL_law := wr_27 _ (List.mem_of_getElem? (i := 9) rfl)
theorem wd_27_10 : Cond.code yX8_flowOf cX8_flowOf 2 (some .int) ∈ wsL_law := wr_27 _ (List.mem_of_getElem? (i := 10) rfl)
theorem wd_27_11 : Cond.methodLink RL 88 yX7_worst ∈ wsL_law := wr_27 _ (List.mem_of_getElem? (i := 11) rfl)
theorem wd_27_12 : Cond.instanceMethod yX7_worst ∈ wsL_law := wr_27 _ (List.mem_of_getElem? (i := 12) rfl)
theorem wd_27_13 : Cond.selects RX7 yX7_worst yX7_worst ∈ wsL_law := wr_27 _ (List.mem_of_getElem? (i := 13) rfl)
theorem wd_27_14 : Cond.code yX7_worst cX7_worst 4 (some .int) ∈ wsL_law := wr_27 _ (List.mem_of_getElem? (i := 14) rfl)
theorem wd_27_15 : Cond.methodLink RX7 187 yX0_worstHour ∈ wsL_law := wr_27 _ (List.mem_of_getElem? (i := 15) rfl)
theorem wd_27_16 : Cond.instanceMethod yX0_worstHour ∈ wsL_law := wr_27 _ (List.mem_of_getElem? (i := 16) rfl)
theorem wd_27_17 : Cond.selects RX0 yX0_worstHour yX0_worstHour ∈ wsL_law := wr_27 _ (List.mem_of_getElem? (i := 17) rfl)
theorem wd_27_18 : Cond.code yX0_worstHour cX0_worstHour 4 (some .int) ∈ wsL_law := wr_27 _ (List.mem_of_getElem? (i := 18) rfl)
theorem wd_27_19 : Cond.methodLink RL 91 yX8_worst ∈ wsL_law := wr_27 _ (List.mem_of_getElem? (i := 19) rfl)
theorem wd_27_20 : Cond.instanceMethod yX8_worst ∈ wsL_law := wr_27 _ (List.mem_of_getElem? (i := 20) rfl)
theorem wd_27_21 : Cond.selects RX8 yX8_worst yX8_worst ∈ wsL_law := wr_27 _ (List.mem_of_getElem? (i := 21) rfl)
theorem wd_27_22 : Cond.code yX8_worst cX8_worst 3 (some .int) ∈ wsL_law := wr_27 _ (List.mem_of_getElem? (i := 22) rfl)
theorem wd_27_23 : Cond.methodLink RX8 218 yX8_worstOf ∈ wsL_law := wr_27 _ (List.mem_of_getElem? (i := 23) rfl)
theorem wd_28_0 : Cond.instanceMethod yX8_worstOf ∈ wsL_law := wr_28 _ (List.mem_of_getElem? (i := 0) rfl)
theorem wd_28_1 : Cond.selects RX8 yX8_worstOf yX8_worstOf ∈ wsL_law := wr_28 _ (List.mem_of_getElem? (i := 1) rfl)
theorem wd_28_2 : Cond.code yX8_worstOf cX8_worstOf 4 (some .int) ∈ wsL_law := wr_28 _ (List.mem_of_getElem? (i := 2) rfl)
theorem wd_28_3 : Cond.methodLink RX8 215 yX8_worstBy ∈ wsL_law := wr_28 _ (List.mem_of_getElem? (i := 3) rfl)
theorem wd_28_4 : Cond.instanceMethod yX8_worstBy ∈ wsL_law := wr_28 _ (List.mem_of_getElem? (i := 4) rfl)
theorem wd_28_5 : Cond.selects RX8 yX8_worstBy yX8_worstBy ∈ wsL_law := wr_28 _ (List.mem_of_getElem? (i := 5) rfl)
theorem wd_28_6 : Cond.code yX8_worstBy cX8_worstBy 4 (some .int) ∈ wsL_law := wr_28 _ (List.mem_of_getElem? (i := 6) rfl)
theorem wd_28_7 : Cond.methodLink RL 92 yX7_fewest ∈ wsL_law := wr_28 _ (List.mem_of_getElem? (i := 7) rfl)
theorem wd_28_8 : Cond.instanceMethod yX7_fewest ∈ wsL_law := wr_28 _ (List.mem_of_getElem? (i := 8) rfl)
theorem wd_28_9 : Cond.selects RX7 yX7_fewest yX7_fewest ∈ wsL_law := wr_28 _ (List.mem_of_getElem? (i := 9) rfl)
theorem wd_28_10 : Cond.code yX7_fewest cX7_fewest 5 (some .int) ∈ wsL_law := wr_28 _ (List.mem_of_getElem? (i := 10) rfl)
theorem wd_28_11 : Cond.methodLink RX7 193 yJ6_bitCount_0f7a4 ∈ wsL_law := wr_28 _ (List.mem_of_getElem? (i := 11) rfl)
theorem wd_28_12 : Cond.static yJ6_bitCount_0f7a4 ∈ wsL_law := wr_28 _ (List.mem_of_getElem? (i := 12) rfl)
theorem wd_28_13 : Cond.initialized RJ6 ∈ wsL_law := wr_28 _ (List.mem_of_getElem? (i := 13) rfl)
theorem wd_28_14 : Cond.code yJ6_bitCount_0f7a4 cJ6_bitCount_0f7a4 1 (some .int) ∈ wsL_law := wr_28 _ (List.mem_of_getElem? (i := 14) rfl)
theorem wd_28_15 : Cond.constant RJ6 265 (1431655765) ∈ wsL_law := wr_28 _ (List.mem_of_getElem? (i := 15) rfl)
theorem wd_28_16 : Cond.constant RJ6 266 (858993459) ∈ wsL_law := wr_28 _ (List.mem_of_getElem? (i := 16) rfl)
theorem wd_28_17 : Cond.constant RJ6 267 (252645135) ∈ wsL_law := wr_28 _ (List.mem_of_getElem? (i := 17) rfl)
theorem wd_28_18 : Cond.methodLink RX7 202 yX3_allGoWithin ∈ wsL_law := wr_28 _ (List.mem_of_getElem? (i := 18) rfl)
theorem wd_28_19 : Cond.instanceMethod yX3_allGoWithin ∈ wsL_law := wr_28 _ (List.mem_of_getElem? (i := 19) rfl)
theorem wd_28_20 : Cond.selects RX3 yX3_allGoWithin yX3_allGoWithin ∈ wsL_law := wr_28 _ (List.mem_of_getElem? (i := 20) rfl)
theorem wd_28_21 : Cond.code yX3_allGoWithin cX3_allGoWithin 3 (some .boolean) ∈ wsL_law := wr_28 _ (List.mem_of_getElem? (i := 21) rfl)
theorem wd_28_22 : Cond.methodLink RX3 77 yX3_begin ∈ wsL_law := wr_28 _ (List.mem_of_getElem? (i := 22) rfl)
theorem wd_28_23 : Cond.methodLink RX3 80 yX3_turn ∈ wsL_law := wr_28 _ (List.mem_of_getElem? (i := 23) rfl)
theorem wd_29_0 : Cond.methodLink RL 95 yX8_fewest ∈ wsL_law := wr_29 _ (List.mem_of_getElem? (i := 0) rfl)
theorem wd_29_1 : Cond.instanceMethod yX8_fewest ∈ wsL_law := wr_29 _ (List.mem_of_getElem? (i := 1) rfl)
theorem wd_29_2 : Cond.selects RX8 yX8_fewest yX8_fewest ∈ wsL_law := wr_29 _ (List.mem_of_getElem? (i := 2) rfl)
theorem wd_29_3 : Cond.code yX8_fewest cX8_fewest 2 (some .int) ∈ wsL_law := wr_29 _ (List.mem_of_getElem? (i := 3) rfl)
theorem wd_29_4 : Cond.methodLink RX8 224 yX8_fewestOf ∈ wsL_law := wr_29 _ (List.mem_of_getElem? (i := 4) rfl)
theorem wd_29_5 : Cond.instanceMethod yX8_fewestOf ∈ wsL_law := wr_29 _ (List.mem_of_getElem? (i := 5) rfl)
theorem wd_29_6 : Cond.selects RX8 yX8_fewestOf yX8_fewestOf ∈ wsL_law := wr_29 _ (List.mem_of_getElem? (i := 6) rfl)
theorem wd_29_7 : Cond.code yX8_fewestOf cX8_fewestOf 8 (some .int) ∈ wsL_law := wr_29 _ (List.mem_of_getElem? (i := 7) rfl)
theorem wd_29_8 : Cond.methodLink RX8 221 yX8_ones ∈ wsL_law := wr_29 _ (List.mem_of_getElem? (i := 8) rfl)
theorem wd_29_9 : Cond.static yX8_ones ∈ wsL_law := wr_29 _ (List.mem_of_getElem? (i := 9) rfl)
theorem wd_29_10 : Cond.code yX8_ones cX8_ones 3 (some .int) ∈ wsL_law := wr_29 _ (List.mem_of_getElem? (i := 10) rfl)
theorem wd_29_11 : Cond.methodLink RL 96 yX7_place ∈ wsL_law := wr_29 _ (List.mem_of_getElem? (i := 11) rfl)
theorem wd_29_12 : Cond.instanceMethod yX7_place ∈ wsL_law := wr_29 _ (List.mem_of_getElem? (i := 12) rfl)
theorem wd_29_13 : Cond.selects RX7 yX7_place yX7_place ∈ wsL_law := wr_29 _ (List.mem_of_getElem? (i := 13) rfl)
theorem wd_29_14 : Cond.code yX7_place cX7_place 7 (some .int) ∈ wsL_law := wr_29 _ (List.mem_of_getElem? (i := 14) rfl)
theorem wd_29_15 : Cond.methodLink RX7 205 yX3_leastLevel ∈ wsL_law := wr_29 _ (List.mem_of_getElem? (i := 15) rfl)
theorem wd_29_16 : Cond.instanceMethod yX3_leastLevel ∈ wsL_law := wr_29 _ (List.mem_of_getElem? (i := 16) rfl)
theorem wd_29_17 : Cond.selects RX3 yX3_leastLevel yX3_leastLevel ∈ wsL_law := wr_29 _ (List.mem_of_getElem? (i := 17) rfl)
theorem wd_29_18 : Cond.code yX3_leastLevel cX3_leastLevel 4 (some .int) ∈ wsL_law := wr_29 _ (List.mem_of_getElem? (i := 18) rfl)
theorem wd_29_19 : Cond.methodLink RL 99 yX8_place ∈ wsL_law := wr_29 _ (List.mem_of_getElem? (i := 19) rfl)
theorem wd_29_20 : Cond.instanceMethod yX8_place ∈ wsL_law := wr_29 _ (List.mem_of_getElem? (i := 20) rfl)
theorem wd_29_21 : Cond.selects RX8 yX8_place yX8_place ∈ wsL_law := wr_29 _ (List.mem_of_getElem? (i := 21) rfl)
theorem wd_29_22 : Cond.code yX8_place cX8_place 3 (some .int) ∈ wsL_law := wr_29 _ (List.mem_of_getElem? (i := 22) rfl)
theorem wd_29_23 : Cond.methodLink RX8 227 yX8_placeOf ∈ wsL_law := wr_29 _ (List.mem_of_getElem? (i := 23) rfl)
theorem wd_30_0 : Cond.instanceMethod yX8_placeOf ∈ wsL_law := wr_30 _ (List.mem_of_getElem? (i := 0) rfl)
theorem wd_30_1 : Cond.selects RX8 yX8_placeOf yX8_placeOf ∈ wsL_law := wr_30 _ (List.mem_of_getElem? (i := 1) rfl)
theorem wd_30_2 : Cond.code yX8_placeOf cX8_placeOf 9 (some .int) ∈ wsL_law := wr_30 _ (List.mem_of_getElem? (i := 2) rfl)
theorem wd_30_3 : Cond.methodLink RL 100 yX7_best ∈ wsL_law := wr_30 _ (List.mem_of_getElem? (i := 3) rfl)
theorem wd_30_4 : Cond.instanceMethod yX7_best ∈ wsL_law := wr_30 _ (List.mem_of_getElem? (i := 4) rfl)
theorem wd_30_5 : Cond.selects RX7 yX7_best yX7_best ∈ wsL_law := wr_30 _ (List.mem_of_getElem? (i := 5) rfl)
theorem wd_30_6 : Cond.code yX7_best cX7_best 3 (some .int) ∈ wsL_law := wr_30 _ (List.mem_of_getElem? (i := 6) rfl)
theorem wd_30_7 : Cond.fieldLink RX7 219 "MarketSpring$Plan" "mustStood" "I" ∈ wsL_law := wr_30 _ (List.mem_of_getElem? (i := 7) rfl)
theorem wd_30_8 : Cond.fieldLink RX7 222 "MarketSpring$Plan" "allStood" "I" ∈ wsL_law := wr_30 _ (List.mem_of_getElem? (i := 8) rfl)
theorem wd_30_9 : Cond.methodLink RX7 208 yX7_waitingBits ∈ wsL_law := wr_30 _ (List.mem_of_getElem? (i := 9) rfl)
theorem wd_30_10 : Cond.instanceMethod yX7_waitingBits ∈ wsL_law := wr_30 _ (List.mem_of_getElem? (i := 10) rfl)
theorem wd_30_11 : Cond.selects RX7 yX7_waitingBits yX7_waitingBits ∈ wsL_law := wr_30 _ (List.mem_of_getElem? (i := 11) rfl)
theorem wd_30_12 : Cond.code yX7_waitingBits cX7_waitingBits 1 (some .int) ∈ wsL_law := wr_30 _ (List.mem_of_getElem? (i := 12) rfl)
theorem wd_30_13 : Cond.methodLink RX7 297 yX4_mustBits ∈ wsL_law := wr_30 _ (List.mem_of_getElem? (i := 13) rfl)
theorem wd_30_14 : Cond.instanceMethod yX4_mustBits ∈ wsL_law := wr_30 _ (List.mem_of_getElem? (i := 14) rfl)
theorem wd_30_15 : Cond.selects RX4 yX4_mustBits yX4_mustBits ∈ wsL_law := wr_30 _ (List.mem_of_getElem? (i := 15) rfl)
theorem wd_30_16 : Cond.code yX4_mustBits cX4_mustBits 3 (some .int) ∈ wsL_law := wr_30 _ (List.mem_of_getElem? (i := 16) rfl)
theorem wd_30_17 : Cond.methodLink RX7 215 yX1_search ∈ wsL_law := wr_30 _ (List.mem_of_getElem? (i := 17) rfl)
theorem wd_30_18 : Cond.instanceMethod yX1_search ∈ wsL_law := wr_30 _ (List.mem_of_getElem? (i := 18) rfl)
theorem wd_30_19 : Cond.selects RX1 yX1_search yX1_search ∈ wsL_law := wr_30 _ (List.mem_of_getElem? (i := 19) rfl)
theorem wd_30_20 : Cond.code yX1_search cX1_search 7 none ∈ wsL_law := wr_30 _ (List.mem_of_getElem? (i := 20) rfl)
theorem wd_30_21 : Cond.constant RX1 49 (2147483647) ∈ wsL_law := wr_30 _ (List.mem_of_getElem? (i := 21) rfl)
theorem wd_30_22 : Cond.fieldLink RX1 53 "MarketSpring$Spring" "hoursOf" "[I" ∈ wsL_law := wr_30 _ (List.mem_of_getElem? (i := 22) rfl)
theorem wd_30_23 : Cond.methodLink RX1 38 yX1_gather ∈ wsL_law := wr_30 _ (List.mem_of_getElem? (i := 23) rfl)
theorem wd_31_0 : Cond.instanceMethod yX1_gather ∈ wsL_law := wr_31 _ (List.mem_of_getElem? (i := 0) rfl)
theorem wd_31_1 : Cond.selects RX1 yX1_gather yX1_gather ∈ wsL_law := wr_31 _ (List.mem_of_getElem? (i := 1) rfl)
theorem wd_31_2 : Cond.code yX1_gather cX1_gather 3 none ∈ wsL_law := wr_31 _ (List.mem_of_getElem? (i := 2) rfl)
theorem wd_31_3 : Cond.methodLink RX1 42 yX4_mustBits ∈ wsL_law := wr_31 _ (List.mem_of_getElem? (i := 3) rfl)
theorem wd_31_4 : Cond.methodLink RX1 50 yX1_layTrial ∈ wsL_law := wr_31 _ (List.mem_of_getElem? (i := 4) rfl)
theorem wd_31_5 : Cond.instanceMethod yX1_layTrial ∈ wsL_law := wr_31 _ (List.mem_of_getElem? (i := 5) rfl)
theorem wd_31_6 : Cond.selects RX1 yX1_layTrial yX1_layTrial ∈ wsL_law := wr_31 _ (List.mem_of_getElem? (i := 6) rfl)
theorem wd_31_7 : Cond.code yX1_layTrial cX1_layTrial 4 none ∈ wsL_law := wr_31 _ (List.mem_of_getElem? (i := 7) rfl)
theorem wd_31_8 : Cond.methodLink RX1 58 yX4_hoursOf ∈ wsL_law := wr_31 _ (List.mem_of_getElem? (i := 8) rfl)
theorem wd_31_9 : Cond.methodLink RX1 61 yX1_tryOut ∈ wsL_law := wr_31 _ (List.mem_of_getElem? (i := 9) rfl)
theorem wd_31_10 : Cond.instanceMethod yX1_tryOut ∈ wsL_law := wr_31 _ (List.mem_of_getElem? (i := 10) rfl)
theorem wd_31_11 : Cond.selects RX1 yX1_tryOut yX1_tryOut ∈ wsL_law := wr_31 _ (List.mem_of_getElem? (i := 11) rfl)
theorem wd_31_12 : Cond.code yX1_tryOut cX1_tryOut 5 none ∈ wsL_law := wr_31 _ (List.mem_of_getElem? (i := 12) rfl)
theorem wd_31_13 : Cond.fieldLink RX1 74 "MarketSpring$Spring" "standing" "I" ∈ wsL_law := wr_31 _ (List.mem_of_getElem? (i := 13) rfl)
theorem wd_31_14 : Cond.methodLink RX1 68 yX3_begin ∈ wsL_law := wr_31 _ (List.mem_of_getElem? (i := 14) rfl)
theorem wd_31_15 : Cond.methodLink RX1 71 yX3_turn ∈ wsL_law := wr_31 _ (List.mem_of_getElem? (i := 15) rfl)
theorem wd_31_16 : Cond.methodLink RX1 77 yJ6_bitCount_0f7a4 ∈ wsL_law := wr_31 _ (List.mem_of_getElem? (i := 16) rfl)
theorem wd_31_17 : Cond.methodLink RX1 81 yX1_keepTrial ∈ wsL_law := wr_31 _ (List.mem_of_getElem? (i := 17) rfl)
theorem wd_31_18 : Cond.instanceMethod yX1_keepTrial ∈ wsL_law := wr_31 _ (List.mem_of_getElem? (i := 18) rfl)
theorem wd_31_19 : Cond.selects RX1 yX1_keepTrial yX1_keepTrial ∈ wsL_law := wr_31 _ (List.mem_of_getElem? (i := 19) rfl)
theorem wd_31_20 : Cond.code yX1_keepTrial cX1_keepTrial 4 none ∈ wsL_law := wr_31 _ (List.mem_of_getElem? (i := 20) rfl)
theorem wd_31_21 : Cond.methodLink RX7 225 yX1_shiftOf ∈ wsL_law := wr_31 _ (List.mem_of_getElem? (i := 21) rfl)
theorem wd_31_22 : Cond.instanceMethod yX1_shiftOf ∈ wsL_law := wr_31 _ (List.mem_of_getElem? (i := 22) rfl)
theorem wd_31_23 : Cond.selects RX1 yX1_shiftOf yX1_shiftOf ∈ wsL_law := wr_31 _ (List.mem_of_getElem? (i := 23) rfl)
theorem wd_32_0 : Cond.code yX1_shiftOf cX1_shiftOf 2 (some .int) ∈ wsL_law := wr_32 _ (List.mem_of_getElem? (i := 0) rfl)
theorem wd_32_1 : Cond.methodLink RL 103 yX8_best ∈ wsL_law := wr_32 _ (List.mem_of_getElem? (i := 1) rfl)
theorem wd_32_2 : Cond.instanceMethod yX8_best ∈ wsL_law := wr_32 _ (List.mem_of_getElem? (i := 2) rfl)
theorem wd_32_3 : Cond.selects RX8 yX8_best yX8_best ∈ wsL_law := wr_32 _ (List.mem_of_getElem? (i := 3) rfl)
theorem wd_32_4 : Cond.code yX8_best cX8_best 13 (some .int) ∈ wsL_law := wr_32 _ (List.mem_of_getElem? (i := 4) rfl)
theorem wd_32_5 : Cond.methodLink RX8 230 yX8_mayWait ∈ wsL_law := wr_32 _ (List.mem_of_getElem? (i := 5) rfl)
theorem wd_32_6 : Cond.instanceMethod yX8_mayWait ∈ wsL_law := wr_32 _ (List.mem_of_getElem? (i := 6) rfl)
theorem wd_32_7 : Cond.selects RX8 yX8_mayWait yX8_mayWait ∈ wsL_law := wr_32 _ (List.mem_of_getElem? (i := 7) rfl)
theorem wd_32_8 : Cond.code yX8_mayWait cX8_mayWait 2 (some .boolean) ∈ wsL_law := wr_32 _ (List.mem_of_getElem? (i := 8) rfl)
theorem wd_32_9 : Cond.methodLink RL 104 yX7_lasts ∈ wsL_law := wr_32 _ (List.mem_of_getElem? (i := 9) rfl)
theorem wd_32_10 : Cond.instanceMethod yX7_lasts ∈ wsL_law := wr_32 _ (List.mem_of_getElem? (i := 10) rfl)
theorem wd_32_11 : Cond.selects RX7 yX7_lasts yX7_lasts ∈ wsL_law := wr_32 _ (List.mem_of_getElem? (i := 11) rfl)
theorem wd_32_12 : Cond.code yX7_lasts cX7_lasts 1 (some .int) ∈ wsL_law := wr_32 _ (List.mem_of_getElem? (i := 12) rfl)
theorem wd_32_13 : Cond.methodLink RX7 228 yX0_firstStanding ∈ wsL_law := wr_32 _ (List.mem_of_getElem? (i := 13) rfl)
theorem wd_32_14 : Cond.instanceMethod yX0_firstStanding ∈ wsL_law := wr_32 _ (List.mem_of_getElem? (i := 14) rfl)
theorem wd_32_15 : Cond.selects RX0 yX0_firstStanding yX0_firstStanding ∈ wsL_law := wr_32 _ (List.mem_of_getElem? (i := 15) rfl)
theorem wd_32_16 : Cond.code yX0_firstStanding cX0_firstStanding 2 (some .int) ∈ wsL_law := wr_32 _ (List.mem_of_getElem? (i := 16) rfl)
theorem wd_32_17 : Cond.methodLink RL 107 yX8_lasts ∈ wsL_law := wr_32 _ (List.mem_of_getElem? (i := 17) rfl)
theorem wd_32_18 : Cond.instanceMethod yX8_lasts ∈ wsL_law := wr_32 _ (List.mem_of_getElem? (i := 18) rfl)
theorem wd_32_19 : Cond.selects RX8 yX8_lasts yX8_lasts ∈ wsL_law := wr_32 _ (List.mem_of_getElem? (i := 19) rfl)
theorem wd_32_20 : Cond.code yX8_lasts cX8_lasts 1 (some .int) ∈ wsL_law := wr_32 _ (List.mem_of_getElem? (i := 20) rfl)
theorem wd_32_21 : Cond.methodLink RX8 233 yX8_lastsNow ∈ wsL_law := wr_32 _ (List.mem_of_getElem? (i := 21) rfl)
theorem wd_32_22 : Cond.instanceMethod yX8_lastsNow ∈ wsL_law := wr_32 _ (List.mem_of_getElem? (i := 22) rfl)
theorem wd_32_23 : Cond.selects RX8 yX8_lastsNow yX8_lastsNow ∈ wsL_law := wr_32 _ (List.mem_of_getElem? (i := 23) rfl)
theorem wd_33_0 : Cond.code yX8_lastsNow cX8_lastsNow 2 (some .int) ∈ wsL_law := wr_33 _ (List.mem_of_getElem? (i := 0) rfl)
theorem wd_33_1 : Cond.methodLink RL 108 yX7_seen ∈ wsL_law := wr_33 _ (List.mem_of_getElem? (i := 1) rfl)
theorem wd_33_2 : Cond.instanceMethod yX7_seen ∈ wsL_law := wr_33 _ (List.mem_of_getElem? (i := 2) rfl)
theorem wd_33_3 : Cond.selects RX7 yX7_seen yX7_seen ∈ wsL_law := wr_33 _ (List.mem_of_getElem? (i := 3) rfl)
theorem wd_33_4 : Cond.code yX7_seen cX7_seen 3 (some .int) ∈ wsL_law := wr_33 _ (List.mem_of_getElem? (i := 4) rfl)
theorem wd_33_5 : Cond.fieldLink RX7 231 "MarketSpring$Watch" "size" "I" ∈ wsL_law := wr_33 _ (List.mem_of_getElem? (i := 5) rfl)
theorem wd_33_6 : Cond.methodLink RX7 232 yX5_note ∈ wsL_law := wr_33 _ (List.mem_of_getElem? (i := 6) rfl)
theorem wd_33_7 : Cond.instanceMethod yX5_note ∈ wsL_law := wr_33 _ (List.mem_of_getElem? (i := 7) rfl)
theorem wd_33_8 : Cond.selects RX5 yX5_note yX5_note ∈ wsL_law := wr_33 _ (List.mem_of_getElem? (i := 8) rfl)
theorem wd_33_9 : Cond.code yX5_note cX5_note 3 none ∈ wsL_law := wr_33 _ (List.mem_of_getElem? (i := 9) rfl)
theorem wd_33_10 : Cond.methodLink RL 111 yX8_seen ∈ wsL_law := wr_33 _ (List.mem_of_getElem? (i := 10) rfl)
theorem wd_33_11 : Cond.instanceMethod yX8_seen ∈ wsL_law := wr_33 _ (List.mem_of_getElem? (i := 11) rfl)
theorem wd_33_12 : Cond.selects RX8 yX8_seen yX8_seen ∈ wsL_law := wr_33 _ (List.mem_of_getElem? (i := 12) rfl)
theorem wd_33_13 : Cond.code yX8_seen cX8_seen 3 (some .int) ∈ wsL_law := wr_33 _ (List.mem_of_getElem? (i := 13) rfl)
theorem wd_33_14 : Cond.fieldLink RX8 236 "MarketSpringModel" "sights" "I" ∈ wsL_law := wr_33 _ (List.mem_of_getElem? (i := 14) rfl)
theorem wd_33_15 : Cond.methodLink RL 112 yX7_forget ∈ wsL_law := wr_33 _ (List.mem_of_getElem? (i := 15) rfl)
theorem wd_33_16 : Cond.instanceMethod yX7_forget ∈ wsL_law := wr_33 _ (List.mem_of_getElem? (i := 16) rfl)
theorem wd_33_17 : Cond.selects RX7 yX7_forget yX7_forget ∈ wsL_law := wr_33 _ (List.mem_of_getElem? (i := 17) rfl)
theorem wd_33_18 : Cond.code yX7_forget cX7_forget 2 (some .int) ∈ wsL_law := wr_33 _ (List.mem_of_getElem? (i := 18) rfl)
theorem wd_33_19 : Cond.methodLink RX7 235 yX5_clearNotes ∈ wsL_law := wr_33 _ (List.mem_of_getElem? (i := 19) rfl)
theorem wd_33_20 : Cond.instanceMethod yX5_clearNotes ∈ wsL_law := wr_33 _ (List.mem_of_getElem? (i := 20) rfl)
theorem wd_33_21 : Cond.selects RX5 yX5_clearNotes yX5_clearNotes ∈ wsL_law := wr_33 _ (List.mem_of_getElem? (i := 21) rfl)
theorem wd_33_22 : Cond.code yX5_clearNotes cX5_clearNotes 1 none ∈ wsL_law := wr_33 _ (List.mem_of_getElem? (i := 22) rfl)
theorem wd_33_23 : Cond.methodLink RL 115 yX8_forget ∈ wsL_law := wr_33 _ (List.mem_of_getElem? (i := 23) rfl)
theorem wd_34_0 : Cond.instanceMethod yX8_forget ∈ wsL_law := wr_34 _ (List.mem_of_getElem? (i := 0) rfl)
theorem wd_34_1 : Cond.selects RX8 yX8_forget yX8_forget ∈ wsL_law := wr_34 _ (List.mem_of_getElem? (i := 1) rfl)
theorem wd_34_2 : Cond.code yX8_forget cX8_forget 2 (some .int) ∈ wsL_law := wr_34 _ (List.mem_of_getElem? (i := 2) rfl)
theorem wd_34_3 : Cond.methodLink RL 116 yX7_unlike ∈ wsL_law := wr_34 _ (List.mem_of_getElem? (i := 3) rfl)
theorem wd_34_4 : Cond.instanceMethod yX7_unlike ∈ wsL_law := wr_34 _ (List.mem_of_getElem? (i := 4) rfl)
theorem wd_34_5 : Cond.selects RX7 yX7_unlike yX7_unlike ∈ wsL_law := wr_34 _ (List.mem_of_getElem? (i := 5) rfl)
theorem wd_34_6 : Cond.code yX7_unlike cX7_unlike 1 (some .int) ∈ wsL_law := wr_34 _ (List.mem_of_getElem? (i := 6) rfl)
theorem wd_34_7 : Cond.methodLink RX7 238 yX5_differing ∈ wsL_law := wr_34 _ (List.mem_of_getElem? (i := 7) rfl)
theorem wd_34_8 : Cond.instanceMethod yX5_differing ∈ wsL_law := wr_34 _ (List.mem_of_getElem? (i := 8) rfl)
theorem wd_34_9 : Cond.selects RX5 yX5_differing yX5_differing ∈ wsL_law := wr_34 _ (List.mem_of_getElem? (i := 9) rfl)
theorem wd_34_10 : Cond.code yX5_differing cX5_differing 4 (some .int) ∈ wsL_law := wr_34 _ (List.mem_of_getElem? (i := 10) rfl)
theorem wd_34_11 : Cond.methodLink RL 119 yX8_unlike ∈ wsL_law := wr_34 _ (List.mem_of_getElem? (i := 11) rfl)
theorem wd_34_12 : Cond.instanceMethod yX8_unlike ∈ wsL_law := wr_34 _ (List.mem_of_getElem? (i := 12) rfl)
theorem wd_34_13 : Cond.selects RX8 yX8_unlike yX8_unlike ∈ wsL_law := wr_34 _ (List.mem_of_getElem? (i := 13) rfl)
theorem wd_34_14 : Cond.code yX8_unlike cX8_unlike 1 (some .int) ∈ wsL_law := wr_34 _ (List.mem_of_getElem? (i := 14) rfl)
theorem wd_34_15 : Cond.methodLink RX8 242 yX8_unlikeNow ∈ wsL_law := wr_34 _ (List.mem_of_getElem? (i := 15) rfl)
theorem wd_34_16 : Cond.instanceMethod yX8_unlikeNow ∈ wsL_law := wr_34 _ (List.mem_of_getElem? (i := 16) rfl)
theorem wd_34_17 : Cond.selects RX8 yX8_unlikeNow yX8_unlikeNow ∈ wsL_law := wr_34 _ (List.mem_of_getElem? (i := 17) rfl)
theorem wd_34_18 : Cond.code yX8_unlikeNow cX8_unlikeNow 1 (some .int) ∈ wsL_law := wr_34 _ (List.mem_of_getElem? (i := 18) rfl)
theorem wd_34_19 : Cond.methodLink RX8 239 yX8_unlikeBy ∈ wsL_law := wr_34 _ (List.mem_of_getElem? (i := 19) rfl)
theorem wd_34_20 : Cond.instanceMethod yX8_unlikeBy ∈ wsL_law := wr_34 _ (List.mem_of_getElem? (i := 20) rfl)
theorem wd_34_21 : Cond.selects RX8 yX8_unlikeBy yX8_unlikeBy ∈ wsL_law := wr_34 _ (List.mem_of_getElem? (i := 21) rfl)
theorem wd_34_22 : Cond.code yX8_unlikeBy cX8_unlikeBy 3 (some .int) ∈ wsL_law := wr_34 _ (List.mem_of_getElem? (i := 22) rfl)
theorem wd_34_23 : Cond.methodLink RL 120 yX7_thief ∈ wsL_law := wr_34 _ (List.mem_of_getElem? (i := 23) rfl)
theorem wd_35_0 : Cond.instanceMethod yX7_thief ∈ wsL_law := wr_35 _ (List.mem_of_getElem? (i := 0) rfl)
theorem wd_35_1 : Cond.selects RX7 yX7_thief yX7_thief ∈ wsL_law := wr_35 _ (List.mem_of_getElem? (i := 1) rfl)
theorem wd_35_2 : Cond.code yX7_thief cX7_thief 2 (some .int) ∈ wsL_law := wr_35 _ (List.mem_of_getElem? (i := 2) rfl)
theorem wd_35_3 : Cond.fieldLink RX7 246 "MarketSpring$Watch" "thieves" "I" ∈ wsL_law := wr_35 _ (List.mem_of_getElem? (i := 3) rfl)
theorem wd_35_4 : Cond.fieldLink RX7 249 "MarketSpring$Watch" "firstThief" "I" ∈ wsL_law := wr_35 _ (List.mem_of_getElem? (i := 4) rfl)
theorem wd_35_5 : Cond.methodLink RX7 243 yX5_search ∈ wsL_law := wr_35 _ (List.mem_of_getElem? (i := 5) rfl)
theorem wd_35_6 : Cond.instanceMethod yX5_search ∈ wsL_law := wr_35 _ (List.mem_of_getElem? (i := 6) rfl)
theorem wd_35_7 : Cond.selects RX5 yX5_search yX5_search ∈ wsL_law := wr_35 _ (List.mem_of_getElem? (i := 7) rfl)
theorem wd_35_8 : Cond.code yX5_search cX5_search 4 none ∈ wsL_law := wr_35 _ (List.mem_of_getElem? (i := 8) rfl)
theorem wd_35_9 : Cond.methodLink RX5 41 yX5_layDue ∈ wsL_law := wr_35 _ (List.mem_of_getElem? (i := 9) rfl)
theorem wd_35_10 : Cond.instanceMethod yX5_layDue ∈ wsL_law := wr_35 _ (List.mem_of_getElem? (i := 10) rfl)
theorem wd_35_11 : Cond.selects RX5 yX5_layDue yX5_layDue ∈ wsL_law := wr_35 _ (List.mem_of_getElem? (i := 11) rfl)
theorem wd_35_12 : Cond.code yX5_layDue cX5_layDue 3 none ∈ wsL_law := wr_35 _ (List.mem_of_getElem? (i := 12) rfl)
theorem wd_35_13 : Cond.methodLink RX5 60 Lib.Math.max.name ∈ wsL_law := wr_35 _ (List.mem_of_getElem? (i := 13) rfl)
theorem wd_35_14 : Cond.static Lib.Math.max.name ∈ wsL_law := wr_35 _ (List.mem_of_getElem? (i := 14) rfl)
theorem wd_35_15 : Cond.code Lib.Math.max.name Lib.Math.max.code 2 (some .int) ∈ wsL_law := wr_35 _ (List.mem_of_getElem? (i := 15) rfl)
theorem wd_35_16 : Cond.methodLink RX5 54 yJ7_fill_53178 ∈ wsL_law := wr_35 _ (List.mem_of_getElem? (i := 16) rfl)
theorem wd_35_17 : Cond.methodLink RX5 44 yX3_rob ∈ wsL_law := wr_35 _ (List.mem_of_getElem? (i := 17) rfl)
theorem wd_35_18 : Cond.methodLink RX5 50 yX5_fits ∈ wsL_law := wr_35 _ (List.mem_of_getElem? (i := 18) rfl)
theorem wd_35_19 : Cond.instanceMethod yX5_fits ∈ wsL_law := wr_35 _ (List.mem_of_getElem? (i := 19) rfl)
theorem wd_35_20 : Cond.selects RX5 yX5_fits yX5_fits ∈ wsL_law := wr_35 _ (List.mem_of_getElem? (i := 20) rfl)
theorem wd_35_21 : Cond.code yX5_fits cX5_fits 3 (some .boolean) ∈ wsL_law := wr_35 _ (List.mem_of_getElem? (i := 21) rfl)
theorem wd_35_22 : Cond.fieldLink RX5 73 "MarketSpring$Spring" "level" "I" ∈ wsL_law := wr_35 _ (List.mem_of_getElem? (i := 22) rfl)
theorem wd_35_23 : Cond.methodLink RX5 66 yX3_begin ∈ wsL_law := wr_35 _ (List.mem_of_getElem? (i := 23) rfl)
theorem wd_36_0 : Cond.methodLink RX5 69 yX3_turn ∈ wsL_law := wr_36 _ (List.mem_of_getElem? (i := 0) rfl)
theorem wd_36_1 : Cond.methodLink RL 123 yX8_thief ∈ wsL_law := wr_36 _ (List.mem_of_getElem? (i := 1) rfl)
theorem wd_36_2 : Cond.instanceMethod yX8_thief ∈ wsL_law := wr_36 _ (List.mem_of_getElem? (i := 2) rfl)
theorem wd_36_3 : Cond.selects RX8 yX8_thief yX8_thief ∈ wsL_law := wr_36 _ (List.mem_of_getElem? (i := 3) rfl)
theorem wd_36_4 : Cond.code yX8_thief cX8_thief 8 (some .int) ∈ wsL_law := wr_36 _ (List.mem_of_getElem? (i := 4) rfl)
theorem wd_36_5 : Cond.methodLink RL 124 yX7_robbed ∈ wsL_law := wr_36 _ (List.mem_of_getElem? (i := 5) rfl)
theorem wd_36_6 : Cond.instanceMethod yX7_robbed ∈ wsL_law := wr_36 _ (List.mem_of_getElem? (i := 6) rfl)
theorem wd_36_7 : Cond.selects RX7 yX7_robbed yX7_robbed ∈ wsL_law := wr_36 _ (List.mem_of_getElem? (i := 7) rfl)
theorem wd_36_8 : Cond.code yX7_robbed cX7_robbed 5 (some .int) ∈ wsL_law := wr_36 _ (List.mem_of_getElem? (i := 8) rfl)
theorem wd_36_9 : Cond.fieldLink RX7 261 "MarketSpring$Spring" "level" "I" ∈ wsL_law := wr_36 _ (List.mem_of_getElem? (i := 9) rfl)
theorem wd_36_10 : Cond.methodLink RX7 255 yX3_begin ∈ wsL_law := wr_36 _ (List.mem_of_getElem? (i := 10) rfl)
theorem wd_36_11 : Cond.methodLink RX7 258 yX3_turn ∈ wsL_law := wr_36 _ (List.mem_of_getElem? (i := 11) rfl)
theorem wd_36_12 : Cond.methodLink RL 128 yX8_robbed ∈ wsL_law := wr_36 _ (List.mem_of_getElem? (i := 12) rfl)
theorem wd_36_13 : Cond.instanceMethod yX8_robbed ∈ wsL_law := wr_36 _ (List.mem_of_getElem? (i := 13) rfl)
theorem wd_36_14 : Cond.selects RX8 yX8_robbed yX8_robbed ∈ wsL_law := wr_36 _ (List.mem_of_getElem? (i := 14) rfl)
theorem wd_36_15 : Cond.code yX8_robbed cX8_robbed 4 (some .int) ∈ wsL_law := wr_36 _ (List.mem_of_getElem? (i := 15) rfl)
theorem wd_36_16 : Cond.methodLink RX8 245 yX8_robbedOf ∈ wsL_law := wr_36 _ (List.mem_of_getElem? (i := 16) rfl)
theorem wd_36_17 : Cond.instanceMethod yX8_robbedOf ∈ wsL_law := wr_36 _ (List.mem_of_getElem? (i := 17) rfl)
theorem wd_36_18 : Cond.selects RX8 yX8_robbedOf yX8_robbedOf ∈ wsL_law := wr_36 _ (List.mem_of_getElem? (i := 18) rfl)
theorem wd_36_19 : Cond.code yX8_robbedOf cX8_robbedOf 5 (some .int) ∈ wsL_law := wr_36 _ (List.mem_of_getElem? (i := 19) rfl)
theorem wd_36_20 : Cond.methodLink RL 129 yX7_sheet ∈ wsL_law := wr_36 _ (List.mem_of_getElem? (i := 20) rfl)
theorem wd_36_21 : Cond.instanceMethod yX7_sheet ∈ wsL_law := wr_36 _ (List.mem_of_getElem? (i := 21) rfl)
theorem wd_36_22 : Cond.selects RX7 yX7_sheet yX7_sheet ∈ wsL_law := wr_36 _ (List.mem_of_getElem? (i := 22) rfl)
theorem wd_36_23 : Cond.code yX7_sheet cX7_sheet 4 (some .int) ∈ wsL_law := wr_36 _ (List.mem_of_getElem? (i := 23) rfl)
theorem wd_37_0 : Cond.methodLink RX7 264 yX7_isForm ∈ wsL_law := wr_37 _ (List.mem_of_getElem? (i := 0) rfl)
theorem wd_37_1 : Cond.static yX7_isForm ∈ wsL_law := wr_37 _ (List.mem_of_getElem? (i := 1) rfl)
theorem wd_37_2 : Cond.code yX7_isForm cX7_isForm 1 (some .boolean) ∈ wsL_law := wr_37 _ (List.mem_of_getElem? (i := 2) rfl)
theorem wd_37_3 : Cond.methodLink RX7 267 yX2_renew ∈ wsL_law := wr_37 _ (List.mem_of_getElem? (i := 3) rfl)
theorem wd_37_4 : Cond.instanceMethod yX2_renew ∈ wsL_law := wr_37 _ (List.mem_of_getElem? (i := 4) rfl)
theorem wd_37_5 : Cond.selects RX2 yX2_renew yX2_renew ∈ wsL_law := wr_37 _ (List.mem_of_getElem? (i := 5) rfl)
theorem wd_37_6 : Cond.code yX2_renew cX2_renew 3 none ∈ wsL_law := wr_37 _ (List.mem_of_getElem? (i := 6) rfl)
theorem wd_37_7 : Cond.methodLink RX2 26 yJ7_fill_53178 ∈ wsL_law := wr_37 _ (List.mem_of_getElem? (i := 7) rfl)
theorem wd_37_8 : Cond.methodLink RL 132 yX8_sheet ∈ wsL_law := wr_37 _ (List.mem_of_getElem? (i := 8) rfl)
theorem wd_37_9 : Cond.instanceMethod yX8_sheet ∈ wsL_law := wr_37 _ (List.mem_of_getElem? (i := 9) rfl)
theorem wd_37_10 : Cond.selects RX8 yX8_sheet yX8_sheet ∈ wsL_law := wr_37 _ (List.mem_of_getElem? (i := 10) rfl)
theorem wd_37_11 : Cond.code yX8_sheet cX8_sheet 5 (some .int) ∈ wsL_law := wr_37 _ (List.mem_of_getElem? (i := 11) rfl)
theorem wd_37_12 : Cond.methodLink RL 133 yX7_lose ∈ wsL_law := wr_37 _ (List.mem_of_getElem? (i := 12) rfl)
theorem wd_37_13 : Cond.instanceMethod yX7_lose ∈ wsL_law := wr_37 _ (List.mem_of_getElem? (i := 13) rfl)
theorem wd_37_14 : Cond.selects RX7 yX7_lose yX7_lose ∈ wsL_law := wr_37 _ (List.mem_of_getElem? (i := 14) rfl)
theorem wd_37_15 : Cond.code yX7_lose cX7_lose 2 (some .int) ∈ wsL_law := wr_37 _ (List.mem_of_getElem? (i := 15) rfl)
theorem wd_37_16 : Cond.methodLink RL 136 yX8_lose ∈ wsL_law := wr_37 _ (List.mem_of_getElem? (i := 16) rfl)
theorem wd_37_17 : Cond.instanceMethod yX8_lose ∈ wsL_law := wr_37 _ (List.mem_of_getElem? (i := 17) rfl)
theorem wd_37_18 : Cond.selects RX8 yX8_lose yX8_lose ∈ wsL_law := wr_37 _ (List.mem_of_getElem? (i := 18) rfl)
theorem wd_37_19 : Cond.code yX8_lose cX8_lose 2 (some .int) ∈ wsL_law := wr_37 _ (List.mem_of_getElem? (i := 19) rfl)
theorem wd_37_20 : Cond.methodLink RL 137 yX7_put ∈ wsL_law := wr_37 _ (List.mem_of_getElem? (i := 20) rfl)
theorem wd_37_21 : Cond.instanceMethod yX7_put ∈ wsL_law := wr_37 _ (List.mem_of_getElem? (i := 21) rfl)
theorem wd_37_22 : Cond.selects RX7 yX7_put yX7_put ∈ wsL_law := wr_37 _ (List.mem_of_getElem? (i := 22) rfl)
theorem wd_37_23 : Cond.code yX7_put cX7_put 6 (some .int) ∈ wsL_law := wr_37 _ (List.mem_of_getElem? (i := 23) rfl)
theorem wd_38_0 : Cond.methodLink RX7 270 yX7_findingOfItem ∈ wsL_law := wr_38 _ (List.mem_of_getElem? (i := 0) rfl)
theorem wd_38_1 : Cond.static yX7_findingOfItem ∈ wsL_law := wr_38 _ (List.mem_of_getElem? (i := 1) rfl)
theorem wd_38_2 : Cond.code yX7_findingOfItem cX7_findingOfItem 3 (some .int) ∈ wsL_law := wr_38 _ (List.mem_of_getElem? (i := 2) rfl)
theorem wd_38_3 : Cond.fieldLink RX7 278 "MarketSpring$Sheet" "form" "I" ∈ wsL_law := wr_38 _ (List.mem_of_getElem? (i := 3) rfl)
theorem wd_38_4 : Cond.methodLink RX7 274 yX2_store ∈ wsL_law := wr_38 _ (List.mem_of_getElem? (i := 4) rfl)
theorem wd_38_5 : Cond.instanceMethod yX2_store ∈ wsL_law := wr_38 _ (List.mem_of_getElem? (i := 5) rfl)
theorem wd_38_6 : Cond.selects RX2 yX2_store yX2_store ∈ wsL_law := wr_38 _ (List.mem_of_getElem? (i := 6) rfl)
theorem wd_38_7 : Cond.code yX2_store cX2_store 3 none ∈ wsL_law := wr_38 _ (List.mem_of_getElem? (i := 7) rfl)
theorem wd_38_8 : Cond.methodLink RL 141 yX8_put ∈ wsL_law := wr_38 _ (List.mem_of_getElem? (i := 8) rfl)
theorem wd_38_9 : Cond.instanceMethod yX8_put ∈ wsL_law := wr_38 _ (List.mem_of_getElem? (i := 9) rfl)
theorem wd_38_10 : Cond.selects RX8 yX8_put yX8_put ∈ wsL_law := wr_38 _ (List.mem_of_getElem? (i := 10) rfl)
theorem wd_38_11 : Cond.code yX8_put cX8_put 6 (some .int) ∈ wsL_law := wr_38 _ (List.mem_of_getElem? (i := 11) rfl)
theorem wd_38_12 : Cond.methodLink RX8 251 yX8_lacks ∈ wsL_law := wr_38 _ (List.mem_of_getElem? (i := 12) rfl)
theorem wd_38_13 : Cond.instanceMethod yX8_lacks ∈ wsL_law := wr_38 _ (List.mem_of_getElem? (i := 13) rfl)
theorem wd_38_14 : Cond.selects RX8 yX8_lacks yX8_lacks ∈ wsL_law := wr_38 _ (List.mem_of_getElem? (i := 14) rfl)
theorem wd_38_15 : Cond.code yX8_lacks cX8_lacks 4 (some .int) ∈ wsL_law := wr_38 _ (List.mem_of_getElem? (i := 15) rfl)
theorem wd_38_16 : Cond.methodLink RX8 254 yX8_keep ∈ wsL_law := wr_38 _ (List.mem_of_getElem? (i := 16) rfl)
theorem wd_38_17 : Cond.instanceMethod yX8_keep ∈ wsL_law := wr_38 _ (List.mem_of_getElem? (i := 17) rfl)
theorem wd_38_18 : Cond.selects RX8 yX8_keep yX8_keep ∈ wsL_law := wr_38 _ (List.mem_of_getElem? (i := 18) rfl)
theorem wd_38_19 : Cond.code yX8_keep cX8_keep 4 none ∈ wsL_law := wr_38 _ (List.mem_of_getElem? (i := 19) rfl)
theorem wd_38_20 : Cond.methodLink RL 142 yX7_get ∈ wsL_law := wr_38 _ (List.mem_of_getElem? (i := 20) rfl)
theorem wd_38_21 : Cond.instanceMethod yX7_get ∈ wsL_law := wr_38 _ (List.mem_of_getElem? (i := 21) rfl)
theorem wd_38_22 : Cond.selects RX7 yX7_get yX7_get ∈ wsL_law := wr_38 _ (List.mem_of_getElem? (i := 22) rfl)
theorem wd_38_23 : Cond.code yX7_get cX7_get 5 (some .int) ∈ wsL_law := wr_38 _ (List.mem_of_getElem? (i := 23) rfl)
theorem wd_39_0 : Cond.constant RX7 277 (-2147483648) ∈ wsL_law := wr_39 _ (List.mem_of_getElem? (i := 0) rfl)
theorem wd_39_1 : Cond.methodLink RL 145 yX8_get ∈ wsL_law := wr_39 _ (List.mem_of_getElem? (i := 1) rfl)
theorem wd_39_2 : Cond.instanceMethod yX8_get ∈ wsL_law := wr_39 _ (List.mem_of_getElem? (i := 2) rfl)
theorem wd_39_3 : Cond.selects RX8 yX8_get yX8_get ∈ wsL_law := wr_39 _ (List.mem_of_getElem? (i := 3) rfl)
theorem wd_39_4 : Cond.code yX8_get cX8_get 5 (some .int) ∈ wsL_law := wr_39 _ (List.mem_of_getElem? (i := 4) rfl)
theorem wd_39_5 : Cond.constant RX8 258 (-2147483648) ∈ wsL_law := wr_39 _ (List.mem_of_getElem? (i := 5) rfl)
theorem wd_39_6 : Cond.methodLink RL 146 yX7_copy ∈ wsL_law := wr_39 _ (List.mem_of_getElem? (i := 6) rfl)
theorem wd_39_7 : Cond.instanceMethod yX7_copy ∈ wsL_law := wr_39 _ (List.mem_of_getElem? (i := 7) rfl)
theorem wd_39_8 : Cond.selects RX7 yX7_copy yX7_copy ∈ wsL_law := wr_39 _ (List.mem_of_getElem? (i := 8) rfl)
theorem wd_39_9 : Cond.code yX7_copy cX7_copy 8 (some .int) ∈ wsL_law := wr_39 _ (List.mem_of_getElem? (i := 9) rfl)
theorem wd_39_10 : Cond.methodLink RX7 285 arraycopyName ∈ wsL_law := wr_39 _ (List.mem_of_getElem? (i := 10) rfl)
theorem wd_39_11 : Cond.native arraycopyName ∈ wsL_law := wr_39 _ (List.mem_of_getElem? (i := 11) rfl)
theorem wd_39_12 : Cond.static arraycopyName ∈ wsL_law := wr_39 _ (List.mem_of_getElem? (i := 12) rfl)
theorem wd_39_13 : Cond.initialized "java/lang/System" ∈ wsL_law := wr_39 _ (List.mem_of_getElem? (i := 13) rfl)
theorem wd_39_14 : Cond.methodLink RX7 281 yX2_hasRun ∈ wsL_law := wr_39 _ (List.mem_of_getElem? (i := 14) rfl)
theorem wd_39_15 : Cond.instanceMethod yX2_hasRun ∈ wsL_law := wr_39 _ (List.mem_of_getElem? (i := 15) rfl)
theorem wd_39_16 : Cond.selects RX2 yX2_hasRun yX2_hasRun ∈ wsL_law := wr_39 _ (List.mem_of_getElem? (i := 16) rfl)
theorem wd_39_17 : Cond.code yX2_hasRun cX2_hasRun 3 (some .boolean) ∈ wsL_law := wr_39 _ (List.mem_of_getElem? (i := 17) rfl)
theorem wd_39_18 : Cond.methodLink RL 150 yX8_copy ∈ wsL_law := wr_39 _ (List.mem_of_getElem? (i := 18) rfl)
theorem wd_39_19 : Cond.instanceMethod yX8_copy ∈ wsL_law := wr_39 _ (List.mem_of_getElem? (i := 19) rfl)
theorem wd_39_20 : Cond.selects RX8 yX8_copy yX8_copy ∈ wsL_law := wr_39 _ (List.mem_of_getElem? (i := 20) rfl)
theorem wd_39_21 : Cond.code yX8_copy cX8_copy 7 (some .int) ∈ wsL_law := wr_39 _ (List.mem_of_getElem? (i := 21) rfl)
theorem wd_39_22 : Cond.methodLink RL 151 yX7_write ∈ wsL_law := wr_39 _ (List.mem_of_getElem? (i := 22) rfl)
theorem wd_39_23 : Cond.instanceMethod yX7_write ∈ wsL_law := wr_39 _ (List.mem_of_getElem? (i := 23) rfl)
theorem wd_40_0 : Cond.selects RX7 yX7_write yX7_write ∈ wsL_law := wr_40 _ (List.mem_of_getElem? (i := 0) rfl)
theorem wd_40_1 : Cond.code yX7_write cX7_write 5 (some .int) ∈ wsL_law := wr_40 _ (List.mem_of_getElem? (i := 1) rfl)
theorem wd_40_2 : Cond.methodLink RL 154 yX8_write ∈ wsL_law := wr_40 _ (List.mem_of_getElem? (i := 2) rfl)
theorem wd_40_3 : Cond.instanceMethod yX8_write ∈ wsL_law := wr_40 _ (List.mem_of_getElem? (i := 3) rfl)
theorem wd_40_4 : Cond.selects RX8 yX8_write yX8_write ∈ wsL_law := wr_40 _ (List.mem_of_getElem? (i := 4) rfl)
theorem wd_40_5 : Cond.code yX8_write cX8_write 4 (some .int) ∈ wsL_law := wr_40 _ (List.mem_of_getElem? (i := 5) rfl)
theorem wd_40_6 : Cond.methodLink RL 155 yX7_count ∈ wsL_law := wr_40 _ (List.mem_of_getElem? (i := 6) rfl)
theorem wd_40_7 : Cond.instanceMethod yX7_count ∈ wsL_law := wr_40 _ (List.mem_of_getElem? (i := 7) rfl)
theorem wd_40_8 : Cond.selects RX7 yX7_count yX7_count ∈ wsL_law := wr_40 _ (List.mem_of_getElem? (i := 8) rfl)
theorem wd_40_9 : Cond.code yX7_count cX7_count 2 (some .int) ∈ wsL_law := wr_40 _ (List.mem_of_getElem? (i := 9) rfl)
theorem wd_40_10 : Cond.fieldLink RX7 291 "MarketSpring$Town" "groups" "I" ∈ wsL_law := wr_40 _ (List.mem_of_getElem? (i := 10) rfl)
theorem wd_40_11 : Cond.methodLink RX7 294 yX4_allPeople ∈ wsL_law := wr_40 _ (List.mem_of_getElem? (i := 11) rfl)
theorem wd_40_12 : Cond.instanceMethod yX4_allPeople ∈ wsL_law := wr_40 _ (List.mem_of_getElem? (i := 12) rfl)
theorem wd_40_13 : Cond.selects RX4 yX4_allPeople yX4_allPeople ∈ wsL_law := wr_40 _ (List.mem_of_getElem? (i := 13) rfl)
theorem wd_40_14 : Cond.code yX4_allPeople cX4_allPeople 3 (some .int) ∈ wsL_law := wr_40 _ (List.mem_of_getElem? (i := 14) rfl)
theorem wd_40_15 : Cond.methodLink RX4 44 yX4_ofGroup ∈ wsL_law := wr_40 _ (List.mem_of_getElem? (i := 15) rfl)
theorem wd_40_16 : Cond.methodLink RX7 300 yX6_windingOfDay ∈ wsL_law := wr_40 _ (List.mem_of_getElem? (i := 16) rfl)
theorem wd_40_17 : Cond.instanceMethod yX6_windingOfDay ∈ wsL_law := wr_40 _ (List.mem_of_getElem? (i := 17) rfl)
theorem wd_40_18 : Cond.selects RX6 yX6_windingOfDay yX6_windingOfDay ∈ wsL_law := wr_40 _ (List.mem_of_getElem? (i := 18) rfl)
theorem wd_40_19 : Cond.code yX6_windingOfDay cX6_windingOfDay 4 (some .int) ∈ wsL_law := wr_40 _ (List.mem_of_getElem? (i := 19) rfl)
theorem wd_40_20 : Cond.methodLink RL 158 yX8_count ∈ wsL_law := wr_40 _ (List.mem_of_getElem? (i := 20) rfl)
theorem wd_40_21 : Cond.instanceMethod yX8_count ∈ wsL_law := wr_40 _ (List.mem_of_getElem? (i := 21) rfl)
theorem wd_40_22 : Cond.selects RX8 yX8_count yX8_count ∈ wsL_law := wr_40 _ (List.mem_of_getElem? (i := 22) rfl)
theorem wd_40_23 : Cond.code yX8_count cX8_count 2 (some .int) ∈ wsL_law := wr_40 _ (List.mem_of_getElem? (i := 23) rfl)
theorem wd_41_0 : Cond.methodLink RX8 259 yX8_sumOf ∈ wsL_law := wr_41 _ (List.mem_of_getElem? (i := 0) rfl)
theorem wd_41_1 : Cond.instanceMethod yX8_sumOf ∈ wsL_law := wr_41 _ (List.mem_of_getElem? (i := 1) rfl)
theorem wd_41_2 : Cond.selects RX8 yX8_sumOf yX8_sumOf ∈ wsL_law := wr_41 _ (List.mem_of_getElem? (i := 2) rfl)
theorem wd_41_3 : Cond.code yX8_sumOf cX8_sumOf 5 (some .int) ∈ wsL_law := wr_41 _ (List.mem_of_getElem? (i := 3) rfl)
theorem wd_41_4 : Cond.methodLink RL 159 yX7_digest ∈ wsL_law := wr_41 _ (List.mem_of_getElem? (i := 4) rfl)
theorem wd_41_5 : Cond.instanceMethod yX7_digest ∈ wsL_law := wr_41 _ (List.mem_of_getElem? (i := 5) rfl)
theorem wd_41_6 : Cond.selects RX7 yX7_digest yX7_digest ∈ wsL_law := wr_41 _ (List.mem_of_getElem? (i := 6) rfl)
theorem wd_41_7 : Cond.code yX7_digest cX7_digest 7 (some .long) ∈ wsL_law := wr_41 _ (List.mem_of_getElem? (i := 7) rfl)
theorem wd_41_8 : Cond.constantLong RX7 303 (17) ∈ wsL_law := wr_41 _ (List.mem_of_getElem? (i := 8) rfl)
theorem wd_41_9 : Cond.constantLong RX7 305 (31) ∈ wsL_law := wr_41 _ (List.mem_of_getElem? (i := 9) rfl)
theorem wd_41_10 : Cond.fieldLink RX7 325 "MarketSpring" "DIGEST_HOURS" "[I" ∈ wsL_law := wr_41 _ (List.mem_of_getElem? (i := 10) rfl)
theorem wd_41_11 : Cond.methodLink RX7 307 yX7_count ∈ wsL_law := wr_41 _ (List.mem_of_getElem? (i := 11) rfl)
theorem wd_41_12 : Cond.methodLink RX7 310 yX7_fault ∈ wsL_law := wr_41 _ (List.mem_of_getElem? (i := 12) rfl)
theorem wd_41_13 : Cond.methodLink RX7 313 yX7_thing ∈ wsL_law := wr_41 _ (List.mem_of_getElem? (i := 13) rfl)
theorem wd_41_14 : Cond.methodLink RX7 316 yX7_stood ∈ wsL_law := wr_41 _ (List.mem_of_getElem? (i := 14) rfl)
theorem wd_41_15 : Cond.methodLink RX7 319 yX7_goes ∈ wsL_law := wr_41 _ (List.mem_of_getElem? (i := 15) rfl)
theorem wd_41_16 : Cond.methodLink RX7 322 yX7_toil ∈ wsL_law := wr_41 _ (List.mem_of_getElem? (i := 16) rfl)
theorem wd_41_17 : Cond.methodLink RX7 328 yX7_level ∈ wsL_law := wr_41 _ (List.mem_of_getElem? (i := 17) rfl)
theorem wd_41_18 : Cond.methodLink RX7 330 yX7_flow ∈ wsL_law := wr_41 _ (List.mem_of_getElem? (i := 18) rfl)
theorem wd_41_19 : Cond.methodLink RX7 333 yX7_lost ∈ wsL_law := wr_41 _ (List.mem_of_getElem? (i := 19) rfl)
theorem wd_41_20 : Cond.methodLink RX7 336 yX7_worst ∈ wsL_law := wr_41 _ (List.mem_of_getElem? (i := 20) rfl)
theorem wd_41_21 : Cond.methodLink RX7 339 yX7_fewest ∈ wsL_law := wr_41 _ (List.mem_of_getElem? (i := 21) rfl)
theorem wd_41_22 : Cond.methodLink RX7 342 yX7_place ∈ wsL_law := wr_41 _ (List.mem_of_getElem? (i := 22) rfl)
theorem wd_41_23 : Cond.methodLink RX7 345 yX7_lasts ∈ wsL_law := wr_41 _ (List.mem_of_getElem? (i := 23) rfl)
theorem wd_42_0 : Cond.methodLink RX7 348 yX7_unlike ∈ wsL_law := wr_42 _ (List.mem_of_getElem? (i := 0) rfl)
theorem wd_42_1 : Cond.methodLink RX7 351 yX7_robbed ∈ wsL_law := wr_42 _ (List.mem_of_getElem? (i := 1) rfl)
theorem wd_42_2 : Cond.methodLink RL 163 yX8_digest ∈ wsL_law := wr_42 _ (List.mem_of_getElem? (i := 2) rfl)
theorem wd_42_3 : Cond.instanceMethod yX8_digest ∈ wsL_law := wr_42 _ (List.mem_of_getElem? (i := 3) rfl)
theorem wd_42_4 : Cond.selects RX8 yX8_digest yX8_digest ∈ wsL_law := wr_42 _ (List.mem_of_getElem? (i := 4) rfl)
theorem wd_42_5 : Cond.code yX8_digest cX8_digest 5 (some .long) ∈ wsL_law := wr_42 _ (List.mem_of_getElem? (i := 5) rfl)
theorem wd_42_6 : Cond.constantLong RX8 262 (17) ∈ wsL_law := wr_42 _ (List.mem_of_getElem? (i := 6) rfl)
theorem wd_42_7 : Cond.constantLong RX8 264 (31) ∈ wsL_law := wr_42 _ (List.mem_of_getElem? (i := 7) rfl)
theorem wd_42_8 : Cond.methodLink RX8 266 yX8_count ∈ wsL_law := wr_42 _ (List.mem_of_getElem? (i := 8) rfl)
set_option maxRecDepth 100000 in
theorem ms_gG : GoodIn wsL_law wsL_law := goodIn_sub (fun _ h => h) (by decide +kernel)
/-- the nest mates' calls: from which file, its number there, which method -/
def ms_nq : List (String × Nat × MethodName) := [(RX7, 11, yX4_init), (RX7, 46, yX3_init), (RX7, 53, yX0_init), (RX7, 60, yX1_init), (RX7, 67, yX5_init), (RX7, 81, yX2_init), (RX4, 88, yX7_within), (RX4, 78, yX7_bit), (RX6, 25, yX7_bit), (RX3, 83, yX7_bit), (RX0, 54, yX7_bit), (RX1, 65, yX7_bit)]
theorem nq_0 : (RX7, 11, yX4_init) ∈ ms_nq := List.mem_of_getElem? (i := 0) rfl
theorem nq_1 : (RX7, 46, yX3_init) ∈ ms_nq := List.mem_of_getElem? (i := 1) rfl
theorem nq_2 : (RX7, 53, yX0_init) ∈ ms_nq := List.mem_of_getElem? (i := 2) rfl
theorem nq_3 : (RX7, 60, yX1_init) ∈ ms_nq := List.mem_of_getElem? (i := 3) rfl
theorem nq_4 : (RX7, 67, yX5_init) ∈ ms_nq := List.mem_of_getElem? (i := 4) rfl
theorem nq_5 : (RX7, 81, yX2_init) ∈ ms_nq := List.mem_of_getElem? (i := 5) rfl
theorem nq_6 : (RX4, 88, yX7_within) ∈ ms_nq := List.mem_of_getElem? (i := 6) rfl
theorem nq_7 : (RX4, 78, yX7_bit) ∈ ms_nq := List.mem_of_getElem? (i := 7) rfl
theorem nq_8 : (RX6, 25, yX7_bit) ∈ ms_nq := List.mem_of_getElem? (i := 8) rfl
theorem nq_9 : (RX3, 83, yX7_bit) ∈ ms_nq := List.mem_of_getElem? (i := 9) rfl
theorem nq_10 : (RX0, 54, yX7_bit) ∈ ms_nq := List.mem_of_getElem? (i := 10) rfl
theorem nq_11 : (RX1, 65, yX7_bit) ∈ ms_nq := List.mem_of_getElem? (i := 11) rfl
theorem ms_min_s : Cond.static Lib.Math.min.name ∈ wsL_law := wd_17_4
theorem ms_min_c : Cond.code Lib.Math.min.name Lib.Math.min.code 2 (some .int) ∈ wsL_law := wd_17_6
theorem ms_max_s : Cond.static Lib.Math.max.name ∈ wsL_law := wd_35_14
theorem ms_max_c : Cond.code Lib.Math.max.name Lib.Math.max.code 2 (some .int) ∈ wsL_law := wd_35_15
theorem ms_min_i : Cond.initialized "java/lang/Math" ∈ wsL_law := wd_17_5
end
section
/-! ===== the memory of an object graph that never changes its shape: cell k, place i ===== -/
abbrev Mm : Type := Nat → Nat → Int32
def ms_st (σ : Mm) (k i : Nat) (v : Int32) : Mm := fun k' => if k' = k then upd (σ k') i v else σ k'
theorem ms_st_s (σ : Mm) (k i : Nat) (v : Int32) : ms_st σ k i v k = upd (σ k) i v := by simp [ms_st]
theorem ms_st_n (σ : Mm) {k j : Nat} (i : Nat) (v : Int32) (h : j ≠ k) : ms_st σ k i v j = σ j := by simp [ms_st, h]
/-- a row of numbers as a whole -/
def ms_row (σ : Mm) (k : Nat) (f : Nat → Int32) : Mm := fun k' => if k' = k then f else σ k'
theorem ms_row_s (σ : Mm) (k : Nat) (f : Nat → Int32) : ms_row σ k f k = f := by simp [ms_row]
theorem ms_row_n (σ : Mm) {k j : Nat} (f : Nat → Int32) (h : j ≠ k) : ms_row σ k f j = σ j := by simp [ms_row, h]
/-- shapes: an array (its type's number, its length, of references: the first cell), or an object (its kind, its fields: a cell, or a number) -/
abbrev ms_Sh : Type := (Nat × Nat × Nat) ⊕ (Nat × List (Option Nat))
def ms_fl (a : Nat → Nat) (f : Nat → Int32) : Nat → List (Option Nat) → List Value
  | _, [] => []
  | i, some j :: L => .ref (a j) :: ms_fl a f (i + 1) L
  | i, none :: L => .int (f i) :: ms_fl a f (i + 1) L
theorem ms_fl_len (a : Nat → Nat) (f : Nat → Int32) : ∀ (L : List (Option Nat)) (b : Nat), (ms_fl a f b L).length = L.length
  | [], _ => rfl
  | some j :: L, b => by show (ms_fl a f (b + 1) L).length + 1 = _; rw [ms_fl_len a f L (b + 1)]; rfl
  | none :: L, b => by show (ms_fl a f (b + 1) L).length + 1 = _; rw [ms_fl_len a f L (b + 1)]; rfl
theorem ms_fl_i (a : Nat → Nat) (f : Nat → Int32) : ∀ (L : List (Option Nat)) (b i : Nat), L[i]? = some none → (ms_fl a f b L)[i]? = some (.int (f (b + i)))
  | [], _, i, h => by simp at h
  | none :: L, b, 0, _ => rfl
  | some j :: L, b, 0, h => by simp at h
  | none :: L, b, i + 1, h => by
    have := ms_fl_i a f L (b + 1) i (by simpa using h)
    show (ms_fl a f (b + 1) L)[i]? = _
    rw [this, show b + 1 + i = b + (i + 1) by omega]
  | some j :: L, b, i + 1, h => by
    have := ms_fl_i a f L (b + 1) i (by simpa using h)
    show (ms_fl a f (b + 1) L)[i]? = _
    rw [this, show b + 1 + i = b + (i + 1) by omega]
theorem ms_fl_r (a : Nat → Nat) (f : Nat → Int32) : ∀ (L : List (Option Nat)) (b i : Nat) {j : Nat}, L[i]? = some (some j) → (ms_fl a f b L)[i]? = some (.ref (a j))
  | [], _, i, _, h => by simp at h
  | none :: L, b, 0, _, h => by simp at h
  | some j :: L, b, 0, j', h => by
    have : j = j' := by simpa using h
    subst this; rfl
  | none :: L, b, i + 1, _, h => ms_fl_r a f L (b + 1) i (by simpa using h)
  | some j :: L, b, i + 1, _, h => ms_fl_r a f L (b + 1) i (by simpa using h)
theorem ms_fl_same (a : Nat → Nat) {f g : Nat → Int32} : ∀ (L : List (Option Nat)) (b : Nat), (∀ j, b ≤ j → f j = g j) → ms_fl a f b L = ms_fl a g b L
  | [], _, _ => rfl
  | some j :: L, b, h => by
    show _ :: ms_fl a f (b + 1) L = _ :: ms_fl a g (b + 1) L
    rw [ms_fl_same a L (b + 1) (fun j hj => h j (by omega))]
  | none :: L, b, h => by
    show .int (f b) :: ms_fl a f (b + 1) L = .int (g b) :: ms_fl a g (b + 1) L
    rw [ms_fl_same a L (b + 1) (fun j hj => h j (by omega)), h b (Nat.le_refl b)]
theorem ms_fl_set (a : Nat → Nat) (f : Nat → Int32) (v : Int32) : ∀ (L : List (Option Nat)) (b i : Nat), L[i]? = some none → (ms_fl a f b L).set i (.int v) = ms_fl a (upd f (b + i) v) b L
  | [], _, i, h => by simp at h
  | none :: L, b, 0, _ => by
    show .int v :: ms_fl a f (b + 1) L = .int (upd f (b + 0) v b) :: ms_fl a (upd f (b + 0) v) (b + 1) L
    rw [ms_fl_same a (g := upd f (b + 0) v) L (b + 1) (fun j hj => by simp [upd]; omega)]
    simp [upd]
  | some j :: L, b, 0, h => by simp at h
  | none :: L, b, i + 1, h => by
    have := ms_fl_set a f v L (b + 1) i (by simpa using h)
    show .int (f b) :: (ms_fl a f (b + 1) L).set i (.int v) = .int (upd f (b + (i + 1)) v b) :: ms_fl a (upd f (b + (i + 1)) v) (b + 1) L
    rw [this, show b + 1 + i = b + (i + 1) by omega]
    have e : upd f (b + (i + 1)) v b = f b := by simp [upd]
    rw [e]
  | some j :: L, b, i + 1, h => by
    have := ms_fl_set a f v L (b + 1) i (by simpa using h)
    show _ :: (ms_fl a f (b + 1) L).set i (.int v) = _ :: ms_fl a (upd f (b + (i + 1)) v) (b + 1) L
    rw [this, show b + 1 + i = b + (i + 1) by omega]
def ms_ent (a : Nat → Nat) (cA : Nat → ClassId) (f : Nat → Int32) : ms_Sh → va_E
  | .inl (t, n, b) => if t = 2 then .inl (cA 2, n, .inr (.inr (.inr (.inr (fun i => some (a (b + 2 * i))))))) else .inl (cA t, n, .inl f)
  | .inr (ci, L) => .inr (ci, ms_fl a f 0 L)
def ms_wl (a : Nat → Nat) (cA : Nat → ClassId) (σ : Mm) : Nat → List ms_Sh → va_W
  | _, [] => []
  | k, x :: r => (a k, ms_ent a cA (σ k) x) :: ms_wl a cA σ (k + 1) r
theorem ms_wl_get (a : Nat → Nat) (cA : Nat → ClassId) (σ : Mm) : ∀ (sh : List ms_Sh) (b k : Nat) {x : ms_Sh}, sh[k]? = some x → (ms_wl a cA σ b sh)[k]? = some (a (b + k), ms_ent a cA (σ (b + k)) x)
  | [], _, k, _, h => by simp at h
  | y :: r, b, 0, x, h => by
    have : y = x := by simpa using h
    subst this; rfl
  | y :: r, b, k + 1, x, h => by
    have := ms_wl_get a cA σ r (b + 1) k (x := x) (by simpa using h)
    show (ms_wl a cA σ (b + 1) r)[k]? = _
    rw [this, show b + 1 + k = b + (k + 1) by omega]
theorem ms_wl_none (a : Nat → Nat) (cA : Nat → ClassId) (σ : Mm) : ∀ (sh : List ms_Sh) (b k : Nat) {q : Nat × va_E}, (ms_wl a cA σ b sh)[k]? = some q → k < sh.length ∧ q.1 = a (b + k)
  | [], _, k, q, h => by simp [ms_wl] at h
  | y :: r, b, 0, q, h => by
    have : (a b, ms_ent a cA (σ b) y) = q := by simpa [ms_wl] using h
    subst this
    exact ⟨by simp, rfl⟩
  | y :: r, b, k + 1, q, h => by
    have := ms_wl_none a cA σ r (b + 1) k (q := q) (by simpa [ms_wl] using h)
    refine ⟨by simpa using this.1, ?_⟩
    rw [this.2, show b + 1 + k = b + (k + 1) by omega]
theorem ms_wl_same (a : Nat → Nat) (cA : Nat → ClassId) {σ σ' : Mm} : ∀ (sh : List ms_Sh) (b : Nat), (∀ j, b ≤ j → σ j = σ' j) → ms_wl a cA σ b sh = ms_wl a cA σ' b sh
  | [], _, _ => rfl
  | y :: r, b, h => by
    show (a b, ms_ent a cA (σ b) y) :: ms_wl a cA σ (b + 1) r = (a b, ms_ent a cA (σ' b) y) :: ms_wl a cA σ' (b + 1) r
    rw [h b (Nat.le_refl b), ms_wl_same a cA r (b + 1) (fun j hj => h j (by omega))]
theorem ms_wl_set (a : Nat → Nat) (cA : Nat → ClassId) {σ σ' : Mm} : ∀ (sh : List ms_Sh) (b k : Nat) {x : ms_Sh}, sh[k]? = some x → (∀ j, j ≠ b + k → σ' j = σ j) → (ms_wl a cA σ b sh).set k (a (b + k), ms_ent a cA (σ' (b + k)) x) = ms_wl a cA σ' b sh
  | [], _, k, _, h, _ => by simp at h
  | y :: r, b, 0, x, h, hs => by
    have : y = x := by simpa using h
    subst this
    show (a (b + 0), ms_ent a cA (σ' (b + 0)) y) :: ms_wl a cA σ (b + 1) r = (a b, ms_ent a cA (σ' b) y) :: ms_wl a cA σ' (b + 1) r
    rw [ms_wl_same a cA r (b + 1) (fun j hj => (hs j (by omega)).symm)]
    rfl
  | y :: r, b, k + 1, x, h, hs => by
    have := ms_wl_set a cA (σ := σ) (σ' := σ') r (b + 1) k (x := x) (by simpa using h) (fun j hj => hs j (by omega))
    show (a b, ms_ent a cA (σ b) y) :: (ms_wl a cA σ (b + 1) r).set k (a (b + (k + 1)), ms_ent a cA (σ' (b + (k + 1))) x) = (a b, ms_ent a cA (σ' b) y) :: ms_wl a cA σ' (b + 1) r
    rw [show b + (k + 1) = b + 1 + k by omega, this, hs b (by omega)]
def ms_A (a : Nat → Nat) (n : Nat) : Nat → Prop := fun q => ∃ k, k < n ∧ a k = q
def ms_Dis (a : Nat → Nat) (n : Nat) : Prop := ∀ i j, i < n → j < n → a i = a j → i = j
theorem ms_D {a : Nat → Nat} {cA : Nat → ClassId} {σ : Mm} {sh : List ms_Sh} (h : ms_Dis a sh.length) : va_D (ms_A a sh.length) (ms_wl a cA σ 0 sh) := by
  refine ⟨fun i j p q hi hj e => ?_, fun k q hk => ?_⟩
  · obtain ⟨i1, i2⟩ := ms_wl_none a cA σ sh 0 i hi
    obtain ⟨j1, j2⟩ := ms_wl_none a cA σ sh 0 j hj
    rw [i2, j2, Nat.zero_add, Nat.zero_add] at e
    exact h i j i1 j1 e
  · obtain ⟨i1, i2⟩ := ms_wl_none a cA σ sh 0 k hk
    exact ⟨k, i1, by rw [i2, Nat.zero_add]⟩
def ms_tys (cA : Nat → ClassId) : List (ClassId × FieldType) := [(cA 0, .int), (cA 1, .boolean), (cA 2, .object RX2)]
/-- the nest mates' links -/
def ms_NW (U : State) : Prop := ∀ q ∈ ms_nq, va_Nw (.methodLinkNest q.1 q.2.1 q.2.2 "MarketSpring") U
theorem ms_NW.warm {s U : State} (hW : s.WarmedH U.vm) (h : ms_NW s) : ms_NW U := fun q hq => va_Nw.warmM hW (h q hq)
theorem ms_NW.same {s U : State} (e : s.vm = U.vm) (h : ms_NW s) : ms_NW U := fun q hq => va_Nw.same rfl e (h q hq)
def ms_C (p : Program) (s : State) (m : MethodId) (args : Array Value) (meth : Method) (c : Code) (D : va_G) (cA : Nat → ClassId) (a : Nat → Nat) (sh : List ms_Sh) (cc : ByteArray) (nL : Nat) (own : String) (ret : Option FieldType) : Prop :=
  p.tables.exec = Jvm.exec ∧ c.code = cc ∧ c.maxLocals = nL ∧ s.vm.findClass own = some m.cls ∧ (∀ w ∈ wsL_law, w.before args s = true) ∧ meth.sig.returnType = ret ∧ meth.locks = false ∧ va_K D vwCl (ms_tys cA) s ∧ ms_Dis a sh.length ∧ ms_NW s
def ms_I (D : va_G) (cA : Nat → ClassId) (a : Nat → Nat) (sh : List ms_Sh) (s : State) (σ : Mm) (H : Heap) (locs : List Loc) : Prop := va_P D vwCl (ms_wl a cA σ 0 sh) H ∧ va_S (ms_A a sh.length) s.heap H locs
def ms_Pc (D : va_G) (cA : Nat → ClassId) (a : Nat → Nat) (sh : List ms_Sh) (av : List Value) (σ : Mm) : Array Value → State → Prop := va_Pc av (fun U => va_K D vwCl (ms_tys cA) U ∧ ms_NW U ∧ va_P D vwCl (ms_wl a cA σ 0 sh) U.heap)
def ms_B (D : va_G) (cA : Nat → ClassId) (a : Nat → Nat) (sh : List ms_Sh) (u : Mm) (t : State) : Prop := va_P D vwCl (ms_wl a cA u 0 sh) t.heap
abbrev ms_Qi (D : va_G) (cA : Nat → ClassId) (a : Nat → Nat) (sh : List ms_Sh) (r : Int32) (u : Mm) : Array Value → State → Outcome → State → Prop := va_Qi (fun (r' : Int32) (u' : Mm) => r' = r ∧ u' = u) (ms_B D cA a sh) (ms_A a sh.length)
abbrev ms_Ql (D : va_G) (cA : Nat → ClassId) (a : Nat → Nat) (sh : List ms_Sh) (r : Int64) (u : Mm) : Array Value → State → Outcome → State → Prop := va_Ql (fun (r' : Int64) (u' : Mm) => r' = r ∧ u' = u) (ms_B D cA a sh) (ms_A a sh.length)
abbrev ms_Qv (D : va_G) (cA : Nat → ClassId) (a : Nat → Nat) (sh : List ms_Sh) (u : Mm) : Array Value → State → Outcome → State → Prop := va_Qv (fun (u' : Mm) => u' = u) (ms_B D cA a sh) (ms_A a sh.length)
theorem ms_blind {D : va_G} {cA : Nat → ClassId} {a : Nat → Nat} {sh : List ms_Sh} {av : List Value} {σ : Mm} : FrameBlind (ms_Pc D cA a sh av σ) := fun b U g mk q => by
  obtain ⟨q0, qK, qN, qP⟩ := q
  exact ⟨q0, va_K.moved (u := U) (U := U.calling g mk b) (Vm.Alike.refl U.vm) qK, ms_NW.same (s := U) (U := U.calling g mk b) rfl qN, qP⟩
/-! ===== partial functions: a guard, a name, a call ===== -/
def ms_g {β : Type} (c : Prop) [Decidable c] (x : Option β) : Option β := if c then x else none
theorem ms_gE {β : Type} {c : Prop} [Decidable c] {x : Option β} {y : β} (h : ms_g c x = some y) : c ∧ x = some y := by
  unfold ms_g at h
  split at h
  · exact ⟨‹c›, h⟩
  · cases h
theorem ms_g_t {β : Type} {c : Prop} [Decidable c] {x : Option β} (h : c) : ms_g c x = x := if_pos h
def ms_lt {α β : Type} (e : α) (k : α → Option β) : Option β := k e
theorem ms_ltE {α β : Type} {e x : α} {k : α → Option β} {y : β} (hx : x = e) (h : ms_lt e k = some y) : k x = some y := by rw [hx]; exact h
theorem ms_bdE {α β : Type} {o : Option α} {k : α → Option β} {y : β} (h : o.bind k = some y) : ∃ x, o = some x ∧ k x = some y := by
  cases o with
  | none => cases h
  | some x => exact ⟨x, rfl, h⟩
theorem ms_ifT {β : Type} {c : Prop} [Decidable c] {x y : Option β} {z : β} (hc : c) (h : (if c then x else y) = some z) : x = some z := by rwa [if_pos hc] at h
theorem ms_ifF {β : Type} {c : Prop} [Decidable c] {x y : Option β} {z : β} (hc : ¬ c) (h : (if c then x else y) = some z) : y = some z := by rwa [if_neg hc] at h
abbrev ms_in (i : Int32) (n : Nat) : Prop := 0 ≤ i.toInt ∧ i.toInt < n
theorem ms_inV {i : Int32} {n : Nat} (h : ms_in i n) : vp_in i n := vp_in_iff.mpr h
def ms_ix (i : Int32) : Nat := i.toNatClampNeg
def ms_fu : Nat := 20000
theorem ms_nb {x : Int32} (h : x = 0 ∨ x = 1) : narrow .boolean (.int x) = .int x := by rcases h with rfl | rfl <;> rfl
theorem ms_fb {x : Int32} (h : x = 0 ∨ x = 1) : fits .boolean (.int x) = true := by rcases h with rfl | rfl <;> rfl
theorem ms_vb {x : Int32} (h : x = 0 ∨ x = 1) : vp_nar .boolean x = x := by rcases h with rfl | rfl <;> rfl
end
section
/-! ===== rows over that memory ===== -/
section MSR
variable {p : Program} {l : Launch} {e : Env} {R : Room} {s : State} {m : MethodId} {args : Array Value} {below : List Frame} {meth : Method} {c : Code} {H : Heap} {locs : List Loc} {cells slots : Nat} {Q : State → Prop}
variable {D : va_G} {cA : Nat → ClassId} {a : Nat → Nat} {sh : List ms_Sh} {cc : ByteArray} {nL : Nat} {own : String} {ret : Option FieldType} {σ : Mm} {pc : Nat} {ls : Array Slot} {rest : List Value}
theorem ms_gi (Cx : ms_C p s m args meth c D cA a sh cc nL own ret) (hI : ms_I D cA a sh s σ H locs) (k i : Nat) {ci : Nat} {L : List (Option Nat)} {C : String} {T : u_T} {N : Nat} (hs : sh[k]? = some (.inr (ci, L))) (hL : L[i]? = some none) (hc : vwCl[ci]? = some (C, T, N)) (hin : ∀ w ∈ u_ws C T N, w ∈ wsL_law) (hk : i < N) {index : Nat} (hl : Cond.fieldLink own index (T i).1 (T i).2.1 (T i).2.2.1 ∈ wsL_law) (hd : decode cc pc = .ok (.getfield index, 3))
    (kk : W p l e R s m args below meth c H locs cells slots Q (F0 m (pc + 3) ls (.int (σ k i) :: rest))) : W p l e R s m args below meth c H locs cells slots Q (F0 m pc ls (.ref (a k) :: rest)) := by
  obtain ⟨hx, hb, -, hown, hts, -, -, hK, -, -⟩ := Cx
  have he := ms_wl_get a cA σ sh 0 k hs
  rw [Nat.zero_add] at he
  refine va_get (fs := ms_fl a (σ k) 0 L) (v := .int (σ k i)) hx hb hts hin hown hK hI.1 k he hc i hk (hts _ hl) (fun _ h => h) ?_ hd kk
  rw [ms_fl_i a (σ k) L 0 i hL, Nat.zero_add]
theorem ms_gr (Cx : ms_C p s m args meth c D cA a sh cc nL own ret) (hI : ms_I D cA a sh s σ H locs) (k i j : Nat) {ci : Nat} {L : List (Option Nat)} {C : String} {T : u_T} {N : Nat} (hs : sh[k]? = some (.inr (ci, L))) (hL : L[i]? = some (some j)) (hc : vwCl[ci]? = some (C, T, N)) (hin : ∀ w ∈ u_ws C T N, w ∈ wsL_law) (hk : i < N) {index : Nat} (hl : Cond.fieldLink own index (T i).1 (T i).2.1 (T i).2.2.1 ∈ wsL_law) (hd : decode cc pc = .ok (.getfield index, 3))
    (kk : W p l e R s m args below meth c H locs cells slots Q (F0 m (pc + 3) ls (.ref (a j) :: rest))) : W p l e R s m args below meth c H locs cells slots Q (F0 m pc ls (.ref (a k) :: rest)) := by
  obtain ⟨hx, hb, -, hown, hts, -, -, hK, -, -⟩ := Cx
  have he := ms_wl_get a cA σ sh 0 k hs
  rw [Nat.zero_add] at he
  refine va_get (fs := ms_fl a (σ k) 0 L) (v := .ref (a j)) hx hb hts hin hown hK hI.1 k he hc i hk (hts _ hl) (fun _ h => h) ?_ hd kk
  rw [ms_fl_r a (σ k) L 0 i hL]
theorem ms_pi (Cx : ms_C p s m args meth c D cA a sh cc nL own ret) (hI : ms_I D cA a sh s σ H locs) (k i : Nat) {v : Int32} {ci : Nat} {L : List (Option Nat)} {C : String} {T : u_T} {N : Nat} (hs : sh[k]? = some (.inr (ci, L))) (hL : L[i]? = some none) (hc : vwCl[ci]? = some (C, T, N)) (hin : ∀ w ∈ u_ws C T N, w ∈ wsL_law) (ty0 : Nat → FieldType) (hty : ∀ k, k < N → parseFieldDescriptor (T k).2.2.1 = some (ty0 k)) (hnm : ∀ a, a < N → ∀ b, b < N → a ≠ b → (T a).2.1 ≠ (T b).2.1) (hk : i < N) (hfin : (T i).2.2.2 = false) (hn : narrow (ty0 i) (.int v) = .int v) (hfit : fits (ty0 i) (.int v) = true) {index : Nat} (hl : Cond.fieldLink own index (T i).1 (T i).2.1 (T i).2.2.1 ∈ wsL_law) (hd : decode cc pc = .ok (.putfield index, 3))
    (kk : ∀ (H1 : Heap) (locs1 : List Loc), ms_I D cA a sh s (ms_st σ k i v) H1 locs1 → W p l e R s m args below meth c H1 locs1 cells slots Q (F0 m (pc + 3) ls rest)) : W p l e R s m args below meth c H locs cells slots Q (F0 m pc ls (.int v :: .ref (a k) :: rest)) := by
  obtain ⟨hx, hb, -, hown, hts, -, -, hK, hDis, -⟩ := Cx
  have he := ms_wl_get a cA σ sh 0 k hs
  rw [Nat.zero_add] at he
  refine va_put (fs := ms_fl a (σ k) 0 L) (v := .int v) (ty := ty0 i) hx hb hts hin ty0 hty hnm hown hK hI.1 (ms_D hDis) hI.2 k he hc i hk (hts _ hl) (fun _ h => h) hfin (hty i hk) hn hfit ?_ hd (fun H1 locs1 h1 _ h3 => kk H1 locs1 ⟨?_, h3⟩)
  · rw [ms_fl_len]; exact (List.getElem?_eq_some_iff.mp hL).1
  · have e2 := ms_wl_set a cA (σ := σ) (σ' := ms_st σ k i v) sh 0 k hs (fun j hj => ms_st_n σ i v (by omega))
    rw [Nat.zero_add] at e2
    rw [← e2]
    rw [ms_fl_set a (σ k) v L 0 i hL, Nat.zero_add] at h1
    rw [ms_st_s]
    exact h1
theorem ms_ld (Cx : ms_C p s m args meth c D cA a sh cc nL own ret) (hI : ms_I D cA a sh s σ H locs) (k : Nat) {n b : Nat} (hs : sh[k]? = some (.inl (0, n, b))) {i : Int32} (hi : ms_in i n) (hd : decode cc pc = .ok (.iaload, 1))
    (kk : W p l e R s m args below meth c H locs cells slots Q (F0 m (pc + 1) ls (.int (σ k (ms_ix i)) :: rest))) : W p l e R s m args below meth c H locs cells slots Q (F0 m pc ls (.int i :: .ref (a k) :: rest)) := by
  obtain ⟨hx, hb, -, hown, hts, -, -, hK, -, -⟩ := Cx
  have he := ms_wl_get a cA σ sh 0 k hs
  rw [Nat.zero_add] at he
  exact va_iald hx hb hK hI.1 k 0 (f := σ k) (n := n) (cA := cA 0) he rfl (ms_inV hi) hd kk
theorem ms_ldz (Cx : ms_C p s m args meth c D cA a sh cc nL own ret) (hI : ms_I D cA a sh s σ H locs) (k : Nat) {n b : Nat} (hs : sh[k]? = some (.inl (1, n, b))) {i : Int32} (hi : ms_in i n) (hd : decode cc pc = .ok (.baload, 1))
    (kk : W p l e R s m args below meth c H locs cells slots Q (F0 m (pc + 1) ls (.int (σ k (ms_ix i)) :: rest))) : W p l e R s m args below meth c H locs cells slots Q (F0 m pc ls (.int i :: .ref (a k) :: rest)) := by
  obtain ⟨hx, hb, -, hown, hts, -, -, hK, -, -⟩ := Cx
  have he := ms_wl_get a cA σ sh 0 k hs
  rw [Nat.zero_add] at he
  exact va_zald hx hb hK hI.1 k 1 (f := σ k) (n := n) (cA := cA 1) he rfl (ms_inV hi) hd kk
theorem ms_ldr (Cx : ms_C p s m args meth c D cA a sh cc nL own ret) (hI : ms_I D cA a sh s σ H locs) (k : Nat) {n b : Nat} (hs : sh[k]? = some (.inl (2, n, b))) {i : Int32} (hi : ms_in i n) (hd : decode cc pc = .ok (.aaload, 1))
    (kk : W p l e R s m args below meth c H locs cells slots Q (F0 m (pc + 1) ls (.ref (a (b + 2 * ms_ix i)) :: rest))) : W p l e R s m args below meth c H locs cells slots Q (F0 m pc ls (.int i :: .ref (a k) :: rest)) := by
  obtain ⟨hx, hb, -, hown, hts, -, -, hK, -, -⟩ := Cx
  have he := ms_wl_get a cA σ sh 0 k hs
  rw [Nat.zero_add] at he
  exact va_aldq hx hb hK hI.1 k 2 (f := fun i => some (a (b + 2 * i))) (n := n) (cA := cA 2) (C := RX2) he rfl (ms_inV hi) hd kk
theorem ms_sto (Cx : ms_C p s m args meth c D cA a sh cc nL own ret) (hI : ms_I D cA a sh s σ H locs) (k : Nat) {n b : Nat} (hs : sh[k]? = some (.inl (0, n, b))) {i x : Int32} (hi : ms_in i n) (hd : decode cc pc = .ok (.iastore, 1))
    (kk : ∀ (H1 : Heap) (locs1 : List Loc), ms_I D cA a sh s (ms_st σ k (ms_ix i) x) H1 locs1 → W p l e R s m args below meth c H1 locs1 cells slots Q (F0 m (pc + 1) ls rest)) : W p l e R s m args below meth c H locs cells slots Q (F0 m pc ls (.int x :: .int i :: .ref (a k) :: rest)) := by
  obtain ⟨hx, hb, -, hown, hts, -, -, hK, hDis, -⟩ := Cx
  have he := ms_wl_get a cA σ sh 0 k hs
  rw [Nat.zero_add] at he
  refine va_iast hx hb hK hI.1 (ms_D hDis) hI.2 k 0 (f := σ k) (n := n) (cA := cA 0) he rfl (ms_inV hi) hd (fun H1 locs1 h1 _ h3 => kk H1 locs1 ⟨?_, h3⟩)
  have e2 := ms_wl_set a cA (σ := σ) (σ' := ms_st σ k (ms_ix i) x) sh 0 k hs (fun j hj => ms_st_n σ _ x (by omega))
  rw [Nat.zero_add] at e2
  rw [← e2, ms_st_s]
  exact h1
theorem ms_stz (Cx : ms_C p s m args meth c D cA a sh cc nL own ret) (hI : ms_I D cA a sh s σ H locs) (k : Nat) {n b : Nat} (hs : sh[k]? = some (.inl (1, n, b))) {i x : Int32} (hi : ms_in i n) (hz : x = 0 ∨ x = 1) (hd : decode cc pc = .ok (.bastore, 1))
    (kk : ∀ (H1 : Heap) (locs1 : List Loc), ms_I D cA a sh s (ms_st σ k (ms_ix i) x) H1 locs1 → W p l e R s m args below meth c H1 locs1 cells slots Q (F0 m (pc + 1) ls rest)) : W p l e R s m args below meth c H locs cells slots Q (F0 m pc ls (.int x :: .int i :: .ref (a k) :: rest)) := by
  obtain ⟨hx, hb, -, hown, hts, -, -, hK, hDis, -⟩ := Cx
  have he := ms_wl_get a cA σ sh 0 k hs
  rw [Nat.zero_add] at he
  refine va_zast hx hb hK hI.1 (ms_D hDis) hI.2 k 1 (f := σ k) (n := n) (cA := cA 1) he rfl (ms_inV hi) hd (fun H1 locs1 h1 _ h3 => kk H1 locs1 ⟨?_, h3⟩)
  have e2 := ms_wl_set a cA (σ := σ) (σ' := ms_st σ k (ms_ix i) x) sh 0 k hs (fun j hj => ms_st_n σ _ x (by omega))
  rw [Nat.zero_add] at e2
  rw [ms_vb hz] at h1
  rw [← e2, ms_st_s]
  exact h1
theorem ms_ri (Cx : ms_C p s m args meth c D cA a sh cc nL own (some .int)) {free : Addr → Prop} (hI : ms_I D cA a sh s σ H locs) {v r : Int32} {u : Mm} (hr : v = r) (hu : σ = u) (hd : decode cc pc = .ok (.ireturn, 1)) : W p l e R s m args below meth c H locs cells slots (MQ below (ms_Qi D cA a sh r u) args s cells slots (ms_A a sh.length)) (F0 m pc ls [.int v]) := by
  obtain ⟨hx, hb, -, hown, hts, hrt, hlocks, hK, hDis, -⟩ := Cx
  subst hr; subst hu
  exact W.iret hx hb hrt (fun t ht hW => ⟨⟨v, σ, rfl, ⟨rfl, rfl⟩, by show va_P _ _ _ _; rw [ht]; exact hI.1⟩, hI.2.F ht⟩) hI.2.2.2 hd
theorem ms_rz (Cx : ms_C p s m args meth c D cA a sh cc nL own (some .boolean)) (hI : ms_I D cA a sh s σ H locs) {v r : Int32} {u : Mm} (hz : v = 0 ∨ v = 1) (hr : v = r) (hu : σ = u) (hd : decode cc pc = .ok (.ireturn, 1)) : W p l e R s m args below meth c H locs cells slots (MQ below (ms_Qi D cA a sh r u) args s cells slots (ms_A a sh.length)) (F0 m pc ls [.int v]) := by
  obtain ⟨hx, hb, -, hown, hts, hrt, hlocks, hK, hDis, -⟩ := Cx
  subst hr; subst hu
  exact W.zret hx hb hrt (ms_nb hz) (fun t ht hW => ⟨⟨v, σ, rfl, ⟨rfl, rfl⟩, by show va_P _ _ _ _; rw [ht]; exact hI.1⟩, hI.2.F ht⟩) hI.2.2.2 hd
theorem ms_rl (Cx : ms_C p s m args meth c D cA a sh cc nL own (some .long)) (hI : ms_I D cA a sh s σ H locs) {v r : Int64} {u : Mm} (hr : v = r) (hu : σ = u) (hd : decode cc pc = .ok (.lreturn, 1)) : W p l e R s m args below meth c H locs cells slots (MQ below (ms_Ql D cA a sh r u) args s cells slots (ms_A a sh.length)) (F0 m pc ls [.long v]) := by
  obtain ⟨hx, hb, -, hown, hts, hrt, hlocks, hK, hDis, -⟩ := Cx
  subst hr; subst hu
  exact W.lret hx hb hrt (fun t ht hW => ⟨⟨v, σ, rfl, ⟨rfl, rfl⟩, by show va_P _ _ _ _; rw [ht]; exact hI.1⟩, hI.2.F ht⟩) hI.2.2.2 hd
theorem ms_rv (Cx : ms_C p s m args meth c D cA a sh cc nL own none) (hI : ms_I D cA a sh s σ H locs) {u : Mm} (hu : σ = u) (hd : decode cc pc = .ok (.return_, 1)) : W p l e R s m args below meth c H locs cells slots (MQ below (ms_Qv D cA a sh u) args s cells slots (ms_A a sh.length)) (F0 m pc ls []) := by
  obtain ⟨hx, hb, -, hown, hts, hrt, hlocks, hK, hDis, -⟩ := Cx
  subst hu
  exact W.vret hx hb hrt (fun t ht hW => ⟨⟨σ, rfl, rfl, by show va_P _ _ _ _; rw [ht]; exact hI.1⟩, hI.2.F ht⟩) hI.2.2.2 hd
/-! calls -/
variable {y : MethodName} {bytes : ByteArray} {maxL n idx : Nat} {rt : Option FieldType} {rm : Room} {C : String} {av : List Value} {st0 : List Value}
/-- what a method's own words say: instance, static -/
def ms_YV (y : MethodName) (C : String) (bytes : ByteArray) (maxL : Nat) (rt : Option FieldType) (n : Nat) : Prop := Cond.instanceMethod y ∈ wsL_law ∧ Cond.selects C y y ∈ wsL_law ∧ Cond.initialized C ∈ wsL_law ∧ Cond.code y bytes maxL rt ∈ wsL_law ∧ y.cls = C ∧ y.cls ≠ "java/lang/invoke/MethodHandle" ∧ y.cls ≠ "java/lang/invoke/VarHandle" ∧ (parseMethodDescriptor y.desc).map (fun d => d.parameters.length) = some n
def ms_YS (y : MethodName) (bytes : ByteArray) (maxL : Nat) (rt : Option FieldType) (n : Nat) : Prop := Cond.static y ∈ wsL_law ∧ Cond.initialized y.cls ∈ wsL_law ∧ Cond.code y bytes maxL rt ∈ wsL_law ∧ y.cls ≠ "java/lang/invoke/MethodHandle" ∧ y.cls ≠ "java/lang/invoke/VarHandle" ∧ (parseMethodDescriptor y.desc).map (fun d => d.parameters.length) = some n
theorem ms_gw {w : Cond} (h : w ∈ wsL_law) : w ∈ wsL_law ∧ ((w.onTables && w.keeps) = true ∨ ∃ ty, w = .arrayClass ty) := ms_gG w h
theorem ms_GV (hy : ms_YV y C bytes maxL rt n) (hl : Cond.methodLink own idx y ∈ wsL_law) : GoodIn wsL_law (wsV own idx C y (.code y bytes maxL rt :: wsL_law)) := by
  obtain ⟨h1, h2, h3, h4, -⟩ := hy
  intro w hw
  unfold wsV at hw
  rcases List.mem_append.mp hw with h | h
  · simp only [List.mem_cons, List.not_mem_nil, or_false] at h
    rcases h with rfl | rfl | rfl | rfl
    · exact ms_gw hl
    · exact ms_gw h1
    · exact ms_gw h2
    · exact ms_gw h3
  · rcases List.mem_cons.mp h with rfl | h
    · exact ms_gw h4
    · exact ms_gw h
theorem ms_GS (hy : ms_YS y bytes maxL rt n) (hl : Cond.methodLink own idx y ∈ wsL_law) : GoodIn wsL_law (va_wsS own idx y (.code y bytes maxL rt :: wsL_law)) := by
  obtain ⟨h1, h2, h4, -⟩ := hy
  intro w hw
  unfold va_wsS at hw
  rcases List.mem_append.mp hw with h | h
  · simp only [List.mem_cons, List.not_mem_nil, or_false] at h
    rcases h with rfl | rfl | rfl
    · exact ms_gw hl
    · exact ms_gw h1
    · exact ms_gw h2
  · rcases List.mem_cons.mp h with rfl | h
    · exact ms_gw h4
    · exact ms_gw h
theorem ms_GN (hy : ms_YS y bytes maxL rt n) : GoodIn wsL_law (.code y bytes maxL rt :: wsL_law) := by
  intro w hw
  rcases List.mem_cons.mp hw with rfl | h
  · exact ms_gw hy.2.2.1
  · exact ms_gw h
theorem ms_pre (Cx : ms_C p s m args meth c D cA a sh cc nL own ret) (hI : ms_I D cA a sh s σ H locs) (vs : List Value) : ∀ U : State, U.heap = H → s.WarmedH U.vm → ms_Pc D cA a sh vs σ vs.toArray U := by
  obtain ⟨hx, hb, hml, hown, hts, hrt, hlocks, hK, hDis, hN⟩ := Cx
  exact fun U hU hW => ⟨rfl, va_K.moved hW.alike hK, ms_NW.warm hW hN, by rw [hU]; exact hI.1⟩
theorem ms_runV (Cx : ms_C p s m args meth c D cA a sh cc nL own ret) (hI : ms_I D cA a sh s σ H locs) (k : Nat) {ci : Nat} {L : List (Option Nat)} {q : vw_C} (hs : sh[k]? = some (.inr (ci, L))) (hc : vwCl[ci]? = some q) (hq : q.1 = C) {Qc : Array Value → State → Outcome → State → Prop} {free : Addr → Prop}
    (hy : ms_YV y C bytes maxL rt n) (hM : Met l y (.code y bytes maxL rt :: wsL_law) rm (ms_Pc D cA a sh (.ref (a k) :: av) σ) Qc 0 0 free) (hrm : rm.cells = 0 ∧ rm.slots = 0) (hl : Cond.methodLink own idx y ∈ wsL_law) (hR : rm.frames + 1 ≤ R.frames ∧ 8 + (maxL + 11) + rm.locals ≤ R.locals) (hn : av.length = n) (hsz : ls.size = nL) (hst : st0 = av.reverse ++ .ref (a k) :: rest) (hW : (rest.map fun v => v.category).sum ≤ 8) (hcs : cells ≤ R.cells ∧ slots ≤ R.slots) (hd : decode cc pc = .ok (.invokevirtual idx, 3)) :
    va_Run p l e R s m args below meth c H locs cells slots 0 0 (F0 m pc ls st0) rest (Qc (Value.ref (a k) :: av).toArray) free := by
  have hpre := ms_pre Cx hI (.ref (a k) :: av)
  have hgv := ms_GV (own := own) (idx := idx) hy hl
  obtain ⟨hx, hb, hml, hown, hts, hrt, hlocks, hK, hDis, hN⟩ := Cx
  have he := ms_wl_get a cA σ sh 0 k hs
  rw [Nat.zero_add] at he
  obtain ⟨h1, h2, h3, h4, h5⟩ := hy
  refine va_runV (As := av) (rest := rest) ⟨hx, hb, hml, hown, hts⟩ hM (cwV n hts hgv rfl hrm.1 hrm.2 h5 hR) ⟨ms_blind, ?_, hpre⟩ rfl hn hsz hst (lv_room hW) hd hcs
  have h6 := va_recv hK hI.1 hc he
  rw [hq] at h6
  exact h6
theorem ms_runS (Cx : ms_C p s m args meth c D cA a sh cc nL own ret) (hI : ms_I D cA a sh s σ H locs) {Qc : Array Value → State → Outcome → State → Prop} {free : Addr → Prop}
    (hy : ms_YS y bytes maxL rt n) (hM : Met l y (.code y bytes maxL rt :: wsL_law) rm (ms_Pc D cA a sh av σ) Qc 0 0 free) (hrm : rm.cells = 0 ∧ rm.slots = 0) (hl : Cond.methodLink own idx y ∈ wsL_law ∨ (own, idx, y) ∈ ms_nq) (hR : rm.frames + 1 ≤ R.frames ∧ 8 + (maxL + 11) + rm.locals ≤ R.locals) (hn : av.length = n) (hsz : ls.size = nL) (hst : st0 = av.reverse ++ rest) (hW : (rest.map fun v => v.category).sum ≤ 8) (hcs : cells ≤ R.cells ∧ slots ≤ R.slots) (hd : decode cc pc = .ok (.invokestatic idx, 3)) :
    va_Run p l e R s m args below meth c H locs cells slots 0 0 (F0 m pc ls st0) rest (Qc av.toArray) free := by
  have hpre := ms_pre Cx hI av
  obtain ⟨hx, hb, hml, hown, hts, hrt, hlocks, hK, hDis, hN⟩ := Cx
  rcases hl with hl | hl
  · have hgv := ms_GS (own := own) (idx := idx) hy hl
    obtain ⟨h1, h2, h4, h5⟩ := hy
    exact va_runS (As := av) (rest := rest) ⟨hx, hb, hml, hown, hts⟩ hM (va_cwS n hts hgv rfl hrm.1 hrm.2 h5 hR) ⟨ms_blind, hpre⟩ rfl hn hsz hst (lv_room hW) hd hcs
  · have hgv := ms_GN hy
    obtain ⟨h1, h2, h4, h5⟩ := hy
    exact va_runSN (As := av) (rest := rest) ⟨hx, hb, hml, hown, hts⟩ hM ⟨va_cnB n hts hgv rfl hrm.1 hrm.2 (hN _ hl) (hts _ h2) h5 hR, hts _ h1, trivial⟩ ⟨ms_blind, hpre⟩ rfl hn hsz hst (lv_room hW) hd hcs
theorem ms_ci {r : Int32} {u : Mm} {vs : Array Value} (hI : ms_I D cA a sh s σ H locs) (hr : va_Run p l e R s m args below meth c H locs cells slots 0 0 (F0 m pc ls st0) rest (ms_Qi D cA a sh r u vs) (ms_A a sh.length)) (kk : ∀ (H1 : Heap) (locs1 : List Loc), ms_I D cA a sh s u H1 locs1 → W p l e R s m args below meth c H1 locs1 cells slots Q (F0 m (pc + 3) ls (.int r :: rest))) : W p l e R s m args below meth c H locs cells slots Q (F0 m pc ls st0) := by
  refine va_calli hr hI.2 (fun q _ h => h) (fun q h => h) (fun r1 u1 t H1 locs1 ht hvm hp hB hz hk hS => ?_)
  obtain ⟨rfl, rfl⟩ := hp
  exact kk H1 locs1 ⟨by rw [← ht]; exact hB, hS⟩
theorem ms_cl {r : Int64} {u : Mm} {vs : Array Value} (hI : ms_I D cA a sh s σ H locs) (hr : va_Run p l e R s m args below meth c H locs cells slots 0 0 (F0 m pc ls st0) rest (ms_Ql D cA a sh r u vs) (ms_A a sh.length)) (kk : ∀ (H1 : Heap) (locs1 : List Loc), ms_I D cA a sh s u H1 locs1 → W p l e R s m args below meth c H1 locs1 cells slots Q (F0 m (pc + 3) ls (.long r :: rest))) : W p l e R s m args below meth c H locs cells slots Q (F0 m pc ls st0) := by
  refine va_calll hr hI.2 (fun q _ h => h) (fun q h => h) (fun r1 u1 t H1 locs1 ht hvm hp hB hz hk hS => ?_)
  obtain ⟨rfl, rfl⟩ := hp
  exact kk H1 locs1 ⟨by rw [← ht]; exact hB, hS⟩
theorem ms_cv {u : Mm} {vs : Array Value} (hI : ms_I D cA a sh s σ H locs) (hr : va_Run p l e R s m args below meth c H locs cells slots 0 0 (F0 m pc ls st0) rest (ms_Qv D cA a sh u vs) (ms_A a sh.length)) (kk : ∀ (H1 : Heap) (locs1 : List Loc), ms_I D cA a sh s u H1 locs1 → W p l e R s m args below meth c H1 locs1 cells slots Q (F0 m (pc + 3) ls rest)) : W p l e R s m args below meth c H locs cells slots Q (F0 m pc ls st0) := by
  refine va_callv hr hI.2 (fun q _ h => h) (fun q h => h) (fun u1 t H1 locs1 ht hvm hp hB hz hk hS => ?_)
  obtain rfl := hp
  exact kk H1 locs1 ⟨by rw [← ht]; exact hB, hS⟩
theorem ms_min (Cx : ms_C p s m args meth c D cA a sh cc nL own ret) (hl : Cond.methodLink own idx Lib.Math.min.name ∈ wsL_law) (hsz : ls.size = nL) (hf : 1 ≤ R.frames) (hlo : (rest.map fun v => v.category).sum + 13 ≤ R.locals) (hcs : cells ≤ R.cells ∧ slots ≤ R.slots) {x y : Int32} (hd : decode cc pc = .ok (.invokestatic idx, 3))
    (kk : W p l e R s m args below meth c H locs cells slots Q (F0 m (pc + 3) ls (.int (if y < x then y else x) :: rest))) : W p l e R s m args below meth c H locs cells slots Q (F0 m pc ls (.int y :: .int x :: rest)) := by
  obtain ⟨hx, hb, hml, hown, hts, hrt, hlocks, hK, hDis, hN⟩ := Cx
  exact va_mmin hx hb (hml.trans hsz.symm) hown (hts _ hl) (hts _ ms_min_s) (hts _ ms_min_i) (hts _ ms_min_c) hf hlo hcs.1 hcs.2 hd kk
theorem ms_max (Cx : ms_C p s m args meth c D cA a sh cc nL own ret) (hl : Cond.methodLink own idx Lib.Math.max.name ∈ wsL_law) (hsz : ls.size = nL) (hf : 1 ≤ R.frames) (hlo : (rest.map fun v => v.category).sum + 13 ≤ R.locals) (hcs : cells ≤ R.cells ∧ slots ≤ R.slots) {x y : Int32} (hd : decode cc pc = .ok (.invokestatic idx, 3))
    (kk : W p l e R s m args below meth c H locs cells slots Q (F0 m (pc + 3) ls (.int (if x < y then y else x) :: rest))) : W p l e R s m args below meth c H locs cells slots Q (F0 m pc ls (.int y :: .int x :: rest)) := by
  obtain ⟨hx, hb, hml, hown, hts, hrt, hlocks, hK, hDis, hN⟩ := Cx
  exact va_mmax hx hb (hml.trans hsz.symm) hown (hts _ hl) (hts _ ms_max_s) (hts _ ms_min_i) (hts _ ms_max_c) hf hlo hcs.1 hcs.2 hd kk
end MSR
end
