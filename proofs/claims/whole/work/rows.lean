section
-- ===== PART A: goes FIRST, ahead of the names: the tables' words, and 'selects' of the private methods out of them =====
/-- a private method of a class that the tables say can be made, by its rows of tables_1 -/
def lw_okq (q : MethodName × Nat) : Prop := (q.1.cls ≠ "java/lang/invoke/MethodHandle" ∧ q.1.cls ≠ "java/lang/invoke/VarHandle") ∧ Cond.instantiable q.1.cls q.2 ∈ tables_1 ∧ Cond.privateMethod q.1 ∈ tables_1 ∧ Cond.instanceMethod q.1 ∈ tables_1
theorem lw_p0 : lw_okq (⟨"LastBench$Reader", "takes", "(I)Z"⟩, 2) := ⟨⟨by decide +kernel, by decide +kernel⟩, List.mem_of_getElem? (i := 46) (by decide +kernel), List.mem_of_getElem? (i := 337) (by decide +kernel), List.mem_of_getElem? (i := 338) (by decide +kernel)⟩
theorem lw_p1 : lw_okq (⟨"LastBench$Reader", "takesRoom", "(I)Z"⟩, 2) := ⟨⟨by decide +kernel, by decide +kernel⟩, List.mem_of_getElem? (i := 46) (by decide +kernel), List.mem_of_getElem? (i := 344) (by decide +kernel), List.mem_of_getElem? (i := 345) (by decide +kernel)⟩
theorem lw_p2 : lw_okq (⟨"LastBench$Reader", "goesOn", "(ZI)Z"⟩, 2) := ⟨⟨by decide +kernel, by decide +kernel⟩, List.mem_of_getElem? (i := 46) (by decide +kernel), List.mem_of_getElem? (i := 351) (by decide +kernel), List.mem_of_getElem? (i := 352) (by decide +kernel)⟩
theorem lw_p3 : lw_okq (⟨"LastBench$Reader", "takesKind", "(I)Z"⟩, 2) := ⟨⟨by decide +kernel, by decide +kernel⟩, List.mem_of_getElem? (i := 46) (by decide +kernel), List.mem_of_getElem? (i := 442) (by decide +kernel), List.mem_of_getElem? (i := 443) (by decide +kernel)⟩
theorem lw_p4 : lw_okq (⟨"LastBench$Reader", "takesWarm", "(I)Z"⟩, 2) := ⟨⟨by decide +kernel, by decide +kernel⟩, List.mem_of_getElem? (i := 46) (by decide +kernel), List.mem_of_getElem? (i := 446) (by decide +kernel), List.mem_of_getElem? (i := 447) (by decide +kernel)⟩
theorem lw_p5 : lw_okq (⟨"LastBench$Reader", "takesMark", "(I)Z"⟩, 2) := ⟨⟨by decide +kernel, by decide +kernel⟩, List.mem_of_getElem? (i := 46) (by decide +kernel), List.mem_of_getElem? (i := 450) (by decide +kernel), List.mem_of_getElem? (i := 451) (by decide +kernel)⟩
theorem lw_p6 : lw_okq (⟨"LastBench$Reader", "takesDid", "(I)Z"⟩, 2) := ⟨⟨by decide +kernel, by decide +kernel⟩, List.mem_of_getElem? (i := 46) (by decide +kernel), List.mem_of_getElem? (i := 454) (by decide +kernel), List.mem_of_getElem? (i := 455) (by decide +kernel)⟩
theorem lw_p7 : lw_okq (⟨"LastBench$Reader", "takesWhom", "(I)Z"⟩, 2) := ⟨⟨by decide +kernel, by decide +kernel⟩, List.mem_of_getElem? (i := 46) (by decide +kernel), List.mem_of_getElem? (i := 462) (by decide +kernel), List.mem_of_getElem? (i := 463) (by decide +kernel)⟩
theorem lw_p8 : lw_okq (⟨"LastBench$Reader", "takesGrave", "(I)Z"⟩, 2) := ⟨⟨by decide +kernel, by decide +kernel⟩, List.mem_of_getElem? (i := 46) (by decide +kernel), List.mem_of_getElem? (i := 466) (by decide +kernel), List.mem_of_getElem? (i := 467) (by decide +kernel)⟩
theorem lw_p9 : lw_okq (⟨"LastBench", "guiltOf", "(I)I"⟩, 14) := ⟨⟨by decide +kernel, by decide +kernel⟩, List.mem_of_getElem? (i := 20) (by decide +kernel), List.mem_of_getElem? (i := 488) (by decide +kernel), List.mem_of_getElem? (i := 489) (by decide +kernel)⟩
theorem lw_p10 : lw_okq (⟨"LastBench", "sittersNow", "()I"⟩, 14) := ⟨⟨by decide +kernel, by decide +kernel⟩, List.mem_of_getElem? (i := 20) (by decide +kernel), List.mem_of_getElem? (i := 503) (by decide +kernel), List.mem_of_getElem? (i := 504) (by decide +kernel)⟩
theorem lw_p11 : lw_okq (⟨"LastBench$Graves", "leftAtWorst", "(I)I"⟩, 2) := ⟨⟨by decide +kernel, by decide +kernel⟩, List.mem_of_getElem? (i := 241) (by decide +kernel), List.mem_of_getElem? (i := 558) (by decide +kernel), List.mem_of_getElem? (i := 559) (by decide +kernel)⟩
theorem lw_p12 : lw_okq (⟨"LastBench$Grudges", "oneFurther", "(I)I"⟩, 2) := ⟨⟨by decide +kernel, by decide +kernel⟩, List.mem_of_getElem? (i := 181) (by decide +kernel), List.mem_of_getElem? (i := 578) (by decide +kernel), List.mem_of_getElem? (i := 579) (by decide +kernel)⟩
theorem lw_p13 : lw_okq (⟨"LastBench$Leaving", "lookAhead", "(LLastBench$Chapel;II)V"⟩, 5) := ⟨⟨by decide +kernel, by decide +kernel⟩, List.mem_of_getElem? (i := 195) (by decide +kernel), List.mem_of_getElem? (i := 624) (by decide +kernel), List.mem_of_getElem? (i := 625) (by decide +kernel)⟩
theorem lw_p14 : lw_okq (⟨"LastBench$Leaving", "weigh", "(III)V"⟩, 5) := ⟨⟨by decide +kernel, by decide +kernel⟩, List.mem_of_getElem? (i := 195) (by decide +kernel), List.mem_of_getElem? (i := 631) (by decide +kernel), List.mem_of_getElem? (i := 632) (by decide +kernel)⟩
theorem lw_p15 : lw_okq (⟨"LastBench$Leaving", "isBetter", "(III)Z"⟩, 5) := ⟨⟨by decide +kernel, by decide +kernel⟩, List.mem_of_getElem? (i := 195) (by decide +kernel), List.mem_of_getElem? (i := 637) (by decide +kernel), List.mem_of_getElem? (i := 638) (by decide +kernel)⟩
def lw_privs_1 : List (MethodName × Nat) := [(⟨"LastBench$Reader", "takes", "(I)Z"⟩, 2), (⟨"LastBench$Reader", "takesRoom", "(I)Z"⟩, 2), (⟨"LastBench$Reader", "goesOn", "(ZI)Z"⟩, 2), (⟨"LastBench$Reader", "takesKind", "(I)Z"⟩, 2), (⟨"LastBench$Reader", "takesWarm", "(I)Z"⟩, 2), (⟨"LastBench$Reader", "takesMark", "(I)Z"⟩, 2), (⟨"LastBench$Reader", "takesDid", "(I)Z"⟩, 2), (⟨"LastBench$Reader", "takesWhom", "(I)Z"⟩, 2), (⟨"LastBench$Reader", "takesGrave", "(I)Z"⟩, 2), (⟨"LastBench", "guiltOf", "(I)I"⟩, 14), (⟨"LastBench", "sittersNow", "()I"⟩, 14), (⟨"LastBench$Graves", "leftAtWorst", "(I)I"⟩, 2), (⟨"LastBench$Grudges", "oneFurther", "(I)I"⟩, 2), (⟨"LastBench$Leaving", "lookAhead", "(LLastBench$Chapel;II)V"⟩, 5), (⟨"LastBench$Leaving", "weigh", "(III)V"⟩, 5), (⟨"LastBench$Leaving", "isBetter", "(III)Z"⟩, 5)]
theorem lw_r1 : ∀ q ∈ lw_privs_1, lw_okq q := List.forall_mem_cons.mpr ⟨lw_p0, List.forall_mem_cons.mpr ⟨lw_p1, List.forall_mem_cons.mpr ⟨lw_p2, List.forall_mem_cons.mpr ⟨lw_p3, List.forall_mem_cons.mpr ⟨lw_p4, List.forall_mem_cons.mpr ⟨lw_p5, List.forall_mem_cons.mpr ⟨lw_p6, List.forall_mem_cons.mpr ⟨lw_p7, List.forall_mem_cons.mpr ⟨lw_p8, List.forall_mem_cons.mpr ⟨lw_p9, List.forall_mem_cons.mpr ⟨lw_p10, List.forall_mem_cons.mpr ⟨lw_p11, List.forall_mem_cons.mpr ⟨lw_p12, List.forall_mem_cons.mpr ⟨lw_p13, List.forall_mem_cons.mpr ⟨lw_p14, List.forall_mem_cons.mpr ⟨lw_p15, fun _ h => absurd h List.not_mem_nil⟩⟩⟩⟩⟩⟩⟩⟩⟩⟩⟩⟩⟩⟩⟩⟩
theorem lw_p16 : lw_okq (⟨"LastBench$Grudges", "hasRing", "()Z"⟩, 2) := ⟨⟨by decide +kernel, by decide +kernel⟩, List.mem_of_getElem? (i := 181) (by decide +kernel), List.mem_of_getElem? (i := 661) (by decide +kernel), List.mem_of_getElem? (i := 662) (by decide +kernel)⟩
theorem lw_p17 : lw_okq (⟨"LastBench$Chances", "addTo", "(III)V"⟩, 4) := ⟨⟨by decide +kernel, by decide +kernel⟩, List.mem_of_getElem? (i := 222) (by decide +kernel), List.mem_of_getElem? (i := 680) (by decide +kernel), List.mem_of_getElem? (i := 681) (by decide +kernel)⟩
theorem lw_p18 : lw_okq (⟨"LastBench$Weather", "draw", "(I)I"⟩, 2) := ⟨⟨by decide +kernel, by decide +kernel⟩, List.mem_of_getElem? (i := 255) (by decide +kernel), List.mem_of_getElem? (i := 717) (by decide +kernel), List.mem_of_getElem? (i := 718) (by decide +kernel)⟩
theorem lw_p19 : lw_okq (⟨"LastBench", "digestPeople", "(J)J"⟩, 14) := ⟨⟨by decide +kernel, by decide +kernel⟩, List.mem_of_getElem? (i := 20) (by decide +kernel), List.mem_of_getElem? (i := 757) (by decide +kernel), List.mem_of_getElem? (i := 758) (by decide +kernel)⟩
theorem lw_p20 : lw_okq (⟨"LastBench", "digestWrongs", "(J)J"⟩, 14) := ⟨⟨by decide +kernel, by decide +kernel⟩, List.mem_of_getElem? (i := 20) (by decide +kernel), List.mem_of_getElem? (i := 763) (by decide +kernel), List.mem_of_getElem? (i := 764) (by decide +kernel)⟩
theorem lw_p21 : lw_okq (⟨"LastBench", "digestGrudges", "(J)J"⟩, 14) := ⟨⟨by decide +kernel, by decide +kernel⟩, List.mem_of_getElem? (i := 20) (by decide +kernel), List.mem_of_getElem? (i := 768) (by decide +kernel), List.mem_of_getElem? (i := 769) (by decide +kernel)⟩
theorem lw_p22 : lw_okq (⟨"LastBenchModel", "faultOf", "()I"⟩, 34) := ⟨⟨by decide +kernel, by decide +kernel⟩, List.mem_of_getElem? (i := 775) (by decide +kernel), List.mem_of_getElem? (i := 900) (by decide +kernel), List.mem_of_getElem? (i := 901) (by decide +kernel)⟩
theorem lw_p23 : lw_okq (⟨"LastBenchModel", "isGood", "(I)Z"⟩, 34) := ⟨⟨by decide +kernel, by decide +kernel⟩, List.mem_of_getElem? (i := 775) (by decide +kernel), List.mem_of_getElem? (i := 904) (by decide +kernel), List.mem_of_getElem? (i := 905) (by decide +kernel)⟩
theorem lw_p24 : lw_okq (⟨"LastBenchModel", "isPersonLetter", "(I)Z"⟩, 34) := ⟨⟨by decide +kernel, by decide +kernel⟩, List.mem_of_getElem? (i := 775) (by decide +kernel), List.mem_of_getElem? (i := 910) (by decide +kernel), List.mem_of_getElem? (i := 911) (by decide +kernel)⟩
theorem lw_p25 : lw_okq (⟨"LastBenchModel", "isWrongLetter", "(I)Z"⟩, 34) := ⟨⟨by decide +kernel, by decide +kernel⟩, List.mem_of_getElem? (i := 775) (by decide +kernel), List.mem_of_getElem? (i := 919) (by decide +kernel), List.mem_of_getElem? (i := 920) (by decide +kernel)⟩
theorem lw_p26 : lw_okq (⟨"LastBenchModel", "isPersonDigit", "(I)Z"⟩, 34) := ⟨⟨by decide +kernel, by decide +kernel⟩, List.mem_of_getElem? (i := 775) (by decide +kernel), List.mem_of_getElem? (i := 923) (by decide +kernel), List.mem_of_getElem? (i := 924) (by decide +kernel)⟩
theorem lw_p27 : lw_okq (⟨"LastBenchModel", "isPerson", "(I)Z"⟩, 34) := ⟨⟨by decide +kernel, by decide +kernel⟩, List.mem_of_getElem? (i := 775) (by decide +kernel), List.mem_of_getElem? (i := 935) (by decide +kernel), List.mem_of_getElem? (i := 936) (by decide +kernel)⟩
theorem lw_p28 : lw_okq (⟨"LastBenchModel", "tellPerson", "(II)I"⟩, 34) := ⟨⟨by decide +kernel, by decide +kernel⟩, List.mem_of_getElem? (i := 775) (by decide +kernel), List.mem_of_getElem? (i := 939) (by decide +kernel), List.mem_of_getElem? (i := 940) (by decide +kernel)⟩
theorem lw_p29 : lw_okq (⟨"LastBenchModel", "guiltBy", "(II)I"⟩, 34) := ⟨⟨by decide +kernel, by decide +kernel⟩, List.mem_of_getElem? (i := 775) (by decide +kernel), List.mem_of_getElem? (i := 943) (by decide +kernel), List.mem_of_getElem? (i := 944) (by decide +kernel)⟩
theorem lw_p30 : lw_okq (⟨"LastBenchModel", "sitsNow", "()I"⟩, 34) := ⟨⟨by decide +kernel, by decide +kernel⟩, List.mem_of_getElem? (i := 775) (by decide +kernel), List.mem_of_getElem? (i := 947) (by decide +kernel), List.mem_of_getElem? (i := 948) (by decide +kernel)⟩
theorem lw_p31 : lw_okq (⟨"LastBenchModel", "sitsBy", "(II)I"⟩, 34) := ⟨⟨by decide +kernel, by decide +kernel⟩, List.mem_of_getElem? (i := 775) (by decide +kernel), List.mem_of_getElem? (i := 951) (by decide +kernel), List.mem_of_getElem? (i := 952) (by decide +kernel)⟩
def lw_privs_2 : List (MethodName × Nat) := [(⟨"LastBench$Grudges", "hasRing", "()Z"⟩, 2), (⟨"LastBench$Chances", "addTo", "(III)V"⟩, 4), (⟨"LastBench$Weather", "draw", "(I)I"⟩, 2), (⟨"LastBench", "digestPeople", "(J)J"⟩, 14), (⟨"LastBench", "digestWrongs", "(J)J"⟩, 14), (⟨"LastBench", "digestGrudges", "(J)J"⟩, 14), (⟨"LastBenchModel", "faultOf", "()I"⟩, 34), (⟨"LastBenchModel", "isGood", "(I)Z"⟩, 34), (⟨"LastBenchModel", "isPersonLetter", "(I)Z"⟩, 34), (⟨"LastBenchModel", "isWrongLetter", "(I)Z"⟩, 34), (⟨"LastBenchModel", "isPersonDigit", "(I)Z"⟩, 34), (⟨"LastBenchModel", "isPerson", "(I)Z"⟩, 34), (⟨"LastBenchModel", "tellPerson", "(II)I"⟩, 34), (⟨"LastBenchModel", "guiltBy", "(II)I"⟩, 34), (⟨"LastBenchModel", "sitsNow", "()I"⟩, 34), (⟨"LastBenchModel", "sitsBy", "(II)I"⟩, 34)]
theorem lw_r2 : ∀ q ∈ lw_privs_2, lw_okq q := List.forall_mem_cons.mpr ⟨lw_p16, List.forall_mem_cons.mpr ⟨lw_p17, List.forall_mem_cons.mpr ⟨lw_p18, List.forall_mem_cons.mpr ⟨lw_p19, List.forall_mem_cons.mpr ⟨lw_p20, List.forall_mem_cons.mpr ⟨lw_p21, List.forall_mem_cons.mpr ⟨lw_p22, List.forall_mem_cons.mpr ⟨lw_p23, List.forall_mem_cons.mpr ⟨lw_p24, List.forall_mem_cons.mpr ⟨lw_p25, List.forall_mem_cons.mpr ⟨lw_p26, List.forall_mem_cons.mpr ⟨lw_p27, List.forall_mem_cons.mpr ⟨lw_p28, List.forall_mem_cons.mpr ⟨lw_p29, List.forall_mem_cons.mpr ⟨lw_p30, List.forall_mem_cons.mpr ⟨lw_p31, fun _ h => absurd h List.not_mem_nil⟩⟩⟩⟩⟩⟩⟩⟩⟩⟩⟩⟩⟩⟩⟩⟩
theorem lw_p32 : lw_okq (⟨"LastBenchModel", "grudgesOf", "(II)I"⟩, 34) := ⟨⟨by decide +kernel, by decide +kernel⟩, List.mem_of_getElem? (i := 775) (by decide +kernel), List.mem_of_getElem? (i := 955) (by decide +kernel), List.mem_of_getElem? (i := 956) (by decide +kernel)⟩
theorem lw_p33 : lw_okq (⟨"LastBenchModel", "isWrong", "(I)Z"⟩, 34) := ⟨⟨by decide +kernel, by decide +kernel⟩, List.mem_of_getElem? (i := 775) (by decide +kernel), List.mem_of_getElem? (i := 968) (by decide +kernel), List.mem_of_getElem? (i := 969) (by decide +kernel)⟩
theorem lw_p34 : lw_okq (⟨"LastBenchModel", "tellWrong", "(II)I"⟩, 34) := ⟨⟨by decide +kernel, by decide +kernel⟩, List.mem_of_getElem? (i := 775) (by decide +kernel), List.mem_of_getElem? (i := 972) (by decide +kernel), List.mem_of_getElem? (i := 973) (by decide +kernel)⟩
theorem lw_p35 : lw_okq (⟨"LastBenchModel", "gravesOf", "(I)I"⟩, 34) := ⟨⟨by decide +kernel, by decide +kernel⟩, List.mem_of_getElem? (i := 775) (by decide +kernel), List.mem_of_getElem? (i := 976) (by decide +kernel), List.mem_of_getElem? (i := 977) (by decide +kernel)⟩
theorem lw_p36 : lw_okq (⟨"LastBenchModel", "sitsIf", "(III)I"⟩, 34) := ⟨⟨by decide +kernel, by decide +kernel⟩, List.mem_of_getElem? (i := 775) (by decide +kernel), List.mem_of_getElem? (i := 980) (by decide +kernel), List.mem_of_getElem? (i := 981) (by decide +kernel)⟩
theorem lw_p37 : lw_okq (⟨"LastBenchModel", "lookOf", "(I)I"⟩, 34) := ⟨⟨by decide +kernel, by decide +kernel⟩, List.mem_of_getElem? (i := 775) (by decide +kernel), List.mem_of_getElem? (i := 984) (by decide +kernel), List.mem_of_getElem? (i := 985) (by decide +kernel)⟩
theorem lw_p38 : lw_okq (⟨"LastBenchModel", "farBy", "(III)I"⟩, 34) := ⟨⟨by decide +kernel, by decide +kernel⟩, List.mem_of_getElem? (i := 775) (by decide +kernel), List.mem_of_getElem? (i := 992) (by decide +kernel), List.mem_of_getElem? (i := 993) (by decide +kernel)⟩
theorem lw_p39 : lw_okq (⟨"LastBenchModel", "stepFrom", "(II)I"⟩, 34) := ⟨⟨by decide +kernel, by decide +kernel⟩, List.mem_of_getElem? (i := 775) (by decide +kernel), List.mem_of_getElem? (i := 996) (by decide +kernel), List.mem_of_getElem? (i := 997) (by decide +kernel)⟩
theorem lw_p40 : lw_okq (⟨"LastBenchModel", "lacks", "()Z"⟩, 34) := ⟨⟨by decide +kernel, by decide +kernel⟩, List.mem_of_getElem? (i := 775) (by decide +kernel), List.mem_of_getElem? (i := 1004) (by decide +kernel), List.mem_of_getElem? (i := 1005) (by decide +kernel)⟩
theorem lw_p41 : lw_okq (⟨"LastBenchModel", "sundayThen", "(I)I"⟩, 34) := ⟨⟨by decide +kernel, by decide +kernel⟩, List.mem_of_getElem? (i := 775) (by decide +kernel), List.mem_of_getElem? (i := 1011) (by decide +kernel), List.mem_of_getElem? (i := 1012) (by decide +kernel)⟩
theorem lw_p42 : lw_okq (⟨"LastBenchModel", "leaveOf", "(II)I"⟩, 34) := ⟨⟨by decide +kernel, by decide +kernel⟩, List.mem_of_getElem? (i := 775) (by decide +kernel), List.mem_of_getElem? (i := 1042) (by decide +kernel), List.mem_of_getElem? (i := 1043) (by decide +kernel)⟩
theorem lw_p43 : lw_okq (⟨"LastBenchModel", "goSundays", "(II)V"⟩, 34) := ⟨⟨by decide +kernel, by decide +kernel⟩, List.mem_of_getElem? (i := 775) (by decide +kernel), List.mem_of_getElem? (i := 1046) (by decide +kernel), List.mem_of_getElem? (i := 1047) (by decide +kernel)⟩
theorem lw_p44 : lw_okq (⟨"LastBenchModel", "ringBy", "(I)I"⟩, 34) := ⟨⟨by decide +kernel, by decide +kernel⟩, List.mem_of_getElem? (i := 775) (by decide +kernel), List.mem_of_getElem? (i := 1054) (by decide +kernel), List.mem_of_getElem? (i := 1055) (by decide +kernel)⟩
theorem lw_p45 : lw_okq (⟨"LastBenchModel", "peaceOf", "(I)I"⟩, 34) := ⟨⟨by decide +kernel, by decide +kernel⟩, List.mem_of_getElem? (i := 775) (by decide +kernel), List.mem_of_getElem? (i := 1062) (by decide +kernel), List.mem_of_getElem? (i := 1063) (by decide +kernel)⟩
theorem lw_p46 : lw_okq (⟨"LastBenchModel", "oddsOf", "(III)I"⟩, 34) := ⟨⟨by decide +kernel, by decide +kernel⟩, List.mem_of_getElem? (i := 775) (by decide +kernel), List.mem_of_getElem? (i := 1071) (by decide +kernel), List.mem_of_getElem? (i := 1072) (by decide +kernel)⟩
theorem lw_p47 : lw_okq (⟨"LastBenchModel", "draw", "(I)I"⟩, 34) := ⟨⟨by decide +kernel, by decide +kernel⟩, List.mem_of_getElem? (i := 775) (by decide +kernel), List.mem_of_getElem? (i := 1088) (by decide +kernel), List.mem_of_getElem? (i := 1089) (by decide +kernel)⟩
def lw_privs_3 : List (MethodName × Nat) := [(⟨"LastBenchModel", "grudgesOf", "(II)I"⟩, 34), (⟨"LastBenchModel", "isWrong", "(I)Z"⟩, 34), (⟨"LastBenchModel", "tellWrong", "(II)I"⟩, 34), (⟨"LastBenchModel", "gravesOf", "(I)I"⟩, 34), (⟨"LastBenchModel", "sitsIf", "(III)I"⟩, 34), (⟨"LastBenchModel", "lookOf", "(I)I"⟩, 34), (⟨"LastBenchModel", "farBy", "(III)I"⟩, 34), (⟨"LastBenchModel", "stepFrom", "(II)I"⟩, 34), (⟨"LastBenchModel", "lacks", "()Z"⟩, 34), (⟨"LastBenchModel", "sundayThen", "(I)I"⟩, 34), (⟨"LastBenchModel", "leaveOf", "(II)I"⟩, 34), (⟨"LastBenchModel", "goSundays", "(II)V"⟩, 34), (⟨"LastBenchModel", "ringBy", "(I)I"⟩, 34), (⟨"LastBenchModel", "peaceOf", "(I)I"⟩, 34), (⟨"LastBenchModel", "oddsOf", "(III)I"⟩, 34), (⟨"LastBenchModel", "draw", "(I)I"⟩, 34)]
theorem lw_r3 : ∀ q ∈ lw_privs_3, lw_okq q := List.forall_mem_cons.mpr ⟨lw_p32, List.forall_mem_cons.mpr ⟨lw_p33, List.forall_mem_cons.mpr ⟨lw_p34, List.forall_mem_cons.mpr ⟨lw_p35, List.forall_mem_cons.mpr ⟨lw_p36, List.forall_mem_cons.mpr ⟨lw_p37, List.forall_mem_cons.mpr ⟨lw_p38, List.forall_mem_cons.mpr ⟨lw_p39, List.forall_mem_cons.mpr ⟨lw_p40, List.forall_mem_cons.mpr ⟨lw_p41, List.forall_mem_cons.mpr ⟨lw_p42, List.forall_mem_cons.mpr ⟨lw_p43, List.forall_mem_cons.mpr ⟨lw_p44, List.forall_mem_cons.mpr ⟨lw_p45, List.forall_mem_cons.mpr ⟨lw_p46, List.forall_mem_cons.mpr ⟨lw_p47, fun _ h => absurd h List.not_mem_nil⟩⟩⟩⟩⟩⟩⟩⟩⟩⟩⟩⟩⟩⟩⟩⟩
theorem lw_p48 : lw_okq (⟨"LastBenchModel", "warmAll", "([I)I"⟩, 34) := ⟨⟨by decide +kernel, by decide +kernel⟩, List.mem_of_getElem? (i := 775) (by decide +kernel), List.mem_of_getElem? (i := 1096) (by decide +kernel), List.mem_of_getElem? (i := 1097) (by decide +kernel)⟩
theorem lw_p49 : lw_okq (⟨"LastBenchModel", "countOf", "(I)I"⟩, 34) := ⟨⟨by decide +kernel, by decide +kernel⟩, List.mem_of_getElem? (i := 775) (by decide +kernel), List.mem_of_getElem? (i := 1112) (by decide +kernel), List.mem_of_getElem? (i := 1113) (by decide +kernel)⟩
theorem lw_p50 : lw_okq (⟨"LastBenchModel", "guiltAll", "()I"⟩, 34) := ⟨⟨by decide +kernel, by decide +kernel⟩, List.mem_of_getElem? (i := 775) (by decide +kernel), List.mem_of_getElem? (i := 1116) (by decide +kernel), List.mem_of_getElem? (i := 1117) (by decide +kernel)⟩
theorem lw_p51 : lw_okq (⟨"LastBenchModel", "say", "(J)V"⟩, 34) := ⟨⟨by decide +kernel, by decide +kernel⟩, List.mem_of_getElem? (i := 775) (by decide +kernel), List.mem_of_getElem? (i := 1125) (by decide +kernel), List.mem_of_getElem? (i := 1126) (by decide +kernel)⟩
theorem lw_p52 : lw_okq (⟨"LastBenchModel", "sayChapel", "()V"⟩, 34) := ⟨⟨by decide +kernel, by decide +kernel⟩, List.mem_of_getElem? (i := 775) (by decide +kernel), List.mem_of_getElem? (i := 1130) (by decide +kernel), List.mem_of_getElem? (i := 1131) (by decide +kernel)⟩
def lw_privs_4 : List (MethodName × Nat) := [(⟨"LastBenchModel", "warmAll", "([I)I"⟩, 34), (⟨"LastBenchModel", "countOf", "(I)I"⟩, 34), (⟨"LastBenchModel", "guiltAll", "()I"⟩, 34), (⟨"LastBenchModel", "say", "(J)V"⟩, 34), (⟨"LastBenchModel", "sayChapel", "()V"⟩, 34)]
theorem lw_r4 : ∀ q ∈ lw_privs_4, lw_okq q := List.forall_mem_cons.mpr ⟨lw_p48, List.forall_mem_cons.mpr ⟨lw_p49, List.forall_mem_cons.mpr ⟨lw_p50, List.forall_mem_cons.mpr ⟨lw_p51, List.forall_mem_cons.mpr ⟨lw_p52, fun _ h => absurd h List.not_mem_nil⟩⟩⟩⟩⟩
def lw_privs : List (MethodName × Nat) := lw_privs_1 ++ (lw_privs_2 ++ (lw_privs_3 ++ (lw_privs_4)))
def lw_tbl : List Cond := k2_sels lw_privs ++ tables_1
theorem lw_privs_ok : ∀ q ∈ lw_privs, lw_okq q := by
  show ∀ q ∈ lw_privs_1 ++ (lw_privs_2 ++ (lw_privs_3 ++ (lw_privs_4))), lw_okq q
  exact List.forall_mem_append.mpr ⟨lw_r1, List.forall_mem_append.mpr ⟨lw_r2, List.forall_mem_append.mpr ⟨lw_r3, lw_r4⟩⟩⟩
theorem zw_wide (c : ClassId) (n : Nat) (v : Value) : (Jvm.Free.Multi.innerC c n v).cls = c := rfl
end
section
def RX0 : String := "LastBench$Bench"
def TX0 : u_T := fun k => match k with
  | 0 => ("LastBench$Bench", "guilt", "[I", true)
  | 1 => ("LastBench$Bench", "letOff", "[I", true)
  | _ => ("LastBench$Bench", "people", "I", false)
def tyX0 : Nat → FieldType := fun k => match k with
  | 0 => .array .int
  | 1 => .array .int
  | _ => .int
abbrev wsX00 : List Cond := u_ws RX0 TX0 3
theorem nmX0 : ∀ a, a < 3 → ∀ b, b < 3 → a ≠ b → (TX0 a).2.1 ≠ (TX0 b).2.1 := by decide +kernel
theorem tyX0_ok : ∀ k, k < 3 → parseFieldDescriptor (TX0 k).2.2.1 = some (tyX0 k) := by decide +kernel
abbrev cX0_init : ByteArray := prog_2_method_1_code
def yX0_init : MethodName := ⟨RX0, "<init>", "()V"⟩
abbrev cX0_fill : ByteArray := prog_2_method_2_code
def yX0_fill : MethodName := ⟨RX0, "fill", "(LLastBench$Chapel;I)V"⟩
abbrev cX0_guiltAs : ByteArray := prog_2_method_3_code
def yX0_guiltAs : MethodName := ⟨RX0, "guiltAs", "(III)I"⟩
abbrev cX0_placeOf : ByteArray := prog_2_method_4_code
def yX0_placeOf : MethodName := ⟨RX0, "placeOf", "(I)I"⟩
abbrev cX0_sitters : ByteArray := prog_2_method_5_code
def yX0_sitters : MethodName := ⟨RX0, "sitters", "(I)I"⟩
abbrev cX0_allGuilt : ByteArray := prog_2_method_6_code
def yX0_allGuilt : MethodName := ⟨RX0, "allGuilt", "()I"⟩
def RX1 : String := "LastBench$Chances"
def TX1 : u_T := fun k => match k with
  | 0 => ("LastBench$Chances", "sitting", "[I", true)
  | 1 => ("LastBench$Chances", "forgivenParts", "[I", true)
  | 2 => ("LastBench$Chances", "openParts", "[I", true)
  | _ => ("LastBench$Chances", "whole", "I", false)
def tyX1 : Nat → FieldType := fun k => match k with
  | 0 => .array .int
  | 1 => .array .int
  | 2 => .array .int
  | _ => .int
abbrev wsX10 : List Cond := u_ws RX1 TX1 4
theorem nmX1 : ∀ a, a < 4 → ∀ b, b < 4 → a ≠ b → (TX1 a).2.1 ≠ (TX1 b).2.1 := by decide +kernel
theorem tyX1_ok : ∀ k, k < 4 → parseFieldDescriptor (TX1 k).2.2.1 = some (tyX1 k) := by decide +kernel
abbrev cX1_init : ByteArray := prog_3_method_1_code
def yX1_init : MethodName := ⟨RX1, "<init>", "()V"⟩
abbrev cX1_fill : ByteArray := prog_3_method_2_code
def yX1_fill : MethodName := ⟨RX1, "fill", "(LLastBench$Chapel;ILLastBench$Bench;)V"⟩
abbrev cX1_fillParts : ByteArray := prog_3_method_3_code
def yX1_fillParts : MethodName := ⟨RX1, "fillParts", "([II)V"⟩
abbrev cX1_addTo : ByteArray := prog_3_method_4_code
def yX1_addTo : MethodName := ⟨RX1, "addTo", "(III)V"⟩
abbrev cX1_above : ByteArray := prog_3_method_5_code
def yX1_above : MethodName := ⟨RX1, "above", "(I)I"⟩
abbrev cX1_below : ByteArray := prog_3_method_6_code
def yX1_below : MethodName := ⟨RX1, "below", "(I)I"⟩
abbrev cX1_commonPart : ByteArray := prog_3_method_7_code
def yX1_commonPart : MethodName := ⟨RX1, "commonPart", "(II)I"⟩
def RX2 : String := "LastBench$Chapel"
def TX2 : u_T := fun k => match k with
  | 0 => ("LastBench$Chapel", "room", "I", false)
  | 1 => ("LastBench$Chapel", "people", "I", false)
  | 2 => ("LastBench$Chapel", "wrongs", "I", false)
  | 3 => ("LastBench$Chapel", "forgiven", "I", false)
  | 4 => ("LastBench$Chapel", "sundays", "I", false)
  | 5 => ("LastBench$Chapel", "seen", "I", false)
  | 6 => ("LastBench$Chapel", "kind", "[I", true)
  | 7 => ("LastBench$Chapel", "warm", "[I", true)
  | 8 => ("LastBench$Chapel", "froze", "[I", true)
  | 9 => ("LastBench$Chapel", "did", "[I", true)
  | 10 => ("LastBench$Chapel", "whom", "[I", true)
  | 11 => ("LastBench$Chapel", "grave", "[I", true)
  | 12 => ("LastBench$Chapel", "seenWrong", "[I", true)
  | 13 => ("LastBench$Chapel", "seenRoom", "[I", true)
  | _ => ("LastBench$Chapel", "seenSits", "[Z", true)
def tyX2 : Nat → FieldType := fun k => match k with
  | 0 => .int
  | 1 => .int
  | 2 => .int
  | 3 => .int
  | 4 => .int
  | 5 => .int
  | 6 => .array .int
  | 7 => .array .int
  | 8 => .array .int
  | 9 => .array .int
  | 10 => .array .int
  | 11 => .array .int
  | 12 => .array .int
  | 13 => .array .int
  | _ => .array .boolean
abbrev wsX20 : List Cond := u_ws RX2 TX2 15
theorem nmX2 : ∀ a, a < 15 → ∀ b, b < 15 → a ≠ b → (TX2 a).2.1 ≠ (TX2 b).2.1 := by decide +kernel
theorem tyX2_ok : ∀ k, k < 15 → parseFieldDescriptor (TX2 k).2.2.1 = some (tyX2 k) := by decide +kernel
abbrev cX2_init : ByteArray := prog_4_method_1_code
def yX2_init : MethodName := ⟨RX2, "<init>", "()V"⟩
abbrev cX2_clear : ByteArray := prog_4_method_2_code
def yX2_clear : MethodName := ⟨RX2, "clear", "()V"⟩
abbrev cX2_copyFrom : ByteArray := prog_4_method_3_code
def yX2_copyFrom : MethodName := ⟨RX2, "copyFrom", "(LLastBench$Chapel;)V"⟩
abbrev cX2_isThere : ByteArray := prog_4_method_4_code
def yX2_isThere : MethodName := ⟨RX2, "isThere", "()Z"⟩
abbrev cX2_hasPerson : ByteArray := prog_4_method_5_code
def yX2_hasPerson : MethodName := ⟨RX2, "hasPerson", "(I)Z"⟩
abbrev cX2_hasWrong : ByteArray := prog_4_method_6_code
def yX2_hasWrong : MethodName := ⟨RX2, "hasWrong", "(I)Z"⟩
abbrev cX2_isForgiven : ByteArray := prog_4_method_7_code
def yX2_isForgiven : MethodName := ⟨RX2, "isForgiven", "(I)Z"⟩
abbrev cX2_allWarm : ByteArray := prog_4_method_8_code
def yX2_allWarm : MethodName := ⟨RX2, "allWarm", "()I"⟩
abbrev cX2_allFroze : ByteArray := prog_4_method_9_code
def yX2_allFroze : MethodName := ⟨RX2, "allFroze", "()I"⟩
abbrev cX2_passSunday : ByteArray := prog_4_method_10_code
def yX2_passSunday : MethodName := ⟨RX2, "passSunday", "(I)I"⟩
abbrev cX2_addSeen : ByteArray := prog_4_method_11_code
def yX2_addSeen : MethodName := ⟨RX2, "addSeen", "(IIZ)V"⟩
def RX3 : String := "LastBench$Graves"
def TX3 : u_T := fun k => match k with
  | 0 => ("LastBench$Graves", "places", "[I", true)
  | _ => ("LastBench$Graves", "possible", "I", false)
def tyX3 : Nat → FieldType := fun k => match k with
  | 0 => .array .int
  | _ => .int
abbrev wsX30 : List Cond := u_ws RX3 TX3 2
theorem nmX3 : ∀ a, a < 2 → ∀ b, b < 2 → a ≠ b → (TX3 a).2.1 ≠ (TX3 b).2.1 := by decide +kernel
theorem tyX3_ok : ∀ k, k < 2 → parseFieldDescriptor (TX3 k).2.2.1 = some (tyX3 k) := by decide +kernel
abbrev cX3_init : ByteArray := prog_5_method_1_code
def yX3_init : MethodName := ⟨RX3, "<init>", "()V"⟩
abbrev cX3_fill : ByteArray := prog_5_method_2_code
def yX3_fill : MethodName := ⟨RX3, "fill", "(LLastBench$Chapel;ILLastBench$Chapel;LLastBench$Bench;)V"⟩
abbrev cX3_isAsSeen : ByteArray := prog_5_method_3_code
def yX3_isAsSeen : MethodName := ⟨RX3, "isAsSeen", "(LLastBench$Chapel;II)Z"⟩
abbrev cX3_bestRoom : ByteArray := prog_5_method_4_code
def yX3_bestRoom : MethodName := ⟨RX3, "bestRoom", "()I"⟩
abbrev cX3_leftAtWorst : ByteArray := prog_5_method_5_code
def yX3_leftAtWorst : MethodName := ⟨RX3, "leftAtWorst", "(I)I"⟩
def RX4 : String := "LastBench$Grudges"
def TX4 : u_T := fun k => match k with
  | 0 => ("LastBench$Grudges", "leads", "[I", true)
  | _ => ("LastBench$Grudges", "people", "I", false)
def tyX4 : Nat → FieldType := fun k => match k with
  | 0 => .array .int
  | _ => .int
abbrev wsX40 : List Cond := u_ws RX4 TX4 2
theorem nmX4 : ∀ a, a < 2 → ∀ b, b < 2 → a ≠ b → (TX4 a).2.1 ≠ (TX4 b).2.1 := by decide +kernel
theorem tyX4_ok : ∀ k, k < 2 → parseFieldDescriptor (TX4 k).2.2.1 = some (tyX4 k) := by decide +kernel
abbrev cX4_init : ByteArray := prog_6_method_1_code
def yX4_init : MethodName := ⟨RX4, "<init>", "()V"⟩
abbrev cX4_fill : ByteArray := prog_6_method_2_code
def yX4_fill : MethodName := ⟨RX4, "fill", "(LLastBench$Chapel;I)V"⟩
abbrev cX4_fewest : ByteArray := prog_6_method_3_code
def yX4_fewest : MethodName := ⟨RX4, "fewest", "(II)I"⟩
abbrev cX4_oneFurther : ByteArray := prog_6_method_4_code
def yX4_oneFurther : MethodName := ⟨RX4, "oneFurther", "(I)I"⟩
abbrev cX4_shortestRing : ByteArray := prog_6_method_5_code
def yX4_shortestRing : MethodName := ⟨RX4, "shortestRing", "()I"⟩
abbrev cX4_fewestToForgive : ByteArray := prog_6_method_6_code
def yX4_fewestToForgive : MethodName := ⟨RX4, "fewestToForgive", "(LLastBench$Chapel;)I"⟩
abbrev cX4_hasRing : ByteArray := prog_6_method_7_code
def yX4_hasRing : MethodName := ⟨RX4, "hasRing", "()Z"⟩
def RX5 : String := "LastBench$Leaving"
def TX5 : u_T := fun k => match k with
  | 0 => ("LastBench$Leaving", "freezes", "[[I", true)
  | 1 => ("LastBench$Leaving", "warmThen", "[[I", true)
  | 2 => ("LastBench$Leaving", "freezing", "I", false)
  | 3 => ("LastBench$Leaving", "leastWarm", "I", false)
  | _ => ("LastBench$Leaving", "left", "I", false)
def tyX5 : Nat → FieldType := fun k => match k with
  | 0 => .array (.array .int)
  | 1 => .array (.array .int)
  | 2 => .int
  | 3 => .int
  | _ => .int
abbrev wsX50 : List Cond := u_ws RX5 TX5 5
theorem nmX5 : ∀ a, a < 5 → ∀ b, b < 5 → a ≠ b → (TX5 a).2.1 ≠ (TX5 b).2.1 := by decide +kernel
theorem tyX5_ok : ∀ k, k < 5 → parseFieldDescriptor (TX5 k).2.2.1 = some (tyX5 k) := by decide +kernel
abbrev cX5_init : ByteArray := prog_7_method_1_code
def yX5_init : MethodName := ⟨RX5, "<init>", "()V"⟩
abbrev cX5_choose : ByteArray := prog_7_method_2_code
def yX5_choose : MethodName := ⟨RX5, "choose", "(LLastBench$Chapel;ILLastBench$Bench;)V"⟩
abbrev cX5_lookAhead : ByteArray := prog_7_method_3_code
def yX5_lookAhead : MethodName := ⟨RX5, "lookAhead", "(LLastBench$Chapel;II)V"⟩
abbrev cX5_weigh : ByteArray := prog_7_method_4_code
def yX5_weigh : MethodName := ⟨RX5, "weigh", "(III)V"⟩
abbrev cX5_isBetter : ByteArray := prog_7_method_5_code
def yX5_isBetter : MethodName := ⟨RX5, "isBetter", "(III)Z"⟩
def RX6 : String := "LastBench$Page"
def TX6 : u_T := fun k => match k with
  | 0 => ("LastBench$Page", "codes", "[I", true)
  | _ => ("LastBench$Page", "length", "I", false)
def tyX6 : Nat → FieldType := fun k => match k with
  | 0 => .array .int
  | _ => .int
abbrev wsX60 : List Cond := u_ws RX6 TX6 2
theorem nmX6 : ∀ a, a < 2 → ∀ b, b < 2 → a ≠ b → (TX6 a).2.1 ≠ (TX6 b).2.1 := by decide +kernel
theorem tyX6_ok : ∀ k, k < 2 → parseFieldDescriptor (TX6 k).2.2.1 = some (tyX6 k) := by decide +kernel
abbrev cX6_init : ByteArray := prog_8_method_1_code
def yX6_init : MethodName := ⟨RX6, "<init>", "()V"⟩
abbrev cX6_add : ByteArray := prog_8_method_2_code
def yX6_add : MethodName := ⟨RX6, "add", "(I)V"⟩
def RX7 : String := "LastBench$Reader"
def TX7 : u_T := fun k => match k with
  | 0 => ("LastBench$Reader", "draft", "LLastBench$Chapel;", true)
  | _ => ("LastBench$Reader", "next", "I", false)
def tyX7 : Nat → FieldType := fun k => match k with
  | 0 => .object "LastBench$Chapel"
  | _ => .int
abbrev wsX70 : List Cond := u_ws RX7 TX7 2
theorem nmX7 : ∀ a, a < 2 → ∀ b, b < 2 → a ≠ b → (TX7 a).2.1 ≠ (TX7 b).2.1 := by decide +kernel
theorem tyX7_ok : ∀ k, k < 2 → parseFieldDescriptor (TX7 k).2.2.1 = some (tyX7 k) := by decide +kernel
abbrev cX7_init : ByteArray := prog_9_method_1_code
def yX7_init : MethodName := ⟨RX7, "<init>", "()V"⟩
abbrev cX7_firstFault : ByteArray := prog_9_method_2_code
def yX7_firstFault : MethodName := ⟨RX7, "firstFault", "(LLastBench$Page;)I"⟩
abbrev cX7_isWhole : ByteArray := prog_9_method_3_code
def yX7_isWhole : MethodName := ⟨RX7, "isWhole", "()Z"⟩
abbrev cX7_takes : ByteArray := prog_9_method_4_code
def yX7_takes : MethodName := ⟨RX7, "takes", "(I)Z"⟩
abbrev cX7_goesOn : ByteArray := prog_9_method_5_code
def yX7_goesOn : MethodName := ⟨RX7, "goesOn", "(ZI)Z"⟩
abbrev cX7_takesRoom : ByteArray := prog_9_method_6_code
def yX7_takesRoom : MethodName := ⟨RX7, "takesRoom", "(I)Z"⟩
abbrev cX7_takesKind : ByteArray := prog_9_method_7_code
def yX7_takesKind : MethodName := ⟨RX7, "takesKind", "(I)Z"⟩
abbrev cX7_takesWarm : ByteArray := prog_9_method_8_code
def yX7_takesWarm : MethodName := ⟨RX7, "takesWarm", "(I)Z"⟩
abbrev cX7_takesMark : ByteArray := prog_9_method_9_code
def yX7_takesMark : MethodName := ⟨RX7, "takesMark", "(I)Z"⟩
abbrev cX7_takesDid : ByteArray := prog_9_method_10_code
def yX7_takesDid : MethodName := ⟨RX7, "takesDid", "(I)Z"⟩
abbrev cX7_takesWhom : ByteArray := prog_9_method_11_code
def yX7_takesWhom : MethodName := ⟨RX7, "takesWhom", "(I)Z"⟩
abbrev cX7_takesGrave : ByteArray := prog_9_method_12_code
def yX7_takesGrave : MethodName := ⟨RX7, "takesGrave", "(I)Z"⟩
def RX8 : String := "LastBench$Weather"
def TX8 : u_T := fun k => match k with
  | 0 => ("LastBench$Weather", "freezing", "I", false)
  | _ => ("LastBench$Weather", "seed", "I", false)
def tyX8 : Nat → FieldType := fun k => match k with
  | 0 => .int
  | _ => .int
abbrev wsX80 : List Cond := u_ws RX8 TX8 2
theorem nmX8 : ∀ a, a < 2 → ∀ b, b < 2 → a ≠ b → (TX8 a).2.1 ≠ (TX8 b).2.1 := by decide +kernel
theorem tyX8_ok : ∀ k, k < 2 → parseFieldDescriptor (TX8 k).2.2.1 = some (tyX8 k) := by decide +kernel
abbrev cX8_init : ByteArray := prog_10_method_1_code
def yX8_init : MethodName := ⟨RX8, "<init>", "()V"⟩
abbrev cX8_pass : ByteArray := prog_10_method_2_code
def yX8_pass : MethodName := ⟨RX8, "pass", "(LLastBench$Chapel;IILLastBench$Bench;)V"⟩
abbrev cX8_draw : ByteArray := prog_10_method_3_code
def yX8_draw : MethodName := ⟨RX8, "draw", "(I)I"⟩
def RX9 : String := "LastBench"
def TX9 : u_T := fun k => match k with
  | 0 => ("LastBench", "page", "LLastBench$Page;", true)
  | 1 => ("LastBench", "reader", "LLastBench$Reader;", true)
  | 2 => ("LastBench", "now", "LLastBench$Chapel;", true)
  | 3 => ("LastBench", "kept", "LLastBench$Chapel;", true)
  | 4 => ("LastBench", "trial", "LLastBench$Chapel;", true)
  | 5 => ("LastBench", "bench", "LLastBench$Bench;", true)
  | 6 => ("LastBench", "grudges", "LLastBench$Grudges;", true)
  | 7 => ("LastBench", "leaving", "LLastBench$Leaving;", true)
  | 8 => ("LastBench", "chances", "LLastBench$Chances;", true)
  | 9 => ("LastBench", "graves", "LLastBench$Graves;", true)
  | 10 => ("LastBench", "weather", "LLastBench$Weather;", true)
  | 11 => ("LastBench", "hasImage", "Z", false)
  | 12 => ("LastBench", "chapelsRead", "I", false)
  | _ => ("LastBench", "leavesDone", "I", false)
def tyX9 : Nat → FieldType := fun k => match k with
  | 0 => .object "LastBench$Page"
  | 1 => .object "LastBench$Reader"
  | 2 => .object "LastBench$Chapel"
  | 3 => .object "LastBench$Chapel"
  | 4 => .object "LastBench$Chapel"
  | 5 => .object "LastBench$Bench"
  | 6 => .object "LastBench$Grudges"
  | 7 => .object "LastBench$Leaving"
  | 8 => .object "LastBench$Chances"
  | 9 => .object "LastBench$Graves"
  | 10 => .object "LastBench$Weather"
  | 11 => .boolean
  | 12 => .int
  | _ => .int
abbrev wsX90 : List Cond := u_ws RX9 TX9 14
theorem nmX9 : ∀ a, a < 14 → ∀ b, b < 14 → a ≠ b → (TX9 a).2.1 ≠ (TX9 b).2.1 := by decide +kernel
theorem tyX9_ok : ∀ k, k < 14 → parseFieldDescriptor (TX9 k).2.2.1 = some (tyX9 k) := by decide +kernel
abbrev cX9_init : ByteArray := prog_1_method_1_code
def yX9_init : MethodName := ⟨RX9, "<init>", "()V"⟩
abbrev cX9_letter : ByteArray := prog_1_method_2_code
def yX9_letter : MethodName := ⟨RX9, "letter", "(I)I"⟩
abbrev cX9_blank : ByteArray := prog_1_method_3_code
def yX9_blank : MethodName := ⟨RX9, "blank", "()I"⟩
abbrev cX9_fault : ByteArray := prog_1_method_4_code
def yX9_fault : MethodName := ⟨RX9, "fault", "()I"⟩
abbrev cX9_chapel : ByteArray := prog_1_method_5_code
def yX9_chapel : MethodName := ⟨RX9, "chapel", "()I"⟩
abbrev cX9_person : ByteArray := prog_1_method_6_code
def yX9_person : MethodName := ⟨RX9, "person", "(II)I"⟩
abbrev cX9_as : ByteArray := prog_1_method_7_code
def yX9_as : MethodName := ⟨RX9, "as", "(II)I"⟩
abbrev cX9_wrong : ByteArray := prog_1_method_8_code
def yX9_wrong : MethodName := ⟨RX9, "wrong", "(II)I"⟩
abbrev cX9_to : ByteArray := prog_1_method_9_code
def yX9_to : MethodName := ⟨RX9, "to", "(II)I"⟩
abbrev cX9_sunday : ByteArray := prog_1_method_10_code
def yX9_sunday : MethodName := ⟨RX9, "sunday", "()I"⟩
abbrev cX9_forgive : ByteArray := prog_1_method_11_code
def yX9_forgive : MethodName := ⟨RX9, "forgive", "(I)I"⟩
abbrev cX9_again : ByteArray := prog_1_method_12_code
def yX9_again : MethodName := ⟨RX9, "again", "(II)I"⟩
abbrev cX9_room : ByteArray := prog_1_method_13_code
def yX9_room : MethodName := ⟨RX9, "room", "(I)I"⟩
abbrev cX9_change : ByteArray := prog_1_method_14_code
def yX9_change : MethodName := ⟨RX9, "change", "(III)I"⟩
abbrev cX9_leave : ByteArray := prog_1_method_15_code
def yX9_leave : MethodName := ⟨RX9, "leave", "(II)I"⟩
abbrev cX9_ring : ByteArray := prog_1_method_16_code
def yX9_ring : MethodName := ⟨RX9, "ring", "()I"⟩
abbrev cX9_peace : ByteArray := prog_1_method_17_code
def yX9_peace : MethodName := ⟨RX9, "peace", "(I)I"⟩
abbrev cX9_odds : ByteArray := prog_1_method_18_code
def yX9_odds : MethodName := ⟨RX9, "odds", "(III)I"⟩
abbrev cX9_see : ByteArray := prog_1_method_19_code
def yX9_see : MethodName := ⟨RX9, "see", "(IIZ)I"⟩
abbrev cX9_forget : ByteArray := prog_1_method_20_code
def yX9_forget : MethodName := ⟨RX9, "forget", "()I"⟩
abbrev cX9_winters : ByteArray := prog_1_method_21_code
def yX9_winters : MethodName := ⟨RX9, "winters", "(III)I"⟩
abbrev cX9_image : ByteArray := prog_1_method_22_code
def yX9_image : MethodName := ⟨RX9, "image", "()I"⟩
abbrev cX9_restore : ByteArray := prog_1_method_23_code
def yX9_restore : MethodName := ⟨RX9, "restore", "()I"⟩
abbrev cX9_count : ByteArray := prog_1_method_24_code
def yX9_count : MethodName := ⟨RX9, "count", "(I)I"⟩
abbrev cX9_digest : ByteArray := prog_1_method_25_code
def yX9_digest : MethodName := ⟨RX9, "digest", "()J"⟩
abbrev cX9_digestPeople : ByteArray := prog_1_method_26_code
def yX9_digestPeople : MethodName := ⟨RX9, "digestPeople", "(J)J"⟩
abbrev cX9_digestWrongs : ByteArray := prog_1_method_27_code
def yX9_digestWrongs : MethodName := ⟨RX9, "digestWrongs", "(J)J"⟩
abbrev cX9_digestGrudges : ByteArray := prog_1_method_28_code
def yX9_digestGrudges : MethodName := ⟨RX9, "digestGrudges", "(J)J"⟩
abbrev cX9_guiltOf : ByteArray := prog_1_method_29_code
def yX9_guiltOf : MethodName := ⟨RX9, "guiltOf", "(I)I"⟩
abbrev cX9_sittersNow : ByteArray := prog_1_method_30_code
def yX9_sittersNow : MethodName := ⟨RX9, "sittersNow", "()I"⟩
abbrev cX9_isRoom : ByteArray := prog_1_method_31_code
def yX9_isRoom : MethodName := ⟨RX9, "isRoom", "(I)Z"⟩
abbrev cX9_isKind : ByteArray := prog_1_method_32_code
def yX9_isKind : MethodName := ⟨RX9, "isKind", "(I)Z"⟩
abbrev cX9_isA : ByteArray := prog_1_method_33_code
def yX9_isA : MethodName := ⟨RX9, "isA", "(II)Z"⟩
abbrev cX9_hasBit : ByteArray := prog_1_method_34_code
def yX9_hasBit : MethodName := ⟨RX9, "hasBit", "(II)Z"⟩
abbrev cX9_nextWarm : ByteArray := prog_1_method_35_code
def yX9_nextWarm : MethodName := ⟨RX9, "nextWarm", "(IZ)I"⟩
abbrev cX9_digitOf : ByteArray := prog_1_method_36_code
def yX9_digitOf : MethodName := ⟨RX9, "digitOf", "(I)I"⟩
def RX10 : String := "LastBenchModel"
def TX10 : u_T := fun k => match k with
  | 0 => ("LastBenchModel", "page", "[I", true)
  | 1 => ("LastBenchModel", "pageMany", "I", false)
  | 2 => ("LastBenchModel", "end", "I", false)
  | 3 => ("LastBenchModel", "people", "I", false)
  | 4 => ("LastBenchModel", "wrongs", "I", false)
  | 5 => ("LastBenchModel", "seats", "I", false)
  | 6 => ("LastBenchModel", "forgiven", "I", false)
  | 7 => ("LastBenchModel", "sundays", "I", false)
  | 8 => ("LastBenchModel", "chapelsRead", "I", false)
  | 9 => ("LastBenchModel", "kinds", "[I", true)
  | 10 => ("LastBenchModel", "warms", "[I", true)
  | 11 => ("LastBenchModel", "froze", "[I", true)
  | 12 => ("LastBenchModel", "doers", "[I", true)
  | 13 => ("LastBenchModel", "whom", "[I", true)
  | 14 => ("LastBenchModel", "graves", "[I", true)
  | 15 => ("LastBenchModel", "guilts", "[I", true)
  | 16 => ("LastBenchModel", "warmThen", "[I", true)
  | 17 => ("LastBenchModel", "leavesDone", "I", false)
  | 18 => ("LastBenchModel", "leftFreeze", "I", false)
  | 19 => ("LastBenchModel", "leftWarm", "I", false)
  | 20 => ("LastBenchModel", "seenMany", "I", false)
  | 21 => ("LastBenchModel", "sights", "[I", true)
  | 22 => ("LastBenchModel", "seedNow", "I", false)
  | 23 => ("LastBenchModel", "keptChapel", "I", false)
  | 24 => ("LastBenchModel", "keptSeats", "I", false)
  | 25 => ("LastBenchModel", "keptForgiven", "I", false)
  | 26 => ("LastBenchModel", "keptSundays", "I", false)
  | 27 => ("LastBenchModel", "keptSeen", "I", false)
  | 28 => ("LastBenchModel", "keptKinds", "[I", true)
  | 29 => ("LastBenchModel", "keptWarms", "[I", true)
  | 30 => ("LastBenchModel", "keptFroze", "[I", true)
  | 31 => ("LastBenchModel", "keptGraves", "[I", true)
  | 32 => ("LastBenchModel", "keptSights", "[I", true)
  | _ => ("LastBenchModel", "hash", "J", false)
def tyX10 : Nat → FieldType := fun k => match k with
  | 0 => .array .int
  | 1 => .int
  | 2 => .int
  | 3 => .int
  | 4 => .int
  | 5 => .int
  | 6 => .int
  | 7 => .int
  | 8 => .int
  | 9 => .array .int
  | 10 => .array .int
  | 11 => .array .int
  | 12 => .array .int
  | 13 => .array .int
  | 14 => .array .int
  | 15 => .array .int
  | 16 => .array .int
  | 17 => .int
  | 18 => .int
  | 19 => .int
  | 20 => .int
  | 21 => .array .int
  | 22 => .int
  | 23 => .int
  | 24 => .int
  | 25 => .int
  | 26 => .int
  | 27 => .int
  | 28 => .array .int
  | 29 => .array .int
  | 30 => .array .int
  | 31 => .array .int
  | 32 => .array .int
  | _ => .long
abbrev wsX100 : List Cond := u_ws RX10 TX10 34
theorem nmX10 : ∀ a, a < 34 → ∀ b, b < 34 → a ≠ b → (TX10 a).2.1 ≠ (TX10 b).2.1 := by decide +kernel
theorem tyX10_ok : ∀ k, k < 34 → parseFieldDescriptor (TX10 k).2.2.1 = some (tyX10 k) := by decide +kernel
abbrev cX10_init : ByteArray := prog_12_method_1_code
def yX10_init : MethodName := ⟨RX10, "<init>", "()V"⟩
abbrev cX10_in : ByteArray := prog_12_method_2_code
def yX10_in : MethodName := ⟨RX10, "in", "(JJJ)Z"⟩
abbrev cX10_copy : ByteArray := prog_12_method_3_code
def yX10_copy : MethodName := ⟨RX10, "copy", "([I[I)V"⟩
abbrev cX10_ones : ByteArray := prog_12_method_4_code
def yX10_ones : MethodName := ⟨RX10, "ones", "(I)I"⟩
abbrev cX10_letter : ByteArray := prog_12_method_5_code
def yX10_letter : MethodName := ⟨RX10, "letter", "(I)I"⟩
abbrev cX10_blank : ByteArray := prog_12_method_6_code
def yX10_blank : MethodName := ⟨RX10, "blank", "()I"⟩
abbrev cX10_kindBy : ByteArray := prog_12_method_7_code
def yX10_kindBy : MethodName := ⟨RX10, "kindBy", "(I)I"⟩
abbrev cX10_isPersonLetter : ByteArray := prog_12_method_8_code
def yX10_isPersonLetter : MethodName := ⟨RX10, "isPersonLetter", "(I)Z"⟩
abbrev cX10_isPersonDigit : ByteArray := prog_12_method_9_code
def yX10_isPersonDigit : MethodName := ⟨RX10, "isPersonDigit", "(I)Z"⟩
abbrev cX10_isWrongLetter : ByteArray := prog_12_method_10_code
def yX10_isWrongLetter : MethodName := ⟨RX10, "isWrongLetter", "(I)Z"⟩
abbrev cX10_isGood : ByteArray := prog_12_method_11_code
def yX10_isGood : MethodName := ⟨RX10, "isGood", "(I)Z"⟩
abbrev cX10_faultOf : ByteArray := prog_12_method_12_code
def yX10_faultOf : MethodName := ⟨RX10, "faultOf", "()I"⟩
abbrev cX10_fault : ByteArray := prog_12_method_13_code
def yX10_fault : MethodName := ⟨RX10, "fault", "()I"⟩
abbrev cX10_chapel : ByteArray := prog_12_method_14_code
def yX10_chapel : MethodName := ⟨RX10, "chapel", "()I"⟩
abbrev cX10_lacks : ByteArray := prog_12_method_15_code
def yX10_lacks : MethodName := ⟨RX10, "lacks", "()Z"⟩
abbrev cX10_isPerson : ByteArray := prog_12_method_16_code
def yX10_isPerson : MethodName := ⟨RX10, "isPerson", "(I)Z"⟩
abbrev cX10_isWrong : ByteArray := prog_12_method_17_code
def yX10_isWrong : MethodName := ⟨RX10, "isWrong", "(I)Z"⟩
abbrev cX10_guiltBy : ByteArray := prog_12_method_18_code
def yX10_guiltBy : MethodName := ⟨RX10, "guiltBy", "(II)I"⟩
abbrev cX10_sitsBy : ByteArray := prog_12_method_19_code
def yX10_sitsBy : MethodName := ⟨RX10, "sitsBy", "(II)I"⟩
abbrev cX10_sitsNow : ByteArray := prog_12_method_20_code
def yX10_sitsNow : MethodName := ⟨RX10, "sitsNow", "()I"⟩
abbrev cX10_sundayThen : ByteArray := prog_12_method_21_code
def yX10_sundayThen : MethodName := ⟨RX10, "sundayThen", "(I)I"⟩
abbrev cX10_grudgesOf : ByteArray := prog_12_method_22_code
def yX10_grudgesOf : MethodName := ⟨RX10, "grudgesOf", "(II)I"⟩
abbrev cX10_tellPerson : ByteArray := prog_12_method_23_code
def yX10_tellPerson : MethodName := ⟨RX10, "tellPerson", "(II)I"⟩
abbrev cX10_person : ByteArray := prog_12_method_24_code
def yX10_person : MethodName := ⟨RX10, "person", "(II)I"⟩
abbrev cX10_as : ByteArray := prog_12_method_25_code
def yX10_as : MethodName := ⟨RX10, "as", "(II)I"⟩
abbrev cX10_tellWrong : ByteArray := prog_12_method_26_code
def yX10_tellWrong : MethodName := ⟨RX10, "tellWrong", "(II)I"⟩
abbrev cX10_wrong : ByteArray := prog_12_method_27_code
def yX10_wrong : MethodName := ⟨RX10, "wrong", "(II)I"⟩
abbrev cX10_stepFrom : ByteArray := prog_12_method_28_code
def yX10_stepFrom : MethodName := ⟨RX10, "stepFrom", "(II)I"⟩
abbrev cX10_farBy : ByteArray := prog_12_method_29_code
def yX10_farBy : MethodName := ⟨RX10, "farBy", "(III)I"⟩
abbrev cX10_to : ByteArray := prog_12_method_30_code
def yX10_to : MethodName := ⟨RX10, "to", "(II)I"⟩
abbrev cX10_sunday : ByteArray := prog_12_method_31_code
def yX10_sunday : MethodName := ⟨RX10, "sunday", "()I"⟩
abbrev cX10_forgive : ByteArray := prog_12_method_32_code
def yX10_forgive : MethodName := ⟨RX10, "forgive", "(I)I"⟩
abbrev cX10_again : ByteArray := prog_12_method_33_code
def yX10_again : MethodName := ⟨RX10, "again", "(II)I"⟩
abbrev cX10_room : ByteArray := prog_12_method_34_code
def yX10_room : MethodName := ⟨RX10, "room", "(I)I"⟩
abbrev cX10_change : ByteArray := prog_12_method_35_code
def yX10_change : MethodName := ⟨RX10, "change", "(III)I"⟩
abbrev cX10_goSundays : ByteArray := prog_12_method_36_code
def yX10_goSundays : MethodName := ⟨RX10, "goSundays", "(II)V"⟩
abbrev cX10_leaveOf : ByteArray := prog_12_method_37_code
def yX10_leaveOf : MethodName := ⟨RX10, "leaveOf", "(II)I"⟩
abbrev cX10_leave : ByteArray := prog_12_method_38_code
def yX10_leave : MethodName := ⟨RX10, "leave", "(II)I"⟩
abbrev cX10_ringBy : ByteArray := prog_12_method_39_code
def yX10_ringBy : MethodName := ⟨RX10, "ringBy", "(I)I"⟩
abbrev cX10_ring : ByteArray := prog_12_method_40_code
def yX10_ring : MethodName := ⟨RX10, "ring", "()I"⟩
abbrev cX10_peaceOf : ByteArray := prog_12_method_41_code
def yX10_peaceOf : MethodName := ⟨RX10, "peaceOf", "(I)I"⟩
abbrev cX10_peace : ByteArray := prog_12_method_42_code
def yX10_peace : MethodName := ⟨RX10, "peace", "(I)I"⟩
abbrev cX10_oddsOf : ByteArray := prog_12_method_43_code
def yX10_oddsOf : MethodName := ⟨RX10, "oddsOf", "(III)I"⟩
abbrev cX10_odds : ByteArray := prog_12_method_44_code
def yX10_odds : MethodName := ⟨RX10, "odds", "(III)I"⟩
abbrev cX10_see : ByteArray := prog_12_method_45_code
def yX10_see : MethodName := ⟨RX10, "see", "(IIZ)I"⟩
abbrev cX10_forget : ByteArray := prog_12_method_46_code
def yX10_forget : MethodName := ⟨RX10, "forget", "()I"⟩
abbrev cX10_sitsIf : ByteArray := prog_12_method_47_code
def yX10_sitsIf : MethodName := ⟨RX10, "sitsIf", "(III)I"⟩
abbrev cX10_gravesOf : ByteArray := prog_12_method_48_code
def yX10_gravesOf : MethodName := ⟨RX10, "gravesOf", "(I)I"⟩
abbrev cX10_lookOf : ByteArray := prog_12_method_49_code
def yX10_lookOf : MethodName := ⟨RX10, "lookOf", "(I)I"⟩
abbrev cX10_draw : ByteArray := prog_12_method_50_code
def yX10_draw : MethodName := ⟨RX10, "draw", "(I)I"⟩
abbrev cX10_warmAll : ByteArray := prog_12_method_51_code
def yX10_warmAll : MethodName := ⟨RX10, "warmAll", "([I)I"⟩
abbrev cX10_winters : ByteArray := prog_12_method_52_code
def yX10_winters : MethodName := ⟨RX10, "winters", "(III)I"⟩
abbrev cX10_image : ByteArray := prog_12_method_53_code
def yX10_image : MethodName := ⟨RX10, "image", "()I"⟩
abbrev cX10_restore : ByteArray := prog_12_method_54_code
def yX10_restore : MethodName := ⟨RX10, "restore", "()I"⟩
abbrev cX10_guiltAll : ByteArray := prog_12_method_55_code
def yX10_guiltAll : MethodName := ⟨RX10, "guiltAll", "()I"⟩
abbrev cX10_countOf : ByteArray := prog_12_method_56_code
def yX10_countOf : MethodName := ⟨RX10, "countOf", "(I)I"⟩
abbrev cX10_count : ByteArray := prog_12_method_57_code
def yX10_count : MethodName := ⟨RX10, "count", "(I)I"⟩
abbrev cX10_say : ByteArray := prog_12_method_58_code
def yX10_say : MethodName := ⟨RX10, "say", "(J)V"⟩
abbrev cX10_sayChapel : ByteArray := prog_12_method_59_code
def yX10_sayChapel : MethodName := ⟨RX10, "sayChapel", "()V"⟩
abbrev cX10_digest : ByteArray := prog_12_method_60_code
def yX10_digest : MethodName := ⟨RX10, "digest", "()J"⟩
def RJ11 : String := "java/lang/Character"
def TJ11 : u_T := fun k => match k with
  | _ => ("", "", "", false)
def tyJ11 : Nat → FieldType := fun k => match k with
  | _ => .int
abbrev wsJ110 : List Cond := u_ws RJ11 TJ11 0
theorem nmJ11 : ∀ a, a < 0 → ∀ b, b < 0 → a ≠ b → (TJ11 a).2.1 ≠ (TJ11 b).2.1 := by decide +kernel
theorem tyJ11_ok : ∀ k, k < 0 → parseFieldDescriptor (TJ11 k).2.2.1 = some (tyJ11 k) := by decide +kernel
abbrev cJ11_isValidCodePoint_9a6ad : ByteArray := prog_13_method_11_code
def yJ11_isValidCodePoint_9a6ad : MethodName := ⟨RJ11, "isValidCodePoint", "(I)Z"⟩
abbrev cJ11_highSurrogate_5068e : ByteArray := prog_13_method_28_code
def yJ11_highSurrogate_5068e : MethodName := ⟨RJ11, "highSurrogate", "(I)C"⟩
abbrev cJ11_lowSurrogate_5068e : ByteArray := prog_13_method_29_code
def yJ11_lowSurrogate_5068e : MethodName := ⟨RJ11, "lowSurrogate", "(I)C"⟩
def RJ6 : String := "java/lang/Integer"
def TJ6 : u_T := fun k => match k with
  | _ => ("", "", "", false)
def tyJ6 : Nat → FieldType := fun k => match k with
  | _ => .int
abbrev wsJ60 : List Cond := u_ws RJ6 TJ6 0
theorem nmJ6 : ∀ a, a < 0 → ∀ b, b < 0 → a ≠ b → (TJ6 a).2.1 ≠ (TJ6 b).2.1 := by decide +kernel
theorem tyJ6_ok : ∀ k, k < 0 → parseFieldDescriptor (TJ6 k).2.2.1 = some (tyJ6 k) := by decide +kernel
abbrev cJ6_bitCount_0f7a4 : ByteArray := prog_14_method_49_code
def yJ6_bitCount_0f7a4 : MethodName := ⟨RJ6, "bitCount", "(I)I"⟩
def RJ9 : String := "java/lang/Math"
def TJ9 : u_T := fun k => match k with
  | _ => ("", "", "", false)
def tyJ9 : Nat → FieldType := fun k => match k with
  | _ => .int
abbrev wsJ90 : List Cond := u_ws RJ9 TJ9 0
theorem nmJ9 : ∀ a, a < 0 → ∀ b, b < 0 → a ≠ b → (TJ9 a).2.1 ≠ (TJ9 b).2.1 := by decide +kernel
theorem tyJ9_ok : ∀ k, k < 0 → parseFieldDescriptor (TJ9 k).2.2.1 = some (tyJ9 k) := by decide +kernel
abbrev cJ9_max_7cf53 : ByteArray := prog_15_method_65_code
def yJ9_max_7cf53 : MethodName := ⟨RJ9, "max", "(II)I"⟩
abbrev cJ9_min_7cf53 : ByteArray := prog_15_method_69_code
def yJ9_min_7cf53 : MethodName := ⟨RJ9, "min", "(II)I"⟩
def RJ0 : String := "java/lang/String"
def TJ0 : u_T := fun k => match k with
  | _ => ("", "", "", false)
def tyJ0 : Nat → FieldType := fun k => match k with
  | _ => .int
abbrev wsJ00 : List Cond := u_ws RJ0 TJ0 0
theorem nmJ0 : ∀ a, a < 0 → ∀ b, b < 0 → a ≠ b → (TJ0 a).2.1 ≠ (TJ0 b).2.1 := by decide +kernel
theorem tyJ0_ok : ∀ k, k < 0 → parseFieldDescriptor (TJ0 k).2.2.1 = some (tyJ0 k) := by decide +kernel
abbrev cJ0_length_8abf5 : ByteArray := prog_16_method_54_code
def yJ0_length_8abf5 : MethodName := ⟨RJ0, "length", "()I"⟩
abbrev cJ0_indexOf_0f7a4 : ByteArray := prog_16_method_79_code
def yJ0_indexOf_0f7a4 : MethodName := ⟨RJ0, "indexOf", "(I)I"⟩
abbrev cJ0_indexOf_7cf53 : ByteArray := prog_16_method_80_code
def yJ0_indexOf_7cf53 : MethodName := ⟨RJ0, "indexOf", "(II)I"⟩
abbrev cJ0_coder_7d493 : ByteArray := prog_16_method_152_code
def yJ0_coder_7d493 : MethodName := ⟨RJ0, "coder", "()B"⟩
abbrev cJ0_isLatin1_aae02 : ByteArray := prog_16_method_154_code
def yJ0_isLatin1_aae02 : MethodName := ⟨RJ0, "isLatin1", "()Z"⟩
abbrev cJ0_checkBoundsBeginEnd_23922 : ByteArray := prog_16_method_158_code
def yJ0_checkBoundsBeginEnd_23922 : MethodName := ⟨RJ0, "checkBoundsBeginEnd", "(III)V"⟩
def RJ1 : String := "java/lang/StringLatin1"
def TJ1 : u_T := fun k => match k with
  | _ => ("", "", "", false)
def tyJ1 : Nat → FieldType := fun k => match k with
  | _ => .int
abbrev wsJ10 : List Cond := u_ws RJ1 TJ1 0
theorem nmJ1 : ∀ a, a < 0 → ∀ b, b < 0 → a ≠ b → (TJ1 a).2.1 ≠ (TJ1 b).2.1 := by decide +kernel
theorem tyJ1_ok : ∀ k, k < 0 → parseFieldDescriptor (TJ1 k).2.2.1 = some (tyJ1 k) := by decide +kernel
abbrev cJ1_canEncode_9a6ad : ByteArray := prog_17_method_4_code
def yJ1_canEncode_9a6ad : MethodName := ⟨RJ1, "canEncode", "(I)Z"⟩
abbrev cJ1_indexOf_4cfef : ByteArray := prog_17_method_22_code
def yJ1_indexOf_4cfef : MethodName := ⟨RJ1, "indexOf", "([BIII)I"⟩
abbrev cJ1_indexOfChar_4cfef : ByteArray := prog_17_method_23_code
def yJ1_indexOfChar_4cfef : MethodName := ⟨RJ1, "indexOfChar", "([BIII)I"⟩
def RJ2 : String := "java/lang/StringUTF16"
def TJ2 : u_T := fun k => match k with
  | _ => ("", "", "", false)
def tyJ2 : Nat → FieldType := fun k => match k with
  | _ => .int
abbrev wsJ20 : List Cond := u_ws RJ2 TJ2 0
theorem nmJ2 : ∀ a, a < 0 → ∀ b, b < 0 → a ≠ b → (TJ2 a).2.1 ≠ (TJ2 b).2.1 := by decide +kernel
theorem tyJ2_ok : ∀ k, k < 0 → parseFieldDescriptor (TJ2 k).2.2.1 = some (tyJ2 k) := by decide +kernel
abbrev cJ2_getChar_3b067 : ByteArray := prog_18_method_5_code
def yJ2_getChar_3b067 : MethodName := ⟨RJ2, "getChar", "([BI)C"⟩
abbrev cJ2_length_9d52b : ByteArray := prog_18_method_6_code
def yJ2_length_9d52b : MethodName := ⟨RJ2, "length", "([B)I"⟩
abbrev cJ2_indexOf_4cfef : ByteArray := prog_18_method_40_code
def yJ2_indexOf_4cfef : MethodName := ⟨RJ2, "indexOf", "([BIII)I"⟩
abbrev cJ2_indexOfChar_4cfef : ByteArray := prog_18_method_47_code
def yJ2_indexOfChar_4cfef : MethodName := ⟨RJ2, "indexOfChar", "([BIII)I"⟩
abbrev cJ2_indexOfCharUnsafe_4cfef : ByteArray := prog_18_method_48_code
def yJ2_indexOfCharUnsafe_4cfef : MethodName := ⟨RJ2, "indexOfCharUnsafe", "([BIII)I"⟩
abbrev cJ2_indexOfSupplementary_4cfef : ByteArray := prog_18_method_49_code
def yJ2_indexOfSupplementary_4cfef : MethodName := ⟨RJ2, "indexOfSupplementary", "([BIII)I"⟩
abbrev cJ2_checkBoundsBeginEnd_d044e : ByteArray := prog_18_method_93_code
def yJ2_checkBoundsBeginEnd_d044e : MethodName := ⟨RJ2, "checkBoundsBeginEnd", "(II[B)V"⟩
def RJ3 : String := "jdk/internal/util/Preconditions"
def TJ3 : u_T := fun k => match k with
  | _ => ("", "", "", false)
def tyJ3 : Nat → FieldType := fun k => match k with
  | _ => .int
abbrev wsJ30 : List Cond := u_ws RJ3 TJ3 0
theorem nmJ3 : ∀ a, a < 0 → ∀ b, b < 0 → a ≠ b → (TJ3 a).2.1 ≠ (TJ3 b).2.1 := by decide +kernel
theorem tyJ3_ok : ∀ k, k < 0 → parseFieldDescriptor (TJ3 k).2.2.1 = some (tyJ3 k) := by decide +kernel
abbrev cJ3_checkFromToIndex_8c36e : ByteArray := prog_19_method_12_code
def yJ3_checkFromToIndex_8c36e : MethodName := ⟨RJ3, "checkFromToIndex", "(IIILjava/util/function/BiFunction;)I"⟩
def RL : String := "LastBenchLaw"
abbrev cL_law : ByteArray := code
def yL_law : MethodName := ⟨RL, "law", "([I)Z"⟩
end
section
theorem dX0_init_0 : decode cX0_init 0 = .ok (.aload_n 0, 1) := by decide +kernel
theorem dX0_init_1 : decode cX0_init 1 = .ok (.invokespecial 3, 3) := by decide +kernel
theorem dX0_init_4 : decode cX0_init 4 = .ok (.aload_n 0, 1) := by decide +kernel
theorem dX0_init_5 : decode cX0_init 5 = .ok (.bipush 6, 2) := by decide +kernel
theorem dX0_init_7 : decode cX0_init 7 = .ok (.newarray .int, 2) := by decide +kernel
theorem dX0_init_9 : decode cX0_init 9 = .ok (.putfield 9, 3) := by decide +kernel
theorem dX0_init_12 : decode cX0_init 12 = .ok (.aload_n 0, 1) := by decide +kernel
theorem dX0_init_13 : decode cX0_init 13 = .ok (.bipush 6, 2) := by decide +kernel
theorem dX0_init_15 : decode cX0_init 15 = .ok (.newarray .int, 2) := by decide +kernel
theorem dX0_init_17 : decode cX0_init 17 = .ok (.putfield 15, 3) := by decide +kernel
theorem dX0_init_20 : decode cX0_init 20 = .ok (.aload_n 0, 1) := by decide +kernel
theorem dX0_init_21 : decode cX0_init 21 = .ok (.iconst 0, 1) := by decide +kernel
theorem dX0_init_22 : decode cX0_init 22 = .ok (.putfield 18, 3) := by decide +kernel
theorem dX0_init_25 : decode cX0_init 25 = .ok (.return_, 1) := by decide +kernel
theorem dX0_fill_0 : decode cX0_fill 0 = .ok (.aload_n 0, 1) := by decide +kernel
theorem dX0_fill_1 : decode cX0_fill 1 = .ok (.aload_n 1, 1) := by decide +kernel
theorem dX0_fill_2 : decode cX0_fill 2 = .ok (.getfield 22, 3) := by decide +kernel
theorem dX0_fill_5 : decode cX0_fill 5 = .ok (.putfield 18, 3) := by decide +kernel
theorem dX0_fill_8 : decode cX0_fill 8 = .ok (.iconst 0, 1) := by decide +kernel
theorem dX0_fill_9 : decode cX0_fill 9 = .ok (.istore_n 3, 1) := by decide +kernel
theorem dX0_fill_10 : decode cX0_fill 10 = .ok (.iload_n 3, 1) := by decide +kernel
theorem dX0_fill_11 : decode cX0_fill 11 = .ok (.aload_n 0, 1) := by decide +kernel
theorem dX0_fill_12 : decode cX0_fill 12 = .ok (.getfield 18, 3) := by decide +kernel
theorem dX0_fill_15 : decode cX0_fill 15 = .ok (.if_icmp .ge 23, 3) := by decide +kernel
theorem dX0_fill_18 : decode cX0_fill 18 = .ok (.aload_n 0, 1) := by decide +kernel
theorem dX0_fill_19 : decode cX0_fill 19 = .ok (.getfield 9, 3) := by decide +kernel
theorem dX0_fill_22 : decode cX0_fill 22 = .ok (.iload_n 3, 1) := by decide +kernel
theorem dX0_fill_23 : decode cX0_fill 23 = .ok (.iconst 0, 1) := by decide +kernel
theorem dX0_fill_24 : decode cX0_fill 24 = .ok (.iastore, 1) := by decide +kernel
theorem dX0_fill_25 : decode cX0_fill 25 = .ok (.aload_n 0, 1) := by decide +kernel
theorem dX0_fill_26 : decode cX0_fill 26 = .ok (.getfield 15, 3) := by decide +kernel
theorem dX0_fill_29 : decode cX0_fill 29 = .ok (.iload_n 3, 1) := by decide +kernel
theorem dX0_fill_30 : decode cX0_fill 30 = .ok (.iconst 0, 1) := by decide +kernel
theorem dX0_fill_31 : decode cX0_fill 31 = .ok (.iastore, 1) := by decide +kernel
theorem dX0_fill_32 : decode cX0_fill 32 = .ok (.iinc 3 1, 3) := by decide +kernel
theorem dX0_fill_35 : decode cX0_fill 35 = .ok (.goto (-25), 3) := by decide +kernel
theorem dX0_fill_38 : decode cX0_fill 38 = .ok (.iconst 0, 1) := by decide +kernel
theorem dX0_fill_39 : decode cX0_fill 39 = .ok (.istore_n 3, 1) := by decide +kernel
theorem dX0_fill_40 : decode cX0_fill 40 = .ok (.iload_n 3, 1) := by decide +kernel
theorem dX0_fill_41 : decode cX0_fill 41 = .ok (.aload_n 1, 1) := by decide +kernel
theorem dX0_fill_42 : decode cX0_fill 42 = .ok (.getfield 25, 3) := by decide +kernel
theorem dX0_fill_45 : decode cX0_fill 45 = .ok (.if_icmp .ge 55, 3) := by decide +kernel
theorem dX0_fill_48 : decode cX0_fill 48 = .ok (.aload_n 1, 1) := by decide +kernel
theorem dX0_fill_49 : decode cX0_fill 49 = .ok (.getfield 28, 3) := by decide +kernel
theorem dX0_fill_52 : decode cX0_fill 52 = .ok (.iload_n 3, 1) := by decide +kernel
theorem dX0_fill_53 : decode cX0_fill 53 = .ok (.iaload, 1) := by decide +kernel
theorem dX0_fill_54 : decode cX0_fill 54 = .ok (.istore 4, 2) := by decide +kernel
theorem dX0_fill_56 : decode cX0_fill 56 = .ok (.iload_n 2, 1) := by decide +kernel
theorem dX0_fill_57 : decode cX0_fill 57 = .ok (.iload_n 3, 1) := by decide +kernel
theorem dX0_fill_58 : decode cX0_fill 58 = .ok (.invokestatic 31, 3) := by decide +kernel
theorem dX0_fill_61 : decode cX0_fill 61 = .ok (.ifCond .eq 17, 3) := by decide +kernel
theorem dX0_fill_64 : decode cX0_fill 64 = .ok (.aload_n 0, 1) := by decide +kernel
theorem dX0_fill_65 : decode cX0_fill 65 = .ok (.getfield 15, 3) := by decide +kernel
theorem dX0_fill_68 : decode cX0_fill 68 = .ok (.iload 4, 2) := by decide +kernel
theorem dX0_fill_70 : decode cX0_fill 70 = .ok (.dup2, 1) := by decide +kernel
theorem dX0_fill_71 : decode cX0_fill 71 = .ok (.iaload, 1) := by decide +kernel
theorem dX0_fill_72 : decode cX0_fill 72 = .ok (.iconst 1, 1) := by decide +kernel
theorem dX0_fill_73 : decode cX0_fill 73 = .ok (.iadd, 1) := by decide +kernel
theorem dX0_fill_74 : decode cX0_fill 74 = .ok (.iastore, 1) := by decide +kernel
theorem dX0_fill_75 : decode cX0_fill 75 = .ok (.goto 19, 3) := by decide +kernel
theorem dX0_fill_78 : decode cX0_fill 78 = .ok (.aload_n 0, 1) := by decide +kernel
theorem dX0_fill_79 : decode cX0_fill 79 = .ok (.getfield 9, 3) := by decide +kernel
theorem dX0_fill_82 : decode cX0_fill 82 = .ok (.iload 4, 2) := by decide +kernel
theorem dX0_fill_84 : decode cX0_fill 84 = .ok (.dup2, 1) := by decide +kernel
theorem dX0_fill_85 : decode cX0_fill 85 = .ok (.iaload, 1) := by decide +kernel
theorem dX0_fill_86 : decode cX0_fill 86 = .ok (.aload_n 1, 1) := by decide +kernel
theorem dX0_fill_87 : decode cX0_fill 87 = .ok (.getfield 35, 3) := by decide +kernel
theorem dX0_fill_90 : decode cX0_fill 90 = .ok (.iload_n 3, 1) := by decide +kernel
theorem dX0_fill_91 : decode cX0_fill 91 = .ok (.iaload, 1) := by decide +kernel
theorem dX0_fill_92 : decode cX0_fill 92 = .ok (.iadd, 1) := by decide +kernel
theorem dX0_fill_93 : decode cX0_fill 93 = .ok (.iastore, 1) := by decide +kernel
theorem dX0_fill_94 : decode cX0_fill 94 = .ok (.iinc 3 1, 3) := by decide +kernel
theorem dX0_fill_97 : decode cX0_fill 97 = .ok (.goto (-57), 3) := by decide +kernel
theorem dX0_fill_100 : decode cX0_fill 100 = .ok (.iconst 0, 1) := by decide +kernel
theorem dX0_fill_101 : decode cX0_fill 101 = .ok (.istore_n 3, 1) := by decide +kernel
theorem dX0_fill_102 : decode cX0_fill 102 = .ok (.iload_n 3, 1) := by decide +kernel
theorem dX0_fill_103 : decode cX0_fill 103 = .ok (.aload_n 0, 1) := by decide +kernel
theorem dX0_fill_104 : decode cX0_fill 104 = .ok (.getfield 18, 3) := by decide +kernel
theorem dX0_fill_107 : decode cX0_fill 107 = .ok (.if_icmp .ge 36, 3) := by decide +kernel
theorem dX0_fill_110 : decode cX0_fill 110 = .ok (.aload_n 0, 1) := by decide +kernel
theorem dX0_fill_111 : decode cX0_fill 111 = .ok (.getfield 9, 3) := by decide +kernel
theorem dX0_fill_114 : decode cX0_fill 114 = .ok (.iload_n 3, 1) := by decide +kernel
theorem dX0_fill_115 : decode cX0_fill 115 = .ok (.aload_n 1, 1) := by decide +kernel
theorem dX0_fill_116 : decode cX0_fill 116 = .ok (.getfield 38, 3) := by decide +kernel
theorem dX0_fill_119 : decode cX0_fill 119 = .ok (.iload_n 3, 1) := by decide +kernel
theorem dX0_fill_120 : decode cX0_fill 120 = .ok (.iaload, 1) := by decide +kernel
theorem dX0_fill_121 : decode cX0_fill 121 = .ok (.aload_n 0, 1) := by decide +kernel
theorem dX0_fill_122 : decode cX0_fill 122 = .ok (.getfield 9, 3) := by decide +kernel
theorem dX0_fill_125 : decode cX0_fill 125 = .ok (.iload_n 3, 1) := by decide +kernel
theorem dX0_fill_126 : decode cX0_fill 126 = .ok (.iaload, 1) := by decide +kernel
theorem dX0_fill_127 : decode cX0_fill 127 = .ok (.aload_n 0, 1) := by decide +kernel
theorem dX0_fill_128 : decode cX0_fill 128 = .ok (.getfield 15, 3) := by decide +kernel
theorem dX0_fill_131 : decode cX0_fill 131 = .ok (.iload_n 3, 1) := by decide +kernel
theorem dX0_fill_132 : decode cX0_fill 132 = .ok (.iaload, 1) := by decide +kernel
theorem dX0_fill_133 : decode cX0_fill 133 = .ok (.invokestatic 41, 3) := by decide +kernel
theorem dX0_fill_136 : decode cX0_fill 136 = .ok (.iastore, 1) := by decide +kernel
theorem dX0_fill_137 : decode cX0_fill 137 = .ok (.iinc 3 1, 3) := by decide +kernel
theorem dX0_fill_140 : decode cX0_fill 140 = .ok (.goto (-38), 3) := by decide +kernel
theorem dX0_fill_143 : decode cX0_fill 143 = .ok (.return_, 1) := by decide +kernel
theorem dX0_guiltAs_0 : decode cX0_guiltAs 0 = .ok (.iload_n 0, 1) := by decide +kernel
theorem dX0_guiltAs_1 : decode cX0_guiltAs 1 = .ok (.tableswitch 47 1 4 #[31, 35, 39, 45], 31) := by decide +kernel
theorem dX0_guiltAs_32 : decode cX0_guiltAs 32 = .ok (.iload_n 1, 1) := by decide +kernel
theorem dX0_guiltAs_33 : decode cX0_guiltAs 33 = .ok (.iconst 2, 1) := by decide +kernel
theorem dX0_guiltAs_34 : decode cX0_guiltAs 34 = .ok (.idiv, 1) := by decide +kernel
theorem dX0_guiltAs_35 : decode cX0_guiltAs 35 = .ok (.ireturn, 1) := by decide +kernel
theorem dX0_guiltAs_36 : decode cX0_guiltAs 36 = .ok (.iload_n 1, 1) := by decide +kernel
theorem dX0_guiltAs_37 : decode cX0_guiltAs 37 = .ok (.iload_n 2, 1) := by decide +kernel
theorem dX0_guiltAs_38 : decode cX0_guiltAs 38 = .ok (.iadd, 1) := by decide +kernel
theorem dX0_guiltAs_39 : decode cX0_guiltAs 39 = .ok (.ireturn, 1) := by decide +kernel
theorem dX0_guiltAs_40 : decode cX0_guiltAs 40 = .ok (.iconst 1, 1) := by decide +kernel
theorem dX0_guiltAs_41 : decode cX0_guiltAs 41 = .ok (.iload_n 1, 1) := by decide +kernel
theorem dX0_guiltAs_42 : decode cX0_guiltAs 42 = .ok (.invokestatic 45, 3) := by decide +kernel
theorem dX0_guiltAs_45 : decode cX0_guiltAs 45 = .ok (.ireturn, 1) := by decide +kernel
theorem dX0_guiltAs_46 : decode cX0_guiltAs 46 = .ok (.iconst 0, 1) := by decide +kernel
theorem dX0_guiltAs_47 : decode cX0_guiltAs 47 = .ok (.ireturn, 1) := by decide +kernel
theorem dX0_guiltAs_48 : decode cX0_guiltAs 48 = .ok (.iload_n 1, 1) := by decide +kernel
theorem dX0_guiltAs_49 : decode cX0_guiltAs 49 = .ok (.ireturn, 1) := by decide +kernel
theorem dX0_placeOf_0 : decode cX0_placeOf 0 = .ok (.aload_n 0, 1) := by decide +kernel
theorem dX0_placeOf_1 : decode cX0_placeOf 1 = .ok (.getfield 9, 3) := by decide +kernel
theorem dX0_placeOf_4 : decode cX0_placeOf 4 = .ok (.iload_n 1, 1) := by decide +kernel
theorem dX0_placeOf_5 : decode cX0_placeOf 5 = .ok (.iaload, 1) := by decide +kernel
theorem dX0_placeOf_6 : decode cX0_placeOf 6 = .ok (.istore_n 2, 1) := by decide +kernel
theorem dX0_placeOf_7 : decode cX0_placeOf 7 = .ok (.iload_n 2, 1) := by decide +kernel
theorem dX0_placeOf_8 : decode cX0_placeOf 8 = .ok (.iconst 1, 1) := by decide +kernel
theorem dX0_placeOf_9 : decode cX0_placeOf 9 = .ok (.if_icmp .ge 6, 3) := by decide +kernel
theorem dX0_placeOf_12 : decode cX0_placeOf 12 = .ok (.bipush 6, 2) := by decide +kernel
theorem dX0_placeOf_14 : decode cX0_placeOf 14 = .ok (.ireturn, 1) := by decide +kernel
theorem dX0_placeOf_15 : decode cX0_placeOf 15 = .ok (.iconst 0, 1) := by decide +kernel
theorem dX0_placeOf_16 : decode cX0_placeOf 16 = .ok (.istore_n 3, 1) := by decide +kernel
theorem dX0_placeOf_17 : decode cX0_placeOf 17 = .ok (.iconst 0, 1) := by decide +kernel
theorem dX0_placeOf_18 : decode cX0_placeOf 18 = .ok (.istore 4, 2) := by decide +kernel
theorem dX0_placeOf_20 : decode cX0_placeOf 20 = .ok (.iload 4, 2) := by decide +kernel
theorem dX0_placeOf_22 : decode cX0_placeOf 22 = .ok (.aload_n 0, 1) := by decide +kernel
theorem dX0_placeOf_23 : decode cX0_placeOf 23 = .ok (.getfield 18, 3) := by decide +kernel
theorem dX0_placeOf_26 : decode cX0_placeOf 26 = .ok (.if_icmp .ge 40, 3) := by decide +kernel
theorem dX0_placeOf_29 : decode cX0_placeOf 29 = .ok (.aload_n 0, 1) := by decide +kernel
theorem dX0_placeOf_30 : decode cX0_placeOf 30 = .ok (.getfield 9, 3) := by decide +kernel
theorem dX0_placeOf_33 : decode cX0_placeOf 33 = .ok (.iload 4, 2) := by decide +kernel
theorem dX0_placeOf_35 : decode cX0_placeOf 35 = .ok (.iaload, 1) := by decide +kernel
theorem dX0_placeOf_36 : decode cX0_placeOf 36 = .ok (.iload_n 2, 1) := by decide +kernel
theorem dX0_placeOf_37 : decode cX0_placeOf 37 = .ok (.if_icmp .gt 20, 3) := by decide +kernel
theorem dX0_placeOf_40 : decode cX0_placeOf 40 = .ok (.aload_n 0, 1) := by decide +kernel
theorem dX0_placeOf_41 : decode cX0_placeOf 41 = .ok (.getfield 9, 3) := by decide +kernel
theorem dX0_placeOf_44 : decode cX0_placeOf 44 = .ok (.iload 4, 2) := by decide +kernel
theorem dX0_placeOf_46 : decode cX0_placeOf 46 = .ok (.iaload, 1) := by decide +kernel
theorem dX0_placeOf_47 : decode cX0_placeOf 47 = .ok (.iload_n 2, 1) := by decide +kernel
theorem dX0_placeOf_48 : decode cX0_placeOf 48 = .ok (.if_icmp .ne 12, 3) := by decide +kernel
theorem dX0_placeOf_51 : decode cX0_placeOf 51 = .ok (.iload 4, 2) := by decide +kernel
theorem dX0_placeOf_53 : decode cX0_placeOf 53 = .ok (.iload_n 1, 1) := by decide +kernel
theorem dX0_placeOf_54 : decode cX0_placeOf 54 = .ok (.if_icmp .ge 6, 3) := by decide +kernel
theorem dX0_placeOf_57 : decode cX0_placeOf 57 = .ok (.iinc 3 1, 3) := by decide +kernel
theorem dX0_placeOf_60 : decode cX0_placeOf 60 = .ok (.iinc 4 1, 3) := by decide +kernel
theorem dX0_placeOf_63 : decode cX0_placeOf 63 = .ok (.goto (-43), 3) := by decide +kernel
theorem dX0_placeOf_66 : decode cX0_placeOf 66 = .ok (.iload_n 3, 1) := by decide +kernel
theorem dX0_placeOf_67 : decode cX0_placeOf 67 = .ok (.ireturn, 1) := by decide +kernel
theorem dX0_sitters_0 : decode cX0_sitters 0 = .ok (.iconst 0, 1) := by decide +kernel
theorem dX0_sitters_1 : decode cX0_sitters 1 = .ok (.istore_n 2, 1) := by decide +kernel
theorem dX0_sitters_2 : decode cX0_sitters 2 = .ok (.iconst 0, 1) := by decide +kernel
theorem dX0_sitters_3 : decode cX0_sitters 3 = .ok (.istore_n 3, 1) := by decide +kernel
theorem dX0_sitters_4 : decode cX0_sitters 4 = .ok (.iload_n 3, 1) := by decide +kernel
theorem dX0_sitters_5 : decode cX0_sitters 5 = .ok (.aload_n 0, 1) := by decide +kernel
theorem dX0_sitters_6 : decode cX0_sitters 6 = .ok (.getfield 18, 3) := by decide +kernel
theorem dX0_sitters_9 : decode cX0_sitters 9 = .ok (.if_icmp .ge 24, 3) := by decide +kernel
theorem dX0_sitters_12 : decode cX0_sitters 12 = .ok (.aload_n 0, 1) := by decide +kernel
theorem dX0_sitters_13 : decode cX0_sitters 13 = .ok (.iload_n 3, 1) := by decide +kernel
theorem dX0_sitters_14 : decode cX0_sitters 14 = .ok (.invokevirtual 51, 3) := by decide +kernel
theorem dX0_sitters_17 : decode cX0_sitters 17 = .ok (.iload_n 1, 1) := by decide +kernel
theorem dX0_sitters_18 : decode cX0_sitters 18 = .ok (.if_icmp .ge 9, 3) := by decide +kernel
theorem dX0_sitters_21 : decode cX0_sitters 21 = .ok (.iload_n 2, 1) := by decide +kernel
theorem dX0_sitters_22 : decode cX0_sitters 22 = .ok (.iconst 1, 1) := by decide +kernel
theorem dX0_sitters_23 : decode cX0_sitters 23 = .ok (.iload_n 3, 1) := by decide +kernel
theorem dX0_sitters_24 : decode cX0_sitters 24 = .ok (.ishl, 1) := by decide +kernel
theorem dX0_sitters_25 : decode cX0_sitters 25 = .ok (.ior, 1) := by decide +kernel
theorem dX0_sitters_26 : decode cX0_sitters 26 = .ok (.istore_n 2, 1) := by decide +kernel
theorem dX0_sitters_27 : decode cX0_sitters 27 = .ok (.iinc 3 1, 3) := by decide +kernel
theorem dX0_sitters_30 : decode cX0_sitters 30 = .ok (.goto (-26), 3) := by decide +kernel
theorem dX0_sitters_33 : decode cX0_sitters 33 = .ok (.iload_n 2, 1) := by decide +kernel
theorem dX0_sitters_34 : decode cX0_sitters 34 = .ok (.ireturn, 1) := by decide +kernel
theorem dX0_allGuilt_0 : decode cX0_allGuilt 0 = .ok (.iconst 0, 1) := by decide +kernel
theorem dX0_allGuilt_1 : decode cX0_allGuilt 1 = .ok (.istore_n 1, 1) := by decide +kernel
theorem dX0_allGuilt_2 : decode cX0_allGuilt 2 = .ok (.iconst 0, 1) := by decide +kernel
theorem dX0_allGuilt_3 : decode cX0_allGuilt 3 = .ok (.istore_n 2, 1) := by decide +kernel
theorem dX0_allGuilt_4 : decode cX0_allGuilt 4 = .ok (.iload_n 2, 1) := by decide +kernel
theorem dX0_allGuilt_5 : decode cX0_allGuilt 5 = .ok (.aload_n 0, 1) := by decide +kernel
theorem dX0_allGuilt_6 : decode cX0_allGuilt 6 = .ok (.getfield 18, 3) := by decide +kernel
theorem dX0_allGuilt_9 : decode cX0_allGuilt 9 = .ok (.if_icmp .ge 18, 3) := by decide +kernel
theorem dX0_allGuilt_12 : decode cX0_allGuilt 12 = .ok (.iload_n 1, 1) := by decide +kernel
theorem dX0_allGuilt_13 : decode cX0_allGuilt 13 = .ok (.aload_n 0, 1) := by decide +kernel
theorem dX0_allGuilt_14 : decode cX0_allGuilt 14 = .ok (.getfield 9, 3) := by decide +kernel
theorem dX0_allGuilt_17 : decode cX0_allGuilt 17 = .ok (.iload_n 2, 1) := by decide +kernel
theorem dX0_allGuilt_18 : decode cX0_allGuilt 18 = .ok (.iaload, 1) := by decide +kernel
theorem dX0_allGuilt_19 : decode cX0_allGuilt 19 = .ok (.iadd, 1) := by decide +kernel
theorem dX0_allGuilt_20 : decode cX0_allGuilt 20 = .ok (.istore_n 1, 1) := by decide +kernel
theorem dX0_allGuilt_21 : decode cX0_allGuilt 21 = .ok (.iinc 2 1, 3) := by decide +kernel
theorem dX0_allGuilt_24 : decode cX0_allGuilt 24 = .ok (.goto (-20), 3) := by decide +kernel
theorem dX0_allGuilt_27 : decode cX0_allGuilt 27 = .ok (.iload_n 1, 1) := by decide +kernel
theorem dX0_allGuilt_28 : decode cX0_allGuilt 28 = .ok (.ireturn, 1) := by decide +kernel
theorem dX1_init_0 : decode cX1_init 0 = .ok (.aload_n 0, 1) := by decide +kernel
theorem dX1_init_1 : decode cX1_init 1 = .ok (.invokespecial 3, 3) := by decide +kernel
theorem dX1_init_4 : decode cX1_init 4 = .ok (.aload_n 0, 1) := by decide +kernel
theorem dX1_init_5 : decode cX1_init 5 = .ok (.bipush 6, 2) := by decide +kernel
theorem dX1_init_7 : decode cX1_init 7 = .ok (.newarray .int, 2) := by decide +kernel
theorem dX1_init_9 : decode cX1_init 9 = .ok (.putfield 9, 3) := by decide +kernel
theorem dX1_init_12 : decode cX1_init 12 = .ok (.aload_n 0, 1) := by decide +kernel
theorem dX1_init_13 : decode cX1_init 13 = .ok (.bipush 9, 2) := by decide +kernel
theorem dX1_init_15 : decode cX1_init 15 = .ok (.newarray .int, 2) := by decide +kernel
theorem dX1_init_17 : decode cX1_init 17 = .ok (.putfield 15, 3) := by decide +kernel
theorem dX1_init_20 : decode cX1_init 20 = .ok (.aload_n 0, 1) := by decide +kernel
theorem dX1_init_21 : decode cX1_init 21 = .ok (.bipush 9, 2) := by decide +kernel
theorem dX1_init_23 : decode cX1_init 23 = .ok (.newarray .int, 2) := by decide +kernel
theorem dX1_init_25 : decode cX1_init 25 = .ok (.putfield 18, 3) := by decide +kernel
theorem dX1_init_28 : decode cX1_init 28 = .ok (.aload_n 0, 1) := by decide +kernel
theorem dX1_init_29 : decode cX1_init 29 = .ok (.iconst 1, 1) := by decide +kernel
theorem dX1_init_30 : decode cX1_init 30 = .ok (.putfield 21, 3) := by decide +kernel
theorem dX1_init_33 : decode cX1_init 33 = .ok (.return_, 1) := by decide +kernel
theorem dX1_fill_0 : decode cX1_fill 0 = .ok (.iconst 1, 1) := by decide +kernel
theorem dX1_fill_1 : decode cX1_fill 1 = .ok (.aload_n 1, 1) := by decide +kernel
theorem dX1_fill_2 : decode cX1_fill 2 = .ok (.getfield 25, 3) := by decide +kernel
theorem dX1_fill_5 : decode cX1_fill 5 = .ok (.ishl, 1) := by decide +kernel
theorem dX1_fill_6 : decode cX1_fill 6 = .ok (.iconst 1, 1) := by decide +kernel
theorem dX1_fill_7 : decode cX1_fill 7 = .ok (.isub, 1) := by decide +kernel
theorem dX1_fill_8 : decode cX1_fill 8 = .ok (.istore 4, 2) := by decide +kernel
theorem dX1_fill_10 : decode cX1_fill 10 = .ok (.iload 4, 2) := by decide +kernel
theorem dX1_fill_12 : decode cX1_fill 12 = .ok (.aload_n 1, 1) := by decide +kernel
theorem dX1_fill_13 : decode cX1_fill 13 = .ok (.getfield 30, 3) := by decide +kernel
theorem dX1_fill_16 : decode cX1_fill 16 = .ok (.iconst (-1), 1) := by decide +kernel
theorem dX1_fill_17 : decode cX1_fill 17 = .ok (.ixor, 1) := by decide +kernel
theorem dX1_fill_18 : decode cX1_fill 18 = .ok (.iand, 1) := by decide +kernel
theorem dX1_fill_19 : decode cX1_fill 19 = .ok (.istore 5, 2) := by decide +kernel
theorem dX1_fill_21 : decode cX1_fill 21 = .ok (.iload 5, 2) := by decide +kernel
theorem dX1_fill_23 : decode cX1_fill 23 = .ok (.invokestatic 33, 3) := by decide +kernel
theorem dX1_fill_26 : decode cX1_fill 26 = .ok (.istore 6, 2) := by decide +kernel
theorem dX1_fill_28 : decode cX1_fill 28 = .ok (.aload_n 0, 1) := by decide +kernel
theorem dX1_fill_29 : decode cX1_fill 29 = .ok (.iconst 1, 1) := by decide +kernel
theorem dX1_fill_30 : decode cX1_fill 30 = .ok (.putfield 21, 3) := by decide +kernel
theorem dX1_fill_33 : decode cX1_fill 33 = .ok (.iconst 0, 1) := by decide +kernel
theorem dX1_fill_34 : decode cX1_fill 34 = .ok (.istore 7, 2) := by decide +kernel
theorem dX1_fill_36 : decode cX1_fill 36 = .ok (.iload 7, 2) := by decide +kernel
theorem dX1_fill_38 : decode cX1_fill 38 = .ok (.iload 6, 2) := by decide +kernel
theorem dX1_fill_40 : decode cX1_fill 40 = .ok (.if_icmp .ge 20, 3) := by decide +kernel
theorem dX1_fill_43 : decode cX1_fill 43 = .ok (.aload_n 0, 1) := by decide +kernel
theorem dX1_fill_44 : decode cX1_fill 44 = .ok (.dup, 1) := by decide +kernel
theorem dX1_fill_45 : decode cX1_fill 45 = .ok (.getfield 21, 3) := by decide +kernel
theorem dX1_fill_48 : decode cX1_fill 48 = .ok (.bipush 10, 2) := by decide +kernel
theorem dX1_fill_50 : decode cX1_fill 50 = .ok (.imul, 1) := by decide +kernel
theorem dX1_fill_51 : decode cX1_fill 51 = .ok (.putfield 21, 3) := by decide +kernel
theorem dX1_fill_54 : decode cX1_fill 54 = .ok (.iinc 7 1, 3) := by decide +kernel
theorem dX1_fill_57 : decode cX1_fill 57 = .ok (.goto (-21), 3) := by decide +kernel
theorem dX1_fill_60 : decode cX1_fill 60 = .ok (.aload_n 0, 1) := by decide +kernel
theorem dX1_fill_61 : decode cX1_fill 61 = .ok (.getfield 15, 3) := by decide +kernel
theorem dX1_fill_64 : decode cX1_fill 64 = .ok (.iload_n 2, 1) := by decide +kernel
theorem dX1_fill_65 : decode cX1_fill 65 = .ok (.invokestatic 39, 3) := by decide +kernel
theorem dX1_fill_68 : decode cX1_fill 68 = .ok (.aload_n 0, 1) := by decide +kernel
theorem dX1_fill_69 : decode cX1_fill 69 = .ok (.getfield 18, 3) := by decide +kernel
theorem dX1_fill_72 : decode cX1_fill 72 = .ok (.bipush 10, 2) := by decide +kernel
theorem dX1_fill_74 : decode cX1_fill 74 = .ok (.iload_n 2, 1) := by decide +kernel
theorem dX1_fill_75 : decode cX1_fill 75 = .ok (.isub, 1) := by decide +kernel
theorem dX1_fill_76 : decode cX1_fill 76 = .ok (.invokestatic 39, 3) := by decide +kernel
theorem dX1_fill_79 : decode cX1_fill 79 = .ok (.iconst 0, 1) := by decide +kernel
theorem dX1_fill_80 : decode cX1_fill 80 = .ok (.istore 7, 2) := by decide +kernel
theorem dX1_fill_82 : decode cX1_fill 82 = .ok (.iload 7, 2) := by decide +kernel
theorem dX1_fill_84 : decode cX1_fill 84 = .ok (.aload_n 1, 1) := by decide +kernel
theorem dX1_fill_85 : decode cX1_fill 85 = .ok (.getfield 43, 3) := by decide +kernel
theorem dX1_fill_88 : decode cX1_fill 88 = .ok (.if_icmp .ge 17, 3) := by decide +kernel
theorem dX1_fill_91 : decode cX1_fill 91 = .ok (.aload_n 0, 1) := by decide +kernel
theorem dX1_fill_92 : decode cX1_fill 92 = .ok (.getfield 9, 3) := by decide +kernel
theorem dX1_fill_95 : decode cX1_fill 95 = .ok (.iload 7, 2) := by decide +kernel
theorem dX1_fill_97 : decode cX1_fill 97 = .ok (.iconst 0, 1) := by decide +kernel
theorem dX1_fill_98 : decode cX1_fill 98 = .ok (.iastore, 1) := by decide +kernel
theorem dX1_fill_99 : decode cX1_fill 99 = .ok (.iinc 7 1, 3) := by decide +kernel
theorem dX1_fill_102 : decode cX1_fill 102 = .ok (.goto (-20), 3) := by decide +kernel
theorem dX1_fill_105 : decode cX1_fill 105 = .ok (.iconst 0, 1) := by decide +kernel
theorem dX1_fill_106 : decode cX1_fill 106 = .ok (.istore 7, 2) := by decide +kernel
theorem dX1_fill_108 : decode cX1_fill 108 = .ok (.iload 7, 2) := by decide +kernel
theorem dX1_fill_110 : decode cX1_fill 110 = .ok (.iload 4, 2) := by decide +kernel
theorem dX1_fill_112 : decode cX1_fill 112 = .ok (.if_icmp .gt 81, 3) := by decide +kernel
theorem dX1_fill_115 : decode cX1_fill 115 = .ok (.iload 7, 2) := by decide +kernel
theorem dX1_fill_117 : decode cX1_fill 117 = .ok (.iload 5, 2) := by decide +kernel
theorem dX1_fill_119 : decode cX1_fill 119 = .ok (.iconst (-1), 1) := by decide +kernel
theorem dX1_fill_120 : decode cX1_fill 120 = .ok (.ixor, 1) := by decide +kernel
theorem dX1_fill_121 : decode cX1_fill 121 = .ok (.iand, 1) := by decide +kernel
theorem dX1_fill_122 : decode cX1_fill 122 = .ok (.ifCond .ne 65, 3) := by decide +kernel
theorem dX1_fill_125 : decode cX1_fill 125 = .ok (.iload 7, 2) := by decide +kernel
theorem dX1_fill_127 : decode cX1_fill 127 = .ok (.invokestatic 33, 3) := by decide +kernel
theorem dX1_fill_130 : decode cX1_fill 130 = .ok (.istore 8, 2) := by decide +kernel
theorem dX1_fill_132 : decode cX1_fill 132 = .ok (.aload_n 0, 1) := by decide +kernel
theorem dX1_fill_133 : decode cX1_fill 133 = .ok (.getfield 15, 3) := by decide +kernel
theorem dX1_fill_136 : decode cX1_fill 136 = .ok (.iload 8, 2) := by decide +kernel
theorem dX1_fill_138 : decode cX1_fill 138 = .ok (.iaload, 1) := by decide +kernel
theorem dX1_fill_139 : decode cX1_fill 139 = .ok (.aload_n 0, 1) := by decide +kernel
theorem dX1_fill_140 : decode cX1_fill 140 = .ok (.getfield 18, 3) := by decide +kernel
theorem dX1_fill_143 : decode cX1_fill 143 = .ok (.iload 6, 2) := by decide +kernel
theorem dX1_fill_145 : decode cX1_fill 145 = .ok (.iload 8, 2) := by decide +kernel
theorem dX1_fill_147 : decode cX1_fill 147 = .ok (.isub, 1) := by decide +kernel
theorem dX1_fill_148 : decode cX1_fill 148 = .ok (.iaload, 1) := by decide +kernel
theorem dX1_fill_149 : decode cX1_fill 149 = .ok (.imul, 1) := by decide +kernel
theorem dX1_fill_150 : decode cX1_fill 150 = .ok (.istore 9, 2) := by decide +kernel
theorem dX1_fill_152 : decode cX1_fill 152 = .ok (.iload 9, 2) := by decide +kernel
theorem dX1_fill_154 : decode cX1_fill 154 = .ok (.ifCond .le 33, 3) := by decide +kernel
theorem dX1_fill_157 : decode cX1_fill 157 = .ok (.aload_n 3, 1) := by decide +kernel
theorem dX1_fill_158 : decode cX1_fill 158 = .ok (.aload_n 1, 1) := by decide +kernel
theorem dX1_fill_159 : decode cX1_fill 159 = .ok (.aload_n 1, 1) := by decide +kernel
theorem dX1_fill_160 : decode cX1_fill 160 = .ok (.getfield 30, 3) := by decide +kernel
theorem dX1_fill_163 : decode cX1_fill 163 = .ok (.iload 7, 2) := by decide +kernel
theorem dX1_fill_165 : decode cX1_fill 165 = .ok (.ior, 1) := by decide +kernel
theorem dX1_fill_166 : decode cX1_fill 166 = .ok (.invokevirtual 46, 3) := by decide +kernel
theorem dX1_fill_169 : decode cX1_fill 169 = .ok (.aload_n 0, 1) := by decide +kernel
theorem dX1_fill_170 : decode cX1_fill 170 = .ok (.aload_n 3, 1) := by decide +kernel
theorem dX1_fill_171 : decode cX1_fill 171 = .ok (.aload_n 1, 1) := by decide +kernel
theorem dX1_fill_172 : decode cX1_fill 172 = .ok (.getfield 52, 3) := by decide +kernel
theorem dX1_fill_175 : decode cX1_fill 175 = .ok (.invokevirtual 55, 3) := by decide +kernel
theorem dX1_fill_178 : decode cX1_fill 178 = .ok (.iload 9, 2) := by decide +kernel
theorem dX1_fill_180 : decode cX1_fill 180 = .ok (.aload_n 1, 1) := by decide +kernel
theorem dX1_fill_181 : decode cX1_fill 181 = .ok (.getfield 43, 3) := by decide +kernel
theorem dX1_fill_184 : decode cX1_fill 184 = .ok (.invokevirtual 58, 3) := by decide +kernel
theorem dX1_fill_187 : decode cX1_fill 187 = .ok (.iinc 7 1, 3) := by decide +kernel
theorem dX1_fill_190 : decode cX1_fill 190 = .ok (.goto (-82), 3) := by decide +kernel
theorem dX1_fill_193 : decode cX1_fill 193 = .ok (.return_, 1) := by decide +kernel
theorem dX1_fillParts_0 : decode cX1_fillParts 0 = .ok (.aload_n 0, 1) := by decide +kernel
theorem dX1_fillParts_1 : decode cX1_fillParts 1 = .ok (.iconst 0, 1) := by decide +kernel
theorem dX1_fillParts_2 : decode cX1_fillParts 2 = .ok (.iconst 1, 1) := by decide +kernel
theorem dX1_fillParts_3 : decode cX1_fillParts 3 = .ok (.iastore, 1) := by decide +kernel
theorem dX1_fillParts_4 : decode cX1_fillParts 4 = .ok (.iconst 1, 1) := by decide +kernel
theorem dX1_fillParts_5 : decode cX1_fillParts 5 = .ok (.istore_n 2, 1) := by decide +kernel
theorem dX1_fillParts_6 : decode cX1_fillParts 6 = .ok (.iload_n 2, 1) := by decide +kernel
theorem dX1_fillParts_7 : decode cX1_fillParts 7 = .ok (.aload_n 0, 1) := by decide +kernel
theorem dX1_fillParts_8 : decode cX1_fillParts 8 = .ok (.arraylength, 1) := by decide +kernel
theorem dX1_fillParts_9 : decode cX1_fillParts 9 = .ok (.if_icmp .ge 19, 3) := by decide +kernel
theorem dX1_fillParts_12 : decode cX1_fillParts 12 = .ok (.aload_n 0, 1) := by decide +kernel
theorem dX1_fillParts_13 : decode cX1_fillParts 13 = .ok (.iload_n 2, 1) := by decide +kernel
theorem dX1_fillParts_14 : decode cX1_fillParts 14 = .ok (.aload_n 0, 1) := by decide +kernel
theorem dX1_fillParts_15 : decode cX1_fillParts 15 = .ok (.iload_n 2, 1) := by decide +kernel
theorem dX1_fillParts_16 : decode cX1_fillParts 16 = .ok (.iconst 1, 1) := by decide +kernel
theorem dX1_fillParts_17 : decode cX1_fillParts 17 = .ok (.isub, 1) := by decide +kernel
theorem dX1_fillParts_18 : decode cX1_fillParts 18 = .ok (.iaload, 1) := by decide +kernel
theorem dX1_fillParts_19 : decode cX1_fillParts 19 = .ok (.iload_n 1, 1) := by decide +kernel
theorem dX1_fillParts_20 : decode cX1_fillParts 20 = .ok (.imul, 1) := by decide +kernel
theorem dX1_fillParts_21 : decode cX1_fillParts 21 = .ok (.iastore, 1) := by decide +kernel
theorem dX1_fillParts_22 : decode cX1_fillParts 22 = .ok (.iinc 2 1, 3) := by decide +kernel
theorem dX1_fillParts_25 : decode cX1_fillParts 25 = .ok (.goto (-19), 3) := by decide +kernel
theorem dX1_fillParts_28 : decode cX1_fillParts 28 = .ok (.return_, 1) := by decide +kernel
theorem dX1_addTo_0 : decode cX1_addTo 0 = .ok (.iconst 0, 1) := by decide +kernel
theorem dX1_addTo_1 : decode cX1_addTo 1 = .ok (.istore 4, 2) := by decide +kernel
theorem dX1_addTo_3 : decode cX1_addTo 3 = .ok (.iload 4, 2) := by decide +kernel
theorem dX1_addTo_5 : decode cX1_addTo 5 = .ok (.iload_n 3, 1) := by decide +kernel
theorem dX1_addTo_6 : decode cX1_addTo 6 = .ok (.if_icmp .ge 29, 3) := by decide +kernel
theorem dX1_addTo_9 : decode cX1_addTo 9 = .ok (.iload_n 1, 1) := by decide +kernel
theorem dX1_addTo_10 : decode cX1_addTo 10 = .ok (.iload 4, 2) := by decide +kernel
theorem dX1_addTo_12 : decode cX1_addTo 12 = .ok (.invokestatic 62, 3) := by decide +kernel
theorem dX1_addTo_15 : decode cX1_addTo 15 = .ok (.ifCond .eq 14, 3) := by decide +kernel
theorem dX1_addTo_18 : decode cX1_addTo 18 = .ok (.aload_n 0, 1) := by decide +kernel
theorem dX1_addTo_19 : decode cX1_addTo 19 = .ok (.getfield 9, 3) := by decide +kernel
theorem dX1_addTo_22 : decode cX1_addTo 22 = .ok (.iload 4, 2) := by decide +kernel
theorem dX1_addTo_24 : decode cX1_addTo 24 = .ok (.dup2, 1) := by decide +kernel
theorem dX1_addTo_25 : decode cX1_addTo 25 = .ok (.iaload, 1) := by decide +kernel
theorem dX1_addTo_26 : decode cX1_addTo 26 = .ok (.iload_n 2, 1) := by decide +kernel
theorem dX1_addTo_27 : decode cX1_addTo 27 = .ok (.iadd, 1) := by decide +kernel
theorem dX1_addTo_28 : decode cX1_addTo 28 = .ok (.iastore, 1) := by decide +kernel
theorem dX1_addTo_29 : decode cX1_addTo 29 = .ok (.iinc 4 1, 3) := by decide +kernel
theorem dX1_addTo_32 : decode cX1_addTo 32 = .ok (.goto (-29), 3) := by decide +kernel
theorem dX1_addTo_35 : decode cX1_addTo 35 = .ok (.return_, 1) := by decide +kernel
theorem dX1_above_0 : decode cX1_above 0 = .ok (.aload_n 0, 1) := by decide +kernel
theorem dX1_above_1 : decode cX1_above 1 = .ok (.getfield 9, 3) := by decide +kernel
theorem dX1_above_4 : decode cX1_above 4 = .ok (.iload_n 1, 1) := by decide +kernel
theorem dX1_above_5 : decode cX1_above 5 = .ok (.iaload, 1) := by decide +kernel
theorem dX1_above_6 : decode cX1_above 6 = .ok (.aload_n 0, 1) := by decide +kernel
theorem dX1_above_7 : decode cX1_above 7 = .ok (.getfield 21, 3) := by decide +kernel
theorem dX1_above_10 : decode cX1_above 10 = .ok (.aload_n 0, 1) := by decide +kernel
theorem dX1_above_11 : decode cX1_above 11 = .ok (.getfield 9, 3) := by decide +kernel
theorem dX1_above_14 : decode cX1_above 14 = .ok (.iload_n 1, 1) := by decide +kernel
theorem dX1_above_15 : decode cX1_above 15 = .ok (.iaload, 1) := by decide +kernel
theorem dX1_above_16 : decode cX1_above 16 = .ok (.invokestatic 66, 3) := by decide +kernel
theorem dX1_above_19 : decode cX1_above 19 = .ok (.idiv, 1) := by decide +kernel
theorem dX1_above_20 : decode cX1_above 20 = .ok (.ireturn, 1) := by decide +kernel
theorem dX1_below_0 : decode cX1_below 0 = .ok (.aload_n 0, 1) := by decide +kernel
theorem dX1_below_1 : decode cX1_below 1 = .ok (.getfield 21, 3) := by decide +kernel
theorem dX1_below_4 : decode cX1_below 4 = .ok (.aload_n 0, 1) := by decide +kernel
theorem dX1_below_5 : decode cX1_below 5 = .ok (.getfield 21, 3) := by decide +kernel
theorem dX1_below_8 : decode cX1_below 8 = .ok (.aload_n 0, 1) := by decide +kernel
theorem dX1_below_9 : decode cX1_below 9 = .ok (.getfield 9, 3) := by decide +kernel
theorem dX1_below_12 : decode cX1_below 12 = .ok (.iload_n 1, 1) := by decide +kernel
theorem dX1_below_13 : decode cX1_below 13 = .ok (.iaload, 1) := by decide +kernel
theorem dX1_below_14 : decode cX1_below 14 = .ok (.invokestatic 66, 3) := by decide +kernel
theorem dX1_below_17 : decode cX1_below 17 = .ok (.idiv, 1) := by decide +kernel
theorem dX1_below_18 : decode cX1_below 18 = .ok (.ireturn, 1) := by decide +kernel
theorem dX1_commonPart_0 : decode cX1_commonPart 0 = .ok (.iload_n 0, 1) := by decide +kernel
theorem dX1_commonPart_1 : decode cX1_commonPart 1 = .ok (.istore_n 2, 1) := by decide +kernel
theorem dX1_commonPart_2 : decode cX1_commonPart 2 = .ok (.iload_n 1, 1) := by decide +kernel
theorem dX1_commonPart_3 : decode cX1_commonPart 3 = .ok (.istore_n 3, 1) := by decide +kernel
theorem dX1_commonPart_4 : decode cX1_commonPart 4 = .ok (.iconst 0, 1) := by decide +kernel
theorem dX1_commonPart_5 : decode cX1_commonPart 5 = .ok (.istore 4, 2) := by decide +kernel
theorem dX1_commonPart_7 : decode cX1_commonPart 7 = .ok (.iload 4, 2) := by decide +kernel
theorem dX1_commonPart_9 : decode cX1_commonPart 9 = .ok (.bipush 64, 2) := by decide +kernel
theorem dX1_commonPart_11 : decode cX1_commonPart 11 = .ok (.if_icmp .ge 23, 3) := by decide +kernel
theorem dX1_commonPart_14 : decode cX1_commonPart 14 = .ok (.iload_n 3, 1) := by decide +kernel
theorem dX1_commonPart_15 : decode cX1_commonPart 15 = .ok (.ifCond .le 19, 3) := by decide +kernel
theorem dX1_commonPart_18 : decode cX1_commonPart 18 = .ok (.iload_n 2, 1) := by decide +kernel
theorem dX1_commonPart_19 : decode cX1_commonPart 19 = .ok (.iload_n 3, 1) := by decide +kernel
theorem dX1_commonPart_20 : decode cX1_commonPart 20 = .ok (.irem, 1) := by decide +kernel
theorem dX1_commonPart_21 : decode cX1_commonPart 21 = .ok (.istore 5, 2) := by decide +kernel
theorem dX1_commonPart_23 : decode cX1_commonPart 23 = .ok (.iload_n 3, 1) := by decide +kernel
theorem dX1_commonPart_24 : decode cX1_commonPart 24 = .ok (.istore_n 2, 1) := by decide +kernel
theorem dX1_commonPart_25 : decode cX1_commonPart 25 = .ok (.iload 5, 2) := by decide +kernel
theorem dX1_commonPart_27 : decode cX1_commonPart 27 = .ok (.istore_n 3, 1) := by decide +kernel
theorem dX1_commonPart_28 : decode cX1_commonPart 28 = .ok (.iinc 4 1, 3) := by decide +kernel
theorem dX1_commonPart_31 : decode cX1_commonPart 31 = .ok (.goto (-24), 3) := by decide +kernel
theorem dX1_commonPart_34 : decode cX1_commonPart 34 = .ok (.iconst 1, 1) := by decide +kernel
theorem dX1_commonPart_35 : decode cX1_commonPart 35 = .ok (.iload_n 2, 1) := by decide +kernel
theorem dX1_commonPart_36 : decode cX1_commonPart 36 = .ok (.invokestatic 70, 3) := by decide +kernel
theorem dX1_commonPart_39 : decode cX1_commonPart 39 = .ok (.ireturn, 1) := by decide +kernel
theorem dX2_init_0 : decode cX2_init 0 = .ok (.aload_n 0, 1) := by decide +kernel
theorem dX2_init_1 : decode cX2_init 1 = .ok (.invokespecial 3, 3) := by decide +kernel
theorem dX2_init_4 : decode cX2_init 4 = .ok (.aload_n 0, 1) := by decide +kernel
theorem dX2_init_5 : decode cX2_init 5 = .ok (.iconst 0, 1) := by decide +kernel
theorem dX2_init_6 : decode cX2_init 6 = .ok (.putfield 9, 3) := by decide +kernel
theorem dX2_init_9 : decode cX2_init 9 = .ok (.aload_n 0, 1) := by decide +kernel
theorem dX2_init_10 : decode cX2_init 10 = .ok (.iconst 0, 1) := by decide +kernel
theorem dX2_init_11 : decode cX2_init 11 = .ok (.putfield 15, 3) := by decide +kernel
theorem dX2_init_14 : decode cX2_init 14 = .ok (.aload_n 0, 1) := by decide +kernel
theorem dX2_init_15 : decode cX2_init 15 = .ok (.iconst 0, 1) := by decide +kernel
theorem dX2_init_16 : decode cX2_init 16 = .ok (.putfield 18, 3) := by decide +kernel
theorem dX2_init_19 : decode cX2_init 19 = .ok (.aload_n 0, 1) := by decide +kernel
theorem dX2_init_20 : decode cX2_init 20 = .ok (.iconst 0, 1) := by decide +kernel
theorem dX2_init_21 : decode cX2_init 21 = .ok (.putfield 21, 3) := by decide +kernel
theorem dX2_init_24 : decode cX2_init 24 = .ok (.aload_n 0, 1) := by decide +kernel
theorem dX2_init_25 : decode cX2_init 25 = .ok (.iconst 0, 1) := by decide +kernel
theorem dX2_init_26 : decode cX2_init 26 = .ok (.putfield 24, 3) := by decide +kernel
theorem dX2_init_29 : decode cX2_init 29 = .ok (.aload_n 0, 1) := by decide +kernel
theorem dX2_init_30 : decode cX2_init 30 = .ok (.iconst 0, 1) := by decide +kernel
theorem dX2_init_31 : decode cX2_init 31 = .ok (.putfield 27, 3) := by decide +kernel
theorem dX2_init_34 : decode cX2_init 34 = .ok (.aload_n 0, 1) := by decide +kernel
theorem dX2_init_35 : decode cX2_init 35 = .ok (.bipush 6, 2) := by decide +kernel
theorem dX2_init_37 : decode cX2_init 37 = .ok (.newarray .int, 2) := by decide +kernel
theorem dX2_init_39 : decode cX2_init 39 = .ok (.putfield 30, 3) := by decide +kernel
theorem dX2_init_42 : decode cX2_init 42 = .ok (.aload_n 0, 1) := by decide +kernel
theorem dX2_init_43 : decode cX2_init 43 = .ok (.bipush 6, 2) := by decide +kernel
theorem dX2_init_45 : decode cX2_init 45 = .ok (.newarray .int, 2) := by decide +kernel
theorem dX2_init_47 : decode cX2_init 47 = .ok (.putfield 34, 3) := by decide +kernel
theorem dX2_init_50 : decode cX2_init 50 = .ok (.aload_n 0, 1) := by decide +kernel
theorem dX2_init_51 : decode cX2_init 51 = .ok (.bipush 6, 2) := by decide +kernel
theorem dX2_init_53 : decode cX2_init 53 = .ok (.newarray .int, 2) := by decide +kernel
theorem dX2_init_55 : decode cX2_init 55 = .ok (.putfield 37, 3) := by decide +kernel
theorem dX2_init_58 : decode cX2_init 58 = .ok (.aload_n 0, 1) := by decide +kernel
theorem dX2_init_59 : decode cX2_init 59 = .ok (.bipush 8, 2) := by decide +kernel
theorem dX2_init_61 : decode cX2_init 61 = .ok (.newarray .int, 2) := by decide +kernel
theorem dX2_init_63 : decode cX2_init 63 = .ok (.putfield 40, 3) := by decide +kernel
theorem dX2_init_66 : decode cX2_init 66 = .ok (.aload_n 0, 1) := by decide +kernel
theorem dX2_init_67 : decode cX2_init 67 = .ok (.bipush 8, 2) := by decide +kernel
theorem dX2_init_69 : decode cX2_init 69 = .ok (.newarray .int, 2) := by decide +kernel
theorem dX2_init_71 : decode cX2_init 71 = .ok (.putfield 43, 3) := by decide +kernel
theorem dX2_init_74 : decode cX2_init 74 = .ok (.aload_n 0, 1) := by decide +kernel
theorem dX2_init_75 : decode cX2_init 75 = .ok (.bipush 8, 2) := by decide +kernel
theorem dX2_init_77 : decode cX2_init 77 = .ok (.newarray .int, 2) := by decide +kernel
theorem dX2_init_79 : decode cX2_init 79 = .ok (.putfield 46, 3) := by decide +kernel
theorem dX2_init_82 : decode cX2_init 82 = .ok (.aload_n 0, 1) := by decide +kernel
theorem dX2_init_83 : decode cX2_init 83 = .ok (.bipush 6, 2) := by decide +kernel
theorem dX2_init_85 : decode cX2_init 85 = .ok (.newarray .int, 2) := by decide +kernel
theorem dX2_init_87 : decode cX2_init 87 = .ok (.putfield 49, 3) := by decide +kernel
theorem dX2_init_90 : decode cX2_init 90 = .ok (.aload_n 0, 1) := by decide +kernel
theorem dX2_init_91 : decode cX2_init 91 = .ok (.bipush 6, 2) := by decide +kernel
theorem dX2_init_93 : decode cX2_init 93 = .ok (.newarray .int, 2) := by decide +kernel
theorem dX2_init_95 : decode cX2_init 95 = .ok (.putfield 52, 3) := by decide +kernel
theorem dX2_init_98 : decode cX2_init 98 = .ok (.aload_n 0, 1) := by decide +kernel
theorem dX2_init_99 : decode cX2_init 99 = .ok (.bipush 6, 2) := by decide +kernel
theorem dX2_init_101 : decode cX2_init 101 = .ok (.newarray .boolean, 2) := by decide +kernel
theorem dX2_init_103 : decode cX2_init 103 = .ok (.putfield 55, 3) := by decide +kernel
theorem dX2_init_106 : decode cX2_init 106 = .ok (.return_, 1) := by decide +kernel
theorem dX2_clear_0 : decode cX2_clear 0 = .ok (.aload_n 0, 1) := by decide +kernel
theorem dX2_clear_1 : decode cX2_clear 1 = .ok (.iconst 0, 1) := by decide +kernel
theorem dX2_clear_2 : decode cX2_clear 2 = .ok (.putfield 9, 3) := by decide +kernel
theorem dX2_clear_5 : decode cX2_clear 5 = .ok (.aload_n 0, 1) := by decide +kernel
theorem dX2_clear_6 : decode cX2_clear 6 = .ok (.iconst 0, 1) := by decide +kernel
theorem dX2_clear_7 : decode cX2_clear 7 = .ok (.putfield 15, 3) := by decide +kernel
theorem dX2_clear_10 : decode cX2_clear 10 = .ok (.aload_n 0, 1) := by decide +kernel
theorem dX2_clear_11 : decode cX2_clear 11 = .ok (.iconst 0, 1) := by decide +kernel
theorem dX2_clear_12 : decode cX2_clear 12 = .ok (.putfield 18, 3) := by decide +kernel
theorem dX2_clear_15 : decode cX2_clear 15 = .ok (.aload_n 0, 1) := by decide +kernel
theorem dX2_clear_16 : decode cX2_clear 16 = .ok (.iconst 0, 1) := by decide +kernel
theorem dX2_clear_17 : decode cX2_clear 17 = .ok (.putfield 21, 3) := by decide +kernel
theorem dX2_clear_20 : decode cX2_clear 20 = .ok (.aload_n 0, 1) := by decide +kernel
theorem dX2_clear_21 : decode cX2_clear 21 = .ok (.iconst 0, 1) := by decide +kernel
theorem dX2_clear_22 : decode cX2_clear 22 = .ok (.putfield 24, 3) := by decide +kernel
theorem dX2_clear_25 : decode cX2_clear 25 = .ok (.aload_n 0, 1) := by decide +kernel
theorem dX2_clear_26 : decode cX2_clear 26 = .ok (.iconst 0, 1) := by decide +kernel
theorem dX2_clear_27 : decode cX2_clear 27 = .ok (.putfield 27, 3) := by decide +kernel
theorem dX2_clear_30 : decode cX2_clear 30 = .ok (.return_, 1) := by decide +kernel
theorem dX2_copyFrom_0 : decode cX2_copyFrom 0 = .ok (.aload_n 0, 1) := by decide +kernel
theorem dX2_copyFrom_1 : decode cX2_copyFrom 1 = .ok (.aload_n 1, 1) := by decide +kernel
theorem dX2_copyFrom_2 : decode cX2_copyFrom 2 = .ok (.getfield 9, 3) := by decide +kernel
theorem dX2_copyFrom_5 : decode cX2_copyFrom 5 = .ok (.putfield 9, 3) := by decide +kernel
theorem dX2_copyFrom_8 : decode cX2_copyFrom 8 = .ok (.aload_n 0, 1) := by decide +kernel
theorem dX2_copyFrom_9 : decode cX2_copyFrom 9 = .ok (.aload_n 1, 1) := by decide +kernel
theorem dX2_copyFrom_10 : decode cX2_copyFrom 10 = .ok (.getfield 15, 3) := by decide +kernel
theorem dX2_copyFrom_13 : decode cX2_copyFrom 13 = .ok (.putfield 15, 3) := by decide +kernel
theorem dX2_copyFrom_16 : decode cX2_copyFrom 16 = .ok (.aload_n 0, 1) := by decide +kernel
theorem dX2_copyFrom_17 : decode cX2_copyFrom 17 = .ok (.aload_n 1, 1) := by decide +kernel
theorem dX2_copyFrom_18 : decode cX2_copyFrom 18 = .ok (.getfield 18, 3) := by decide +kernel
theorem dX2_copyFrom_21 : decode cX2_copyFrom 21 = .ok (.putfield 18, 3) := by decide +kernel
theorem dX2_copyFrom_24 : decode cX2_copyFrom 24 = .ok (.aload_n 0, 1) := by decide +kernel
theorem dX2_copyFrom_25 : decode cX2_copyFrom 25 = .ok (.aload_n 1, 1) := by decide +kernel
theorem dX2_copyFrom_26 : decode cX2_copyFrom 26 = .ok (.getfield 21, 3) := by decide +kernel
theorem dX2_copyFrom_29 : decode cX2_copyFrom 29 = .ok (.putfield 21, 3) := by decide +kernel
theorem dX2_copyFrom_32 : decode cX2_copyFrom 32 = .ok (.aload_n 0, 1) := by decide +kernel
theorem dX2_copyFrom_33 : decode cX2_copyFrom 33 = .ok (.aload_n 1, 1) := by decide +kernel
theorem dX2_copyFrom_34 : decode cX2_copyFrom 34 = .ok (.getfield 24, 3) := by decide +kernel
theorem dX2_copyFrom_37 : decode cX2_copyFrom 37 = .ok (.putfield 24, 3) := by decide +kernel
theorem dX2_copyFrom_40 : decode cX2_copyFrom 40 = .ok (.aload_n 0, 1) := by decide +kernel
theorem dX2_copyFrom_41 : decode cX2_copyFrom 41 = .ok (.aload_n 1, 1) := by decide +kernel
theorem dX2_copyFrom_42 : decode cX2_copyFrom 42 = .ok (.getfield 27, 3) := by decide +kernel
theorem dX2_copyFrom_45 : decode cX2_copyFrom 45 = .ok (.putfield 27, 3) := by decide +kernel
theorem dX2_copyFrom_48 : decode cX2_copyFrom 48 = .ok (.iconst 0, 1) := by decide +kernel
theorem dX2_copyFrom_49 : decode cX2_copyFrom 49 = .ok (.istore_n 2, 1) := by decide +kernel
theorem dX2_copyFrom_50 : decode cX2_copyFrom 50 = .ok (.iload_n 2, 1) := by decide +kernel
theorem dX2_copyFrom_51 : decode cX2_copyFrom 51 = .ok (.aload_n 0, 1) := by decide +kernel
theorem dX2_copyFrom_52 : decode cX2_copyFrom 52 = .ok (.getfield 15, 3) := by decide +kernel
theorem dX2_copyFrom_55 : decode cX2_copyFrom 55 = .ok (.if_icmp .ge 45, 3) := by decide +kernel
theorem dX2_copyFrom_58 : decode cX2_copyFrom 58 = .ok (.aload_n 0, 1) := by decide +kernel
theorem dX2_copyFrom_59 : decode cX2_copyFrom 59 = .ok (.getfield 30, 3) := by decide +kernel
theorem dX2_copyFrom_62 : decode cX2_copyFrom 62 = .ok (.iload_n 2, 1) := by decide +kernel
theorem dX2_copyFrom_63 : decode cX2_copyFrom 63 = .ok (.aload_n 1, 1) := by decide +kernel
theorem dX2_copyFrom_64 : decode cX2_copyFrom 64 = .ok (.getfield 30, 3) := by decide +kernel
theorem dX2_copyFrom_67 : decode cX2_copyFrom 67 = .ok (.iload_n 2, 1) := by decide +kernel
theorem dX2_copyFrom_68 : decode cX2_copyFrom 68 = .ok (.iaload, 1) := by decide +kernel
theorem dX2_copyFrom_69 : decode cX2_copyFrom 69 = .ok (.iastore, 1) := by decide +kernel
theorem dX2_copyFrom_70 : decode cX2_copyFrom 70 = .ok (.aload_n 0, 1) := by decide +kernel
theorem dX2_copyFrom_71 : decode cX2_copyFrom 71 = .ok (.getfield 34, 3) := by decide +kernel
theorem dX2_copyFrom_74 : decode cX2_copyFrom 74 = .ok (.iload_n 2, 1) := by decide +kernel
theorem dX2_copyFrom_75 : decode cX2_copyFrom 75 = .ok (.aload_n 1, 1) := by decide +kernel
theorem dX2_copyFrom_76 : decode cX2_copyFrom 76 = .ok (.getfield 34, 3) := by decide +kernel
theorem dX2_copyFrom_79 : decode cX2_copyFrom 79 = .ok (.iload_n 2, 1) := by decide +kernel
theorem dX2_copyFrom_80 : decode cX2_copyFrom 80 = .ok (.iaload, 1) := by decide +kernel
theorem dX2_copyFrom_81 : decode cX2_copyFrom 81 = .ok (.iastore, 1) := by decide +kernel
theorem dX2_copyFrom_82 : decode cX2_copyFrom 82 = .ok (.aload_n 0, 1) := by decide +kernel
theorem dX2_copyFrom_83 : decode cX2_copyFrom 83 = .ok (.getfield 37, 3) := by decide +kernel
theorem dX2_copyFrom_86 : decode cX2_copyFrom 86 = .ok (.iload_n 2, 1) := by decide +kernel
theorem dX2_copyFrom_87 : decode cX2_copyFrom 87 = .ok (.aload_n 1, 1) := by decide +kernel
theorem dX2_copyFrom_88 : decode cX2_copyFrom 88 = .ok (.getfield 37, 3) := by decide +kernel
theorem dX2_copyFrom_91 : decode cX2_copyFrom 91 = .ok (.iload_n 2, 1) := by decide +kernel
theorem dX2_copyFrom_92 : decode cX2_copyFrom 92 = .ok (.iaload, 1) := by decide +kernel
theorem dX2_copyFrom_93 : decode cX2_copyFrom 93 = .ok (.iastore, 1) := by decide +kernel
theorem dX2_copyFrom_94 : decode cX2_copyFrom 94 = .ok (.iinc 2 1, 3) := by decide +kernel
theorem dX2_copyFrom_97 : decode cX2_copyFrom 97 = .ok (.goto (-47), 3) := by decide +kernel
theorem dX2_copyFrom_100 : decode cX2_copyFrom 100 = .ok (.iconst 0, 1) := by decide +kernel
theorem dX2_copyFrom_101 : decode cX2_copyFrom 101 = .ok (.istore_n 2, 1) := by decide +kernel
theorem dX2_copyFrom_102 : decode cX2_copyFrom 102 = .ok (.iload_n 2, 1) := by decide +kernel
theorem dX2_copyFrom_103 : decode cX2_copyFrom 103 = .ok (.aload_n 0, 1) := by decide +kernel
theorem dX2_copyFrom_104 : decode cX2_copyFrom 104 = .ok (.getfield 18, 3) := by decide +kernel
theorem dX2_copyFrom_107 : decode cX2_copyFrom 107 = .ok (.if_icmp .ge 45, 3) := by decide +kernel
theorem dX2_copyFrom_110 : decode cX2_copyFrom 110 = .ok (.aload_n 0, 1) := by decide +kernel
theorem dX2_copyFrom_111 : decode cX2_copyFrom 111 = .ok (.getfield 40, 3) := by decide +kernel
theorem dX2_copyFrom_114 : decode cX2_copyFrom 114 = .ok (.iload_n 2, 1) := by decide +kernel
theorem dX2_copyFrom_115 : decode cX2_copyFrom 115 = .ok (.aload_n 1, 1) := by decide +kernel
theorem dX2_copyFrom_116 : decode cX2_copyFrom 116 = .ok (.getfield 40, 3) := by decide +kernel
theorem dX2_copyFrom_119 : decode cX2_copyFrom 119 = .ok (.iload_n 2, 1) := by decide +kernel
theorem dX2_copyFrom_120 : decode cX2_copyFrom 120 = .ok (.iaload, 1) := by decide +kernel
theorem dX2_copyFrom_121 : decode cX2_copyFrom 121 = .ok (.iastore, 1) := by decide +kernel
theorem dX2_copyFrom_122 : decode cX2_copyFrom 122 = .ok (.aload_n 0, 1) := by decide +kernel
theorem dX2_copyFrom_123 : decode cX2_copyFrom 123 = .ok (.getfield 43, 3) := by decide +kernel
theorem dX2_copyFrom_126 : decode cX2_copyFrom 126 = .ok (.iload_n 2, 1) := by decide +kernel
theorem dX2_copyFrom_127 : decode cX2_copyFrom 127 = .ok (.aload_n 1, 1) := by decide +kernel
theorem dX2_copyFrom_128 : decode cX2_copyFrom 128 = .ok (.getfield 43, 3) := by decide +kernel
theorem dX2_copyFrom_131 : decode cX2_copyFrom 131 = .ok (.iload_n 2, 1) := by decide +kernel
theorem dX2_copyFrom_132 : decode cX2_copyFrom 132 = .ok (.iaload, 1) := by decide +kernel
theorem dX2_copyFrom_133 : decode cX2_copyFrom 133 = .ok (.iastore, 1) := by decide +kernel
theorem dX2_copyFrom_134 : decode cX2_copyFrom 134 = .ok (.aload_n 0, 1) := by decide +kernel
theorem dX2_copyFrom_135 : decode cX2_copyFrom 135 = .ok (.getfield 46, 3) := by decide +kernel
theorem dX2_copyFrom_138 : decode cX2_copyFrom 138 = .ok (.iload_n 2, 1) := by decide +kernel
theorem dX2_copyFrom_139 : decode cX2_copyFrom 139 = .ok (.aload_n 1, 1) := by decide +kernel
theorem dX2_copyFrom_140 : decode cX2_copyFrom 140 = .ok (.getfield 46, 3) := by decide +kernel
theorem dX2_copyFrom_143 : decode cX2_copyFrom 143 = .ok (.iload_n 2, 1) := by decide +kernel
theorem dX2_copyFrom_144 : decode cX2_copyFrom 144 = .ok (.iaload, 1) := by decide +kernel
theorem dX2_copyFrom_145 : decode cX2_copyFrom 145 = .ok (.iastore, 1) := by decide +kernel
theorem dX2_copyFrom_146 : decode cX2_copyFrom 146 = .ok (.iinc 2 1, 3) := by decide +kernel
theorem dX2_copyFrom_149 : decode cX2_copyFrom 149 = .ok (.goto (-47), 3) := by decide +kernel
theorem dX2_copyFrom_152 : decode cX2_copyFrom 152 = .ok (.iconst 0, 1) := by decide +kernel
theorem dX2_copyFrom_153 : decode cX2_copyFrom 153 = .ok (.istore_n 2, 1) := by decide +kernel
theorem dX2_copyFrom_154 : decode cX2_copyFrom 154 = .ok (.iload_n 2, 1) := by decide +kernel
theorem dX2_copyFrom_155 : decode cX2_copyFrom 155 = .ok (.aload_n 0, 1) := by decide +kernel
theorem dX2_copyFrom_156 : decode cX2_copyFrom 156 = .ok (.getfield 27, 3) := by decide +kernel
theorem dX2_copyFrom_159 : decode cX2_copyFrom 159 = .ok (.if_icmp .ge 45, 3) := by decide +kernel
theorem dX2_copyFrom_162 : decode cX2_copyFrom 162 = .ok (.aload_n 0, 1) := by decide +kernel
theorem dX2_copyFrom_163 : decode cX2_copyFrom 163 = .ok (.getfield 49, 3) := by decide +kernel
theorem dX2_copyFrom_166 : decode cX2_copyFrom 166 = .ok (.iload_n 2, 1) := by decide +kernel
theorem dX2_copyFrom_167 : decode cX2_copyFrom 167 = .ok (.aload_n 1, 1) := by decide +kernel
theorem dX2_copyFrom_168 : decode cX2_copyFrom 168 = .ok (.getfield 49, 3) := by decide +kernel
theorem dX2_copyFrom_171 : decode cX2_copyFrom 171 = .ok (.iload_n 2, 1) := by decide +kernel
theorem dX2_copyFrom_172 : decode cX2_copyFrom 172 = .ok (.iaload, 1) := by decide +kernel
theorem dX2_copyFrom_173 : decode cX2_copyFrom 173 = .ok (.iastore, 1) := by decide +kernel
theorem dX2_copyFrom_174 : decode cX2_copyFrom 174 = .ok (.aload_n 0, 1) := by decide +kernel
theorem dX2_copyFrom_175 : decode cX2_copyFrom 175 = .ok (.getfield 52, 3) := by decide +kernel
theorem dX2_copyFrom_178 : decode cX2_copyFrom 178 = .ok (.iload_n 2, 1) := by decide +kernel
theorem dX2_copyFrom_179 : decode cX2_copyFrom 179 = .ok (.aload_n 1, 1) := by decide +kernel
theorem dX2_copyFrom_180 : decode cX2_copyFrom 180 = .ok (.getfield 52, 3) := by decide +kernel
theorem dX2_copyFrom_183 : decode cX2_copyFrom 183 = .ok (.iload_n 2, 1) := by decide +kernel
theorem dX2_copyFrom_184 : decode cX2_copyFrom 184 = .ok (.iaload, 1) := by decide +kernel
theorem dX2_copyFrom_185 : decode cX2_copyFrom 185 = .ok (.iastore, 1) := by decide +kernel
theorem dX2_copyFrom_186 : decode cX2_copyFrom 186 = .ok (.aload_n 0, 1) := by decide +kernel
theorem dX2_copyFrom_187 : decode cX2_copyFrom 187 = .ok (.getfield 55, 3) := by decide +kernel
theorem dX2_copyFrom_190 : decode cX2_copyFrom 190 = .ok (.iload_n 2, 1) := by decide +kernel
theorem dX2_copyFrom_191 : decode cX2_copyFrom 191 = .ok (.aload_n 1, 1) := by decide +kernel
theorem dX2_copyFrom_192 : decode cX2_copyFrom 192 = .ok (.getfield 55, 3) := by decide +kernel
theorem dX2_copyFrom_195 : decode cX2_copyFrom 195 = .ok (.iload_n 2, 1) := by decide +kernel
theorem dX2_copyFrom_196 : decode cX2_copyFrom 196 = .ok (.baload, 1) := by decide +kernel
theorem dX2_copyFrom_197 : decode cX2_copyFrom 197 = .ok (.bastore, 1) := by decide +kernel
theorem dX2_copyFrom_198 : decode cX2_copyFrom 198 = .ok (.iinc 2 1, 3) := by decide +kernel
theorem dX2_copyFrom_201 : decode cX2_copyFrom 201 = .ok (.goto (-47), 3) := by decide +kernel
theorem dX2_copyFrom_204 : decode cX2_copyFrom 204 = .ok (.return_, 1) := by decide +kernel
theorem dX2_isThere_0 : decode cX2_isThere 0 = .ok (.aload_n 0, 1) := by decide +kernel
theorem dX2_isThere_1 : decode cX2_isThere 1 = .ok (.getfield 15, 3) := by decide +kernel
theorem dX2_isThere_4 : decode cX2_isThere 4 = .ok (.ifCond .le 7, 3) := by decide +kernel
theorem dX2_isThere_7 : decode cX2_isThere 7 = .ok (.iconst 1, 1) := by decide +kernel
theorem dX2_isThere_8 : decode cX2_isThere 8 = .ok (.goto 4, 3) := by decide +kernel
theorem dX2_isThere_11 : decode cX2_isThere 11 = .ok (.iconst 0, 1) := by decide +kernel
theorem dX2_isThere_12 : decode cX2_isThere 12 = .ok (.ireturn, 1) := by decide +kernel
theorem dX2_hasPerson_0 : decode cX2_hasPerson 0 = .ok (.iload_n 1, 1) := by decide +kernel
theorem dX2_hasPerson_1 : decode cX2_hasPerson 1 = .ok (.ifCond .lt 15, 3) := by decide +kernel
theorem dX2_hasPerson_4 : decode cX2_hasPerson 4 = .ok (.iload_n 1, 1) := by decide +kernel
theorem dX2_hasPerson_5 : decode cX2_hasPerson 5 = .ok (.aload_n 0, 1) := by decide +kernel
theorem dX2_hasPerson_6 : decode cX2_hasPerson 6 = .ok (.getfield 15, 3) := by decide +kernel
theorem dX2_hasPerson_9 : decode cX2_hasPerson 9 = .ok (.if_icmp .ge 7, 3) := by decide +kernel
theorem dX2_hasPerson_12 : decode cX2_hasPerson 12 = .ok (.iconst 1, 1) := by decide +kernel
theorem dX2_hasPerson_13 : decode cX2_hasPerson 13 = .ok (.goto 4, 3) := by decide +kernel
theorem dX2_hasPerson_16 : decode cX2_hasPerson 16 = .ok (.iconst 0, 1) := by decide +kernel
theorem dX2_hasPerson_17 : decode cX2_hasPerson 17 = .ok (.ireturn, 1) := by decide +kernel
theorem dX2_hasWrong_0 : decode cX2_hasWrong 0 = .ok (.iload_n 1, 1) := by decide +kernel
theorem dX2_hasWrong_1 : decode cX2_hasWrong 1 = .ok (.ifCond .lt 15, 3) := by decide +kernel
theorem dX2_hasWrong_4 : decode cX2_hasWrong 4 = .ok (.iload_n 1, 1) := by decide +kernel
theorem dX2_hasWrong_5 : decode cX2_hasWrong 5 = .ok (.aload_n 0, 1) := by decide +kernel
theorem dX2_hasWrong_6 : decode cX2_hasWrong 6 = .ok (.getfield 18, 3) := by decide +kernel
theorem dX2_hasWrong_9 : decode cX2_hasWrong 9 = .ok (.if_icmp .ge 7, 3) := by decide +kernel
theorem dX2_hasWrong_12 : decode cX2_hasWrong 12 = .ok (.iconst 1, 1) := by decide +kernel
theorem dX2_hasWrong_13 : decode cX2_hasWrong 13 = .ok (.goto 4, 3) := by decide +kernel
theorem dX2_hasWrong_16 : decode cX2_hasWrong 16 = .ok (.iconst 0, 1) := by decide +kernel
theorem dX2_hasWrong_17 : decode cX2_hasWrong 17 = .ok (.ireturn, 1) := by decide +kernel
theorem dX2_isForgiven_0 : decode cX2_isForgiven 0 = .ok (.aload_n 0, 1) := by decide +kernel
theorem dX2_isForgiven_1 : decode cX2_isForgiven 1 = .ok (.getfield 21, 3) := by decide +kernel
theorem dX2_isForgiven_4 : decode cX2_isForgiven 4 = .ok (.iload_n 1, 1) := by decide +kernel
theorem dX2_isForgiven_5 : decode cX2_isForgiven 5 = .ok (.invokestatic 59, 3) := by decide +kernel
theorem dX2_isForgiven_8 : decode cX2_isForgiven 8 = .ok (.ireturn, 1) := by decide +kernel
theorem dX2_allWarm_0 : decode cX2_allWarm 0 = .ok (.iconst 0, 1) := by decide +kernel
theorem dX2_allWarm_1 : decode cX2_allWarm 1 = .ok (.istore_n 1, 1) := by decide +kernel
theorem dX2_allWarm_2 : decode cX2_allWarm 2 = .ok (.iconst 0, 1) := by decide +kernel
theorem dX2_allWarm_3 : decode cX2_allWarm 3 = .ok (.istore_n 2, 1) := by decide +kernel
theorem dX2_allWarm_4 : decode cX2_allWarm 4 = .ok (.iload_n 2, 1) := by decide +kernel
theorem dX2_allWarm_5 : decode cX2_allWarm 5 = .ok (.aload_n 0, 1) := by decide +kernel
theorem dX2_allWarm_6 : decode cX2_allWarm 6 = .ok (.getfield 15, 3) := by decide +kernel
theorem dX2_allWarm_9 : decode cX2_allWarm 9 = .ok (.if_icmp .ge 18, 3) := by decide +kernel
theorem dX2_allWarm_12 : decode cX2_allWarm 12 = .ok (.iload_n 1, 1) := by decide +kernel
theorem dX2_allWarm_13 : decode cX2_allWarm 13 = .ok (.aload_n 0, 1) := by decide +kernel
theorem dX2_allWarm_14 : decode cX2_allWarm 14 = .ok (.getfield 34, 3) := by decide +kernel
theorem dX2_allWarm_17 : decode cX2_allWarm 17 = .ok (.iload_n 2, 1) := by decide +kernel
theorem dX2_allWarm_18 : decode cX2_allWarm 18 = .ok (.iaload, 1) := by decide +kernel
theorem dX2_allWarm_19 : decode cX2_allWarm 19 = .ok (.iadd, 1) := by decide +kernel
theorem dX2_allWarm_20 : decode cX2_allWarm 20 = .ok (.istore_n 1, 1) := by decide +kernel
theorem dX2_allWarm_21 : decode cX2_allWarm 21 = .ok (.iinc 2 1, 3) := by decide +kernel
theorem dX2_allWarm_24 : decode cX2_allWarm 24 = .ok (.goto (-20), 3) := by decide +kernel
theorem dX2_allWarm_27 : decode cX2_allWarm 27 = .ok (.iload_n 1, 1) := by decide +kernel
theorem dX2_allWarm_28 : decode cX2_allWarm 28 = .ok (.ireturn, 1) := by decide +kernel
theorem dX2_allFroze_0 : decode cX2_allFroze 0 = .ok (.iconst 0, 1) := by decide +kernel
theorem dX2_allFroze_1 : decode cX2_allFroze 1 = .ok (.istore_n 1, 1) := by decide +kernel
theorem dX2_allFroze_2 : decode cX2_allFroze 2 = .ok (.iconst 0, 1) := by decide +kernel
theorem dX2_allFroze_3 : decode cX2_allFroze 3 = .ok (.istore_n 2, 1) := by decide +kernel
theorem dX2_allFroze_4 : decode cX2_allFroze 4 = .ok (.iload_n 2, 1) := by decide +kernel
theorem dX2_allFroze_5 : decode cX2_allFroze 5 = .ok (.aload_n 0, 1) := by decide +kernel
theorem dX2_allFroze_6 : decode cX2_allFroze 6 = .ok (.getfield 15, 3) := by decide +kernel
theorem dX2_allFroze_9 : decode cX2_allFroze 9 = .ok (.if_icmp .ge 18, 3) := by decide +kernel
theorem dX2_allFroze_12 : decode cX2_allFroze 12 = .ok (.iload_n 1, 1) := by decide +kernel
theorem dX2_allFroze_13 : decode cX2_allFroze 13 = .ok (.aload_n 0, 1) := by decide +kernel
theorem dX2_allFroze_14 : decode cX2_allFroze 14 = .ok (.getfield 37, 3) := by decide +kernel
theorem dX2_allFroze_17 : decode cX2_allFroze 17 = .ok (.iload_n 2, 1) := by decide +kernel
theorem dX2_allFroze_18 : decode cX2_allFroze 18 = .ok (.iaload, 1) := by decide +kernel
theorem dX2_allFroze_19 : decode cX2_allFroze 19 = .ok (.iadd, 1) := by decide +kernel
theorem dX2_allFroze_20 : decode cX2_allFroze 20 = .ok (.istore_n 1, 1) := by decide +kernel
theorem dX2_allFroze_21 : decode cX2_allFroze 21 = .ok (.iinc 2 1, 3) := by decide +kernel
theorem dX2_allFroze_24 : decode cX2_allFroze 24 = .ok (.goto (-20), 3) := by decide +kernel
theorem dX2_allFroze_27 : decode cX2_allFroze 27 = .ok (.iload_n 1, 1) := by decide +kernel
theorem dX2_allFroze_28 : decode cX2_allFroze 28 = .ok (.ireturn, 1) := by decide +kernel
theorem dX2_passSunday_0 : decode cX2_passSunday 0 = .ok (.iconst 0, 1) := by decide +kernel
theorem dX2_passSunday_1 : decode cX2_passSunday 1 = .ok (.istore_n 2, 1) := by decide +kernel
theorem dX2_passSunday_2 : decode cX2_passSunday 2 = .ok (.aload_n 0, 1) := by decide +kernel
theorem dX2_passSunday_3 : decode cX2_passSunday 3 = .ok (.dup, 1) := by decide +kernel
theorem dX2_passSunday_4 : decode cX2_passSunday 4 = .ok (.getfield 24, 3) := by decide +kernel
theorem dX2_passSunday_7 : decode cX2_passSunday 7 = .ok (.iconst 1, 1) := by decide +kernel
theorem dX2_passSunday_8 : decode cX2_passSunday 8 = .ok (.iadd, 1) := by decide +kernel
theorem dX2_passSunday_9 : decode cX2_passSunday 9 = .ok (.putfield 24, 3) := by decide +kernel
theorem dX2_passSunday_12 : decode cX2_passSunday 12 = .ok (.iconst 0, 1) := by decide +kernel
theorem dX2_passSunday_13 : decode cX2_passSunday 13 = .ok (.istore_n 3, 1) := by decide +kernel
theorem dX2_passSunday_14 : decode cX2_passSunday 14 = .ok (.iload_n 3, 1) := by decide +kernel
theorem dX2_passSunday_15 : decode cX2_passSunday 15 = .ok (.aload_n 0, 1) := by decide +kernel
theorem dX2_passSunday_16 : decode cX2_passSunday 16 = .ok (.getfield 15, 3) := by decide +kernel
theorem dX2_passSunday_19 : decode cX2_passSunday 19 = .ok (.if_icmp .ge 51, 3) := by decide +kernel
theorem dX2_passSunday_22 : decode cX2_passSunday 22 = .ok (.aload_n 0, 1) := by decide +kernel
theorem dX2_passSunday_23 : decode cX2_passSunday 23 = .ok (.getfield 34, 3) := by decide +kernel
theorem dX2_passSunday_26 : decode cX2_passSunday 26 = .ok (.iload_n 3, 1) := by decide +kernel
theorem dX2_passSunday_27 : decode cX2_passSunday 27 = .ok (.aload_n 0, 1) := by decide +kernel
theorem dX2_passSunday_28 : decode cX2_passSunday 28 = .ok (.getfield 34, 3) := by decide +kernel
theorem dX2_passSunday_31 : decode cX2_passSunday 31 = .ok (.iload_n 3, 1) := by decide +kernel
theorem dX2_passSunday_32 : decode cX2_passSunday 32 = .ok (.iaload, 1) := by decide +kernel
theorem dX2_passSunday_33 : decode cX2_passSunday 33 = .ok (.iload_n 1, 1) := by decide +kernel
theorem dX2_passSunday_34 : decode cX2_passSunday 34 = .ok (.iload_n 3, 1) := by decide +kernel
theorem dX2_passSunday_35 : decode cX2_passSunday 35 = .ok (.invokestatic 59, 3) := by decide +kernel
theorem dX2_passSunday_38 : decode cX2_passSunday 38 = .ok (.invokestatic 63, 3) := by decide +kernel
theorem dX2_passSunday_41 : decode cX2_passSunday 41 = .ok (.iastore, 1) := by decide +kernel
theorem dX2_passSunday_42 : decode cX2_passSunday 42 = .ok (.aload_n 0, 1) := by decide +kernel
theorem dX2_passSunday_43 : decode cX2_passSunday 43 = .ok (.getfield 34, 3) := by decide +kernel
theorem dX2_passSunday_46 : decode cX2_passSunday 46 = .ok (.iload_n 3, 1) := by decide +kernel
theorem dX2_passSunday_47 : decode cX2_passSunday 47 = .ok (.iaload, 1) := by decide +kernel
theorem dX2_passSunday_48 : decode cX2_passSunday 48 = .ok (.ifCond .ne 16, 3) := by decide +kernel
theorem dX2_passSunday_51 : decode cX2_passSunday 51 = .ok (.aload_n 0, 1) := by decide +kernel
theorem dX2_passSunday_52 : decode cX2_passSunday 52 = .ok (.getfield 37, 3) := by decide +kernel
theorem dX2_passSunday_55 : decode cX2_passSunday 55 = .ok (.iload_n 3, 1) := by decide +kernel
theorem dX2_passSunday_56 : decode cX2_passSunday 56 = .ok (.dup2, 1) := by decide +kernel
theorem dX2_passSunday_57 : decode cX2_passSunday 57 = .ok (.iaload, 1) := by decide +kernel
theorem dX2_passSunday_58 : decode cX2_passSunday 58 = .ok (.iconst 1, 1) := by decide +kernel
theorem dX2_passSunday_59 : decode cX2_passSunday 59 = .ok (.iadd, 1) := by decide +kernel
theorem dX2_passSunday_60 : decode cX2_passSunday 60 = .ok (.iastore, 1) := by decide +kernel
theorem dX2_passSunday_61 : decode cX2_passSunday 61 = .ok (.iinc 2 1, 3) := by decide +kernel
theorem dX2_passSunday_64 : decode cX2_passSunday 64 = .ok (.iinc 3 1, 3) := by decide +kernel
theorem dX2_passSunday_67 : decode cX2_passSunday 67 = .ok (.goto (-53), 3) := by decide +kernel
theorem dX2_passSunday_70 : decode cX2_passSunday 70 = .ok (.iload_n 2, 1) := by decide +kernel
theorem dX2_passSunday_71 : decode cX2_passSunday 71 = .ok (.ireturn, 1) := by decide +kernel
theorem dX2_addSeen_0 : decode cX2_addSeen 0 = .ok (.aload_n 0, 1) := by decide +kernel
theorem dX2_addSeen_1 : decode cX2_addSeen 1 = .ok (.getfield 27, 3) := by decide +kernel
theorem dX2_addSeen_4 : decode cX2_addSeen 4 = .ok (.bipush 6, 2) := by decide +kernel
theorem dX2_addSeen_6 : decode cX2_addSeen 6 = .ok (.if_icmp .ge 43, 3) := by decide +kernel
theorem dX2_addSeen_9 : decode cX2_addSeen 9 = .ok (.aload_n 0, 1) := by decide +kernel
theorem dX2_addSeen_10 : decode cX2_addSeen 10 = .ok (.getfield 49, 3) := by decide +kernel
theorem dX2_addSeen_13 : decode cX2_addSeen 13 = .ok (.aload_n 0, 1) := by decide +kernel
theorem dX2_addSeen_14 : decode cX2_addSeen 14 = .ok (.getfield 27, 3) := by decide +kernel
theorem dX2_addSeen_17 : decode cX2_addSeen 17 = .ok (.iload_n 1, 1) := by decide +kernel
theorem dX2_addSeen_18 : decode cX2_addSeen 18 = .ok (.iastore, 1) := by decide +kernel
theorem dX2_addSeen_19 : decode cX2_addSeen 19 = .ok (.aload_n 0, 1) := by decide +kernel
theorem dX2_addSeen_20 : decode cX2_addSeen 20 = .ok (.getfield 52, 3) := by decide +kernel
theorem dX2_addSeen_23 : decode cX2_addSeen 23 = .ok (.aload_n 0, 1) := by decide +kernel
theorem dX2_addSeen_24 : decode cX2_addSeen 24 = .ok (.getfield 27, 3) := by decide +kernel
theorem dX2_addSeen_27 : decode cX2_addSeen 27 = .ok (.iload_n 2, 1) := by decide +kernel
theorem dX2_addSeen_28 : decode cX2_addSeen 28 = .ok (.iastore, 1) := by decide +kernel
theorem dX2_addSeen_29 : decode cX2_addSeen 29 = .ok (.aload_n 0, 1) := by decide +kernel
theorem dX2_addSeen_30 : decode cX2_addSeen 30 = .ok (.getfield 55, 3) := by decide +kernel
theorem dX2_addSeen_33 : decode cX2_addSeen 33 = .ok (.aload_n 0, 1) := by decide +kernel
theorem dX2_addSeen_34 : decode cX2_addSeen 34 = .ok (.getfield 27, 3) := by decide +kernel
theorem dX2_addSeen_37 : decode cX2_addSeen 37 = .ok (.iload_n 3, 1) := by decide +kernel
theorem dX2_addSeen_38 : decode cX2_addSeen 38 = .ok (.bastore, 1) := by decide +kernel
theorem dX2_addSeen_39 : decode cX2_addSeen 39 = .ok (.aload_n 0, 1) := by decide +kernel
theorem dX2_addSeen_40 : decode cX2_addSeen 40 = .ok (.dup, 1) := by decide +kernel
theorem dX2_addSeen_41 : decode cX2_addSeen 41 = .ok (.getfield 27, 3) := by decide +kernel
theorem dX2_addSeen_44 : decode cX2_addSeen 44 = .ok (.iconst 1, 1) := by decide +kernel
theorem dX2_addSeen_45 : decode cX2_addSeen 45 = .ok (.iadd, 1) := by decide +kernel
theorem dX2_addSeen_46 : decode cX2_addSeen 46 = .ok (.putfield 27, 3) := by decide +kernel
theorem dX2_addSeen_49 : decode cX2_addSeen 49 = .ok (.return_, 1) := by decide +kernel
theorem dX3_init_0 : decode cX3_init 0 = .ok (.aload_n 0, 1) := by decide +kernel
theorem dX3_init_1 : decode cX3_init 1 = .ok (.invokespecial 3, 3) := by decide +kernel
theorem dX3_init_4 : decode cX3_init 4 = .ok (.aload_n 0, 1) := by decide +kernel
theorem dX3_init_5 : decode cX3_init 5 = .ok (.bipush 10, 2) := by decide +kernel
theorem dX3_init_7 : decode cX3_init 7 = .ok (.newarray .int, 2) := by decide +kernel
theorem dX3_init_9 : decode cX3_init 9 = .ok (.putfield 9, 3) := by decide +kernel
theorem dX3_init_12 : decode cX3_init 12 = .ok (.aload_n 0, 1) := by decide +kernel
theorem dX3_init_13 : decode cX3_init 13 = .ok (.iconst 0, 1) := by decide +kernel
theorem dX3_init_14 : decode cX3_init 14 = .ok (.putfield 15, 3) := by decide +kernel
theorem dX3_init_17 : decode cX3_init 17 = .ok (.return_, 1) := by decide +kernel
theorem dX3_fill_0 : decode cX3_fill 0 = .ok (.aload_n 3, 1) := by decide +kernel
theorem dX3_fill_1 : decode cX3_fill 1 = .ok (.aload_n 1, 1) := by decide +kernel
theorem dX3_fill_2 : decode cX3_fill 2 = .ok (.invokevirtual 19, 3) := by decide +kernel
theorem dX3_fill_5 : decode cX3_fill 5 = .ok (.aload_n 0, 1) := by decide +kernel
theorem dX3_fill_6 : decode cX3_fill 6 = .ok (.iconst 0, 1) := by decide +kernel
theorem dX3_fill_7 : decode cX3_fill 7 = .ok (.putfield 15, 3) := by decide +kernel
theorem dX3_fill_10 : decode cX3_fill 10 = .ok (.iconst 1, 1) := by decide +kernel
theorem dX3_fill_11 : decode cX3_fill 11 = .ok (.istore 5, 2) := by decide +kernel
theorem dX3_fill_13 : decode cX3_fill 13 = .ok (.iload 5, 2) := by decide +kernel
theorem dX3_fill_15 : decode cX3_fill 15 = .ok (.bipush 9, 2) := by decide +kernel
theorem dX3_fill_17 : decode cX3_fill 17 = .ok (.if_icmp .gt 75, 3) := by decide +kernel
theorem dX3_fill_20 : decode cX3_fill 20 = .ok (.aload_n 3, 1) := by decide +kernel
theorem dX3_fill_21 : decode cX3_fill 21 = .ok (.getfield 25, 3) := by decide +kernel
theorem dX3_fill_24 : decode cX3_fill 24 = .ok (.iload_n 2, 1) := by decide +kernel
theorem dX3_fill_25 : decode cX3_fill 25 = .ok (.iload 5, 2) := by decide +kernel
theorem dX3_fill_27 : decode cX3_fill 27 = .ok (.iastore, 1) := by decide +kernel
theorem dX3_fill_28 : decode cX3_fill 28 = .ok (.aload 4, 2) := by decide +kernel
theorem dX3_fill_30 : decode cX3_fill 30 = .ok (.aload_n 3, 1) := by decide +kernel
theorem dX3_fill_31 : decode cX3_fill 31 = .ok (.aload_n 3, 1) := by decide +kernel
theorem dX3_fill_32 : decode cX3_fill 32 = .ok (.getfield 28, 3) := by decide +kernel
theorem dX3_fill_35 : decode cX3_fill 35 = .ok (.invokevirtual 31, 3) := by decide +kernel
theorem dX3_fill_38 : decode cX3_fill 38 = .ok (.aload_n 0, 1) := by decide +kernel
theorem dX3_fill_39 : decode cX3_fill 39 = .ok (.getfield 9, 3) := by decide +kernel
theorem dX3_fill_42 : decode cX3_fill 42 = .ok (.iload 5, 2) := by decide +kernel
theorem dX3_fill_44 : decode cX3_fill 44 = .ok (.aload 4, 2) := by decide +kernel
theorem dX3_fill_46 : decode cX3_fill 46 = .ok (.aload_n 3, 1) := by decide +kernel
theorem dX3_fill_47 : decode cX3_fill 47 = .ok (.getfield 37, 3) := by decide +kernel
theorem dX3_fill_50 : decode cX3_fill 50 = .ok (.iload_n 2, 1) := by decide +kernel
theorem dX3_fill_51 : decode cX3_fill 51 = .ok (.iaload, 1) := by decide +kernel
theorem dX3_fill_52 : decode cX3_fill 52 = .ok (.invokevirtual 40, 3) := by decide +kernel
theorem dX3_fill_55 : decode cX3_fill 55 = .ok (.iastore, 1) := by decide +kernel
theorem dX3_fill_56 : decode cX3_fill 56 = .ok (.aload_n 3, 1) := by decide +kernel
theorem dX3_fill_57 : decode cX3_fill 57 = .ok (.iload_n 2, 1) := by decide +kernel
theorem dX3_fill_58 : decode cX3_fill 58 = .ok (.aload_n 0, 1) := by decide +kernel
theorem dX3_fill_59 : decode cX3_fill 59 = .ok (.getfield 9, 3) := by decide +kernel
theorem dX3_fill_62 : decode cX3_fill 62 = .ok (.iload 5, 2) := by decide +kernel
theorem dX3_fill_64 : decode cX3_fill 64 = .ok (.iaload, 1) := by decide +kernel
theorem dX3_fill_65 : decode cX3_fill 65 = .ok (.invokestatic 44, 3) := by decide +kernel
theorem dX3_fill_68 : decode cX3_fill 68 = .ok (.ifCond .eq 18, 3) := by decide +kernel
theorem dX3_fill_71 : decode cX3_fill 71 = .ok (.aload_n 0, 1) := by decide +kernel
theorem dX3_fill_72 : decode cX3_fill 72 = .ok (.dup, 1) := by decide +kernel
theorem dX3_fill_73 : decode cX3_fill 73 = .ok (.getfield 15, 3) := by decide +kernel
theorem dX3_fill_76 : decode cX3_fill 76 = .ok (.iconst 1, 1) := by decide +kernel
theorem dX3_fill_77 : decode cX3_fill 77 = .ok (.iload 5, 2) := by decide +kernel
theorem dX3_fill_79 : decode cX3_fill 79 = .ok (.iconst 1, 1) := by decide +kernel
theorem dX3_fill_80 : decode cX3_fill 80 = .ok (.isub, 1) := by decide +kernel
theorem dX3_fill_81 : decode cX3_fill 81 = .ok (.ishl, 1) := by decide +kernel
theorem dX3_fill_82 : decode cX3_fill 82 = .ok (.ior, 1) := by decide +kernel
theorem dX3_fill_83 : decode cX3_fill 83 = .ok (.putfield 15, 3) := by decide +kernel
theorem dX3_fill_86 : decode cX3_fill 86 = .ok (.iinc 5 1, 3) := by decide +kernel
theorem dX3_fill_89 : decode cX3_fill 89 = .ok (.goto (-76), 3) := by decide +kernel
theorem dX3_fill_92 : decode cX3_fill 92 = .ok (.return_, 1) := by decide +kernel
theorem dX3_isAsSeen_0 : decode cX3_isAsSeen 0 = .ok (.iconst 0, 1) := by decide +kernel
theorem dX3_isAsSeen_1 : decode cX3_isAsSeen 1 = .ok (.istore_n 3, 1) := by decide +kernel
theorem dX3_isAsSeen_2 : decode cX3_isAsSeen 2 = .ok (.iload_n 3, 1) := by decide +kernel
theorem dX3_isAsSeen_3 : decode cX3_isAsSeen 3 = .ok (.aload_n 0, 1) := by decide +kernel
theorem dX3_isAsSeen_4 : decode cX3_isAsSeen 4 = .ok (.getfield 48, 3) := by decide +kernel
theorem dX3_isAsSeen_7 : decode cX3_isAsSeen 7 = .ok (.if_icmp .ge 45, 3) := by decide +kernel
theorem dX3_isAsSeen_10 : decode cX3_isAsSeen 10 = .ok (.aload_n 0, 1) := by decide +kernel
theorem dX3_isAsSeen_11 : decode cX3_isAsSeen 11 = .ok (.getfield 51, 3) := by decide +kernel
theorem dX3_isAsSeen_14 : decode cX3_isAsSeen 14 = .ok (.iload_n 3, 1) := by decide +kernel
theorem dX3_isAsSeen_15 : decode cX3_isAsSeen 15 = .ok (.iaload, 1) := by decide +kernel
theorem dX3_isAsSeen_16 : decode cX3_isAsSeen 16 = .ok (.iload_n 1, 1) := by decide +kernel
theorem dX3_isAsSeen_17 : decode cX3_isAsSeen 17 = .ok (.if_icmp .ne 29, 3) := by decide +kernel
theorem dX3_isAsSeen_20 : decode cX3_isAsSeen 20 = .ok (.iload_n 2, 1) := by decide +kernel
theorem dX3_isAsSeen_21 : decode cX3_isAsSeen 21 = .ok (.aload_n 0, 1) := by decide +kernel
theorem dX3_isAsSeen_22 : decode cX3_isAsSeen 22 = .ok (.getfield 54, 3) := by decide +kernel
theorem dX3_isAsSeen_25 : decode cX3_isAsSeen 25 = .ok (.iload_n 3, 1) := by decide +kernel
theorem dX3_isAsSeen_26 : decode cX3_isAsSeen 26 = .ok (.iaload, 1) := by decide +kernel
theorem dX3_isAsSeen_27 : decode cX3_isAsSeen 27 = .ok (.if_icmp .ge 7, 3) := by decide +kernel
theorem dX3_isAsSeen_30 : decode cX3_isAsSeen 30 = .ok (.iconst 1, 1) := by decide +kernel
theorem dX3_isAsSeen_31 : decode cX3_isAsSeen 31 = .ok (.goto 4, 3) := by decide +kernel
theorem dX3_isAsSeen_34 : decode cX3_isAsSeen 34 = .ok (.iconst 0, 1) := by decide +kernel
theorem dX3_isAsSeen_35 : decode cX3_isAsSeen 35 = .ok (.aload_n 0, 1) := by decide +kernel
theorem dX3_isAsSeen_36 : decode cX3_isAsSeen 36 = .ok (.getfield 57, 3) := by decide +kernel
theorem dX3_isAsSeen_39 : decode cX3_isAsSeen 39 = .ok (.iload_n 3, 1) := by decide +kernel
theorem dX3_isAsSeen_40 : decode cX3_isAsSeen 40 = .ok (.baload, 1) := by decide +kernel
theorem dX3_isAsSeen_41 : decode cX3_isAsSeen 41 = .ok (.if_icmp .eq 5, 3) := by decide +kernel
theorem dX3_isAsSeen_44 : decode cX3_isAsSeen 44 = .ok (.iconst 0, 1) := by decide +kernel
theorem dX3_isAsSeen_45 : decode cX3_isAsSeen 45 = .ok (.ireturn, 1) := by decide +kernel
theorem dX3_isAsSeen_46 : decode cX3_isAsSeen 46 = .ok (.iinc 3 1, 3) := by decide +kernel
theorem dX3_isAsSeen_49 : decode cX3_isAsSeen 49 = .ok (.goto (-47), 3) := by decide +kernel
theorem dX3_isAsSeen_52 : decode cX3_isAsSeen 52 = .ok (.iconst 1, 1) := by decide +kernel
theorem dX3_isAsSeen_53 : decode cX3_isAsSeen 53 = .ok (.ireturn, 1) := by decide +kernel
theorem dX3_bestRoom_0 : decode cX3_bestRoom 0 = .ok (.aload_n 0, 1) := by decide +kernel
theorem dX3_bestRoom_1 : decode cX3_bestRoom 1 = .ok (.getfield 15, 3) := by decide +kernel
theorem dX3_bestRoom_4 : decode cX3_bestRoom 4 = .ok (.ifCond .ne 5, 3) := by decide +kernel
theorem dX3_bestRoom_7 : decode cX3_bestRoom 7 = .ok (.iconst (-1), 1) := by decide +kernel
theorem dX3_bestRoom_8 : decode cX3_bestRoom 8 = .ok (.ireturn, 1) := by decide +kernel
theorem dX3_bestRoom_9 : decode cX3_bestRoom 9 = .ok (.iconst 1, 1) := by decide +kernel
theorem dX3_bestRoom_10 : decode cX3_bestRoom 10 = .ok (.istore_n 1, 1) := by decide +kernel
theorem dX3_bestRoom_11 : decode cX3_bestRoom 11 = .ok (.iconst 2, 1) := by decide +kernel
theorem dX3_bestRoom_12 : decode cX3_bestRoom 12 = .ok (.istore_n 2, 1) := by decide +kernel
theorem dX3_bestRoom_13 : decode cX3_bestRoom 13 = .ok (.iload_n 2, 1) := by decide +kernel
theorem dX3_bestRoom_14 : decode cX3_bestRoom 14 = .ok (.bipush 6, 2) := by decide +kernel
theorem dX3_bestRoom_16 : decode cX3_bestRoom 16 = .ok (.if_icmp .gt 24, 3) := by decide +kernel
theorem dX3_bestRoom_19 : decode cX3_bestRoom 19 = .ok (.aload_n 0, 1) := by decide +kernel
theorem dX3_bestRoom_20 : decode cX3_bestRoom 20 = .ok (.iload_n 2, 1) := by decide +kernel
theorem dX3_bestRoom_21 : decode cX3_bestRoom 21 = .ok (.invokevirtual 61, 3) := by decide +kernel
theorem dX3_bestRoom_24 : decode cX3_bestRoom 24 = .ok (.aload_n 0, 1) := by decide +kernel
theorem dX3_bestRoom_25 : decode cX3_bestRoom 25 = .ok (.iload_n 1, 1) := by decide +kernel
theorem dX3_bestRoom_26 : decode cX3_bestRoom 26 = .ok (.invokevirtual 61, 3) := by decide +kernel
theorem dX3_bestRoom_29 : decode cX3_bestRoom 29 = .ok (.if_icmp .ge 5, 3) := by decide +kernel
theorem dX3_bestRoom_32 : decode cX3_bestRoom 32 = .ok (.iload_n 2, 1) := by decide +kernel
theorem dX3_bestRoom_33 : decode cX3_bestRoom 33 = .ok (.istore_n 1, 1) := by decide +kernel
theorem dX3_bestRoom_34 : decode cX3_bestRoom 34 = .ok (.iinc 2 1, 3) := by decide +kernel
theorem dX3_bestRoom_37 : decode cX3_bestRoom 37 = .ok (.goto (-24), 3) := by decide +kernel
theorem dX3_bestRoom_40 : decode cX3_bestRoom 40 = .ok (.iload_n 1, 1) := by decide +kernel
theorem dX3_bestRoom_41 : decode cX3_bestRoom 41 = .ok (.ireturn, 1) := by decide +kernel
theorem dX3_leftAtWorst_0 : decode cX3_leftAtWorst 0 = .ok (.iconst 0, 1) := by decide +kernel
theorem dX3_leftAtWorst_1 : decode cX3_leftAtWorst 1 = .ok (.istore_n 2, 1) := by decide +kernel
theorem dX3_leftAtWorst_2 : decode cX3_leftAtWorst 2 = .ok (.iconst 1, 1) := by decide +kernel
theorem dX3_leftAtWorst_3 : decode cX3_leftAtWorst 3 = .ok (.istore_n 3, 1) := by decide +kernel
theorem dX3_leftAtWorst_4 : decode cX3_leftAtWorst 4 = .ok (.iload_n 3, 1) := by decide +kernel
theorem dX3_leftAtWorst_5 : decode cX3_leftAtWorst 5 = .ok (.bipush 9, 2) := by decide +kernel
theorem dX3_leftAtWorst_7 : decode cX3_leftAtWorst 7 = .ok (.if_icmp .gt 35, 3) := by decide +kernel
theorem dX3_leftAtWorst_10 : decode cX3_leftAtWorst 10 = .ok (.aload_n 0, 1) := by decide +kernel
theorem dX3_leftAtWorst_11 : decode cX3_leftAtWorst 11 = .ok (.getfield 15, 3) := by decide +kernel
theorem dX3_leftAtWorst_14 : decode cX3_leftAtWorst 14 = .ok (.iload_n 3, 1) := by decide +kernel
theorem dX3_leftAtWorst_15 : decode cX3_leftAtWorst 15 = .ok (.iconst 1, 1) := by decide +kernel
theorem dX3_leftAtWorst_16 : decode cX3_leftAtWorst 16 = .ok (.isub, 1) := by decide +kernel
theorem dX3_leftAtWorst_17 : decode cX3_leftAtWorst 17 = .ok (.invokestatic 64, 3) := by decide +kernel
theorem dX3_leftAtWorst_20 : decode cX3_leftAtWorst 20 = .ok (.ifCond .eq 16, 3) := by decide +kernel
theorem dX3_leftAtWorst_23 : decode cX3_leftAtWorst 23 = .ok (.aload_n 0, 1) := by decide +kernel
theorem dX3_leftAtWorst_24 : decode cX3_leftAtWorst 24 = .ok (.getfield 9, 3) := by decide +kernel
theorem dX3_leftAtWorst_27 : decode cX3_leftAtWorst 27 = .ok (.iload_n 3, 1) := by decide +kernel
theorem dX3_leftAtWorst_28 : decode cX3_leftAtWorst 28 = .ok (.iaload, 1) := by decide +kernel
theorem dX3_leftAtWorst_29 : decode cX3_leftAtWorst 29 = .ok (.iload_n 1, 1) := by decide +kernel
theorem dX3_leftAtWorst_30 : decode cX3_leftAtWorst 30 = .ok (.if_icmp .ge 6, 3) := by decide +kernel
theorem dX3_leftAtWorst_33 : decode cX3_leftAtWorst 33 = .ok (.iinc 2 1, 3) := by decide +kernel
theorem dX3_leftAtWorst_36 : decode cX3_leftAtWorst 36 = .ok (.iinc 3 1, 3) := by decide +kernel
theorem dX3_leftAtWorst_39 : decode cX3_leftAtWorst 39 = .ok (.goto (-35), 3) := by decide +kernel
theorem dX3_leftAtWorst_42 : decode cX3_leftAtWorst 42 = .ok (.iload_n 2, 1) := by decide +kernel
theorem dX3_leftAtWorst_43 : decode cX3_leftAtWorst 43 = .ok (.aload_n 0, 1) := by decide +kernel
theorem dX3_leftAtWorst_44 : decode cX3_leftAtWorst 44 = .ok (.getfield 15, 3) := by decide +kernel
theorem dX3_leftAtWorst_47 : decode cX3_leftAtWorst 47 = .ok (.invokestatic 68, 3) := by decide +kernel
theorem dX3_leftAtWorst_50 : decode cX3_leftAtWorst 50 = .ok (.iload_n 2, 1) := by decide +kernel
theorem dX3_leftAtWorst_51 : decode cX3_leftAtWorst 51 = .ok (.isub, 1) := by decide +kernel
theorem dX3_leftAtWorst_52 : decode cX3_leftAtWorst 52 = .ok (.invokestatic 73, 3) := by decide +kernel
theorem dX3_leftAtWorst_55 : decode cX3_leftAtWorst 55 = .ok (.ireturn, 1) := by decide +kernel
theorem dX4_init_0 : decode cX4_init 0 = .ok (.aload_n 0, 1) := by decide +kernel
theorem dX4_init_1 : decode cX4_init 1 = .ok (.invokespecial 3, 3) := by decide +kernel
theorem dX4_init_4 : decode cX4_init 4 = .ok (.aload_n 0, 1) := by decide +kernel
theorem dX4_init_5 : decode cX4_init 5 = .ok (.bipush 6, 2) := by decide +kernel
theorem dX4_init_7 : decode cX4_init 7 = .ok (.newarray .int, 2) := by decide +kernel
theorem dX4_init_9 : decode cX4_init 9 = .ok (.putfield 9, 3) := by decide +kernel
theorem dX4_init_12 : decode cX4_init 12 = .ok (.aload_n 0, 1) := by decide +kernel
theorem dX4_init_13 : decode cX4_init 13 = .ok (.iconst 0, 1) := by decide +kernel
theorem dX4_init_14 : decode cX4_init 14 = .ok (.putfield 15, 3) := by decide +kernel
theorem dX4_init_17 : decode cX4_init 17 = .ok (.return_, 1) := by decide +kernel
theorem dX4_fill_0 : decode cX4_fill 0 = .ok (.aload_n 0, 1) := by decide +kernel
theorem dX4_fill_1 : decode cX4_fill 1 = .ok (.aload_n 1, 1) := by decide +kernel
theorem dX4_fill_2 : decode cX4_fill 2 = .ok (.getfield 19, 3) := by decide +kernel
theorem dX4_fill_5 : decode cX4_fill 5 = .ok (.putfield 15, 3) := by decide +kernel
theorem dX4_fill_8 : decode cX4_fill 8 = .ok (.iconst 0, 1) := by decide +kernel
theorem dX4_fill_9 : decode cX4_fill 9 = .ok (.istore_n 3, 1) := by decide +kernel
theorem dX4_fill_10 : decode cX4_fill 10 = .ok (.iload_n 3, 1) := by decide +kernel
theorem dX4_fill_11 : decode cX4_fill 11 = .ok (.aload_n 0, 1) := by decide +kernel
theorem dX4_fill_12 : decode cX4_fill 12 = .ok (.getfield 15, 3) := by decide +kernel
theorem dX4_fill_15 : decode cX4_fill 15 = .ok (.if_icmp .ge 16, 3) := by decide +kernel
theorem dX4_fill_18 : decode cX4_fill 18 = .ok (.aload_n 0, 1) := by decide +kernel
theorem dX4_fill_19 : decode cX4_fill 19 = .ok (.getfield 9, 3) := by decide +kernel
theorem dX4_fill_22 : decode cX4_fill 22 = .ok (.iload_n 3, 1) := by decide +kernel
theorem dX4_fill_23 : decode cX4_fill 23 = .ok (.iconst 0, 1) := by decide +kernel
theorem dX4_fill_24 : decode cX4_fill 24 = .ok (.iastore, 1) := by decide +kernel
theorem dX4_fill_25 : decode cX4_fill 25 = .ok (.iinc 3 1, 3) := by decide +kernel
theorem dX4_fill_28 : decode cX4_fill 28 = .ok (.goto (-18), 3) := by decide +kernel
theorem dX4_fill_31 : decode cX4_fill 31 = .ok (.iconst 0, 1) := by decide +kernel
theorem dX4_fill_32 : decode cX4_fill 32 = .ok (.istore_n 3, 1) := by decide +kernel
theorem dX4_fill_33 : decode cX4_fill 33 = .ok (.iload_n 3, 1) := by decide +kernel
theorem dX4_fill_34 : decode cX4_fill 34 = .ok (.aload_n 1, 1) := by decide +kernel
theorem dX4_fill_35 : decode cX4_fill 35 = .ok (.getfield 22, 3) := by decide +kernel
theorem dX4_fill_38 : decode cX4_fill 38 = .ok (.if_icmp .ge 39, 3) := by decide +kernel
theorem dX4_fill_41 : decode cX4_fill 41 = .ok (.iload_n 2, 1) := by decide +kernel
theorem dX4_fill_42 : decode cX4_fill 42 = .ok (.iload_n 3, 1) := by decide +kernel
theorem dX4_fill_43 : decode cX4_fill 43 = .ok (.invokestatic 25, 3) := by decide +kernel
theorem dX4_fill_46 : decode cX4_fill 46 = .ok (.ifCond .ne 25, 3) := by decide +kernel
theorem dX4_fill_49 : decode cX4_fill 49 = .ok (.aload_n 0, 1) := by decide +kernel
theorem dX4_fill_50 : decode cX4_fill 50 = .ok (.getfield 9, 3) := by decide +kernel
theorem dX4_fill_53 : decode cX4_fill 53 = .ok (.aload_n 1, 1) := by decide +kernel
theorem dX4_fill_54 : decode cX4_fill 54 = .ok (.getfield 29, 3) := by decide +kernel
theorem dX4_fill_57 : decode cX4_fill 57 = .ok (.iload_n 3, 1) := by decide +kernel
theorem dX4_fill_58 : decode cX4_fill 58 = .ok (.iaload, 1) := by decide +kernel
theorem dX4_fill_59 : decode cX4_fill 59 = .ok (.dup2, 1) := by decide +kernel
theorem dX4_fill_60 : decode cX4_fill 60 = .ok (.iaload, 1) := by decide +kernel
theorem dX4_fill_61 : decode cX4_fill 61 = .ok (.iconst 1, 1) := by decide +kernel
theorem dX4_fill_62 : decode cX4_fill 62 = .ok (.aload_n 1, 1) := by decide +kernel
theorem dX4_fill_63 : decode cX4_fill 63 = .ok (.getfield 32, 3) := by decide +kernel
theorem dX4_fill_66 : decode cX4_fill 66 = .ok (.iload_n 3, 1) := by decide +kernel
theorem dX4_fill_67 : decode cX4_fill 67 = .ok (.iaload, 1) := by decide +kernel
theorem dX4_fill_68 : decode cX4_fill 68 = .ok (.ishl, 1) := by decide +kernel
theorem dX4_fill_69 : decode cX4_fill 69 = .ok (.ior, 1) := by decide +kernel
theorem dX4_fill_70 : decode cX4_fill 70 = .ok (.iastore, 1) := by decide +kernel
theorem dX4_fill_71 : decode cX4_fill 71 = .ok (.iinc 3 1, 3) := by decide +kernel
theorem dX4_fill_74 : decode cX4_fill 74 = .ok (.goto (-41), 3) := by decide +kernel
theorem dX4_fill_77 : decode cX4_fill 77 = .ok (.return_, 1) := by decide +kernel
theorem dX4_fewest_0 : decode cX4_fewest 0 = .ok (.aload_n 0, 1) := by decide +kernel
theorem dX4_fewest_1 : decode cX4_fewest 1 = .ok (.getfield 9, 3) := by decide +kernel
theorem dX4_fewest_4 : decode cX4_fewest 4 = .ok (.iload_n 1, 1) := by decide +kernel
theorem dX4_fewest_5 : decode cX4_fewest 5 = .ok (.iaload, 1) := by decide +kernel
theorem dX4_fewest_6 : decode cX4_fewest 6 = .ok (.istore_n 3, 1) := by decide +kernel
theorem dX4_fewest_7 : decode cX4_fewest 7 = .ok (.iconst 1, 1) := by decide +kernel
theorem dX4_fewest_8 : decode cX4_fewest 8 = .ok (.istore 4, 2) := by decide +kernel
theorem dX4_fewest_10 : decode cX4_fewest 10 = .ok (.iload 4, 2) := by decide +kernel
theorem dX4_fewest_12 : decode cX4_fewest 12 = .ok (.aload_n 0, 1) := by decide +kernel
theorem dX4_fewest_13 : decode cX4_fewest 13 = .ok (.getfield 15, 3) := by decide +kernel
theorem dX4_fewest_16 : decode cX4_fewest 16 = .ok (.if_icmp .gt 26, 3) := by decide +kernel
theorem dX4_fewest_19 : decode cX4_fewest 19 = .ok (.iload_n 3, 1) := by decide +kernel
theorem dX4_fewest_20 : decode cX4_fewest 20 = .ok (.iload_n 2, 1) := by decide +kernel
theorem dX4_fewest_21 : decode cX4_fewest 21 = .ok (.invokestatic 25, 3) := by decide +kernel
theorem dX4_fewest_24 : decode cX4_fewest 24 = .ok (.ifCond .eq 6, 3) := by decide +kernel
theorem dX4_fewest_27 : decode cX4_fewest 27 = .ok (.iload 4, 2) := by decide +kernel
theorem dX4_fewest_29 : decode cX4_fewest 29 = .ok (.ireturn, 1) := by decide +kernel
theorem dX4_fewest_30 : decode cX4_fewest 30 = .ok (.aload_n 0, 1) := by decide +kernel
theorem dX4_fewest_31 : decode cX4_fewest 31 = .ok (.iload_n 3, 1) := by decide +kernel
theorem dX4_fewest_32 : decode cX4_fewest 32 = .ok (.invokevirtual 35, 3) := by decide +kernel
theorem dX4_fewest_35 : decode cX4_fewest 35 = .ok (.istore_n 3, 1) := by decide +kernel
theorem dX4_fewest_36 : decode cX4_fewest 36 = .ok (.iinc 4 1, 3) := by decide +kernel
theorem dX4_fewest_39 : decode cX4_fewest 39 = .ok (.goto (-29), 3) := by decide +kernel
theorem dX4_fewest_42 : decode cX4_fewest 42 = .ok (.iconst (-1), 1) := by decide +kernel
theorem dX4_fewest_43 : decode cX4_fewest 43 = .ok (.ireturn, 1) := by decide +kernel
theorem dX4_oneFurther_0 : decode cX4_oneFurther 0 = .ok (.iload_n 1, 1) := by decide +kernel
theorem dX4_oneFurther_1 : decode cX4_oneFurther 1 = .ok (.istore_n 2, 1) := by decide +kernel
theorem dX4_oneFurther_2 : decode cX4_oneFurther 2 = .ok (.iconst 0, 1) := by decide +kernel
theorem dX4_oneFurther_3 : decode cX4_oneFurther 3 = .ok (.istore_n 3, 1) := by decide +kernel
theorem dX4_oneFurther_4 : decode cX4_oneFurther 4 = .ok (.iload_n 3, 1) := by decide +kernel
theorem dX4_oneFurther_5 : decode cX4_oneFurther 5 = .ok (.aload_n 0, 1) := by decide +kernel
theorem dX4_oneFurther_6 : decode cX4_oneFurther 6 = .ok (.getfield 15, 3) := by decide +kernel
theorem dX4_oneFurther_9 : decode cX4_oneFurther 9 = .ok (.if_icmp .ge 26, 3) := by decide +kernel
theorem dX4_oneFurther_12 : decode cX4_oneFurther 12 = .ok (.iload_n 1, 1) := by decide +kernel
theorem dX4_oneFurther_13 : decode cX4_oneFurther 13 = .ok (.iload_n 3, 1) := by decide +kernel
theorem dX4_oneFurther_14 : decode cX4_oneFurther 14 = .ok (.invokestatic 25, 3) := by decide +kernel
theorem dX4_oneFurther_17 : decode cX4_oneFurther 17 = .ok (.ifCond .eq 12, 3) := by decide +kernel
theorem dX4_oneFurther_20 : decode cX4_oneFurther 20 = .ok (.iload_n 2, 1) := by decide +kernel
theorem dX4_oneFurther_21 : decode cX4_oneFurther 21 = .ok (.aload_n 0, 1) := by decide +kernel
theorem dX4_oneFurther_22 : decode cX4_oneFurther 22 = .ok (.getfield 9, 3) := by decide +kernel
theorem dX4_oneFurther_25 : decode cX4_oneFurther 25 = .ok (.iload_n 3, 1) := by decide +kernel
theorem dX4_oneFurther_26 : decode cX4_oneFurther 26 = .ok (.iaload, 1) := by decide +kernel
theorem dX4_oneFurther_27 : decode cX4_oneFurther 27 = .ok (.ior, 1) := by decide +kernel
theorem dX4_oneFurther_28 : decode cX4_oneFurther 28 = .ok (.istore_n 2, 1) := by decide +kernel
theorem dX4_oneFurther_29 : decode cX4_oneFurther 29 = .ok (.iinc 3 1, 3) := by decide +kernel
theorem dX4_oneFurther_32 : decode cX4_oneFurther 32 = .ok (.goto (-28), 3) := by decide +kernel
theorem dX4_oneFurther_35 : decode cX4_oneFurther 35 = .ok (.iload_n 2, 1) := by decide +kernel
theorem dX4_oneFurther_36 : decode cX4_oneFurther 36 = .ok (.ireturn, 1) := by decide +kernel
theorem dX4_shortestRing_0 : decode cX4_shortestRing 0 = .ok (.iconst (-1), 1) := by decide +kernel
theorem dX4_shortestRing_1 : decode cX4_shortestRing 1 = .ok (.istore_n 1, 1) := by decide +kernel
theorem dX4_shortestRing_2 : decode cX4_shortestRing 2 = .ok (.iconst 0, 1) := by decide +kernel
theorem dX4_shortestRing_3 : decode cX4_shortestRing 3 = .ok (.istore_n 2, 1) := by decide +kernel
theorem dX4_shortestRing_4 : decode cX4_shortestRing 4 = .ok (.iload_n 2, 1) := by decide +kernel
theorem dX4_shortestRing_5 : decode cX4_shortestRing 5 = .ok (.aload_n 0, 1) := by decide +kernel
theorem dX4_shortestRing_6 : decode cX4_shortestRing 6 = .ok (.getfield 15, 3) := by decide +kernel
theorem dX4_shortestRing_9 : decode cX4_shortestRing 9 = .ok (.if_icmp .ge 33, 3) := by decide +kernel
theorem dX4_shortestRing_12 : decode cX4_shortestRing 12 = .ok (.aload_n 0, 1) := by decide +kernel
theorem dX4_shortestRing_13 : decode cX4_shortestRing 13 = .ok (.iload_n 2, 1) := by decide +kernel
theorem dX4_shortestRing_14 : decode cX4_shortestRing 14 = .ok (.iload_n 2, 1) := by decide +kernel
theorem dX4_shortestRing_15 : decode cX4_shortestRing 15 = .ok (.invokevirtual 39, 3) := by decide +kernel
theorem dX4_shortestRing_18 : decode cX4_shortestRing 18 = .ok (.istore_n 3, 1) := by decide +kernel
theorem dX4_shortestRing_19 : decode cX4_shortestRing 19 = .ok (.iload_n 3, 1) := by decide +kernel
theorem dX4_shortestRing_20 : decode cX4_shortestRing 20 = .ok (.iconst (-1), 1) := by decide +kernel
theorem dX4_shortestRing_21 : decode cX4_shortestRing 21 = .ok (.if_icmp .eq 15, 3) := by decide +kernel
theorem dX4_shortestRing_24 : decode cX4_shortestRing 24 = .ok (.iload_n 1, 1) := by decide +kernel
theorem dX4_shortestRing_25 : decode cX4_shortestRing 25 = .ok (.iconst (-1), 1) := by decide +kernel
theorem dX4_shortestRing_26 : decode cX4_shortestRing 26 = .ok (.if_icmp .eq 8, 3) := by decide +kernel
theorem dX4_shortestRing_29 : decode cX4_shortestRing 29 = .ok (.iload_n 3, 1) := by decide +kernel
theorem dX4_shortestRing_30 : decode cX4_shortestRing 30 = .ok (.iload_n 1, 1) := by decide +kernel
theorem dX4_shortestRing_31 : decode cX4_shortestRing 31 = .ok (.if_icmp .ge 5, 3) := by decide +kernel
theorem dX4_shortestRing_34 : decode cX4_shortestRing 34 = .ok (.iload_n 3, 1) := by decide +kernel
theorem dX4_shortestRing_35 : decode cX4_shortestRing 35 = .ok (.istore_n 1, 1) := by decide +kernel
theorem dX4_shortestRing_36 : decode cX4_shortestRing 36 = .ok (.iinc 2 1, 3) := by decide +kernel
theorem dX4_shortestRing_39 : decode cX4_shortestRing 39 = .ok (.goto (-35), 3) := by decide +kernel
theorem dX4_shortestRing_42 : decode cX4_shortestRing 42 = .ok (.iload_n 1, 1) := by decide +kernel
theorem dX4_shortestRing_43 : decode cX4_shortestRing 43 = .ok (.ireturn, 1) := by decide +kernel
theorem dX4_fewestToForgive_0 : decode cX4_fewestToForgive 0 = .ok (.iconst 1, 1) := by decide +kernel
theorem dX4_fewestToForgive_1 : decode cX4_fewestToForgive 1 = .ok (.aload_n 1, 1) := by decide +kernel
theorem dX4_fewestToForgive_2 : decode cX4_fewestToForgive 2 = .ok (.getfield 22, 3) := by decide +kernel
theorem dX4_fewestToForgive_5 : decode cX4_fewestToForgive 5 = .ok (.ishl, 1) := by decide +kernel
theorem dX4_fewestToForgive_6 : decode cX4_fewestToForgive 6 = .ok (.iconst 1, 1) := by decide +kernel
theorem dX4_fewestToForgive_7 : decode cX4_fewestToForgive 7 = .ok (.isub, 1) := by decide +kernel
theorem dX4_fewestToForgive_8 : decode cX4_fewestToForgive 8 = .ok (.istore_n 2, 1) := by decide +kernel
theorem dX4_fewestToForgive_9 : decode cX4_fewestToForgive 9 = .ok (.iload_n 2, 1) := by decide +kernel
theorem dX4_fewestToForgive_10 : decode cX4_fewestToForgive 10 = .ok (.istore_n 3, 1) := by decide +kernel
theorem dX4_fewestToForgive_11 : decode cX4_fewestToForgive 11 = .ok (.bipush 9, 2) := by decide +kernel
theorem dX4_fewestToForgive_13 : decode cX4_fewestToForgive 13 = .ok (.istore 4, 2) := by decide +kernel
theorem dX4_fewestToForgive_15 : decode cX4_fewestToForgive 15 = .ok (.iconst 0, 1) := by decide +kernel
theorem dX4_fewestToForgive_16 : decode cX4_fewestToForgive 16 = .ok (.istore 5, 2) := by decide +kernel
theorem dX4_fewestToForgive_18 : decode cX4_fewestToForgive 18 = .ok (.iload 5, 2) := by decide +kernel
theorem dX4_fewestToForgive_20 : decode cX4_fewestToForgive 20 = .ok (.iload_n 2, 1) := by decide +kernel
theorem dX4_fewestToForgive_21 : decode cX4_fewestToForgive 21 = .ok (.if_icmp .gt 58, 3) := by decide +kernel
theorem dX4_fewestToForgive_24 : decode cX4_fewestToForgive 24 = .ok (.iload 5, 2) := by decide +kernel
theorem dX4_fewestToForgive_26 : decode cX4_fewestToForgive 26 = .ok (.aload_n 1, 1) := by decide +kernel
theorem dX4_fewestToForgive_27 : decode cX4_fewestToForgive 27 = .ok (.getfield 43, 3) := by decide +kernel
theorem dX4_fewestToForgive_30 : decode cX4_fewestToForgive 30 = .ok (.iand, 1) := by decide +kernel
theorem dX4_fewestToForgive_31 : decode cX4_fewestToForgive 31 = .ok (.ifCond .ne 42, 3) := by decide +kernel
theorem dX4_fewestToForgive_34 : decode cX4_fewestToForgive 34 = .ok (.iload 5, 2) := by decide +kernel
theorem dX4_fewestToForgive_36 : decode cX4_fewestToForgive 36 = .ok (.invokestatic 46, 3) := by decide +kernel
theorem dX4_fewestToForgive_39 : decode cX4_fewestToForgive 39 = .ok (.iload 4, 2) := by decide +kernel
theorem dX4_fewestToForgive_41 : decode cX4_fewestToForgive 41 = .ok (.if_icmp .ge 32, 3) := by decide +kernel
theorem dX4_fewestToForgive_44 : decode cX4_fewestToForgive 44 = .ok (.aload_n 0, 1) := by decide +kernel
theorem dX4_fewestToForgive_45 : decode cX4_fewestToForgive 45 = .ok (.aload_n 1, 1) := by decide +kernel
theorem dX4_fewestToForgive_46 : decode cX4_fewestToForgive 46 = .ok (.aload_n 1, 1) := by decide +kernel
theorem dX4_fewestToForgive_47 : decode cX4_fewestToForgive 47 = .ok (.getfield 43, 3) := by decide +kernel
theorem dX4_fewestToForgive_50 : decode cX4_fewestToForgive 50 = .ok (.iload 5, 2) := by decide +kernel
theorem dX4_fewestToForgive_52 : decode cX4_fewestToForgive 52 = .ok (.ior, 1) := by decide +kernel
theorem dX4_fewestToForgive_53 : decode cX4_fewestToForgive 53 = .ok (.invokevirtual 51, 3) := by decide +kernel
theorem dX4_fewestToForgive_56 : decode cX4_fewestToForgive 56 = .ok (.aload_n 0, 1) := by decide +kernel
theorem dX4_fewestToForgive_57 : decode cX4_fewestToForgive 57 = .ok (.invokevirtual 55, 3) := by decide +kernel
theorem dX4_fewestToForgive_60 : decode cX4_fewestToForgive 60 = .ok (.ifCond .ne 13, 3) := by decide +kernel
theorem dX4_fewestToForgive_63 : decode cX4_fewestToForgive 63 = .ok (.iload 5, 2) := by decide +kernel
theorem dX4_fewestToForgive_65 : decode cX4_fewestToForgive 65 = .ok (.istore_n 3, 1) := by decide +kernel
theorem dX4_fewestToForgive_66 : decode cX4_fewestToForgive 66 = .ok (.iload 5, 2) := by decide +kernel
theorem dX4_fewestToForgive_68 : decode cX4_fewestToForgive 68 = .ok (.invokestatic 46, 3) := by decide +kernel
theorem dX4_fewestToForgive_71 : decode cX4_fewestToForgive 71 = .ok (.istore 4, 2) := by decide +kernel
theorem dX4_fewestToForgive_73 : decode cX4_fewestToForgive 73 = .ok (.iinc 5 1, 3) := by decide +kernel
theorem dX4_fewestToForgive_76 : decode cX4_fewestToForgive 76 = .ok (.goto (-58), 3) := by decide +kernel
theorem dX4_fewestToForgive_79 : decode cX4_fewestToForgive 79 = .ok (.iload_n 3, 1) := by decide +kernel
theorem dX4_fewestToForgive_80 : decode cX4_fewestToForgive 80 = .ok (.ireturn, 1) := by decide +kernel
theorem dX4_hasRing_0 : decode cX4_hasRing 0 = .ok (.iconst 1, 1) := by decide +kernel
theorem dX4_hasRing_1 : decode cX4_hasRing 1 = .ok (.aload_n 0, 1) := by decide +kernel
theorem dX4_hasRing_2 : decode cX4_hasRing 2 = .ok (.getfield 15, 3) := by decide +kernel
theorem dX4_hasRing_5 : decode cX4_hasRing 5 = .ok (.ishl, 1) := by decide +kernel
theorem dX4_hasRing_6 : decode cX4_hasRing 6 = .ok (.iconst 1, 1) := by decide +kernel
theorem dX4_hasRing_7 : decode cX4_hasRing 7 = .ok (.isub, 1) := by decide +kernel
theorem dX4_hasRing_8 : decode cX4_hasRing 8 = .ok (.istore_n 1, 1) := by decide +kernel
theorem dX4_hasRing_9 : decode cX4_hasRing 9 = .ok (.iconst 0, 1) := by decide +kernel
theorem dX4_hasRing_10 : decode cX4_hasRing 10 = .ok (.istore_n 2, 1) := by decide +kernel
theorem dX4_hasRing_11 : decode cX4_hasRing 11 = .ok (.iload_n 2, 1) := by decide +kernel
theorem dX4_hasRing_12 : decode cX4_hasRing 12 = .ok (.aload_n 0, 1) := by decide +kernel
theorem dX4_hasRing_13 : decode cX4_hasRing 13 = .ok (.getfield 15, 3) := by decide +kernel
theorem dX4_hasRing_16 : decode cX4_hasRing 16 = .ok (.if_icmp .ge 44, 3) := by decide +kernel
theorem dX4_hasRing_19 : decode cX4_hasRing 19 = .ok (.iconst 0, 1) := by decide +kernel
theorem dX4_hasRing_20 : decode cX4_hasRing 20 = .ok (.istore_n 3, 1) := by decide +kernel
theorem dX4_hasRing_21 : decode cX4_hasRing 21 = .ok (.iload_n 3, 1) := by decide +kernel
theorem dX4_hasRing_22 : decode cX4_hasRing 22 = .ok (.aload_n 0, 1) := by decide +kernel
theorem dX4_hasRing_23 : decode cX4_hasRing 23 = .ok (.getfield 15, 3) := by decide +kernel
theorem dX4_hasRing_26 : decode cX4_hasRing 26 = .ok (.if_icmp .ge 28, 3) := by decide +kernel
theorem dX4_hasRing_29 : decode cX4_hasRing 29 = .ok (.aload_n 0, 1) := by decide +kernel
theorem dX4_hasRing_30 : decode cX4_hasRing 30 = .ok (.getfield 9, 3) := by decide +kernel
theorem dX4_hasRing_33 : decode cX4_hasRing 33 = .ok (.iload_n 3, 1) := by decide +kernel
theorem dX4_hasRing_34 : decode cX4_hasRing 34 = .ok (.iaload, 1) := by decide +kernel
theorem dX4_hasRing_35 : decode cX4_hasRing 35 = .ok (.iload_n 1, 1) := by decide +kernel
theorem dX4_hasRing_36 : decode cX4_hasRing 36 = .ok (.iand, 1) := by decide +kernel
theorem dX4_hasRing_37 : decode cX4_hasRing 37 = .ok (.ifCond .ne 11, 3) := by decide +kernel
theorem dX4_hasRing_40 : decode cX4_hasRing 40 = .ok (.iload_n 1, 1) := by decide +kernel
theorem dX4_hasRing_41 : decode cX4_hasRing 41 = .ok (.iconst 1, 1) := by decide +kernel
theorem dX4_hasRing_42 : decode cX4_hasRing 42 = .ok (.iload_n 3, 1) := by decide +kernel
theorem dX4_hasRing_43 : decode cX4_hasRing 43 = .ok (.ishl, 1) := by decide +kernel
theorem dX4_hasRing_44 : decode cX4_hasRing 44 = .ok (.iconst (-1), 1) := by decide +kernel
theorem dX4_hasRing_45 : decode cX4_hasRing 45 = .ok (.ixor, 1) := by decide +kernel
theorem dX4_hasRing_46 : decode cX4_hasRing 46 = .ok (.iand, 1) := by decide +kernel
theorem dX4_hasRing_47 : decode cX4_hasRing 47 = .ok (.istore_n 1, 1) := by decide +kernel
theorem dX4_hasRing_48 : decode cX4_hasRing 48 = .ok (.iinc 3 1, 3) := by decide +kernel
theorem dX4_hasRing_51 : decode cX4_hasRing 51 = .ok (.goto (-30), 3) := by decide +kernel
theorem dX4_hasRing_54 : decode cX4_hasRing 54 = .ok (.iinc 2 1, 3) := by decide +kernel
theorem dX4_hasRing_57 : decode cX4_hasRing 57 = .ok (.goto (-46), 3) := by decide +kernel
theorem dX4_hasRing_60 : decode cX4_hasRing 60 = .ok (.iload_n 1, 1) := by decide +kernel
theorem dX4_hasRing_61 : decode cX4_hasRing 61 = .ok (.ifCond .eq 7, 3) := by decide +kernel
theorem dX4_hasRing_64 : decode cX4_hasRing 64 = .ok (.iconst 1, 1) := by decide +kernel
theorem dX4_hasRing_65 : decode cX4_hasRing 65 = .ok (.goto 4, 3) := by decide +kernel
theorem dX4_hasRing_68 : decode cX4_hasRing 68 = .ok (.iconst 0, 1) := by decide +kernel
theorem dX4_hasRing_69 : decode cX4_hasRing 69 = .ok (.ireturn, 1) := by decide +kernel
theorem dX5_init_0 : decode cX5_init 0 = .ok (.aload_n 0, 1) := by decide +kernel
theorem dX5_init_1 : decode cX5_init 1 = .ok (.invokespecial 3, 3) := by decide +kernel
theorem dX5_init_4 : decode cX5_init 4 = .ok (.aload_n 0, 1) := by decide +kernel
theorem dX5_init_5 : decode cX5_init 5 = .ok (.iconst 2, 1) := by decide +kernel
theorem dX5_init_6 : decode cX5_init 6 = .ok (.bipush 6, 2) := by decide +kernel
theorem dX5_init_8 : decode cX5_init 8 = .ok (.multianewarray 9 2, 4) := by decide +kernel
theorem dX5_init_12 : decode cX5_init 12 = .ok (.putfield 11, 3) := by decide +kernel
theorem dX5_init_15 : decode cX5_init 15 = .ok (.aload_n 0, 1) := by decide +kernel
theorem dX5_init_16 : decode cX5_init 16 = .ok (.iconst 2, 1) := by decide +kernel
theorem dX5_init_17 : decode cX5_init 17 = .ok (.bipush 6, 2) := by decide +kernel
theorem dX5_init_19 : decode cX5_init 19 = .ok (.multianewarray 9 2, 4) := by decide +kernel
theorem dX5_init_23 : decode cX5_init 23 = .ok (.putfield 16, 3) := by decide +kernel
theorem dX5_init_26 : decode cX5_init 26 = .ok (.aload_n 0, 1) := by decide +kernel
theorem dX5_init_27 : decode cX5_init 27 = .ok (.iconst 0, 1) := by decide +kernel
theorem dX5_init_28 : decode cX5_init 28 = .ok (.putfield 19, 3) := by decide +kernel
theorem dX5_init_31 : decode cX5_init 31 = .ok (.aload_n 0, 1) := by decide +kernel
theorem dX5_init_32 : decode cX5_init 32 = .ok (.iconst 0, 1) := by decide +kernel
theorem dX5_init_33 : decode cX5_init 33 = .ok (.putfield 23, 3) := by decide +kernel
theorem dX5_init_36 : decode cX5_init 36 = .ok (.aload_n 0, 1) := by decide +kernel
theorem dX5_init_37 : decode cX5_init 37 = .ok (.iconst 0, 1) := by decide +kernel
theorem dX5_init_38 : decode cX5_init 38 = .ok (.putfield 26, 3) := by decide +kernel
theorem dX5_init_41 : decode cX5_init 41 = .ok (.return_, 1) := by decide +kernel
theorem dX5_choose_0 : decode cX5_choose 0 = .ok (.aload_n 0, 1) := by decide +kernel
theorem dX5_choose_1 : decode cX5_choose 1 = .ok (.aload_n 1, 1) := by decide +kernel
theorem dX5_choose_2 : decode cX5_choose 2 = .ok (.iload_n 2, 1) := by decide +kernel
theorem dX5_choose_3 : decode cX5_choose 3 = .ok (.iconst 0, 1) := by decide +kernel
theorem dX5_choose_4 : decode cX5_choose 4 = .ok (.invokevirtual 29, 3) := by decide +kernel
theorem dX5_choose_7 : decode cX5_choose 7 = .ok (.aload_n 0, 1) := by decide +kernel
theorem dX5_choose_8 : decode cX5_choose 8 = .ok (.aload_n 1, 1) := by decide +kernel
theorem dX5_choose_9 : decode cX5_choose 9 = .ok (.iload_n 2, 1) := by decide +kernel
theorem dX5_choose_10 : decode cX5_choose 10 = .ok (.iconst 1, 1) := by decide +kernel
theorem dX5_choose_11 : decode cX5_choose 11 = .ok (.invokevirtual 29, 3) := by decide +kernel
theorem dX5_choose_14 : decode cX5_choose 14 = .ok (.iconst 1, 1) := by decide +kernel
theorem dX5_choose_15 : decode cX5_choose 15 = .ok (.aload_n 1, 1) := by decide +kernel
theorem dX5_choose_16 : decode cX5_choose 16 = .ok (.getfield 33, 3) := by decide +kernel
theorem dX5_choose_19 : decode cX5_choose 19 = .ok (.ishl, 1) := by decide +kernel
theorem dX5_choose_20 : decode cX5_choose 20 = .ok (.iconst 1, 1) := by decide +kernel
theorem dX5_choose_21 : decode cX5_choose 21 = .ok (.isub, 1) := by decide +kernel
theorem dX5_choose_22 : decode cX5_choose 22 = .ok (.istore 4, 2) := by decide +kernel
theorem dX5_choose_24 : decode cX5_choose 24 = .ok (.iconst 0, 1) := by decide +kernel
theorem dX5_choose_25 : decode cX5_choose 25 = .ok (.istore 5, 2) := by decide +kernel
theorem dX5_choose_27 : decode cX5_choose 27 = .ok (.iload 5, 2) := by decide +kernel
theorem dX5_choose_29 : decode cX5_choose 29 = .ok (.iload 4, 2) := by decide +kernel
theorem dX5_choose_31 : decode cX5_choose 31 = .ok (.if_icmp .gt 39, 3) := by decide +kernel
theorem dX5_choose_34 : decode cX5_choose 34 = .ok (.aload_n 3, 1) := by decide +kernel
theorem dX5_choose_35 : decode cX5_choose 35 = .ok (.aload_n 1, 1) := by decide +kernel
theorem dX5_choose_36 : decode cX5_choose 36 = .ok (.iload 4, 2) := by decide +kernel
theorem dX5_choose_38 : decode cX5_choose 38 = .ok (.iload 5, 2) := by decide +kernel
theorem dX5_choose_40 : decode cX5_choose 40 = .ok (.iconst (-1), 1) := by decide +kernel
theorem dX5_choose_41 : decode cX5_choose 41 = .ok (.ixor, 1) := by decide +kernel
theorem dX5_choose_42 : decode cX5_choose 42 = .ok (.iand, 1) := by decide +kernel
theorem dX5_choose_43 : decode cX5_choose 43 = .ok (.invokevirtual 38, 3) := by decide +kernel
theorem dX5_choose_46 : decode cX5_choose 46 = .ok (.aload_n 0, 1) := by decide +kernel
theorem dX5_choose_47 : decode cX5_choose 47 = .ok (.aload_n 1, 1) := by decide +kernel
theorem dX5_choose_48 : decode cX5_choose 48 = .ok (.getfield 44, 3) := by decide +kernel
theorem dX5_choose_51 : decode cX5_choose 51 = .ok (.aload_n 3, 1) := by decide +kernel
theorem dX5_choose_52 : decode cX5_choose 52 = .ok (.aload_n 1, 1) := by decide +kernel
theorem dX5_choose_53 : decode cX5_choose 53 = .ok (.getfield 47, 3) := by decide +kernel
theorem dX5_choose_56 : decode cX5_choose 56 = .ok (.invokevirtual 50, 3) := by decide +kernel
theorem dX5_choose_59 : decode cX5_choose 59 = .ok (.iload 5, 2) := by decide +kernel
theorem dX5_choose_61 : decode cX5_choose 61 = .ok (.invokevirtual 54, 3) := by decide +kernel
theorem dX5_choose_64 : decode cX5_choose 64 = .ok (.iinc 5 1, 3) := by decide +kernel
theorem dX5_choose_67 : decode cX5_choose 67 = .ok (.goto (-40), 3) := by decide +kernel
theorem dX5_choose_70 : decode cX5_choose 70 = .ok (.return_, 1) := by decide +kernel
theorem dX5_lookAhead_0 : decode cX5_lookAhead 0 = .ok (.iconst 0, 1) := by decide +kernel
theorem dX5_lookAhead_1 : decode cX5_lookAhead 1 = .ok (.istore 4, 2) := by decide +kernel
theorem dX5_lookAhead_3 : decode cX5_lookAhead 3 = .ok (.iload 4, 2) := by decide +kernel
theorem dX5_lookAhead_5 : decode cX5_lookAhead 5 = .ok (.aload_n 1, 1) := by decide +kernel
theorem dX5_lookAhead_6 : decode cX5_lookAhead 6 = .ok (.getfield 44, 3) := by decide +kernel
theorem dX5_lookAhead_9 : decode cX5_lookAhead 9 = .ok (.if_icmp .ge 83, 3) := by decide +kernel
theorem dX5_lookAhead_12 : decode cX5_lookAhead 12 = .ok (.aload_n 1, 1) := by decide +kernel
theorem dX5_lookAhead_13 : decode cX5_lookAhead 13 = .ok (.getfield 58, 3) := by decide +kernel
theorem dX5_lookAhead_16 : decode cX5_lookAhead 16 = .ok (.iload 4, 2) := by decide +kernel
theorem dX5_lookAhead_18 : decode cX5_lookAhead 18 = .ok (.iaload, 1) := by decide +kernel
theorem dX5_lookAhead_19 : decode cX5_lookAhead 19 = .ok (.istore 5, 2) := by decide +kernel
theorem dX5_lookAhead_21 : decode cX5_lookAhead 21 = .ok (.iconst 0, 1) := by decide +kernel
theorem dX5_lookAhead_22 : decode cX5_lookAhead 22 = .ok (.istore 6, 2) := by decide +kernel
theorem dX5_lookAhead_24 : decode cX5_lookAhead 24 = .ok (.iconst 0, 1) := by decide +kernel
theorem dX5_lookAhead_25 : decode cX5_lookAhead 25 = .ok (.istore 7, 2) := by decide +kernel
theorem dX5_lookAhead_27 : decode cX5_lookAhead 27 = .ok (.iload 7, 2) := by decide +kernel
theorem dX5_lookAhead_29 : decode cX5_lookAhead 29 = .ok (.iload_n 2, 1) := by decide +kernel
theorem dX5_lookAhead_30 : decode cX5_lookAhead 30 = .ok (.if_icmp .ge 34, 3) := by decide +kernel
theorem dX5_lookAhead_33 : decode cX5_lookAhead 33 = .ok (.iload 5, 2) := by decide +kernel
theorem dX5_lookAhead_35 : decode cX5_lookAhead 35 = .ok (.iload_n 3, 1) := by decide +kernel
theorem dX5_lookAhead_36 : decode cX5_lookAhead 36 = .ok (.iconst 1, 1) := by decide +kernel
theorem dX5_lookAhead_37 : decode cX5_lookAhead 37 = .ok (.if_icmp .ne 7, 3) := by decide +kernel
theorem dX5_lookAhead_40 : decode cX5_lookAhead 40 = .ok (.iconst 1, 1) := by decide +kernel
theorem dX5_lookAhead_41 : decode cX5_lookAhead 41 = .ok (.goto 4, 3) := by decide +kernel
theorem dX5_lookAhead_44 : decode cX5_lookAhead 44 = .ok (.iconst 0, 1) := by decide +kernel
theorem dX5_lookAhead_45 : decode cX5_lookAhead 45 = .ok (.invokestatic 62, 3) := by decide +kernel
theorem dX5_lookAhead_48 : decode cX5_lookAhead 48 = .ok (.istore 5, 2) := by decide +kernel
theorem dX5_lookAhead_50 : decode cX5_lookAhead 50 = .ok (.iload 5, 2) := by decide +kernel
theorem dX5_lookAhead_52 : decode cX5_lookAhead 52 = .ok (.ifCond .ne 6, 3) := by decide +kernel
theorem dX5_lookAhead_55 : decode cX5_lookAhead 55 = .ok (.iinc 6 1, 3) := by decide +kernel
theorem dX5_lookAhead_58 : decode cX5_lookAhead 58 = .ok (.iinc 7 1, 3) := by decide +kernel
theorem dX5_lookAhead_61 : decode cX5_lookAhead 61 = .ok (.goto (-34), 3) := by decide +kernel
theorem dX5_lookAhead_64 : decode cX5_lookAhead 64 = .ok (.aload_n 0, 1) := by decide +kernel
theorem dX5_lookAhead_65 : decode cX5_lookAhead 65 = .ok (.getfield 11, 3) := by decide +kernel
theorem dX5_lookAhead_68 : decode cX5_lookAhead 68 = .ok (.iload_n 3, 1) := by decide +kernel
theorem dX5_lookAhead_69 : decode cX5_lookAhead 69 = .ok (.aaload, 1) := by decide +kernel
theorem dX5_lookAhead_70 : decode cX5_lookAhead 70 = .ok (.iload 4, 2) := by decide +kernel
theorem dX5_lookAhead_72 : decode cX5_lookAhead 72 = .ok (.iload 6, 2) := by decide +kernel
theorem dX5_lookAhead_74 : decode cX5_lookAhead 74 = .ok (.iastore, 1) := by decide +kernel
theorem dX5_lookAhead_75 : decode cX5_lookAhead 75 = .ok (.aload_n 0, 1) := by decide +kernel
theorem dX5_lookAhead_76 : decode cX5_lookAhead 76 = .ok (.getfield 16, 3) := by decide +kernel
theorem dX5_lookAhead_79 : decode cX5_lookAhead 79 = .ok (.iload_n 3, 1) := by decide +kernel
theorem dX5_lookAhead_80 : decode cX5_lookAhead 80 = .ok (.aaload, 1) := by decide +kernel
theorem dX5_lookAhead_81 : decode cX5_lookAhead 81 = .ok (.iload 4, 2) := by decide +kernel
theorem dX5_lookAhead_83 : decode cX5_lookAhead 83 = .ok (.iload 5, 2) := by decide +kernel
theorem dX5_lookAhead_85 : decode cX5_lookAhead 85 = .ok (.iastore, 1) := by decide +kernel
theorem dX5_lookAhead_86 : decode cX5_lookAhead 86 = .ok (.iinc 4 1, 3) := by decide +kernel
theorem dX5_lookAhead_89 : decode cX5_lookAhead 89 = .ok (.goto (-86), 3) := by decide +kernel
theorem dX5_lookAhead_92 : decode cX5_lookAhead 92 = .ok (.return_, 1) := by decide +kernel
theorem dX5_weigh_0 : decode cX5_weigh 0 = .ok (.iconst 0, 1) := by decide +kernel
theorem dX5_weigh_1 : decode cX5_weigh 1 = .ok (.istore 4, 2) := by decide +kernel
theorem dX5_weigh_3 : decode cX5_weigh 3 = .ok (.bipush 20, 2) := by decide +kernel
theorem dX5_weigh_5 : decode cX5_weigh 5 = .ok (.istore 5, 2) := by decide +kernel
theorem dX5_weigh_7 : decode cX5_weigh 7 = .ok (.iconst 0, 1) := by decide +kernel
theorem dX5_weigh_8 : decode cX5_weigh 8 = .ok (.istore 6, 2) := by decide +kernel
theorem dX5_weigh_10 : decode cX5_weigh 10 = .ok (.iload 6, 2) := by decide +kernel
theorem dX5_weigh_12 : decode cX5_weigh 12 = .ok (.iload_n 1, 1) := by decide +kernel
theorem dX5_weigh_13 : decode cX5_weigh 13 = .ok (.if_icmp .ge 57, 3) := by decide +kernel
theorem dX5_weigh_16 : decode cX5_weigh 16 = .ok (.iload_n 2, 1) := by decide +kernel
theorem dX5_weigh_17 : decode cX5_weigh 17 = .ok (.iload 6, 2) := by decide +kernel
theorem dX5_weigh_19 : decode cX5_weigh 19 = .ok (.invokestatic 66, 3) := by decide +kernel
theorem dX5_weigh_22 : decode cX5_weigh 22 = .ok (.ifCond .eq 7, 3) := by decide +kernel
theorem dX5_weigh_25 : decode cX5_weigh 25 = .ok (.iconst 1, 1) := by decide +kernel
theorem dX5_weigh_26 : decode cX5_weigh 26 = .ok (.goto 4, 3) := by decide +kernel
theorem dX5_weigh_29 : decode cX5_weigh 29 = .ok (.iconst 0, 1) := by decide +kernel
theorem dX5_weigh_30 : decode cX5_weigh 30 = .ok (.istore 7, 2) := by decide +kernel
theorem dX5_weigh_32 : decode cX5_weigh 32 = .ok (.iload 4, 2) := by decide +kernel
theorem dX5_weigh_34 : decode cX5_weigh 34 = .ok (.aload_n 0, 1) := by decide +kernel
theorem dX5_weigh_35 : decode cX5_weigh 35 = .ok (.getfield 11, 3) := by decide +kernel
theorem dX5_weigh_38 : decode cX5_weigh 38 = .ok (.iload 7, 2) := by decide +kernel
theorem dX5_weigh_40 : decode cX5_weigh 40 = .ok (.aaload, 1) := by decide +kernel
theorem dX5_weigh_41 : decode cX5_weigh 41 = .ok (.iload 6, 2) := by decide +kernel
theorem dX5_weigh_43 : decode cX5_weigh 43 = .ok (.iaload, 1) := by decide +kernel
theorem dX5_weigh_44 : decode cX5_weigh 44 = .ok (.iadd, 1) := by decide +kernel
theorem dX5_weigh_45 : decode cX5_weigh 45 = .ok (.istore 4, 2) := by decide +kernel
theorem dX5_weigh_47 : decode cX5_weigh 47 = .ok (.iload 5, 2) := by decide +kernel
theorem dX5_weigh_49 : decode cX5_weigh 49 = .ok (.aload_n 0, 1) := by decide +kernel
theorem dX5_weigh_50 : decode cX5_weigh 50 = .ok (.getfield 16, 3) := by decide +kernel
theorem dX5_weigh_53 : decode cX5_weigh 53 = .ok (.iload 7, 2) := by decide +kernel
theorem dX5_weigh_55 : decode cX5_weigh 55 = .ok (.aaload, 1) := by decide +kernel
theorem dX5_weigh_56 : decode cX5_weigh 56 = .ok (.iload 6, 2) := by decide +kernel
theorem dX5_weigh_58 : decode cX5_weigh 58 = .ok (.iaload, 1) := by decide +kernel
theorem dX5_weigh_59 : decode cX5_weigh 59 = .ok (.invokestatic 70, 3) := by decide +kernel
theorem dX5_weigh_62 : decode cX5_weigh 62 = .ok (.istore 5, 2) := by decide +kernel
theorem dX5_weigh_64 : decode cX5_weigh 64 = .ok (.iinc 6 1, 3) := by decide +kernel
theorem dX5_weigh_67 : decode cX5_weigh 67 = .ok (.goto (-57), 3) := by decide +kernel
theorem dX5_weigh_70 : decode cX5_weigh 70 = .ok (.iload_n 3, 1) := by decide +kernel
theorem dX5_weigh_71 : decode cX5_weigh 71 = .ok (.ifCond .eq 15, 3) := by decide +kernel
theorem dX5_weigh_74 : decode cX5_weigh 74 = .ok (.aload_n 0, 1) := by decide +kernel
theorem dX5_weigh_75 : decode cX5_weigh 75 = .ok (.iload 4, 2) := by decide +kernel
theorem dX5_weigh_77 : decode cX5_weigh 77 = .ok (.iload 5, 2) := by decide +kernel
theorem dX5_weigh_79 : decode cX5_weigh 79 = .ok (.iload_n 3, 1) := by decide +kernel
theorem dX5_weigh_80 : decode cX5_weigh 80 = .ok (.invokevirtual 76, 3) := by decide +kernel
theorem dX5_weigh_83 : decode cX5_weigh 83 = .ok (.ifCond .eq 20, 3) := by decide +kernel
theorem dX5_weigh_86 : decode cX5_weigh 86 = .ok (.aload_n 0, 1) := by decide +kernel
theorem dX5_weigh_87 : decode cX5_weigh 87 = .ok (.iload 4, 2) := by decide +kernel
theorem dX5_weigh_89 : decode cX5_weigh 89 = .ok (.putfield 19, 3) := by decide +kernel
theorem dX5_weigh_92 : decode cX5_weigh 92 = .ok (.aload_n 0, 1) := by decide +kernel
theorem dX5_weigh_93 : decode cX5_weigh 93 = .ok (.iload 5, 2) := by decide +kernel
theorem dX5_weigh_95 : decode cX5_weigh 95 = .ok (.putfield 23, 3) := by decide +kernel
theorem dX5_weigh_98 : decode cX5_weigh 98 = .ok (.aload_n 0, 1) := by decide +kernel
theorem dX5_weigh_99 : decode cX5_weigh 99 = .ok (.iload_n 3, 1) := by decide +kernel
theorem dX5_weigh_100 : decode cX5_weigh 100 = .ok (.putfield 26, 3) := by decide +kernel
theorem dX5_weigh_103 : decode cX5_weigh 103 = .ok (.return_, 1) := by decide +kernel
theorem dX5_isBetter_0 : decode cX5_isBetter 0 = .ok (.iload_n 1, 1) := by decide +kernel
theorem dX5_isBetter_1 : decode cX5_isBetter 1 = .ok (.aload_n 0, 1) := by decide +kernel
theorem dX5_isBetter_2 : decode cX5_isBetter 2 = .ok (.getfield 19, 3) := by decide +kernel
theorem dX5_isBetter_5 : decode cX5_isBetter 5 = .ok (.if_icmp .eq 17, 3) := by decide +kernel
theorem dX5_isBetter_8 : decode cX5_isBetter 8 = .ok (.iload_n 1, 1) := by decide +kernel
theorem dX5_isBetter_9 : decode cX5_isBetter 9 = .ok (.aload_n 0, 1) := by decide +kernel
theorem dX5_isBetter_10 : decode cX5_isBetter 10 = .ok (.getfield 19, 3) := by decide +kernel
theorem dX5_isBetter_13 : decode cX5_isBetter 13 = .ok (.if_icmp .ge 7, 3) := by decide +kernel
theorem dX5_isBetter_16 : decode cX5_isBetter 16 = .ok (.iconst 1, 1) := by decide +kernel
theorem dX5_isBetter_17 : decode cX5_isBetter 17 = .ok (.goto 4, 3) := by decide +kernel
theorem dX5_isBetter_20 : decode cX5_isBetter 20 = .ok (.iconst 0, 1) := by decide +kernel
theorem dX5_isBetter_21 : decode cX5_isBetter 21 = .ok (.ireturn, 1) := by decide +kernel
theorem dX5_isBetter_22 : decode cX5_isBetter 22 = .ok (.iload_n 2, 1) := by decide +kernel
theorem dX5_isBetter_23 : decode cX5_isBetter 23 = .ok (.aload_n 0, 1) := by decide +kernel
theorem dX5_isBetter_24 : decode cX5_isBetter 24 = .ok (.getfield 23, 3) := by decide +kernel
theorem dX5_isBetter_27 : decode cX5_isBetter 27 = .ok (.if_icmp .eq 17, 3) := by decide +kernel
theorem dX5_isBetter_30 : decode cX5_isBetter 30 = .ok (.iload_n 2, 1) := by decide +kernel
theorem dX5_isBetter_31 : decode cX5_isBetter 31 = .ok (.aload_n 0, 1) := by decide +kernel
theorem dX5_isBetter_32 : decode cX5_isBetter 32 = .ok (.getfield 23, 3) := by decide +kernel
theorem dX5_isBetter_35 : decode cX5_isBetter 35 = .ok (.if_icmp .le 7, 3) := by decide +kernel
theorem dX5_isBetter_38 : decode cX5_isBetter 38 = .ok (.iconst 1, 1) := by decide +kernel
theorem dX5_isBetter_39 : decode cX5_isBetter 39 = .ok (.goto 4, 3) := by decide +kernel
theorem dX5_isBetter_42 : decode cX5_isBetter 42 = .ok (.iconst 0, 1) := by decide +kernel
theorem dX5_isBetter_43 : decode cX5_isBetter 43 = .ok (.ireturn, 1) := by decide +kernel
theorem dX5_isBetter_44 : decode cX5_isBetter 44 = .ok (.iload_n 3, 1) := by decide +kernel
theorem dX5_isBetter_45 : decode cX5_isBetter 45 = .ok (.invokestatic 80, 3) := by decide +kernel
theorem dX5_isBetter_48 : decode cX5_isBetter 48 = .ok (.aload_n 0, 1) := by decide +kernel
theorem dX5_isBetter_49 : decode cX5_isBetter 49 = .ok (.getfield 26, 3) := by decide +kernel
theorem dX5_isBetter_52 : decode cX5_isBetter 52 = .ok (.invokestatic 80, 3) := by decide +kernel
theorem dX5_isBetter_55 : decode cX5_isBetter 55 = .ok (.if_icmp .ge 7, 3) := by decide +kernel
theorem dX5_isBetter_58 : decode cX5_isBetter 58 = .ok (.iconst 1, 1) := by decide +kernel
theorem dX5_isBetter_59 : decode cX5_isBetter 59 = .ok (.goto 4, 3) := by decide +kernel
theorem dX5_isBetter_62 : decode cX5_isBetter 62 = .ok (.iconst 0, 1) := by decide +kernel
theorem dX5_isBetter_63 : decode cX5_isBetter 63 = .ok (.ireturn, 1) := by decide +kernel
theorem dX6_init_0 : decode cX6_init 0 = .ok (.aload_n 0, 1) := by decide +kernel
theorem dX6_init_1 : decode cX6_init 1 = .ok (.invokespecial 3, 3) := by decide +kernel
theorem dX6_init_4 : decode cX6_init 4 = .ok (.aload_n 0, 1) := by decide +kernel
theorem dX6_init_5 : decode cX6_init 5 = .ok (.bipush 54, 2) := by decide +kernel
theorem dX6_init_7 : decode cX6_init 7 = .ok (.newarray .int, 2) := by decide +kernel
theorem dX6_init_9 : decode cX6_init 9 = .ok (.putfield 9, 3) := by decide +kernel
theorem dX6_init_12 : decode cX6_init 12 = .ok (.aload_n 0, 1) := by decide +kernel
theorem dX6_init_13 : decode cX6_init 13 = .ok (.iconst 0, 1) := by decide +kernel
theorem dX6_init_14 : decode cX6_init 14 = .ok (.putfield 15, 3) := by decide +kernel
theorem dX6_init_17 : decode cX6_init 17 = .ok (.return_, 1) := by decide +kernel
theorem dX6_add_0 : decode cX6_add 0 = .ok (.aload_n 0, 1) := by decide +kernel
theorem dX6_add_1 : decode cX6_add 1 = .ok (.getfield 15, 3) := by decide +kernel
theorem dX6_add_4 : decode cX6_add 4 = .ok (.aload_n 0, 1) := by decide +kernel
theorem dX6_add_5 : decode cX6_add 5 = .ok (.getfield 9, 3) := by decide +kernel
theorem dX6_add_8 : decode cX6_add 8 = .ok (.arraylength, 1) := by decide +kernel
theorem dX6_add_9 : decode cX6_add 9 = .ok (.if_icmp .ge 23, 3) := by decide +kernel
theorem dX6_add_12 : decode cX6_add 12 = .ok (.aload_n 0, 1) := by decide +kernel
theorem dX6_add_13 : decode cX6_add 13 = .ok (.getfield 9, 3) := by decide +kernel
theorem dX6_add_16 : decode cX6_add 16 = .ok (.aload_n 0, 1) := by decide +kernel
theorem dX6_add_17 : decode cX6_add 17 = .ok (.getfield 15, 3) := by decide +kernel
theorem dX6_add_20 : decode cX6_add 20 = .ok (.iload_n 1, 1) := by decide +kernel
theorem dX6_add_21 : decode cX6_add 21 = .ok (.iastore, 1) := by decide +kernel
theorem dX6_add_22 : decode cX6_add 22 = .ok (.aload_n 0, 1) := by decide +kernel
theorem dX6_add_23 : decode cX6_add 23 = .ok (.dup, 1) := by decide +kernel
theorem dX6_add_24 : decode cX6_add 24 = .ok (.getfield 15, 3) := by decide +kernel
theorem dX6_add_27 : decode cX6_add 27 = .ok (.iconst 1, 1) := by decide +kernel
theorem dX6_add_28 : decode cX6_add 28 = .ok (.iadd, 1) := by decide +kernel
theorem dX6_add_29 : decode cX6_add 29 = .ok (.putfield 15, 3) := by decide +kernel
theorem dX6_add_32 : decode cX6_add 32 = .ok (.return_, 1) := by decide +kernel
theorem dX7_init_0 : decode cX7_init 0 = .ok (.aload_n 0, 1) := by decide +kernel
theorem dX7_init_1 : decode cX7_init 1 = .ok (.invokespecial 3, 3) := by decide +kernel
theorem dX7_init_4 : decode cX7_init 4 = .ok (.aload_n 0, 1) := by decide +kernel
theorem dX7_init_5 : decode cX7_init 5 = .ok (.new 9, 3) := by decide +kernel
theorem dX7_init_8 : decode cX7_init 8 = .ok (.dup, 1) := by decide +kernel
theorem dX7_init_9 : decode cX7_init 9 = .ok (.invokespecial 11, 3) := by decide +kernel
theorem dX7_init_12 : decode cX7_init 12 = .ok (.putfield 12, 3) := by decide +kernel
theorem dX7_init_15 : decode cX7_init 15 = .ok (.aload_n 0, 1) := by decide +kernel
theorem dX7_init_16 : decode cX7_init 16 = .ok (.iconst 0, 1) := by decide +kernel
theorem dX7_init_17 : decode cX7_init 17 = .ok (.putfield 18, 3) := by decide +kernel
theorem dX7_init_20 : decode cX7_init 20 = .ok (.return_, 1) := by decide +kernel
theorem dX7_firstFault_0 : decode cX7_firstFault 0 = .ok (.aload_n 0, 1) := by decide +kernel
theorem dX7_firstFault_1 : decode cX7_firstFault 1 = .ok (.getfield 12, 3) := by decide +kernel
theorem dX7_firstFault_4 : decode cX7_firstFault 4 = .ok (.invokevirtual 22, 3) := by decide +kernel
theorem dX7_firstFault_7 : decode cX7_firstFault 7 = .ok (.aload_n 0, 1) := by decide +kernel
theorem dX7_firstFault_8 : decode cX7_firstFault 8 = .ok (.iconst 0, 1) := by decide +kernel
theorem dX7_firstFault_9 : decode cX7_firstFault 9 = .ok (.putfield 18, 3) := by decide +kernel
theorem dX7_firstFault_12 : decode cX7_firstFault 12 = .ok (.iconst 0, 1) := by decide +kernel
theorem dX7_firstFault_13 : decode cX7_firstFault 13 = .ok (.istore_n 2, 1) := by decide +kernel
theorem dX7_firstFault_14 : decode cX7_firstFault 14 = .ok (.iload_n 2, 1) := by decide +kernel
theorem dX7_firstFault_15 : decode cX7_firstFault 15 = .ok (.aload_n 1, 1) := by decide +kernel
theorem dX7_firstFault_16 : decode cX7_firstFault 16 = .ok (.getfield 25, 3) := by decide +kernel
theorem dX7_firstFault_19 : decode cX7_firstFault 19 = .ok (.if_icmp .ge 24, 3) := by decide +kernel
theorem dX7_firstFault_22 : decode cX7_firstFault 22 = .ok (.aload_n 0, 1) := by decide +kernel
theorem dX7_firstFault_23 : decode cX7_firstFault 23 = .ok (.aload_n 1, 1) := by decide +kernel
theorem dX7_firstFault_24 : decode cX7_firstFault 24 = .ok (.getfield 30, 3) := by decide +kernel
theorem dX7_firstFault_27 : decode cX7_firstFault 27 = .ok (.iload_n 2, 1) := by decide +kernel
theorem dX7_firstFault_28 : decode cX7_firstFault 28 = .ok (.iaload, 1) := by decide +kernel
theorem dX7_firstFault_29 : decode cX7_firstFault 29 = .ok (.invokevirtual 34, 3) := by decide +kernel
theorem dX7_firstFault_32 : decode cX7_firstFault 32 = .ok (.ifCond .ne 5, 3) := by decide +kernel
theorem dX7_firstFault_35 : decode cX7_firstFault 35 = .ok (.iload_n 2, 1) := by decide +kernel
theorem dX7_firstFault_36 : decode cX7_firstFault 36 = .ok (.ireturn, 1) := by decide +kernel
theorem dX7_firstFault_37 : decode cX7_firstFault 37 = .ok (.iinc 2 1, 3) := by decide +kernel
theorem dX7_firstFault_40 : decode cX7_firstFault 40 = .ok (.goto (-26), 3) := by decide +kernel
theorem dX7_firstFault_43 : decode cX7_firstFault 43 = .ok (.aload_n 1, 1) := by decide +kernel
theorem dX7_firstFault_44 : decode cX7_firstFault 44 = .ok (.getfield 25, 3) := by decide +kernel
theorem dX7_firstFault_47 : decode cX7_firstFault 47 = .ok (.ireturn, 1) := by decide +kernel
theorem dX7_isWhole_0 : decode cX7_isWhole 0 = .ok (.aload_n 0, 1) := by decide +kernel
theorem dX7_isWhole_1 : decode cX7_isWhole 1 = .ok (.getfield 18, 3) := by decide +kernel
theorem dX7_isWhole_4 : decode cX7_isWhole 4 = .ok (.bipush 8, 2) := by decide +kernel
theorem dX7_isWhole_6 : decode cX7_isWhole 6 = .ok (.if_icmp .ne 7, 3) := by decide +kernel
theorem dX7_isWhole_9 : decode cX7_isWhole 9 = .ok (.iconst 1, 1) := by decide +kernel
theorem dX7_isWhole_10 : decode cX7_isWhole 10 = .ok (.goto 4, 3) := by decide +kernel
theorem dX7_isWhole_13 : decode cX7_isWhole 13 = .ok (.iconst 0, 1) := by decide +kernel
theorem dX7_isWhole_14 : decode cX7_isWhole 14 = .ok (.ireturn, 1) := by decide +kernel
theorem dX7_takes_0 : decode cX7_takes 0 = .ok (.aload_n 0, 1) := by decide +kernel
theorem dX7_takes_1 : decode cX7_takes 1 = .ok (.getfield 18, 3) := by decide +kernel
theorem dX7_takes_4 : decode cX7_takes 4 = .ok (.tableswitch 128 0 7 #[48, 57, 74, 86, 95, 101, 110, 119], 48) := by decide +kernel
theorem dX7_takes_52 : decode cX7_takes 52 = .ok (.aload_n 0, 1) := by decide +kernel
theorem dX7_takes_53 : decode cX7_takes 53 = .ok (.iload_n 1, 1) := by decide +kernel
theorem dX7_takes_54 : decode cX7_takes 54 = .ok (.invokestatic 38, 3) := by decide +kernel
theorem dX7_takes_57 : decode cX7_takes 57 = .ok (.invokevirtual 42, 3) := by decide +kernel
theorem dX7_takes_60 : decode cX7_takes 60 = .ok (.ireturn, 1) := by decide +kernel
theorem dX7_takes_61 : decode cX7_takes 61 = .ok (.aload_n 0, 1) := by decide +kernel
theorem dX7_takes_62 : decode cX7_takes 62 = .ok (.iload_n 1, 1) := by decide +kernel
theorem dX7_takes_63 : decode cX7_takes 63 = .ok (.bipush 59, 2) := by decide +kernel
theorem dX7_takes_65 : decode cX7_takes 65 = .ok (.if_icmp .ne 7, 3) := by decide +kernel
theorem dX7_takes_68 : decode cX7_takes 68 = .ok (.iconst 1, 1) := by decide +kernel
theorem dX7_takes_69 : decode cX7_takes 69 = .ok (.goto 4, 3) := by decide +kernel
theorem dX7_takes_72 : decode cX7_takes 72 = .ok (.iconst 0, 1) := by decide +kernel
theorem dX7_takes_73 : decode cX7_takes 73 = .ok (.iconst 2, 1) := by decide +kernel
theorem dX7_takes_74 : decode cX7_takes 74 = .ok (.invokevirtual 45, 3) := by decide +kernel
theorem dX7_takes_77 : decode cX7_takes 77 = .ok (.ireturn, 1) := by decide +kernel
theorem dX7_takes_78 : decode cX7_takes 78 = .ok (.aload_n 0, 1) := by decide +kernel
theorem dX7_takes_79 : decode cX7_takes 79 = .ok (.ldc 49, 2) := by decide +kernel
theorem dX7_takes_81 : decode cX7_takes 81 = .ok (.iload_n 1, 1) := by decide +kernel
theorem dX7_takes_82 : decode cX7_takes 82 = .ok (.i2c, 1) := by decide +kernel
theorem dX7_takes_83 : decode cX7_takes 83 = .ok (.invokevirtual 51, 3) := by decide +kernel
theorem dX7_takes_86 : decode cX7_takes 86 = .ok (.invokevirtual 56, 3) := by decide +kernel
theorem dX7_takes_89 : decode cX7_takes 89 = .ok (.ireturn, 1) := by decide +kernel
theorem dX7_takes_90 : decode cX7_takes 90 = .ok (.aload_n 0, 1) := by decide +kernel
theorem dX7_takes_91 : decode cX7_takes 91 = .ok (.iload_n 1, 1) := by decide +kernel
theorem dX7_takes_92 : decode cX7_takes 92 = .ok (.invokestatic 38, 3) := by decide +kernel
theorem dX7_takes_95 : decode cX7_takes 95 = .ok (.invokevirtual 59, 3) := by decide +kernel
theorem dX7_takes_98 : decode cX7_takes 98 = .ok (.ireturn, 1) := by decide +kernel
theorem dX7_takes_99 : decode cX7_takes 99 = .ok (.aload_n 0, 1) := by decide +kernel
theorem dX7_takes_100 : decode cX7_takes 100 = .ok (.iload_n 1, 1) := by decide +kernel
theorem dX7_takes_101 : decode cX7_takes 101 = .ok (.invokevirtual 62, 3) := by decide +kernel
theorem dX7_takes_104 : decode cX7_takes 104 = .ok (.ireturn, 1) := by decide +kernel
theorem dX7_takes_105 : decode cX7_takes 105 = .ok (.aload_n 0, 1) := by decide +kernel
theorem dX7_takes_106 : decode cX7_takes 106 = .ok (.iload_n 1, 1) := by decide +kernel
theorem dX7_takes_107 : decode cX7_takes 107 = .ok (.invokestatic 38, 3) := by decide +kernel
theorem dX7_takes_110 : decode cX7_takes 110 = .ok (.invokevirtual 65, 3) := by decide +kernel
theorem dX7_takes_113 : decode cX7_takes 113 = .ok (.ireturn, 1) := by decide +kernel
theorem dX7_takes_114 : decode cX7_takes 114 = .ok (.aload_n 0, 1) := by decide +kernel
theorem dX7_takes_115 : decode cX7_takes 115 = .ok (.iload_n 1, 1) := by decide +kernel
theorem dX7_takes_116 : decode cX7_takes 116 = .ok (.invokestatic 38, 3) := by decide +kernel
theorem dX7_takes_119 : decode cX7_takes 119 = .ok (.invokevirtual 68, 3) := by decide +kernel
theorem dX7_takes_122 : decode cX7_takes 122 = .ok (.ireturn, 1) := by decide +kernel
theorem dX7_takes_123 : decode cX7_takes 123 = .ok (.aload_n 0, 1) := by decide +kernel
theorem dX7_takes_124 : decode cX7_takes 124 = .ok (.iload_n 1, 1) := by decide +kernel
theorem dX7_takes_125 : decode cX7_takes 125 = .ok (.invokestatic 38, 3) := by decide +kernel
theorem dX7_takes_128 : decode cX7_takes 128 = .ok (.invokevirtual 71, 3) := by decide +kernel
theorem dX7_takes_131 : decode cX7_takes 131 = .ok (.ireturn, 1) := by decide +kernel
theorem dX7_takes_132 : decode cX7_takes 132 = .ok (.aload_n 0, 1) := by decide +kernel
theorem dX7_takes_133 : decode cX7_takes 133 = .ok (.iload_n 1, 1) := by decide +kernel
theorem dX7_takes_134 : decode cX7_takes 134 = .ok (.bipush 44, 2) := by decide +kernel
theorem dX7_takes_136 : decode cX7_takes 136 = .ok (.if_icmp .ne 19, 3) := by decide +kernel
theorem dX7_takes_139 : decode cX7_takes 139 = .ok (.aload_n 0, 1) := by decide +kernel
theorem dX7_takes_140 : decode cX7_takes 140 = .ok (.getfield 12, 3) := by decide +kernel
theorem dX7_takes_143 : decode cX7_takes 143 = .ok (.getfield 74, 3) := by decide +kernel
theorem dX7_takes_146 : decode cX7_takes 146 = .ok (.bipush 8, 2) := by decide +kernel
theorem dX7_takes_148 : decode cX7_takes 148 = .ok (.if_icmp .ge 7, 3) := by decide +kernel
theorem dX7_takes_151 : decode cX7_takes 151 = .ok (.iconst 1, 1) := by decide +kernel
theorem dX7_takes_152 : decode cX7_takes 152 = .ok (.goto 4, 3) := by decide +kernel
theorem dX7_takes_155 : decode cX7_takes 155 = .ok (.iconst 0, 1) := by decide +kernel
theorem dX7_takes_156 : decode cX7_takes 156 = .ok (.iconst 5, 1) := by decide +kernel
theorem dX7_takes_157 : decode cX7_takes 157 = .ok (.invokevirtual 45, 3) := by decide +kernel
theorem dX7_takes_160 : decode cX7_takes 160 = .ok (.ireturn, 1) := by decide +kernel
theorem dX7_goesOn_0 : decode cX7_goesOn 0 = .ok (.iload_n 1, 1) := by decide +kernel
theorem dX7_goesOn_1 : decode cX7_goesOn 1 = .ok (.ifCond .eq 8, 3) := by decide +kernel
theorem dX7_goesOn_4 : decode cX7_goesOn 4 = .ok (.aload_n 0, 1) := by decide +kernel
theorem dX7_goesOn_5 : decode cX7_goesOn 5 = .ok (.iload_n 2, 1) := by decide +kernel
theorem dX7_goesOn_6 : decode cX7_goesOn 6 = .ok (.putfield 18, 3) := by decide +kernel
theorem dX7_goesOn_9 : decode cX7_goesOn 9 = .ok (.iload_n 1, 1) := by decide +kernel
theorem dX7_goesOn_10 : decode cX7_goesOn 10 = .ok (.ireturn, 1) := by decide +kernel
theorem dX7_takesRoom_0 : decode cX7_takesRoom 0 = .ok (.aload_n 0, 1) := by decide +kernel
theorem dX7_takesRoom_1 : decode cX7_takesRoom 1 = .ok (.getfield 12, 3) := by decide +kernel
theorem dX7_takesRoom_4 : decode cX7_takesRoom 4 = .ok (.iload_n 1, 1) := by decide +kernel
theorem dX7_takesRoom_5 : decode cX7_takesRoom 5 = .ok (.putfield 77, 3) := by decide +kernel
theorem dX7_takesRoom_8 : decode cX7_takesRoom 8 = .ok (.aload_n 0, 1) := by decide +kernel
theorem dX7_takesRoom_9 : decode cX7_takesRoom 9 = .ok (.iload_n 1, 1) := by decide +kernel
theorem dX7_takesRoom_10 : decode cX7_takesRoom 10 = .ok (.invokestatic 80, 3) := by decide +kernel
theorem dX7_takesRoom_13 : decode cX7_takesRoom 13 = .ok (.iconst 1, 1) := by decide +kernel
theorem dX7_takesRoom_14 : decode cX7_takesRoom 14 = .ok (.invokevirtual 45, 3) := by decide +kernel
theorem dX7_takesRoom_17 : decode cX7_takesRoom 17 = .ok (.ireturn, 1) := by decide +kernel
theorem dX7_takesKind_0 : decode cX7_takesKind 0 = .ok (.iload_n 1, 1) := by decide +kernel
theorem dX7_takesKind_1 : decode cX7_takesKind 1 = .ok (.ifCond .lt 15, 3) := by decide +kernel
theorem dX7_takesKind_4 : decode cX7_takesKind 4 = .ok (.aload_n 0, 1) := by decide +kernel
theorem dX7_takesKind_5 : decode cX7_takesKind 5 = .ok (.getfield 12, 3) := by decide +kernel
theorem dX7_takesKind_8 : decode cX7_takesKind 8 = .ok (.getfield 83, 3) := by decide +kernel
theorem dX7_takesKind_11 : decode cX7_takesKind 11 = .ok (.bipush 6, 2) := by decide +kernel
theorem dX7_takesKind_13 : decode cX7_takesKind 13 = .ok (.if_icmp .lt 5, 3) := by decide +kernel
theorem dX7_takesKind_16 : decode cX7_takesKind 16 = .ok (.iconst 0, 1) := by decide +kernel
theorem dX7_takesKind_17 : decode cX7_takesKind 17 = .ok (.ireturn, 1) := by decide +kernel
theorem dX7_takesKind_18 : decode cX7_takesKind 18 = .ok (.aload_n 0, 1) := by decide +kernel
theorem dX7_takesKind_19 : decode cX7_takesKind 19 = .ok (.getfield 12, 3) := by decide +kernel
theorem dX7_takesKind_22 : decode cX7_takesKind 22 = .ok (.getfield 86, 3) := by decide +kernel
theorem dX7_takesKind_25 : decode cX7_takesKind 25 = .ok (.aload_n 0, 1) := by decide +kernel
theorem dX7_takesKind_26 : decode cX7_takesKind 26 = .ok (.getfield 12, 3) := by decide +kernel
theorem dX7_takesKind_29 : decode cX7_takesKind 29 = .ok (.getfield 83, 3) := by decide +kernel
theorem dX7_takesKind_32 : decode cX7_takesKind 32 = .ok (.iload_n 1, 1) := by decide +kernel
theorem dX7_takesKind_33 : decode cX7_takesKind 33 = .ok (.iastore, 1) := by decide +kernel
theorem dX7_takesKind_34 : decode cX7_takesKind 34 = .ok (.aload_n 0, 1) := by decide +kernel
theorem dX7_takesKind_35 : decode cX7_takesKind 35 = .ok (.iconst 3, 1) := by decide +kernel
theorem dX7_takesKind_36 : decode cX7_takesKind 36 = .ok (.putfield 18, 3) := by decide +kernel
theorem dX7_takesKind_39 : decode cX7_takesKind 39 = .ok (.iconst 1, 1) := by decide +kernel
theorem dX7_takesKind_40 : decode cX7_takesKind 40 = .ok (.ireturn, 1) := by decide +kernel
theorem dX7_takesWarm_0 : decode cX7_takesWarm 0 = .ok (.iload_n 1, 1) := by decide +kernel
end
section
theorem dX7_takesWarm_1 : decode cX7_takesWarm 1 = .ok (.ifCond .lt 15, 3) := by decide +kernel
theorem dX7_takesWarm_4 : decode cX7_takesWarm 4 = .ok (.aload_n 0, 1) := by decide +kernel
theorem dX7_takesWarm_5 : decode cX7_takesWarm 5 = .ok (.getfield 12, 3) := by decide +kernel
theorem dX7_takesWarm_8 : decode cX7_takesWarm 8 = .ok (.getfield 83, 3) := by decide +kernel
theorem dX7_takesWarm_11 : decode cX7_takesWarm 11 = .ok (.bipush 6, 2) := by decide +kernel
theorem dX7_takesWarm_13 : decode cX7_takesWarm 13 = .ok (.if_icmp .lt 5, 3) := by decide +kernel
theorem dX7_takesWarm_16 : decode cX7_takesWarm 16 = .ok (.iconst 0, 1) := by decide +kernel
theorem dX7_takesWarm_17 : decode cX7_takesWarm 17 = .ok (.ireturn, 1) := by decide +kernel
theorem dX7_takesWarm_18 : decode cX7_takesWarm 18 = .ok (.aload_n 0, 1) := by decide +kernel
theorem dX7_takesWarm_19 : decode cX7_takesWarm 19 = .ok (.getfield 12, 3) := by decide +kernel
theorem dX7_takesWarm_22 : decode cX7_takesWarm 22 = .ok (.getfield 89, 3) := by decide +kernel
theorem dX7_takesWarm_25 : decode cX7_takesWarm 25 = .ok (.aload_n 0, 1) := by decide +kernel
theorem dX7_takesWarm_26 : decode cX7_takesWarm 26 = .ok (.getfield 12, 3) := by decide +kernel
theorem dX7_takesWarm_29 : decode cX7_takesWarm 29 = .ok (.getfield 83, 3) := by decide +kernel
theorem dX7_takesWarm_32 : decode cX7_takesWarm 32 = .ok (.iload_n 1, 1) := by decide +kernel
theorem dX7_takesWarm_33 : decode cX7_takesWarm 33 = .ok (.iastore, 1) := by decide +kernel
theorem dX7_takesWarm_34 : decode cX7_takesWarm 34 = .ok (.aload_n 0, 1) := by decide +kernel
theorem dX7_takesWarm_35 : decode cX7_takesWarm 35 = .ok (.getfield 12, 3) := by decide +kernel
theorem dX7_takesWarm_38 : decode cX7_takesWarm 38 = .ok (.getfield 92, 3) := by decide +kernel
theorem dX7_takesWarm_41 : decode cX7_takesWarm 41 = .ok (.aload_n 0, 1) := by decide +kernel
theorem dX7_takesWarm_42 : decode cX7_takesWarm 42 = .ok (.getfield 12, 3) := by decide +kernel
theorem dX7_takesWarm_45 : decode cX7_takesWarm 45 = .ok (.getfield 83, 3) := by decide +kernel
theorem dX7_takesWarm_48 : decode cX7_takesWarm 48 = .ok (.iconst 0, 1) := by decide +kernel
theorem dX7_takesWarm_49 : decode cX7_takesWarm 49 = .ok (.iastore, 1) := by decide +kernel
theorem dX7_takesWarm_50 : decode cX7_takesWarm 50 = .ok (.aload_n 0, 1) := by decide +kernel
theorem dX7_takesWarm_51 : decode cX7_takesWarm 51 = .ok (.getfield 12, 3) := by decide +kernel
theorem dX7_takesWarm_54 : decode cX7_takesWarm 54 = .ok (.dup, 1) := by decide +kernel
theorem dX7_takesWarm_55 : decode cX7_takesWarm 55 = .ok (.getfield 83, 3) := by decide +kernel
theorem dX7_takesWarm_58 : decode cX7_takesWarm 58 = .ok (.iconst 1, 1) := by decide +kernel
theorem dX7_takesWarm_59 : decode cX7_takesWarm 59 = .ok (.iadd, 1) := by decide +kernel
theorem dX7_takesWarm_60 : decode cX7_takesWarm 60 = .ok (.putfield 83, 3) := by decide +kernel
theorem dX7_takesWarm_63 : decode cX7_takesWarm 63 = .ok (.aload_n 0, 1) := by decide +kernel
theorem dX7_takesWarm_64 : decode cX7_takesWarm 64 = .ok (.iconst 4, 1) := by decide +kernel
theorem dX7_takesWarm_65 : decode cX7_takesWarm 65 = .ok (.putfield 18, 3) := by decide +kernel
theorem dX7_takesWarm_68 : decode cX7_takesWarm 68 = .ok (.iconst 1, 1) := by decide +kernel
theorem dX7_takesWarm_69 : decode cX7_takesWarm 69 = .ok (.ireturn, 1) := by decide +kernel
theorem dX7_takesMark_0 : decode cX7_takesMark 0 = .ok (.iload_n 1, 1) := by decide +kernel
theorem dX7_takesMark_1 : decode cX7_takesMark 1 = .ok (.bipush 44, 2) := by decide +kernel
theorem dX7_takesMark_3 : decode cX7_takesMark 3 = .ok (.if_icmp .ne 26, 3) := by decide +kernel
theorem dX7_takesMark_6 : decode cX7_takesMark 6 = .ok (.aload_n 0, 1) := by decide +kernel
theorem dX7_takesMark_7 : decode cX7_takesMark 7 = .ok (.aload_n 0, 1) := by decide +kernel
theorem dX7_takesMark_8 : decode cX7_takesMark 8 = .ok (.getfield 12, 3) := by decide +kernel
theorem dX7_takesMark_11 : decode cX7_takesMark 11 = .ok (.getfield 83, 3) := by decide +kernel
theorem dX7_takesMark_14 : decode cX7_takesMark 14 = .ok (.bipush 6, 2) := by decide +kernel
theorem dX7_takesMark_16 : decode cX7_takesMark 16 = .ok (.if_icmp .ge 7, 3) := by decide +kernel
theorem dX7_takesMark_19 : decode cX7_takesMark 19 = .ok (.iconst 1, 1) := by decide +kernel
theorem dX7_takesMark_20 : decode cX7_takesMark 20 = .ok (.goto 4, 3) := by decide +kernel
theorem dX7_takesMark_23 : decode cX7_takesMark 23 = .ok (.iconst 0, 1) := by decide +kernel
theorem dX7_takesMark_24 : decode cX7_takesMark 24 = .ok (.iconst 2, 1) := by decide +kernel
theorem dX7_takesMark_25 : decode cX7_takesMark 25 = .ok (.invokevirtual 45, 3) := by decide +kernel
theorem dX7_takesMark_28 : decode cX7_takesMark 28 = .ok (.ireturn, 1) := by decide +kernel
theorem dX7_takesMark_29 : decode cX7_takesMark 29 = .ok (.aload_n 0, 1) := by decide +kernel
theorem dX7_takesMark_30 : decode cX7_takesMark 30 = .ok (.iload_n 1, 1) := by decide +kernel
theorem dX7_takesMark_31 : decode cX7_takesMark 31 = .ok (.bipush 59, 2) := by decide +kernel
theorem dX7_takesMark_33 : decode cX7_takesMark 33 = .ok (.if_icmp .ne 18, 3) := by decide +kernel
theorem dX7_takesMark_36 : decode cX7_takesMark 36 = .ok (.aload_n 0, 1) := by decide +kernel
theorem dX7_takesMark_37 : decode cX7_takesMark 37 = .ok (.getfield 12, 3) := by decide +kernel
theorem dX7_takesMark_40 : decode cX7_takesMark 40 = .ok (.getfield 83, 3) := by decide +kernel
theorem dX7_takesMark_43 : decode cX7_takesMark 43 = .ok (.iconst 2, 1) := by decide +kernel
theorem dX7_takesMark_44 : decode cX7_takesMark 44 = .ok (.if_icmp .lt 7, 3) := by decide +kernel
theorem dX7_takesMark_47 : decode cX7_takesMark 47 = .ok (.iconst 1, 1) := by decide +kernel
theorem dX7_takesMark_48 : decode cX7_takesMark 48 = .ok (.goto 4, 3) := by decide +kernel
theorem dX7_takesMark_51 : decode cX7_takesMark 51 = .ok (.iconst 0, 1) := by decide +kernel
theorem dX7_takesMark_52 : decode cX7_takesMark 52 = .ok (.iconst 5, 1) := by decide +kernel
theorem dX7_takesMark_53 : decode cX7_takesMark 53 = .ok (.invokevirtual 45, 3) := by decide +kernel
theorem dX7_takesMark_56 : decode cX7_takesMark 56 = .ok (.ireturn, 1) := by decide +kernel
theorem dX7_takesDid_0 : decode cX7_takesDid 0 = .ok (.aload_n 0, 1) := by decide +kernel
theorem dX7_takesDid_1 : decode cX7_takesDid 1 = .ok (.getfield 12, 3) := by decide +kernel
theorem dX7_takesDid_4 : decode cX7_takesDid 4 = .ok (.iload_n 1, 1) := by decide +kernel
theorem dX7_takesDid_5 : decode cX7_takesDid 5 = .ok (.invokevirtual 95, 3) := by decide +kernel
theorem dX7_takesDid_8 : decode cX7_takesDid 8 = .ok (.ifCond .eq 15, 3) := by decide +kernel
theorem dX7_takesDid_11 : decode cX7_takesDid 11 = .ok (.aload_n 0, 1) := by decide +kernel
theorem dX7_takesDid_12 : decode cX7_takesDid 12 = .ok (.getfield 12, 3) := by decide +kernel
theorem dX7_takesDid_15 : decode cX7_takesDid 15 = .ok (.getfield 74, 3) := by decide +kernel
theorem dX7_takesDid_18 : decode cX7_takesDid 18 = .ok (.bipush 8, 2) := by decide +kernel
theorem dX7_takesDid_20 : decode cX7_takesDid 20 = .ok (.if_icmp .lt 5, 3) := by decide +kernel
theorem dX7_takesDid_23 : decode cX7_takesDid 23 = .ok (.iconst 0, 1) := by decide +kernel
theorem dX7_takesDid_24 : decode cX7_takesDid 24 = .ok (.ireturn, 1) := by decide +kernel
theorem dX7_takesDid_25 : decode cX7_takesDid 25 = .ok (.aload_n 0, 1) := by decide +kernel
theorem dX7_takesDid_26 : decode cX7_takesDid 26 = .ok (.getfield 12, 3) := by decide +kernel
theorem dX7_takesDid_29 : decode cX7_takesDid 29 = .ok (.getfield 98, 3) := by decide +kernel
theorem dX7_takesDid_32 : decode cX7_takesDid 32 = .ok (.aload_n 0, 1) := by decide +kernel
theorem dX7_takesDid_33 : decode cX7_takesDid 33 = .ok (.getfield 12, 3) := by decide +kernel
theorem dX7_takesDid_36 : decode cX7_takesDid 36 = .ok (.getfield 74, 3) := by decide +kernel
theorem dX7_takesDid_39 : decode cX7_takesDid 39 = .ok (.iload_n 1, 1) := by decide +kernel
theorem dX7_takesDid_40 : decode cX7_takesDid 40 = .ok (.iastore, 1) := by decide +kernel
theorem dX7_takesDid_41 : decode cX7_takesDid 41 = .ok (.aload_n 0, 1) := by decide +kernel
theorem dX7_takesDid_42 : decode cX7_takesDid 42 = .ok (.bipush 6, 2) := by decide +kernel
theorem dX7_takesDid_44 : decode cX7_takesDid 44 = .ok (.putfield 18, 3) := by decide +kernel
theorem dX7_takesDid_47 : decode cX7_takesDid 47 = .ok (.iconst 1, 1) := by decide +kernel
theorem dX7_takesDid_48 : decode cX7_takesDid 48 = .ok (.ireturn, 1) := by decide +kernel
theorem dX7_takesWhom_0 : decode cX7_takesWhom 0 = .ok (.aload_n 0, 1) := by decide +kernel
theorem dX7_takesWhom_1 : decode cX7_takesWhom 1 = .ok (.getfield 12, 3) := by decide +kernel
theorem dX7_takesWhom_4 : decode cX7_takesWhom 4 = .ok (.iload_n 1, 1) := by decide +kernel
theorem dX7_takesWhom_5 : decode cX7_takesWhom 5 = .ok (.invokevirtual 95, 3) := by decide +kernel
theorem dX7_takesWhom_8 : decode cX7_takesWhom 8 = .ok (.ifCond .eq 34, 3) := by decide +kernel
theorem dX7_takesWhom_11 : decode cX7_takesWhom 11 = .ok (.aload_n 0, 1) := by decide +kernel
theorem dX7_takesWhom_12 : decode cX7_takesWhom 12 = .ok (.getfield 12, 3) := by decide +kernel
theorem dX7_takesWhom_15 : decode cX7_takesWhom 15 = .ok (.getfield 74, 3) := by decide +kernel
theorem dX7_takesWhom_18 : decode cX7_takesWhom 18 = .ok (.bipush 8, 2) := by decide +kernel
theorem dX7_takesWhom_20 : decode cX7_takesWhom 20 = .ok (.if_icmp .ge 22, 3) := by decide +kernel
theorem dX7_takesWhom_23 : decode cX7_takesWhom 23 = .ok (.iload_n 1, 1) := by decide +kernel
theorem dX7_takesWhom_24 : decode cX7_takesWhom 24 = .ok (.aload_n 0, 1) := by decide +kernel
theorem dX7_takesWhom_25 : decode cX7_takesWhom 25 = .ok (.getfield 12, 3) := by decide +kernel
theorem dX7_takesWhom_28 : decode cX7_takesWhom 28 = .ok (.getfield 98, 3) := by decide +kernel
theorem dX7_takesWhom_31 : decode cX7_takesWhom 31 = .ok (.aload_n 0, 1) := by decide +kernel
theorem dX7_takesWhom_32 : decode cX7_takesWhom 32 = .ok (.getfield 12, 3) := by decide +kernel
theorem dX7_takesWhom_35 : decode cX7_takesWhom 35 = .ok (.getfield 74, 3) := by decide +kernel
theorem dX7_takesWhom_38 : decode cX7_takesWhom 38 = .ok (.iaload, 1) := by decide +kernel
theorem dX7_takesWhom_39 : decode cX7_takesWhom 39 = .ok (.if_icmp .ne 5, 3) := by decide +kernel
theorem dX7_takesWhom_42 : decode cX7_takesWhom 42 = .ok (.iconst 0, 1) := by decide +kernel
theorem dX7_takesWhom_43 : decode cX7_takesWhom 43 = .ok (.ireturn, 1) := by decide +kernel
theorem dX7_takesWhom_44 : decode cX7_takesWhom 44 = .ok (.aload_n 0, 1) := by decide +kernel
theorem dX7_takesWhom_45 : decode cX7_takesWhom 45 = .ok (.getfield 12, 3) := by decide +kernel
theorem dX7_takesWhom_48 : decode cX7_takesWhom 48 = .ok (.getfield 101, 3) := by decide +kernel
theorem dX7_takesWhom_51 : decode cX7_takesWhom 51 = .ok (.aload_n 0, 1) := by decide +kernel
theorem dX7_takesWhom_52 : decode cX7_takesWhom 52 = .ok (.getfield 12, 3) := by decide +kernel
theorem dX7_takesWhom_55 : decode cX7_takesWhom 55 = .ok (.getfield 74, 3) := by decide +kernel
theorem dX7_takesWhom_58 : decode cX7_takesWhom 58 = .ok (.iload_n 1, 1) := by decide +kernel
theorem dX7_takesWhom_59 : decode cX7_takesWhom 59 = .ok (.iastore, 1) := by decide +kernel
theorem dX7_takesWhom_60 : decode cX7_takesWhom 60 = .ok (.aload_n 0, 1) := by decide +kernel
theorem dX7_takesWhom_61 : decode cX7_takesWhom 61 = .ok (.bipush 7, 2) := by decide +kernel
theorem dX7_takesWhom_63 : decode cX7_takesWhom 63 = .ok (.putfield 18, 3) := by decide +kernel
theorem dX7_takesWhom_66 : decode cX7_takesWhom 66 = .ok (.iconst 1, 1) := by decide +kernel
theorem dX7_takesWhom_67 : decode cX7_takesWhom 67 = .ok (.ireturn, 1) := by decide +kernel
theorem dX7_takesGrave_0 : decode cX7_takesGrave 0 = .ok (.iload_n 1, 1) := by decide +kernel
theorem dX7_takesGrave_1 : decode cX7_takesGrave 1 = .ok (.iconst 1, 1) := by decide +kernel
theorem dX7_takesGrave_2 : decode cX7_takesGrave 2 = .ok (.if_icmp .lt 15, 3) := by decide +kernel
theorem dX7_takesGrave_5 : decode cX7_takesGrave 5 = .ok (.aload_n 0, 1) := by decide +kernel
theorem dX7_takesGrave_6 : decode cX7_takesGrave 6 = .ok (.getfield 12, 3) := by decide +kernel
theorem dX7_takesGrave_9 : decode cX7_takesGrave 9 = .ok (.getfield 74, 3) := by decide +kernel
theorem dX7_takesGrave_12 : decode cX7_takesGrave 12 = .ok (.bipush 8, 2) := by decide +kernel
theorem dX7_takesGrave_14 : decode cX7_takesGrave 14 = .ok (.if_icmp .lt 5, 3) := by decide +kernel
theorem dX7_takesGrave_17 : decode cX7_takesGrave 17 = .ok (.iconst 0, 1) := by decide +kernel
theorem dX7_takesGrave_18 : decode cX7_takesGrave 18 = .ok (.ireturn, 1) := by decide +kernel
theorem dX7_takesGrave_19 : decode cX7_takesGrave 19 = .ok (.aload_n 0, 1) := by decide +kernel
theorem dX7_takesGrave_20 : decode cX7_takesGrave 20 = .ok (.getfield 12, 3) := by decide +kernel
theorem dX7_takesGrave_23 : decode cX7_takesGrave 23 = .ok (.getfield 104, 3) := by decide +kernel
theorem dX7_takesGrave_26 : decode cX7_takesGrave 26 = .ok (.aload_n 0, 1) := by decide +kernel
theorem dX7_takesGrave_27 : decode cX7_takesGrave 27 = .ok (.getfield 12, 3) := by decide +kernel
theorem dX7_takesGrave_30 : decode cX7_takesGrave 30 = .ok (.getfield 74, 3) := by decide +kernel
theorem dX7_takesGrave_33 : decode cX7_takesGrave 33 = .ok (.iload_n 1, 1) := by decide +kernel
theorem dX7_takesGrave_34 : decode cX7_takesGrave 34 = .ok (.iastore, 1) := by decide +kernel
theorem dX7_takesGrave_35 : decode cX7_takesGrave 35 = .ok (.aload_n 0, 1) := by decide +kernel
theorem dX7_takesGrave_36 : decode cX7_takesGrave 36 = .ok (.getfield 12, 3) := by decide +kernel
theorem dX7_takesGrave_39 : decode cX7_takesGrave 39 = .ok (.dup, 1) := by decide +kernel
theorem dX7_takesGrave_40 : decode cX7_takesGrave 40 = .ok (.getfield 74, 3) := by decide +kernel
theorem dX7_takesGrave_43 : decode cX7_takesGrave 43 = .ok (.iconst 1, 1) := by decide +kernel
theorem dX7_takesGrave_44 : decode cX7_takesGrave 44 = .ok (.iadd, 1) := by decide +kernel
theorem dX7_takesGrave_45 : decode cX7_takesGrave 45 = .ok (.putfield 74, 3) := by decide +kernel
theorem dX7_takesGrave_48 : decode cX7_takesGrave 48 = .ok (.aload_n 0, 1) := by decide +kernel
theorem dX7_takesGrave_49 : decode cX7_takesGrave 49 = .ok (.bipush 8, 2) := by decide +kernel
theorem dX7_takesGrave_51 : decode cX7_takesGrave 51 = .ok (.putfield 18, 3) := by decide +kernel
theorem dX7_takesGrave_54 : decode cX7_takesGrave 54 = .ok (.iconst 1, 1) := by decide +kernel
theorem dX7_takesGrave_55 : decode cX7_takesGrave 55 = .ok (.ireturn, 1) := by decide +kernel
theorem dX8_init_0 : decode cX8_init 0 = .ok (.aload_n 0, 1) := by decide +kernel
theorem dX8_init_1 : decode cX8_init 1 = .ok (.invokespecial 1, 3) := by decide +kernel
theorem dX8_init_4 : decode cX8_init 4 = .ok (.aload_n 0, 1) := by decide +kernel
theorem dX8_init_5 : decode cX8_init 5 = .ok (.iconst 0, 1) := by decide +kernel
theorem dX8_init_6 : decode cX8_init 6 = .ok (.putfield 7, 3) := by decide +kernel
theorem dX8_init_9 : decode cX8_init 9 = .ok (.aload_n 0, 1) := by decide +kernel
theorem dX8_init_10 : decode cX8_init 10 = .ok (.iconst 0, 1) := by decide +kernel
theorem dX8_init_11 : decode cX8_init 11 = .ok (.putfield 13, 3) := by decide +kernel
theorem dX8_init_14 : decode cX8_init 14 = .ok (.return_, 1) := by decide +kernel
theorem dX8_pass_0 : decode cX8_pass 0 = .ok (.aload_n 0, 1) := by decide +kernel
theorem dX8_pass_1 : decode cX8_pass 1 = .ok (.iconst 0, 1) := by decide +kernel
theorem dX8_pass_2 : decode cX8_pass 2 = .ok (.putfield 7, 3) := by decide +kernel
theorem dX8_pass_5 : decode cX8_pass 5 = .ok (.aload_n 0, 1) := by decide +kernel
theorem dX8_pass_6 : decode cX8_pass 6 = .ok (.iload_n 3, 1) := by decide +kernel
theorem dX8_pass_7 : decode cX8_pass 7 = .ok (.putfield 13, 3) := by decide +kernel
theorem dX8_pass_10 : decode cX8_pass 10 = .ok (.iconst 0, 1) := by decide +kernel
theorem dX8_pass_11 : decode cX8_pass 11 = .ok (.istore 5, 2) := by decide +kernel
theorem dX8_pass_13 : decode cX8_pass 13 = .ok (.iload 5, 2) := by decide +kernel
theorem dX8_pass_15 : decode cX8_pass 15 = .ok (.iload_n 2, 1) := by decide +kernel
theorem dX8_pass_16 : decode cX8_pass 16 = .ok (.if_icmp .ge 60, 3) := by decide +kernel
theorem dX8_pass_19 : decode cX8_pass 19 = .ok (.aload_n 1, 1) := by decide +kernel
theorem dX8_pass_20 : decode cX8_pass 20 = .ok (.dup, 1) := by decide +kernel
theorem dX8_pass_21 : decode cX8_pass 21 = .ok (.getfield 16, 3) := by decide +kernel
theorem dX8_pass_24 : decode cX8_pass 24 = .ok (.iconst 1, 1) := by decide +kernel
theorem dX8_pass_25 : decode cX8_pass 25 = .ok (.aload_n 0, 1) := by decide +kernel
theorem dX8_pass_26 : decode cX8_pass 26 = .ok (.aload_n 1, 1) := by decide +kernel
theorem dX8_pass_27 : decode cX8_pass 27 = .ok (.getfield 21, 3) := by decide +kernel
theorem dX8_pass_30 : decode cX8_pass 30 = .ok (.invokevirtual 24, 3) := by decide +kernel
theorem dX8_pass_33 : decode cX8_pass 33 = .ok (.ishl, 1) := by decide +kernel
theorem dX8_pass_34 : decode cX8_pass 34 = .ok (.ixor, 1) := by decide +kernel
theorem dX8_pass_35 : decode cX8_pass 35 = .ok (.putfield 16, 3) := by decide +kernel
theorem dX8_pass_38 : decode cX8_pass 38 = .ok (.aload 4, 2) := by decide +kernel
theorem dX8_pass_40 : decode cX8_pass 40 = .ok (.aload_n 1, 1) := by decide +kernel
theorem dX8_pass_41 : decode cX8_pass 41 = .ok (.aload_n 1, 1) := by decide +kernel
theorem dX8_pass_42 : decode cX8_pass 42 = .ok (.getfield 16, 3) := by decide +kernel
theorem dX8_pass_45 : decode cX8_pass 45 = .ok (.invokevirtual 28, 3) := by decide +kernel
theorem dX8_pass_48 : decode cX8_pass 48 = .ok (.aload_n 0, 1) := by decide +kernel
theorem dX8_pass_49 : decode cX8_pass 49 = .ok (.dup, 1) := by decide +kernel
theorem dX8_pass_50 : decode cX8_pass 50 = .ok (.getfield 7, 3) := by decide +kernel
theorem dX8_pass_53 : decode cX8_pass 53 = .ok (.aload_n 1, 1) := by decide +kernel
theorem dX8_pass_54 : decode cX8_pass 54 = .ok (.aload 4, 2) := by decide +kernel
theorem dX8_pass_56 : decode cX8_pass 56 = .ok (.aload_n 1, 1) := by decide +kernel
theorem dX8_pass_57 : decode cX8_pass 57 = .ok (.getfield 34, 3) := by decide +kernel
theorem dX8_pass_60 : decode cX8_pass 60 = .ok (.invokevirtual 37, 3) := by decide +kernel
theorem dX8_pass_63 : decode cX8_pass 63 = .ok (.invokevirtual 40, 3) := by decide +kernel
theorem dX8_pass_66 : decode cX8_pass 66 = .ok (.iadd, 1) := by decide +kernel
theorem dX8_pass_67 : decode cX8_pass 67 = .ok (.putfield 7, 3) := by decide +kernel
theorem dX8_pass_70 : decode cX8_pass 70 = .ok (.iinc 5 1, 3) := by decide +kernel
theorem dX8_pass_73 : decode cX8_pass 73 = .ok (.goto (-60), 3) := by decide +kernel
theorem dX8_pass_76 : decode cX8_pass 76 = .ok (.return_, 1) := by decide +kernel
theorem dX8_draw_0 : decode cX8_draw 0 = .ok (.aload_n 0, 1) := by decide +kernel
theorem dX8_draw_1 : decode cX8_draw 1 = .ok (.ldc2_w 43, 3) := by decide +kernel
theorem dX8_draw_4 : decode cX8_draw 4 = .ok (.aload_n 0, 1) := by decide +kernel
theorem dX8_draw_5 : decode cX8_draw 5 = .ok (.getfield 13, 3) := by decide +kernel
theorem dX8_draw_8 : decode cX8_draw 8 = .ok (.i2l, 1) := by decide +kernel
theorem dX8_draw_9 : decode cX8_draw 9 = .ok (.lmul, 1) := by decide +kernel
theorem dX8_draw_10 : decode cX8_draw 10 = .ok (.ldc2_w 45, 3) := by decide +kernel
theorem dX8_draw_13 : decode cX8_draw 13 = .ok (.ladd, 1) := by decide +kernel
theorem dX8_draw_14 : decode cX8_draw 14 = .ok (.ldc2_w 47, 3) := by decide +kernel
theorem dX8_draw_17 : decode cX8_draw 17 = .ok (.lrem, 1) := by decide +kernel
theorem dX8_draw_18 : decode cX8_draw 18 = .ok (.l2i, 1) := by decide +kernel
theorem dX8_draw_19 : decode cX8_draw 19 = .ok (.putfield 13, 3) := by decide +kernel
theorem dX8_draw_22 : decode cX8_draw 22 = .ok (.iload_n 1, 1) := by decide +kernel
theorem dX8_draw_23 : decode cX8_draw 23 = .ok (.ifCond .le 15, 3) := by decide +kernel
theorem dX8_draw_26 : decode cX8_draw 26 = .ok (.aload_n 0, 1) := by decide +kernel
theorem dX8_draw_27 : decode cX8_draw 27 = .ok (.getfield 13, 3) := by decide +kernel
theorem dX8_draw_30 : decode cX8_draw 30 = .ok (.ldc 49, 2) := by decide +kernel
theorem dX8_draw_32 : decode cX8_draw 32 = .ok (.idiv, 1) := by decide +kernel
theorem dX8_draw_33 : decode cX8_draw 33 = .ok (.iload_n 1, 1) := by decide +kernel
theorem dX8_draw_34 : decode cX8_draw 34 = .ok (.irem, 1) := by decide +kernel
theorem dX8_draw_35 : decode cX8_draw 35 = .ok (.goto 4, 3) := by decide +kernel
theorem dX8_draw_38 : decode cX8_draw 38 = .ok (.iconst 0, 1) := by decide +kernel
theorem dX8_draw_39 : decode cX8_draw 39 = .ok (.ireturn, 1) := by decide +kernel
theorem dX9_init_0 : decode cX9_init 0 = .ok (.aload_n 0, 1) := by decide +kernel
theorem dX9_init_1 : decode cX9_init 1 = .ok (.invokespecial 1, 3) := by decide +kernel
theorem dX9_init_4 : decode cX9_init 4 = .ok (.aload_n 0, 1) := by decide +kernel
theorem dX9_init_5 : decode cX9_init 5 = .ok (.new 7, 3) := by decide +kernel
theorem dX9_init_8 : decode cX9_init 8 = .ok (.dup, 1) := by decide +kernel
theorem dX9_init_9 : decode cX9_init 9 = .ok (.invokespecial 9, 3) := by decide +kernel
theorem dX9_init_12 : decode cX9_init 12 = .ok (.putfield 10, 3) := by decide +kernel
theorem dX9_init_15 : decode cX9_init 15 = .ok (.aload_n 0, 1) := by decide +kernel
theorem dX9_init_16 : decode cX9_init 16 = .ok (.new 16, 3) := by decide +kernel
theorem dX9_init_19 : decode cX9_init 19 = .ok (.dup, 1) := by decide +kernel
theorem dX9_init_20 : decode cX9_init 20 = .ok (.invokespecial 18, 3) := by decide +kernel
theorem dX9_init_23 : decode cX9_init 23 = .ok (.putfield 19, 3) := by decide +kernel
theorem dX9_init_26 : decode cX9_init 26 = .ok (.aload_n 0, 1) := by decide +kernel
theorem dX9_init_27 : decode cX9_init 27 = .ok (.new 23, 3) := by decide +kernel
theorem dX9_init_30 : decode cX9_init 30 = .ok (.dup, 1) := by decide +kernel
theorem dX9_init_31 : decode cX9_init 31 = .ok (.invokespecial 25, 3) := by decide +kernel
theorem dX9_init_34 : decode cX9_init 34 = .ok (.putfield 26, 3) := by decide +kernel
theorem dX9_init_37 : decode cX9_init 37 = .ok (.aload_n 0, 1) := by decide +kernel
theorem dX9_init_38 : decode cX9_init 38 = .ok (.new 23, 3) := by decide +kernel
theorem dX9_init_41 : decode cX9_init 41 = .ok (.dup, 1) := by decide +kernel
theorem dX9_init_42 : decode cX9_init 42 = .ok (.invokespecial 25, 3) := by decide +kernel
theorem dX9_init_45 : decode cX9_init 45 = .ok (.putfield 30, 3) := by decide +kernel
theorem dX9_init_48 : decode cX9_init 48 = .ok (.aload_n 0, 1) := by decide +kernel
theorem dX9_init_49 : decode cX9_init 49 = .ok (.new 23, 3) := by decide +kernel
theorem dX9_init_52 : decode cX9_init 52 = .ok (.dup, 1) := by decide +kernel
theorem dX9_init_53 : decode cX9_init 53 = .ok (.invokespecial 25, 3) := by decide +kernel
theorem dX9_init_56 : decode cX9_init 56 = .ok (.putfield 33, 3) := by decide +kernel
theorem dX9_init_59 : decode cX9_init 59 = .ok (.aload_n 0, 1) := by decide +kernel
theorem dX9_init_60 : decode cX9_init 60 = .ok (.new 36, 3) := by decide +kernel
theorem dX9_init_63 : decode cX9_init 63 = .ok (.dup, 1) := by decide +kernel
theorem dX9_init_64 : decode cX9_init 64 = .ok (.invokespecial 38, 3) := by decide +kernel
theorem dX9_init_67 : decode cX9_init 67 = .ok (.putfield 39, 3) := by decide +kernel
theorem dX9_init_70 : decode cX9_init 70 = .ok (.aload_n 0, 1) := by decide +kernel
theorem dX9_init_71 : decode cX9_init 71 = .ok (.new 43, 3) := by decide +kernel
theorem dX9_init_74 : decode cX9_init 74 = .ok (.dup, 1) := by decide +kernel
theorem dX9_init_75 : decode cX9_init 75 = .ok (.invokespecial 45, 3) := by decide +kernel
theorem dX9_init_78 : decode cX9_init 78 = .ok (.putfield 46, 3) := by decide +kernel
theorem dX9_init_81 : decode cX9_init 81 = .ok (.aload_n 0, 1) := by decide +kernel
theorem dX9_init_82 : decode cX9_init 82 = .ok (.new 50, 3) := by decide +kernel
theorem dX9_init_85 : decode cX9_init 85 = .ok (.dup, 1) := by decide +kernel
theorem dX9_init_86 : decode cX9_init 86 = .ok (.invokespecial 52, 3) := by decide +kernel
theorem dX9_init_89 : decode cX9_init 89 = .ok (.putfield 53, 3) := by decide +kernel
theorem dX9_init_92 : decode cX9_init 92 = .ok (.aload_n 0, 1) := by decide +kernel
theorem dX9_init_93 : decode cX9_init 93 = .ok (.new 57, 3) := by decide +kernel
theorem dX9_init_96 : decode cX9_init 96 = .ok (.dup, 1) := by decide +kernel
theorem dX9_init_97 : decode cX9_init 97 = .ok (.invokespecial 59, 3) := by decide +kernel
theorem dX9_init_100 : decode cX9_init 100 = .ok (.putfield 60, 3) := by decide +kernel
theorem dX9_init_103 : decode cX9_init 103 = .ok (.aload_n 0, 1) := by decide +kernel
theorem dX9_init_104 : decode cX9_init 104 = .ok (.new 64, 3) := by decide +kernel
theorem dX9_init_107 : decode cX9_init 107 = .ok (.dup, 1) := by decide +kernel
theorem dX9_init_108 : decode cX9_init 108 = .ok (.invokespecial 66, 3) := by decide +kernel
theorem dX9_init_111 : decode cX9_init 111 = .ok (.putfield 67, 3) := by decide +kernel
theorem dX9_init_114 : decode cX9_init 114 = .ok (.aload_n 0, 1) := by decide +kernel
theorem dX9_init_115 : decode cX9_init 115 = .ok (.new 71, 3) := by decide +kernel
theorem dX9_init_118 : decode cX9_init 118 = .ok (.dup, 1) := by decide +kernel
theorem dX9_init_119 : decode cX9_init 119 = .ok (.invokespecial 73, 3) := by decide +kernel
theorem dX9_init_122 : decode cX9_init 122 = .ok (.putfield 74, 3) := by decide +kernel
theorem dX9_init_125 : decode cX9_init 125 = .ok (.aload_n 0, 1) := by decide +kernel
theorem dX9_init_126 : decode cX9_init 126 = .ok (.iconst 0, 1) := by decide +kernel
theorem dX9_init_127 : decode cX9_init 127 = .ok (.putfield 78, 3) := by decide +kernel
theorem dX9_init_130 : decode cX9_init 130 = .ok (.aload_n 0, 1) := by decide +kernel
theorem dX9_init_131 : decode cX9_init 131 = .ok (.iconst 0, 1) := by decide +kernel
theorem dX9_init_132 : decode cX9_init 132 = .ok (.putfield 82, 3) := by decide +kernel
theorem dX9_init_135 : decode cX9_init 135 = .ok (.aload_n 0, 1) := by decide +kernel
theorem dX9_init_136 : decode cX9_init 136 = .ok (.iconst 0, 1) := by decide +kernel
theorem dX9_init_137 : decode cX9_init 137 = .ok (.putfield 86, 3) := by decide +kernel
theorem dX9_init_140 : decode cX9_init 140 = .ok (.return_, 1) := by decide +kernel
theorem dX9_letter_0 : decode cX9_letter 0 = .ok (.iload_n 1, 1) := by decide +kernel
theorem dX9_letter_1 : decode cX9_letter 1 = .ok (.iconst 1, 1) := by decide +kernel
theorem dX9_letter_2 : decode cX9_letter 2 = .ok (.if_icmp .lt 9, 3) := by decide +kernel
theorem dX9_letter_5 : decode cX9_letter 5 = .ok (.iload_n 1, 1) := by decide +kernel
theorem dX9_letter_6 : decode cX9_letter 6 = .ok (.bipush 126, 2) := by decide +kernel
theorem dX9_letter_8 : decode cX9_letter 8 = .ok (.if_icmp .le 6, 3) := by decide +kernel
theorem dX9_letter_11 : decode cX9_letter 11 = .ok (.bipush (-102), 2) := by decide +kernel
theorem dX9_letter_13 : decode cX9_letter 13 = .ok (.ireturn, 1) := by decide +kernel
theorem dX9_letter_14 : decode cX9_letter 14 = .ok (.aload_n 0, 1) := by decide +kernel
theorem dX9_letter_15 : decode cX9_letter 15 = .ok (.getfield 10, 3) := by decide +kernel
theorem dX9_letter_18 : decode cX9_letter 18 = .ok (.getfield 89, 3) := by decide +kernel
theorem dX9_letter_21 : decode cX9_letter 21 = .ok (.bipush 54, 2) := by decide +kernel
theorem dX9_letter_23 : decode cX9_letter 23 = .ok (.if_icmp .lt 6, 3) := by decide +kernel
theorem dX9_letter_26 : decode cX9_letter 26 = .ok (.bipush (-104), 2) := by decide +kernel
theorem dX9_letter_28 : decode cX9_letter 28 = .ok (.ireturn, 1) := by decide +kernel
theorem dX9_letter_29 : decode cX9_letter 29 = .ok (.aload_n 0, 1) := by decide +kernel
theorem dX9_letter_30 : decode cX9_letter 30 = .ok (.getfield 10, 3) := by decide +kernel
theorem dX9_letter_33 : decode cX9_letter 33 = .ok (.iload_n 1, 1) := by decide +kernel
theorem dX9_letter_34 : decode cX9_letter 34 = .ok (.invokevirtual 92, 3) := by decide +kernel
theorem dX9_letter_37 : decode cX9_letter 37 = .ok (.aload_n 0, 1) := by decide +kernel
theorem dX9_letter_38 : decode cX9_letter 38 = .ok (.getfield 10, 3) := by decide +kernel
theorem dX9_letter_41 : decode cX9_letter 41 = .ok (.getfield 89, 3) := by decide +kernel
theorem dX9_letter_44 : decode cX9_letter 44 = .ok (.ireturn, 1) := by decide +kernel
theorem dX9_blank_0 : decode cX9_blank 0 = .ok (.aload_n 0, 1) := by decide +kernel
theorem dX9_blank_1 : decode cX9_blank 1 = .ok (.getfield 10, 3) := by decide +kernel
theorem dX9_blank_4 : decode cX9_blank 4 = .ok (.getfield 89, 3) := by decide +kernel
theorem dX9_blank_7 : decode cX9_blank 7 = .ok (.istore_n 1, 1) := by decide +kernel
theorem dX9_blank_8 : decode cX9_blank 8 = .ok (.aload_n 0, 1) := by decide +kernel
theorem dX9_blank_9 : decode cX9_blank 9 = .ok (.getfield 10, 3) := by decide +kernel
theorem dX9_blank_12 : decode cX9_blank 12 = .ok (.iconst 0, 1) := by decide +kernel
theorem dX9_blank_13 : decode cX9_blank 13 = .ok (.putfield 89, 3) := by decide +kernel
theorem dX9_blank_16 : decode cX9_blank 16 = .ok (.iload_n 1, 1) := by decide +kernel
theorem dX9_blank_17 : decode cX9_blank 17 = .ok (.ireturn, 1) := by decide +kernel
theorem dX9_fault_0 : decode cX9_fault 0 = .ok (.aload_n 0, 1) := by decide +kernel
theorem dX9_fault_1 : decode cX9_fault 1 = .ok (.getfield 19, 3) := by decide +kernel
theorem dX9_fault_4 : decode cX9_fault 4 = .ok (.aload_n 0, 1) := by decide +kernel
theorem dX9_fault_5 : decode cX9_fault 5 = .ok (.getfield 10, 3) := by decide +kernel
theorem dX9_fault_8 : decode cX9_fault 8 = .ok (.invokevirtual 96, 3) := by decide +kernel
theorem dX9_fault_11 : decode cX9_fault 11 = .ok (.ireturn, 1) := by decide +kernel
theorem dX9_chapel_0 : decode cX9_chapel 0 = .ok (.aload_n 0, 1) := by decide +kernel
theorem dX9_chapel_1 : decode cX9_chapel 1 = .ok (.getfield 19, 3) := by decide +kernel
theorem dX9_chapel_4 : decode cX9_chapel 4 = .ok (.aload_n 0, 1) := by decide +kernel
theorem dX9_chapel_5 : decode cX9_chapel 5 = .ok (.getfield 10, 3) := by decide +kernel
theorem dX9_chapel_8 : decode cX9_chapel 8 = .ok (.invokevirtual 96, 3) := by decide +kernel
theorem dX9_chapel_11 : decode cX9_chapel 11 = .ok (.aload_n 0, 1) := by decide +kernel
theorem dX9_chapel_12 : decode cX9_chapel 12 = .ok (.getfield 10, 3) := by decide +kernel
theorem dX9_chapel_15 : decode cX9_chapel 15 = .ok (.getfield 89, 3) := by decide +kernel
theorem dX9_chapel_18 : decode cX9_chapel 18 = .ok (.if_icmp .lt 13, 3) := by decide +kernel
theorem dX9_chapel_21 : decode cX9_chapel 21 = .ok (.aload_n 0, 1) := by decide +kernel
theorem dX9_chapel_22 : decode cX9_chapel 22 = .ok (.getfield 19, 3) := by decide +kernel
theorem dX9_chapel_25 : decode cX9_chapel 25 = .ok (.invokevirtual 100, 3) := by decide +kernel
theorem dX9_chapel_28 : decode cX9_chapel 28 = .ok (.ifCond .ne 6, 3) := by decide +kernel
theorem dX9_chapel_31 : decode cX9_chapel 31 = .ok (.bipush (-103), 2) := by decide +kernel
theorem dX9_chapel_33 : decode cX9_chapel 33 = .ok (.ireturn, 1) := by decide +kernel
theorem dX9_chapel_34 : decode cX9_chapel 34 = .ok (.aload_n 0, 1) := by decide +kernel
theorem dX9_chapel_35 : decode cX9_chapel 35 = .ok (.getfield 26, 3) := by decide +kernel
theorem dX9_chapel_38 : decode cX9_chapel 38 = .ok (.aload_n 0, 1) := by decide +kernel
theorem dX9_chapel_39 : decode cX9_chapel 39 = .ok (.getfield 19, 3) := by decide +kernel
theorem dX9_chapel_42 : decode cX9_chapel 42 = .ok (.getfield 104, 3) := by decide +kernel
theorem dX9_chapel_45 : decode cX9_chapel 45 = .ok (.invokevirtual 107, 3) := by decide +kernel
theorem dX9_chapel_48 : decode cX9_chapel 48 = .ok (.aload_n 0, 1) := by decide +kernel
theorem dX9_chapel_49 : decode cX9_chapel 49 = .ok (.getfield 10, 3) := by decide +kernel
theorem dX9_chapel_52 : decode cX9_chapel 52 = .ok (.iconst 0, 1) := by decide +kernel
theorem dX9_chapel_53 : decode cX9_chapel 53 = .ok (.putfield 89, 3) := by decide +kernel
theorem dX9_chapel_56 : decode cX9_chapel 56 = .ok (.aload_n 0, 1) := by decide +kernel
theorem dX9_chapel_57 : decode cX9_chapel 57 = .ok (.iconst 0, 1) := by decide +kernel
theorem dX9_chapel_58 : decode cX9_chapel 58 = .ok (.putfield 78, 3) := by decide +kernel
theorem dX9_chapel_61 : decode cX9_chapel 61 = .ok (.aload_n 0, 1) := by decide +kernel
theorem dX9_chapel_62 : decode cX9_chapel 62 = .ok (.dup, 1) := by decide +kernel
theorem dX9_chapel_63 : decode cX9_chapel 63 = .ok (.getfield 82, 3) := by decide +kernel
theorem dX9_chapel_66 : decode cX9_chapel 66 = .ok (.iconst 1, 1) := by decide +kernel
theorem dX9_chapel_67 : decode cX9_chapel 67 = .ok (.iadd, 1) := by decide +kernel
theorem dX9_chapel_68 : decode cX9_chapel 68 = .ok (.putfield 82, 3) := by decide +kernel
theorem dX9_chapel_71 : decode cX9_chapel 71 = .ok (.aload_n 0, 1) := by decide +kernel
theorem dX9_chapel_72 : decode cX9_chapel 72 = .ok (.getfield 26, 3) := by decide +kernel
theorem dX9_chapel_75 : decode cX9_chapel 75 = .ok (.getfield 111, 3) := by decide +kernel
theorem dX9_chapel_78 : decode cX9_chapel 78 = .ok (.ireturn, 1) := by decide +kernel
theorem dX9_person_0 : decode cX9_person 0 = .ok (.aload_n 0, 1) := by decide +kernel
theorem dX9_person_1 : decode cX9_person 1 = .ok (.getfield 26, 3) := by decide +kernel
theorem dX9_person_4 : decode cX9_person 4 = .ok (.iload_n 1, 1) := by decide +kernel
theorem dX9_person_5 : decode cX9_person 5 = .ok (.invokevirtual 114, 3) := by decide +kernel
theorem dX9_person_8 : decode cX9_person 8 = .ok (.ifCond .ne 6, 3) := by decide +kernel
theorem dX9_person_11 : decode cX9_person 11 = .ok (.bipush (-101), 2) := by decide +kernel
theorem dX9_person_13 : decode cX9_person 13 = .ok (.ireturn, 1) := by decide +kernel
theorem dX9_person_14 : decode cX9_person 14 = .ok (.iload_n 2, 1) := by decide +kernel
theorem dX9_person_15 : decode cX9_person 15 = .ok (.tableswitch 118 0 5 #[37, 47, 57, 63, 80, 90], 37) := by decide +kernel
theorem dX9_person_52 : decode cX9_person 52 = .ok (.aload_n 0, 1) := by decide +kernel
theorem dX9_person_53 : decode cX9_person 53 = .ok (.getfield 26, 3) := by decide +kernel
theorem dX9_person_56 : decode cX9_person 56 = .ok (.getfield 118, 3) := by decide +kernel
theorem dX9_person_59 : decode cX9_person 59 = .ok (.iload_n 1, 1) := by decide +kernel
theorem dX9_person_60 : decode cX9_person 60 = .ok (.iaload, 1) := by decide +kernel
theorem dX9_person_61 : decode cX9_person 61 = .ok (.ireturn, 1) := by decide +kernel
theorem dX9_person_62 : decode cX9_person 62 = .ok (.aload_n 0, 1) := by decide +kernel
theorem dX9_person_63 : decode cX9_person 63 = .ok (.getfield 26, 3) := by decide +kernel
theorem dX9_person_66 : decode cX9_person 66 = .ok (.getfield 122, 3) := by decide +kernel
theorem dX9_person_69 : decode cX9_person 69 = .ok (.iload_n 1, 1) := by decide +kernel
theorem dX9_person_70 : decode cX9_person 70 = .ok (.iaload, 1) := by decide +kernel
theorem dX9_person_71 : decode cX9_person 71 = .ok (.ireturn, 1) := by decide +kernel
theorem dX9_person_72 : decode cX9_person 72 = .ok (.aload_n 0, 1) := by decide +kernel
theorem dX9_person_73 : decode cX9_person 73 = .ok (.iload_n 1, 1) := by decide +kernel
theorem dX9_person_74 : decode cX9_person 74 = .ok (.invokevirtual 125, 3) := by decide +kernel
theorem dX9_person_77 : decode cX9_person 77 = .ok (.ireturn, 1) := by decide +kernel
theorem dX9_person_78 : decode cX9_person 78 = .ok (.aload_n 0, 1) := by decide +kernel
theorem dX9_person_79 : decode cX9_person 79 = .ok (.invokevirtual 129, 3) := by decide +kernel
theorem dX9_person_82 : decode cX9_person 82 = .ok (.iload_n 1, 1) := by decide +kernel
theorem dX9_person_83 : decode cX9_person 83 = .ok (.invokestatic 133, 3) := by decide +kernel
theorem dX9_person_86 : decode cX9_person 86 = .ok (.ifCond .eq 7, 3) := by decide +kernel
theorem dX9_person_89 : decode cX9_person 89 = .ok (.iconst 1, 1) := by decide +kernel
theorem dX9_person_90 : decode cX9_person 90 = .ok (.goto 4, 3) := by decide +kernel
theorem dX9_person_93 : decode cX9_person 93 = .ok (.iconst 0, 1) := by decide +kernel
theorem dX9_person_94 : decode cX9_person 94 = .ok (.ireturn, 1) := by decide +kernel
theorem dX9_person_95 : decode cX9_person 95 = .ok (.aload_n 0, 1) := by decide +kernel
theorem dX9_person_96 : decode cX9_person 96 = .ok (.getfield 26, 3) := by decide +kernel
theorem dX9_person_99 : decode cX9_person 99 = .ok (.getfield 137, 3) := by decide +kernel
theorem dX9_person_102 : decode cX9_person 102 = .ok (.iload_n 1, 1) := by decide +kernel
theorem dX9_person_103 : decode cX9_person 103 = .ok (.iaload, 1) := by decide +kernel
theorem dX9_person_104 : decode cX9_person 104 = .ok (.ireturn, 1) := by decide +kernel
theorem dX9_person_105 : decode cX9_person 105 = .ok (.aload_n 0, 1) := by decide +kernel
theorem dX9_person_106 : decode cX9_person 106 = .ok (.getfield 46, 3) := by decide +kernel
theorem dX9_person_109 : decode cX9_person 109 = .ok (.aload_n 0, 1) := by decide +kernel
theorem dX9_person_110 : decode cX9_person 110 = .ok (.getfield 26, 3) := by decide +kernel
theorem dX9_person_113 : decode cX9_person 113 = .ok (.aload_n 0, 1) := by decide +kernel
theorem dX9_person_114 : decode cX9_person 114 = .ok (.getfield 26, 3) := by decide +kernel
theorem dX9_person_117 : decode cX9_person 117 = .ok (.getfield 140, 3) := by decide +kernel
theorem dX9_person_120 : decode cX9_person 120 = .ok (.invokevirtual 143, 3) := by decide +kernel
theorem dX9_person_123 : decode cX9_person 123 = .ok (.aload_n 0, 1) := by decide +kernel
theorem dX9_person_124 : decode cX9_person 124 = .ok (.getfield 46, 3) := by decide +kernel
theorem dX9_person_127 : decode cX9_person 127 = .ok (.getfield 147, 3) := by decide +kernel
theorem dX9_person_130 : decode cX9_person 130 = .ok (.iload_n 1, 1) := by decide +kernel
theorem dX9_person_131 : decode cX9_person 131 = .ok (.iaload, 1) := by decide +kernel
theorem dX9_person_132 : decode cX9_person 132 = .ok (.ireturn, 1) := by decide +kernel
theorem dX9_person_133 : decode cX9_person 133 = .ok (.bipush (-102), 2) := by decide +kernel
theorem dX9_person_135 : decode cX9_person 135 = .ok (.ireturn, 1) := by decide +kernel
theorem dX9_as_0 : decode cX9_as 0 = .ok (.aload_n 0, 1) := by decide +kernel
theorem dX9_as_1 : decode cX9_as 1 = .ok (.getfield 26, 3) := by decide +kernel
theorem dX9_as_4 : decode cX9_as 4 = .ok (.iload_n 1, 1) := by decide +kernel
theorem dX9_as_5 : decode cX9_as 5 = .ok (.invokevirtual 114, 3) := by decide +kernel
theorem dX9_as_8 : decode cX9_as 8 = .ok (.ifCond .ne 6, 3) := by decide +kernel
theorem dX9_as_11 : decode cX9_as 11 = .ok (.bipush (-101), 2) := by decide +kernel
theorem dX9_as_13 : decode cX9_as 13 = .ok (.ireturn, 1) := by decide +kernel
theorem dX9_as_14 : decode cX9_as 14 = .ok (.iload_n 2, 1) := by decide +kernel
theorem dX9_as_15 : decode cX9_as 15 = .ok (.invokestatic 150, 3) := by decide +kernel
theorem dX9_as_18 : decode cX9_as 18 = .ok (.ifCond .ne 6, 3) := by decide +kernel
theorem dX9_as_21 : decode cX9_as 21 = .ok (.bipush (-102), 2) := by decide +kernel
theorem dX9_as_23 : decode cX9_as 23 = .ok (.ireturn, 1) := by decide +kernel
theorem dX9_as_24 : decode cX9_as 24 = .ok (.aload_n 0, 1) := by decide +kernel
theorem dX9_as_25 : decode cX9_as 25 = .ok (.getfield 26, 3) := by decide +kernel
theorem dX9_as_28 : decode cX9_as 28 = .ok (.getfield 118, 3) := by decide +kernel
theorem dX9_as_31 : decode cX9_as 31 = .ok (.iload_n 1, 1) := by decide +kernel
theorem dX9_as_32 : decode cX9_as 32 = .ok (.iaload, 1) := by decide +kernel
theorem dX9_as_33 : decode cX9_as 33 = .ok (.iload_n 2, 1) := by decide +kernel
theorem dX9_as_34 : decode cX9_as 34 = .ok (.invokestatic 153, 3) := by decide +kernel
theorem dX9_as_37 : decode cX9_as 37 = .ok (.ifCond .eq 7, 3) := by decide +kernel
theorem dX9_as_40 : decode cX9_as 40 = .ok (.iload_n 1, 1) := by decide +kernel
theorem dX9_as_41 : decode cX9_as 41 = .ok (.goto 4, 3) := by decide +kernel
theorem dX9_as_44 : decode cX9_as 44 = .ok (.iconst (-1), 1) := by decide +kernel
theorem dX9_as_45 : decode cX9_as 45 = .ok (.ireturn, 1) := by decide +kernel
theorem dX9_wrong_0 : decode cX9_wrong 0 = .ok (.aload_n 0, 1) := by decide +kernel
theorem dX9_wrong_1 : decode cX9_wrong 1 = .ok (.getfield 26, 3) := by decide +kernel
theorem dX9_wrong_4 : decode cX9_wrong 4 = .ok (.iload_n 1, 1) := by decide +kernel
theorem dX9_wrong_5 : decode cX9_wrong 5 = .ok (.invokevirtual 156, 3) := by decide +kernel
theorem dX9_wrong_8 : decode cX9_wrong 8 = .ok (.ifCond .ne 6, 3) := by decide +kernel
theorem dX9_wrong_11 : decode cX9_wrong 11 = .ok (.bipush (-101), 2) := by decide +kernel
theorem dX9_wrong_13 : decode cX9_wrong 13 = .ok (.ireturn, 1) := by decide +kernel
theorem dX9_wrong_14 : decode cX9_wrong 14 = .ok (.iload_n 2, 1) := by decide +kernel
theorem dX9_wrong_15 : decode cX9_wrong 15 = .ok (.tableswitch 140 0 5 #[37, 47, 57, 67, 84, 112], 37) := by decide +kernel
theorem dX9_wrong_52 : decode cX9_wrong 52 = .ok (.aload_n 0, 1) := by decide +kernel
theorem dX9_wrong_53 : decode cX9_wrong 53 = .ok (.getfield 26, 3) := by decide +kernel
theorem dX9_wrong_56 : decode cX9_wrong 56 = .ok (.getfield 159, 3) := by decide +kernel
theorem dX9_wrong_59 : decode cX9_wrong 59 = .ok (.iload_n 1, 1) := by decide +kernel
theorem dX9_wrong_60 : decode cX9_wrong 60 = .ok (.iaload, 1) := by decide +kernel
theorem dX9_wrong_61 : decode cX9_wrong 61 = .ok (.ireturn, 1) := by decide +kernel
theorem dX9_wrong_62 : decode cX9_wrong 62 = .ok (.aload_n 0, 1) := by decide +kernel
theorem dX9_wrong_63 : decode cX9_wrong 63 = .ok (.getfield 26, 3) := by decide +kernel
theorem dX9_wrong_66 : decode cX9_wrong 66 = .ok (.getfield 162, 3) := by decide +kernel
theorem dX9_wrong_69 : decode cX9_wrong 69 = .ok (.iload_n 1, 1) := by decide +kernel
theorem dX9_wrong_70 : decode cX9_wrong 70 = .ok (.iaload, 1) := by decide +kernel
theorem dX9_wrong_71 : decode cX9_wrong 71 = .ok (.ireturn, 1) := by decide +kernel
theorem dX9_wrong_72 : decode cX9_wrong 72 = .ok (.aload_n 0, 1) := by decide +kernel
theorem dX9_wrong_73 : decode cX9_wrong 73 = .ok (.getfield 26, 3) := by decide +kernel
theorem dX9_wrong_76 : decode cX9_wrong 76 = .ok (.getfield 165, 3) := by decide +kernel
theorem dX9_wrong_79 : decode cX9_wrong 79 = .ok (.iload_n 1, 1) := by decide +kernel
theorem dX9_wrong_80 : decode cX9_wrong 80 = .ok (.iaload, 1) := by decide +kernel
theorem dX9_wrong_81 : decode cX9_wrong 81 = .ok (.ireturn, 1) := by decide +kernel
theorem dX9_wrong_82 : decode cX9_wrong 82 = .ok (.aload_n 0, 1) := by decide +kernel
theorem dX9_wrong_83 : decode cX9_wrong 83 = .ok (.getfield 26, 3) := by decide +kernel
theorem dX9_wrong_86 : decode cX9_wrong 86 = .ok (.iload_n 1, 1) := by decide +kernel
theorem dX9_wrong_87 : decode cX9_wrong 87 = .ok (.invokevirtual 168, 3) := by decide +kernel
theorem dX9_wrong_90 : decode cX9_wrong 90 = .ok (.ifCond .eq 7, 3) := by decide +kernel
theorem dX9_wrong_93 : decode cX9_wrong 93 = .ok (.iconst 1, 1) := by decide +kernel
theorem dX9_wrong_94 : decode cX9_wrong 94 = .ok (.goto 4, 3) := by decide +kernel
theorem dX9_wrong_97 : decode cX9_wrong 97 = .ok (.iconst 0, 1) := by decide +kernel
theorem dX9_wrong_98 : decode cX9_wrong 98 = .ok (.ireturn, 1) := by decide +kernel
theorem dX9_wrong_99 : decode cX9_wrong 99 = .ok (.aload_n 0, 1) := by decide +kernel
theorem dX9_wrong_100 : decode cX9_wrong 100 = .ok (.getfield 67, 3) := by decide +kernel
theorem dX9_wrong_103 : decode cX9_wrong 103 = .ok (.aload_n 0, 1) := by decide +kernel
theorem dX9_wrong_104 : decode cX9_wrong 104 = .ok (.getfield 26, 3) := by decide +kernel
theorem dX9_wrong_107 : decode cX9_wrong 107 = .ok (.iload_n 1, 1) := by decide +kernel
theorem dX9_wrong_108 : decode cX9_wrong 108 = .ok (.aload_n 0, 1) := by decide +kernel
theorem dX9_wrong_109 : decode cX9_wrong 109 = .ok (.getfield 33, 3) := by decide +kernel
theorem dX9_wrong_112 : decode cX9_wrong 112 = .ok (.aload_n 0, 1) := by decide +kernel
theorem dX9_wrong_113 : decode cX9_wrong 113 = .ok (.getfield 39, 3) := by decide +kernel
theorem dX9_wrong_116 : decode cX9_wrong 116 = .ok (.invokevirtual 171, 3) := by decide +kernel
theorem dX9_wrong_119 : decode cX9_wrong 119 = .ok (.aload_n 0, 1) := by decide +kernel
theorem dX9_wrong_120 : decode cX9_wrong 120 = .ok (.getfield 67, 3) := by decide +kernel
theorem dX9_wrong_123 : decode cX9_wrong 123 = .ok (.getfield 174, 3) := by decide +kernel
theorem dX9_wrong_126 : decode cX9_wrong 126 = .ok (.ireturn, 1) := by decide +kernel
theorem dX9_wrong_127 : decode cX9_wrong 127 = .ok (.aload_n 0, 1) := by decide +kernel
theorem dX9_wrong_128 : decode cX9_wrong 128 = .ok (.getfield 67, 3) := by decide +kernel
theorem dX9_wrong_131 : decode cX9_wrong 131 = .ok (.aload_n 0, 1) := by decide +kernel
theorem dX9_wrong_132 : decode cX9_wrong 132 = .ok (.getfield 26, 3) := by decide +kernel
theorem dX9_wrong_135 : decode cX9_wrong 135 = .ok (.iload_n 1, 1) := by decide +kernel
theorem dX9_wrong_136 : decode cX9_wrong 136 = .ok (.aload_n 0, 1) := by decide +kernel
theorem dX9_wrong_137 : decode cX9_wrong 137 = .ok (.getfield 33, 3) := by decide +kernel
theorem dX9_wrong_140 : decode cX9_wrong 140 = .ok (.aload_n 0, 1) := by decide +kernel
theorem dX9_wrong_141 : decode cX9_wrong 141 = .ok (.getfield 39, 3) := by decide +kernel
theorem dX9_wrong_144 : decode cX9_wrong 144 = .ok (.invokevirtual 171, 3) := by decide +kernel
theorem dX9_wrong_147 : decode cX9_wrong 147 = .ok (.aload_n 0, 1) := by decide +kernel
theorem dX9_wrong_148 : decode cX9_wrong 148 = .ok (.getfield 67, 3) := by decide +kernel
theorem dX9_wrong_151 : decode cX9_wrong 151 = .ok (.invokevirtual 177, 3) := by decide +kernel
theorem dX9_wrong_154 : decode cX9_wrong 154 = .ok (.ireturn, 1) := by decide +kernel
theorem dX9_wrong_155 : decode cX9_wrong 155 = .ok (.bipush (-102), 2) := by decide +kernel
theorem dX9_wrong_157 : decode cX9_wrong 157 = .ok (.ireturn, 1) := by decide +kernel
theorem dX9_to_0 : decode cX9_to 0 = .ok (.aload_n 0, 1) := by decide +kernel
theorem dX9_to_1 : decode cX9_to 1 = .ok (.getfield 26, 3) := by decide +kernel
theorem dX9_to_4 : decode cX9_to 4 = .ok (.iload_n 1, 1) := by decide +kernel
theorem dX9_to_5 : decode cX9_to 5 = .ok (.invokevirtual 114, 3) := by decide +kernel
theorem dX9_to_8 : decode cX9_to 8 = .ok (.ifCond .eq 19, 3) := by decide +kernel
theorem dX9_to_11 : decode cX9_to 11 = .ok (.aload_n 0, 1) := by decide +kernel
theorem dX9_to_12 : decode cX9_to 12 = .ok (.getfield 26, 3) := by decide +kernel
theorem dX9_to_15 : decode cX9_to 15 = .ok (.iload_n 2, 1) := by decide +kernel
theorem dX9_to_16 : decode cX9_to 16 = .ok (.invokevirtual 114, 3) := by decide +kernel
theorem dX9_to_19 : decode cX9_to 19 = .ok (.ifCond .eq 8, 3) := by decide +kernel
theorem dX9_to_22 : decode cX9_to 22 = .ok (.iload_n 1, 1) := by decide +kernel
theorem dX9_to_23 : decode cX9_to 23 = .ok (.iload_n 2, 1) := by decide +kernel
theorem dX9_to_24 : decode cX9_to 24 = .ok (.if_icmp .ne 6, 3) := by decide +kernel
theorem dX9_to_27 : decode cX9_to 27 = .ok (.bipush (-101), 2) := by decide +kernel
theorem dX9_to_29 : decode cX9_to 29 = .ok (.ireturn, 1) := by decide +kernel
theorem dX9_to_30 : decode cX9_to 30 = .ok (.aload_n 0, 1) := by decide +kernel
theorem dX9_to_31 : decode cX9_to 31 = .ok (.getfield 46, 3) := by decide +kernel
theorem dX9_to_34 : decode cX9_to 34 = .ok (.aload_n 0, 1) := by decide +kernel
theorem dX9_to_35 : decode cX9_to 35 = .ok (.getfield 26, 3) := by decide +kernel
theorem dX9_to_38 : decode cX9_to 38 = .ok (.aload_n 0, 1) := by decide +kernel
theorem dX9_to_39 : decode cX9_to 39 = .ok (.getfield 26, 3) := by decide +kernel
theorem dX9_to_42 : decode cX9_to 42 = .ok (.getfield 140, 3) := by decide +kernel
theorem dX9_to_45 : decode cX9_to 45 = .ok (.invokevirtual 143, 3) := by decide +kernel
theorem dX9_to_48 : decode cX9_to 48 = .ok (.aload_n 0, 1) := by decide +kernel
theorem dX9_to_49 : decode cX9_to 49 = .ok (.getfield 46, 3) := by decide +kernel
theorem dX9_to_52 : decode cX9_to 52 = .ok (.iload_n 1, 1) := by decide +kernel
theorem dX9_to_53 : decode cX9_to 53 = .ok (.iload_n 2, 1) := by decide +kernel
theorem dX9_to_54 : decode cX9_to 54 = .ok (.invokevirtual 180, 3) := by decide +kernel
theorem dX9_to_57 : decode cX9_to 57 = .ok (.ireturn, 1) := by decide +kernel
theorem dX9_sunday_0 : decode cX9_sunday 0 = .ok (.aload_n 0, 1) := by decide +kernel
theorem dX9_sunday_1 : decode cX9_sunday 1 = .ok (.getfield 26, 3) := by decide +kernel
theorem dX9_sunday_4 : decode cX9_sunday 4 = .ok (.invokevirtual 184, 3) := by decide +kernel
theorem dX9_sunday_7 : decode cX9_sunday 7 = .ok (.ifCond .ne 6, 3) := by decide +kernel
theorem dX9_sunday_10 : decode cX9_sunday 10 = .ok (.bipush (-103), 2) := by decide +kernel
theorem dX9_sunday_12 : decode cX9_sunday 12 = .ok (.ireturn, 1) := by decide +kernel
theorem dX9_sunday_13 : decode cX9_sunday 13 = .ok (.aload_n 0, 1) := by decide +kernel
theorem dX9_sunday_14 : decode cX9_sunday 14 = .ok (.getfield 26, 3) := by decide +kernel
theorem dX9_sunday_17 : decode cX9_sunday 17 = .ok (.getfield 187, 3) := by decide +kernel
theorem dX9_sunday_20 : decode cX9_sunday 20 = .ok (.sipush 999, 3) := by decide +kernel
theorem dX9_sunday_23 : decode cX9_sunday 23 = .ok (.if_icmp .lt 6, 3) := by decide +kernel
theorem dX9_sunday_26 : decode cX9_sunday 26 = .ok (.bipush (-104), 2) := by decide +kernel
theorem dX9_sunday_28 : decode cX9_sunday 28 = .ok (.ireturn, 1) := by decide +kernel
theorem dX9_sunday_29 : decode cX9_sunday 29 = .ok (.aload_n 0, 1) := by decide +kernel
theorem dX9_sunday_30 : decode cX9_sunday 30 = .ok (.getfield 26, 3) := by decide +kernel
theorem dX9_sunday_33 : decode cX9_sunday 33 = .ok (.aload_n 0, 1) := by decide +kernel
theorem dX9_sunday_34 : decode cX9_sunday 34 = .ok (.invokevirtual 129, 3) := by decide +kernel
theorem dX9_sunday_37 : decode cX9_sunday 37 = .ok (.invokevirtual 190, 3) := by decide +kernel
theorem dX9_sunday_40 : decode cX9_sunday 40 = .ok (.ireturn, 1) := by decide +kernel
theorem dX9_forgive_0 : decode cX9_forgive 0 = .ok (.aload_n 0, 1) := by decide +kernel
theorem dX9_forgive_1 : decode cX9_forgive 1 = .ok (.getfield 26, 3) := by decide +kernel
theorem dX9_forgive_4 : decode cX9_forgive 4 = .ok (.iload_n 1, 1) := by decide +kernel
theorem dX9_forgive_5 : decode cX9_forgive 5 = .ok (.invokevirtual 156, 3) := by decide +kernel
theorem dX9_forgive_8 : decode cX9_forgive 8 = .ok (.ifCond .ne 6, 3) := by decide +kernel
theorem dX9_forgive_11 : decode cX9_forgive 11 = .ok (.bipush (-101), 2) := by decide +kernel
theorem dX9_forgive_13 : decode cX9_forgive 13 = .ok (.ireturn, 1) := by decide +kernel
theorem dX9_forgive_14 : decode cX9_forgive 14 = .ok (.aload_n 0, 1) := by decide +kernel
theorem dX9_forgive_15 : decode cX9_forgive 15 = .ok (.getfield 26, 3) := by decide +kernel
theorem dX9_forgive_18 : decode cX9_forgive 18 = .ok (.iload_n 1, 1) := by decide +kernel
theorem dX9_forgive_19 : decode cX9_forgive 19 = .ok (.invokevirtual 168, 3) := by decide +kernel
theorem dX9_forgive_22 : decode cX9_forgive 22 = .ok (.ifCond .eq 6, 3) := by decide +kernel
theorem dX9_forgive_25 : decode cX9_forgive 25 = .ok (.bipush (-103), 2) := by decide +kernel
theorem dX9_forgive_27 : decode cX9_forgive 27 = .ok (.ireturn, 1) := by decide +kernel
theorem dX9_forgive_28 : decode cX9_forgive 28 = .ok (.aload_n 0, 1) := by decide +kernel
theorem dX9_forgive_29 : decode cX9_forgive 29 = .ok (.getfield 26, 3) := by decide +kernel
theorem dX9_forgive_32 : decode cX9_forgive 32 = .ok (.dup, 1) := by decide +kernel
theorem dX9_forgive_33 : decode cX9_forgive 33 = .ok (.getfield 140, 3) := by decide +kernel
theorem dX9_forgive_36 : decode cX9_forgive 36 = .ok (.iconst 1, 1) := by decide +kernel
theorem dX9_forgive_37 : decode cX9_forgive 37 = .ok (.iload_n 1, 1) := by decide +kernel
theorem dX9_forgive_38 : decode cX9_forgive 38 = .ok (.ishl, 1) := by decide +kernel
theorem dX9_forgive_39 : decode cX9_forgive 39 = .ok (.ior, 1) := by decide +kernel
theorem dX9_forgive_40 : decode cX9_forgive 40 = .ok (.putfield 140, 3) := by decide +kernel
theorem dX9_forgive_43 : decode cX9_forgive 43 = .ok (.aload_n 0, 1) := by decide +kernel
theorem dX9_forgive_44 : decode cX9_forgive 44 = .ok (.aload_n 0, 1) := by decide +kernel
theorem dX9_forgive_45 : decode cX9_forgive 45 = .ok (.getfield 26, 3) := by decide +kernel
theorem dX9_forgive_48 : decode cX9_forgive 48 = .ok (.getfield 159, 3) := by decide +kernel
theorem dX9_forgive_51 : decode cX9_forgive 51 = .ok (.iload_n 1, 1) := by decide +kernel
theorem dX9_forgive_52 : decode cX9_forgive 52 = .ok (.iaload, 1) := by decide +kernel
theorem dX9_forgive_53 : decode cX9_forgive 53 = .ok (.invokevirtual 125, 3) := by decide +kernel
theorem dX9_forgive_56 : decode cX9_forgive 56 = .ok (.ireturn, 1) := by decide +kernel
theorem dX9_again_0 : decode cX9_again 0 = .ok (.aload_n 0, 1) := by decide +kernel
theorem dX9_again_1 : decode cX9_again 1 = .ok (.getfield 26, 3) := by decide +kernel
theorem dX9_again_4 : decode cX9_again 4 = .ok (.iload_n 1, 1) := by decide +kernel
theorem dX9_again_5 : decode cX9_again 5 = .ok (.invokevirtual 156, 3) := by decide +kernel
theorem dX9_again_8 : decode cX9_again 8 = .ok (.ifCond .ne 6, 3) := by decide +kernel
theorem dX9_again_11 : decode cX9_again 11 = .ok (.bipush (-101), 2) := by decide +kernel
theorem dX9_again_13 : decode cX9_again 13 = .ok (.ireturn, 1) := by decide +kernel
theorem dX9_again_14 : decode cX9_again 14 = .ok (.iload_n 2, 1) := by decide +kernel
theorem dX9_again_15 : decode cX9_again 15 = .ok (.iconst 1, 1) := by decide +kernel
theorem dX9_again_16 : decode cX9_again 16 = .ok (.if_icmp .lt 9, 3) := by decide +kernel
theorem dX9_again_19 : decode cX9_again 19 = .ok (.iload_n 2, 1) := by decide +kernel
theorem dX9_again_20 : decode cX9_again 20 = .ok (.bipush 9, 2) := by decide +kernel
theorem dX9_again_22 : decode cX9_again 22 = .ok (.if_icmp .le 6, 3) := by decide +kernel
theorem dX9_again_25 : decode cX9_again 25 = .ok (.bipush (-102), 2) := by decide +kernel
theorem dX9_again_27 : decode cX9_again 27 = .ok (.ireturn, 1) := by decide +kernel
theorem dX9_again_28 : decode cX9_again 28 = .ok (.aload_n 0, 1) := by decide +kernel
theorem dX9_again_29 : decode cX9_again 29 = .ok (.getfield 26, 3) := by decide +kernel
theorem dX9_again_32 : decode cX9_again 32 = .ok (.getfield 165, 3) := by decide +kernel
theorem dX9_again_35 : decode cX9_again 35 = .ok (.iload_n 1, 1) := by decide +kernel
theorem dX9_again_36 : decode cX9_again 36 = .ok (.iload_n 2, 1) := by decide +kernel
theorem dX9_again_37 : decode cX9_again 37 = .ok (.iastore, 1) := by decide +kernel
theorem dX9_again_38 : decode cX9_again 38 = .ok (.aload_n 0, 1) := by decide +kernel
theorem dX9_again_39 : decode cX9_again 39 = .ok (.getfield 26, 3) := by decide +kernel
theorem dX9_again_42 : decode cX9_again 42 = .ok (.dup, 1) := by decide +kernel
theorem dX9_again_43 : decode cX9_again 43 = .ok (.getfield 140, 3) := by decide +kernel
theorem dX9_again_46 : decode cX9_again 46 = .ok (.iconst 1, 1) := by decide +kernel
theorem dX9_again_47 : decode cX9_again 47 = .ok (.iload_n 1, 1) := by decide +kernel
theorem dX9_again_48 : decode cX9_again 48 = .ok (.ishl, 1) := by decide +kernel
theorem dX9_again_49 : decode cX9_again 49 = .ok (.iconst (-1), 1) := by decide +kernel
theorem dX9_again_50 : decode cX9_again 50 = .ok (.ixor, 1) := by decide +kernel
theorem dX9_again_51 : decode cX9_again 51 = .ok (.iand, 1) := by decide +kernel
theorem dX9_again_52 : decode cX9_again 52 = .ok (.putfield 140, 3) := by decide +kernel
theorem dX9_again_55 : decode cX9_again 55 = .ok (.aload_n 0, 1) := by decide +kernel
theorem dX9_again_56 : decode cX9_again 56 = .ok (.aload_n 0, 1) := by decide +kernel
theorem dX9_again_57 : decode cX9_again 57 = .ok (.getfield 26, 3) := by decide +kernel
theorem dX9_again_60 : decode cX9_again 60 = .ok (.getfield 159, 3) := by decide +kernel
theorem dX9_again_63 : decode cX9_again 63 = .ok (.iload_n 1, 1) := by decide +kernel
theorem dX9_again_64 : decode cX9_again 64 = .ok (.iaload, 1) := by decide +kernel
theorem dX9_again_65 : decode cX9_again 65 = .ok (.invokevirtual 125, 3) := by decide +kernel
theorem dX9_again_68 : decode cX9_again 68 = .ok (.ireturn, 1) := by decide +kernel
theorem dX9_room_0 : decode cX9_room 0 = .ok (.iload_n 1, 1) := by decide +kernel
theorem dX9_room_1 : decode cX9_room 1 = .ok (.invokestatic 193, 3) := by decide +kernel
theorem dX9_room_4 : decode cX9_room 4 = .ok (.ifCond .ne 6, 3) := by decide +kernel
theorem dX9_room_7 : decode cX9_room 7 = .ok (.bipush (-102), 2) := by decide +kernel
theorem dX9_room_9 : decode cX9_room 9 = .ok (.ireturn, 1) := by decide +kernel
theorem dX9_room_10 : decode cX9_room 10 = .ok (.aload_n 0, 1) := by decide +kernel
theorem dX9_room_11 : decode cX9_room 11 = .ok (.getfield 26, 3) := by decide +kernel
theorem dX9_room_14 : decode cX9_room 14 = .ok (.invokevirtual 184, 3) := by decide +kernel
theorem dX9_room_17 : decode cX9_room 17 = .ok (.ifCond .ne 6, 3) := by decide +kernel
theorem dX9_room_20 : decode cX9_room 20 = .ok (.bipush (-103), 2) := by decide +kernel
theorem dX9_room_22 : decode cX9_room 22 = .ok (.ireturn, 1) := by decide +kernel
theorem dX9_room_23 : decode cX9_room 23 = .ok (.aload_n 0, 1) := by decide +kernel
theorem dX9_room_24 : decode cX9_room 24 = .ok (.getfield 26, 3) := by decide +kernel
theorem dX9_room_27 : decode cX9_room 27 = .ok (.getfield 196, 3) := by decide +kernel
theorem dX9_room_30 : decode cX9_room 30 = .ok (.istore_n 2, 1) := by decide +kernel
theorem dX9_room_31 : decode cX9_room 31 = .ok (.aload_n 0, 1) := by decide +kernel
theorem dX9_room_32 : decode cX9_room 32 = .ok (.getfield 26, 3) := by decide +kernel
theorem dX9_room_35 : decode cX9_room 35 = .ok (.iload_n 1, 1) := by decide +kernel
theorem dX9_room_36 : decode cX9_room 36 = .ok (.putfield 196, 3) := by decide +kernel
theorem dX9_room_39 : decode cX9_room 39 = .ok (.iload_n 2, 1) := by decide +kernel
theorem dX9_room_40 : decode cX9_room 40 = .ok (.ireturn, 1) := by decide +kernel
theorem dX9_change_0 : decode cX9_change 0 = .ok (.aload_n 0, 1) := by decide +kernel
theorem dX9_change_1 : decode cX9_change 1 = .ok (.getfield 26, 3) := by decide +kernel
theorem dX9_change_4 : decode cX9_change 4 = .ok (.iload_n 1, 1) := by decide +kernel
theorem dX9_change_5 : decode cX9_change 5 = .ok (.invokevirtual 114, 3) := by decide +kernel
theorem dX9_change_8 : decode cX9_change 8 = .ok (.ifCond .ne 6, 3) := by decide +kernel
theorem dX9_change_11 : decode cX9_change 11 = .ok (.bipush (-101), 2) := by decide +kernel
theorem dX9_change_13 : decode cX9_change 13 = .ok (.ireturn, 1) := by decide +kernel
theorem dX9_change_14 : decode cX9_change 14 = .ok (.iload_n 2, 1) := by decide +kernel
theorem dX9_change_15 : decode cX9_change 15 = .ok (.invokestatic 150, 3) := by decide +kernel
theorem dX9_change_18 : decode cX9_change 18 = .ok (.ifCond .eq 13, 3) := by decide +kernel
theorem dX9_change_21 : decode cX9_change 21 = .ok (.iload_n 3, 1) := by decide +kernel
theorem dX9_change_22 : decode cX9_change 22 = .ok (.ifCond .lt 9, 3) := by decide +kernel
theorem dX9_change_25 : decode cX9_change 25 = .ok (.iload_n 3, 1) := by decide +kernel
theorem dX9_change_26 : decode cX9_change 26 = .ok (.bipush 20, 2) := by decide +kernel
theorem dX9_change_28 : decode cX9_change 28 = .ok (.if_icmp .le 6, 3) := by decide +kernel
theorem dX9_change_31 : decode cX9_change 31 = .ok (.bipush (-102), 2) := by decide +kernel
theorem dX9_change_33 : decode cX9_change 33 = .ok (.ireturn, 1) := by decide +kernel
theorem dX9_change_34 : decode cX9_change 34 = .ok (.aload_n 0, 1) := by decide +kernel
theorem dX9_change_35 : decode cX9_change 35 = .ok (.getfield 26, 3) := by decide +kernel
theorem dX9_change_38 : decode cX9_change 38 = .ok (.getfield 118, 3) := by decide +kernel
theorem dX9_change_41 : decode cX9_change 41 = .ok (.iload_n 1, 1) := by decide +kernel
theorem dX9_change_42 : decode cX9_change 42 = .ok (.iaload, 1) := by decide +kernel
theorem dX9_change_43 : decode cX9_change 43 = .ok (.istore 4, 2) := by decide +kernel
theorem dX9_change_45 : decode cX9_change 45 = .ok (.aload_n 0, 1) := by decide +kernel
theorem dX9_change_46 : decode cX9_change 46 = .ok (.getfield 26, 3) := by decide +kernel
theorem dX9_change_49 : decode cX9_change 49 = .ok (.getfield 118, 3) := by decide +kernel
theorem dX9_change_52 : decode cX9_change 52 = .ok (.iload_n 1, 1) := by decide +kernel
theorem dX9_change_53 : decode cX9_change 53 = .ok (.iload_n 2, 1) := by decide +kernel
theorem dX9_change_54 : decode cX9_change 54 = .ok (.iastore, 1) := by decide +kernel
theorem dX9_change_55 : decode cX9_change 55 = .ok (.aload_n 0, 1) := by decide +kernel
theorem dX9_change_56 : decode cX9_change 56 = .ok (.getfield 26, 3) := by decide +kernel
theorem dX9_change_59 : decode cX9_change 59 = .ok (.getfield 122, 3) := by decide +kernel
theorem dX9_change_62 : decode cX9_change 62 = .ok (.iload_n 1, 1) := by decide +kernel
theorem dX9_change_63 : decode cX9_change 63 = .ok (.iload_n 3, 1) := by decide +kernel
theorem dX9_change_64 : decode cX9_change 64 = .ok (.iastore, 1) := by decide +kernel
theorem dX9_change_65 : decode cX9_change 65 = .ok (.iload 4, 2) := by decide +kernel
theorem dX9_change_67 : decode cX9_change 67 = .ok (.ireturn, 1) := by decide +kernel
theorem dX9_leave_0 : decode cX9_leave 0 = .ok (.iload_n 1, 1) := by decide +kernel
theorem dX9_leave_1 : decode cX9_leave 1 = .ok (.iconst 1, 1) := by decide +kernel
theorem dX9_leave_2 : decode cX9_leave 2 = .ok (.if_icmp .lt 18, 3) := by decide +kernel
theorem dX9_leave_5 : decode cX9_leave 5 = .ok (.iload_n 1, 1) := by decide +kernel
theorem dX9_leave_6 : decode cX9_leave 6 = .ok (.bipush 6, 2) := by decide +kernel
theorem dX9_leave_8 : decode cX9_leave 8 = .ok (.if_icmp .gt 12, 3) := by decide +kernel
theorem dX9_leave_11 : decode cX9_leave 11 = .ok (.iload_n 2, 1) := by decide +kernel
theorem dX9_leave_12 : decode cX9_leave 12 = .ok (.ifCond .lt 8, 3) := by decide +kernel
theorem dX9_leave_15 : decode cX9_leave 15 = .ok (.iload_n 2, 1) := by decide +kernel
theorem dX9_leave_16 : decode cX9_leave 16 = .ok (.iconst 2, 1) := by decide +kernel
theorem dX9_leave_17 : decode cX9_leave 17 = .ok (.if_icmp .le 6, 3) := by decide +kernel
theorem dX9_leave_20 : decode cX9_leave 20 = .ok (.bipush (-102), 2) := by decide +kernel
theorem dX9_leave_22 : decode cX9_leave 22 = .ok (.ireturn, 1) := by decide +kernel
theorem dX9_leave_23 : decode cX9_leave 23 = .ok (.aload_n 0, 1) := by decide +kernel
theorem dX9_leave_24 : decode cX9_leave 24 = .ok (.getfield 26, 3) := by decide +kernel
theorem dX9_leave_27 : decode cX9_leave 27 = .ok (.invokevirtual 184, 3) := by decide +kernel
theorem dX9_leave_30 : decode cX9_leave 30 = .ok (.ifCond .eq 12, 3) := by decide +kernel
theorem dX9_leave_33 : decode cX9_leave 33 = .ok (.aload_n 0, 1) := by decide +kernel
theorem dX9_leave_34 : decode cX9_leave 34 = .ok (.getfield 86, 3) := by decide +kernel
theorem dX9_leave_37 : decode cX9_leave 37 = .ok (.bipush 20, 2) := by decide +kernel
theorem dX9_leave_39 : decode cX9_leave 39 = .ok (.if_icmp .lt 6, 3) := by decide +kernel
theorem dX9_leave_42 : decode cX9_leave 42 = .ok (.bipush (-103), 2) := by decide +kernel
theorem dX9_leave_44 : decode cX9_leave 44 = .ok (.ireturn, 1) := by decide +kernel
theorem dX9_leave_45 : decode cX9_leave 45 = .ok (.aload_n 0, 1) := by decide +kernel
theorem dX9_leave_46 : decode cX9_leave 46 = .ok (.dup, 1) := by decide +kernel
theorem dX9_leave_47 : decode cX9_leave 47 = .ok (.getfield 86, 3) := by decide +kernel
theorem dX9_leave_50 : decode cX9_leave 50 = .ok (.iconst 1, 1) := by decide +kernel
theorem dX9_leave_51 : decode cX9_leave 51 = .ok (.iadd, 1) := by decide +kernel
theorem dX9_leave_52 : decode cX9_leave 52 = .ok (.putfield 86, 3) := by decide +kernel
theorem dX9_leave_55 : decode cX9_leave 55 = .ok (.aload_n 0, 1) := by decide +kernel
theorem dX9_leave_56 : decode cX9_leave 56 = .ok (.getfield 53, 3) := by decide +kernel
theorem dX9_leave_59 : decode cX9_leave 59 = .ok (.aload_n 0, 1) := by decide +kernel
theorem dX9_leave_60 : decode cX9_leave 60 = .ok (.getfield 26, 3) := by decide +kernel
theorem dX9_leave_63 : decode cX9_leave 63 = .ok (.iload_n 1, 1) := by decide +kernel
theorem dX9_leave_64 : decode cX9_leave 64 = .ok (.aload_n 0, 1) := by decide +kernel
theorem dX9_leave_65 : decode cX9_leave 65 = .ok (.getfield 39, 3) := by decide +kernel
theorem dX9_leave_68 : decode cX9_leave 68 = .ok (.invokevirtual 199, 3) := by decide +kernel
theorem dX9_leave_71 : decode cX9_leave 71 = .ok (.iload_n 2, 1) := by decide +kernel
theorem dX9_leave_72 : decode cX9_leave 72 = .ok (.ifCond .ne 11, 3) := by decide +kernel
theorem dX9_leave_75 : decode cX9_leave 75 = .ok (.aload_n 0, 1) := by decide +kernel
theorem dX9_leave_76 : decode cX9_leave 76 = .ok (.getfield 53, 3) := by decide +kernel
theorem dX9_leave_79 : decode cX9_leave 79 = .ok (.getfield 203, 3) := by decide +kernel
theorem dX9_leave_82 : decode cX9_leave 82 = .ok (.ireturn, 1) := by decide +kernel
theorem dX9_leave_83 : decode cX9_leave 83 = .ok (.iload_n 2, 1) := by decide +kernel
theorem dX9_leave_84 : decode cX9_leave 84 = .ok (.iconst 1, 1) := by decide +kernel
theorem dX9_leave_85 : decode cX9_leave 85 = .ok (.if_icmp .ne 13, 3) := by decide +kernel
theorem dX9_leave_88 : decode cX9_leave 88 = .ok (.aload_n 0, 1) := by decide +kernel
theorem dX9_leave_89 : decode cX9_leave 89 = .ok (.getfield 53, 3) := by decide +kernel
theorem dX9_leave_92 : decode cX9_leave 92 = .ok (.getfield 206, 3) := by decide +kernel
theorem dX9_leave_95 : decode cX9_leave 95 = .ok (.goto 10, 3) := by decide +kernel
theorem dX9_leave_98 : decode cX9_leave 98 = .ok (.aload_n 0, 1) := by decide +kernel
theorem dX9_leave_99 : decode cX9_leave 99 = .ok (.getfield 53, 3) := by decide +kernel
theorem dX9_leave_102 : decode cX9_leave 102 = .ok (.getfield 209, 3) := by decide +kernel
theorem dX9_leave_105 : decode cX9_leave 105 = .ok (.ireturn, 1) := by decide +kernel
theorem dX9_ring_0 : decode cX9_ring 0 = .ok (.aload_n 0, 1) := by decide +kernel
theorem dX9_ring_1 : decode cX9_ring 1 = .ok (.getfield 26, 3) := by decide +kernel
theorem dX9_ring_4 : decode cX9_ring 4 = .ok (.invokevirtual 184, 3) := by decide +kernel
theorem dX9_ring_7 : decode cX9_ring 7 = .ok (.ifCond .ne 6, 3) := by decide +kernel
theorem dX9_ring_10 : decode cX9_ring 10 = .ok (.bipush (-103), 2) := by decide +kernel
theorem dX9_ring_12 : decode cX9_ring 12 = .ok (.ireturn, 1) := by decide +kernel
theorem dX9_ring_13 : decode cX9_ring 13 = .ok (.aload_n 0, 1) := by decide +kernel
theorem dX9_ring_14 : decode cX9_ring 14 = .ok (.getfield 46, 3) := by decide +kernel
theorem dX9_ring_17 : decode cX9_ring 17 = .ok (.aload_n 0, 1) := by decide +kernel
theorem dX9_ring_18 : decode cX9_ring 18 = .ok (.getfield 26, 3) := by decide +kernel
theorem dX9_ring_21 : decode cX9_ring 21 = .ok (.aload_n 0, 1) := by decide +kernel
theorem dX9_ring_22 : decode cX9_ring 22 = .ok (.getfield 26, 3) := by decide +kernel
theorem dX9_ring_25 : decode cX9_ring 25 = .ok (.getfield 140, 3) := by decide +kernel
theorem dX9_ring_28 : decode cX9_ring 28 = .ok (.invokevirtual 143, 3) := by decide +kernel
theorem dX9_ring_31 : decode cX9_ring 31 = .ok (.aload_n 0, 1) := by decide +kernel
theorem dX9_ring_32 : decode cX9_ring 32 = .ok (.getfield 46, 3) := by decide +kernel
theorem dX9_ring_35 : decode cX9_ring 35 = .ok (.invokevirtual 212, 3) := by decide +kernel
theorem dX9_ring_38 : decode cX9_ring 38 = .ok (.ireturn, 1) := by decide +kernel
theorem dX9_peace_0 : decode cX9_peace 0 = .ok (.iload_n 1, 1) := by decide +kernel
theorem dX9_peace_1 : decode cX9_peace 1 = .ok (.ifCond .lt 8, 3) := by decide +kernel
theorem dX9_peace_4 : decode cX9_peace 4 = .ok (.iload_n 1, 1) := by decide +kernel
theorem dX9_peace_5 : decode cX9_peace 5 = .ok (.iconst 1, 1) := by decide +kernel
theorem dX9_peace_6 : decode cX9_peace 6 = .ok (.if_icmp .le 6, 3) := by decide +kernel
theorem dX9_peace_9 : decode cX9_peace 9 = .ok (.bipush (-102), 2) := by decide +kernel
theorem dX9_peace_11 : decode cX9_peace 11 = .ok (.ireturn, 1) := by decide +kernel
theorem dX9_peace_12 : decode cX9_peace 12 = .ok (.aload_n 0, 1) := by decide +kernel
theorem dX9_peace_13 : decode cX9_peace 13 = .ok (.getfield 26, 3) := by decide +kernel
theorem dX9_peace_16 : decode cX9_peace 16 = .ok (.invokevirtual 184, 3) := by decide +kernel
theorem dX9_peace_19 : decode cX9_peace 19 = .ok (.ifCond .ne 6, 3) := by decide +kernel
theorem dX9_peace_22 : decode cX9_peace 22 = .ok (.bipush (-103), 2) := by decide +kernel
theorem dX9_peace_24 : decode cX9_peace 24 = .ok (.ireturn, 1) := by decide +kernel
theorem dX9_peace_25 : decode cX9_peace 25 = .ok (.aload_n 0, 1) := by decide +kernel
theorem dX9_peace_26 : decode cX9_peace 26 = .ok (.getfield 46, 3) := by decide +kernel
theorem dX9_peace_29 : decode cX9_peace 29 = .ok (.aload_n 0, 1) := by decide +kernel
theorem dX9_peace_30 : decode cX9_peace 30 = .ok (.getfield 26, 3) := by decide +kernel
theorem dX9_peace_33 : decode cX9_peace 33 = .ok (.invokevirtual 215, 3) := by decide +kernel
theorem dX9_peace_36 : decode cX9_peace 36 = .ok (.istore_n 2, 1) := by decide +kernel
theorem dX9_peace_37 : decode cX9_peace 37 = .ok (.iload_n 1, 1) := by decide +kernel
theorem dX9_peace_38 : decode cX9_peace 38 = .ok (.ifCond .ne 10, 3) := by decide +kernel
theorem dX9_peace_41 : decode cX9_peace 41 = .ok (.iload_n 2, 1) := by decide +kernel
theorem dX9_peace_42 : decode cX9_peace 42 = .ok (.invokestatic 219, 3) := by decide +kernel
theorem dX9_peace_45 : decode cX9_peace 45 = .ok (.goto 4, 3) := by decide +kernel
theorem dX9_peace_48 : decode cX9_peace 48 = .ok (.iload_n 2, 1) := by decide +kernel
theorem dX9_peace_49 : decode cX9_peace 49 = .ok (.ireturn, 1) := by decide +kernel
theorem dX9_odds_0 : decode cX9_odds 0 = .ok (.aload_n 0, 1) := by decide +kernel
theorem dX9_odds_1 : decode cX9_odds 1 = .ok (.getfield 26, 3) := by decide +kernel
theorem dX9_odds_4 : decode cX9_odds 4 = .ok (.iload_n 1, 1) := by decide +kernel
theorem dX9_odds_5 : decode cX9_odds 5 = .ok (.invokevirtual 114, 3) := by decide +kernel
theorem dX9_odds_8 : decode cX9_odds 8 = .ok (.ifCond .ne 6, 3) := by decide +kernel
theorem dX9_odds_11 : decode cX9_odds 11 = .ok (.bipush (-101), 2) := by decide +kernel
theorem dX9_odds_13 : decode cX9_odds 13 = .ok (.ireturn, 1) := by decide +kernel
theorem dX9_odds_14 : decode cX9_odds 14 = .ok (.iload_n 2, 1) := by decide +kernel
theorem dX9_odds_15 : decode cX9_odds 15 = .ok (.ifCond .lt 18, 3) := by decide +kernel
theorem dX9_odds_18 : decode cX9_odds 18 = .ok (.iload_n 2, 1) := by decide +kernel
theorem dX9_odds_19 : decode cX9_odds 19 = .ok (.bipush 10, 2) := by decide +kernel
theorem dX9_odds_21 : decode cX9_odds 21 = .ok (.if_icmp .gt 12, 3) := by decide +kernel
theorem dX9_odds_24 : decode cX9_odds 24 = .ok (.iload_n 3, 1) := by decide +kernel
theorem dX9_odds_25 : decode cX9_odds 25 = .ok (.ifCond .lt 8, 3) := by decide +kernel
theorem dX9_odds_28 : decode cX9_odds 28 = .ok (.iload_n 3, 1) := by decide +kernel
theorem dX9_odds_29 : decode cX9_odds 29 = .ok (.iconst 1, 1) := by decide +kernel
theorem dX9_odds_30 : decode cX9_odds 30 = .ok (.if_icmp .le 6, 3) := by decide +kernel
theorem dX9_odds_33 : decode cX9_odds 33 = .ok (.bipush (-102), 2) := by decide +kernel
theorem dX9_odds_35 : decode cX9_odds 35 = .ok (.ireturn, 1) := by decide +kernel
theorem dX9_odds_36 : decode cX9_odds 36 = .ok (.aload_n 0, 1) := by decide +kernel
theorem dX9_odds_37 : decode cX9_odds 37 = .ok (.getfield 60, 3) := by decide +kernel
theorem dX9_odds_40 : decode cX9_odds 40 = .ok (.aload_n 0, 1) := by decide +kernel
theorem dX9_odds_41 : decode cX9_odds 41 = .ok (.getfield 26, 3) := by decide +kernel
theorem dX9_odds_44 : decode cX9_odds 44 = .ok (.iload_n 2, 1) := by decide +kernel
theorem dX9_odds_45 : decode cX9_odds 45 = .ok (.aload_n 0, 1) := by decide +kernel
theorem dX9_odds_46 : decode cX9_odds 46 = .ok (.getfield 39, 3) := by decide +kernel
theorem dX9_odds_49 : decode cX9_odds 49 = .ok (.invokevirtual 224, 3) := by decide +kernel
theorem dX9_odds_52 : decode cX9_odds 52 = .ok (.iload_n 3, 1) := by decide +kernel
theorem dX9_odds_53 : decode cX9_odds 53 = .ok (.ifCond .ne 14, 3) := by decide +kernel
theorem dX9_odds_56 : decode cX9_odds 56 = .ok (.aload_n 0, 1) := by decide +kernel
theorem dX9_odds_57 : decode cX9_odds 57 = .ok (.getfield 60, 3) := by decide +kernel
theorem dX9_odds_60 : decode cX9_odds 60 = .ok (.iload_n 1, 1) := by decide +kernel
theorem dX9_odds_61 : decode cX9_odds 61 = .ok (.invokevirtual 226, 3) := by decide +kernel
theorem dX9_odds_64 : decode cX9_odds 64 = .ok (.goto 11, 3) := by decide +kernel
theorem dX9_odds_67 : decode cX9_odds 67 = .ok (.aload_n 0, 1) := by decide +kernel
theorem dX9_odds_68 : decode cX9_odds 68 = .ok (.getfield 60, 3) := by decide +kernel
theorem dX9_odds_71 : decode cX9_odds 71 = .ok (.iload_n 1, 1) := by decide +kernel
theorem dX9_odds_72 : decode cX9_odds 72 = .ok (.invokevirtual 229, 3) := by decide +kernel
theorem dX9_odds_75 : decode cX9_odds 75 = .ok (.ireturn, 1) := by decide +kernel
theorem dX9_see_0 : decode cX9_see 0 = .ok (.aload_n 0, 1) := by decide +kernel
theorem dX9_see_1 : decode cX9_see 1 = .ok (.getfield 26, 3) := by decide +kernel
theorem dX9_see_4 : decode cX9_see 4 = .ok (.iload_n 1, 1) := by decide +kernel
theorem dX9_see_5 : decode cX9_see 5 = .ok (.invokevirtual 156, 3) := by decide +kernel
theorem dX9_see_8 : decode cX9_see 8 = .ok (.ifCond .ne 6, 3) := by decide +kernel
theorem dX9_see_11 : decode cX9_see 11 = .ok (.bipush (-101), 2) := by decide +kernel
theorem dX9_see_13 : decode cX9_see 13 = .ok (.ireturn, 1) := by decide +kernel
theorem dX9_see_14 : decode cX9_see 14 = .ok (.iload_n 2, 1) := by decide +kernel
theorem dX9_see_15 : decode cX9_see 15 = .ok (.invokestatic 193, 3) := by decide +kernel
theorem dX9_see_18 : decode cX9_see 18 = .ok (.ifCond .ne 6, 3) := by decide +kernel
theorem dX9_see_21 : decode cX9_see 21 = .ok (.bipush (-102), 2) := by decide +kernel
theorem dX9_see_23 : decode cX9_see 23 = .ok (.ireturn, 1) := by decide +kernel
theorem dX9_see_24 : decode cX9_see 24 = .ok (.aload_n 0, 1) := by decide +kernel
theorem dX9_see_25 : decode cX9_see 25 = .ok (.getfield 26, 3) := by decide +kernel
theorem dX9_see_28 : decode cX9_see 28 = .ok (.getfield 232, 3) := by decide +kernel
theorem dX9_see_31 : decode cX9_see 31 = .ok (.bipush 6, 2) := by decide +kernel
theorem dX9_see_33 : decode cX9_see 33 = .ok (.if_icmp .lt 6, 3) := by decide +kernel
theorem dX9_see_36 : decode cX9_see 36 = .ok (.bipush (-104), 2) := by decide +kernel
theorem dX9_see_38 : decode cX9_see 38 = .ok (.ireturn, 1) := by decide +kernel
theorem dX9_see_39 : decode cX9_see 39 = .ok (.aload_n 0, 1) := by decide +kernel
theorem dX9_see_40 : decode cX9_see 40 = .ok (.getfield 26, 3) := by decide +kernel
theorem dX9_see_43 : decode cX9_see 43 = .ok (.iload_n 1, 1) := by decide +kernel
theorem dX9_see_44 : decode cX9_see 44 = .ok (.iload_n 2, 1) := by decide +kernel
theorem dX9_see_45 : decode cX9_see 45 = .ok (.iload_n 3, 1) := by decide +kernel
theorem dX9_see_46 : decode cX9_see 46 = .ok (.invokevirtual 235, 3) := by decide +kernel
theorem dX9_see_49 : decode cX9_see 49 = .ok (.aload_n 0, 1) := by decide +kernel
theorem dX9_see_50 : decode cX9_see 50 = .ok (.getfield 26, 3) := by decide +kernel
theorem dX9_see_53 : decode cX9_see 53 = .ok (.getfield 232, 3) := by decide +kernel
theorem dX9_see_56 : decode cX9_see 56 = .ok (.ireturn, 1) := by decide +kernel
theorem dX9_forget_0 : decode cX9_forget 0 = .ok (.aload_n 0, 1) := by decide +kernel
theorem dX9_forget_1 : decode cX9_forget 1 = .ok (.getfield 26, 3) := by decide +kernel
theorem dX9_forget_4 : decode cX9_forget 4 = .ok (.getfield 232, 3) := by decide +kernel
theorem dX9_forget_7 : decode cX9_forget 7 = .ok (.istore_n 1, 1) := by decide +kernel
theorem dX9_forget_8 : decode cX9_forget 8 = .ok (.aload_n 0, 1) := by decide +kernel
theorem dX9_forget_9 : decode cX9_forget 9 = .ok (.getfield 26, 3) := by decide +kernel
theorem dX9_forget_12 : decode cX9_forget 12 = .ok (.iconst 0, 1) := by decide +kernel
theorem dX9_forget_13 : decode cX9_forget 13 = .ok (.putfield 232, 3) := by decide +kernel
theorem dX9_forget_16 : decode cX9_forget 16 = .ok (.iload_n 1, 1) := by decide +kernel
theorem dX9_forget_17 : decode cX9_forget 17 = .ok (.ireturn, 1) := by decide +kernel
theorem dX9_winters_0 : decode cX9_winters 0 = .ok (.iload_n 1, 1) := by decide +kernel
theorem dX9_winters_1 : decode cX9_winters 1 = .ok (.iconst 1, 1) := by decide +kernel
theorem dX9_winters_2 : decode cX9_winters 2 = .ok (.if_icmp .lt 22, 3) := by decide +kernel
theorem dX9_winters_5 : decode cX9_winters 5 = .ok (.iload_n 1, 1) := by decide +kernel
theorem dX9_winters_6 : decode cX9_winters 6 = .ok (.bipush 60, 2) := by decide +kernel
theorem dX9_winters_8 : decode cX9_winters 8 = .ok (.if_icmp .gt 16, 3) := by decide +kernel
theorem dX9_winters_11 : decode cX9_winters 11 = .ok (.iload_n 2, 1) := by decide +kernel
theorem dX9_winters_12 : decode cX9_winters 12 = .ok (.ifCond .lt 12, 3) := by decide +kernel
theorem dX9_winters_15 : decode cX9_winters 15 = .ok (.iload_n 3, 1) := by decide +kernel
theorem dX9_winters_16 : decode cX9_winters 16 = .ok (.ifCond .lt 8, 3) := by decide +kernel
theorem dX9_winters_19 : decode cX9_winters 19 = .ok (.iload_n 3, 1) := by decide +kernel
theorem dX9_winters_20 : decode cX9_winters 20 = .ok (.iconst 2, 1) := by decide +kernel
theorem dX9_winters_21 : decode cX9_winters 21 = .ok (.if_icmp .le 6, 3) := by decide +kernel
theorem dX9_winters_24 : decode cX9_winters 24 = .ok (.bipush (-102), 2) := by decide +kernel
theorem dX9_winters_26 : decode cX9_winters 26 = .ok (.ireturn, 1) := by decide +kernel
theorem dX9_winters_27 : decode cX9_winters 27 = .ok (.aload_n 0, 1) := by decide +kernel
theorem dX9_winters_28 : decode cX9_winters 28 = .ok (.getfield 26, 3) := by decide +kernel
theorem dX9_winters_31 : decode cX9_winters 31 = .ok (.invokevirtual 184, 3) := by decide +kernel
theorem dX9_winters_34 : decode cX9_winters 34 = .ok (.ifCond .ne 6, 3) := by decide +kernel
theorem dX9_winters_37 : decode cX9_winters 37 = .ok (.bipush (-103), 2) := by decide +kernel
theorem dX9_winters_39 : decode cX9_winters 39 = .ok (.ireturn, 1) := by decide +kernel
theorem dX9_winters_40 : decode cX9_winters 40 = .ok (.aload_n 0, 1) := by decide +kernel
theorem dX9_winters_41 : decode cX9_winters 41 = .ok (.getfield 33, 3) := by decide +kernel
theorem dX9_winters_44 : decode cX9_winters 44 = .ok (.aload_n 0, 1) := by decide +kernel
theorem dX9_winters_45 : decode cX9_winters 45 = .ok (.getfield 26, 3) := by decide +kernel
theorem dX9_winters_48 : decode cX9_winters 48 = .ok (.invokevirtual 107, 3) := by decide +kernel
theorem dX9_winters_51 : decode cX9_winters 51 = .ok (.aload_n 0, 1) := by decide +kernel
theorem dX9_winters_52 : decode cX9_winters 52 = .ok (.getfield 74, 3) := by decide +kernel
theorem dX9_winters_55 : decode cX9_winters 55 = .ok (.aload_n 0, 1) := by decide +kernel
theorem dX9_winters_56 : decode cX9_winters 56 = .ok (.getfield 33, 3) := by decide +kernel
theorem dX9_winters_59 : decode cX9_winters 59 = .ok (.iload_n 1, 1) := by decide +kernel
theorem dX9_winters_60 : decode cX9_winters 60 = .ok (.iload_n 2, 1) := by decide +kernel
theorem dX9_winters_61 : decode cX9_winters 61 = .ok (.aload_n 0, 1) := by decide +kernel
theorem dX9_winters_62 : decode cX9_winters 62 = .ok (.getfield 39, 3) := by decide +kernel
theorem dX9_winters_65 : decode cX9_winters 65 = .ok (.invokevirtual 239, 3) := by decide +kernel
theorem dX9_winters_68 : decode cX9_winters 68 = .ok (.iload_n 3, 1) := by decide +kernel
theorem dX9_winters_69 : decode cX9_winters 69 = .ok (.ifCond .ne 11, 3) := by decide +kernel
theorem dX9_winters_72 : decode cX9_winters 72 = .ok (.aload_n 0, 1) := by decide +kernel
theorem dX9_winters_73 : decode cX9_winters 73 = .ok (.getfield 74, 3) := by decide +kernel
theorem dX9_winters_76 : decode cX9_winters 76 = .ok (.getfield 243, 3) := by decide +kernel
theorem dX9_winters_79 : decode cX9_winters 79 = .ok (.ireturn, 1) := by decide +kernel
theorem dX9_winters_80 : decode cX9_winters 80 = .ok (.iload_n 3, 1) := by decide +kernel
theorem dX9_winters_81 : decode cX9_winters 81 = .ok (.iconst 1, 1) := by decide +kernel
theorem dX9_winters_82 : decode cX9_winters 82 = .ok (.if_icmp .ne 13, 3) := by decide +kernel
theorem dX9_winters_85 : decode cX9_winters 85 = .ok (.aload_n 0, 1) := by decide +kernel
theorem dX9_winters_86 : decode cX9_winters 86 = .ok (.getfield 33, 3) := by decide +kernel
theorem dX9_winters_89 : decode cX9_winters 89 = .ok (.invokevirtual 244, 3) := by decide +kernel
theorem dX9_winters_92 : decode cX9_winters 92 = .ok (.goto 10, 3) := by decide +kernel
theorem dX9_winters_95 : decode cX9_winters 95 = .ok (.aload_n 0, 1) := by decide +kernel
theorem dX9_winters_96 : decode cX9_winters 96 = .ok (.getfield 74, 3) := by decide +kernel
theorem dX9_winters_99 : decode cX9_winters 99 = .ok (.getfield 247, 3) := by decide +kernel
theorem dX9_winters_102 : decode cX9_winters 102 = .ok (.ireturn, 1) := by decide +kernel
theorem dX9_image_0 : decode cX9_image 0 = .ok (.aload_n 0, 1) := by decide +kernel
theorem dX9_image_1 : decode cX9_image 1 = .ok (.getfield 26, 3) := by decide +kernel
theorem dX9_image_4 : decode cX9_image 4 = .ok (.invokevirtual 184, 3) := by decide +kernel
theorem dX9_image_7 : decode cX9_image 7 = .ok (.ifCond .ne 6, 3) := by decide +kernel
theorem dX9_image_10 : decode cX9_image 10 = .ok (.bipush (-103), 2) := by decide +kernel
theorem dX9_image_12 : decode cX9_image 12 = .ok (.ireturn, 1) := by decide +kernel
theorem dX9_image_13 : decode cX9_image 13 = .ok (.aload_n 0, 1) := by decide +kernel
theorem dX9_image_14 : decode cX9_image 14 = .ok (.getfield 30, 3) := by decide +kernel
theorem dX9_image_17 : decode cX9_image 17 = .ok (.aload_n 0, 1) := by decide +kernel
theorem dX9_image_18 : decode cX9_image 18 = .ok (.getfield 26, 3) := by decide +kernel
theorem dX9_image_21 : decode cX9_image 21 = .ok (.invokevirtual 107, 3) := by decide +kernel
theorem dX9_image_24 : decode cX9_image 24 = .ok (.aload_n 0, 1) := by decide +kernel
theorem dX9_image_25 : decode cX9_image 25 = .ok (.iconst 1, 1) := by decide +kernel
theorem dX9_image_26 : decode cX9_image 26 = .ok (.putfield 78, 3) := by decide +kernel
theorem dX9_image_29 : decode cX9_image 29 = .ok (.aload_n 0, 1) := by decide +kernel
theorem dX9_image_30 : decode cX9_image 30 = .ok (.getfield 26, 3) := by decide +kernel
theorem dX9_image_33 : decode cX9_image 33 = .ok (.getfield 187, 3) := by decide +kernel
theorem dX9_image_36 : decode cX9_image 36 = .ok (.ireturn, 1) := by decide +kernel
theorem dX9_restore_0 : decode cX9_restore 0 = .ok (.aload_n 0, 1) := by decide +kernel
theorem dX9_restore_1 : decode cX9_restore 1 = .ok (.getfield 78, 3) := by decide +kernel
theorem dX9_restore_4 : decode cX9_restore 4 = .ok (.ifCond .ne 6, 3) := by decide +kernel
theorem dX9_restore_7 : decode cX9_restore 7 = .ok (.bipush (-103), 2) := by decide +kernel
theorem dX9_restore_9 : decode cX9_restore 9 = .ok (.ireturn, 1) := by decide +kernel
theorem dX9_restore_10 : decode cX9_restore 10 = .ok (.aload_n 0, 1) := by decide +kernel
theorem dX9_restore_11 : decode cX9_restore 11 = .ok (.getfield 26, 3) := by decide +kernel
theorem dX9_restore_14 : decode cX9_restore 14 = .ok (.aload_n 0, 1) := by decide +kernel
theorem dX9_restore_15 : decode cX9_restore 15 = .ok (.getfield 30, 3) := by decide +kernel
theorem dX9_restore_18 : decode cX9_restore 18 = .ok (.invokevirtual 107, 3) := by decide +kernel
theorem dX9_restore_21 : decode cX9_restore 21 = .ok (.aload_n 0, 1) := by decide +kernel
theorem dX9_restore_22 : decode cX9_restore 22 = .ok (.getfield 26, 3) := by decide +kernel
theorem dX9_restore_25 : decode cX9_restore 25 = .ok (.getfield 187, 3) := by decide +kernel
theorem dX9_restore_28 : decode cX9_restore 28 = .ok (.ireturn, 1) := by decide +kernel
theorem dX9_count_0 : decode cX9_count 0 = .ok (.iload_n 1, 1) := by decide +kernel
theorem dX9_count_1 : decode cX9_count 1 = .ok (.tableswitch 186 0 12 #[67, 75, 83, 91, 99, 107, 133, 144, 152, 160, 168, 176, 181], 67) := by decide +kernel
theorem dX9_count_68 : decode cX9_count 68 = .ok (.aload_n 0, 1) := by decide +kernel
theorem dX9_count_69 : decode cX9_count 69 = .ok (.getfield 26, 3) := by decide +kernel
theorem dX9_count_72 : decode cX9_count 72 = .ok (.getfield 111, 3) := by decide +kernel
theorem dX9_count_75 : decode cX9_count 75 = .ok (.ireturn, 1) := by decide +kernel
theorem dX9_count_76 : decode cX9_count 76 = .ok (.aload_n 0, 1) := by decide +kernel
theorem dX9_count_77 : decode cX9_count 77 = .ok (.getfield 26, 3) := by decide +kernel
theorem dX9_count_80 : decode cX9_count 80 = .ok (.getfield 250, 3) := by decide +kernel
theorem dX9_count_83 : decode cX9_count 83 = .ok (.ireturn, 1) := by decide +kernel
theorem dX9_count_84 : decode cX9_count 84 = .ok (.aload_n 0, 1) := by decide +kernel
theorem dX9_count_85 : decode cX9_count 85 = .ok (.getfield 26, 3) := by decide +kernel
theorem dX9_count_88 : decode cX9_count 88 = .ok (.getfield 196, 3) := by decide +kernel
theorem dX9_count_91 : decode cX9_count 91 = .ok (.ireturn, 1) := by decide +kernel
theorem dX9_count_92 : decode cX9_count 92 = .ok (.aload_n 0, 1) := by decide +kernel
theorem dX9_count_93 : decode cX9_count 93 = .ok (.invokevirtual 129, 3) := by decide +kernel
theorem dX9_count_96 : decode cX9_count 96 = .ok (.invokestatic 219, 3) := by decide +kernel
theorem dX9_count_99 : decode cX9_count 99 = .ok (.ireturn, 1) := by decide +kernel
theorem dX9_count_100 : decode cX9_count 100 = .ok (.aload_n 0, 1) := by decide +kernel
theorem dX9_count_101 : decode cX9_count 101 = .ok (.getfield 26, 3) := by decide +kernel
theorem dX9_count_104 : decode cX9_count 104 = .ok (.invokevirtual 244, 3) := by decide +kernel
theorem dX9_count_107 : decode cX9_count 107 = .ok (.ireturn, 1) := by decide +kernel
theorem dX9_count_108 : decode cX9_count 108 = .ok (.aload_n 0, 1) := by decide +kernel
theorem dX9_count_109 : decode cX9_count 109 = .ok (.getfield 39, 3) := by decide +kernel
theorem dX9_count_112 : decode cX9_count 112 = .ok (.aload_n 0, 1) := by decide +kernel
theorem dX9_count_113 : decode cX9_count 113 = .ok (.getfield 26, 3) := by decide +kernel
theorem dX9_count_116 : decode cX9_count 116 = .ok (.aload_n 0, 1) := by decide +kernel
theorem dX9_count_117 : decode cX9_count 117 = .ok (.getfield 26, 3) := by decide +kernel
theorem dX9_count_120 : decode cX9_count 120 = .ok (.getfield 140, 3) := by decide +kernel
theorem dX9_count_123 : decode cX9_count 123 = .ok (.invokevirtual 253, 3) := by decide +kernel
theorem dX9_count_126 : decode cX9_count 126 = .ok (.aload_n 0, 1) := by decide +kernel
theorem dX9_count_127 : decode cX9_count 127 = .ok (.getfield 39, 3) := by decide +kernel
theorem dX9_count_130 : decode cX9_count 130 = .ok (.invokevirtual 254, 3) := by decide +kernel
theorem dX9_count_133 : decode cX9_count 133 = .ok (.ireturn, 1) := by decide +kernel
theorem dX9_count_134 : decode cX9_count 134 = .ok (.aload_n 0, 1) := by decide +kernel
theorem dX9_count_135 : decode cX9_count 135 = .ok (.getfield 26, 3) := by decide +kernel
theorem dX9_count_138 : decode cX9_count 138 = .ok (.getfield 140, 3) := by decide +kernel
theorem dX9_count_141 : decode cX9_count 141 = .ok (.invokestatic 219, 3) := by decide +kernel
theorem dX9_count_144 : decode cX9_count 144 = .ok (.ireturn, 1) := by decide +kernel
theorem dX9_count_145 : decode cX9_count 145 = .ok (.aload_n 0, 1) := by decide +kernel
theorem dX9_count_146 : decode cX9_count 146 = .ok (.getfield 26, 3) := by decide +kernel
theorem dX9_count_149 : decode cX9_count 149 = .ok (.getfield 187, 3) := by decide +kernel
theorem dX9_count_152 : decode cX9_count 152 = .ok (.ireturn, 1) := by decide +kernel
theorem dX9_count_153 : decode cX9_count 153 = .ok (.aload_n 0, 1) := by decide +kernel
theorem dX9_count_154 : decode cX9_count 154 = .ok (.getfield 26, 3) := by decide +kernel
theorem dX9_count_157 : decode cX9_count 157 = .ok (.invokevirtual 257, 3) := by decide +kernel
theorem dX9_count_160 : decode cX9_count 160 = .ok (.ireturn, 1) := by decide +kernel
theorem dX9_count_161 : decode cX9_count 161 = .ok (.aload_n 0, 1) := by decide +kernel
theorem dX9_count_162 : decode cX9_count 162 = .ok (.getfield 26, 3) := by decide +kernel
theorem dX9_count_165 : decode cX9_count 165 = .ok (.getfield 232, 3) := by decide +kernel
theorem dX9_count_168 : decode cX9_count 168 = .ok (.ireturn, 1) := by decide +kernel
theorem dX9_count_169 : decode cX9_count 169 = .ok (.aload_n 0, 1) := by decide +kernel
theorem dX9_count_170 : decode cX9_count 170 = .ok (.getfield 10, 3) := by decide +kernel
theorem dX9_count_173 : decode cX9_count 173 = .ok (.getfield 89, 3) := by decide +kernel
theorem dX9_count_176 : decode cX9_count 176 = .ok (.ireturn, 1) := by decide +kernel
theorem dX9_count_177 : decode cX9_count 177 = .ok (.aload_n 0, 1) := by decide +kernel
theorem dX9_count_178 : decode cX9_count 178 = .ok (.getfield 82, 3) := by decide +kernel
theorem dX9_count_181 : decode cX9_count 181 = .ok (.ireturn, 1) := by decide +kernel
theorem dX9_count_182 : decode cX9_count 182 = .ok (.aload_n 0, 1) := by decide +kernel
theorem dX9_count_183 : decode cX9_count 183 = .ok (.getfield 86, 3) := by decide +kernel
theorem dX9_count_186 : decode cX9_count 186 = .ok (.ireturn, 1) := by decide +kernel
theorem dX9_count_187 : decode cX9_count 187 = .ok (.bipush (-102), 2) := by decide +kernel
theorem dX9_count_189 : decode cX9_count 189 = .ok (.ireturn, 1) := by decide +kernel
theorem dX9_digest_0 : decode cX9_digest 0 = .ok (.aload_n 0, 1) := by decide +kernel
theorem dX9_digest_1 : decode cX9_digest 1 = .ok (.aload_n 0, 1) := by decide +kernel
theorem dX9_digest_2 : decode cX9_digest 2 = .ok (.ldc2_w 260, 3) := by decide +kernel
theorem dX9_digest_5 : decode cX9_digest 5 = .ok (.invokevirtual 262, 3) := by decide +kernel
theorem dX9_digest_8 : decode cX9_digest 8 = .ok (.invokevirtual 266, 3) := by decide +kernel
theorem dX9_digest_11 : decode cX9_digest 11 = .ok (.lstore_n 1, 1) := by decide +kernel
theorem dX9_digest_12 : decode cX9_digest 12 = .ok (.aload_n 0, 1) := by decide +kernel
theorem dX9_digest_13 : decode cX9_digest 13 = .ok (.getfield 26, 3) := by decide +kernel
theorem dX9_digest_16 : decode cX9_digest 16 = .ok (.invokevirtual 184, 3) := by decide +kernel
theorem dX9_digest_19 : decode cX9_digest 19 = .ok (.ifCond .eq 9, 3) := by decide +kernel
theorem dX9_digest_22 : decode cX9_digest 22 = .ok (.aload_n 0, 1) := by decide +kernel
theorem dX9_digest_23 : decode cX9_digest 23 = .ok (.lload_n 1, 1) := by decide +kernel
theorem dX9_digest_24 : decode cX9_digest 24 = .ok (.invokevirtual 269, 3) := by decide +kernel
theorem dX9_digest_27 : decode cX9_digest 27 = .ok (.lstore_n 1, 1) := by decide +kernel
theorem dX9_digest_28 : decode cX9_digest 28 = .ok (.iconst 0, 1) := by decide +kernel
theorem dX9_digest_29 : decode cX9_digest 29 = .ok (.istore_n 3, 1) := by decide +kernel
theorem dX9_digest_30 : decode cX9_digest 30 = .ok (.iload_n 3, 1) := by decide +kernel
theorem dX9_digest_31 : decode cX9_digest 31 = .ok (.aload_n 0, 1) := by decide +kernel
theorem dX9_digest_32 : decode cX9_digest 32 = .ok (.getfield 10, 3) := by decide +kernel
theorem dX9_digest_35 : decode cX9_digest 35 = .ok (.getfield 89, 3) := by decide +kernel
theorem dX9_digest_38 : decode cX9_digest 38 = .ok (.if_icmp .ge 26, 3) := by decide +kernel
theorem dX9_digest_41 : decode cX9_digest 41 = .ok (.ldc2_w 272, 3) := by decide +kernel
theorem dX9_digest_44 : decode cX9_digest 44 = .ok (.lload_n 1, 1) := by decide +kernel
theorem dX9_digest_45 : decode cX9_digest 45 = .ok (.lmul, 1) := by decide +kernel
theorem dX9_digest_46 : decode cX9_digest 46 = .ok (.aload_n 0, 1) := by decide +kernel
theorem dX9_digest_47 : decode cX9_digest 47 = .ok (.getfield 10, 3) := by decide +kernel
theorem dX9_digest_50 : decode cX9_digest 50 = .ok (.getfield 274, 3) := by decide +kernel
theorem dX9_digest_53 : decode cX9_digest 53 = .ok (.iload_n 3, 1) := by decide +kernel
theorem dX9_digest_54 : decode cX9_digest 54 = .ok (.iaload, 1) := by decide +kernel
theorem dX9_digest_55 : decode cX9_digest 55 = .ok (.i2l, 1) := by decide +kernel
theorem dX9_digest_56 : decode cX9_digest 56 = .ok (.ladd, 1) := by decide +kernel
theorem dX9_digest_57 : decode cX9_digest 57 = .ok (.lstore_n 1, 1) := by decide +kernel
theorem dX9_digest_58 : decode cX9_digest 58 = .ok (.iinc 3 1, 3) := by decide +kernel
theorem dX9_digest_61 : decode cX9_digest 61 = .ok (.goto (-31), 3) := by decide +kernel
theorem dX9_digest_64 : decode cX9_digest 64 = .ok (.iconst 0, 1) := by decide +kernel
theorem dX9_digest_65 : decode cX9_digest 65 = .ok (.istore_n 3, 1) := by decide +kernel
theorem dX9_digest_66 : decode cX9_digest 66 = .ok (.iload_n 3, 1) := by decide +kernel
theorem dX9_digest_67 : decode cX9_digest 67 = .ok (.bipush 12, 2) := by decide +kernel
theorem dX9_digest_69 : decode cX9_digest 69 = .ok (.if_icmp .gt 22, 3) := by decide +kernel
theorem dX9_digest_72 : decode cX9_digest 72 = .ok (.ldc2_w 272, 3) := by decide +kernel
theorem dX9_digest_75 : decode cX9_digest 75 = .ok (.lload_n 1, 1) := by decide +kernel
theorem dX9_digest_76 : decode cX9_digest 76 = .ok (.lmul, 1) := by decide +kernel
theorem dX9_digest_77 : decode cX9_digest 77 = .ok (.aload_n 0, 1) := by decide +kernel
theorem dX9_digest_78 : decode cX9_digest 78 = .ok (.iload_n 3, 1) := by decide +kernel
theorem dX9_digest_79 : decode cX9_digest 79 = .ok (.invokevirtual 277, 3) := by decide +kernel
theorem dX9_digest_82 : decode cX9_digest 82 = .ok (.i2l, 1) := by decide +kernel
theorem dX9_digest_83 : decode cX9_digest 83 = .ok (.ladd, 1) := by decide +kernel
theorem dX9_digest_84 : decode cX9_digest 84 = .ok (.lstore_n 1, 1) := by decide +kernel
theorem dX9_digest_85 : decode cX9_digest 85 = .ok (.iinc 3 1, 3) := by decide +kernel
theorem dX9_digest_88 : decode cX9_digest 88 = .ok (.goto (-22), 3) := by decide +kernel
theorem dX9_digest_91 : decode cX9_digest 91 = .ok (.lload_n 1, 1) := by decide +kernel
theorem dX9_digest_92 : decode cX9_digest 92 = .ok (.lreturn, 1) := by decide +kernel
theorem dX9_digestPeople_0 : decode cX9_digestPeople 0 = .ok (.lload_n 1, 1) := by decide +kernel
theorem dX9_digestPeople_1 : decode cX9_digestPeople 1 = .ok (.lstore_n 3, 1) := by decide +kernel
theorem dX9_digestPeople_2 : decode cX9_digestPeople 2 = .ok (.aload_n 0, 1) := by decide +kernel
theorem dX9_digestPeople_3 : decode cX9_digestPeople 3 = .ok (.getfield 60, 3) := by decide +kernel
theorem dX9_digestPeople_6 : decode cX9_digestPeople 6 = .ok (.aload_n 0, 1) := by decide +kernel
theorem dX9_digestPeople_7 : decode cX9_digestPeople 7 = .ok (.getfield 26, 3) := by decide +kernel
theorem dX9_digestPeople_10 : decode cX9_digestPeople 10 = .ok (.iconst 4, 1) := by decide +kernel
theorem dX9_digestPeople_11 : decode cX9_digestPeople 11 = .ok (.aload_n 0, 1) := by decide +kernel
theorem dX9_digestPeople_12 : decode cX9_digestPeople 12 = .ok (.getfield 39, 3) := by decide +kernel
theorem dX9_digestPeople_15 : decode cX9_digestPeople 15 = .ok (.invokevirtual 224, 3) := by decide +kernel
theorem dX9_digestPeople_18 : decode cX9_digestPeople 18 = .ok (.iconst 0, 1) := by decide +kernel
theorem dX9_digestPeople_19 : decode cX9_digestPeople 19 = .ok (.istore 5, 2) := by decide +kernel
theorem dX9_digestPeople_21 : decode cX9_digestPeople 21 = .ok (.iload 5, 2) := by decide +kernel
theorem dX9_digestPeople_23 : decode cX9_digestPeople 23 = .ok (.aload_n 0, 1) := by decide +kernel
theorem dX9_digestPeople_24 : decode cX9_digestPeople 24 = .ok (.getfield 26, 3) := by decide +kernel
theorem dX9_digestPeople_27 : decode cX9_digestPeople 27 = .ok (.getfield 111, 3) := by decide +kernel
theorem dX9_digestPeople_30 : decode cX9_digestPeople 30 = .ok (.if_icmp .ge 74, 3) := by decide +kernel
theorem dX9_digestPeople_33 : decode cX9_digestPeople 33 = .ok (.iconst 0, 1) := by decide +kernel
theorem dX9_digestPeople_34 : decode cX9_digestPeople 34 = .ok (.istore 6, 2) := by decide +kernel
theorem dX9_digestPeople_36 : decode cX9_digestPeople 36 = .ok (.iload 6, 2) := by decide +kernel
theorem dX9_digestPeople_38 : decode cX9_digestPeople 38 = .ok (.iconst 5, 1) := by decide +kernel
theorem dX9_digestPeople_39 : decode cX9_digestPeople 39 = .ok (.if_icmp .gt 25, 3) := by decide +kernel
theorem dX9_digestPeople_42 : decode cX9_digestPeople 42 = .ok (.ldc2_w 272, 3) := by decide +kernel
theorem dX9_digestPeople_45 : decode cX9_digestPeople 45 = .ok (.lload_n 3, 1) := by decide +kernel
theorem dX9_digestPeople_46 : decode cX9_digestPeople 46 = .ok (.lmul, 1) := by decide +kernel
theorem dX9_digestPeople_47 : decode cX9_digestPeople 47 = .ok (.aload_n 0, 1) := by decide +kernel
theorem dX9_digestPeople_48 : decode cX9_digestPeople 48 = .ok (.iload 5, 2) := by decide +kernel
theorem dX9_digestPeople_50 : decode cX9_digestPeople 50 = .ok (.iload 6, 2) := by decide +kernel
theorem dX9_digestPeople_52 : decode cX9_digestPeople 52 = .ok (.invokevirtual 280, 3) := by decide +kernel
theorem dX9_digestPeople_55 : decode cX9_digestPeople 55 = .ok (.i2l, 1) := by decide +kernel
theorem dX9_digestPeople_56 : decode cX9_digestPeople 56 = .ok (.ladd, 1) := by decide +kernel
theorem dX9_digestPeople_57 : decode cX9_digestPeople 57 = .ok (.lstore_n 3, 1) := by decide +kernel
theorem dX9_digestPeople_58 : decode cX9_digestPeople 58 = .ok (.iinc 6 1, 3) := by decide +kernel
theorem dX9_digestPeople_61 : decode cX9_digestPeople 61 = .ok (.goto (-25), 3) := by decide +kernel
theorem dX9_digestPeople_64 : decode cX9_digestPeople 64 = .ok (.ldc2_w 272, 3) := by decide +kernel
theorem dX9_digestPeople_67 : decode cX9_digestPeople 67 = .ok (.lload_n 3, 1) := by decide +kernel
theorem dX9_digestPeople_68 : decode cX9_digestPeople 68 = .ok (.lmul, 1) := by decide +kernel
theorem dX9_digestPeople_69 : decode cX9_digestPeople 69 = .ok (.aload_n 0, 1) := by decide +kernel
theorem dX9_digestPeople_70 : decode cX9_digestPeople 70 = .ok (.getfield 60, 3) := by decide +kernel
theorem dX9_digestPeople_73 : decode cX9_digestPeople 73 = .ok (.iload 5, 2) := by decide +kernel
theorem dX9_digestPeople_75 : decode cX9_digestPeople 75 = .ok (.invokevirtual 226, 3) := by decide +kernel
theorem dX9_digestPeople_78 : decode cX9_digestPeople 78 = .ok (.i2l, 1) := by decide +kernel
theorem dX9_digestPeople_79 : decode cX9_digestPeople 79 = .ok (.ladd, 1) := by decide +kernel
theorem dX9_digestPeople_80 : decode cX9_digestPeople 80 = .ok (.lstore_n 3, 1) := by decide +kernel
theorem dX9_digestPeople_81 : decode cX9_digestPeople 81 = .ok (.ldc2_w 272, 3) := by decide +kernel
theorem dX9_digestPeople_84 : decode cX9_digestPeople 84 = .ok (.lload_n 3, 1) := by decide +kernel
theorem dX9_digestPeople_85 : decode cX9_digestPeople 85 = .ok (.lmul, 1) := by decide +kernel
theorem dX9_digestPeople_86 : decode cX9_digestPeople 86 = .ok (.aload_n 0, 1) := by decide +kernel
theorem dX9_digestPeople_87 : decode cX9_digestPeople 87 = .ok (.getfield 60, 3) := by decide +kernel
theorem dX9_digestPeople_90 : decode cX9_digestPeople 90 = .ok (.iload 5, 2) := by decide +kernel
theorem dX9_digestPeople_92 : decode cX9_digestPeople 92 = .ok (.invokevirtual 229, 3) := by decide +kernel
theorem dX9_digestPeople_95 : decode cX9_digestPeople 95 = .ok (.i2l, 1) := by decide +kernel
theorem dX9_digestPeople_96 : decode cX9_digestPeople 96 = .ok (.ladd, 1) := by decide +kernel
theorem dX9_digestPeople_97 : decode cX9_digestPeople 97 = .ok (.lstore_n 3, 1) := by decide +kernel
theorem dX9_digestPeople_98 : decode cX9_digestPeople 98 = .ok (.iinc 5 1, 3) := by decide +kernel
theorem dX9_digestPeople_101 : decode cX9_digestPeople 101 = .ok (.goto (-80), 3) := by decide +kernel
theorem dX9_digestPeople_104 : decode cX9_digestPeople 104 = .ok (.lload_n 3, 1) := by decide +kernel
theorem dX9_digestPeople_105 : decode cX9_digestPeople 105 = .ok (.lreturn, 1) := by decide +kernel
theorem dX9_digestWrongs_0 : decode cX9_digestWrongs 0 = .ok (.lload_n 1, 1) := by decide +kernel
theorem dX9_digestWrongs_1 : decode cX9_digestWrongs 1 = .ok (.lstore_n 3, 1) := by decide +kernel
theorem dX9_digestWrongs_2 : decode cX9_digestWrongs 2 = .ok (.iconst 0, 1) := by decide +kernel
theorem dX9_digestWrongs_3 : decode cX9_digestWrongs 3 = .ok (.istore 5, 2) := by decide +kernel
theorem dX9_digestWrongs_5 : decode cX9_digestWrongs 5 = .ok (.iload 5, 2) := by decide +kernel
theorem dX9_digestWrongs_7 : decode cX9_digestWrongs 7 = .ok (.aload_n 0, 1) := by decide +kernel
theorem dX9_digestWrongs_8 : decode cX9_digestWrongs 8 = .ok (.getfield 26, 3) := by decide +kernel
theorem dX9_digestWrongs_11 : decode cX9_digestWrongs 11 = .ok (.getfield 250, 3) := by decide +kernel
theorem dX9_digestWrongs_14 : decode cX9_digestWrongs 14 = .ok (.if_icmp .ge 40, 3) := by decide +kernel
theorem dX9_digestWrongs_17 : decode cX9_digestWrongs 17 = .ok (.iconst 0, 1) := by decide +kernel
theorem dX9_digestWrongs_18 : decode cX9_digestWrongs 18 = .ok (.istore 6, 2) := by decide +kernel
theorem dX9_digestWrongs_20 : decode cX9_digestWrongs 20 = .ok (.iload 6, 2) := by decide +kernel
theorem dX9_digestWrongs_22 : decode cX9_digestWrongs 22 = .ok (.iconst 5, 1) := by decide +kernel
theorem dX9_digestWrongs_23 : decode cX9_digestWrongs 23 = .ok (.if_icmp .gt 25, 3) := by decide +kernel
theorem dX9_digestWrongs_26 : decode cX9_digestWrongs 26 = .ok (.ldc2_w 272, 3) := by decide +kernel
theorem dX9_digestWrongs_29 : decode cX9_digestWrongs 29 = .ok (.lload_n 3, 1) := by decide +kernel
theorem dX9_digestWrongs_30 : decode cX9_digestWrongs 30 = .ok (.lmul, 1) := by decide +kernel
theorem dX9_digestWrongs_31 : decode cX9_digestWrongs 31 = .ok (.aload_n 0, 1) := by decide +kernel
theorem dX9_digestWrongs_32 : decode cX9_digestWrongs 32 = .ok (.iload 5, 2) := by decide +kernel
theorem dX9_digestWrongs_34 : decode cX9_digestWrongs 34 = .ok (.iload 6, 2) := by decide +kernel
theorem dX9_digestWrongs_36 : decode cX9_digestWrongs 36 = .ok (.invokevirtual 283, 3) := by decide +kernel
theorem dX9_digestWrongs_39 : decode cX9_digestWrongs 39 = .ok (.i2l, 1) := by decide +kernel
theorem dX9_digestWrongs_40 : decode cX9_digestWrongs 40 = .ok (.ladd, 1) := by decide +kernel
theorem dX9_digestWrongs_41 : decode cX9_digestWrongs 41 = .ok (.lstore_n 3, 1) := by decide +kernel
theorem dX9_digestWrongs_42 : decode cX9_digestWrongs 42 = .ok (.iinc 6 1, 3) := by decide +kernel
theorem dX9_digestWrongs_45 : decode cX9_digestWrongs 45 = .ok (.goto (-25), 3) := by decide +kernel
theorem dX9_digestWrongs_48 : decode cX9_digestWrongs 48 = .ok (.iinc 5 1, 3) := by decide +kernel
theorem dX9_digestWrongs_51 : decode cX9_digestWrongs 51 = .ok (.goto (-46), 3) := by decide +kernel
theorem dX9_digestWrongs_54 : decode cX9_digestWrongs 54 = .ok (.lload_n 3, 1) := by decide +kernel
theorem dX9_digestWrongs_55 : decode cX9_digestWrongs 55 = .ok (.lreturn, 1) := by decide +kernel
theorem dX9_digestGrudges_0 : decode cX9_digestGrudges 0 = .ok (.lload_n 1, 1) := by decide +kernel
theorem dX9_digestGrudges_1 : decode cX9_digestGrudges 1 = .ok (.lstore_n 3, 1) := by decide +kernel
theorem dX9_digestGrudges_2 : decode cX9_digestGrudges 2 = .ok (.ldc2_w 272, 3) := by decide +kernel
theorem dX9_digestGrudges_5 : decode cX9_digestGrudges 5 = .ok (.lload_n 3, 1) := by decide +kernel
theorem dX9_digestGrudges_6 : decode cX9_digestGrudges 6 = .ok (.lmul, 1) := by decide +kernel
theorem dX9_digestGrudges_7 : decode cX9_digestGrudges 7 = .ok (.aload_n 0, 1) := by decide +kernel
theorem dX9_digestGrudges_8 : decode cX9_digestGrudges 8 = .ok (.iconst 0, 1) := by decide +kernel
theorem dX9_digestGrudges_9 : decode cX9_digestGrudges 9 = .ok (.iconst 1, 1) := by decide +kernel
theorem dX9_digestGrudges_10 : decode cX9_digestGrudges 10 = .ok (.invokevirtual 286, 3) := by decide +kernel
theorem dX9_digestGrudges_13 : decode cX9_digestGrudges 13 = .ok (.i2l, 1) := by decide +kernel
theorem dX9_digestGrudges_14 : decode cX9_digestGrudges 14 = .ok (.ladd, 1) := by decide +kernel
theorem dX9_digestGrudges_15 : decode cX9_digestGrudges 15 = .ok (.lstore_n 3, 1) := by decide +kernel
theorem dX9_digestGrudges_16 : decode cX9_digestGrudges 16 = .ok (.ldc2_w 272, 3) := by decide +kernel
theorem dX9_digestGrudges_19 : decode cX9_digestGrudges 19 = .ok (.lload_n 3, 1) := by decide +kernel
theorem dX9_digestGrudges_20 : decode cX9_digestGrudges 20 = .ok (.lmul, 1) := by decide +kernel
theorem dX9_digestGrudges_21 : decode cX9_digestGrudges 21 = .ok (.aload_n 0, 1) := by decide +kernel
theorem dX9_digestGrudges_22 : decode cX9_digestGrudges 22 = .ok (.iconst 1, 1) := by decide +kernel
theorem dX9_digestGrudges_23 : decode cX9_digestGrudges 23 = .ok (.iconst 0, 1) := by decide +kernel
theorem dX9_digestGrudges_24 : decode cX9_digestGrudges 24 = .ok (.invokevirtual 286, 3) := by decide +kernel
theorem dX9_digestGrudges_27 : decode cX9_digestGrudges 27 = .ok (.i2l, 1) := by decide +kernel
theorem dX9_digestGrudges_28 : decode cX9_digestGrudges 28 = .ok (.ladd, 1) := by decide +kernel
theorem dX9_digestGrudges_29 : decode cX9_digestGrudges 29 = .ok (.lstore_n 3, 1) := by decide +kernel
theorem dX9_digestGrudges_30 : decode cX9_digestGrudges 30 = .ok (.ldc2_w 272, 3) := by decide +kernel
theorem dX9_digestGrudges_33 : decode cX9_digestGrudges 33 = .ok (.lload_n 3, 1) := by decide +kernel
theorem dX9_digestGrudges_34 : decode cX9_digestGrudges 34 = .ok (.lmul, 1) := by decide +kernel
theorem dX9_digestGrudges_35 : decode cX9_digestGrudges 35 = .ok (.aload_n 0, 1) := by decide +kernel
theorem dX9_digestGrudges_36 : decode cX9_digestGrudges 36 = .ok (.invokevirtual 289, 3) := by decide +kernel
theorem dX9_digestGrudges_39 : decode cX9_digestGrudges 39 = .ok (.i2l, 1) := by decide +kernel
theorem dX9_digestGrudges_40 : decode cX9_digestGrudges 40 = .ok (.ladd, 1) := by decide +kernel
theorem dX9_digestGrudges_41 : decode cX9_digestGrudges 41 = .ok (.lstore_n 3, 1) := by decide +kernel
theorem dX9_digestGrudges_42 : decode cX9_digestGrudges 42 = .ok (.aload_n 0, 1) := by decide +kernel
theorem dX9_digestGrudges_43 : decode cX9_digestGrudges 43 = .ok (.getfield 46, 3) := by decide +kernel
theorem dX9_digestGrudges_46 : decode cX9_digestGrudges 46 = .ok (.aload_n 0, 1) := by decide +kernel
theorem dX9_digestGrudges_47 : decode cX9_digestGrudges 47 = .ok (.getfield 26, 3) := by decide +kernel
theorem dX9_digestGrudges_50 : decode cX9_digestGrudges 50 = .ok (.invokevirtual 215, 3) := by decide +kernel
theorem dX9_digestGrudges_53 : decode cX9_digestGrudges 53 = .ok (.istore 5, 2) := by decide +kernel
theorem dX9_digestGrudges_55 : decode cX9_digestGrudges 55 = .ok (.ldc2_w 272, 3) := by decide +kernel
theorem dX9_digestGrudges_58 : decode cX9_digestGrudges 58 = .ok (.lload_n 3, 1) := by decide +kernel
theorem dX9_digestGrudges_59 : decode cX9_digestGrudges 59 = .ok (.lmul, 1) := by decide +kernel
theorem dX9_digestGrudges_60 : decode cX9_digestGrudges 60 = .ok (.iload 5, 2) := by decide +kernel
theorem dX9_digestGrudges_62 : decode cX9_digestGrudges 62 = .ok (.invokestatic 219, 3) := by decide +kernel
theorem dX9_digestGrudges_65 : decode cX9_digestGrudges 65 = .ok (.i2l, 1) := by decide +kernel
theorem dX9_digestGrudges_66 : decode cX9_digestGrudges 66 = .ok (.ladd, 1) := by decide +kernel
theorem dX9_digestGrudges_67 : decode cX9_digestGrudges 67 = .ok (.lstore_n 3, 1) := by decide +kernel
theorem dX9_digestGrudges_68 : decode cX9_digestGrudges 68 = .ok (.ldc2_w 272, 3) := by decide +kernel
theorem dX9_digestGrudges_71 : decode cX9_digestGrudges 71 = .ok (.lload_n 3, 1) := by decide +kernel
theorem dX9_digestGrudges_72 : decode cX9_digestGrudges 72 = .ok (.lmul, 1) := by decide +kernel
theorem dX9_digestGrudges_73 : decode cX9_digestGrudges 73 = .ok (.iload 5, 2) := by decide +kernel
theorem dX9_digestGrudges_75 : decode cX9_digestGrudges 75 = .ok (.i2l, 1) := by decide +kernel
theorem dX9_digestGrudges_76 : decode cX9_digestGrudges 76 = .ok (.ladd, 1) := by decide +kernel
theorem dX9_digestGrudges_77 : decode cX9_digestGrudges 77 = .ok (.lreturn, 1) := by decide +kernel
theorem dX9_guiltOf_0 : decode cX9_guiltOf 0 = .ok (.aload_n 0, 1) := by decide +kernel
theorem dX9_guiltOf_1 : decode cX9_guiltOf 1 = .ok (.getfield 39, 3) := by decide +kernel
theorem dX9_guiltOf_4 : decode cX9_guiltOf 4 = .ok (.aload_n 0, 1) := by decide +kernel
theorem dX9_guiltOf_5 : decode cX9_guiltOf 5 = .ok (.getfield 26, 3) := by decide +kernel
theorem dX9_guiltOf_8 : decode cX9_guiltOf 8 = .ok (.aload_n 0, 1) := by decide +kernel
theorem dX9_guiltOf_9 : decode cX9_guiltOf 9 = .ok (.getfield 26, 3) := by decide +kernel
theorem dX9_guiltOf_12 : decode cX9_guiltOf 12 = .ok (.getfield 140, 3) := by decide +kernel
theorem dX9_guiltOf_15 : decode cX9_guiltOf 15 = .ok (.invokevirtual 253, 3) := by decide +kernel
theorem dX9_guiltOf_18 : decode cX9_guiltOf 18 = .ok (.aload_n 0, 1) := by decide +kernel
theorem dX9_guiltOf_19 : decode cX9_guiltOf 19 = .ok (.getfield 39, 3) := by decide +kernel
theorem dX9_guiltOf_22 : decode cX9_guiltOf 22 = .ok (.getfield 292, 3) := by decide +kernel
theorem dX9_guiltOf_25 : decode cX9_guiltOf 25 = .ok (.iload_n 1, 1) := by decide +kernel
theorem dX9_guiltOf_26 : decode cX9_guiltOf 26 = .ok (.iaload, 1) := by decide +kernel
theorem dX9_guiltOf_27 : decode cX9_guiltOf 27 = .ok (.ireturn, 1) := by decide +kernel
theorem dX9_sittersNow_0 : decode cX9_sittersNow 0 = .ok (.aload_n 0, 1) := by decide +kernel
theorem dX9_sittersNow_1 : decode cX9_sittersNow 1 = .ok (.getfield 39, 3) := by decide +kernel
theorem dX9_sittersNow_4 : decode cX9_sittersNow 4 = .ok (.aload_n 0, 1) := by decide +kernel
theorem dX9_sittersNow_5 : decode cX9_sittersNow 5 = .ok (.getfield 26, 3) := by decide +kernel
theorem dX9_sittersNow_8 : decode cX9_sittersNow 8 = .ok (.aload_n 0, 1) := by decide +kernel
theorem dX9_sittersNow_9 : decode cX9_sittersNow 9 = .ok (.getfield 26, 3) := by decide +kernel
theorem dX9_sittersNow_12 : decode cX9_sittersNow 12 = .ok (.getfield 140, 3) := by decide +kernel
theorem dX9_sittersNow_15 : decode cX9_sittersNow 15 = .ok (.invokevirtual 253, 3) := by decide +kernel
theorem dX9_sittersNow_18 : decode cX9_sittersNow 18 = .ok (.aload_n 0, 1) := by decide +kernel
theorem dX9_sittersNow_19 : decode cX9_sittersNow 19 = .ok (.getfield 39, 3) := by decide +kernel
theorem dX9_sittersNow_22 : decode cX9_sittersNow 22 = .ok (.aload_n 0, 1) := by decide +kernel
theorem dX9_sittersNow_23 : decode cX9_sittersNow 23 = .ok (.getfield 26, 3) := by decide +kernel
theorem dX9_sittersNow_26 : decode cX9_sittersNow 26 = .ok (.getfield 196, 3) := by decide +kernel
theorem dX9_sittersNow_29 : decode cX9_sittersNow 29 = .ok (.invokevirtual 295, 3) := by decide +kernel
theorem dX9_sittersNow_32 : decode cX9_sittersNow 32 = .ok (.ireturn, 1) := by decide +kernel
theorem dX9_isRoom_0 : decode cX9_isRoom 0 = .ok (.iload_n 0, 1) := by decide +kernel
theorem dX9_isRoom_1 : decode cX9_isRoom 1 = .ok (.iconst 1, 1) := by decide +kernel
theorem dX9_isRoom_2 : decode cX9_isRoom 2 = .ok (.if_icmp .lt 13, 3) := by decide +kernel
theorem dX9_isRoom_5 : decode cX9_isRoom 5 = .ok (.iload_n 0, 1) := by decide +kernel
theorem dX9_isRoom_6 : decode cX9_isRoom 6 = .ok (.bipush 6, 2) := by decide +kernel
theorem dX9_isRoom_8 : decode cX9_isRoom 8 = .ok (.if_icmp .gt 7, 3) := by decide +kernel
theorem dX9_isRoom_11 : decode cX9_isRoom 11 = .ok (.iconst 1, 1) := by decide +kernel
theorem dX9_isRoom_12 : decode cX9_isRoom 12 = .ok (.goto 4, 3) := by decide +kernel
theorem dX9_isRoom_15 : decode cX9_isRoom 15 = .ok (.iconst 0, 1) := by decide +kernel
theorem dX9_isRoom_16 : decode cX9_isRoom 16 = .ok (.ireturn, 1) := by decide +kernel
theorem dX9_isKind_0 : decode cX9_isKind 0 = .ok (.iload_n 0, 1) := by decide +kernel
theorem dX9_isKind_1 : decode cX9_isKind 1 = .ok (.ifCond .lt 12, 3) := by decide +kernel
theorem dX9_isKind_4 : decode cX9_isKind 4 = .ok (.iload_n 0, 1) := by decide +kernel
theorem dX9_isKind_5 : decode cX9_isKind 5 = .ok (.iconst 4, 1) := by decide +kernel
theorem dX9_isKind_6 : decode cX9_isKind 6 = .ok (.if_icmp .gt 7, 3) := by decide +kernel
theorem dX9_isKind_9 : decode cX9_isKind 9 = .ok (.iconst 1, 1) := by decide +kernel
theorem dX9_isKind_10 : decode cX9_isKind 10 = .ok (.goto 4, 3) := by decide +kernel
theorem dX9_isKind_13 : decode cX9_isKind 13 = .ok (.iconst 0, 1) := by decide +kernel
theorem dX9_isKind_14 : decode cX9_isKind 14 = .ok (.ireturn, 1) := by decide +kernel
theorem dX9_isA_0 : decode cX9_isA 0 = .ok (.iload_n 1, 1) := by decide +kernel
theorem dX9_isA_1 : decode cX9_isA 1 = .ok (.ifCond .eq 18, 3) := by decide +kernel
theorem dX9_isA_4 : decode cX9_isA 4 = .ok (.iload_n 1, 1) := by decide +kernel
theorem dX9_isA_5 : decode cX9_isA 5 = .ok (.iload_n 0, 1) := by decide +kernel
theorem dX9_isA_6 : decode cX9_isA 6 = .ok (.if_icmp .eq 13, 3) := by decide +kernel
theorem dX9_isA_9 : decode cX9_isA 9 = .ok (.iload_n 1, 1) := by decide +kernel
theorem dX9_isA_10 : decode cX9_isA 10 = .ok (.iconst 1, 1) := by decide +kernel
theorem dX9_isA_11 : decode cX9_isA 11 = .ok (.if_icmp .ne 12, 3) := by decide +kernel
theorem dX9_isA_14 : decode cX9_isA 14 = .ok (.iload_n 0, 1) := by decide +kernel
theorem dX9_isA_15 : decode cX9_isA 15 = .ok (.iconst 4, 1) := by decide +kernel
theorem dX9_isA_16 : decode cX9_isA 16 = .ok (.if_icmp .ne 7, 3) := by decide +kernel
theorem dX9_isA_19 : decode cX9_isA 19 = .ok (.iconst 1, 1) := by decide +kernel
theorem dX9_isA_20 : decode cX9_isA 20 = .ok (.goto 4, 3) := by decide +kernel
theorem dX9_isA_23 : decode cX9_isA 23 = .ok (.iconst 0, 1) := by decide +kernel
theorem dX9_isA_24 : decode cX9_isA 24 = .ok (.ireturn, 1) := by decide +kernel
theorem dX9_hasBit_0 : decode cX9_hasBit 0 = .ok (.iload_n 0, 1) := by decide +kernel
theorem dX9_hasBit_1 : decode cX9_hasBit 1 = .ok (.iload_n 1, 1) := by decide +kernel
theorem dX9_hasBit_2 : decode cX9_hasBit 2 = .ok (.ishr, 1) := by decide +kernel
theorem dX9_hasBit_3 : decode cX9_hasBit 3 = .ok (.iconst 1, 1) := by decide +kernel
theorem dX9_hasBit_4 : decode cX9_hasBit 4 = .ok (.iand, 1) := by decide +kernel
theorem dX9_hasBit_5 : decode cX9_hasBit 5 = .ok (.ifCond .eq 7, 3) := by decide +kernel
theorem dX9_hasBit_8 : decode cX9_hasBit 8 = .ok (.iconst 1, 1) := by decide +kernel
theorem dX9_hasBit_9 : decode cX9_hasBit 9 = .ok (.goto 4, 3) := by decide +kernel
theorem dX9_hasBit_12 : decode cX9_hasBit 12 = .ok (.iconst 0, 1) := by decide +kernel
theorem dX9_hasBit_13 : decode cX9_hasBit 13 = .ok (.ireturn, 1) := by decide +kernel
theorem dX9_nextWarm_0 : decode cX9_nextWarm 0 = .ok (.iload_n 1, 1) := by decide +kernel
theorem dX9_nextWarm_1 : decode cX9_nextWarm 1 = .ok (.ifCond .eq 14, 3) := by decide +kernel
theorem dX9_nextWarm_4 : decode cX9_nextWarm 4 = .ok (.bipush 20, 2) := by decide +kernel
theorem dX9_nextWarm_6 : decode cX9_nextWarm 6 = .ok (.iload_n 0, 1) := by decide +kernel
theorem dX9_nextWarm_7 : decode cX9_nextWarm 7 = .ok (.iconst 2, 1) := by decide +kernel
theorem dX9_nextWarm_8 : decode cX9_nextWarm 8 = .ok (.iadd, 1) := by decide +kernel
theorem dX9_nextWarm_9 : decode cX9_nextWarm 9 = .ok (.invokestatic 298, 3) := by decide +kernel
theorem dX9_nextWarm_12 : decode cX9_nextWarm 12 = .ok (.goto 10, 3) := by decide +kernel
theorem dX9_nextWarm_15 : decode cX9_nextWarm 15 = .ok (.iconst 0, 1) := by decide +kernel
theorem dX9_nextWarm_16 : decode cX9_nextWarm 16 = .ok (.iload_n 0, 1) := by decide +kernel
theorem dX9_nextWarm_17 : decode cX9_nextWarm 17 = .ok (.iconst 1, 1) := by decide +kernel
theorem dX9_nextWarm_18 : decode cX9_nextWarm 18 = .ok (.isub, 1) := by decide +kernel
theorem dX9_nextWarm_19 : decode cX9_nextWarm 19 = .ok (.invokestatic 303, 3) := by decide +kernel
theorem dX9_nextWarm_22 : decode cX9_nextWarm 22 = .ok (.ireturn, 1) := by decide +kernel
theorem dX9_digitOf_0 : decode cX9_digitOf 0 = .ok (.iload_n 0, 1) := by decide +kernel
theorem dX9_digitOf_1 : decode cX9_digitOf 1 = .ok (.bipush 48, 2) := by decide +kernel
theorem dX9_digitOf_3 : decode cX9_digitOf 3 = .ok (.if_icmp .lt 16, 3) := by decide +kernel
theorem dX9_digitOf_6 : decode cX9_digitOf 6 = .ok (.iload_n 0, 1) := by decide +kernel
theorem dX9_digitOf_7 : decode cX9_digitOf 7 = .ok (.bipush 57, 2) := by decide +kernel
theorem dX9_digitOf_9 : decode cX9_digitOf 9 = .ok (.if_icmp .gt 10, 3) := by decide +kernel
theorem dX9_digitOf_12 : decode cX9_digitOf 12 = .ok (.iload_n 0, 1) := by decide +kernel
theorem dX9_digitOf_13 : decode cX9_digitOf 13 = .ok (.bipush 48, 2) := by decide +kernel
theorem dX9_digitOf_15 : decode cX9_digitOf 15 = .ok (.isub, 1) := by decide +kernel
theorem dX9_digitOf_16 : decode cX9_digitOf 16 = .ok (.goto 4, 3) := by decide +kernel
theorem dX9_digitOf_19 : decode cX9_digitOf 19 = .ok (.iconst (-1), 1) := by decide +kernel
theorem dX9_digitOf_20 : decode cX9_digitOf 20 = .ok (.ireturn, 1) := by decide +kernel
theorem dX10_init_0 : decode cX10_init 0 = .ok (.aload_n 0, 1) := by decide +kernel
theorem dX10_init_1 : decode cX10_init 1 = .ok (.invokespecial 1, 3) := by decide +kernel
theorem dX10_init_4 : decode cX10_init 4 = .ok (.aload_n 0, 1) := by decide +kernel
theorem dX10_init_5 : decode cX10_init 5 = .ok (.bipush 54, 2) := by decide +kernel
theorem dX10_init_7 : decode cX10_init 7 = .ok (.newarray .int, 2) := by decide +kernel
theorem dX10_init_9 : decode cX10_init 9 = .ok (.putfield 7, 3) := by decide +kernel
theorem dX10_init_12 : decode cX10_init 12 = .ok (.aload_n 0, 1) := by decide +kernel
theorem dX10_init_13 : decode cX10_init 13 = .ok (.bipush 6, 2) := by decide +kernel
theorem dX10_init_15 : decode cX10_init 15 = .ok (.newarray .int, 2) := by decide +kernel
theorem dX10_init_17 : decode cX10_init 17 = .ok (.putfield 13, 3) := by decide +kernel
theorem dX10_init_20 : decode cX10_init 20 = .ok (.aload_n 0, 1) := by decide +kernel
theorem dX10_init_21 : decode cX10_init 21 = .ok (.bipush 6, 2) := by decide +kernel
theorem dX10_init_23 : decode cX10_init 23 = .ok (.newarray .int, 2) := by decide +kernel
theorem dX10_init_25 : decode cX10_init 25 = .ok (.putfield 16, 3) := by decide +kernel
theorem dX10_init_28 : decode cX10_init 28 = .ok (.aload_n 0, 1) := by decide +kernel
theorem dX10_init_29 : decode cX10_init 29 = .ok (.bipush 6, 2) := by decide +kernel
theorem dX10_init_31 : decode cX10_init 31 = .ok (.newarray .int, 2) := by decide +kernel
theorem dX10_init_33 : decode cX10_init 33 = .ok (.putfield 19, 3) := by decide +kernel
theorem dX10_init_36 : decode cX10_init 36 = .ok (.aload_n 0, 1) := by decide +kernel
theorem dX10_init_37 : decode cX10_init 37 = .ok (.bipush 8, 2) := by decide +kernel
theorem dX10_init_39 : decode cX10_init 39 = .ok (.newarray .int, 2) := by decide +kernel
theorem dX10_init_41 : decode cX10_init 41 = .ok (.putfield 22, 3) := by decide +kernel
theorem dX10_init_44 : decode cX10_init 44 = .ok (.aload_n 0, 1) := by decide +kernel
theorem dX10_init_45 : decode cX10_init 45 = .ok (.bipush 8, 2) := by decide +kernel
theorem dX10_init_47 : decode cX10_init 47 = .ok (.newarray .int, 2) := by decide +kernel
theorem dX10_init_49 : decode cX10_init 49 = .ok (.putfield 25, 3) := by decide +kernel
theorem dX10_init_52 : decode cX10_init 52 = .ok (.aload_n 0, 1) := by decide +kernel
theorem dX10_init_53 : decode cX10_init 53 = .ok (.bipush 8, 2) := by decide +kernel
theorem dX10_init_55 : decode cX10_init 55 = .ok (.newarray .int, 2) := by decide +kernel
theorem dX10_init_57 : decode cX10_init 57 = .ok (.putfield 28, 3) := by decide +kernel
theorem dX10_init_60 : decode cX10_init 60 = .ok (.aload_n 0, 1) := by decide +kernel
theorem dX10_init_61 : decode cX10_init 61 = .ok (.bipush 6, 2) := by decide +kernel
theorem dX10_init_63 : decode cX10_init 63 = .ok (.newarray .int, 2) := by decide +kernel
theorem dX10_init_65 : decode cX10_init 65 = .ok (.putfield 31, 3) := by decide +kernel
theorem dX10_init_68 : decode cX10_init 68 = .ok (.aload_n 0, 1) := by decide +kernel
theorem dX10_init_69 : decode cX10_init 69 = .ok (.bipush 6, 2) := by decide +kernel
theorem dX10_init_71 : decode cX10_init 71 = .ok (.newarray .int, 2) := by decide +kernel
theorem dX10_init_73 : decode cX10_init 73 = .ok (.putfield 34, 3) := by decide +kernel
theorem dX10_init_76 : decode cX10_init 76 = .ok (.aload_n 0, 1) := by decide +kernel
theorem dX10_init_77 : decode cX10_init 77 = .ok (.bipush 18, 2) := by decide +kernel
theorem dX10_init_79 : decode cX10_init 79 = .ok (.newarray .int, 2) := by decide +kernel
theorem dX10_init_81 : decode cX10_init 81 = .ok (.putfield 37, 3) := by decide +kernel
theorem dX10_init_84 : decode cX10_init 84 = .ok (.aload_n 0, 1) := by decide +kernel
theorem dX10_init_85 : decode cX10_init 85 = .ok (.bipush 6, 2) := by decide +kernel
theorem dX10_init_87 : decode cX10_init 87 = .ok (.newarray .int, 2) := by decide +kernel
theorem dX10_init_89 : decode cX10_init 89 = .ok (.putfield 40, 3) := by decide +kernel
theorem dX10_init_92 : decode cX10_init 92 = .ok (.aload_n 0, 1) := by decide +kernel
theorem dX10_init_93 : decode cX10_init 93 = .ok (.bipush 6, 2) := by decide +kernel
theorem dX10_init_95 : decode cX10_init 95 = .ok (.newarray .int, 2) := by decide +kernel
theorem dX10_init_97 : decode cX10_init 97 = .ok (.putfield 43, 3) := by decide +kernel
theorem dX10_init_100 : decode cX10_init 100 = .ok (.aload_n 0, 1) := by decide +kernel
theorem dX10_init_101 : decode cX10_init 101 = .ok (.bipush 6, 2) := by decide +kernel
theorem dX10_init_103 : decode cX10_init 103 = .ok (.newarray .int, 2) := by decide +kernel
theorem dX10_init_105 : decode cX10_init 105 = .ok (.putfield 46, 3) := by decide +kernel
theorem dX10_init_108 : decode cX10_init 108 = .ok (.aload_n 0, 1) := by decide +kernel
theorem dX10_init_109 : decode cX10_init 109 = .ok (.bipush 8, 2) := by decide +kernel
theorem dX10_init_111 : decode cX10_init 111 = .ok (.newarray .int, 2) := by decide +kernel
theorem dX10_init_113 : decode cX10_init 113 = .ok (.putfield 49, 3) := by decide +kernel
theorem dX10_init_116 : decode cX10_init 116 = .ok (.aload_n 0, 1) := by decide +kernel
theorem dX10_init_117 : decode cX10_init 117 = .ok (.bipush 18, 2) := by decide +kernel
theorem dX10_init_119 : decode cX10_init 119 = .ok (.newarray .int, 2) := by decide +kernel
theorem dX10_init_121 : decode cX10_init 121 = .ok (.putfield 52, 3) := by decide +kernel
theorem dX10_init_124 : decode cX10_init 124 = .ok (.aload_n 0, 1) := by decide +kernel
theorem dX10_init_125 : decode cX10_init 125 = .ok (.iconst (-1), 1) := by decide +kernel
theorem dX10_init_126 : decode cX10_init 126 = .ok (.putfield 55, 3) := by decide +kernel
theorem dX10_init_129 : decode cX10_init 129 = .ok (.return_, 1) := by decide +kernel
theorem dX10_in_0 : decode cX10_in 0 = .ok (.lload_n 0, 1) := by decide +kernel
theorem dX10_in_1 : decode cX10_in 1 = .ok (.lload_n 2, 1) := by decide +kernel
theorem dX10_in_2 : decode cX10_in 2 = .ok (.lcmp, 1) := by decide +kernel
theorem dX10_in_3 : decode cX10_in 3 = .ok (.ifCond .lt 14, 3) := by decide +kernel
theorem dX10_in_6 : decode cX10_in 6 = .ok (.lload_n 0, 1) := by decide +kernel
theorem dX10_in_7 : decode cX10_in 7 = .ok (.lload 4, 2) := by decide +kernel
theorem dX10_in_9 : decode cX10_in 9 = .ok (.lcmp, 1) := by decide +kernel
theorem dX10_in_10 : decode cX10_in 10 = .ok (.ifCond .gt 7, 3) := by decide +kernel
theorem dX10_in_13 : decode cX10_in 13 = .ok (.iconst 1, 1) := by decide +kernel
theorem dX10_in_14 : decode cX10_in 14 = .ok (.goto 4, 3) := by decide +kernel
theorem dX10_in_17 : decode cX10_in 17 = .ok (.iconst 0, 1) := by decide +kernel
theorem dX10_in_18 : decode cX10_in 18 = .ok (.ireturn, 1) := by decide +kernel
theorem dX10_copy_0 : decode cX10_copy 0 = .ok (.iconst 0, 1) := by decide +kernel
theorem dX10_copy_1 : decode cX10_copy 1 = .ok (.istore_n 2, 1) := by decide +kernel
theorem dX10_copy_2 : decode cX10_copy 2 = .ok (.iload_n 2, 1) := by decide +kernel
theorem dX10_copy_3 : decode cX10_copy 3 = .ok (.aload_n 0, 1) := by decide +kernel
theorem dX10_copy_4 : decode cX10_copy 4 = .ok (.arraylength, 1) := by decide +kernel
theorem dX10_copy_5 : decode cX10_copy 5 = .ok (.if_icmp .ge 15, 3) := by decide +kernel
theorem dX10_copy_8 : decode cX10_copy 8 = .ok (.aload_n 1, 1) := by decide +kernel
theorem dX10_copy_9 : decode cX10_copy 9 = .ok (.iload_n 2, 1) := by decide +kernel
theorem dX10_copy_10 : decode cX10_copy 10 = .ok (.aload_n 0, 1) := by decide +kernel
theorem dX10_copy_11 : decode cX10_copy 11 = .ok (.iload_n 2, 1) := by decide +kernel
theorem dX10_copy_12 : decode cX10_copy 12 = .ok (.iaload, 1) := by decide +kernel
theorem dX10_copy_13 : decode cX10_copy 13 = .ok (.iastore, 1) := by decide +kernel
theorem dX10_copy_14 : decode cX10_copy 14 = .ok (.iinc 2 1, 3) := by decide +kernel
theorem dX10_copy_17 : decode cX10_copy 17 = .ok (.goto (-15), 3) := by decide +kernel
theorem dX10_copy_20 : decode cX10_copy 20 = .ok (.return_, 1) := by decide +kernel
theorem dX10_ones_0 : decode cX10_ones 0 = .ok (.iconst 0, 1) := by decide +kernel
theorem dX10_ones_1 : decode cX10_ones 1 = .ok (.istore_n 1, 1) := by decide +kernel
theorem dX10_ones_2 : decode cX10_ones 2 = .ok (.iconst 0, 1) := by decide +kernel
theorem dX10_ones_3 : decode cX10_ones 3 = .ok (.istore_n 2, 1) := by decide +kernel
theorem dX10_ones_4 : decode cX10_ones 4 = .ok (.iload_n 2, 1) := by decide +kernel
theorem dX10_ones_5 : decode cX10_ones 5 = .ok (.bipush 9, 2) := by decide +kernel
theorem dX10_ones_7 : decode cX10_ones 7 = .ok (.if_icmp .ge 17, 3) := by decide +kernel
theorem dX10_ones_10 : decode cX10_ones 10 = .ok (.iload_n 1, 1) := by decide +kernel
theorem dX10_ones_11 : decode cX10_ones 11 = .ok (.iload_n 0, 1) := by decide +kernel
theorem dX10_ones_12 : decode cX10_ones 12 = .ok (.iload_n 2, 1) := by decide +kernel
theorem dX10_ones_13 : decode cX10_ones 13 = .ok (.ishr, 1) := by decide +kernel
theorem dX10_ones_14 : decode cX10_ones 14 = .ok (.iconst 1, 1) := by decide +kernel
theorem dX10_ones_15 : decode cX10_ones 15 = .ok (.iand, 1) := by decide +kernel
theorem dX10_ones_16 : decode cX10_ones 16 = .ok (.iadd, 1) := by decide +kernel
theorem dX10_ones_17 : decode cX10_ones 17 = .ok (.istore_n 1, 1) := by decide +kernel
theorem dX10_ones_18 : decode cX10_ones 18 = .ok (.iinc 2 1, 3) := by decide +kernel
theorem dX10_ones_21 : decode cX10_ones 21 = .ok (.goto (-17), 3) := by decide +kernel
theorem dX10_ones_24 : decode cX10_ones 24 = .ok (.iload_n 1, 1) := by decide +kernel
theorem dX10_ones_25 : decode cX10_ones 25 = .ok (.ireturn, 1) := by decide +kernel
theorem dX10_letter_0 : decode cX10_letter 0 = .ok (.iload_n 1, 1) := by decide +kernel
theorem dX10_letter_1 : decode cX10_letter 1 = .ok (.i2l, 1) := by decide +kernel
theorem dX10_letter_2 : decode cX10_letter 2 = .ok (.lconst 1, 1) := by decide +kernel
theorem dX10_letter_3 : decode cX10_letter 3 = .ok (.ldc2_w 59, 3) := by decide +kernel
theorem dX10_letter_6 : decode cX10_letter 6 = .ok (.invokestatic 61, 3) := by decide +kernel
theorem dX10_letter_9 : decode cX10_letter 9 = .ok (.ifCond .ne 6, 3) := by decide +kernel
theorem dX10_letter_12 : decode cX10_letter 12 = .ok (.bipush (-102), 2) := by decide +kernel
theorem dX10_letter_14 : decode cX10_letter 14 = .ok (.ireturn, 1) := by decide +kernel
theorem dX10_letter_15 : decode cX10_letter 15 = .ok (.aload_n 0, 1) := by decide +kernel
theorem dX10_letter_16 : decode cX10_letter 16 = .ok (.getfield 65, 3) := by decide +kernel
theorem dX10_letter_19 : decode cX10_letter 19 = .ok (.bipush 54, 2) := by decide +kernel
theorem dX10_letter_21 : decode cX10_letter 21 = .ok (.if_icmp .ne 6, 3) := by decide +kernel
theorem dX10_letter_24 : decode cX10_letter 24 = .ok (.bipush (-104), 2) := by decide +kernel
theorem dX10_letter_26 : decode cX10_letter 26 = .ok (.ireturn, 1) := by decide +kernel
theorem dX10_letter_27 : decode cX10_letter 27 = .ok (.aload_n 0, 1) := by decide +kernel
theorem dX10_letter_28 : decode cX10_letter 28 = .ok (.getfield 7, 3) := by decide +kernel
theorem dX10_letter_31 : decode cX10_letter 31 = .ok (.aload_n 0, 1) := by decide +kernel
theorem dX10_letter_32 : decode cX10_letter 32 = .ok (.getfield 65, 3) := by decide +kernel
theorem dX10_letter_35 : decode cX10_letter 35 = .ok (.iload_n 1, 1) := by decide +kernel
theorem dX10_letter_36 : decode cX10_letter 36 = .ok (.iastore, 1) := by decide +kernel
theorem dX10_letter_37 : decode cX10_letter 37 = .ok (.aload_n 0, 1) := by decide +kernel
theorem dX10_letter_38 : decode cX10_letter 38 = .ok (.dup, 1) := by decide +kernel
theorem dX10_letter_39 : decode cX10_letter 39 = .ok (.getfield 65, 3) := by decide +kernel
theorem dX10_letter_42 : decode cX10_letter 42 = .ok (.iconst 1, 1) := by decide +kernel
theorem dX10_letter_43 : decode cX10_letter 43 = .ok (.iadd, 1) := by decide +kernel
theorem dX10_letter_44 : decode cX10_letter 44 = .ok (.putfield 65, 3) := by decide +kernel
theorem dX10_letter_47 : decode cX10_letter 47 = .ok (.aload_n 0, 1) := by decide +kernel
theorem dX10_letter_48 : decode cX10_letter 48 = .ok (.getfield 65, 3) := by decide +kernel
theorem dX10_letter_51 : decode cX10_letter 51 = .ok (.ireturn, 1) := by decide +kernel
theorem dX10_blank_0 : decode cX10_blank 0 = .ok (.aload_n 0, 1) := by decide +kernel
theorem dX10_blank_1 : decode cX10_blank 1 = .ok (.getfield 65, 3) := by decide +kernel
theorem dX10_blank_4 : decode cX10_blank 4 = .ok (.istore_n 1, 1) := by decide +kernel
theorem dX10_blank_5 : decode cX10_blank 5 = .ok (.aload_n 0, 1) := by decide +kernel
theorem dX10_blank_6 : decode cX10_blank 6 = .ok (.iconst 0, 1) := by decide +kernel
theorem dX10_blank_7 : decode cX10_blank 7 = .ok (.putfield 65, 3) := by decide +kernel
theorem dX10_blank_10 : decode cX10_blank 10 = .ok (.iload_n 1, 1) := by decide +kernel
theorem dX10_blank_11 : decode cX10_blank 11 = .ok (.ireturn, 1) := by decide +kernel
theorem dX10_kindBy_0 : decode cX10_kindBy 0 = .ok (.iload_n 0, 1) := by decide +kernel
theorem dX10_kindBy_1 : decode cX10_kindBy 1 = .ok (.lookupswitch 61 #[(98, 57), (103, 53), (104, 55), (112, 51), (115, 59)], 51) := by decide +kernel
theorem dX10_kindBy_52 : decode cX10_kindBy 52 = .ok (.iconst 0, 1) := by decide +kernel
theorem dX10_kindBy_53 : decode cX10_kindBy 53 = .ok (.ireturn, 1) := by decide +kernel
theorem dX10_kindBy_54 : decode cX10_kindBy 54 = .ok (.iconst 1, 1) := by decide +kernel
theorem dX10_kindBy_55 : decode cX10_kindBy 55 = .ok (.ireturn, 1) := by decide +kernel
theorem dX10_kindBy_56 : decode cX10_kindBy 56 = .ok (.iconst 2, 1) := by decide +kernel
theorem dX10_kindBy_57 : decode cX10_kindBy 57 = .ok (.ireturn, 1) := by decide +kernel
theorem dX10_kindBy_58 : decode cX10_kindBy 58 = .ok (.iconst 3, 1) := by decide +kernel
theorem dX10_kindBy_59 : decode cX10_kindBy 59 = .ok (.ireturn, 1) := by decide +kernel
theorem dX10_kindBy_60 : decode cX10_kindBy 60 = .ok (.iconst 4, 1) := by decide +kernel
theorem dX10_kindBy_61 : decode cX10_kindBy 61 = .ok (.ireturn, 1) := by decide +kernel
theorem dX10_kindBy_62 : decode cX10_kindBy 62 = .ok (.iconst (-1), 1) := by decide +kernel
theorem dX10_kindBy_63 : decode cX10_kindBy 63 = .ok (.ireturn, 1) := by decide +kernel
theorem dX10_isPersonLetter_0 : decode cX10_isPersonLetter 0 = .ok (.aload_n 0, 1) := by decide +kernel
theorem dX10_isPersonLetter_1 : decode cX10_isPersonLetter 1 = .ok (.getfield 7, 3) := by decide +kernel
theorem dX10_isPersonLetter_4 : decode cX10_isPersonLetter 4 = .ok (.iload_n 1, 1) := by decide +kernel
theorem dX10_isPersonLetter_5 : decode cX10_isPersonLetter 5 = .ok (.iaload, 1) := by decide +kernel
theorem dX10_isPersonLetter_6 : decode cX10_isPersonLetter 6 = .ok (.istore_n 2, 1) := by decide +kernel
theorem dX10_isPersonLetter_7 : decode cX10_isPersonLetter 7 = .ok (.iload_n 1, 1) := by decide +kernel
theorem dX10_isPersonLetter_8 : decode cX10_isPersonLetter 8 = .ok (.iconst 2, 1) := by decide +kernel
theorem dX10_isPersonLetter_9 : decode cX10_isPersonLetter 9 = .ok (.isub, 1) := by decide +kernel
theorem dX10_isPersonLetter_10 : decode cX10_isPersonLetter 10 = .ok (.istore_n 3, 1) := by decide +kernel
theorem dX10_isPersonLetter_11 : decode cX10_isPersonLetter 11 = .ok (.iload_n 3, 1) := by decide +kernel
theorem dX10_isPersonLetter_12 : decode cX10_isPersonLetter 12 = .ok (.iconst 3, 1) := by decide +kernel
theorem dX10_isPersonLetter_13 : decode cX10_isPersonLetter 13 = .ok (.irem, 1) := by decide +kernel
theorem dX10_isPersonLetter_14 : decode cX10_isPersonLetter 14 = .ok (.lookupswitch 52 #[(0, 26), (1, 40)], 26) := by decide +kernel
theorem dX10_isPersonLetter_40 : decode cX10_isPersonLetter 40 = .ok (.iload_n 2, 1) := by decide +kernel
theorem dX10_isPersonLetter_41 : decode cX10_isPersonLetter 41 = .ok (.invokestatic 68, 3) := by decide +kernel
theorem dX10_isPersonLetter_44 : decode cX10_isPersonLetter 44 = .ok (.iconst (-1), 1) := by decide +kernel
theorem dX10_isPersonLetter_45 : decode cX10_isPersonLetter 45 = .ok (.if_icmp .eq 7, 3) := by decide +kernel
theorem dX10_isPersonLetter_48 : decode cX10_isPersonLetter 48 = .ok (.iconst 1, 1) := by decide +kernel
theorem dX10_isPersonLetter_49 : decode cX10_isPersonLetter 49 = .ok (.goto 4, 3) := by decide +kernel
theorem dX10_isPersonLetter_52 : decode cX10_isPersonLetter 52 = .ok (.iconst 0, 1) := by decide +kernel
theorem dX10_isPersonLetter_53 : decode cX10_isPersonLetter 53 = .ok (.ireturn, 1) := by decide +kernel
theorem dX10_isPersonLetter_54 : decode cX10_isPersonLetter 54 = .ok (.iload_n 2, 1) := by decide +kernel
theorem dX10_isPersonLetter_55 : decode cX10_isPersonLetter 55 = .ok (.i2l, 1) := by decide +kernel
theorem dX10_isPersonLetter_56 : decode cX10_isPersonLetter 56 = .ok (.ldc2_w 72, 3) := by decide +kernel
theorem dX10_isPersonLetter_59 : decode cX10_isPersonLetter 59 = .ok (.ldc2_w 74, 3) := by decide +kernel
theorem dX10_isPersonLetter_62 : decode cX10_isPersonLetter 62 = .ok (.invokestatic 61, 3) := by decide +kernel
theorem dX10_isPersonLetter_65 : decode cX10_isPersonLetter 65 = .ok (.ireturn, 1) := by decide +kernel
theorem dX10_isPersonLetter_66 : decode cX10_isPersonLetter 66 = .ok (.iload_n 2, 1) := by decide +kernel
theorem dX10_isPersonLetter_67 : decode cX10_isPersonLetter 67 = .ok (.bipush 59, 2) := by decide +kernel
end
section
theorem dX10_isPersonLetter_69 : decode cX10_isPersonLetter 69 = .ok (.if_icmp .ne 15, 3) := by decide +kernel
theorem dX10_isPersonLetter_72 : decode cX10_isPersonLetter 72 = .ok (.iload_n 3, 1) := by decide +kernel
theorem dX10_isPersonLetter_73 : decode cX10_isPersonLetter 73 = .ok (.iconst 2, 1) := by decide +kernel
theorem dX10_isPersonLetter_74 : decode cX10_isPersonLetter 74 = .ok (.if_icmp .le 10, 3) := by decide +kernel
theorem dX10_isPersonLetter_77 : decode cX10_isPersonLetter 77 = .ok (.aload_n 0, 1) := by decide +kernel
theorem dX10_isPersonLetter_78 : decode cX10_isPersonLetter 78 = .ok (.iload_n 1, 1) := by decide +kernel
theorem dX10_isPersonLetter_79 : decode cX10_isPersonLetter 79 = .ok (.putfield 76, 3) := by decide +kernel
theorem dX10_isPersonLetter_82 : decode cX10_isPersonLetter 82 = .ok (.iconst 1, 1) := by decide +kernel
theorem dX10_isPersonLetter_83 : decode cX10_isPersonLetter 83 = .ok (.ireturn, 1) := by decide +kernel
theorem dX10_isPersonLetter_84 : decode cX10_isPersonLetter 84 = .ok (.iload_n 2, 1) := by decide +kernel
theorem dX10_isPersonLetter_85 : decode cX10_isPersonLetter 85 = .ok (.bipush 44, 2) := by decide +kernel
theorem dX10_isPersonLetter_87 : decode cX10_isPersonLetter 87 = .ok (.if_icmp .ne 13, 3) := by decide +kernel
theorem dX10_isPersonLetter_90 : decode cX10_isPersonLetter 90 = .ok (.iload_n 3, 1) := by decide +kernel
theorem dX10_isPersonLetter_91 : decode cX10_isPersonLetter 91 = .ok (.bipush 17, 2) := by decide +kernel
theorem dX10_isPersonLetter_93 : decode cX10_isPersonLetter 93 = .ok (.if_icmp .ge 7, 3) := by decide +kernel
theorem dX10_isPersonLetter_96 : decode cX10_isPersonLetter 96 = .ok (.iconst 1, 1) := by decide +kernel
theorem dX10_isPersonLetter_97 : decode cX10_isPersonLetter 97 = .ok (.goto 4, 3) := by decide +kernel
theorem dX10_isPersonLetter_100 : decode cX10_isPersonLetter 100 = .ok (.iconst 0, 1) := by decide +kernel
theorem dX10_isPersonLetter_101 : decode cX10_isPersonLetter 101 = .ok (.ireturn, 1) := by decide +kernel
theorem dX10_isPersonDigit_0 : decode cX10_isPersonDigit 0 = .ok (.iload_n 1, 1) := by decide +kernel
theorem dX10_isPersonDigit_1 : decode cX10_isPersonDigit 1 = .ok (.i2l, 1) := by decide +kernel
theorem dX10_isPersonDigit_2 : decode cX10_isPersonDigit 2 = .ok (.ldc2_w 72, 3) := by decide +kernel
theorem dX10_isPersonDigit_5 : decode cX10_isPersonDigit 5 = .ok (.bipush 48, 2) := by decide +kernel
theorem dX10_isPersonDigit_7 : decode cX10_isPersonDigit 7 = .ok (.aload_n 0, 1) := by decide +kernel
theorem dX10_isPersonDigit_8 : decode cX10_isPersonDigit 8 = .ok (.getfield 76, 3) := by decide +kernel
theorem dX10_isPersonDigit_11 : decode cX10_isPersonDigit 11 = .ok (.iconst 1, 1) := by decide +kernel
theorem dX10_isPersonDigit_12 : decode cX10_isPersonDigit 12 = .ok (.isub, 1) := by decide +kernel
theorem dX10_isPersonDigit_13 : decode cX10_isPersonDigit 13 = .ok (.iconst 3, 1) := by decide +kernel
theorem dX10_isPersonDigit_14 : decode cX10_isPersonDigit 14 = .ok (.idiv, 1) := by decide +kernel
theorem dX10_isPersonDigit_15 : decode cX10_isPersonDigit 15 = .ok (.iadd, 1) := by decide +kernel
theorem dX10_isPersonDigit_16 : decode cX10_isPersonDigit 16 = .ok (.iconst 1, 1) := by decide +kernel
theorem dX10_isPersonDigit_17 : decode cX10_isPersonDigit 17 = .ok (.isub, 1) := by decide +kernel
theorem dX10_isPersonDigit_18 : decode cX10_isPersonDigit 18 = .ok (.i2l, 1) := by decide +kernel
theorem dX10_isPersonDigit_19 : decode cX10_isPersonDigit 19 = .ok (.invokestatic 61, 3) := by decide +kernel
theorem dX10_isPersonDigit_22 : decode cX10_isPersonDigit 22 = .ok (.ireturn, 1) := by decide +kernel
theorem dX10_isWrongLetter_0 : decode cX10_isWrongLetter 0 = .ok (.aload_n 0, 1) := by decide +kernel
theorem dX10_isWrongLetter_1 : decode cX10_isWrongLetter 1 = .ok (.getfield 7, 3) := by decide +kernel
theorem dX10_isWrongLetter_4 : decode cX10_isWrongLetter 4 = .ok (.iload_n 1, 1) := by decide +kernel
theorem dX10_isWrongLetter_5 : decode cX10_isWrongLetter 5 = .ok (.iaload, 1) := by decide +kernel
theorem dX10_isWrongLetter_6 : decode cX10_isWrongLetter 6 = .ok (.istore_n 2, 1) := by decide +kernel
theorem dX10_isWrongLetter_7 : decode cX10_isWrongLetter 7 = .ok (.iload_n 1, 1) := by decide +kernel
theorem dX10_isWrongLetter_8 : decode cX10_isWrongLetter 8 = .ok (.aload_n 0, 1) := by decide +kernel
theorem dX10_isWrongLetter_9 : decode cX10_isWrongLetter 9 = .ok (.getfield 76, 3) := by decide +kernel
theorem dX10_isWrongLetter_12 : decode cX10_isWrongLetter 12 = .ok (.isub, 1) := by decide +kernel
theorem dX10_isWrongLetter_13 : decode cX10_isWrongLetter 13 = .ok (.iconst 1, 1) := by decide +kernel
theorem dX10_isWrongLetter_14 : decode cX10_isWrongLetter 14 = .ok (.isub, 1) := by decide +kernel
theorem dX10_isWrongLetter_15 : decode cX10_isWrongLetter 15 = .ok (.istore_n 3, 1) := by decide +kernel
theorem dX10_isWrongLetter_16 : decode cX10_isWrongLetter 16 = .ok (.iload_n 3, 1) := by decide +kernel
theorem dX10_isWrongLetter_17 : decode cX10_isWrongLetter 17 = .ok (.iconst 4, 1) := by decide +kernel
theorem dX10_isWrongLetter_18 : decode cX10_isWrongLetter 18 = .ok (.irem, 1) := by decide +kernel
theorem dX10_isWrongLetter_19 : decode cX10_isWrongLetter 19 = .ok (.tableswitch 69 0 2 #[25, 31, 57], 25) := by decide +kernel
theorem dX10_isWrongLetter_44 : decode cX10_isWrongLetter 44 = .ok (.aload_n 0, 1) := by decide +kernel
theorem dX10_isWrongLetter_45 : decode cX10_isWrongLetter 45 = .ok (.iload_n 2, 1) := by decide +kernel
theorem dX10_isWrongLetter_46 : decode cX10_isWrongLetter 46 = .ok (.invokevirtual 79, 3) := by decide +kernel
theorem dX10_isWrongLetter_49 : decode cX10_isWrongLetter 49 = .ok (.ireturn, 1) := by decide +kernel
theorem dX10_isWrongLetter_50 : decode cX10_isWrongLetter 50 = .ok (.aload_n 0, 1) := by decide +kernel
theorem dX10_isWrongLetter_51 : decode cX10_isWrongLetter 51 = .ok (.iload_n 2, 1) := by decide +kernel
theorem dX10_isWrongLetter_52 : decode cX10_isWrongLetter 52 = .ok (.invokevirtual 79, 3) := by decide +kernel
theorem dX10_isWrongLetter_55 : decode cX10_isWrongLetter 55 = .ok (.ifCond .eq 19, 3) := by decide +kernel
theorem dX10_isWrongLetter_58 : decode cX10_isWrongLetter 58 = .ok (.iload_n 2, 1) := by decide +kernel
theorem dX10_isWrongLetter_59 : decode cX10_isWrongLetter 59 = .ok (.aload_n 0, 1) := by decide +kernel
theorem dX10_isWrongLetter_60 : decode cX10_isWrongLetter 60 = .ok (.getfield 7, 3) := by decide +kernel
theorem dX10_isWrongLetter_63 : decode cX10_isWrongLetter 63 = .ok (.iload_n 1, 1) := by decide +kernel
theorem dX10_isWrongLetter_64 : decode cX10_isWrongLetter 64 = .ok (.iconst 1, 1) := by decide +kernel
theorem dX10_isWrongLetter_65 : decode cX10_isWrongLetter 65 = .ok (.isub, 1) := by decide +kernel
theorem dX10_isWrongLetter_66 : decode cX10_isWrongLetter 66 = .ok (.iaload, 1) := by decide +kernel
theorem dX10_isWrongLetter_67 : decode cX10_isWrongLetter 67 = .ok (.if_icmp .eq 7, 3) := by decide +kernel
theorem dX10_isWrongLetter_70 : decode cX10_isWrongLetter 70 = .ok (.iconst 1, 1) := by decide +kernel
theorem dX10_isWrongLetter_71 : decode cX10_isWrongLetter 71 = .ok (.goto 4, 3) := by decide +kernel
theorem dX10_isWrongLetter_74 : decode cX10_isWrongLetter 74 = .ok (.iconst 0, 1) := by decide +kernel
theorem dX10_isWrongLetter_75 : decode cX10_isWrongLetter 75 = .ok (.ireturn, 1) := by decide +kernel
theorem dX10_isWrongLetter_76 : decode cX10_isWrongLetter 76 = .ok (.iload_n 2, 1) := by decide +kernel
theorem dX10_isWrongLetter_77 : decode cX10_isWrongLetter 77 = .ok (.i2l, 1) := by decide +kernel
theorem dX10_isWrongLetter_78 : decode cX10_isWrongLetter 78 = .ok (.ldc2_w 83, 3) := by decide +kernel
theorem dX10_isWrongLetter_81 : decode cX10_isWrongLetter 81 = .ok (.ldc2_w 74, 3) := by decide +kernel
theorem dX10_isWrongLetter_84 : decode cX10_isWrongLetter 84 = .ok (.invokestatic 61, 3) := by decide +kernel
theorem dX10_isWrongLetter_87 : decode cX10_isWrongLetter 87 = .ok (.ireturn, 1) := by decide +kernel
theorem dX10_isWrongLetter_88 : decode cX10_isWrongLetter 88 = .ok (.iload_n 2, 1) := by decide +kernel
theorem dX10_isWrongLetter_89 : decode cX10_isWrongLetter 89 = .ok (.bipush 44, 2) := by decide +kernel
theorem dX10_isWrongLetter_91 : decode cX10_isWrongLetter 91 = .ok (.if_icmp .ne 13, 3) := by decide +kernel
theorem dX10_isWrongLetter_94 : decode cX10_isWrongLetter 94 = .ok (.iload_n 3, 1) := by decide +kernel
theorem dX10_isWrongLetter_95 : decode cX10_isWrongLetter 95 = .ok (.bipush 31, 2) := by decide +kernel
theorem dX10_isWrongLetter_97 : decode cX10_isWrongLetter 97 = .ok (.if_icmp .ge 7, 3) := by decide +kernel
theorem dX10_isWrongLetter_100 : decode cX10_isWrongLetter 100 = .ok (.iconst 1, 1) := by decide +kernel
theorem dX10_isWrongLetter_101 : decode cX10_isWrongLetter 101 = .ok (.goto 4, 3) := by decide +kernel
theorem dX10_isWrongLetter_104 : decode cX10_isWrongLetter 104 = .ok (.iconst 0, 1) := by decide +kernel
theorem dX10_isWrongLetter_105 : decode cX10_isWrongLetter 105 = .ok (.ireturn, 1) := by decide +kernel
theorem dX10_isGood_0 : decode cX10_isGood 0 = .ok (.iload_n 1, 1) := by decide +kernel
theorem dX10_isGood_1 : decode cX10_isGood 1 = .ok (.iconst 2, 1) := by decide +kernel
theorem dX10_isGood_2 : decode cX10_isGood 2 = .ok (.if_icmp .ge 43, 3) := by decide +kernel
theorem dX10_isGood_5 : decode cX10_isGood 5 = .ok (.iload_n 1, 1) := by decide +kernel
theorem dX10_isGood_6 : decode cX10_isGood 6 = .ok (.ifCond .ne 22, 3) := by decide +kernel
theorem dX10_isGood_9 : decode cX10_isGood 9 = .ok (.aload_n 0, 1) := by decide +kernel
theorem dX10_isGood_10 : decode cX10_isGood 10 = .ok (.getfield 7, 3) := by decide +kernel
theorem dX10_isGood_13 : decode cX10_isGood 13 = .ok (.iconst 0, 1) := by decide +kernel
theorem dX10_isGood_14 : decode cX10_isGood 14 = .ok (.iaload, 1) := by decide +kernel
theorem dX10_isGood_15 : decode cX10_isGood 15 = .ok (.i2l, 1) := by decide +kernel
theorem dX10_isGood_16 : decode cX10_isGood 16 = .ok (.ldc2_w 83, 3) := by decide +kernel
theorem dX10_isGood_19 : decode cX10_isGood 19 = .ok (.ldc2_w 85, 3) := by decide +kernel
theorem dX10_isGood_22 : decode cX10_isGood 22 = .ok (.invokestatic 61, 3) := by decide +kernel
theorem dX10_isGood_25 : decode cX10_isGood 25 = .ok (.goto 19, 3) := by decide +kernel
theorem dX10_isGood_28 : decode cX10_isGood 28 = .ok (.aload_n 0, 1) := by decide +kernel
theorem dX10_isGood_29 : decode cX10_isGood 29 = .ok (.getfield 7, 3) := by decide +kernel
theorem dX10_isGood_32 : decode cX10_isGood 32 = .ok (.iconst 1, 1) := by decide +kernel
theorem dX10_isGood_33 : decode cX10_isGood 33 = .ok (.iaload, 1) := by decide +kernel
theorem dX10_isGood_34 : decode cX10_isGood 34 = .ok (.bipush 59, 2) := by decide +kernel
theorem dX10_isGood_36 : decode cX10_isGood 36 = .ok (.if_icmp .ne 7, 3) := by decide +kernel
theorem dX10_isGood_39 : decode cX10_isGood 39 = .ok (.iconst 1, 1) := by decide +kernel
theorem dX10_isGood_40 : decode cX10_isGood 40 = .ok (.goto 4, 3) := by decide +kernel
theorem dX10_isGood_43 : decode cX10_isGood 43 = .ok (.iconst 0, 1) := by decide +kernel
theorem dX10_isGood_44 : decode cX10_isGood 44 = .ok (.ireturn, 1) := by decide +kernel
theorem dX10_isGood_45 : decode cX10_isGood 45 = .ok (.aload_n 0, 1) := by decide +kernel
theorem dX10_isGood_46 : decode cX10_isGood 46 = .ok (.getfield 76, 3) := by decide +kernel
theorem dX10_isGood_49 : decode cX10_isGood 49 = .ok (.ifCond .ne 11, 3) := by decide +kernel
theorem dX10_isGood_52 : decode cX10_isGood 52 = .ok (.aload_n 0, 1) := by decide +kernel
theorem dX10_isGood_53 : decode cX10_isGood 53 = .ok (.iload_n 1, 1) := by decide +kernel
theorem dX10_isGood_54 : decode cX10_isGood 54 = .ok (.invokevirtual 87, 3) := by decide +kernel
theorem dX10_isGood_57 : decode cX10_isGood 57 = .ok (.goto 8, 3) := by decide +kernel
theorem dX10_isGood_60 : decode cX10_isGood 60 = .ok (.aload_n 0, 1) := by decide +kernel
theorem dX10_isGood_61 : decode cX10_isGood 61 = .ok (.iload_n 1, 1) := by decide +kernel
theorem dX10_isGood_62 : decode cX10_isGood 62 = .ok (.invokevirtual 90, 3) := by decide +kernel
theorem dX10_isGood_65 : decode cX10_isGood 65 = .ok (.ireturn, 1) := by decide +kernel
theorem dX10_faultOf_0 : decode cX10_faultOf 0 = .ok (.aload_n 0, 1) := by decide +kernel
theorem dX10_faultOf_1 : decode cX10_faultOf 1 = .ok (.iconst 0, 1) := by decide +kernel
theorem dX10_faultOf_2 : decode cX10_faultOf 2 = .ok (.putfield 76, 3) := by decide +kernel
theorem dX10_faultOf_5 : decode cX10_faultOf 5 = .ok (.iconst 0, 1) := by decide +kernel
theorem dX10_faultOf_6 : decode cX10_faultOf 6 = .ok (.istore_n 1, 1) := by decide +kernel
theorem dX10_faultOf_7 : decode cX10_faultOf 7 = .ok (.iload_n 1, 1) := by decide +kernel
theorem dX10_faultOf_8 : decode cX10_faultOf 8 = .ok (.aload_n 0, 1) := by decide +kernel
theorem dX10_faultOf_9 : decode cX10_faultOf 9 = .ok (.getfield 65, 3) := by decide +kernel
theorem dX10_faultOf_12 : decode cX10_faultOf 12 = .ok (.if_icmp .ge 17, 3) := by decide +kernel
theorem dX10_faultOf_15 : decode cX10_faultOf 15 = .ok (.aload_n 0, 1) := by decide +kernel
theorem dX10_faultOf_16 : decode cX10_faultOf 16 = .ok (.iload_n 1, 1) := by decide +kernel
theorem dX10_faultOf_17 : decode cX10_faultOf 17 = .ok (.invokevirtual 93, 3) := by decide +kernel
theorem dX10_faultOf_20 : decode cX10_faultOf 20 = .ok (.ifCond .eq 9, 3) := by decide +kernel
theorem dX10_faultOf_23 : decode cX10_faultOf 23 = .ok (.iinc 1 1, 3) := by decide +kernel
theorem dX10_faultOf_26 : decode cX10_faultOf 26 = .ok (.goto (-19), 3) := by decide +kernel
theorem dX10_faultOf_29 : decode cX10_faultOf 29 = .ok (.iload_n 1, 1) := by decide +kernel
theorem dX10_faultOf_30 : decode cX10_faultOf 30 = .ok (.ireturn, 1) := by decide +kernel
theorem dX10_fault_0 : decode cX10_fault 0 = .ok (.aload_n 0, 1) := by decide +kernel
theorem dX10_fault_1 : decode cX10_fault 1 = .ok (.invokevirtual 96, 3) := by decide +kernel
theorem dX10_fault_4 : decode cX10_fault 4 = .ok (.ireturn, 1) := by decide +kernel
theorem dX10_chapel_0 : decode cX10_chapel 0 = .ok (.aload_n 0, 1) := by decide +kernel
theorem dX10_chapel_1 : decode cX10_chapel 1 = .ok (.invokevirtual 96, 3) := by decide +kernel
theorem dX10_chapel_4 : decode cX10_chapel 4 = .ok (.aload_n 0, 1) := by decide +kernel
theorem dX10_chapel_5 : decode cX10_chapel 5 = .ok (.getfield 65, 3) := by decide +kernel
theorem dX10_chapel_8 : decode cX10_chapel 8 = .ok (.if_icmp .lt 24, 3) := by decide +kernel
theorem dX10_chapel_11 : decode cX10_chapel 11 = .ok (.aload_n 0, 1) := by decide +kernel
theorem dX10_chapel_12 : decode cX10_chapel 12 = .ok (.getfield 76, 3) := by decide +kernel
theorem dX10_chapel_15 : decode cX10_chapel 15 = .ok (.ifCond .eq 17, 3) := by decide +kernel
theorem dX10_chapel_18 : decode cX10_chapel 18 = .ok (.aload_n 0, 1) := by decide +kernel
theorem dX10_chapel_19 : decode cX10_chapel 19 = .ok (.getfield 65, 3) := by decide +kernel
theorem dX10_chapel_22 : decode cX10_chapel 22 = .ok (.aload_n 0, 1) := by decide +kernel
theorem dX10_chapel_23 : decode cX10_chapel 23 = .ok (.getfield 76, 3) := by decide +kernel
theorem dX10_chapel_26 : decode cX10_chapel 26 = .ok (.isub, 1) := by decide +kernel
theorem dX10_chapel_27 : decode cX10_chapel 27 = .ok (.iconst 4, 1) := by decide +kernel
theorem dX10_chapel_28 : decode cX10_chapel 28 = .ok (.irem, 1) := by decide +kernel
theorem dX10_chapel_29 : decode cX10_chapel 29 = .ok (.ifCond .eq 6, 3) := by decide +kernel
theorem dX10_chapel_32 : decode cX10_chapel 32 = .ok (.bipush (-103), 2) := by decide +kernel
theorem dX10_chapel_34 : decode cX10_chapel 34 = .ok (.ireturn, 1) := by decide +kernel
theorem dX10_chapel_35 : decode cX10_chapel 35 = .ok (.aload_n 0, 1) := by decide +kernel
theorem dX10_chapel_36 : decode cX10_chapel 36 = .ok (.aload_n 0, 1) := by decide +kernel
theorem dX10_chapel_37 : decode cX10_chapel 37 = .ok (.getfield 7, 3) := by decide +kernel
theorem dX10_chapel_40 : decode cX10_chapel 40 = .ok (.iconst 0, 1) := by decide +kernel
theorem dX10_chapel_41 : decode cX10_chapel 41 = .ok (.iaload, 1) := by decide +kernel
theorem dX10_chapel_42 : decode cX10_chapel 42 = .ok (.bipush 48, 2) := by decide +kernel
theorem dX10_chapel_44 : decode cX10_chapel 44 = .ok (.isub, 1) := by decide +kernel
theorem dX10_chapel_45 : decode cX10_chapel 45 = .ok (.putfield 100, 3) := by decide +kernel
theorem dX10_chapel_48 : decode cX10_chapel 48 = .ok (.aload_n 0, 1) := by decide +kernel
theorem dX10_chapel_49 : decode cX10_chapel 49 = .ok (.aload_n 0, 1) := by decide +kernel
theorem dX10_chapel_50 : decode cX10_chapel 50 = .ok (.getfield 76, 3) := by decide +kernel
theorem dX10_chapel_53 : decode cX10_chapel 53 = .ok (.iconst 1, 1) := by decide +kernel
theorem dX10_chapel_54 : decode cX10_chapel 54 = .ok (.isub, 1) := by decide +kernel
theorem dX10_chapel_55 : decode cX10_chapel 55 = .ok (.iconst 3, 1) := by decide +kernel
theorem dX10_chapel_56 : decode cX10_chapel 56 = .ok (.idiv, 1) := by decide +kernel
theorem dX10_chapel_57 : decode cX10_chapel 57 = .ok (.putfield 103, 3) := by decide +kernel
theorem dX10_chapel_60 : decode cX10_chapel 60 = .ok (.aload_n 0, 1) := by decide +kernel
theorem dX10_chapel_61 : decode cX10_chapel 61 = .ok (.aload_n 0, 1) := by decide +kernel
theorem dX10_chapel_62 : decode cX10_chapel 62 = .ok (.getfield 65, 3) := by decide +kernel
theorem dX10_chapel_65 : decode cX10_chapel 65 = .ok (.aload_n 0, 1) := by decide +kernel
theorem dX10_chapel_66 : decode cX10_chapel 66 = .ok (.getfield 76, 3) := by decide +kernel
theorem dX10_chapel_69 : decode cX10_chapel 69 = .ok (.isub, 1) := by decide +kernel
theorem dX10_chapel_70 : decode cX10_chapel 70 = .ok (.iconst 4, 1) := by decide +kernel
theorem dX10_chapel_71 : decode cX10_chapel 71 = .ok (.idiv, 1) := by decide +kernel
theorem dX10_chapel_72 : decode cX10_chapel 72 = .ok (.putfield 106, 3) := by decide +kernel
theorem dX10_chapel_75 : decode cX10_chapel 75 = .ok (.iconst 0, 1) := by decide +kernel
theorem dX10_chapel_76 : decode cX10_chapel 76 = .ok (.istore_n 1, 1) := by decide +kernel
theorem dX10_chapel_77 : decode cX10_chapel 77 = .ok (.iload_n 1, 1) := by decide +kernel
theorem dX10_chapel_78 : decode cX10_chapel 78 = .ok (.aload_n 0, 1) := by decide +kernel
theorem dX10_chapel_79 : decode cX10_chapel 79 = .ok (.getfield 103, 3) := by decide +kernel
theorem dX10_chapel_82 : decode cX10_chapel 82 = .ok (.if_icmp .ge 54, 3) := by decide +kernel
theorem dX10_chapel_85 : decode cX10_chapel 85 = .ok (.aload_n 0, 1) := by decide +kernel
theorem dX10_chapel_86 : decode cX10_chapel 86 = .ok (.getfield 13, 3) := by decide +kernel
theorem dX10_chapel_89 : decode cX10_chapel 89 = .ok (.iload_n 1, 1) := by decide +kernel
theorem dX10_chapel_90 : decode cX10_chapel 90 = .ok (.aload_n 0, 1) := by decide +kernel
theorem dX10_chapel_91 : decode cX10_chapel 91 = .ok (.getfield 7, 3) := by decide +kernel
theorem dX10_chapel_94 : decode cX10_chapel 94 = .ok (.iconst 2, 1) := by decide +kernel
theorem dX10_chapel_95 : decode cX10_chapel 95 = .ok (.iconst 3, 1) := by decide +kernel
theorem dX10_chapel_96 : decode cX10_chapel 96 = .ok (.iload_n 1, 1) := by decide +kernel
theorem dX10_chapel_97 : decode cX10_chapel 97 = .ok (.imul, 1) := by decide +kernel
theorem dX10_chapel_98 : decode cX10_chapel 98 = .ok (.iadd, 1) := by decide +kernel
theorem dX10_chapel_99 : decode cX10_chapel 99 = .ok (.iaload, 1) := by decide +kernel
theorem dX10_chapel_100 : decode cX10_chapel 100 = .ok (.invokestatic 68, 3) := by decide +kernel
theorem dX10_chapel_103 : decode cX10_chapel 103 = .ok (.iastore, 1) := by decide +kernel
theorem dX10_chapel_104 : decode cX10_chapel 104 = .ok (.aload_n 0, 1) := by decide +kernel
theorem dX10_chapel_105 : decode cX10_chapel 105 = .ok (.getfield 16, 3) := by decide +kernel
theorem dX10_chapel_108 : decode cX10_chapel 108 = .ok (.iload_n 1, 1) := by decide +kernel
theorem dX10_chapel_109 : decode cX10_chapel 109 = .ok (.aload_n 0, 1) := by decide +kernel
theorem dX10_chapel_110 : decode cX10_chapel 110 = .ok (.getfield 7, 3) := by decide +kernel
theorem dX10_chapel_113 : decode cX10_chapel 113 = .ok (.iconst 3, 1) := by decide +kernel
theorem dX10_chapel_114 : decode cX10_chapel 114 = .ok (.iconst 3, 1) := by decide +kernel
theorem dX10_chapel_115 : decode cX10_chapel 115 = .ok (.iload_n 1, 1) := by decide +kernel
theorem dX10_chapel_116 : decode cX10_chapel 116 = .ok (.imul, 1) := by decide +kernel
theorem dX10_chapel_117 : decode cX10_chapel 117 = .ok (.iadd, 1) := by decide +kernel
theorem dX10_chapel_118 : decode cX10_chapel 118 = .ok (.iaload, 1) := by decide +kernel
theorem dX10_chapel_119 : decode cX10_chapel 119 = .ok (.bipush 48, 2) := by decide +kernel
theorem dX10_chapel_121 : decode cX10_chapel 121 = .ok (.isub, 1) := by decide +kernel
theorem dX10_chapel_122 : decode cX10_chapel 122 = .ok (.iastore, 1) := by decide +kernel
theorem dX10_chapel_123 : decode cX10_chapel 123 = .ok (.aload_n 0, 1) := by decide +kernel
theorem dX10_chapel_124 : decode cX10_chapel 124 = .ok (.getfield 19, 3) := by decide +kernel
theorem dX10_chapel_127 : decode cX10_chapel 127 = .ok (.iload_n 1, 1) := by decide +kernel
theorem dX10_chapel_128 : decode cX10_chapel 128 = .ok (.iconst 0, 1) := by decide +kernel
theorem dX10_chapel_129 : decode cX10_chapel 129 = .ok (.iastore, 1) := by decide +kernel
theorem dX10_chapel_130 : decode cX10_chapel 130 = .ok (.iinc 1 1, 3) := by decide +kernel
theorem dX10_chapel_133 : decode cX10_chapel 133 = .ok (.goto (-56), 3) := by decide +kernel
theorem dX10_chapel_136 : decode cX10_chapel 136 = .ok (.iconst 0, 1) := by decide +kernel
theorem dX10_chapel_137 : decode cX10_chapel 137 = .ok (.istore_n 1, 1) := by decide +kernel
theorem dX10_chapel_138 : decode cX10_chapel 138 = .ok (.iload_n 1, 1) := by decide +kernel
theorem dX10_chapel_139 : decode cX10_chapel 139 = .ok (.aload_n 0, 1) := by decide +kernel
theorem dX10_chapel_140 : decode cX10_chapel 140 = .ok (.getfield 106, 3) := by decide +kernel
theorem dX10_chapel_143 : decode cX10_chapel 143 = .ok (.if_icmp .ge 69, 3) := by decide +kernel
theorem dX10_chapel_146 : decode cX10_chapel 146 = .ok (.aload_n 0, 1) := by decide +kernel
theorem dX10_chapel_147 : decode cX10_chapel 147 = .ok (.getfield 76, 3) := by decide +kernel
theorem dX10_chapel_150 : decode cX10_chapel 150 = .ok (.iconst 1, 1) := by decide +kernel
theorem dX10_chapel_151 : decode cX10_chapel 151 = .ok (.iadd, 1) := by decide +kernel
theorem dX10_chapel_152 : decode cX10_chapel 152 = .ok (.iconst 4, 1) := by decide +kernel
theorem dX10_chapel_153 : decode cX10_chapel 153 = .ok (.iload_n 1, 1) := by decide +kernel
theorem dX10_chapel_154 : decode cX10_chapel 154 = .ok (.imul, 1) := by decide +kernel
theorem dX10_chapel_155 : decode cX10_chapel 155 = .ok (.iadd, 1) := by decide +kernel
theorem dX10_chapel_156 : decode cX10_chapel 156 = .ok (.istore_n 2, 1) := by decide +kernel
theorem dX10_chapel_157 : decode cX10_chapel 157 = .ok (.aload_n 0, 1) := by decide +kernel
theorem dX10_chapel_158 : decode cX10_chapel 158 = .ok (.getfield 22, 3) := by decide +kernel
theorem dX10_chapel_161 : decode cX10_chapel 161 = .ok (.iload_n 1, 1) := by decide +kernel
theorem dX10_chapel_162 : decode cX10_chapel 162 = .ok (.aload_n 0, 1) := by decide +kernel
theorem dX10_chapel_163 : decode cX10_chapel 163 = .ok (.getfield 7, 3) := by decide +kernel
theorem dX10_chapel_166 : decode cX10_chapel 166 = .ok (.iload_n 2, 1) := by decide +kernel
theorem dX10_chapel_167 : decode cX10_chapel 167 = .ok (.iaload, 1) := by decide +kernel
theorem dX10_chapel_168 : decode cX10_chapel 168 = .ok (.bipush 48, 2) := by decide +kernel
theorem dX10_chapel_170 : decode cX10_chapel 170 = .ok (.isub, 1) := by decide +kernel
theorem dX10_chapel_171 : decode cX10_chapel 171 = .ok (.iastore, 1) := by decide +kernel
theorem dX10_chapel_172 : decode cX10_chapel 172 = .ok (.aload_n 0, 1) := by decide +kernel
theorem dX10_chapel_173 : decode cX10_chapel 173 = .ok (.getfield 25, 3) := by decide +kernel
theorem dX10_chapel_176 : decode cX10_chapel 176 = .ok (.iload_n 1, 1) := by decide +kernel
theorem dX10_chapel_177 : decode cX10_chapel 177 = .ok (.aload_n 0, 1) := by decide +kernel
theorem dX10_chapel_178 : decode cX10_chapel 178 = .ok (.getfield 7, 3) := by decide +kernel
theorem dX10_chapel_181 : decode cX10_chapel 181 = .ok (.iload_n 2, 1) := by decide +kernel
theorem dX10_chapel_182 : decode cX10_chapel 182 = .ok (.iconst 1, 1) := by decide +kernel
theorem dX10_chapel_183 : decode cX10_chapel 183 = .ok (.iadd, 1) := by decide +kernel
theorem dX10_chapel_184 : decode cX10_chapel 184 = .ok (.iaload, 1) := by decide +kernel
theorem dX10_chapel_185 : decode cX10_chapel 185 = .ok (.bipush 48, 2) := by decide +kernel
theorem dX10_chapel_187 : decode cX10_chapel 187 = .ok (.isub, 1) := by decide +kernel
theorem dX10_chapel_188 : decode cX10_chapel 188 = .ok (.iastore, 1) := by decide +kernel
theorem dX10_chapel_189 : decode cX10_chapel 189 = .ok (.aload_n 0, 1) := by decide +kernel
theorem dX10_chapel_190 : decode cX10_chapel 190 = .ok (.getfield 28, 3) := by decide +kernel
theorem dX10_chapel_193 : decode cX10_chapel 193 = .ok (.iload_n 1, 1) := by decide +kernel
theorem dX10_chapel_194 : decode cX10_chapel 194 = .ok (.aload_n 0, 1) := by decide +kernel
theorem dX10_chapel_195 : decode cX10_chapel 195 = .ok (.getfield 7, 3) := by decide +kernel
theorem dX10_chapel_198 : decode cX10_chapel 198 = .ok (.iload_n 2, 1) := by decide +kernel
theorem dX10_chapel_199 : decode cX10_chapel 199 = .ok (.iconst 2, 1) := by decide +kernel
theorem dX10_chapel_200 : decode cX10_chapel 200 = .ok (.iadd, 1) := by decide +kernel
theorem dX10_chapel_201 : decode cX10_chapel 201 = .ok (.iaload, 1) := by decide +kernel
theorem dX10_chapel_202 : decode cX10_chapel 202 = .ok (.bipush 48, 2) := by decide +kernel
theorem dX10_chapel_204 : decode cX10_chapel 204 = .ok (.isub, 1) := by decide +kernel
theorem dX10_chapel_205 : decode cX10_chapel 205 = .ok (.iastore, 1) := by decide +kernel
theorem dX10_chapel_206 : decode cX10_chapel 206 = .ok (.iinc 1 1, 3) := by decide +kernel
theorem dX10_chapel_209 : decode cX10_chapel 209 = .ok (.goto (-71), 3) := by decide +kernel
theorem dX10_chapel_212 : decode cX10_chapel 212 = .ok (.aload_n 0, 1) := by decide +kernel
theorem dX10_chapel_213 : decode cX10_chapel 213 = .ok (.iconst 0, 1) := by decide +kernel
theorem dX10_chapel_214 : decode cX10_chapel 214 = .ok (.putfield 109, 3) := by decide +kernel
theorem dX10_chapel_217 : decode cX10_chapel 217 = .ok (.aload_n 0, 1) := by decide +kernel
theorem dX10_chapel_218 : decode cX10_chapel 218 = .ok (.iconst 0, 1) := by decide +kernel
theorem dX10_chapel_219 : decode cX10_chapel 219 = .ok (.putfield 112, 3) := by decide +kernel
theorem dX10_chapel_222 : decode cX10_chapel 222 = .ok (.aload_n 0, 1) := by decide +kernel
theorem dX10_chapel_223 : decode cX10_chapel 223 = .ok (.iconst 0, 1) := by decide +kernel
theorem dX10_chapel_224 : decode cX10_chapel 224 = .ok (.putfield 115, 3) := by decide +kernel
theorem dX10_chapel_227 : decode cX10_chapel 227 = .ok (.aload_n 0, 1) := by decide +kernel
theorem dX10_chapel_228 : decode cX10_chapel 228 = .ok (.dup, 1) := by decide +kernel
theorem dX10_chapel_229 : decode cX10_chapel 229 = .ok (.getfield 118, 3) := by decide +kernel
theorem dX10_chapel_232 : decode cX10_chapel 232 = .ok (.iconst 1, 1) := by decide +kernel
theorem dX10_chapel_233 : decode cX10_chapel 233 = .ok (.iadd, 1) := by decide +kernel
theorem dX10_chapel_234 : decode cX10_chapel 234 = .ok (.putfield 118, 3) := by decide +kernel
theorem dX10_chapel_237 : decode cX10_chapel 237 = .ok (.aload_n 0, 1) := by decide +kernel
theorem dX10_chapel_238 : decode cX10_chapel 238 = .ok (.iconst 0, 1) := by decide +kernel
theorem dX10_chapel_239 : decode cX10_chapel 239 = .ok (.putfield 65, 3) := by decide +kernel
theorem dX10_chapel_242 : decode cX10_chapel 242 = .ok (.aload_n 0, 1) := by decide +kernel
theorem dX10_chapel_243 : decode cX10_chapel 243 = .ok (.getfield 103, 3) := by decide +kernel
theorem dX10_chapel_246 : decode cX10_chapel 246 = .ok (.ireturn, 1) := by decide +kernel
theorem dX10_lacks_0 : decode cX10_lacks 0 = .ok (.aload_n 0, 1) := by decide +kernel
theorem dX10_lacks_1 : decode cX10_lacks 1 = .ok (.getfield 103, 3) := by decide +kernel
theorem dX10_lacks_4 : decode cX10_lacks 4 = .ok (.ifCond .ne 7, 3) := by decide +kernel
theorem dX10_lacks_7 : decode cX10_lacks 7 = .ok (.iconst 1, 1) := by decide +kernel
theorem dX10_lacks_8 : decode cX10_lacks 8 = .ok (.goto 4, 3) := by decide +kernel
theorem dX10_lacks_11 : decode cX10_lacks 11 = .ok (.iconst 0, 1) := by decide +kernel
theorem dX10_lacks_12 : decode cX10_lacks 12 = .ok (.ireturn, 1) := by decide +kernel
theorem dX10_isPerson_0 : decode cX10_isPerson 0 = .ok (.iload_n 1, 1) := by decide +kernel
theorem dX10_isPerson_1 : decode cX10_isPerson 1 = .ok (.i2l, 1) := by decide +kernel
theorem dX10_isPerson_2 : decode cX10_isPerson 2 = .ok (.lconst 0, 1) := by decide +kernel
theorem dX10_isPerson_3 : decode cX10_isPerson 3 = .ok (.aload_n 0, 1) := by decide +kernel
theorem dX10_isPerson_4 : decode cX10_isPerson 4 = .ok (.getfield 103, 3) := by decide +kernel
theorem dX10_isPerson_7 : decode cX10_isPerson 7 = .ok (.iconst 1, 1) := by decide +kernel
theorem dX10_isPerson_8 : decode cX10_isPerson 8 = .ok (.isub, 1) := by decide +kernel
theorem dX10_isPerson_9 : decode cX10_isPerson 9 = .ok (.i2l, 1) := by decide +kernel
theorem dX10_isPerson_10 : decode cX10_isPerson 10 = .ok (.invokestatic 61, 3) := by decide +kernel
theorem dX10_isPerson_13 : decode cX10_isPerson 13 = .ok (.ireturn, 1) := by decide +kernel
theorem dX10_isWrong_0 : decode cX10_isWrong 0 = .ok (.iload_n 1, 1) := by decide +kernel
theorem dX10_isWrong_1 : decode cX10_isWrong 1 = .ok (.i2l, 1) := by decide +kernel
theorem dX10_isWrong_2 : decode cX10_isWrong 2 = .ok (.lconst 0, 1) := by decide +kernel
theorem dX10_isWrong_3 : decode cX10_isWrong 3 = .ok (.aload_n 0, 1) := by decide +kernel
theorem dX10_isWrong_4 : decode cX10_isWrong 4 = .ok (.getfield 106, 3) := by decide +kernel
theorem dX10_isWrong_7 : decode cX10_isWrong 7 = .ok (.iconst 1, 1) := by decide +kernel
theorem dX10_isWrong_8 : decode cX10_isWrong 8 = .ok (.isub, 1) := by decide +kernel
theorem dX10_isWrong_9 : decode cX10_isWrong 9 = .ok (.i2l, 1) := by decide +kernel
theorem dX10_isWrong_10 : decode cX10_isWrong 10 = .ok (.invokestatic 61, 3) := by decide +kernel
theorem dX10_isWrong_13 : decode cX10_isWrong 13 = .ok (.ireturn, 1) := by decide +kernel
theorem dX10_guiltBy_0 : decode cX10_guiltBy 0 = .ok (.iconst 0, 1) := by decide +kernel
theorem dX10_guiltBy_1 : decode cX10_guiltBy 1 = .ok (.istore_n 3, 1) := by decide +kernel
theorem dX10_guiltBy_2 : decode cX10_guiltBy 2 = .ok (.iconst 0, 1) := by decide +kernel
theorem dX10_guiltBy_3 : decode cX10_guiltBy 3 = .ok (.istore 4, 2) := by decide +kernel
theorem dX10_guiltBy_5 : decode cX10_guiltBy 5 = .ok (.iconst 0, 1) := by decide +kernel
theorem dX10_guiltBy_6 : decode cX10_guiltBy 6 = .ok (.istore 5, 2) := by decide +kernel
theorem dX10_guiltBy_8 : decode cX10_guiltBy 8 = .ok (.iload 5, 2) := by decide +kernel
theorem dX10_guiltBy_10 : decode cX10_guiltBy 10 = .ok (.aload_n 0, 1) := by decide +kernel
theorem dX10_guiltBy_11 : decode cX10_guiltBy 11 = .ok (.getfield 106, 3) := by decide +kernel
theorem dX10_guiltBy_14 : decode cX10_guiltBy 14 = .ok (.if_icmp .ge 88, 3) := by decide +kernel
theorem dX10_guiltBy_17 : decode cX10_guiltBy 17 = .ok (.aload_n 0, 1) := by decide +kernel
theorem dX10_guiltBy_18 : decode cX10_guiltBy 18 = .ok (.getfield 22, 3) := by decide +kernel
theorem dX10_guiltBy_21 : decode cX10_guiltBy 21 = .ok (.iload 5, 2) := by decide +kernel
theorem dX10_guiltBy_23 : decode cX10_guiltBy 23 = .ok (.iaload, 1) := by decide +kernel
theorem dX10_guiltBy_24 : decode cX10_guiltBy 24 = .ok (.iload_n 1, 1) := by decide +kernel
theorem dX10_guiltBy_25 : decode cX10_guiltBy 25 = .ok (.if_icmp .ne 7, 3) := by decide +kernel
theorem dX10_guiltBy_28 : decode cX10_guiltBy 28 = .ok (.iconst 1, 1) := by decide +kernel
theorem dX10_guiltBy_29 : decode cX10_guiltBy 29 = .ok (.goto 4, 3) := by decide +kernel
theorem dX10_guiltBy_32 : decode cX10_guiltBy 32 = .ok (.iconst 0, 1) := by decide +kernel
theorem dX10_guiltBy_33 : decode cX10_guiltBy 33 = .ok (.istore 6, 2) := by decide +kernel
theorem dX10_guiltBy_35 : decode cX10_guiltBy 35 = .ok (.iload_n 2, 1) := by decide +kernel
theorem dX10_guiltBy_36 : decode cX10_guiltBy 36 = .ok (.iload 5, 2) := by decide +kernel
theorem dX10_guiltBy_38 : decode cX10_guiltBy 38 = .ok (.ishr, 1) := by decide +kernel
theorem dX10_guiltBy_39 : decode cX10_guiltBy 39 = .ok (.iconst 1, 1) := by decide +kernel
theorem dX10_guiltBy_40 : decode cX10_guiltBy 40 = .ok (.iand, 1) := by decide +kernel
theorem dX10_guiltBy_41 : decode cX10_guiltBy 41 = .ok (.iconst 1, 1) := by decide +kernel
theorem dX10_guiltBy_42 : decode cX10_guiltBy 42 = .ok (.if_icmp .ne 7, 3) := by decide +kernel
theorem dX10_guiltBy_45 : decode cX10_guiltBy 45 = .ok (.iconst 1, 1) := by decide +kernel
theorem dX10_guiltBy_46 : decode cX10_guiltBy 46 = .ok (.goto 4, 3) := by decide +kernel
theorem dX10_guiltBy_49 : decode cX10_guiltBy 49 = .ok (.iconst 0, 1) := by decide +kernel
theorem dX10_guiltBy_50 : decode cX10_guiltBy 50 = .ok (.istore 7, 2) := by decide +kernel
theorem dX10_guiltBy_52 : decode cX10_guiltBy 52 = .ok (.iload_n 3, 1) := by decide +kernel
theorem dX10_guiltBy_53 : decode cX10_guiltBy 53 = .ok (.iload 6, 2) := by decide +kernel
theorem dX10_guiltBy_55 : decode cX10_guiltBy 55 = .ok (.ifCond .eq 18, 3) := by decide +kernel
theorem dX10_guiltBy_58 : decode cX10_guiltBy 58 = .ok (.iload 7, 2) := by decide +kernel
theorem dX10_guiltBy_60 : decode cX10_guiltBy 60 = .ok (.ifCond .ne 13, 3) := by decide +kernel
theorem dX10_guiltBy_63 : decode cX10_guiltBy 63 = .ok (.aload_n 0, 1) := by decide +kernel
theorem dX10_guiltBy_64 : decode cX10_guiltBy 64 = .ok (.getfield 28, 3) := by decide +kernel
theorem dX10_guiltBy_67 : decode cX10_guiltBy 67 = .ok (.iload 5, 2) := by decide +kernel
theorem dX10_guiltBy_69 : decode cX10_guiltBy 69 = .ok (.iaload, 1) := by decide +kernel
theorem dX10_guiltBy_70 : decode cX10_guiltBy 70 = .ok (.goto 4, 3) := by decide +kernel
theorem dX10_guiltBy_73 : decode cX10_guiltBy 73 = .ok (.iconst 0, 1) := by decide +kernel
theorem dX10_guiltBy_74 : decode cX10_guiltBy 74 = .ok (.iadd, 1) := by decide +kernel
theorem dX10_guiltBy_75 : decode cX10_guiltBy 75 = .ok (.istore_n 3, 1) := by decide +kernel
theorem dX10_guiltBy_76 : decode cX10_guiltBy 76 = .ok (.iload 4, 2) := by decide +kernel
theorem dX10_guiltBy_78 : decode cX10_guiltBy 78 = .ok (.iload 6, 2) := by decide +kernel
theorem dX10_guiltBy_80 : decode cX10_guiltBy 80 = .ok (.ifCond .eq 12, 3) := by decide +kernel
theorem dX10_guiltBy_83 : decode cX10_guiltBy 83 = .ok (.iload 7, 2) := by decide +kernel
theorem dX10_guiltBy_85 : decode cX10_guiltBy 85 = .ok (.ifCond .eq 7, 3) := by decide +kernel
theorem dX10_guiltBy_88 : decode cX10_guiltBy 88 = .ok (.iconst 1, 1) := by decide +kernel
theorem dX10_guiltBy_89 : decode cX10_guiltBy 89 = .ok (.goto 4, 3) := by decide +kernel
theorem dX10_guiltBy_92 : decode cX10_guiltBy 92 = .ok (.iconst 0, 1) := by decide +kernel
theorem dX10_guiltBy_93 : decode cX10_guiltBy 93 = .ok (.iadd, 1) := by decide +kernel
theorem dX10_guiltBy_94 : decode cX10_guiltBy 94 = .ok (.istore 4, 2) := by decide +kernel
theorem dX10_guiltBy_96 : decode cX10_guiltBy 96 = .ok (.iinc 5 1, 3) := by decide +kernel
theorem dX10_guiltBy_99 : decode cX10_guiltBy 99 = .ok (.goto (-91), 3) := by decide +kernel
theorem dX10_guiltBy_102 : decode cX10_guiltBy 102 = .ok (.aload_n 0, 1) := by decide +kernel
theorem dX10_guiltBy_103 : decode cX10_guiltBy 103 = .ok (.getfield 13, 3) := by decide +kernel
theorem dX10_guiltBy_106 : decode cX10_guiltBy 106 = .ok (.iload_n 1, 1) := by decide +kernel
theorem dX10_guiltBy_107 : decode cX10_guiltBy 107 = .ok (.iaload, 1) := by decide +kernel
theorem dX10_guiltBy_108 : decode cX10_guiltBy 108 = .ok (.tableswitch 54 1 4 #[32, 36, 41, 52], 32) := by decide +kernel
theorem dX10_guiltBy_140 : decode cX10_guiltBy 140 = .ok (.iload_n 3, 1) := by decide +kernel
theorem dX10_guiltBy_141 : decode cX10_guiltBy 141 = .ok (.iconst 2, 1) := by decide +kernel
theorem dX10_guiltBy_142 : decode cX10_guiltBy 142 = .ok (.idiv, 1) := by decide +kernel
theorem dX10_guiltBy_143 : decode cX10_guiltBy 143 = .ok (.ireturn, 1) := by decide +kernel
theorem dX10_guiltBy_144 : decode cX10_guiltBy 144 = .ok (.iload_n 3, 1) := by decide +kernel
theorem dX10_guiltBy_145 : decode cX10_guiltBy 145 = .ok (.iload 4, 2) := by decide +kernel
theorem dX10_guiltBy_147 : decode cX10_guiltBy 147 = .ok (.iadd, 1) := by decide +kernel
theorem dX10_guiltBy_148 : decode cX10_guiltBy 148 = .ok (.ireturn, 1) := by decide +kernel
theorem dX10_guiltBy_149 : decode cX10_guiltBy 149 = .ok (.iload_n 3, 1) := by decide +kernel
theorem dX10_guiltBy_150 : decode cX10_guiltBy 150 = .ok (.iconst 1, 1) := by decide +kernel
theorem dX10_guiltBy_151 : decode cX10_guiltBy 151 = .ok (.if_icmp .le 7, 3) := by decide +kernel
theorem dX10_guiltBy_154 : decode cX10_guiltBy 154 = .ok (.iload_n 3, 1) := by decide +kernel
theorem dX10_guiltBy_155 : decode cX10_guiltBy 155 = .ok (.goto 4, 3) := by decide +kernel
theorem dX10_guiltBy_158 : decode cX10_guiltBy 158 = .ok (.iconst 1, 1) := by decide +kernel
theorem dX10_guiltBy_159 : decode cX10_guiltBy 159 = .ok (.ireturn, 1) := by decide +kernel
theorem dX10_guiltBy_160 : decode cX10_guiltBy 160 = .ok (.iconst 0, 1) := by decide +kernel
theorem dX10_guiltBy_161 : decode cX10_guiltBy 161 = .ok (.ireturn, 1) := by decide +kernel
theorem dX10_guiltBy_162 : decode cX10_guiltBy 162 = .ok (.iload_n 3, 1) := by decide +kernel
theorem dX10_guiltBy_163 : decode cX10_guiltBy 163 = .ok (.ireturn, 1) := by decide +kernel
theorem dX10_sitsBy_0 : decode cX10_sitsBy 0 = .ok (.iconst 0, 1) := by decide +kernel
theorem dX10_sitsBy_1 : decode cX10_sitsBy 1 = .ok (.istore_n 3, 1) := by decide +kernel
theorem dX10_sitsBy_2 : decode cX10_sitsBy 2 = .ok (.iload_n 3, 1) := by decide +kernel
theorem dX10_sitsBy_3 : decode cX10_sitsBy 3 = .ok (.aload_n 0, 1) := by decide +kernel
theorem dX10_sitsBy_4 : decode cX10_sitsBy 4 = .ok (.getfield 103, 3) := by decide +kernel
theorem dX10_sitsBy_7 : decode cX10_sitsBy 7 = .ok (.if_icmp .ge 21, 3) := by decide +kernel
theorem dX10_sitsBy_10 : decode cX10_sitsBy 10 = .ok (.aload_n 0, 1) := by decide +kernel
theorem dX10_sitsBy_11 : decode cX10_sitsBy 11 = .ok (.getfield 31, 3) := by decide +kernel
theorem dX10_sitsBy_14 : decode cX10_sitsBy 14 = .ok (.iload_n 3, 1) := by decide +kernel
theorem dX10_sitsBy_15 : decode cX10_sitsBy 15 = .ok (.aload_n 0, 1) := by decide +kernel
theorem dX10_sitsBy_16 : decode cX10_sitsBy 16 = .ok (.iload_n 3, 1) := by decide +kernel
theorem dX10_sitsBy_17 : decode cX10_sitsBy 17 = .ok (.iload_n 1, 1) := by decide +kernel
theorem dX10_sitsBy_18 : decode cX10_sitsBy 18 = .ok (.invokevirtual 121, 3) := by decide +kernel
theorem dX10_sitsBy_21 : decode cX10_sitsBy 21 = .ok (.iastore, 1) := by decide +kernel
theorem dX10_sitsBy_22 : decode cX10_sitsBy 22 = .ok (.iinc 3 1, 3) := by decide +kernel
theorem dX10_sitsBy_25 : decode cX10_sitsBy 25 = .ok (.goto (-23), 3) := by decide +kernel
theorem dX10_sitsBy_28 : decode cX10_sitsBy 28 = .ok (.iconst 0, 1) := by decide +kernel
theorem dX10_sitsBy_29 : decode cX10_sitsBy 29 = .ok (.istore_n 3, 1) := by decide +kernel
theorem dX10_sitsBy_30 : decode cX10_sitsBy 30 = .ok (.iconst 0, 1) := by decide +kernel
theorem dX10_sitsBy_31 : decode cX10_sitsBy 31 = .ok (.istore 4, 2) := by decide +kernel
theorem dX10_sitsBy_33 : decode cX10_sitsBy 33 = .ok (.iload 4, 2) := by decide +kernel
theorem dX10_sitsBy_35 : decode cX10_sitsBy 35 = .ok (.aload_n 0, 1) := by decide +kernel
theorem dX10_sitsBy_36 : decode cX10_sitsBy 36 = .ok (.getfield 103, 3) := by decide +kernel
theorem dX10_sitsBy_39 : decode cX10_sitsBy 39 = .ok (.if_icmp .ge 108, 3) := by decide +kernel
theorem dX10_sitsBy_42 : decode cX10_sitsBy 42 = .ok (.iconst 0, 1) := by decide +kernel
theorem dX10_sitsBy_43 : decode cX10_sitsBy 43 = .ok (.istore 5, 2) := by decide +kernel
theorem dX10_sitsBy_45 : decode cX10_sitsBy 45 = .ok (.iconst 0, 1) := by decide +kernel
theorem dX10_sitsBy_46 : decode cX10_sitsBy 46 = .ok (.istore 6, 2) := by decide +kernel
theorem dX10_sitsBy_48 : decode cX10_sitsBy 48 = .ok (.iload 6, 2) := by decide +kernel
theorem dX10_sitsBy_50 : decode cX10_sitsBy 50 = .ok (.aload_n 0, 1) := by decide +kernel
theorem dX10_sitsBy_51 : decode cX10_sitsBy 51 = .ok (.getfield 103, 3) := by decide +kernel
theorem dX10_sitsBy_54 : decode cX10_sitsBy 54 = .ok (.if_icmp .ge 60, 3) := by decide +kernel
theorem dX10_sitsBy_57 : decode cX10_sitsBy 57 = .ok (.iload 5, 2) := by decide +kernel
theorem dX10_sitsBy_59 : decode cX10_sitsBy 59 = .ok (.aload_n 0, 1) := by decide +kernel
theorem dX10_sitsBy_60 : decode cX10_sitsBy 60 = .ok (.getfield 31, 3) := by decide +kernel
theorem dX10_sitsBy_63 : decode cX10_sitsBy 63 = .ok (.iload 6, 2) := by decide +kernel
theorem dX10_sitsBy_65 : decode cX10_sitsBy 65 = .ok (.iaload, 1) := by decide +kernel
theorem dX10_sitsBy_66 : decode cX10_sitsBy 66 = .ok (.aload_n 0, 1) := by decide +kernel
theorem dX10_sitsBy_67 : decode cX10_sitsBy 67 = .ok (.getfield 31, 3) := by decide +kernel
theorem dX10_sitsBy_70 : decode cX10_sitsBy 70 = .ok (.iload 4, 2) := by decide +kernel
theorem dX10_sitsBy_72 : decode cX10_sitsBy 72 = .ok (.iaload, 1) := by decide +kernel
theorem dX10_sitsBy_73 : decode cX10_sitsBy 73 = .ok (.if_icmp .gt 27, 3) := by decide +kernel
theorem dX10_sitsBy_76 : decode cX10_sitsBy 76 = .ok (.aload_n 0, 1) := by decide +kernel
theorem dX10_sitsBy_77 : decode cX10_sitsBy 77 = .ok (.getfield 31, 3) := by decide +kernel
theorem dX10_sitsBy_80 : decode cX10_sitsBy 80 = .ok (.iload 6, 2) := by decide +kernel
theorem dX10_sitsBy_82 : decode cX10_sitsBy 82 = .ok (.iaload, 1) := by decide +kernel
theorem dX10_sitsBy_83 : decode cX10_sitsBy 83 = .ok (.aload_n 0, 1) := by decide +kernel
theorem dX10_sitsBy_84 : decode cX10_sitsBy 84 = .ok (.getfield 31, 3) := by decide +kernel
theorem dX10_sitsBy_87 : decode cX10_sitsBy 87 = .ok (.iload 4, 2) := by decide +kernel
theorem dX10_sitsBy_89 : decode cX10_sitsBy 89 = .ok (.iaload, 1) := by decide +kernel
theorem dX10_sitsBy_90 : decode cX10_sitsBy 90 = .ok (.if_icmp .ne 14, 3) := by decide +kernel
theorem dX10_sitsBy_93 : decode cX10_sitsBy 93 = .ok (.iload 6, 2) := by decide +kernel
theorem dX10_sitsBy_95 : decode cX10_sitsBy 95 = .ok (.iload 4, 2) := by decide +kernel
theorem dX10_sitsBy_97 : decode cX10_sitsBy 97 = .ok (.if_icmp .ge 7, 3) := by decide +kernel
theorem dX10_sitsBy_100 : decode cX10_sitsBy 100 = .ok (.iconst 1, 1) := by decide +kernel
theorem dX10_sitsBy_101 : decode cX10_sitsBy 101 = .ok (.goto 4, 3) := by decide +kernel
theorem dX10_sitsBy_104 : decode cX10_sitsBy 104 = .ok (.iconst 0, 1) := by decide +kernel
theorem dX10_sitsBy_105 : decode cX10_sitsBy 105 = .ok (.iadd, 1) := by decide +kernel
theorem dX10_sitsBy_106 : decode cX10_sitsBy 106 = .ok (.istore 5, 2) := by decide +kernel
theorem dX10_sitsBy_108 : decode cX10_sitsBy 108 = .ok (.iinc 6 1, 3) := by decide +kernel
theorem dX10_sitsBy_111 : decode cX10_sitsBy 111 = .ok (.goto (-63), 3) := by decide +kernel
theorem dX10_sitsBy_114 : decode cX10_sitsBy 114 = .ok (.iload_n 3, 1) := by decide +kernel
theorem dX10_sitsBy_115 : decode cX10_sitsBy 115 = .ok (.aload_n 0, 1) := by decide +kernel
theorem dX10_sitsBy_116 : decode cX10_sitsBy 116 = .ok (.getfield 31, 3) := by decide +kernel
theorem dX10_sitsBy_119 : decode cX10_sitsBy 119 = .ok (.iload 4, 2) := by decide +kernel
theorem dX10_sitsBy_121 : decode cX10_sitsBy 121 = .ok (.iaload, 1) := by decide +kernel
theorem dX10_sitsBy_122 : decode cX10_sitsBy 122 = .ok (.ifCond .le 16, 3) := by decide +kernel
theorem dX10_sitsBy_125 : decode cX10_sitsBy 125 = .ok (.iload 5, 2) := by decide +kernel
theorem dX10_sitsBy_127 : decode cX10_sitsBy 127 = .ok (.iload_n 2, 1) := by decide +kernel
theorem dX10_sitsBy_128 : decode cX10_sitsBy 128 = .ok (.if_icmp .ge 10, 3) := by decide +kernel
theorem dX10_sitsBy_131 : decode cX10_sitsBy 131 = .ok (.iconst 1, 1) := by decide +kernel
theorem dX10_sitsBy_132 : decode cX10_sitsBy 132 = .ok (.iload 4, 2) := by decide +kernel
theorem dX10_sitsBy_134 : decode cX10_sitsBy 134 = .ok (.ishl, 1) := by decide +kernel
theorem dX10_sitsBy_135 : decode cX10_sitsBy 135 = .ok (.goto 4, 3) := by decide +kernel
theorem dX10_sitsBy_138 : decode cX10_sitsBy 138 = .ok (.iconst 0, 1) := by decide +kernel
theorem dX10_sitsBy_139 : decode cX10_sitsBy 139 = .ok (.ior, 1) := by decide +kernel
theorem dX10_sitsBy_140 : decode cX10_sitsBy 140 = .ok (.istore_n 3, 1) := by decide +kernel
theorem dX10_sitsBy_141 : decode cX10_sitsBy 141 = .ok (.iinc 4 1, 3) := by decide +kernel
theorem dX10_sitsBy_144 : decode cX10_sitsBy 144 = .ok (.goto (-111), 3) := by decide +kernel
theorem dX10_sitsBy_147 : decode cX10_sitsBy 147 = .ok (.iload_n 3, 1) := by decide +kernel
theorem dX10_sitsBy_148 : decode cX10_sitsBy 148 = .ok (.ireturn, 1) := by decide +kernel
theorem dX10_sitsNow_0 : decode cX10_sitsNow 0 = .ok (.aload_n 0, 1) := by decide +kernel
theorem dX10_sitsNow_1 : decode cX10_sitsNow 1 = .ok (.aload_n 0, 1) := by decide +kernel
theorem dX10_sitsNow_2 : decode cX10_sitsNow 2 = .ok (.getfield 109, 3) := by decide +kernel
theorem dX10_sitsNow_5 : decode cX10_sitsNow 5 = .ok (.aload_n 0, 1) := by decide +kernel
theorem dX10_sitsNow_6 : decode cX10_sitsNow 6 = .ok (.getfield 100, 3) := by decide +kernel
theorem dX10_sitsNow_9 : decode cX10_sitsNow 9 = .ok (.invokevirtual 125, 3) := by decide +kernel
theorem dX10_sitsNow_12 : decode cX10_sitsNow 12 = .ok (.ireturn, 1) := by decide +kernel
theorem dX10_sundayThen_0 : decode cX10_sundayThen 0 = .ok (.iconst 0, 1) := by decide +kernel
theorem dX10_sundayThen_1 : decode cX10_sundayThen 1 = .ok (.istore_n 2, 1) := by decide +kernel
theorem dX10_sundayThen_2 : decode cX10_sundayThen 2 = .ok (.iconst 0, 1) := by decide +kernel
theorem dX10_sundayThen_3 : decode cX10_sundayThen 3 = .ok (.istore_n 3, 1) := by decide +kernel
theorem dX10_sundayThen_4 : decode cX10_sundayThen 4 = .ok (.iload_n 3, 1) := by decide +kernel
theorem dX10_sundayThen_5 : decode cX10_sundayThen 5 = .ok (.aload_n 0, 1) := by decide +kernel
theorem dX10_sundayThen_6 : decode cX10_sundayThen 6 = .ok (.getfield 103, 3) := by decide +kernel
theorem dX10_sundayThen_9 : decode cX10_sundayThen 9 = .ok (.if_icmp .ge 92, 3) := by decide +kernel
theorem dX10_sundayThen_12 : decode cX10_sundayThen 12 = .ok (.iload_n 1, 1) := by decide +kernel
theorem dX10_sundayThen_13 : decode cX10_sundayThen 13 = .ok (.iload_n 3, 1) := by decide +kernel
theorem dX10_sundayThen_14 : decode cX10_sundayThen 14 = .ok (.ishr, 1) := by decide +kernel
theorem dX10_sundayThen_15 : decode cX10_sundayThen 15 = .ok (.iconst 1, 1) := by decide +kernel
theorem dX10_sundayThen_16 : decode cX10_sundayThen 16 = .ok (.iand, 1) := by decide +kernel
theorem dX10_sundayThen_17 : decode cX10_sundayThen 17 = .ok (.iconst 1, 1) := by decide +kernel
theorem dX10_sundayThen_18 : decode cX10_sundayThen 18 = .ok (.if_icmp .ne 7, 3) := by decide +kernel
theorem dX10_sundayThen_21 : decode cX10_sundayThen 21 = .ok (.iconst 1, 1) := by decide +kernel
theorem dX10_sundayThen_22 : decode cX10_sundayThen 22 = .ok (.goto 4, 3) := by decide +kernel
theorem dX10_sundayThen_25 : decode cX10_sundayThen 25 = .ok (.iconst 0, 1) := by decide +kernel
theorem dX10_sundayThen_26 : decode cX10_sundayThen 26 = .ok (.istore 4, 2) := by decide +kernel
theorem dX10_sundayThen_28 : decode cX10_sundayThen 28 = .ok (.aload_n 0, 1) := by decide +kernel
theorem dX10_sundayThen_29 : decode cX10_sundayThen 29 = .ok (.getfield 34, 3) := by decide +kernel
theorem dX10_sundayThen_32 : decode cX10_sundayThen 32 = .ok (.iload_n 3, 1) := by decide +kernel
theorem dX10_sundayThen_33 : decode cX10_sundayThen 33 = .ok (.iaload, 1) := by decide +kernel
theorem dX10_sundayThen_34 : decode cX10_sundayThen 34 = .ok (.iload 4, 2) := by decide +kernel
theorem dX10_sundayThen_36 : decode cX10_sundayThen 36 = .ok (.ifCond .eq 7, 3) := by decide +kernel
theorem dX10_sundayThen_39 : decode cX10_sundayThen 39 = .ok (.iconst 2, 1) := by decide +kernel
theorem dX10_sundayThen_40 : decode cX10_sundayThen 40 = .ok (.goto 4, 3) := by decide +kernel
theorem dX10_sundayThen_43 : decode cX10_sundayThen 43 = .ok (.iconst (-1), 1) := by decide +kernel
theorem dX10_sundayThen_44 : decode cX10_sundayThen 44 = .ok (.iadd, 1) := by decide +kernel
theorem dX10_sundayThen_45 : decode cX10_sundayThen 45 = .ok (.istore 5, 2) := by decide +kernel
theorem dX10_sundayThen_47 : decode cX10_sundayThen 47 = .ok (.aload_n 0, 1) := by decide +kernel
theorem dX10_sundayThen_48 : decode cX10_sundayThen 48 = .ok (.getfield 34, 3) := by decide +kernel
theorem dX10_sundayThen_51 : decode cX10_sundayThen 51 = .ok (.iload_n 3, 1) := by decide +kernel
theorem dX10_sundayThen_52 : decode cX10_sundayThen 52 = .ok (.iload 5, 2) := by decide +kernel
theorem dX10_sundayThen_54 : decode cX10_sundayThen 54 = .ok (.ifCond .ge 7, 3) := by decide +kernel
theorem dX10_sundayThen_57 : decode cX10_sundayThen 57 = .ok (.iconst 0, 1) := by decide +kernel
theorem dX10_sundayThen_58 : decode cX10_sundayThen 58 = .ok (.goto 17, 3) := by decide +kernel
theorem dX10_sundayThen_61 : decode cX10_sundayThen 61 = .ok (.iload 5, 2) := by decide +kernel
theorem dX10_sundayThen_63 : decode cX10_sundayThen 63 = .ok (.bipush 20, 2) := by decide +kernel
theorem dX10_sundayThen_65 : decode cX10_sundayThen 65 = .ok (.if_icmp .le 8, 3) := by decide +kernel
theorem dX10_sundayThen_68 : decode cX10_sundayThen 68 = .ok (.bipush 20, 2) := by decide +kernel
theorem dX10_sundayThen_70 : decode cX10_sundayThen 70 = .ok (.goto 5, 3) := by decide +kernel
theorem dX10_sundayThen_73 : decode cX10_sundayThen 73 = .ok (.iload 5, 2) := by decide +kernel
theorem dX10_sundayThen_75 : decode cX10_sundayThen 75 = .ok (.iastore, 1) := by decide +kernel
theorem dX10_sundayThen_76 : decode cX10_sundayThen 76 = .ok (.iload_n 2, 1) := by decide +kernel
theorem dX10_sundayThen_77 : decode cX10_sundayThen 77 = .ok (.aload_n 0, 1) := by decide +kernel
theorem dX10_sundayThen_78 : decode cX10_sundayThen 78 = .ok (.getfield 34, 3) := by decide +kernel
theorem dX10_sundayThen_81 : decode cX10_sundayThen 81 = .ok (.iload_n 3, 1) := by decide +kernel
theorem dX10_sundayThen_82 : decode cX10_sundayThen 82 = .ok (.iaload, 1) := by decide +kernel
theorem dX10_sundayThen_83 : decode cX10_sundayThen 83 = .ok (.ifCond .ne 9, 3) := by decide +kernel
theorem dX10_sundayThen_86 : decode cX10_sundayThen 86 = .ok (.iconst 1, 1) := by decide +kernel
theorem dX10_sundayThen_87 : decode cX10_sundayThen 87 = .ok (.iload_n 3, 1) := by decide +kernel
theorem dX10_sundayThen_88 : decode cX10_sundayThen 88 = .ok (.ishl, 1) := by decide +kernel
theorem dX10_sundayThen_89 : decode cX10_sundayThen 89 = .ok (.goto 4, 3) := by decide +kernel
theorem dX10_sundayThen_92 : decode cX10_sundayThen 92 = .ok (.iconst 0, 1) := by decide +kernel
theorem dX10_sundayThen_93 : decode cX10_sundayThen 93 = .ok (.ior, 1) := by decide +kernel
theorem dX10_sundayThen_94 : decode cX10_sundayThen 94 = .ok (.istore_n 2, 1) := by decide +kernel
theorem dX10_sundayThen_95 : decode cX10_sundayThen 95 = .ok (.iinc 3 1, 3) := by decide +kernel
theorem dX10_sundayThen_98 : decode cX10_sundayThen 98 = .ok (.goto (-94), 3) := by decide +kernel
theorem dX10_sundayThen_101 : decode cX10_sundayThen 101 = .ok (.iload_n 2, 1) := by decide +kernel
theorem dX10_sundayThen_102 : decode cX10_sundayThen 102 = .ok (.ireturn, 1) := by decide +kernel
theorem dX10_grudgesOf_0 : decode cX10_grudgesOf 0 = .ok (.iconst 0, 1) := by decide +kernel
theorem dX10_grudgesOf_1 : decode cX10_grudgesOf 1 = .ok (.istore_n 3, 1) := by decide +kernel
theorem dX10_grudgesOf_2 : decode cX10_grudgesOf 2 = .ok (.iconst 0, 1) := by decide +kernel
theorem dX10_grudgesOf_3 : decode cX10_grudgesOf 3 = .ok (.istore 4, 2) := by decide +kernel
theorem dX10_grudgesOf_5 : decode cX10_grudgesOf 5 = .ok (.iload 4, 2) := by decide +kernel
theorem dX10_grudgesOf_7 : decode cX10_grudgesOf 7 = .ok (.aload_n 0, 1) := by decide +kernel
theorem dX10_grudgesOf_8 : decode cX10_grudgesOf 8 = .ok (.getfield 106, 3) := by decide +kernel
theorem dX10_grudgesOf_11 : decode cX10_grudgesOf 11 = .ok (.if_icmp .ge 45, 3) := by decide +kernel
theorem dX10_grudgesOf_14 : decode cX10_grudgesOf 14 = .ok (.iload_n 3, 1) := by decide +kernel
theorem dX10_grudgesOf_15 : decode cX10_grudgesOf 15 = .ok (.aload_n 0, 1) := by decide +kernel
theorem dX10_grudgesOf_16 : decode cX10_grudgesOf 16 = .ok (.getfield 25, 3) := by decide +kernel
theorem dX10_grudgesOf_19 : decode cX10_grudgesOf 19 = .ok (.iload 4, 2) := by decide +kernel
theorem dX10_grudgesOf_21 : decode cX10_grudgesOf 21 = .ok (.iaload, 1) := by decide +kernel
theorem dX10_grudgesOf_22 : decode cX10_grudgesOf 22 = .ok (.iload_n 1, 1) := by decide +kernel
theorem dX10_grudgesOf_23 : decode cX10_grudgesOf 23 = .ok (.if_icmp .ne 24, 3) := by decide +kernel
theorem dX10_grudgesOf_26 : decode cX10_grudgesOf 26 = .ok (.iload_n 2, 1) := by decide +kernel
theorem dX10_grudgesOf_27 : decode cX10_grudgesOf 27 = .ok (.iload 4, 2) := by decide +kernel
theorem dX10_grudgesOf_29 : decode cX10_grudgesOf 29 = .ok (.ishr, 1) := by decide +kernel
theorem dX10_grudgesOf_30 : decode cX10_grudgesOf 30 = .ok (.iconst 1, 1) := by decide +kernel
theorem dX10_grudgesOf_31 : decode cX10_grudgesOf 31 = .ok (.iand, 1) := by decide +kernel
theorem dX10_grudgesOf_32 : decode cX10_grudgesOf 32 = .ok (.ifCond .ne 15, 3) := by decide +kernel
theorem dX10_grudgesOf_35 : decode cX10_grudgesOf 35 = .ok (.iconst 1, 1) := by decide +kernel
theorem dX10_grudgesOf_36 : decode cX10_grudgesOf 36 = .ok (.aload_n 0, 1) := by decide +kernel
theorem dX10_grudgesOf_37 : decode cX10_grudgesOf 37 = .ok (.getfield 22, 3) := by decide +kernel
theorem dX10_grudgesOf_40 : decode cX10_grudgesOf 40 = .ok (.iload 4, 2) := by decide +kernel
theorem dX10_grudgesOf_42 : decode cX10_grudgesOf 42 = .ok (.iaload, 1) := by decide +kernel
theorem dX10_grudgesOf_43 : decode cX10_grudgesOf 43 = .ok (.ishl, 1) := by decide +kernel
theorem dX10_grudgesOf_44 : decode cX10_grudgesOf 44 = .ok (.goto 4, 3) := by decide +kernel
theorem dX10_grudgesOf_47 : decode cX10_grudgesOf 47 = .ok (.iconst 0, 1) := by decide +kernel
theorem dX10_grudgesOf_48 : decode cX10_grudgesOf 48 = .ok (.ior, 1) := by decide +kernel
theorem dX10_grudgesOf_49 : decode cX10_grudgesOf 49 = .ok (.istore_n 3, 1) := by decide +kernel
theorem dX10_grudgesOf_50 : decode cX10_grudgesOf 50 = .ok (.iinc 4 1, 3) := by decide +kernel
theorem dX10_grudgesOf_53 : decode cX10_grudgesOf 53 = .ok (.goto (-48), 3) := by decide +kernel
theorem dX10_grudgesOf_56 : decode cX10_grudgesOf 56 = .ok (.iload_n 3, 1) := by decide +kernel
theorem dX10_grudgesOf_57 : decode cX10_grudgesOf 57 = .ok (.ireturn, 1) := by decide +kernel
theorem dX10_tellPerson_0 : decode cX10_tellPerson 0 = .ok (.iload_n 2, 1) := by decide +kernel
theorem dX10_tellPerson_1 : decode cX10_tellPerson 1 = .ok (.tableswitch 89 0 5 #[39, 46, 53, 63, 72, 79], 39) := by decide +kernel
theorem dX10_tellPerson_40 : decode cX10_tellPerson 40 = .ok (.aload_n 0, 1) := by decide +kernel
theorem dX10_tellPerson_41 : decode cX10_tellPerson 41 = .ok (.getfield 13, 3) := by decide +kernel
theorem dX10_tellPerson_44 : decode cX10_tellPerson 44 = .ok (.iload_n 1, 1) := by decide +kernel
theorem dX10_tellPerson_45 : decode cX10_tellPerson 45 = .ok (.iaload, 1) := by decide +kernel
theorem dX10_tellPerson_46 : decode cX10_tellPerson 46 = .ok (.ireturn, 1) := by decide +kernel
theorem dX10_tellPerson_47 : decode cX10_tellPerson 47 = .ok (.aload_n 0, 1) := by decide +kernel
theorem dX10_tellPerson_48 : decode cX10_tellPerson 48 = .ok (.getfield 16, 3) := by decide +kernel
theorem dX10_tellPerson_51 : decode cX10_tellPerson 51 = .ok (.iload_n 1, 1) := by decide +kernel
theorem dX10_tellPerson_52 : decode cX10_tellPerson 52 = .ok (.iaload, 1) := by decide +kernel
theorem dX10_tellPerson_53 : decode cX10_tellPerson 53 = .ok (.ireturn, 1) := by decide +kernel
theorem dX10_tellPerson_54 : decode cX10_tellPerson 54 = .ok (.aload_n 0, 1) := by decide +kernel
theorem dX10_tellPerson_55 : decode cX10_tellPerson 55 = .ok (.iload_n 1, 1) := by decide +kernel
theorem dX10_tellPerson_56 : decode cX10_tellPerson 56 = .ok (.aload_n 0, 1) := by decide +kernel
theorem dX10_tellPerson_57 : decode cX10_tellPerson 57 = .ok (.getfield 109, 3) := by decide +kernel
theorem dX10_tellPerson_60 : decode cX10_tellPerson 60 = .ok (.invokevirtual 121, 3) := by decide +kernel
theorem dX10_tellPerson_63 : decode cX10_tellPerson 63 = .ok (.ireturn, 1) := by decide +kernel
theorem dX10_tellPerson_64 : decode cX10_tellPerson 64 = .ok (.aload_n 0, 1) := by decide +kernel
theorem dX10_tellPerson_65 : decode cX10_tellPerson 65 = .ok (.invokevirtual 128, 3) := by decide +kernel
theorem dX10_tellPerson_68 : decode cX10_tellPerson 68 = .ok (.iload_n 1, 1) := by decide +kernel
theorem dX10_tellPerson_69 : decode cX10_tellPerson 69 = .ok (.ishr, 1) := by decide +kernel
theorem dX10_tellPerson_70 : decode cX10_tellPerson 70 = .ok (.iconst 1, 1) := by decide +kernel
theorem dX10_tellPerson_71 : decode cX10_tellPerson 71 = .ok (.iand, 1) := by decide +kernel
theorem dX10_tellPerson_72 : decode cX10_tellPerson 72 = .ok (.ireturn, 1) := by decide +kernel
theorem dX10_tellPerson_73 : decode cX10_tellPerson 73 = .ok (.aload_n 0, 1) := by decide +kernel
theorem dX10_tellPerson_74 : decode cX10_tellPerson 74 = .ok (.getfield 19, 3) := by decide +kernel
theorem dX10_tellPerson_77 : decode cX10_tellPerson 77 = .ok (.iload_n 1, 1) := by decide +kernel
theorem dX10_tellPerson_78 : decode cX10_tellPerson 78 = .ok (.iaload, 1) := by decide +kernel
theorem dX10_tellPerson_79 : decode cX10_tellPerson 79 = .ok (.ireturn, 1) := by decide +kernel
theorem dX10_tellPerson_80 : decode cX10_tellPerson 80 = .ok (.aload_n 0, 1) := by decide +kernel
theorem dX10_tellPerson_81 : decode cX10_tellPerson 81 = .ok (.iload_n 1, 1) := by decide +kernel
theorem dX10_tellPerson_82 : decode cX10_tellPerson 82 = .ok (.aload_n 0, 1) := by decide +kernel
theorem dX10_tellPerson_83 : decode cX10_tellPerson 83 = .ok (.getfield 109, 3) := by decide +kernel
theorem dX10_tellPerson_86 : decode cX10_tellPerson 86 = .ok (.invokevirtual 131, 3) := by decide +kernel
theorem dX10_tellPerson_89 : decode cX10_tellPerson 89 = .ok (.ireturn, 1) := by decide +kernel
theorem dX10_tellPerson_90 : decode cX10_tellPerson 90 = .ok (.bipush (-102), 2) := by decide +kernel
theorem dX10_tellPerson_92 : decode cX10_tellPerson 92 = .ok (.ireturn, 1) := by decide +kernel
theorem dX10_person_0 : decode cX10_person 0 = .ok (.aload_n 0, 1) := by decide +kernel
theorem dX10_person_1 : decode cX10_person 1 = .ok (.iload_n 1, 1) := by decide +kernel
theorem dX10_person_2 : decode cX10_person 2 = .ok (.invokevirtual 134, 3) := by decide +kernel
theorem dX10_person_5 : decode cX10_person 5 = .ok (.ifCond .eq 12, 3) := by decide +kernel
theorem dX10_person_8 : decode cX10_person 8 = .ok (.aload_n 0, 1) := by decide +kernel
theorem dX10_person_9 : decode cX10_person 9 = .ok (.iload_n 1, 1) := by decide +kernel
theorem dX10_person_10 : decode cX10_person 10 = .ok (.iload_n 2, 1) := by decide +kernel
theorem dX10_person_11 : decode cX10_person 11 = .ok (.invokevirtual 137, 3) := by decide +kernel
theorem dX10_person_14 : decode cX10_person 14 = .ok (.goto 5, 3) := by decide +kernel
theorem dX10_person_17 : decode cX10_person 17 = .ok (.bipush (-101), 2) := by decide +kernel
theorem dX10_person_19 : decode cX10_person 19 = .ok (.ireturn, 1) := by decide +kernel
theorem dX10_as_0 : decode cX10_as 0 = .ok (.aload_n 0, 1) := by decide +kernel
theorem dX10_as_1 : decode cX10_as 1 = .ok (.iload_n 1, 1) := by decide +kernel
theorem dX10_as_2 : decode cX10_as 2 = .ok (.invokevirtual 134, 3) := by decide +kernel
theorem dX10_as_5 : decode cX10_as 5 = .ok (.ifCond .ne 6, 3) := by decide +kernel
theorem dX10_as_8 : decode cX10_as 8 = .ok (.bipush (-101), 2) := by decide +kernel
theorem dX10_as_10 : decode cX10_as 10 = .ok (.ireturn, 1) := by decide +kernel
theorem dX10_as_11 : decode cX10_as 11 = .ok (.iload_n 2, 1) := by decide +kernel
theorem dX10_as_12 : decode cX10_as 12 = .ok (.i2l, 1) := by decide +kernel
theorem dX10_as_13 : decode cX10_as 13 = .ok (.lconst 0, 1) := by decide +kernel
theorem dX10_as_14 : decode cX10_as 14 = .ok (.ldc2_w 140, 3) := by decide +kernel
theorem dX10_as_17 : decode cX10_as 17 = .ok (.invokestatic 61, 3) := by decide +kernel
theorem dX10_as_20 : decode cX10_as 20 = .ok (.ifCond .ne 6, 3) := by decide +kernel
theorem dX10_as_23 : decode cX10_as 23 = .ok (.bipush (-102), 2) := by decide +kernel
theorem dX10_as_25 : decode cX10_as 25 = .ok (.ireturn, 1) := by decide +kernel
theorem dX10_as_26 : decode cX10_as 26 = .ok (.iload_n 2, 1) := by decide +kernel
theorem dX10_as_27 : decode cX10_as 27 = .ok (.ifCond .eq 28, 3) := by decide +kernel
theorem dX10_as_30 : decode cX10_as 30 = .ok (.iload_n 2, 1) := by decide +kernel
theorem dX10_as_31 : decode cX10_as 31 = .ok (.aload_n 0, 1) := by decide +kernel
theorem dX10_as_32 : decode cX10_as 32 = .ok (.getfield 13, 3) := by decide +kernel
theorem dX10_as_35 : decode cX10_as 35 = .ok (.iload_n 1, 1) := by decide +kernel
theorem dX10_as_36 : decode cX10_as 36 = .ok (.iaload, 1) := by decide +kernel
theorem dX10_as_37 : decode cX10_as 37 = .ok (.if_icmp .eq 18, 3) := by decide +kernel
theorem dX10_as_40 : decode cX10_as 40 = .ok (.iload_n 2, 1) := by decide +kernel
theorem dX10_as_41 : decode cX10_as 41 = .ok (.iconst 1, 1) := by decide +kernel
theorem dX10_as_42 : decode cX10_as 42 = .ok (.if_icmp .ne 17, 3) := by decide +kernel
theorem dX10_as_45 : decode cX10_as 45 = .ok (.aload_n 0, 1) := by decide +kernel
theorem dX10_as_46 : decode cX10_as 46 = .ok (.getfield 13, 3) := by decide +kernel
theorem dX10_as_49 : decode cX10_as 49 = .ok (.iload_n 1, 1) := by decide +kernel
theorem dX10_as_50 : decode cX10_as 50 = .ok (.iaload, 1) := by decide +kernel
theorem dX10_as_51 : decode cX10_as 51 = .ok (.iconst 4, 1) := by decide +kernel
theorem dX10_as_52 : decode cX10_as 52 = .ok (.if_icmp .ne 7, 3) := by decide +kernel
theorem dX10_as_55 : decode cX10_as 55 = .ok (.iconst 1, 1) := by decide +kernel
theorem dX10_as_56 : decode cX10_as 56 = .ok (.goto 4, 3) := by decide +kernel
theorem dX10_as_59 : decode cX10_as 59 = .ok (.iconst 0, 1) := by decide +kernel
theorem dX10_as_60 : decode cX10_as 60 = .ok (.istore_n 3, 1) := by decide +kernel
theorem dX10_as_61 : decode cX10_as 61 = .ok (.iload_n 3, 1) := by decide +kernel
theorem dX10_as_62 : decode cX10_as 62 = .ok (.ifCond .eq 7, 3) := by decide +kernel
theorem dX10_as_65 : decode cX10_as 65 = .ok (.iload_n 1, 1) := by decide +kernel
theorem dX10_as_66 : decode cX10_as 66 = .ok (.goto 4, 3) := by decide +kernel
theorem dX10_as_69 : decode cX10_as 69 = .ok (.iconst (-1), 1) := by decide +kernel
theorem dX10_as_70 : decode cX10_as 70 = .ok (.ireturn, 1) := by decide +kernel
theorem dX10_tellWrong_0 : decode cX10_tellWrong 0 = .ok (.iload_n 2, 1) := by decide +kernel
theorem dX10_tellWrong_1 : decode cX10_tellWrong 1 = .ok (.tableswitch 81 0 5 #[39, 46, 53, 60, 69, 75], 39) := by decide +kernel
theorem dX10_tellWrong_40 : decode cX10_tellWrong 40 = .ok (.aload_n 0, 1) := by decide +kernel
theorem dX10_tellWrong_41 : decode cX10_tellWrong 41 = .ok (.getfield 22, 3) := by decide +kernel
theorem dX10_tellWrong_44 : decode cX10_tellWrong 44 = .ok (.iload_n 1, 1) := by decide +kernel
theorem dX10_tellWrong_45 : decode cX10_tellWrong 45 = .ok (.iaload, 1) := by decide +kernel
theorem dX10_tellWrong_46 : decode cX10_tellWrong 46 = .ok (.ireturn, 1) := by decide +kernel
theorem dX10_tellWrong_47 : decode cX10_tellWrong 47 = .ok (.aload_n 0, 1) := by decide +kernel
theorem dX10_tellWrong_48 : decode cX10_tellWrong 48 = .ok (.getfield 25, 3) := by decide +kernel
theorem dX10_tellWrong_51 : decode cX10_tellWrong 51 = .ok (.iload_n 1, 1) := by decide +kernel
theorem dX10_tellWrong_52 : decode cX10_tellWrong 52 = .ok (.iaload, 1) := by decide +kernel
theorem dX10_tellWrong_53 : decode cX10_tellWrong 53 = .ok (.ireturn, 1) := by decide +kernel
theorem dX10_tellWrong_54 : decode cX10_tellWrong 54 = .ok (.aload_n 0, 1) := by decide +kernel
theorem dX10_tellWrong_55 : decode cX10_tellWrong 55 = .ok (.getfield 28, 3) := by decide +kernel
theorem dX10_tellWrong_58 : decode cX10_tellWrong 58 = .ok (.iload_n 1, 1) := by decide +kernel
theorem dX10_tellWrong_59 : decode cX10_tellWrong 59 = .ok (.iaload, 1) := by decide +kernel
theorem dX10_tellWrong_60 : decode cX10_tellWrong 60 = .ok (.ireturn, 1) := by decide +kernel
theorem dX10_tellWrong_61 : decode cX10_tellWrong 61 = .ok (.aload_n 0, 1) := by decide +kernel
theorem dX10_tellWrong_62 : decode cX10_tellWrong 62 = .ok (.getfield 109, 3) := by decide +kernel
theorem dX10_tellWrong_65 : decode cX10_tellWrong 65 = .ok (.iload_n 1, 1) := by decide +kernel
theorem dX10_tellWrong_66 : decode cX10_tellWrong 66 = .ok (.ishr, 1) := by decide +kernel
theorem dX10_tellWrong_67 : decode cX10_tellWrong 67 = .ok (.iconst 1, 1) := by decide +kernel
theorem dX10_tellWrong_68 : decode cX10_tellWrong 68 = .ok (.iand, 1) := by decide +kernel
theorem dX10_tellWrong_69 : decode cX10_tellWrong 69 = .ok (.ireturn, 1) := by decide +kernel
theorem dX10_tellWrong_70 : decode cX10_tellWrong 70 = .ok (.aload_n 0, 1) := by decide +kernel
theorem dX10_tellWrong_71 : decode cX10_tellWrong 71 = .ok (.iload_n 1, 1) := by decide +kernel
theorem dX10_tellWrong_72 : decode cX10_tellWrong 72 = .ok (.invokevirtual 142, 3) := by decide +kernel
theorem dX10_tellWrong_75 : decode cX10_tellWrong 75 = .ok (.ireturn, 1) := by decide +kernel
theorem dX10_tellWrong_76 : decode cX10_tellWrong 76 = .ok (.aload_n 0, 1) := by decide +kernel
theorem dX10_tellWrong_77 : decode cX10_tellWrong 77 = .ok (.iload_n 1, 1) := by decide +kernel
theorem dX10_tellWrong_78 : decode cX10_tellWrong 78 = .ok (.invokevirtual 145, 3) := by decide +kernel
theorem dX10_tellWrong_81 : decode cX10_tellWrong 81 = .ok (.ireturn, 1) := by decide +kernel
theorem dX10_tellWrong_82 : decode cX10_tellWrong 82 = .ok (.bipush (-102), 2) := by decide +kernel
theorem dX10_tellWrong_84 : decode cX10_tellWrong 84 = .ok (.ireturn, 1) := by decide +kernel
theorem dX10_wrong_0 : decode cX10_wrong 0 = .ok (.aload_n 0, 1) := by decide +kernel
theorem dX10_wrong_1 : decode cX10_wrong 1 = .ok (.iload_n 1, 1) := by decide +kernel
theorem dX10_wrong_2 : decode cX10_wrong 2 = .ok (.invokevirtual 148, 3) := by decide +kernel
theorem dX10_wrong_5 : decode cX10_wrong 5 = .ok (.ifCond .eq 12, 3) := by decide +kernel
theorem dX10_wrong_8 : decode cX10_wrong 8 = .ok (.aload_n 0, 1) := by decide +kernel
theorem dX10_wrong_9 : decode cX10_wrong 9 = .ok (.iload_n 1, 1) := by decide +kernel
theorem dX10_wrong_10 : decode cX10_wrong 10 = .ok (.iload_n 2, 1) := by decide +kernel
theorem dX10_wrong_11 : decode cX10_wrong 11 = .ok (.invokevirtual 151, 3) := by decide +kernel
theorem dX10_wrong_14 : decode cX10_wrong 14 = .ok (.goto 5, 3) := by decide +kernel
theorem dX10_wrong_17 : decode cX10_wrong 17 = .ok (.bipush (-101), 2) := by decide +kernel
theorem dX10_wrong_19 : decode cX10_wrong 19 = .ok (.ireturn, 1) := by decide +kernel
theorem dX10_stepFrom_0 : decode cX10_stepFrom 0 = .ok (.iconst 0, 1) := by decide +kernel
theorem dX10_stepFrom_1 : decode cX10_stepFrom 1 = .ok (.istore_n 3, 1) := by decide +kernel
theorem dX10_stepFrom_2 : decode cX10_stepFrom 2 = .ok (.iconst 0, 1) := by decide +kernel
theorem dX10_stepFrom_3 : decode cX10_stepFrom 3 = .ok (.istore 4, 2) := by decide +kernel
theorem dX10_stepFrom_5 : decode cX10_stepFrom 5 = .ok (.iload 4, 2) := by decide +kernel
theorem dX10_stepFrom_7 : decode cX10_stepFrom 7 = .ok (.aload_n 0, 1) := by decide +kernel
theorem dX10_stepFrom_8 : decode cX10_stepFrom 8 = .ok (.getfield 103, 3) := by decide +kernel
theorem dX10_stepFrom_11 : decode cX10_stepFrom 11 = .ok (.if_icmp .ge 33, 3) := by decide +kernel
theorem dX10_stepFrom_14 : decode cX10_stepFrom 14 = .ok (.iload_n 3, 1) := by decide +kernel
theorem dX10_stepFrom_15 : decode cX10_stepFrom 15 = .ok (.iload_n 1, 1) := by decide +kernel
theorem dX10_stepFrom_16 : decode cX10_stepFrom 16 = .ok (.iload 4, 2) := by decide +kernel
theorem dX10_stepFrom_18 : decode cX10_stepFrom 18 = .ok (.ishr, 1) := by decide +kernel
theorem dX10_stepFrom_19 : decode cX10_stepFrom 19 = .ok (.iconst 1, 1) := by decide +kernel
theorem dX10_stepFrom_20 : decode cX10_stepFrom 20 = .ok (.iand, 1) := by decide +kernel
theorem dX10_stepFrom_21 : decode cX10_stepFrom 21 = .ok (.iconst 1, 1) := by decide +kernel
theorem dX10_stepFrom_22 : decode cX10_stepFrom 22 = .ok (.if_icmp .ne 13, 3) := by decide +kernel
theorem dX10_stepFrom_25 : decode cX10_stepFrom 25 = .ok (.aload_n 0, 1) := by decide +kernel
theorem dX10_stepFrom_26 : decode cX10_stepFrom 26 = .ok (.iload 4, 2) := by decide +kernel
theorem dX10_stepFrom_28 : decode cX10_stepFrom 28 = .ok (.iload_n 2, 1) := by decide +kernel
theorem dX10_stepFrom_29 : decode cX10_stepFrom 29 = .ok (.invokevirtual 131, 3) := by decide +kernel
theorem dX10_stepFrom_32 : decode cX10_stepFrom 32 = .ok (.goto 4, 3) := by decide +kernel
theorem dX10_stepFrom_35 : decode cX10_stepFrom 35 = .ok (.iconst 0, 1) := by decide +kernel
theorem dX10_stepFrom_36 : decode cX10_stepFrom 36 = .ok (.ior, 1) := by decide +kernel
theorem dX10_stepFrom_37 : decode cX10_stepFrom 37 = .ok (.istore_n 3, 1) := by decide +kernel
theorem dX10_stepFrom_38 : decode cX10_stepFrom 38 = .ok (.iinc 4 1, 3) := by decide +kernel
theorem dX10_stepFrom_41 : decode cX10_stepFrom 41 = .ok (.goto (-36), 3) := by decide +kernel
theorem dX10_stepFrom_44 : decode cX10_stepFrom 44 = .ok (.iload_n 3, 1) := by decide +kernel
theorem dX10_stepFrom_45 : decode cX10_stepFrom 45 = .ok (.ireturn, 1) := by decide +kernel
theorem dX10_farBy_0 : decode cX10_farBy 0 = .ok (.iconst 1, 1) := by decide +kernel
theorem dX10_farBy_1 : decode cX10_farBy 1 = .ok (.iload_n 1, 1) := by decide +kernel
theorem dX10_farBy_2 : decode cX10_farBy 2 = .ok (.ishl, 1) := by decide +kernel
theorem dX10_farBy_3 : decode cX10_farBy 3 = .ok (.istore 4, 2) := by decide +kernel
theorem dX10_farBy_5 : decode cX10_farBy 5 = .ok (.iconst 1, 1) := by decide +kernel
theorem dX10_farBy_6 : decode cX10_farBy 6 = .ok (.istore 5, 2) := by decide +kernel
theorem dX10_farBy_8 : decode cX10_farBy 8 = .ok (.iload 5, 2) := by decide +kernel
theorem dX10_farBy_10 : decode cX10_farBy 10 = .ok (.bipush 7, 2) := by decide +kernel
theorem dX10_farBy_12 : decode cX10_farBy 12 = .ok (.if_icmp .ge 31, 3) := by decide +kernel
theorem dX10_farBy_15 : decode cX10_farBy 15 = .ok (.aload_n 0, 1) := by decide +kernel
theorem dX10_farBy_16 : decode cX10_farBy 16 = .ok (.iload 4, 2) := by decide +kernel
theorem dX10_farBy_18 : decode cX10_farBy 18 = .ok (.iload_n 3, 1) := by decide +kernel
theorem dX10_farBy_19 : decode cX10_farBy 19 = .ok (.invokevirtual 154, 3) := by decide +kernel
theorem dX10_farBy_22 : decode cX10_farBy 22 = .ok (.istore 4, 2) := by decide +kernel
theorem dX10_farBy_24 : decode cX10_farBy 24 = .ok (.iload 4, 2) := by decide +kernel
theorem dX10_farBy_26 : decode cX10_farBy 26 = .ok (.iload_n 2, 1) := by decide +kernel
theorem dX10_farBy_27 : decode cX10_farBy 27 = .ok (.ishr, 1) := by decide +kernel
theorem dX10_farBy_28 : decode cX10_farBy 28 = .ok (.iconst 1, 1) := by decide +kernel
theorem dX10_farBy_29 : decode cX10_farBy 29 = .ok (.iand, 1) := by decide +kernel
theorem dX10_farBy_30 : decode cX10_farBy 30 = .ok (.iconst 1, 1) := by decide +kernel
theorem dX10_farBy_31 : decode cX10_farBy 31 = .ok (.if_icmp .ne 6, 3) := by decide +kernel
theorem dX10_farBy_34 : decode cX10_farBy 34 = .ok (.iload 5, 2) := by decide +kernel
theorem dX10_farBy_36 : decode cX10_farBy 36 = .ok (.ireturn, 1) := by decide +kernel
theorem dX10_farBy_37 : decode cX10_farBy 37 = .ok (.iinc 5 1, 3) := by decide +kernel
theorem dX10_farBy_40 : decode cX10_farBy 40 = .ok (.goto (-32), 3) := by decide +kernel
theorem dX10_farBy_43 : decode cX10_farBy 43 = .ok (.iconst (-1), 1) := by decide +kernel
theorem dX10_farBy_44 : decode cX10_farBy 44 = .ok (.ireturn, 1) := by decide +kernel
theorem dX10_to_0 : decode cX10_to 0 = .ok (.aload_n 0, 1) := by decide +kernel
theorem dX10_to_1 : decode cX10_to 1 = .ok (.iload_n 1, 1) := by decide +kernel
theorem dX10_to_2 : decode cX10_to 2 = .ok (.invokevirtual 134, 3) := by decide +kernel
theorem dX10_to_5 : decode cX10_to 5 = .ok (.ifCond .eq 29, 3) := by decide +kernel
theorem dX10_to_8 : decode cX10_to 8 = .ok (.aload_n 0, 1) := by decide +kernel
theorem dX10_to_9 : decode cX10_to 9 = .ok (.iload_n 2, 1) := by decide +kernel
theorem dX10_to_10 : decode cX10_to 10 = .ok (.invokevirtual 134, 3) := by decide +kernel
theorem dX10_to_13 : decode cX10_to 13 = .ok (.ifCond .eq 21, 3) := by decide +kernel
theorem dX10_to_16 : decode cX10_to 16 = .ok (.iload_n 1, 1) := by decide +kernel
theorem dX10_to_17 : decode cX10_to 17 = .ok (.iload_n 2, 1) := by decide +kernel
theorem dX10_to_18 : decode cX10_to 18 = .ok (.if_icmp .eq 16, 3) := by decide +kernel
theorem dX10_to_21 : decode cX10_to 21 = .ok (.aload_n 0, 1) := by decide +kernel
theorem dX10_to_22 : decode cX10_to 22 = .ok (.iload_n 1, 1) := by decide +kernel
theorem dX10_to_23 : decode cX10_to 23 = .ok (.iload_n 2, 1) := by decide +kernel
theorem dX10_to_24 : decode cX10_to 24 = .ok (.aload_n 0, 1) := by decide +kernel
theorem dX10_to_25 : decode cX10_to 25 = .ok (.getfield 109, 3) := by decide +kernel
theorem dX10_to_28 : decode cX10_to 28 = .ok (.invokevirtual 157, 3) := by decide +kernel
theorem dX10_to_31 : decode cX10_to 31 = .ok (.goto 5, 3) := by decide +kernel
theorem dX10_to_34 : decode cX10_to 34 = .ok (.bipush (-101), 2) := by decide +kernel
theorem dX10_to_36 : decode cX10_to 36 = .ok (.ireturn, 1) := by decide +kernel
theorem dX10_sunday_0 : decode cX10_sunday 0 = .ok (.aload_n 0, 1) := by decide +kernel
theorem dX10_sunday_1 : decode cX10_sunday 1 = .ok (.invokevirtual 161, 3) := by decide +kernel
theorem dX10_sunday_4 : decode cX10_sunday 4 = .ok (.ifCond .eq 6, 3) := by decide +kernel
theorem dX10_sunday_7 : decode cX10_sunday 7 = .ok (.bipush (-103), 2) := by decide +kernel
theorem dX10_sunday_9 : decode cX10_sunday 9 = .ok (.ireturn, 1) := by decide +kernel
theorem dX10_sunday_10 : decode cX10_sunday 10 = .ok (.aload_n 0, 1) := by decide +kernel
theorem dX10_sunday_11 : decode cX10_sunday 11 = .ok (.getfield 112, 3) := by decide +kernel
theorem dX10_sunday_14 : decode cX10_sunday 14 = .ok (.sipush 999, 3) := by decide +kernel
theorem dX10_sunday_17 : decode cX10_sunday 17 = .ok (.if_icmp .ne 6, 3) := by decide +kernel
theorem dX10_sunday_20 : decode cX10_sunday 20 = .ok (.bipush (-104), 2) := by decide +kernel
theorem dX10_sunday_22 : decode cX10_sunday 22 = .ok (.ireturn, 1) := by decide +kernel
theorem dX10_sunday_23 : decode cX10_sunday 23 = .ok (.aload_n 0, 1) := by decide +kernel
theorem dX10_sunday_24 : decode cX10_sunday 24 = .ok (.dup, 1) := by decide +kernel
theorem dX10_sunday_25 : decode cX10_sunday 25 = .ok (.getfield 112, 3) := by decide +kernel
theorem dX10_sunday_28 : decode cX10_sunday 28 = .ok (.iconst 1, 1) := by decide +kernel
theorem dX10_sunday_29 : decode cX10_sunday 29 = .ok (.iadd, 1) := by decide +kernel
theorem dX10_sunday_30 : decode cX10_sunday 30 = .ok (.putfield 112, 3) := by decide +kernel
theorem dX10_sunday_33 : decode cX10_sunday 33 = .ok (.aload_n 0, 1) := by decide +kernel
theorem dX10_sunday_34 : decode cX10_sunday 34 = .ok (.getfield 16, 3) := by decide +kernel
theorem dX10_sunday_37 : decode cX10_sunday 37 = .ok (.aload_n 0, 1) := by decide +kernel
theorem dX10_sunday_38 : decode cX10_sunday 38 = .ok (.getfield 34, 3) := by decide +kernel
theorem dX10_sunday_41 : decode cX10_sunday 41 = .ok (.invokestatic 165, 3) := by decide +kernel
theorem dX10_sunday_44 : decode cX10_sunday 44 = .ok (.aload_n 0, 1) := by decide +kernel
theorem dX10_sunday_45 : decode cX10_sunday 45 = .ok (.aload_n 0, 1) := by decide +kernel
theorem dX10_sunday_46 : decode cX10_sunday 46 = .ok (.invokevirtual 128, 3) := by decide +kernel
theorem dX10_sunday_49 : decode cX10_sunday 49 = .ok (.invokevirtual 169, 3) := by decide +kernel
theorem dX10_sunday_52 : decode cX10_sunday 52 = .ok (.istore_n 1, 1) := by decide +kernel
theorem dX10_sunday_53 : decode cX10_sunday 53 = .ok (.aload_n 0, 1) := by decide +kernel
theorem dX10_sunday_54 : decode cX10_sunday 54 = .ok (.getfield 34, 3) := by decide +kernel
theorem dX10_sunday_57 : decode cX10_sunday 57 = .ok (.aload_n 0, 1) := by decide +kernel
theorem dX10_sunday_58 : decode cX10_sunday 58 = .ok (.getfield 16, 3) := by decide +kernel
theorem dX10_sunday_61 : decode cX10_sunday 61 = .ok (.invokestatic 165, 3) := by decide +kernel
theorem dX10_sunday_64 : decode cX10_sunday 64 = .ok (.iconst 0, 1) := by decide +kernel
theorem dX10_sunday_65 : decode cX10_sunday 65 = .ok (.istore_n 2, 1) := by decide +kernel
theorem dX10_sunday_66 : decode cX10_sunday 66 = .ok (.iload_n 2, 1) := by decide +kernel
theorem dX10_sunday_67 : decode cX10_sunday 67 = .ok (.aload_n 0, 1) := by decide +kernel
theorem dX10_sunday_68 : decode cX10_sunday 68 = .ok (.getfield 103, 3) := by decide +kernel
theorem dX10_sunday_71 : decode cX10_sunday 71 = .ok (.if_icmp .ge 23, 3) := by decide +kernel
theorem dX10_sunday_74 : decode cX10_sunday 74 = .ok (.aload_n 0, 1) := by decide +kernel
theorem dX10_sunday_75 : decode cX10_sunday 75 = .ok (.getfield 19, 3) := by decide +kernel
theorem dX10_sunday_78 : decode cX10_sunday 78 = .ok (.iload_n 2, 1) := by decide +kernel
theorem dX10_sunday_79 : decode cX10_sunday 79 = .ok (.dup2, 1) := by decide +kernel
theorem dX10_sunday_80 : decode cX10_sunday 80 = .ok (.iaload, 1) := by decide +kernel
theorem dX10_sunday_81 : decode cX10_sunday 81 = .ok (.iload_n 1, 1) := by decide +kernel
theorem dX10_sunday_82 : decode cX10_sunday 82 = .ok (.iload_n 2, 1) := by decide +kernel
theorem dX10_sunday_83 : decode cX10_sunday 83 = .ok (.ishr, 1) := by decide +kernel
theorem dX10_sunday_84 : decode cX10_sunday 84 = .ok (.iconst 1, 1) := by decide +kernel
theorem dX10_sunday_85 : decode cX10_sunday 85 = .ok (.iand, 1) := by decide +kernel
theorem dX10_sunday_86 : decode cX10_sunday 86 = .ok (.iadd, 1) := by decide +kernel
theorem dX10_sunday_87 : decode cX10_sunday 87 = .ok (.iastore, 1) := by decide +kernel
theorem dX10_sunday_88 : decode cX10_sunday 88 = .ok (.iinc 2 1, 3) := by decide +kernel
theorem dX10_sunday_91 : decode cX10_sunday 91 = .ok (.goto (-25), 3) := by decide +kernel
theorem dX10_sunday_94 : decode cX10_sunday 94 = .ok (.iload_n 1, 1) := by decide +kernel
theorem dX10_sunday_95 : decode cX10_sunday 95 = .ok (.invokestatic 172, 3) := by decide +kernel
theorem dX10_sunday_98 : decode cX10_sunday 98 = .ok (.ireturn, 1) := by decide +kernel
theorem dX10_forgive_0 : decode cX10_forgive 0 = .ok (.aload_n 0, 1) := by decide +kernel
theorem dX10_forgive_1 : decode cX10_forgive 1 = .ok (.iload_n 1, 1) := by decide +kernel
theorem dX10_forgive_2 : decode cX10_forgive 2 = .ok (.invokevirtual 148, 3) := by decide +kernel
theorem dX10_forgive_5 : decode cX10_forgive 5 = .ok (.ifCond .ne 6, 3) := by decide +kernel
theorem dX10_forgive_8 : decode cX10_forgive 8 = .ok (.bipush (-101), 2) := by decide +kernel
theorem dX10_forgive_10 : decode cX10_forgive 10 = .ok (.ireturn, 1) := by decide +kernel
theorem dX10_forgive_11 : decode cX10_forgive 11 = .ok (.aload_n 0, 1) := by decide +kernel
theorem dX10_forgive_12 : decode cX10_forgive 12 = .ok (.getfield 109, 3) := by decide +kernel
theorem dX10_forgive_15 : decode cX10_forgive 15 = .ok (.iload_n 1, 1) := by decide +kernel
theorem dX10_forgive_16 : decode cX10_forgive 16 = .ok (.ishr, 1) := by decide +kernel
theorem dX10_forgive_17 : decode cX10_forgive 17 = .ok (.iconst 1, 1) := by decide +kernel
theorem dX10_forgive_18 : decode cX10_forgive 18 = .ok (.iand, 1) := by decide +kernel
theorem dX10_forgive_19 : decode cX10_forgive 19 = .ok (.iconst 1, 1) := by decide +kernel
theorem dX10_forgive_20 : decode cX10_forgive 20 = .ok (.if_icmp .ne 6, 3) := by decide +kernel
theorem dX10_forgive_23 : decode cX10_forgive 23 = .ok (.bipush (-103), 2) := by decide +kernel
theorem dX10_forgive_25 : decode cX10_forgive 25 = .ok (.ireturn, 1) := by decide +kernel
theorem dX10_forgive_26 : decode cX10_forgive 26 = .ok (.aload_n 0, 1) := by decide +kernel
theorem dX10_forgive_27 : decode cX10_forgive 27 = .ok (.dup, 1) := by decide +kernel
theorem dX10_forgive_28 : decode cX10_forgive 28 = .ok (.getfield 109, 3) := by decide +kernel
theorem dX10_forgive_31 : decode cX10_forgive 31 = .ok (.iconst 1, 1) := by decide +kernel
theorem dX10_forgive_32 : decode cX10_forgive 32 = .ok (.iload_n 1, 1) := by decide +kernel
theorem dX10_forgive_33 : decode cX10_forgive 33 = .ok (.ishl, 1) := by decide +kernel
theorem dX10_forgive_34 : decode cX10_forgive 34 = .ok (.ior, 1) := by decide +kernel
theorem dX10_forgive_35 : decode cX10_forgive 35 = .ok (.putfield 109, 3) := by decide +kernel
theorem dX10_forgive_38 : decode cX10_forgive 38 = .ok (.aload_n 0, 1) := by decide +kernel
theorem dX10_forgive_39 : decode cX10_forgive 39 = .ok (.aload_n 0, 1) := by decide +kernel
theorem dX10_forgive_40 : decode cX10_forgive 40 = .ok (.getfield 22, 3) := by decide +kernel
theorem dX10_forgive_43 : decode cX10_forgive 43 = .ok (.iload_n 1, 1) := by decide +kernel
theorem dX10_forgive_44 : decode cX10_forgive 44 = .ok (.iaload, 1) := by decide +kernel
theorem dX10_forgive_45 : decode cX10_forgive 45 = .ok (.aload_n 0, 1) := by decide +kernel
theorem dX10_forgive_46 : decode cX10_forgive 46 = .ok (.getfield 109, 3) := by decide +kernel
theorem dX10_forgive_49 : decode cX10_forgive 49 = .ok (.invokevirtual 121, 3) := by decide +kernel
theorem dX10_forgive_52 : decode cX10_forgive 52 = .ok (.ireturn, 1) := by decide +kernel
theorem dX10_again_0 : decode cX10_again 0 = .ok (.aload_n 0, 1) := by decide +kernel
theorem dX10_again_1 : decode cX10_again 1 = .ok (.iload_n 1, 1) := by decide +kernel
theorem dX10_again_2 : decode cX10_again 2 = .ok (.invokevirtual 148, 3) := by decide +kernel
theorem dX10_again_5 : decode cX10_again 5 = .ok (.ifCond .ne 6, 3) := by decide +kernel
theorem dX10_again_8 : decode cX10_again 8 = .ok (.bipush (-101), 2) := by decide +kernel
theorem dX10_again_10 : decode cX10_again 10 = .ok (.ireturn, 1) := by decide +kernel
theorem dX10_again_11 : decode cX10_again 11 = .ok (.iload_n 2, 1) := by decide +kernel
theorem dX10_again_12 : decode cX10_again 12 = .ok (.i2l, 1) := by decide +kernel
theorem dX10_again_13 : decode cX10_again 13 = .ok (.lconst 1, 1) := by decide +kernel
theorem dX10_again_14 : decode cX10_again 14 = .ok (.ldc2_w 175, 3) := by decide +kernel
theorem dX10_again_17 : decode cX10_again 17 = .ok (.invokestatic 61, 3) := by decide +kernel
theorem dX10_again_20 : decode cX10_again 20 = .ok (.ifCond .ne 6, 3) := by decide +kernel
theorem dX10_again_23 : decode cX10_again 23 = .ok (.bipush (-102), 2) := by decide +kernel
theorem dX10_again_25 : decode cX10_again 25 = .ok (.ireturn, 1) := by decide +kernel
theorem dX10_again_26 : decode cX10_again 26 = .ok (.aload_n 0, 1) := by decide +kernel
theorem dX10_again_27 : decode cX10_again 27 = .ok (.dup, 1) := by decide +kernel
theorem dX10_again_28 : decode cX10_again 28 = .ok (.getfield 109, 3) := by decide +kernel
theorem dX10_again_31 : decode cX10_again 31 = .ok (.iconst 1, 1) := by decide +kernel
theorem dX10_again_32 : decode cX10_again 32 = .ok (.iload_n 1, 1) := by decide +kernel
theorem dX10_again_33 : decode cX10_again 33 = .ok (.ishl, 1) := by decide +kernel
theorem dX10_again_34 : decode cX10_again 34 = .ok (.iconst (-1), 1) := by decide +kernel
theorem dX10_again_35 : decode cX10_again 35 = .ok (.ixor, 1) := by decide +kernel
theorem dX10_again_36 : decode cX10_again 36 = .ok (.iand, 1) := by decide +kernel
theorem dX10_again_37 : decode cX10_again 37 = .ok (.putfield 109, 3) := by decide +kernel
theorem dX10_again_40 : decode cX10_again 40 = .ok (.aload_n 0, 1) := by decide +kernel
theorem dX10_again_41 : decode cX10_again 41 = .ok (.getfield 28, 3) := by decide +kernel
theorem dX10_again_44 : decode cX10_again 44 = .ok (.iload_n 1, 1) := by decide +kernel
theorem dX10_again_45 : decode cX10_again 45 = .ok (.iload_n 2, 1) := by decide +kernel
theorem dX10_again_46 : decode cX10_again 46 = .ok (.iastore, 1) := by decide +kernel
theorem dX10_again_47 : decode cX10_again 47 = .ok (.aload_n 0, 1) := by decide +kernel
theorem dX10_again_48 : decode cX10_again 48 = .ok (.aload_n 0, 1) := by decide +kernel
theorem dX10_again_49 : decode cX10_again 49 = .ok (.getfield 22, 3) := by decide +kernel
theorem dX10_again_52 : decode cX10_again 52 = .ok (.iload_n 1, 1) := by decide +kernel
theorem dX10_again_53 : decode cX10_again 53 = .ok (.iaload, 1) := by decide +kernel
theorem dX10_again_54 : decode cX10_again 54 = .ok (.aload_n 0, 1) := by decide +kernel
theorem dX10_again_55 : decode cX10_again 55 = .ok (.getfield 109, 3) := by decide +kernel
theorem dX10_again_58 : decode cX10_again 58 = .ok (.invokevirtual 121, 3) := by decide +kernel
theorem dX10_again_61 : decode cX10_again 61 = .ok (.ireturn, 1) := by decide +kernel
theorem dX10_room_0 : decode cX10_room 0 = .ok (.iload_n 1, 1) := by decide +kernel
theorem dX10_room_1 : decode cX10_room 1 = .ok (.i2l, 1) := by decide +kernel
theorem dX10_room_2 : decode cX10_room 2 = .ok (.lconst 1, 1) := by decide +kernel
theorem dX10_room_3 : decode cX10_room 3 = .ok (.ldc2_w 177, 3) := by decide +kernel
theorem dX10_room_6 : decode cX10_room 6 = .ok (.invokestatic 61, 3) := by decide +kernel
theorem dX10_room_9 : decode cX10_room 9 = .ok (.ifCond .ne 6, 3) := by decide +kernel
theorem dX10_room_12 : decode cX10_room 12 = .ok (.bipush (-102), 2) := by decide +kernel
theorem dX10_room_14 : decode cX10_room 14 = .ok (.ireturn, 1) := by decide +kernel
theorem dX10_room_15 : decode cX10_room 15 = .ok (.aload_n 0, 1) := by decide +kernel
theorem dX10_room_16 : decode cX10_room 16 = .ok (.invokevirtual 161, 3) := by decide +kernel
theorem dX10_room_19 : decode cX10_room 19 = .ok (.ifCond .eq 6, 3) := by decide +kernel
theorem dX10_room_22 : decode cX10_room 22 = .ok (.bipush (-103), 2) := by decide +kernel
theorem dX10_room_24 : decode cX10_room 24 = .ok (.ireturn, 1) := by decide +kernel
theorem dX10_room_25 : decode cX10_room 25 = .ok (.aload_n 0, 1) := by decide +kernel
theorem dX10_room_26 : decode cX10_room 26 = .ok (.getfield 100, 3) := by decide +kernel
theorem dX10_room_29 : decode cX10_room 29 = .ok (.istore_n 2, 1) := by decide +kernel
theorem dX10_room_30 : decode cX10_room 30 = .ok (.aload_n 0, 1) := by decide +kernel
theorem dX10_room_31 : decode cX10_room 31 = .ok (.iload_n 1, 1) := by decide +kernel
theorem dX10_room_32 : decode cX10_room 32 = .ok (.putfield 100, 3) := by decide +kernel
theorem dX10_room_35 : decode cX10_room 35 = .ok (.iload_n 2, 1) := by decide +kernel
theorem dX10_room_36 : decode cX10_room 36 = .ok (.ireturn, 1) := by decide +kernel
theorem dX10_change_0 : decode cX10_change 0 = .ok (.aload_n 0, 1) := by decide +kernel
theorem dX10_change_1 : decode cX10_change 1 = .ok (.iload_n 1, 1) := by decide +kernel
theorem dX10_change_2 : decode cX10_change 2 = .ok (.invokevirtual 134, 3) := by decide +kernel
theorem dX10_change_5 : decode cX10_change 5 = .ok (.ifCond .ne 6, 3) := by decide +kernel
theorem dX10_change_8 : decode cX10_change 8 = .ok (.bipush (-101), 2) := by decide +kernel
theorem dX10_change_10 : decode cX10_change 10 = .ok (.ireturn, 1) := by decide +kernel
theorem dX10_change_11 : decode cX10_change 11 = .ok (.iload_n 2, 1) := by decide +kernel
theorem dX10_change_12 : decode cX10_change 12 = .ok (.i2l, 1) := by decide +kernel
theorem dX10_change_13 : decode cX10_change 13 = .ok (.lconst 0, 1) := by decide +kernel
theorem dX10_change_14 : decode cX10_change 14 = .ok (.ldc2_w 140, 3) := by decide +kernel
theorem dX10_change_17 : decode cX10_change 17 = .ok (.invokestatic 61, 3) := by decide +kernel
theorem dX10_change_20 : decode cX10_change 20 = .ok (.ifCond .eq 15, 3) := by decide +kernel
theorem dX10_change_23 : decode cX10_change 23 = .ok (.iload_n 3, 1) := by decide +kernel
theorem dX10_change_24 : decode cX10_change 24 = .ok (.i2l, 1) := by decide +kernel
theorem dX10_change_25 : decode cX10_change 25 = .ok (.lconst 0, 1) := by decide +kernel
theorem dX10_change_26 : decode cX10_change 26 = .ok (.ldc2_w 179, 3) := by decide +kernel
theorem dX10_change_29 : decode cX10_change 29 = .ok (.invokestatic 61, 3) := by decide +kernel
theorem dX10_change_32 : decode cX10_change 32 = .ok (.ifCond .ne 6, 3) := by decide +kernel
theorem dX10_change_35 : decode cX10_change 35 = .ok (.bipush (-102), 2) := by decide +kernel
theorem dX10_change_37 : decode cX10_change 37 = .ok (.ireturn, 1) := by decide +kernel
theorem dX10_change_38 : decode cX10_change 38 = .ok (.aload_n 0, 1) := by decide +kernel
theorem dX10_change_39 : decode cX10_change 39 = .ok (.getfield 13, 3) := by decide +kernel
theorem dX10_change_42 : decode cX10_change 42 = .ok (.iload_n 1, 1) := by decide +kernel
theorem dX10_change_43 : decode cX10_change 43 = .ok (.iaload, 1) := by decide +kernel
theorem dX10_change_44 : decode cX10_change 44 = .ok (.istore 4, 2) := by decide +kernel
theorem dX10_change_46 : decode cX10_change 46 = .ok (.aload_n 0, 1) := by decide +kernel
theorem dX10_change_47 : decode cX10_change 47 = .ok (.getfield 13, 3) := by decide +kernel
theorem dX10_change_50 : decode cX10_change 50 = .ok (.iload_n 1, 1) := by decide +kernel
theorem dX10_change_51 : decode cX10_change 51 = .ok (.iload_n 2, 1) := by decide +kernel
theorem dX10_change_52 : decode cX10_change 52 = .ok (.iastore, 1) := by decide +kernel
theorem dX10_change_53 : decode cX10_change 53 = .ok (.aload_n 0, 1) := by decide +kernel
theorem dX10_change_54 : decode cX10_change 54 = .ok (.getfield 16, 3) := by decide +kernel
theorem dX10_change_57 : decode cX10_change 57 = .ok (.iload_n 1, 1) := by decide +kernel
theorem dX10_change_58 : decode cX10_change 58 = .ok (.iload_n 3, 1) := by decide +kernel
theorem dX10_change_59 : decode cX10_change 59 = .ok (.iastore, 1) := by decide +kernel
theorem dX10_change_60 : decode cX10_change 60 = .ok (.iload 4, 2) := by decide +kernel
theorem dX10_change_62 : decode cX10_change 62 = .ok (.ireturn, 1) := by decide +kernel
theorem dX10_goSundays_0 : decode cX10_goSundays 0 = .ok (.aload_n 0, 1) := by decide +kernel
theorem dX10_goSundays_1 : decode cX10_goSundays 1 = .ok (.getfield 16, 3) := by decide +kernel
theorem dX10_goSundays_4 : decode cX10_goSundays 4 = .ok (.aload_n 0, 1) := by decide +kernel
theorem dX10_goSundays_5 : decode cX10_goSundays 5 = .ok (.getfield 34, 3) := by decide +kernel
theorem dX10_goSundays_8 : decode cX10_goSundays 8 = .ok (.invokestatic 165, 3) := by decide +kernel
theorem dX10_goSundays_11 : decode cX10_goSundays 11 = .ok (.aload_n 0, 1) := by decide +kernel
theorem dX10_goSundays_12 : decode cX10_goSundays 12 = .ok (.iconst 0, 1) := by decide +kernel
theorem dX10_goSundays_13 : decode cX10_goSundays 13 = .ok (.putfield 181, 3) := by decide +kernel
theorem dX10_goSundays_16 : decode cX10_goSundays 16 = .ok (.aload_n 0, 1) := by decide +kernel
theorem dX10_goSundays_17 : decode cX10_goSundays 17 = .ok (.bipush 99, 2) := by decide +kernel
theorem dX10_goSundays_19 : decode cX10_goSundays 19 = .ok (.putfield 184, 3) := by decide +kernel
theorem dX10_goSundays_22 : decode cX10_goSundays 22 = .ok (.aload_n 0, 1) := by decide +kernel
theorem dX10_goSundays_23 : decode cX10_goSundays 23 = .ok (.iload_n 1, 1) := by decide +kernel
theorem dX10_goSundays_24 : decode cX10_goSundays 24 = .ok (.aload_n 0, 1) := by decide +kernel
theorem dX10_goSundays_25 : decode cX10_goSundays 25 = .ok (.getfield 100, 3) := by decide +kernel
theorem dX10_goSundays_28 : decode cX10_goSundays 28 = .ok (.invokevirtual 125, 3) := by decide +kernel
theorem dX10_goSundays_31 : decode cX10_goSundays 31 = .ok (.istore_n 3, 1) := by decide +kernel
theorem dX10_goSundays_32 : decode cX10_goSundays 32 = .ok (.iconst 0, 1) := by decide +kernel
theorem dX10_goSundays_33 : decode cX10_goSundays 33 = .ok (.istore 4, 2) := by decide +kernel
theorem dX10_goSundays_35 : decode cX10_goSundays 35 = .ok (.iload 4, 2) := by decide +kernel
theorem dX10_goSundays_37 : decode cX10_goSundays 37 = .ok (.iload_n 2, 1) := by decide +kernel
theorem dX10_goSundays_38 : decode cX10_goSundays 38 = .ok (.if_icmp .ge 26, 3) := by decide +kernel
theorem dX10_goSundays_41 : decode cX10_goSundays 41 = .ok (.aload_n 0, 1) := by decide +kernel
theorem dX10_goSundays_42 : decode cX10_goSundays 42 = .ok (.dup, 1) := by decide +kernel
theorem dX10_goSundays_43 : decode cX10_goSundays 43 = .ok (.getfield 181, 3) := by decide +kernel
theorem dX10_goSundays_46 : decode cX10_goSundays 46 = .ok (.aload_n 0, 1) := by decide +kernel
theorem dX10_goSundays_47 : decode cX10_goSundays 47 = .ok (.iload_n 3, 1) := by decide +kernel
theorem dX10_goSundays_48 : decode cX10_goSundays 48 = .ok (.invokevirtual 169, 3) := by decide +kernel
theorem dX10_goSundays_51 : decode cX10_goSundays 51 = .ok (.invokestatic 172, 3) := by decide +kernel
theorem dX10_goSundays_54 : decode cX10_goSundays 54 = .ok (.iadd, 1) := by decide +kernel
theorem dX10_goSundays_55 : decode cX10_goSundays 55 = .ok (.putfield 181, 3) := by decide +kernel
theorem dX10_goSundays_58 : decode cX10_goSundays 58 = .ok (.iinc 4 1, 3) := by decide +kernel
theorem dX10_goSundays_61 : decode cX10_goSundays 61 = .ok (.goto (-26), 3) := by decide +kernel
theorem dX10_goSundays_64 : decode cX10_goSundays 64 = .ok (.iconst 0, 1) := by decide +kernel
theorem dX10_goSundays_65 : decode cX10_goSundays 65 = .ok (.istore 4, 2) := by decide +kernel
theorem dX10_goSundays_67 : decode cX10_goSundays 67 = .ok (.iload 4, 2) := by decide +kernel
theorem dX10_goSundays_69 : decode cX10_goSundays 69 = .ok (.aload_n 0, 1) := by decide +kernel
theorem dX10_goSundays_70 : decode cX10_goSundays 70 = .ok (.getfield 103, 3) := by decide +kernel
theorem dX10_goSundays_73 : decode cX10_goSundays 73 = .ok (.if_icmp .ge 41, 3) := by decide +kernel
theorem dX10_goSundays_76 : decode cX10_goSundays 76 = .ok (.aload_n 0, 1) := by decide +kernel
theorem dX10_goSundays_77 : decode cX10_goSundays 77 = .ok (.aload_n 0, 1) := by decide +kernel
theorem dX10_goSundays_78 : decode cX10_goSundays 78 = .ok (.getfield 34, 3) := by decide +kernel
theorem dX10_goSundays_81 : decode cX10_goSundays 81 = .ok (.iload 4, 2) := by decide +kernel
theorem dX10_goSundays_83 : decode cX10_goSundays 83 = .ok (.iaload, 1) := by decide +kernel
theorem dX10_goSundays_84 : decode cX10_goSundays 84 = .ok (.aload_n 0, 1) := by decide +kernel
theorem dX10_goSundays_85 : decode cX10_goSundays 85 = .ok (.getfield 184, 3) := by decide +kernel
theorem dX10_goSundays_88 : decode cX10_goSundays 88 = .ok (.if_icmp .ge 13, 3) := by decide +kernel
theorem dX10_goSundays_91 : decode cX10_goSundays 91 = .ok (.aload_n 0, 1) := by decide +kernel
theorem dX10_goSundays_92 : decode cX10_goSundays 92 = .ok (.getfield 34, 3) := by decide +kernel
theorem dX10_goSundays_95 : decode cX10_goSundays 95 = .ok (.iload 4, 2) := by decide +kernel
theorem dX10_goSundays_97 : decode cX10_goSundays 97 = .ok (.iaload, 1) := by decide +kernel
theorem dX10_goSundays_98 : decode cX10_goSundays 98 = .ok (.goto 7, 3) := by decide +kernel
theorem dX10_goSundays_101 : decode cX10_goSundays 101 = .ok (.aload_n 0, 1) := by decide +kernel
theorem dX10_goSundays_102 : decode cX10_goSundays 102 = .ok (.getfield 184, 3) := by decide +kernel
theorem dX10_goSundays_105 : decode cX10_goSundays 105 = .ok (.putfield 184, 3) := by decide +kernel
theorem dX10_goSundays_108 : decode cX10_goSundays 108 = .ok (.iinc 4 1, 3) := by decide +kernel
theorem dX10_goSundays_111 : decode cX10_goSundays 111 = .ok (.goto (-44), 3) := by decide +kernel
theorem dX10_goSundays_114 : decode cX10_goSundays 114 = .ok (.return_, 1) := by decide +kernel
theorem dX10_leaveOf_0 : decode cX10_leaveOf 0 = .ok (.iconst 1, 1) := by decide +kernel
theorem dX10_leaveOf_1 : decode cX10_leaveOf 1 = .ok (.aload_n 0, 1) := by decide +kernel
theorem dX10_leaveOf_2 : decode cX10_leaveOf 2 = .ok (.getfield 106, 3) := by decide +kernel
theorem dX10_leaveOf_5 : decode cX10_leaveOf 5 = .ok (.ishl, 1) := by decide +kernel
theorem dX10_leaveOf_6 : decode cX10_leaveOf 6 = .ok (.iconst 1, 1) := by decide +kernel
theorem dX10_leaveOf_7 : decode cX10_leaveOf 7 = .ok (.isub, 1) := by decide +kernel
theorem dX10_leaveOf_8 : decode cX10_leaveOf 8 = .ok (.istore_n 3, 1) := by decide +kernel
theorem dX10_leaveOf_9 : decode cX10_leaveOf 9 = .ok (.iconst 0, 1) := by decide +kernel
theorem dX10_leaveOf_10 : decode cX10_leaveOf 10 = .ok (.istore 4, 2) := by decide +kernel
theorem dX10_leaveOf_12 : decode cX10_leaveOf 12 = .ok (.iconst (-1), 1) := by decide +kernel
theorem dX10_leaveOf_13 : decode cX10_leaveOf 13 = .ok (.istore 5, 2) := by decide +kernel
theorem dX10_leaveOf_15 : decode cX10_leaveOf 15 = .ok (.iconst 0, 1) := by decide +kernel
theorem dX10_leaveOf_16 : decode cX10_leaveOf 16 = .ok (.istore 6, 2) := by decide +kernel
theorem dX10_leaveOf_18 : decode cX10_leaveOf 18 = .ok (.iload 6, 2) := by decide +kernel
theorem dX10_leaveOf_20 : decode cX10_leaveOf 20 = .ok (.iload_n 3, 1) := by decide +kernel
theorem dX10_leaveOf_21 : decode cX10_leaveOf 21 = .ok (.if_icmp .gt 80, 3) := by decide +kernel
theorem dX10_leaveOf_24 : decode cX10_leaveOf 24 = .ok (.aload_n 0, 1) := by decide +kernel
theorem dX10_leaveOf_25 : decode cX10_leaveOf 25 = .ok (.iload_n 3, 1) := by decide +kernel
theorem dX10_leaveOf_26 : decode cX10_leaveOf 26 = .ok (.iload 6, 2) := by decide +kernel
theorem dX10_leaveOf_28 : decode cX10_leaveOf 28 = .ok (.isub, 1) := by decide +kernel
theorem dX10_leaveOf_29 : decode cX10_leaveOf 29 = .ok (.iload_n 1, 1) := by decide +kernel
theorem dX10_leaveOf_30 : decode cX10_leaveOf 30 = .ok (.invokevirtual 187, 3) := by decide +kernel
theorem dX10_leaveOf_33 : decode cX10_leaveOf 33 = .ok (.sipush 10000, 3) := by decide +kernel
theorem dX10_leaveOf_36 : decode cX10_leaveOf 36 = .ok (.bipush 50, 2) := by decide +kernel
theorem dX10_leaveOf_38 : decode cX10_leaveOf 38 = .ok (.aload_n 0, 1) := by decide +kernel
theorem dX10_leaveOf_39 : decode cX10_leaveOf 39 = .ok (.getfield 181, 3) := by decide +kernel
theorem dX10_leaveOf_42 : decode cX10_leaveOf 42 = .ok (.isub, 1) := by decide +kernel
theorem dX10_leaveOf_43 : decode cX10_leaveOf 43 = .ok (.imul, 1) := by decide +kernel
theorem dX10_leaveOf_44 : decode cX10_leaveOf 44 = .ok (.bipush 100, 2) := by decide +kernel
theorem dX10_leaveOf_46 : decode cX10_leaveOf 46 = .ok (.aload_n 0, 1) := by decide +kernel
theorem dX10_leaveOf_47 : decode cX10_leaveOf 47 = .ok (.getfield 184, 3) := by decide +kernel
theorem dX10_leaveOf_50 : decode cX10_leaveOf 50 = .ok (.imul, 1) := by decide +kernel
theorem dX10_leaveOf_51 : decode cX10_leaveOf 51 = .ok (.iadd, 1) := by decide +kernel
theorem dX10_leaveOf_52 : decode cX10_leaveOf 52 = .ok (.bipush 10, 2) := by decide +kernel
theorem dX10_leaveOf_54 : decode cX10_leaveOf 54 = .ok (.iadd, 1) := by decide +kernel
theorem dX10_leaveOf_55 : decode cX10_leaveOf 55 = .ok (.iload 6, 2) := by decide +kernel
theorem dX10_leaveOf_57 : decode cX10_leaveOf 57 = .ok (.invokestatic 172, 3) := by decide +kernel
theorem dX10_leaveOf_60 : decode cX10_leaveOf 60 = .ok (.isub, 1) := by decide +kernel
theorem dX10_leaveOf_61 : decode cX10_leaveOf 61 = .ok (.istore 7, 2) := by decide +kernel
theorem dX10_leaveOf_63 : decode cX10_leaveOf 63 = .ok (.iload 7, 2) := by decide +kernel
theorem dX10_leaveOf_65 : decode cX10_leaveOf 65 = .ok (.iload 5, 2) := by decide +kernel
theorem dX10_leaveOf_67 : decode cX10_leaveOf 67 = .ok (.if_icmp .le 8, 3) := by decide +kernel
theorem dX10_leaveOf_70 : decode cX10_leaveOf 70 = .ok (.iload 6, 2) := by decide +kernel
theorem dX10_leaveOf_72 : decode cX10_leaveOf 72 = .ok (.goto 5, 3) := by decide +kernel
theorem dX10_leaveOf_75 : decode cX10_leaveOf 75 = .ok (.iload 4, 2) := by decide +kernel
theorem dX10_leaveOf_77 : decode cX10_leaveOf 77 = .ok (.istore 4, 2) := by decide +kernel
theorem dX10_leaveOf_79 : decode cX10_leaveOf 79 = .ok (.iload 7, 2) := by decide +kernel
theorem dX10_leaveOf_81 : decode cX10_leaveOf 81 = .ok (.iload 5, 2) := by decide +kernel
theorem dX10_leaveOf_83 : decode cX10_leaveOf 83 = .ok (.if_icmp .le 8, 3) := by decide +kernel
theorem dX10_leaveOf_86 : decode cX10_leaveOf 86 = .ok (.iload 7, 2) := by decide +kernel
theorem dX10_leaveOf_88 : decode cX10_leaveOf 88 = .ok (.goto 5, 3) := by decide +kernel
theorem dX10_leaveOf_91 : decode cX10_leaveOf 91 = .ok (.iload 5, 2) := by decide +kernel
theorem dX10_leaveOf_93 : decode cX10_leaveOf 93 = .ok (.istore 5, 2) := by decide +kernel
theorem dX10_leaveOf_95 : decode cX10_leaveOf 95 = .ok (.iinc 6 1, 3) := by decide +kernel
theorem dX10_leaveOf_98 : decode cX10_leaveOf 98 = .ok (.goto (-80), 3) := by decide +kernel
theorem dX10_leaveOf_101 : decode cX10_leaveOf 101 = .ok (.iload_n 2, 1) := by decide +kernel
theorem dX10_leaveOf_102 : decode cX10_leaveOf 102 = .ok (.ifCond .ne 15, 3) := by decide +kernel
theorem dX10_leaveOf_105 : decode cX10_leaveOf 105 = .ok (.bipush 50, 2) := by decide +kernel
theorem dX10_leaveOf_107 : decode cX10_leaveOf 107 = .ok (.iload 5, 2) := by decide +kernel
theorem dX10_leaveOf_109 : decode cX10_leaveOf 109 = .ok (.sipush 10000, 3) := by decide +kernel
theorem dX10_leaveOf_112 : decode cX10_leaveOf 112 = .ok (.idiv, 1) := by decide +kernel
theorem dX10_leaveOf_113 : decode cX10_leaveOf 113 = .ok (.isub, 1) := by decide +kernel
theorem dX10_leaveOf_114 : decode cX10_leaveOf 114 = .ok (.goto 21, 3) := by decide +kernel
theorem dX10_leaveOf_117 : decode cX10_leaveOf 117 = .ok (.iload_n 2, 1) := by decide +kernel
theorem dX10_leaveOf_118 : decode cX10_leaveOf 118 = .ok (.iconst 1, 1) := by decide +kernel
theorem dX10_leaveOf_119 : decode cX10_leaveOf 119 = .ok (.if_icmp .ne 14, 3) := by decide +kernel
theorem dX10_leaveOf_122 : decode cX10_leaveOf 122 = .ok (.iload 5, 2) := by decide +kernel
theorem dX10_leaveOf_124 : decode cX10_leaveOf 124 = .ok (.bipush 100, 2) := by decide +kernel
theorem dX10_leaveOf_126 : decode cX10_leaveOf 126 = .ok (.idiv, 1) := by decide +kernel
theorem dX10_leaveOf_127 : decode cX10_leaveOf 127 = .ok (.bipush 100, 2) := by decide +kernel
theorem dX10_leaveOf_129 : decode cX10_leaveOf 129 = .ok (.irem, 1) := by decide +kernel
theorem dX10_leaveOf_130 : decode cX10_leaveOf 130 = .ok (.goto 5, 3) := by decide +kernel
theorem dX10_leaveOf_133 : decode cX10_leaveOf 133 = .ok (.iload 4, 2) := by decide +kernel
theorem dX10_leaveOf_135 : decode cX10_leaveOf 135 = .ok (.ireturn, 1) := by decide +kernel
theorem dX10_leave_0 : decode cX10_leave 0 = .ok (.iload_n 1, 1) := by decide +kernel
theorem dX10_leave_1 : decode cX10_leave 1 = .ok (.i2l, 1) := by decide +kernel
theorem dX10_leave_2 : decode cX10_leave 2 = .ok (.lconst 1, 1) := by decide +kernel
theorem dX10_leave_3 : decode cX10_leave 3 = .ok (.ldc2_w 177, 3) := by decide +kernel
theorem dX10_leave_6 : decode cX10_leave 6 = .ok (.invokestatic 61, 3) := by decide +kernel
theorem dX10_leave_9 : decode cX10_leave 9 = .ok (.ifCond .eq 15, 3) := by decide +kernel
theorem dX10_leave_12 : decode cX10_leave 12 = .ok (.iload_n 2, 1) := by decide +kernel
theorem dX10_leave_13 : decode cX10_leave 13 = .ok (.i2l, 1) := by decide +kernel
theorem dX10_leave_14 : decode cX10_leave 14 = .ok (.lconst 0, 1) := by decide +kernel
theorem dX10_leave_15 : decode cX10_leave 15 = .ok (.ldc2_w 191, 3) := by decide +kernel
theorem dX10_leave_18 : decode cX10_leave 18 = .ok (.invokestatic 61, 3) := by decide +kernel
theorem dX10_leave_21 : decode cX10_leave 21 = .ok (.ifCond .ne 6, 3) := by decide +kernel
theorem dX10_leave_24 : decode cX10_leave 24 = .ok (.bipush (-102), 2) := by decide +kernel
theorem dX10_leave_26 : decode cX10_leave 26 = .ok (.ireturn, 1) := by decide +kernel
theorem dX10_leave_27 : decode cX10_leave 27 = .ok (.aload_n 0, 1) := by decide +kernel
theorem dX10_leave_28 : decode cX10_leave 28 = .ok (.invokevirtual 161, 3) := by decide +kernel
theorem dX10_leave_31 : decode cX10_leave 31 = .ok (.ifCond .ne 12, 3) := by decide +kernel
theorem dX10_leave_34 : decode cX10_leave 34 = .ok (.aload_n 0, 1) := by decide +kernel
theorem dX10_leave_35 : decode cX10_leave 35 = .ok (.getfield 193, 3) := by decide +kernel
theorem dX10_leave_38 : decode cX10_leave 38 = .ok (.bipush 20, 2) := by decide +kernel
theorem dX10_leave_40 : decode cX10_leave 40 = .ok (.if_icmp .ne 6, 3) := by decide +kernel
theorem dX10_leave_43 : decode cX10_leave 43 = .ok (.bipush (-103), 2) := by decide +kernel
theorem dX10_leave_45 : decode cX10_leave 45 = .ok (.ireturn, 1) := by decide +kernel
theorem dX10_leave_46 : decode cX10_leave 46 = .ok (.aload_n 0, 1) := by decide +kernel
theorem dX10_leave_47 : decode cX10_leave 47 = .ok (.dup, 1) := by decide +kernel
theorem dX10_leave_48 : decode cX10_leave 48 = .ok (.getfield 193, 3) := by decide +kernel
theorem dX10_leave_51 : decode cX10_leave 51 = .ok (.iconst 1, 1) := by decide +kernel
theorem dX10_leave_52 : decode cX10_leave 52 = .ok (.iadd, 1) := by decide +kernel
theorem dX10_leave_53 : decode cX10_leave 53 = .ok (.putfield 193, 3) := by decide +kernel
theorem dX10_leave_56 : decode cX10_leave 56 = .ok (.aload_n 0, 1) := by decide +kernel
theorem dX10_leave_57 : decode cX10_leave 57 = .ok (.iload_n 1, 1) := by decide +kernel
theorem dX10_leave_58 : decode cX10_leave 58 = .ok (.iload_n 2, 1) := by decide +kernel
theorem dX10_leave_59 : decode cX10_leave 59 = .ok (.invokevirtual 196, 3) := by decide +kernel
theorem dX10_leave_62 : decode cX10_leave 62 = .ok (.ireturn, 1) := by decide +kernel
theorem dX10_ringBy_0 : decode cX10_ringBy 0 = .ok (.iconst (-1), 1) := by decide +kernel
theorem dX10_ringBy_1 : decode cX10_ringBy 1 = .ok (.istore_n 2, 1) := by decide +kernel
theorem dX10_ringBy_2 : decode cX10_ringBy 2 = .ok (.iconst 0, 1) := by decide +kernel
theorem dX10_ringBy_3 : decode cX10_ringBy 3 = .ok (.istore_n 3, 1) := by decide +kernel
theorem dX10_ringBy_4 : decode cX10_ringBy 4 = .ok (.iload_n 3, 1) := by decide +kernel
theorem dX10_ringBy_5 : decode cX10_ringBy 5 = .ok (.aload_n 0, 1) := by decide +kernel
theorem dX10_ringBy_6 : decode cX10_ringBy 6 = .ok (.getfield 103, 3) := by decide +kernel
theorem dX10_ringBy_9 : decode cX10_ringBy 9 = .ok (.if_icmp .ge 42, 3) := by decide +kernel
theorem dX10_ringBy_12 : decode cX10_ringBy 12 = .ok (.aload_n 0, 1) := by decide +kernel
theorem dX10_ringBy_13 : decode cX10_ringBy 13 = .ok (.iload_n 3, 1) := by decide +kernel
theorem dX10_ringBy_14 : decode cX10_ringBy 14 = .ok (.iload_n 3, 1) := by decide +kernel
theorem dX10_ringBy_15 : decode cX10_ringBy 15 = .ok (.iload_n 1, 1) := by decide +kernel
theorem dX10_ringBy_16 : decode cX10_ringBy 16 = .ok (.invokevirtual 157, 3) := by decide +kernel
theorem dX10_ringBy_19 : decode cX10_ringBy 19 = .ok (.istore 4, 2) := by decide +kernel
theorem dX10_ringBy_21 : decode cX10_ringBy 21 = .ok (.iload 4, 2) := by decide +kernel
theorem dX10_ringBy_23 : decode cX10_ringBy 23 = .ok (.iconst (-1), 1) := by decide +kernel
theorem dX10_ringBy_24 : decode cX10_ringBy 24 = .ok (.if_icmp .eq 19, 3) := by decide +kernel
theorem dX10_ringBy_27 : decode cX10_ringBy 27 = .ok (.iload_n 2, 1) := by decide +kernel
theorem dX10_ringBy_28 : decode cX10_ringBy 28 = .ok (.iconst (-1), 1) := by decide +kernel
theorem dX10_ringBy_29 : decode cX10_ringBy 29 = .ok (.if_icmp .eq 9, 3) := by decide +kernel
theorem dX10_ringBy_32 : decode cX10_ringBy 32 = .ok (.iload 4, 2) := by decide +kernel
theorem dX10_ringBy_34 : decode cX10_ringBy 34 = .ok (.iload_n 2, 1) := by decide +kernel
theorem dX10_ringBy_35 : decode cX10_ringBy 35 = .ok (.if_icmp .ge 8, 3) := by decide +kernel
theorem dX10_ringBy_38 : decode cX10_ringBy 38 = .ok (.iload 4, 2) := by decide +kernel
theorem dX10_ringBy_40 : decode cX10_ringBy 40 = .ok (.goto 4, 3) := by decide +kernel
theorem dX10_ringBy_43 : decode cX10_ringBy 43 = .ok (.iload_n 2, 1) := by decide +kernel
theorem dX10_ringBy_44 : decode cX10_ringBy 44 = .ok (.istore_n 2, 1) := by decide +kernel
theorem dX10_ringBy_45 : decode cX10_ringBy 45 = .ok (.iinc 3 1, 3) := by decide +kernel
theorem dX10_ringBy_48 : decode cX10_ringBy 48 = .ok (.goto (-44), 3) := by decide +kernel
theorem dX10_ringBy_51 : decode cX10_ringBy 51 = .ok (.iload_n 2, 1) := by decide +kernel
theorem dX10_ringBy_52 : decode cX10_ringBy 52 = .ok (.ireturn, 1) := by decide +kernel
theorem dX10_ring_0 : decode cX10_ring 0 = .ok (.aload_n 0, 1) := by decide +kernel
theorem dX10_ring_1 : decode cX10_ring 1 = .ok (.invokevirtual 161, 3) := by decide +kernel
theorem dX10_ring_4 : decode cX10_ring 4 = .ok (.ifCond .eq 8, 3) := by decide +kernel
theorem dX10_ring_7 : decode cX10_ring 7 = .ok (.bipush (-103), 2) := by decide +kernel
theorem dX10_ring_9 : decode cX10_ring 9 = .ok (.goto 11, 3) := by decide +kernel
theorem dX10_ring_12 : decode cX10_ring 12 = .ok (.aload_n 0, 1) := by decide +kernel
theorem dX10_ring_13 : decode cX10_ring 13 = .ok (.aload_n 0, 1) := by decide +kernel
theorem dX10_ring_14 : decode cX10_ring 14 = .ok (.getfield 109, 3) := by decide +kernel
theorem dX10_ring_17 : decode cX10_ring 17 = .ok (.invokevirtual 199, 3) := by decide +kernel
theorem dX10_ring_20 : decode cX10_ring 20 = .ok (.ireturn, 1) := by decide +kernel
theorem dX10_peaceOf_0 : decode cX10_peaceOf 0 = .ok (.iconst (-1), 1) := by decide +kernel
theorem dX10_peaceOf_1 : decode cX10_peaceOf 1 = .ok (.istore_n 2, 1) := by decide +kernel
theorem dX10_peaceOf_2 : decode cX10_peaceOf 2 = .ok (.iconst 0, 1) := by decide +kernel
theorem dX10_peaceOf_3 : decode cX10_peaceOf 3 = .ok (.istore_n 3, 1) := by decide +kernel
theorem dX10_peaceOf_4 : decode cX10_peaceOf 4 = .ok (.iload_n 3, 1) := by decide +kernel
theorem dX10_peaceOf_5 : decode cX10_peaceOf 5 = .ok (.iconst 1, 1) := by decide +kernel
theorem dX10_peaceOf_6 : decode cX10_peaceOf 6 = .ok (.aload_n 0, 1) := by decide +kernel
theorem dX10_peaceOf_7 : decode cX10_peaceOf 7 = .ok (.getfield 106, 3) := by decide +kernel
theorem dX10_peaceOf_10 : decode cX10_peaceOf 10 = .ok (.ishl, 1) := by decide +kernel
theorem dX10_peaceOf_11 : decode cX10_peaceOf 11 = .ok (.if_icmp .ge 66, 3) := by decide +kernel
theorem dX10_peaceOf_14 : decode cX10_peaceOf 14 = .ok (.iload_n 3, 1) := by decide +kernel
theorem dX10_peaceOf_15 : decode cX10_peaceOf 15 = .ok (.aload_n 0, 1) := by decide +kernel
theorem dX10_peaceOf_16 : decode cX10_peaceOf 16 = .ok (.getfield 109, 3) := by decide +kernel
theorem dX10_peaceOf_19 : decode cX10_peaceOf 19 = .ok (.iand, 1) := by decide +kernel
theorem dX10_peaceOf_20 : decode cX10_peaceOf 20 = .ok (.ifCond .ne 23, 3) := by decide +kernel
theorem dX10_peaceOf_23 : decode cX10_peaceOf 23 = .ok (.iload_n 2, 1) := by decide +kernel
theorem dX10_peaceOf_24 : decode cX10_peaceOf 24 = .ok (.iconst (-1), 1) := by decide +kernel
theorem dX10_peaceOf_25 : decode cX10_peaceOf 25 = .ok (.if_icmp .eq 14, 3) := by decide +kernel
theorem dX10_peaceOf_28 : decode cX10_peaceOf 28 = .ok (.iload_n 3, 1) := by decide +kernel
theorem dX10_peaceOf_29 : decode cX10_peaceOf 29 = .ok (.invokestatic 172, 3) := by decide +kernel
theorem dX10_peaceOf_32 : decode cX10_peaceOf 32 = .ok (.iload_n 2, 1) := by decide +kernel
theorem dX10_peaceOf_33 : decode cX10_peaceOf 33 = .ok (.invokestatic 172, 3) := by decide +kernel
theorem dX10_peaceOf_36 : decode cX10_peaceOf 36 = .ok (.if_icmp .ge 7, 3) := by decide +kernel
theorem dX10_peaceOf_39 : decode cX10_peaceOf 39 = .ok (.iconst 1, 1) := by decide +kernel
theorem dX10_peaceOf_40 : decode cX10_peaceOf 40 = .ok (.goto 4, 3) := by decide +kernel
theorem dX10_peaceOf_43 : decode cX10_peaceOf 43 = .ok (.iconst 0, 1) := by decide +kernel
theorem dX10_peaceOf_44 : decode cX10_peaceOf 44 = .ok (.istore 4, 2) := by decide +kernel
theorem dX10_peaceOf_46 : decode cX10_peaceOf 46 = .ok (.iload 4, 2) := by decide +kernel
theorem dX10_peaceOf_48 : decode cX10_peaceOf 48 = .ok (.ifCond .eq 21, 3) := by decide +kernel
theorem dX10_peaceOf_51 : decode cX10_peaceOf 51 = .ok (.aload_n 0, 1) := by decide +kernel
theorem dX10_peaceOf_52 : decode cX10_peaceOf 52 = .ok (.aload_n 0, 1) := by decide +kernel
theorem dX10_peaceOf_53 : decode cX10_peaceOf 53 = .ok (.getfield 109, 3) := by decide +kernel
theorem dX10_peaceOf_56 : decode cX10_peaceOf 56 = .ok (.iload_n 3, 1) := by decide +kernel
theorem dX10_peaceOf_57 : decode cX10_peaceOf 57 = .ok (.ior, 1) := by decide +kernel
theorem dX10_peaceOf_58 : decode cX10_peaceOf 58 = .ok (.invokevirtual 199, 3) := by decide +kernel
theorem dX10_peaceOf_61 : decode cX10_peaceOf 61 = .ok (.iconst (-1), 1) := by decide +kernel
theorem dX10_peaceOf_62 : decode cX10_peaceOf 62 = .ok (.if_icmp .ne 7, 3) := by decide +kernel
theorem dX10_peaceOf_65 : decode cX10_peaceOf 65 = .ok (.iload_n 3, 1) := by decide +kernel
theorem dX10_peaceOf_66 : decode cX10_peaceOf 66 = .ok (.goto 4, 3) := by decide +kernel
theorem dX10_peaceOf_69 : decode cX10_peaceOf 69 = .ok (.iload_n 2, 1) := by decide +kernel
theorem dX10_peaceOf_70 : decode cX10_peaceOf 70 = .ok (.istore_n 2, 1) := by decide +kernel
theorem dX10_peaceOf_71 : decode cX10_peaceOf 71 = .ok (.iinc 3 1, 3) := by decide +kernel
theorem dX10_peaceOf_74 : decode cX10_peaceOf 74 = .ok (.goto (-70), 3) := by decide +kernel
theorem dX10_peaceOf_77 : decode cX10_peaceOf 77 = .ok (.iload_n 1, 1) := by decide +kernel
theorem dX10_peaceOf_78 : decode cX10_peaceOf 78 = .ok (.ifCond .ne 10, 3) := by decide +kernel
theorem dX10_peaceOf_81 : decode cX10_peaceOf 81 = .ok (.iload_n 2, 1) := by decide +kernel
theorem dX10_peaceOf_82 : decode cX10_peaceOf 82 = .ok (.invokestatic 172, 3) := by decide +kernel
theorem dX10_peaceOf_85 : decode cX10_peaceOf 85 = .ok (.goto 4, 3) := by decide +kernel
theorem dX10_peaceOf_88 : decode cX10_peaceOf 88 = .ok (.iload_n 2, 1) := by decide +kernel
theorem dX10_peaceOf_89 : decode cX10_peaceOf 89 = .ok (.ireturn, 1) := by decide +kernel
theorem dX10_peace_0 : decode cX10_peace 0 = .ok (.iload_n 1, 1) := by decide +kernel
theorem dX10_peace_1 : decode cX10_peace 1 = .ok (.i2l, 1) := by decide +kernel
theorem dX10_peace_2 : decode cX10_peace 2 = .ok (.lconst 0, 1) := by decide +kernel
theorem dX10_peace_3 : decode cX10_peace 3 = .ok (.lconst 1, 1) := by decide +kernel
theorem dX10_peace_4 : decode cX10_peace 4 = .ok (.invokestatic 61, 3) := by decide +kernel
theorem dX10_peace_7 : decode cX10_peace 7 = .ok (.ifCond .ne 6, 3) := by decide +kernel
theorem dX10_peace_10 : decode cX10_peace 10 = .ok (.bipush (-102), 2) := by decide +kernel
theorem dX10_peace_12 : decode cX10_peace 12 = .ok (.ireturn, 1) := by decide +kernel
theorem dX10_peace_13 : decode cX10_peace 13 = .ok (.aload_n 0, 1) := by decide +kernel
theorem dX10_peace_14 : decode cX10_peace 14 = .ok (.invokevirtual 161, 3) := by decide +kernel
theorem dX10_peace_17 : decode cX10_peace 17 = .ok (.ifCond .eq 8, 3) := by decide +kernel
theorem dX10_peace_20 : decode cX10_peace 20 = .ok (.bipush (-103), 2) := by decide +kernel
theorem dX10_peace_22 : decode cX10_peace 22 = .ok (.goto 8, 3) := by decide +kernel
theorem dX10_peace_25 : decode cX10_peace 25 = .ok (.aload_n 0, 1) := by decide +kernel
theorem dX10_peace_26 : decode cX10_peace 26 = .ok (.iload_n 1, 1) := by decide +kernel
theorem dX10_peace_27 : decode cX10_peace 27 = .ok (.invokevirtual 202, 3) := by decide +kernel
theorem dX10_peace_30 : decode cX10_peace 30 = .ok (.ireturn, 1) := by decide +kernel
theorem dX10_oddsOf_0 : decode cX10_oddsOf 0 = .ok (.iconst 0, 1) := by decide +kernel
theorem dX10_oddsOf_1 : decode cX10_oddsOf 1 = .ok (.istore 4, 2) := by decide +kernel
theorem dX10_oddsOf_3 : decode cX10_oddsOf 3 = .ok (.iconst 0, 1) := by decide +kernel
theorem dX10_oddsOf_4 : decode cX10_oddsOf 4 = .ok (.istore 5, 2) := by decide +kernel
theorem dX10_oddsOf_6 : decode cX10_oddsOf 6 = .ok (.iconst 0, 1) := by decide +kernel
theorem dX10_oddsOf_7 : decode cX10_oddsOf 7 = .ok (.istore 6, 2) := by decide +kernel
theorem dX10_oddsOf_9 : decode cX10_oddsOf 9 = .ok (.iload 6, 2) := by decide +kernel
theorem dX10_oddsOf_11 : decode cX10_oddsOf 11 = .ok (.iconst 1, 1) := by decide +kernel
theorem dX10_oddsOf_12 : decode cX10_oddsOf 12 = .ok (.aload_n 0, 1) := by decide +kernel
theorem dX10_oddsOf_13 : decode cX10_oddsOf 13 = .ok (.getfield 106, 3) := by decide +kernel
theorem dX10_oddsOf_16 : decode cX10_oddsOf 16 = .ok (.ishl, 1) := by decide +kernel
theorem dX10_oddsOf_17 : decode cX10_oddsOf 17 = .ok (.if_icmp .ge 121, 3) := by decide +kernel
theorem dX10_oddsOf_20 : decode cX10_oddsOf 20 = .ok (.iload 6, 2) := by decide +kernel
theorem dX10_oddsOf_22 : decode cX10_oddsOf 22 = .ok (.aload_n 0, 1) := by decide +kernel
theorem dX10_oddsOf_23 : decode cX10_oddsOf 23 = .ok (.getfield 109, 3) := by decide +kernel
theorem dX10_oddsOf_26 : decode cX10_oddsOf 26 = .ok (.iand, 1) := by decide +kernel
theorem dX10_oddsOf_27 : decode cX10_oddsOf 27 = .ok (.ifCond .ne 7, 3) := by decide +kernel
theorem dX10_oddsOf_30 : decode cX10_oddsOf 30 = .ok (.iconst 1, 1) := by decide +kernel
theorem dX10_oddsOf_31 : decode cX10_oddsOf 31 = .ok (.goto 4, 3) := by decide +kernel
theorem dX10_oddsOf_34 : decode cX10_oddsOf 34 = .ok (.iconst 0, 1) := by decide +kernel
theorem dX10_oddsOf_35 : decode cX10_oddsOf 35 = .ok (.istore 7, 2) := by decide +kernel
theorem dX10_oddsOf_37 : decode cX10_oddsOf 37 = .ok (.iconst 0, 1) := by decide +kernel
theorem dX10_oddsOf_38 : decode cX10_oddsOf 38 = .ok (.istore 8, 2) := by decide +kernel
theorem dX10_oddsOf_40 : decode cX10_oddsOf 40 = .ok (.iload 8, 2) := by decide +kernel
theorem dX10_oddsOf_42 : decode cX10_oddsOf 42 = .ok (.aload_n 0, 1) := by decide +kernel
theorem dX10_oddsOf_43 : decode cX10_oddsOf 43 = .ok (.getfield 106, 3) := by decide +kernel
theorem dX10_oddsOf_46 : decode cX10_oddsOf 46 = .ok (.if_icmp .ge 45, 3) := by decide +kernel
theorem dX10_oddsOf_49 : decode cX10_oddsOf 49 = .ok (.aload_n 0, 1) := by decide +kernel
theorem dX10_oddsOf_50 : decode cX10_oddsOf 50 = .ok (.getfield 109, 3) := by decide +kernel
theorem dX10_oddsOf_53 : decode cX10_oddsOf 53 = .ok (.iload 8, 2) := by decide +kernel
theorem dX10_oddsOf_55 : decode cX10_oddsOf 55 = .ok (.ishr, 1) := by decide +kernel
theorem dX10_oddsOf_56 : decode cX10_oddsOf 56 = .ok (.iconst 1, 1) := by decide +kernel
theorem dX10_oddsOf_57 : decode cX10_oddsOf 57 = .ok (.iand, 1) := by decide +kernel
theorem dX10_oddsOf_58 : decode cX10_oddsOf 58 = .ok (.ifCond .ne 27, 3) := by decide +kernel
theorem dX10_oddsOf_61 : decode cX10_oddsOf 61 = .ok (.iload 7, 2) := by decide +kernel
theorem dX10_oddsOf_63 : decode cX10_oddsOf 63 = .ok (.iload 6, 2) := by decide +kernel
theorem dX10_oddsOf_65 : decode cX10_oddsOf 65 = .ok (.iload 8, 2) := by decide +kernel
theorem dX10_oddsOf_67 : decode cX10_oddsOf 67 = .ok (.ishr, 1) := by decide +kernel
theorem dX10_oddsOf_68 : decode cX10_oddsOf 68 = .ok (.iconst 1, 1) := by decide +kernel
theorem dX10_oddsOf_69 : decode cX10_oddsOf 69 = .ok (.iand, 1) := by decide +kernel
theorem dX10_oddsOf_70 : decode cX10_oddsOf 70 = .ok (.iconst 1, 1) := by decide +kernel
theorem dX10_oddsOf_71 : decode cX10_oddsOf 71 = .ok (.if_icmp .ne 7, 3) := by decide +kernel
theorem dX10_oddsOf_74 : decode cX10_oddsOf 74 = .ok (.iload_n 2, 1) := by decide +kernel
theorem dX10_oddsOf_75 : decode cX10_oddsOf 75 = .ok (.goto 7, 3) := by decide +kernel
theorem dX10_oddsOf_78 : decode cX10_oddsOf 78 = .ok (.bipush 10, 2) := by decide +kernel
theorem dX10_oddsOf_80 : decode cX10_oddsOf 80 = .ok (.iload_n 2, 1) := by decide +kernel
theorem dX10_oddsOf_81 : decode cX10_oddsOf 81 = .ok (.isub, 1) := by decide +kernel
theorem dX10_oddsOf_82 : decode cX10_oddsOf 82 = .ok (.imul, 1) := by decide +kernel
theorem dX10_oddsOf_83 : decode cX10_oddsOf 83 = .ok (.istore 7, 2) := by decide +kernel
theorem dX10_oddsOf_85 : decode cX10_oddsOf 85 = .ok (.iinc 8 1, 3) := by decide +kernel
theorem dX10_oddsOf_88 : decode cX10_oddsOf 88 = .ok (.goto (-48), 3) := by decide +kernel
theorem dX10_oddsOf_91 : decode cX10_oddsOf 91 = .ok (.iload 5, 2) := by decide +kernel
theorem dX10_oddsOf_93 : decode cX10_oddsOf 93 = .ok (.iload 7, 2) := by decide +kernel
theorem dX10_oddsOf_95 : decode cX10_oddsOf 95 = .ok (.iadd, 1) := by decide +kernel
theorem dX10_oddsOf_96 : decode cX10_oddsOf 96 = .ok (.istore 5, 2) := by decide +kernel
theorem dX10_oddsOf_98 : decode cX10_oddsOf 98 = .ok (.iload 4, 2) := by decide +kernel
theorem dX10_oddsOf_100 : decode cX10_oddsOf 100 = .ok (.aload_n 0, 1) := by decide +kernel
theorem dX10_oddsOf_101 : decode cX10_oddsOf 101 = .ok (.aload_n 0, 1) := by decide +kernel
theorem dX10_oddsOf_102 : decode cX10_oddsOf 102 = .ok (.getfield 109, 3) := by decide +kernel
theorem dX10_oddsOf_105 : decode cX10_oddsOf 105 = .ok (.iload 6, 2) := by decide +kernel
theorem dX10_oddsOf_107 : decode cX10_oddsOf 107 = .ok (.ior, 1) := by decide +kernel
theorem dX10_oddsOf_108 : decode cX10_oddsOf 108 = .ok (.aload_n 0, 1) := by decide +kernel
theorem dX10_oddsOf_109 : decode cX10_oddsOf 109 = .ok (.getfield 100, 3) := by decide +kernel
theorem dX10_oddsOf_112 : decode cX10_oddsOf 112 = .ok (.invokevirtual 125, 3) := by decide +kernel
theorem dX10_oddsOf_115 : decode cX10_oddsOf 115 = .ok (.iload_n 1, 1) := by decide +kernel
theorem dX10_oddsOf_116 : decode cX10_oddsOf 116 = .ok (.ishr, 1) := by decide +kernel
theorem dX10_oddsOf_117 : decode cX10_oddsOf 117 = .ok (.iconst 1, 1) := by decide +kernel
theorem dX10_oddsOf_118 : decode cX10_oddsOf 118 = .ok (.iand, 1) := by decide +kernel
theorem dX10_oddsOf_119 : decode cX10_oddsOf 119 = .ok (.iconst 1, 1) := by decide +kernel
theorem dX10_oddsOf_120 : decode cX10_oddsOf 120 = .ok (.if_icmp .ne 8, 3) := by decide +kernel
theorem dX10_oddsOf_123 : decode cX10_oddsOf 123 = .ok (.iload 7, 2) := by decide +kernel
theorem dX10_oddsOf_125 : decode cX10_oddsOf 125 = .ok (.goto 4, 3) := by decide +kernel
theorem dX10_oddsOf_128 : decode cX10_oddsOf 128 = .ok (.iconst 0, 1) := by decide +kernel
theorem dX10_oddsOf_129 : decode cX10_oddsOf 129 = .ok (.iadd, 1) := by decide +kernel
theorem dX10_oddsOf_130 : decode cX10_oddsOf 130 = .ok (.istore 4, 2) := by decide +kernel
theorem dX10_oddsOf_132 : decode cX10_oddsOf 132 = .ok (.iinc 6 1, 3) := by decide +kernel
theorem dX10_oddsOf_135 : decode cX10_oddsOf 135 = .ok (.goto (-126), 3) := by decide +kernel
theorem dX10_oddsOf_138 : decode cX10_oddsOf 138 = .ok (.iload 5, 2) := by decide +kernel
theorem dX10_oddsOf_140 : decode cX10_oddsOf 140 = .ok (.istore 6, 2) := by decide +kernel
theorem dX10_oddsOf_142 : decode cX10_oddsOf 142 = .ok (.iload 4, 2) := by decide +kernel
theorem dX10_oddsOf_144 : decode cX10_oddsOf 144 = .ok (.istore 7, 2) := by decide +kernel
theorem dX10_oddsOf_146 : decode cX10_oddsOf 146 = .ok (.iload 7, 2) := by decide +kernel
theorem dX10_oddsOf_148 : decode cX10_oddsOf 148 = .ok (.ifCond .le 21, 3) := by decide +kernel
theorem dX10_oddsOf_151 : decode cX10_oddsOf 151 = .ok (.iload 6, 2) := by decide +kernel
theorem dX10_oddsOf_153 : decode cX10_oddsOf 153 = .ok (.iload 7, 2) := by decide +kernel
theorem dX10_oddsOf_155 : decode cX10_oddsOf 155 = .ok (.irem, 1) := by decide +kernel
theorem dX10_oddsOf_156 : decode cX10_oddsOf 156 = .ok (.istore 8, 2) := by decide +kernel
theorem dX10_oddsOf_158 : decode cX10_oddsOf 158 = .ok (.iload 7, 2) := by decide +kernel
theorem dX10_oddsOf_160 : decode cX10_oddsOf 160 = .ok (.istore 6, 2) := by decide +kernel
theorem dX10_oddsOf_162 : decode cX10_oddsOf 162 = .ok (.iload 8, 2) := by decide +kernel
theorem dX10_oddsOf_164 : decode cX10_oddsOf 164 = .ok (.istore 7, 2) := by decide +kernel
theorem dX10_oddsOf_166 : decode cX10_oddsOf 166 = .ok (.goto (-20), 3) := by decide +kernel
theorem dX10_oddsOf_169 : decode cX10_oddsOf 169 = .ok (.iload_n 3, 1) := by decide +kernel
theorem dX10_oddsOf_170 : decode cX10_oddsOf 170 = .ok (.ifCond .ne 11, 3) := by decide +kernel
theorem dX10_oddsOf_173 : decode cX10_oddsOf 173 = .ok (.iload 4, 2) := by decide +kernel
theorem dX10_oddsOf_175 : decode cX10_oddsOf 175 = .ok (.iload 6, 2) := by decide +kernel
theorem dX10_oddsOf_177 : decode cX10_oddsOf 177 = .ok (.idiv, 1) := by decide +kernel
theorem dX10_oddsOf_178 : decode cX10_oddsOf 178 = .ok (.goto 8, 3) := by decide +kernel
theorem dX10_oddsOf_181 : decode cX10_oddsOf 181 = .ok (.iload 5, 2) := by decide +kernel
theorem dX10_oddsOf_183 : decode cX10_oddsOf 183 = .ok (.iload 6, 2) := by decide +kernel
theorem dX10_oddsOf_185 : decode cX10_oddsOf 185 = .ok (.idiv, 1) := by decide +kernel
theorem dX10_oddsOf_186 : decode cX10_oddsOf 186 = .ok (.ireturn, 1) := by decide +kernel
theorem dX10_odds_0 : decode cX10_odds 0 = .ok (.aload_n 0, 1) := by decide +kernel
theorem dX10_odds_1 : decode cX10_odds 1 = .ok (.iload_n 1, 1) := by decide +kernel
theorem dX10_odds_2 : decode cX10_odds 2 = .ok (.invokevirtual 134, 3) := by decide +kernel
theorem dX10_odds_5 : decode cX10_odds 5 = .ok (.ifCond .ne 6, 3) := by decide +kernel
theorem dX10_odds_8 : decode cX10_odds 8 = .ok (.bipush (-101), 2) := by decide +kernel
theorem dX10_odds_10 : decode cX10_odds 10 = .ok (.ireturn, 1) := by decide +kernel
theorem dX10_odds_11 : decode cX10_odds 11 = .ok (.iload_n 2, 1) := by decide +kernel
theorem dX10_odds_12 : decode cX10_odds 12 = .ok (.i2l, 1) := by decide +kernel
theorem dX10_odds_13 : decode cX10_odds 13 = .ok (.lconst 0, 1) := by decide +kernel
theorem dX10_odds_14 : decode cX10_odds 14 = .ok (.ldc2_w 205, 3) := by decide +kernel
theorem dX10_odds_17 : decode cX10_odds 17 = .ok (.invokestatic 61, 3) := by decide +kernel
theorem dX10_odds_20 : decode cX10_odds 20 = .ok (.ifCond .eq 23, 3) := by decide +kernel
theorem dX10_odds_23 : decode cX10_odds 23 = .ok (.iload_n 3, 1) := by decide +kernel
theorem dX10_odds_24 : decode cX10_odds 24 = .ok (.i2l, 1) := by decide +kernel
theorem dX10_odds_25 : decode cX10_odds 25 = .ok (.lconst 0, 1) := by decide +kernel
theorem dX10_odds_26 : decode cX10_odds 26 = .ok (.lconst 1, 1) := by decide +kernel
theorem dX10_odds_27 : decode cX10_odds 27 = .ok (.invokestatic 61, 3) := by decide +kernel
theorem dX10_odds_30 : decode cX10_odds 30 = .ok (.ifCond .eq 13, 3) := by decide +kernel
theorem dX10_odds_33 : decode cX10_odds 33 = .ok (.aload_n 0, 1) := by decide +kernel
theorem dX10_odds_34 : decode cX10_odds 34 = .ok (.iload_n 1, 1) := by decide +kernel
theorem dX10_odds_35 : decode cX10_odds 35 = .ok (.iload_n 2, 1) := by decide +kernel
theorem dX10_odds_36 : decode cX10_odds 36 = .ok (.iload_n 3, 1) := by decide +kernel
theorem dX10_odds_37 : decode cX10_odds 37 = .ok (.invokevirtual 207, 3) := by decide +kernel
theorem dX10_odds_40 : decode cX10_odds 40 = .ok (.goto 5, 3) := by decide +kernel
theorem dX10_odds_43 : decode cX10_odds 43 = .ok (.bipush (-102), 2) := by decide +kernel
theorem dX10_odds_45 : decode cX10_odds 45 = .ok (.ireturn, 1) := by decide +kernel
theorem dX10_see_0 : decode cX10_see 0 = .ok (.aload_n 0, 1) := by decide +kernel
theorem dX10_see_1 : decode cX10_see 1 = .ok (.iload_n 1, 1) := by decide +kernel
theorem dX10_see_2 : decode cX10_see 2 = .ok (.invokevirtual 148, 3) := by decide +kernel
theorem dX10_see_5 : decode cX10_see 5 = .ok (.ifCond .ne 6, 3) := by decide +kernel
theorem dX10_see_8 : decode cX10_see 8 = .ok (.bipush (-101), 2) := by decide +kernel
theorem dX10_see_10 : decode cX10_see 10 = .ok (.ireturn, 1) := by decide +kernel
theorem dX10_see_11 : decode cX10_see 11 = .ok (.iload_n 2, 1) := by decide +kernel
theorem dX10_see_12 : decode cX10_see 12 = .ok (.i2l, 1) := by decide +kernel
theorem dX10_see_13 : decode cX10_see 13 = .ok (.lconst 1, 1) := by decide +kernel
theorem dX10_see_14 : decode cX10_see 14 = .ok (.ldc2_w 177, 3) := by decide +kernel
theorem dX10_see_17 : decode cX10_see 17 = .ok (.invokestatic 61, 3) := by decide +kernel
theorem dX10_see_20 : decode cX10_see 20 = .ok (.ifCond .ne 6, 3) := by decide +kernel
theorem dX10_see_23 : decode cX10_see 23 = .ok (.bipush (-102), 2) := by decide +kernel
theorem dX10_see_25 : decode cX10_see 25 = .ok (.ireturn, 1) := by decide +kernel
theorem dX10_see_26 : decode cX10_see 26 = .ok (.aload_n 0, 1) := by decide +kernel
theorem dX10_see_27 : decode cX10_see 27 = .ok (.getfield 115, 3) := by decide +kernel
theorem dX10_see_30 : decode cX10_see 30 = .ok (.bipush 6, 2) := by decide +kernel
theorem dX10_see_32 : decode cX10_see 32 = .ok (.if_icmp .ne 6, 3) := by decide +kernel
theorem dX10_see_35 : decode cX10_see 35 = .ok (.bipush (-104), 2) := by decide +kernel
theorem dX10_see_37 : decode cX10_see 37 = .ok (.ireturn, 1) := by decide +kernel
theorem dX10_see_38 : decode cX10_see 38 = .ok (.aload_n 0, 1) := by decide +kernel
theorem dX10_see_39 : decode cX10_see 39 = .ok (.getfield 37, 3) := by decide +kernel
theorem dX10_see_42 : decode cX10_see 42 = .ok (.iconst 3, 1) := by decide +kernel
theorem dX10_see_43 : decode cX10_see 43 = .ok (.aload_n 0, 1) := by decide +kernel
theorem dX10_see_44 : decode cX10_see 44 = .ok (.getfield 115, 3) := by decide +kernel
theorem dX10_see_47 : decode cX10_see 47 = .ok (.imul, 1) := by decide +kernel
theorem dX10_see_48 : decode cX10_see 48 = .ok (.iload_n 1, 1) := by decide +kernel
theorem dX10_see_49 : decode cX10_see 49 = .ok (.iastore, 1) := by decide +kernel
theorem dX10_see_50 : decode cX10_see 50 = .ok (.aload_n 0, 1) := by decide +kernel
theorem dX10_see_51 : decode cX10_see 51 = .ok (.getfield 37, 3) := by decide +kernel
theorem dX10_see_54 : decode cX10_see 54 = .ok (.iconst 3, 1) := by decide +kernel
theorem dX10_see_55 : decode cX10_see 55 = .ok (.aload_n 0, 1) := by decide +kernel
theorem dX10_see_56 : decode cX10_see 56 = .ok (.getfield 115, 3) := by decide +kernel
theorem dX10_see_59 : decode cX10_see 59 = .ok (.imul, 1) := by decide +kernel
theorem dX10_see_60 : decode cX10_see 60 = .ok (.iconst 1, 1) := by decide +kernel
theorem dX10_see_61 : decode cX10_see 61 = .ok (.iadd, 1) := by decide +kernel
theorem dX10_see_62 : decode cX10_see 62 = .ok (.iload_n 2, 1) := by decide +kernel
theorem dX10_see_63 : decode cX10_see 63 = .ok (.iastore, 1) := by decide +kernel
theorem dX10_see_64 : decode cX10_see 64 = .ok (.aload_n 0, 1) := by decide +kernel
theorem dX10_see_65 : decode cX10_see 65 = .ok (.getfield 37, 3) := by decide +kernel
theorem dX10_see_68 : decode cX10_see 68 = .ok (.iconst 3, 1) := by decide +kernel
theorem dX10_see_69 : decode cX10_see 69 = .ok (.aload_n 0, 1) := by decide +kernel
theorem dX10_see_70 : decode cX10_see 70 = .ok (.getfield 115, 3) := by decide +kernel
theorem dX10_see_73 : decode cX10_see 73 = .ok (.imul, 1) := by decide +kernel
theorem dX10_see_74 : decode cX10_see 74 = .ok (.iconst 2, 1) := by decide +kernel
theorem dX10_see_75 : decode cX10_see 75 = .ok (.iadd, 1) := by decide +kernel
theorem dX10_see_76 : decode cX10_see 76 = .ok (.iload_n 3, 1) := by decide +kernel
theorem dX10_see_77 : decode cX10_see 77 = .ok (.ifCond .eq 7, 3) := by decide +kernel
theorem dX10_see_80 : decode cX10_see 80 = .ok (.iconst 1, 1) := by decide +kernel
theorem dX10_see_81 : decode cX10_see 81 = .ok (.goto 4, 3) := by decide +kernel
theorem dX10_see_84 : decode cX10_see 84 = .ok (.iconst 0, 1) := by decide +kernel
theorem dX10_see_85 : decode cX10_see 85 = .ok (.iastore, 1) := by decide +kernel
theorem dX10_see_86 : decode cX10_see 86 = .ok (.aload_n 0, 1) := by decide +kernel
theorem dX10_see_87 : decode cX10_see 87 = .ok (.dup, 1) := by decide +kernel
theorem dX10_see_88 : decode cX10_see 88 = .ok (.getfield 115, 3) := by decide +kernel
theorem dX10_see_91 : decode cX10_see 91 = .ok (.iconst 1, 1) := by decide +kernel
theorem dX10_see_92 : decode cX10_see 92 = .ok (.iadd, 1) := by decide +kernel
theorem dX10_see_93 : decode cX10_see 93 = .ok (.putfield 115, 3) := by decide +kernel
theorem dX10_see_96 : decode cX10_see 96 = .ok (.aload_n 0, 1) := by decide +kernel
theorem dX10_see_97 : decode cX10_see 97 = .ok (.getfield 115, 3) := by decide +kernel
theorem dX10_see_100 : decode cX10_see 100 = .ok (.ireturn, 1) := by decide +kernel
theorem dX10_forget_0 : decode cX10_forget 0 = .ok (.aload_n 0, 1) := by decide +kernel
theorem dX10_forget_1 : decode cX10_forget 1 = .ok (.getfield 115, 3) := by decide +kernel
theorem dX10_forget_4 : decode cX10_forget 4 = .ok (.istore_n 1, 1) := by decide +kernel
theorem dX10_forget_5 : decode cX10_forget 5 = .ok (.aload_n 0, 1) := by decide +kernel
theorem dX10_forget_6 : decode cX10_forget 6 = .ok (.iconst 0, 1) := by decide +kernel
theorem dX10_forget_7 : decode cX10_forget 7 = .ok (.putfield 115, 3) := by decide +kernel
theorem dX10_forget_10 : decode cX10_forget 10 = .ok (.iload_n 1, 1) := by decide +kernel
theorem dX10_forget_11 : decode cX10_forget 11 = .ok (.ireturn, 1) := by decide +kernel
theorem dX10_sitsIf_0 : decode cX10_sitsIf 0 = .ok (.aload_n 0, 1) := by decide +kernel
theorem dX10_sitsIf_1 : decode cX10_sitsIf 1 = .ok (.getfield 28, 3) := by decide +kernel
theorem dX10_sitsIf_4 : decode cX10_sitsIf 4 = .ok (.iload_n 1, 1) := by decide +kernel
theorem dX10_sitsIf_5 : decode cX10_sitsIf 5 = .ok (.iaload, 1) := by decide +kernel
theorem dX10_sitsIf_6 : decode cX10_sitsIf 6 = .ok (.istore 4, 2) := by decide +kernel
theorem dX10_sitsIf_8 : decode cX10_sitsIf 8 = .ok (.aload_n 0, 1) := by decide +kernel
theorem dX10_sitsIf_9 : decode cX10_sitsIf 9 = .ok (.getfield 28, 3) := by decide +kernel
theorem dX10_sitsIf_12 : decode cX10_sitsIf 12 = .ok (.iload_n 1, 1) := by decide +kernel
theorem dX10_sitsIf_13 : decode cX10_sitsIf 13 = .ok (.iload_n 2, 1) := by decide +kernel
theorem dX10_sitsIf_14 : decode cX10_sitsIf 14 = .ok (.iastore, 1) := by decide +kernel
theorem dX10_sitsIf_15 : decode cX10_sitsIf 15 = .ok (.aload_n 0, 1) := by decide +kernel
theorem dX10_sitsIf_16 : decode cX10_sitsIf 16 = .ok (.aload_n 0, 1) := by decide +kernel
theorem dX10_sitsIf_17 : decode cX10_sitsIf 17 = .ok (.getfield 109, 3) := by decide +kernel
theorem dX10_sitsIf_20 : decode cX10_sitsIf 20 = .ok (.iload_n 3, 1) := by decide +kernel
theorem dX10_sitsIf_21 : decode cX10_sitsIf 21 = .ok (.invokevirtual 125, 3) := by decide +kernel
theorem dX10_sitsIf_24 : decode cX10_sitsIf 24 = .ok (.aload_n 0, 1) := by decide +kernel
theorem dX10_sitsIf_25 : decode cX10_sitsIf 25 = .ok (.getfield 22, 3) := by decide +kernel
theorem dX10_sitsIf_28 : decode cX10_sitsIf 28 = .ok (.iload_n 1, 1) := by decide +kernel
theorem dX10_sitsIf_29 : decode cX10_sitsIf 29 = .ok (.iaload, 1) := by decide +kernel
theorem dX10_sitsIf_30 : decode cX10_sitsIf 30 = .ok (.ishr, 1) := by decide +kernel
theorem dX10_sitsIf_31 : decode cX10_sitsIf 31 = .ok (.iconst 1, 1) := by decide +kernel
theorem dX10_sitsIf_32 : decode cX10_sitsIf 32 = .ok (.iand, 1) := by decide +kernel
theorem dX10_sitsIf_33 : decode cX10_sitsIf 33 = .ok (.istore 5, 2) := by decide +kernel
theorem dX10_sitsIf_35 : decode cX10_sitsIf 35 = .ok (.aload_n 0, 1) := by decide +kernel
theorem dX10_sitsIf_36 : decode cX10_sitsIf 36 = .ok (.getfield 28, 3) := by decide +kernel
theorem dX10_sitsIf_39 : decode cX10_sitsIf 39 = .ok (.iload_n 1, 1) := by decide +kernel
theorem dX10_sitsIf_40 : decode cX10_sitsIf 40 = .ok (.iload 4, 2) := by decide +kernel
theorem dX10_sitsIf_42 : decode cX10_sitsIf 42 = .ok (.iastore, 1) := by decide +kernel
theorem dX10_sitsIf_43 : decode cX10_sitsIf 43 = .ok (.iload 5, 2) := by decide +kernel
theorem dX10_sitsIf_45 : decode cX10_sitsIf 45 = .ok (.ireturn, 1) := by decide +kernel
theorem dX10_gravesOf_0 : decode cX10_gravesOf 0 = .ok (.iconst 0, 1) := by decide +kernel
theorem dX10_gravesOf_1 : decode cX10_gravesOf 1 = .ok (.istore_n 2, 1) := by decide +kernel
theorem dX10_gravesOf_2 : decode cX10_gravesOf 2 = .ok (.iconst 1, 1) := by decide +kernel
theorem dX10_gravesOf_3 : decode cX10_gravesOf 3 = .ok (.istore_n 3, 1) := by decide +kernel
theorem dX10_gravesOf_4 : decode cX10_gravesOf 4 = .ok (.iload_n 3, 1) := by decide +kernel
theorem dX10_gravesOf_5 : decode cX10_gravesOf 5 = .ok (.bipush 10, 2) := by decide +kernel
theorem dX10_gravesOf_7 : decode cX10_gravesOf 7 = .ok (.if_icmp .ge 99, 3) := by decide +kernel
theorem dX10_gravesOf_10 : decode cX10_gravesOf 10 = .ok (.iconst 1, 1) := by decide +kernel
theorem dX10_gravesOf_11 : decode cX10_gravesOf 11 = .ok (.istore 4, 2) := by decide +kernel
theorem dX10_gravesOf_13 : decode cX10_gravesOf 13 = .ok (.iconst 0, 1) := by decide +kernel
theorem dX10_gravesOf_14 : decode cX10_gravesOf 14 = .ok (.istore 5, 2) := by decide +kernel
theorem dX10_gravesOf_16 : decode cX10_gravesOf 16 = .ok (.iload 5, 2) := by decide +kernel
theorem dX10_gravesOf_18 : decode cX10_gravesOf 18 = .ok (.iconst 3, 1) := by decide +kernel
theorem dX10_gravesOf_19 : decode cX10_gravesOf 19 = .ok (.aload_n 0, 1) := by decide +kernel
theorem dX10_gravesOf_20 : decode cX10_gravesOf 20 = .ok (.getfield 115, 3) := by decide +kernel
theorem dX10_gravesOf_23 : decode cX10_gravesOf 23 = .ok (.imul, 1) := by decide +kernel
theorem dX10_gravesOf_24 : decode cX10_gravesOf 24 = .ok (.if_icmp .ge 59, 3) := by decide +kernel
end
section
theorem dX10_gravesOf_27 : decode cX10_gravesOf 27 = .ok (.iload 4, 2) := by decide +kernel
theorem dX10_gravesOf_29 : decode cX10_gravesOf 29 = .ok (.ifCond .eq 45, 3) := by decide +kernel
theorem dX10_gravesOf_32 : decode cX10_gravesOf 32 = .ok (.aload_n 0, 1) := by decide +kernel
theorem dX10_gravesOf_33 : decode cX10_gravesOf 33 = .ok (.getfield 37, 3) := by decide +kernel
theorem dX10_gravesOf_36 : decode cX10_gravesOf 36 = .ok (.iload 5, 2) := by decide +kernel
theorem dX10_gravesOf_38 : decode cX10_gravesOf 38 = .ok (.iaload, 1) := by decide +kernel
theorem dX10_gravesOf_39 : decode cX10_gravesOf 39 = .ok (.iload_n 1, 1) := by decide +kernel
theorem dX10_gravesOf_40 : decode cX10_gravesOf 40 = .ok (.if_icmp .ne 30, 3) := by decide +kernel
theorem dX10_gravesOf_43 : decode cX10_gravesOf 43 = .ok (.aload_n 0, 1) := by decide +kernel
theorem dX10_gravesOf_44 : decode cX10_gravesOf 44 = .ok (.iload_n 1, 1) := by decide +kernel
theorem dX10_gravesOf_45 : decode cX10_gravesOf 45 = .ok (.iload_n 3, 1) := by decide +kernel
theorem dX10_gravesOf_46 : decode cX10_gravesOf 46 = .ok (.aload_n 0, 1) := by decide +kernel
theorem dX10_gravesOf_47 : decode cX10_gravesOf 47 = .ok (.getfield 37, 3) := by decide +kernel
theorem dX10_gravesOf_50 : decode cX10_gravesOf 50 = .ok (.iload 5, 2) := by decide +kernel
theorem dX10_gravesOf_52 : decode cX10_gravesOf 52 = .ok (.iconst 1, 1) := by decide +kernel
theorem dX10_gravesOf_53 : decode cX10_gravesOf 53 = .ok (.iadd, 1) := by decide +kernel
theorem dX10_gravesOf_54 : decode cX10_gravesOf 54 = .ok (.iaload, 1) := by decide +kernel
theorem dX10_gravesOf_55 : decode cX10_gravesOf 55 = .ok (.invokevirtual 210, 3) := by decide +kernel
theorem dX10_gravesOf_58 : decode cX10_gravesOf 58 = .ok (.aload_n 0, 1) := by decide +kernel
theorem dX10_gravesOf_59 : decode cX10_gravesOf 59 = .ok (.getfield 37, 3) := by decide +kernel
theorem dX10_gravesOf_62 : decode cX10_gravesOf 62 = .ok (.iload 5, 2) := by decide +kernel
theorem dX10_gravesOf_64 : decode cX10_gravesOf 64 = .ok (.iconst 2, 1) := by decide +kernel
theorem dX10_gravesOf_65 : decode cX10_gravesOf 65 = .ok (.iadd, 1) := by decide +kernel
theorem dX10_gravesOf_66 : decode cX10_gravesOf 66 = .ok (.iaload, 1) := by decide +kernel
theorem dX10_gravesOf_67 : decode cX10_gravesOf 67 = .ok (.if_icmp .ne 7, 3) := by decide +kernel
theorem dX10_gravesOf_70 : decode cX10_gravesOf 70 = .ok (.iconst 1, 1) := by decide +kernel
theorem dX10_gravesOf_71 : decode cX10_gravesOf 71 = .ok (.goto 4, 3) := by decide +kernel
theorem dX10_gravesOf_74 : decode cX10_gravesOf 74 = .ok (.iconst 0, 1) := by decide +kernel
theorem dX10_gravesOf_75 : decode cX10_gravesOf 75 = .ok (.istore 4, 2) := by decide +kernel
theorem dX10_gravesOf_77 : decode cX10_gravesOf 77 = .ok (.iinc 5 3, 3) := by decide +kernel
theorem dX10_gravesOf_80 : decode cX10_gravesOf 80 = .ok (.goto (-64), 3) := by decide +kernel
theorem dX10_gravesOf_83 : decode cX10_gravesOf 83 = .ok (.iload_n 2, 1) := by decide +kernel
theorem dX10_gravesOf_84 : decode cX10_gravesOf 84 = .ok (.iload 4, 2) := by decide +kernel
theorem dX10_gravesOf_86 : decode cX10_gravesOf 86 = .ok (.ifCond .eq 11, 3) := by decide +kernel
theorem dX10_gravesOf_89 : decode cX10_gravesOf 89 = .ok (.iconst 1, 1) := by decide +kernel
theorem dX10_gravesOf_90 : decode cX10_gravesOf 90 = .ok (.iload_n 3, 1) := by decide +kernel
theorem dX10_gravesOf_91 : decode cX10_gravesOf 91 = .ok (.iconst 1, 1) := by decide +kernel
theorem dX10_gravesOf_92 : decode cX10_gravesOf 92 = .ok (.isub, 1) := by decide +kernel
theorem dX10_gravesOf_93 : decode cX10_gravesOf 93 = .ok (.ishl, 1) := by decide +kernel
theorem dX10_gravesOf_94 : decode cX10_gravesOf 94 = .ok (.goto 4, 3) := by decide +kernel
theorem dX10_gravesOf_97 : decode cX10_gravesOf 97 = .ok (.iconst 0, 1) := by decide +kernel
theorem dX10_gravesOf_98 : decode cX10_gravesOf 98 = .ok (.ior, 1) := by decide +kernel
theorem dX10_gravesOf_99 : decode cX10_gravesOf 99 = .ok (.istore_n 2, 1) := by decide +kernel
theorem dX10_gravesOf_100 : decode cX10_gravesOf 100 = .ok (.iinc 3 1, 3) := by decide +kernel
theorem dX10_gravesOf_103 : decode cX10_gravesOf 103 = .ok (.goto (-99), 3) := by decide +kernel
theorem dX10_gravesOf_106 : decode cX10_gravesOf 106 = .ok (.iload_n 2, 1) := by decide +kernel
theorem dX10_gravesOf_107 : decode cX10_gravesOf 107 = .ok (.ireturn, 1) := by decide +kernel
theorem dX10_lookOf_0 : decode cX10_lookOf 0 = .ok (.aload_n 0, 1) := by decide +kernel
theorem dX10_lookOf_1 : decode cX10_lookOf 1 = .ok (.iload_n 1, 1) := by decide +kernel
theorem dX10_lookOf_2 : decode cX10_lookOf 2 = .ok (.invokevirtual 142, 3) := by decide +kernel
theorem dX10_lookOf_5 : decode cX10_lookOf 5 = .ok (.istore_n 2, 1) := by decide +kernel
theorem dX10_lookOf_6 : decode cX10_lookOf 6 = .ok (.iconst (-1), 1) := by decide +kernel
theorem dX10_lookOf_7 : decode cX10_lookOf 7 = .ok (.istore_n 3, 1) := by decide +kernel
theorem dX10_lookOf_8 : decode cX10_lookOf 8 = .ok (.bipush 10, 2) := by decide +kernel
theorem dX10_lookOf_10 : decode cX10_lookOf 10 = .ok (.istore 4, 2) := by decide +kernel
theorem dX10_lookOf_12 : decode cX10_lookOf 12 = .ok (.iconst 1, 1) := by decide +kernel
theorem dX10_lookOf_13 : decode cX10_lookOf 13 = .ok (.istore 5, 2) := by decide +kernel
theorem dX10_lookOf_15 : decode cX10_lookOf 15 = .ok (.iload 5, 2) := by decide +kernel
theorem dX10_lookOf_17 : decode cX10_lookOf 17 = .ok (.bipush 7, 2) := by decide +kernel
theorem dX10_lookOf_19 : decode cX10_lookOf 19 = .ok (.if_icmp .ge 129, 3) := by decide +kernel
theorem dX10_lookOf_22 : decode cX10_lookOf 22 = .ok (.iload_n 2, 1) := by decide +kernel
theorem dX10_lookOf_23 : decode cX10_lookOf 23 = .ok (.ifCond .eq 125, 3) := by decide +kernel
theorem dX10_lookOf_26 : decode cX10_lookOf 26 = .ok (.iconst 0, 1) := by decide +kernel
theorem dX10_lookOf_27 : decode cX10_lookOf 27 = .ok (.istore 6, 2) := by decide +kernel
theorem dX10_lookOf_29 : decode cX10_lookOf 29 = .ok (.iconst 0, 1) := by decide +kernel
theorem dX10_lookOf_30 : decode cX10_lookOf 30 = .ok (.istore 7, 2) := by decide +kernel
theorem dX10_lookOf_32 : decode cX10_lookOf 32 = .ok (.iconst 1, 1) := by decide +kernel
theorem dX10_lookOf_33 : decode cX10_lookOf 33 = .ok (.istore 8, 2) := by decide +kernel
theorem dX10_lookOf_35 : decode cX10_lookOf 35 = .ok (.iload 8, 2) := by decide +kernel
theorem dX10_lookOf_37 : decode cX10_lookOf 37 = .ok (.bipush 10, 2) := by decide +kernel
theorem dX10_lookOf_39 : decode cX10_lookOf 39 = .ok (.if_icmp .ge 57, 3) := by decide +kernel
theorem dX10_lookOf_42 : decode cX10_lookOf 42 = .ok (.iload_n 2, 1) := by decide +kernel
theorem dX10_lookOf_43 : decode cX10_lookOf 43 = .ok (.iload 8, 2) := by decide +kernel
theorem dX10_lookOf_45 : decode cX10_lookOf 45 = .ok (.iconst 1, 1) := by decide +kernel
theorem dX10_lookOf_46 : decode cX10_lookOf 46 = .ok (.isub, 1) := by decide +kernel
theorem dX10_lookOf_47 : decode cX10_lookOf 47 = .ok (.ishr, 1) := by decide +kernel
theorem dX10_lookOf_48 : decode cX10_lookOf 48 = .ok (.iconst 1, 1) := by decide +kernel
theorem dX10_lookOf_49 : decode cX10_lookOf 49 = .ok (.iand, 1) := by decide +kernel
theorem dX10_lookOf_50 : decode cX10_lookOf 50 = .ok (.istore 9, 2) := by decide +kernel
theorem dX10_lookOf_52 : decode cX10_lookOf 52 = .ok (.iload 9, 2) := by decide +kernel
theorem dX10_lookOf_54 : decode cX10_lookOf 54 = .ok (.iconst 1, 1) := by decide +kernel
theorem dX10_lookOf_55 : decode cX10_lookOf 55 = .ok (.if_icmp .ne 15, 3) := by decide +kernel
theorem dX10_lookOf_58 : decode cX10_lookOf 58 = .ok (.aload_n 0, 1) := by decide +kernel
theorem dX10_lookOf_59 : decode cX10_lookOf 59 = .ok (.iload_n 1, 1) := by decide +kernel
theorem dX10_lookOf_60 : decode cX10_lookOf 60 = .ok (.iload 8, 2) := by decide +kernel
theorem dX10_lookOf_62 : decode cX10_lookOf 62 = .ok (.iload 5, 2) := by decide +kernel
theorem dX10_lookOf_64 : decode cX10_lookOf 64 = .ok (.invokevirtual 210, 3) := by decide +kernel
theorem dX10_lookOf_67 : decode cX10_lookOf 67 = .ok (.goto 4, 3) := by decide +kernel
theorem dX10_lookOf_70 : decode cX10_lookOf 70 = .ok (.iconst 0, 1) := by decide +kernel
theorem dX10_lookOf_71 : decode cX10_lookOf 71 = .ok (.istore 10, 2) := by decide +kernel
theorem dX10_lookOf_73 : decode cX10_lookOf 73 = .ok (.iload 6, 2) := by decide +kernel
theorem dX10_lookOf_75 : decode cX10_lookOf 75 = .ok (.iload 10, 2) := by decide +kernel
theorem dX10_lookOf_77 : decode cX10_lookOf 77 = .ok (.iadd, 1) := by decide +kernel
theorem dX10_lookOf_78 : decode cX10_lookOf 78 = .ok (.istore 6, 2) := by decide +kernel
theorem dX10_lookOf_80 : decode cX10_lookOf 80 = .ok (.iload 7, 2) := by decide +kernel
theorem dX10_lookOf_82 : decode cX10_lookOf 82 = .ok (.iload 9, 2) := by decide +kernel
theorem dX10_lookOf_84 : decode cX10_lookOf 84 = .ok (.iload 10, 2) := by decide +kernel
theorem dX10_lookOf_86 : decode cX10_lookOf 86 = .ok (.isub, 1) := by decide +kernel
theorem dX10_lookOf_87 : decode cX10_lookOf 87 = .ok (.iadd, 1) := by decide +kernel
theorem dX10_lookOf_88 : decode cX10_lookOf 88 = .ok (.istore 7, 2) := by decide +kernel
theorem dX10_lookOf_90 : decode cX10_lookOf 90 = .ok (.iinc 8 1, 3) := by decide +kernel
theorem dX10_lookOf_93 : decode cX10_lookOf 93 = .ok (.goto (-58), 3) := by decide +kernel
theorem dX10_lookOf_96 : decode cX10_lookOf 96 = .ok (.iload 6, 2) := by decide +kernel
theorem dX10_lookOf_98 : decode cX10_lookOf 98 = .ok (.iload 7, 2) := by decide +kernel
theorem dX10_lookOf_100 : decode cX10_lookOf 100 = .ok (.if_icmp .le 8, 3) := by decide +kernel
theorem dX10_lookOf_103 : decode cX10_lookOf 103 = .ok (.iload 6, 2) := by decide +kernel
theorem dX10_lookOf_105 : decode cX10_lookOf 105 = .ok (.goto 5, 3) := by decide +kernel
theorem dX10_lookOf_108 : decode cX10_lookOf 108 = .ok (.iload 7, 2) := by decide +kernel
theorem dX10_lookOf_110 : decode cX10_lookOf 110 = .ok (.istore 8, 2) := by decide +kernel
theorem dX10_lookOf_112 : decode cX10_lookOf 112 = .ok (.iload 8, 2) := by decide +kernel
theorem dX10_lookOf_114 : decode cX10_lookOf 114 = .ok (.iload 4, 2) := by decide +kernel
theorem dX10_lookOf_116 : decode cX10_lookOf 116 = .ok (.if_icmp .ge 8, 3) := by decide +kernel
theorem dX10_lookOf_119 : decode cX10_lookOf 119 = .ok (.iload 5, 2) := by decide +kernel
theorem dX10_lookOf_121 : decode cX10_lookOf 121 = .ok (.goto 4, 3) := by decide +kernel
theorem dX10_lookOf_124 : decode cX10_lookOf 124 = .ok (.iload_n 3, 1) := by decide +kernel
theorem dX10_lookOf_125 : decode cX10_lookOf 125 = .ok (.istore_n 3, 1) := by decide +kernel
theorem dX10_lookOf_126 : decode cX10_lookOf 126 = .ok (.iload 8, 2) := by decide +kernel
theorem dX10_lookOf_128 : decode cX10_lookOf 128 = .ok (.iload 4, 2) := by decide +kernel
theorem dX10_lookOf_130 : decode cX10_lookOf 130 = .ok (.if_icmp .ge 8, 3) := by decide +kernel
theorem dX10_lookOf_133 : decode cX10_lookOf 133 = .ok (.iload 8, 2) := by decide +kernel
theorem dX10_lookOf_135 : decode cX10_lookOf 135 = .ok (.goto 5, 3) := by decide +kernel
theorem dX10_lookOf_138 : decode cX10_lookOf 138 = .ok (.iload 4, 2) := by decide +kernel
theorem dX10_lookOf_140 : decode cX10_lookOf 140 = .ok (.istore 4, 2) := by decide +kernel
theorem dX10_lookOf_142 : decode cX10_lookOf 142 = .ok (.iinc 5 1, 3) := by decide +kernel
theorem dX10_lookOf_145 : decode cX10_lookOf 145 = .ok (.goto (-130), 3) := by decide +kernel
theorem dX10_lookOf_148 : decode cX10_lookOf 148 = .ok (.iload_n 3, 1) := by decide +kernel
theorem dX10_lookOf_149 : decode cX10_lookOf 149 = .ok (.ireturn, 1) := by decide +kernel
theorem dX10_draw_0 : decode cX10_draw 0 = .ok (.aload_n 0, 1) := by decide +kernel
theorem dX10_draw_1 : decode cX10_draw 1 = .ok (.ldc2_w 213, 3) := by decide +kernel
theorem dX10_draw_4 : decode cX10_draw 4 = .ok (.aload_n 0, 1) := by decide +kernel
theorem dX10_draw_5 : decode cX10_draw 5 = .ok (.getfield 215, 3) := by decide +kernel
theorem dX10_draw_8 : decode cX10_draw 8 = .ok (.i2l, 1) := by decide +kernel
theorem dX10_draw_9 : decode cX10_draw 9 = .ok (.lmul, 1) := by decide +kernel
theorem dX10_draw_10 : decode cX10_draw 10 = .ok (.ldc2_w 218, 3) := by decide +kernel
theorem dX10_draw_13 : decode cX10_draw 13 = .ok (.ladd, 1) := by decide +kernel
theorem dX10_draw_14 : decode cX10_draw 14 = .ok (.ldc2_w 220, 3) := by decide +kernel
theorem dX10_draw_17 : decode cX10_draw 17 = .ok (.land, 1) := by decide +kernel
theorem dX10_draw_18 : decode cX10_draw 18 = .ok (.l2i, 1) := by decide +kernel
theorem dX10_draw_19 : decode cX10_draw 19 = .ok (.putfield 215, 3) := by decide +kernel
theorem dX10_draw_22 : decode cX10_draw 22 = .ok (.aload_n 0, 1) := by decide +kernel
theorem dX10_draw_23 : decode cX10_draw 23 = .ok (.getfield 215, 3) := by decide +kernel
theorem dX10_draw_26 : decode cX10_draw 26 = .ok (.ldc 222, 2) := by decide +kernel
theorem dX10_draw_28 : decode cX10_draw 28 = .ok (.idiv, 1) := by decide +kernel
theorem dX10_draw_29 : decode cX10_draw 29 = .ok (.iload_n 1, 1) := by decide +kernel
theorem dX10_draw_30 : decode cX10_draw 30 = .ok (.irem, 1) := by decide +kernel
theorem dX10_draw_31 : decode cX10_draw 31 = .ok (.ireturn, 1) := by decide +kernel
theorem dX10_warmAll_0 : decode cX10_warmAll 0 = .ok (.iconst 0, 1) := by decide +kernel
theorem dX10_warmAll_1 : decode cX10_warmAll 1 = .ok (.istore_n 2, 1) := by decide +kernel
theorem dX10_warmAll_2 : decode cX10_warmAll 2 = .ok (.iconst 0, 1) := by decide +kernel
theorem dX10_warmAll_3 : decode cX10_warmAll 3 = .ok (.istore_n 3, 1) := by decide +kernel
theorem dX10_warmAll_4 : decode cX10_warmAll 4 = .ok (.iload_n 3, 1) := by decide +kernel
theorem dX10_warmAll_5 : decode cX10_warmAll 5 = .ok (.aload_n 0, 1) := by decide +kernel
theorem dX10_warmAll_6 : decode cX10_warmAll 6 = .ok (.getfield 103, 3) := by decide +kernel
theorem dX10_warmAll_9 : decode cX10_warmAll 9 = .ok (.if_icmp .ge 15, 3) := by decide +kernel
theorem dX10_warmAll_12 : decode cX10_warmAll 12 = .ok (.iload_n 2, 1) := by decide +kernel
theorem dX10_warmAll_13 : decode cX10_warmAll 13 = .ok (.aload_n 1, 1) := by decide +kernel
theorem dX10_warmAll_14 : decode cX10_warmAll 14 = .ok (.iload_n 3, 1) := by decide +kernel
theorem dX10_warmAll_15 : decode cX10_warmAll 15 = .ok (.iaload, 1) := by decide +kernel
theorem dX10_warmAll_16 : decode cX10_warmAll 16 = .ok (.iadd, 1) := by decide +kernel
theorem dX10_warmAll_17 : decode cX10_warmAll 17 = .ok (.istore_n 2, 1) := by decide +kernel
theorem dX10_warmAll_18 : decode cX10_warmAll 18 = .ok (.iinc 3 1, 3) := by decide +kernel
theorem dX10_warmAll_21 : decode cX10_warmAll 21 = .ok (.goto (-17), 3) := by decide +kernel
theorem dX10_warmAll_24 : decode cX10_warmAll 24 = .ok (.iload_n 2, 1) := by decide +kernel
theorem dX10_warmAll_25 : decode cX10_warmAll 25 = .ok (.ireturn, 1) := by decide +kernel
theorem dX10_winters_0 : decode cX10_winters 0 = .ok (.iload_n 1, 1) := by decide +kernel
theorem dX10_winters_1 : decode cX10_winters 1 = .ok (.i2l, 1) := by decide +kernel
theorem dX10_winters_2 : decode cX10_winters 2 = .ok (.lconst 1, 1) := by decide +kernel
theorem dX10_winters_3 : decode cX10_winters 3 = .ok (.ldc2_w 223, 3) := by decide +kernel
theorem dX10_winters_6 : decode cX10_winters 6 = .ok (.invokestatic 61, 3) := by decide +kernel
theorem dX10_winters_9 : decode cX10_winters 9 = .ok (.ifCond .eq 19, 3) := by decide +kernel
theorem dX10_winters_12 : decode cX10_winters 12 = .ok (.iload_n 2, 1) := by decide +kernel
theorem dX10_winters_13 : decode cX10_winters 13 = .ok (.ifCond .lt 15, 3) := by decide +kernel
theorem dX10_winters_16 : decode cX10_winters 16 = .ok (.iload_n 3, 1) := by decide +kernel
theorem dX10_winters_17 : decode cX10_winters 17 = .ok (.i2l, 1) := by decide +kernel
theorem dX10_winters_18 : decode cX10_winters 18 = .ok (.lconst 0, 1) := by decide +kernel
theorem dX10_winters_19 : decode cX10_winters 19 = .ok (.ldc2_w 191, 3) := by decide +kernel
theorem dX10_winters_22 : decode cX10_winters 22 = .ok (.invokestatic 61, 3) := by decide +kernel
theorem dX10_winters_25 : decode cX10_winters 25 = .ok (.ifCond .ne 6, 3) := by decide +kernel
theorem dX10_winters_28 : decode cX10_winters 28 = .ok (.bipush (-102), 2) := by decide +kernel
theorem dX10_winters_30 : decode cX10_winters 30 = .ok (.ireturn, 1) := by decide +kernel
theorem dX10_winters_31 : decode cX10_winters 31 = .ok (.aload_n 0, 1) := by decide +kernel
theorem dX10_winters_32 : decode cX10_winters 32 = .ok (.invokevirtual 161, 3) := by decide +kernel
theorem dX10_winters_35 : decode cX10_winters 35 = .ok (.ifCond .eq 6, 3) := by decide +kernel
theorem dX10_winters_38 : decode cX10_winters 38 = .ok (.bipush (-103), 2) := by decide +kernel
theorem dX10_winters_40 : decode cX10_winters 40 = .ok (.ireturn, 1) := by decide +kernel
theorem dX10_winters_41 : decode cX10_winters 41 = .ok (.aload_n 0, 1) := by decide +kernel
theorem dX10_winters_42 : decode cX10_winters 42 = .ok (.iload_n 2, 1) := by decide +kernel
theorem dX10_winters_43 : decode cX10_winters 43 = .ok (.putfield 215, 3) := by decide +kernel
theorem dX10_winters_46 : decode cX10_winters 46 = .ok (.aload_n 0, 1) := by decide +kernel
theorem dX10_winters_47 : decode cX10_winters 47 = .ok (.getfield 16, 3) := by decide +kernel
theorem dX10_winters_50 : decode cX10_winters 50 = .ok (.aload_n 0, 1) := by decide +kernel
theorem dX10_winters_51 : decode cX10_winters 51 = .ok (.getfield 34, 3) := by decide +kernel
theorem dX10_winters_54 : decode cX10_winters 54 = .ok (.invokestatic 165, 3) := by decide +kernel
theorem dX10_winters_57 : decode cX10_winters 57 = .ok (.aload_n 0, 1) := by decide +kernel
theorem dX10_winters_58 : decode cX10_winters 58 = .ok (.getfield 109, 3) := by decide +kernel
theorem dX10_winters_61 : decode cX10_winters 61 = .ok (.istore 4, 2) := by decide +kernel
theorem dX10_winters_63 : decode cX10_winters 63 = .ok (.iconst 0, 1) := by decide +kernel
theorem dX10_winters_64 : decode cX10_winters 64 = .ok (.istore 5, 2) := by decide +kernel
theorem dX10_winters_66 : decode cX10_winters 66 = .ok (.iconst 0, 1) := by decide +kernel
theorem dX10_winters_67 : decode cX10_winters 67 = .ok (.istore 6, 2) := by decide +kernel
theorem dX10_winters_69 : decode cX10_winters 69 = .ok (.iload 6, 2) := by decide +kernel
theorem dX10_winters_71 : decode cX10_winters 71 = .ok (.iload_n 1, 1) := by decide +kernel
theorem dX10_winters_72 : decode cX10_winters 72 = .ok (.if_icmp .ge 46, 3) := by decide +kernel
theorem dX10_winters_75 : decode cX10_winters 75 = .ok (.iload 4, 2) := by decide +kernel
theorem dX10_winters_77 : decode cX10_winters 77 = .ok (.iconst 1, 1) := by decide +kernel
theorem dX10_winters_78 : decode cX10_winters 78 = .ok (.aload_n 0, 1) := by decide +kernel
theorem dX10_winters_79 : decode cX10_winters 79 = .ok (.aload_n 0, 1) := by decide +kernel
theorem dX10_winters_80 : decode cX10_winters 80 = .ok (.getfield 106, 3) := by decide +kernel
theorem dX10_winters_83 : decode cX10_winters 83 = .ok (.invokevirtual 225, 3) := by decide +kernel
theorem dX10_winters_86 : decode cX10_winters 86 = .ok (.ishl, 1) := by decide +kernel
theorem dX10_winters_87 : decode cX10_winters 87 = .ok (.ixor, 1) := by decide +kernel
theorem dX10_winters_88 : decode cX10_winters 88 = .ok (.istore 4, 2) := by decide +kernel
theorem dX10_winters_90 : decode cX10_winters 90 = .ok (.iload 5, 2) := by decide +kernel
theorem dX10_winters_92 : decode cX10_winters 92 = .ok (.aload_n 0, 1) := by decide +kernel
theorem dX10_winters_93 : decode cX10_winters 93 = .ok (.aload_n 0, 1) := by decide +kernel
theorem dX10_winters_94 : decode cX10_winters 94 = .ok (.iload 4, 2) := by decide +kernel
theorem dX10_winters_96 : decode cX10_winters 96 = .ok (.aload_n 0, 1) := by decide +kernel
theorem dX10_winters_97 : decode cX10_winters 97 = .ok (.getfield 100, 3) := by decide +kernel
theorem dX10_winters_100 : decode cX10_winters 100 = .ok (.invokevirtual 125, 3) := by decide +kernel
theorem dX10_winters_103 : decode cX10_winters 103 = .ok (.invokevirtual 169, 3) := by decide +kernel
theorem dX10_winters_106 : decode cX10_winters 106 = .ok (.invokestatic 172, 3) := by decide +kernel
theorem dX10_winters_109 : decode cX10_winters 109 = .ok (.iadd, 1) := by decide +kernel
theorem dX10_winters_110 : decode cX10_winters 110 = .ok (.istore 5, 2) := by decide +kernel
theorem dX10_winters_112 : decode cX10_winters 112 = .ok (.iinc 6 1, 3) := by decide +kernel
theorem dX10_winters_115 : decode cX10_winters 115 = .ok (.goto (-46), 3) := by decide +kernel
theorem dX10_winters_118 : decode cX10_winters 118 = .ok (.iload_n 3, 1) := by decide +kernel
theorem dX10_winters_119 : decode cX10_winters 119 = .ok (.ifCond .ne 8, 3) := by decide +kernel
theorem dX10_winters_122 : decode cX10_winters 122 = .ok (.iload 5, 2) := by decide +kernel
theorem dX10_winters_124 : decode cX10_winters 124 = .ok (.goto 23, 3) := by decide +kernel
theorem dX10_winters_127 : decode cX10_winters 127 = .ok (.iload_n 3, 1) := by decide +kernel
theorem dX10_winters_128 : decode cX10_winters 128 = .ok (.iconst 1, 1) := by decide +kernel
theorem dX10_winters_129 : decode cX10_winters 129 = .ok (.if_icmp .ne 14, 3) := by decide +kernel
theorem dX10_winters_132 : decode cX10_winters 132 = .ok (.aload_n 0, 1) := by decide +kernel
theorem dX10_winters_133 : decode cX10_winters 133 = .ok (.aload_n 0, 1) := by decide +kernel
theorem dX10_winters_134 : decode cX10_winters 134 = .ok (.getfield 34, 3) := by decide +kernel
theorem dX10_winters_137 : decode cX10_winters 137 = .ok (.invokevirtual 228, 3) := by decide +kernel
theorem dX10_winters_140 : decode cX10_winters 140 = .ok (.goto 7, 3) := by decide +kernel
theorem dX10_winters_143 : decode cX10_winters 143 = .ok (.aload_n 0, 1) := by decide +kernel
theorem dX10_winters_144 : decode cX10_winters 144 = .ok (.getfield 215, 3) := by decide +kernel
theorem dX10_winters_147 : decode cX10_winters 147 = .ok (.ireturn, 1) := by decide +kernel
theorem dX10_image_0 : decode cX10_image 0 = .ok (.aload_n 0, 1) := by decide +kernel
theorem dX10_image_1 : decode cX10_image 1 = .ok (.invokevirtual 161, 3) := by decide +kernel
theorem dX10_image_4 : decode cX10_image 4 = .ok (.ifCond .eq 6, 3) := by decide +kernel
theorem dX10_image_7 : decode cX10_image 7 = .ok (.bipush (-103), 2) := by decide +kernel
theorem dX10_image_9 : decode cX10_image 9 = .ok (.ireturn, 1) := by decide +kernel
theorem dX10_image_10 : decode cX10_image 10 = .ok (.aload_n 0, 1) := by decide +kernel
theorem dX10_image_11 : decode cX10_image 11 = .ok (.getfield 13, 3) := by decide +kernel
theorem dX10_image_14 : decode cX10_image 14 = .ok (.aload_n 0, 1) := by decide +kernel
theorem dX10_image_15 : decode cX10_image 15 = .ok (.getfield 40, 3) := by decide +kernel
theorem dX10_image_18 : decode cX10_image 18 = .ok (.invokestatic 165, 3) := by decide +kernel
theorem dX10_image_21 : decode cX10_image 21 = .ok (.aload_n 0, 1) := by decide +kernel
theorem dX10_image_22 : decode cX10_image 22 = .ok (.getfield 16, 3) := by decide +kernel
theorem dX10_image_25 : decode cX10_image 25 = .ok (.aload_n 0, 1) := by decide +kernel
theorem dX10_image_26 : decode cX10_image 26 = .ok (.getfield 43, 3) := by decide +kernel
theorem dX10_image_29 : decode cX10_image 29 = .ok (.invokestatic 165, 3) := by decide +kernel
theorem dX10_image_32 : decode cX10_image 32 = .ok (.aload_n 0, 1) := by decide +kernel
theorem dX10_image_33 : decode cX10_image 33 = .ok (.getfield 19, 3) := by decide +kernel
theorem dX10_image_36 : decode cX10_image 36 = .ok (.aload_n 0, 1) := by decide +kernel
theorem dX10_image_37 : decode cX10_image 37 = .ok (.getfield 46, 3) := by decide +kernel
theorem dX10_image_40 : decode cX10_image 40 = .ok (.invokestatic 165, 3) := by decide +kernel
theorem dX10_image_43 : decode cX10_image 43 = .ok (.aload_n 0, 1) := by decide +kernel
theorem dX10_image_44 : decode cX10_image 44 = .ok (.getfield 28, 3) := by decide +kernel
theorem dX10_image_47 : decode cX10_image 47 = .ok (.aload_n 0, 1) := by decide +kernel
theorem dX10_image_48 : decode cX10_image 48 = .ok (.getfield 49, 3) := by decide +kernel
theorem dX10_image_51 : decode cX10_image 51 = .ok (.invokestatic 165, 3) := by decide +kernel
theorem dX10_image_54 : decode cX10_image 54 = .ok (.aload_n 0, 1) := by decide +kernel
theorem dX10_image_55 : decode cX10_image 55 = .ok (.getfield 37, 3) := by decide +kernel
theorem dX10_image_58 : decode cX10_image 58 = .ok (.aload_n 0, 1) := by decide +kernel
theorem dX10_image_59 : decode cX10_image 59 = .ok (.getfield 52, 3) := by decide +kernel
theorem dX10_image_62 : decode cX10_image 62 = .ok (.invokestatic 165, 3) := by decide +kernel
theorem dX10_image_65 : decode cX10_image 65 = .ok (.aload_n 0, 1) := by decide +kernel
theorem dX10_image_66 : decode cX10_image 66 = .ok (.aload_n 0, 1) := by decide +kernel
theorem dX10_image_67 : decode cX10_image 67 = .ok (.getfield 100, 3) := by decide +kernel
theorem dX10_image_70 : decode cX10_image 70 = .ok (.putfield 232, 3) := by decide +kernel
theorem dX10_image_73 : decode cX10_image 73 = .ok (.aload_n 0, 1) := by decide +kernel
theorem dX10_image_74 : decode cX10_image 74 = .ok (.aload_n 0, 1) := by decide +kernel
theorem dX10_image_75 : decode cX10_image 75 = .ok (.getfield 109, 3) := by decide +kernel
theorem dX10_image_78 : decode cX10_image 78 = .ok (.putfield 235, 3) := by decide +kernel
theorem dX10_image_81 : decode cX10_image 81 = .ok (.aload_n 0, 1) := by decide +kernel
theorem dX10_image_82 : decode cX10_image 82 = .ok (.aload_n 0, 1) := by decide +kernel
theorem dX10_image_83 : decode cX10_image 83 = .ok (.getfield 112, 3) := by decide +kernel
theorem dX10_image_86 : decode cX10_image 86 = .ok (.putfield 238, 3) := by decide +kernel
theorem dX10_image_89 : decode cX10_image 89 = .ok (.aload_n 0, 1) := by decide +kernel
theorem dX10_image_90 : decode cX10_image 90 = .ok (.aload_n 0, 1) := by decide +kernel
theorem dX10_image_91 : decode cX10_image 91 = .ok (.getfield 115, 3) := by decide +kernel
theorem dX10_image_94 : decode cX10_image 94 = .ok (.putfield 241, 3) := by decide +kernel
theorem dX10_image_97 : decode cX10_image 97 = .ok (.aload_n 0, 1) := by decide +kernel
theorem dX10_image_98 : decode cX10_image 98 = .ok (.aload_n 0, 1) := by decide +kernel
theorem dX10_image_99 : decode cX10_image 99 = .ok (.getfield 118, 3) := by decide +kernel
theorem dX10_image_102 : decode cX10_image 102 = .ok (.putfield 55, 3) := by decide +kernel
theorem dX10_image_105 : decode cX10_image 105 = .ok (.aload_n 0, 1) := by decide +kernel
theorem dX10_image_106 : decode cX10_image 106 = .ok (.getfield 112, 3) := by decide +kernel
theorem dX10_image_109 : decode cX10_image 109 = .ok (.ireturn, 1) := by decide +kernel
theorem dX10_restore_0 : decode cX10_restore 0 = .ok (.aload_n 0, 1) := by decide +kernel
theorem dX10_restore_1 : decode cX10_restore 1 = .ok (.getfield 55, 3) := by decide +kernel
theorem dX10_restore_4 : decode cX10_restore 4 = .ok (.aload_n 0, 1) := by decide +kernel
theorem dX10_restore_5 : decode cX10_restore 5 = .ok (.getfield 118, 3) := by decide +kernel
theorem dX10_restore_8 : decode cX10_restore 8 = .ok (.if_icmp .eq 6, 3) := by decide +kernel
theorem dX10_restore_11 : decode cX10_restore 11 = .ok (.bipush (-103), 2) := by decide +kernel
theorem dX10_restore_13 : decode cX10_restore 13 = .ok (.ireturn, 1) := by decide +kernel
theorem dX10_restore_14 : decode cX10_restore 14 = .ok (.aload_n 0, 1) := by decide +kernel
theorem dX10_restore_15 : decode cX10_restore 15 = .ok (.getfield 40, 3) := by decide +kernel
theorem dX10_restore_18 : decode cX10_restore 18 = .ok (.aload_n 0, 1) := by decide +kernel
theorem dX10_restore_19 : decode cX10_restore 19 = .ok (.getfield 13, 3) := by decide +kernel
theorem dX10_restore_22 : decode cX10_restore 22 = .ok (.invokestatic 165, 3) := by decide +kernel
theorem dX10_restore_25 : decode cX10_restore 25 = .ok (.aload_n 0, 1) := by decide +kernel
theorem dX10_restore_26 : decode cX10_restore 26 = .ok (.getfield 43, 3) := by decide +kernel
theorem dX10_restore_29 : decode cX10_restore 29 = .ok (.aload_n 0, 1) := by decide +kernel
theorem dX10_restore_30 : decode cX10_restore 30 = .ok (.getfield 16, 3) := by decide +kernel
theorem dX10_restore_33 : decode cX10_restore 33 = .ok (.invokestatic 165, 3) := by decide +kernel
theorem dX10_restore_36 : decode cX10_restore 36 = .ok (.aload_n 0, 1) := by decide +kernel
theorem dX10_restore_37 : decode cX10_restore 37 = .ok (.getfield 46, 3) := by decide +kernel
theorem dX10_restore_40 : decode cX10_restore 40 = .ok (.aload_n 0, 1) := by decide +kernel
theorem dX10_restore_41 : decode cX10_restore 41 = .ok (.getfield 19, 3) := by decide +kernel
theorem dX10_restore_44 : decode cX10_restore 44 = .ok (.invokestatic 165, 3) := by decide +kernel
theorem dX10_restore_47 : decode cX10_restore 47 = .ok (.aload_n 0, 1) := by decide +kernel
theorem dX10_restore_48 : decode cX10_restore 48 = .ok (.getfield 49, 3) := by decide +kernel
theorem dX10_restore_51 : decode cX10_restore 51 = .ok (.aload_n 0, 1) := by decide +kernel
theorem dX10_restore_52 : decode cX10_restore 52 = .ok (.getfield 28, 3) := by decide +kernel
theorem dX10_restore_55 : decode cX10_restore 55 = .ok (.invokestatic 165, 3) := by decide +kernel
theorem dX10_restore_58 : decode cX10_restore 58 = .ok (.aload_n 0, 1) := by decide +kernel
theorem dX10_restore_59 : decode cX10_restore 59 = .ok (.getfield 52, 3) := by decide +kernel
theorem dX10_restore_62 : decode cX10_restore 62 = .ok (.aload_n 0, 1) := by decide +kernel
theorem dX10_restore_63 : decode cX10_restore 63 = .ok (.getfield 37, 3) := by decide +kernel
theorem dX10_restore_66 : decode cX10_restore 66 = .ok (.invokestatic 165, 3) := by decide +kernel
theorem dX10_restore_69 : decode cX10_restore 69 = .ok (.aload_n 0, 1) := by decide +kernel
theorem dX10_restore_70 : decode cX10_restore 70 = .ok (.aload_n 0, 1) := by decide +kernel
theorem dX10_restore_71 : decode cX10_restore 71 = .ok (.getfield 232, 3) := by decide +kernel
theorem dX10_restore_74 : decode cX10_restore 74 = .ok (.putfield 100, 3) := by decide +kernel
theorem dX10_restore_77 : decode cX10_restore 77 = .ok (.aload_n 0, 1) := by decide +kernel
theorem dX10_restore_78 : decode cX10_restore 78 = .ok (.aload_n 0, 1) := by decide +kernel
theorem dX10_restore_79 : decode cX10_restore 79 = .ok (.getfield 235, 3) := by decide +kernel
theorem dX10_restore_82 : decode cX10_restore 82 = .ok (.putfield 109, 3) := by decide +kernel
theorem dX10_restore_85 : decode cX10_restore 85 = .ok (.aload_n 0, 1) := by decide +kernel
theorem dX10_restore_86 : decode cX10_restore 86 = .ok (.aload_n 0, 1) := by decide +kernel
theorem dX10_restore_87 : decode cX10_restore 87 = .ok (.getfield 238, 3) := by decide +kernel
theorem dX10_restore_90 : decode cX10_restore 90 = .ok (.putfield 112, 3) := by decide +kernel
theorem dX10_restore_93 : decode cX10_restore 93 = .ok (.aload_n 0, 1) := by decide +kernel
theorem dX10_restore_94 : decode cX10_restore 94 = .ok (.aload_n 0, 1) := by decide +kernel
theorem dX10_restore_95 : decode cX10_restore 95 = .ok (.getfield 241, 3) := by decide +kernel
theorem dX10_restore_98 : decode cX10_restore 98 = .ok (.putfield 115, 3) := by decide +kernel
theorem dX10_restore_101 : decode cX10_restore 101 = .ok (.aload_n 0, 1) := by decide +kernel
theorem dX10_restore_102 : decode cX10_restore 102 = .ok (.getfield 112, 3) := by decide +kernel
theorem dX10_restore_105 : decode cX10_restore 105 = .ok (.ireturn, 1) := by decide +kernel
theorem dX10_guiltAll_0 : decode cX10_guiltAll 0 = .ok (.iconst 0, 1) := by decide +kernel
theorem dX10_guiltAll_1 : decode cX10_guiltAll 1 = .ok (.istore_n 1, 1) := by decide +kernel
theorem dX10_guiltAll_2 : decode cX10_guiltAll 2 = .ok (.iconst 0, 1) := by decide +kernel
theorem dX10_guiltAll_3 : decode cX10_guiltAll 3 = .ok (.istore_n 2, 1) := by decide +kernel
theorem dX10_guiltAll_4 : decode cX10_guiltAll 4 = .ok (.iload_n 2, 1) := by decide +kernel
theorem dX10_guiltAll_5 : decode cX10_guiltAll 5 = .ok (.aload_n 0, 1) := by decide +kernel
theorem dX10_guiltAll_6 : decode cX10_guiltAll 6 = .ok (.getfield 103, 3) := by decide +kernel
theorem dX10_guiltAll_9 : decode cX10_guiltAll 9 = .ok (.if_icmp .ge 21, 3) := by decide +kernel
theorem dX10_guiltAll_12 : decode cX10_guiltAll 12 = .ok (.iload_n 1, 1) := by decide +kernel
theorem dX10_guiltAll_13 : decode cX10_guiltAll 13 = .ok (.aload_n 0, 1) := by decide +kernel
theorem dX10_guiltAll_14 : decode cX10_guiltAll 14 = .ok (.iload_n 2, 1) := by decide +kernel
theorem dX10_guiltAll_15 : decode cX10_guiltAll 15 = .ok (.aload_n 0, 1) := by decide +kernel
theorem dX10_guiltAll_16 : decode cX10_guiltAll 16 = .ok (.getfield 109, 3) := by decide +kernel
theorem dX10_guiltAll_19 : decode cX10_guiltAll 19 = .ok (.invokevirtual 121, 3) := by decide +kernel
theorem dX10_guiltAll_22 : decode cX10_guiltAll 22 = .ok (.iadd, 1) := by decide +kernel
theorem dX10_guiltAll_23 : decode cX10_guiltAll 23 = .ok (.istore_n 1, 1) := by decide +kernel
theorem dX10_guiltAll_24 : decode cX10_guiltAll 24 = .ok (.iinc 2 1, 3) := by decide +kernel
theorem dX10_guiltAll_27 : decode cX10_guiltAll 27 = .ok (.goto (-23), 3) := by decide +kernel
theorem dX10_guiltAll_30 : decode cX10_guiltAll 30 = .ok (.iload_n 1, 1) := by decide +kernel
theorem dX10_guiltAll_31 : decode cX10_guiltAll 31 = .ok (.ireturn, 1) := by decide +kernel
theorem dX10_countOf_0 : decode cX10_countOf 0 = .ok (.iload_n 1, 1) := by decide +kernel
theorem dX10_countOf_1 : decode cX10_countOf 1 = .ok (.tableswitch 146 0 12 #[67, 72, 77, 82, 90, 99, 104, 112, 117, 126, 131, 136, 141], 67) := by decide +kernel
theorem dX10_countOf_68 : decode cX10_countOf 68 = .ok (.aload_n 0, 1) := by decide +kernel
theorem dX10_countOf_69 : decode cX10_countOf 69 = .ok (.getfield 103, 3) := by decide +kernel
theorem dX10_countOf_72 : decode cX10_countOf 72 = .ok (.ireturn, 1) := by decide +kernel
theorem dX10_countOf_73 : decode cX10_countOf 73 = .ok (.aload_n 0, 1) := by decide +kernel
theorem dX10_countOf_74 : decode cX10_countOf 74 = .ok (.getfield 106, 3) := by decide +kernel
theorem dX10_countOf_77 : decode cX10_countOf 77 = .ok (.ireturn, 1) := by decide +kernel
theorem dX10_countOf_78 : decode cX10_countOf 78 = .ok (.aload_n 0, 1) := by decide +kernel
theorem dX10_countOf_79 : decode cX10_countOf 79 = .ok (.getfield 100, 3) := by decide +kernel
theorem dX10_countOf_82 : decode cX10_countOf 82 = .ok (.ireturn, 1) := by decide +kernel
theorem dX10_countOf_83 : decode cX10_countOf 83 = .ok (.aload_n 0, 1) := by decide +kernel
theorem dX10_countOf_84 : decode cX10_countOf 84 = .ok (.invokevirtual 128, 3) := by decide +kernel
theorem dX10_countOf_87 : decode cX10_countOf 87 = .ok (.invokestatic 172, 3) := by decide +kernel
theorem dX10_countOf_90 : decode cX10_countOf 90 = .ok (.ireturn, 1) := by decide +kernel
theorem dX10_countOf_91 : decode cX10_countOf 91 = .ok (.aload_n 0, 1) := by decide +kernel
theorem dX10_countOf_92 : decode cX10_countOf 92 = .ok (.aload_n 0, 1) := by decide +kernel
theorem dX10_countOf_93 : decode cX10_countOf 93 = .ok (.getfield 16, 3) := by decide +kernel
theorem dX10_countOf_96 : decode cX10_countOf 96 = .ok (.invokevirtual 228, 3) := by decide +kernel
theorem dX10_countOf_99 : decode cX10_countOf 99 = .ok (.ireturn, 1) := by decide +kernel
theorem dX10_countOf_100 : decode cX10_countOf 100 = .ok (.aload_n 0, 1) := by decide +kernel
theorem dX10_countOf_101 : decode cX10_countOf 101 = .ok (.invokevirtual 244, 3) := by decide +kernel
theorem dX10_countOf_104 : decode cX10_countOf 104 = .ok (.ireturn, 1) := by decide +kernel
theorem dX10_countOf_105 : decode cX10_countOf 105 = .ok (.aload_n 0, 1) := by decide +kernel
theorem dX10_countOf_106 : decode cX10_countOf 106 = .ok (.getfield 109, 3) := by decide +kernel
theorem dX10_countOf_109 : decode cX10_countOf 109 = .ok (.invokestatic 172, 3) := by decide +kernel
theorem dX10_countOf_112 : decode cX10_countOf 112 = .ok (.ireturn, 1) := by decide +kernel
theorem dX10_countOf_113 : decode cX10_countOf 113 = .ok (.aload_n 0, 1) := by decide +kernel
theorem dX10_countOf_114 : decode cX10_countOf 114 = .ok (.getfield 112, 3) := by decide +kernel
theorem dX10_countOf_117 : decode cX10_countOf 117 = .ok (.ireturn, 1) := by decide +kernel
theorem dX10_countOf_118 : decode cX10_countOf 118 = .ok (.aload_n 0, 1) := by decide +kernel
theorem dX10_countOf_119 : decode cX10_countOf 119 = .ok (.aload_n 0, 1) := by decide +kernel
theorem dX10_countOf_120 : decode cX10_countOf 120 = .ok (.getfield 19, 3) := by decide +kernel
theorem dX10_countOf_123 : decode cX10_countOf 123 = .ok (.invokevirtual 228, 3) := by decide +kernel
theorem dX10_countOf_126 : decode cX10_countOf 126 = .ok (.ireturn, 1) := by decide +kernel
theorem dX10_countOf_127 : decode cX10_countOf 127 = .ok (.aload_n 0, 1) := by decide +kernel
theorem dX10_countOf_128 : decode cX10_countOf 128 = .ok (.getfield 115, 3) := by decide +kernel
theorem dX10_countOf_131 : decode cX10_countOf 131 = .ok (.ireturn, 1) := by decide +kernel
theorem dX10_countOf_132 : decode cX10_countOf 132 = .ok (.aload_n 0, 1) := by decide +kernel
theorem dX10_countOf_133 : decode cX10_countOf 133 = .ok (.getfield 65, 3) := by decide +kernel
theorem dX10_countOf_136 : decode cX10_countOf 136 = .ok (.ireturn, 1) := by decide +kernel
theorem dX10_countOf_137 : decode cX10_countOf 137 = .ok (.aload_n 0, 1) := by decide +kernel
theorem dX10_countOf_138 : decode cX10_countOf 138 = .ok (.getfield 118, 3) := by decide +kernel
theorem dX10_countOf_141 : decode cX10_countOf 141 = .ok (.ireturn, 1) := by decide +kernel
theorem dX10_countOf_142 : decode cX10_countOf 142 = .ok (.aload_n 0, 1) := by decide +kernel
theorem dX10_countOf_143 : decode cX10_countOf 143 = .ok (.getfield 193, 3) := by decide +kernel
theorem dX10_countOf_146 : decode cX10_countOf 146 = .ok (.ireturn, 1) := by decide +kernel
theorem dX10_countOf_147 : decode cX10_countOf 147 = .ok (.bipush (-102), 2) := by decide +kernel
theorem dX10_countOf_149 : decode cX10_countOf 149 = .ok (.ireturn, 1) := by decide +kernel
theorem dX10_count_0 : decode cX10_count 0 = .ok (.aload_n 0, 1) := by decide +kernel
theorem dX10_count_1 : decode cX10_count 1 = .ok (.iload_n 1, 1) := by decide +kernel
theorem dX10_count_2 : decode cX10_count 2 = .ok (.invokevirtual 247, 3) := by decide +kernel
theorem dX10_count_5 : decode cX10_count 5 = .ok (.ireturn, 1) := by decide +kernel
theorem dX10_say_0 : decode cX10_say 0 = .ok (.aload_n 0, 1) := by decide +kernel
theorem dX10_say_1 : decode cX10_say 1 = .ok (.ldc2_w 250, 3) := by decide +kernel
theorem dX10_say_4 : decode cX10_say 4 = .ok (.aload_n 0, 1) := by decide +kernel
theorem dX10_say_5 : decode cX10_say 5 = .ok (.getfield 252, 3) := by decide +kernel
theorem dX10_say_8 : decode cX10_say 8 = .ok (.lmul, 1) := by decide +kernel
theorem dX10_say_9 : decode cX10_say 9 = .ok (.lload_n 1, 1) := by decide +kernel
theorem dX10_say_10 : decode cX10_say 10 = .ok (.ladd, 1) := by decide +kernel
theorem dX10_say_11 : decode cX10_say 11 = .ok (.putfield 252, 3) := by decide +kernel
theorem dX10_say_14 : decode cX10_say 14 = .ok (.return_, 1) := by decide +kernel
theorem dX10_sayChapel_0 : decode cX10_sayChapel 0 = .ok (.aload_n 0, 1) := by decide +kernel
theorem dX10_sayChapel_1 : decode cX10_sayChapel 1 = .ok (.aload_n 0, 1) := by decide +kernel
theorem dX10_sayChapel_2 : decode cX10_sayChapel 2 = .ok (.iconst 0, 1) := by decide +kernel
theorem dX10_sayChapel_3 : decode cX10_sayChapel 3 = .ok (.iconst 1, 1) := by decide +kernel
theorem dX10_sayChapel_4 : decode cX10_sayChapel 4 = .ok (.aload_n 0, 1) := by decide +kernel
theorem dX10_sayChapel_5 : decode cX10_sayChapel 5 = .ok (.getfield 109, 3) := by decide +kernel
theorem dX10_sayChapel_8 : decode cX10_sayChapel 8 = .ok (.invokevirtual 157, 3) := by decide +kernel
theorem dX10_sayChapel_11 : decode cX10_sayChapel 11 = .ok (.i2l, 1) := by decide +kernel
theorem dX10_sayChapel_12 : decode cX10_sayChapel 12 = .ok (.invokevirtual 256, 3) := by decide +kernel
theorem dX10_sayChapel_15 : decode cX10_sayChapel 15 = .ok (.aload_n 0, 1) := by decide +kernel
theorem dX10_sayChapel_16 : decode cX10_sayChapel 16 = .ok (.aload_n 0, 1) := by decide +kernel
theorem dX10_sayChapel_17 : decode cX10_sayChapel 17 = .ok (.iconst 1, 1) := by decide +kernel
theorem dX10_sayChapel_18 : decode cX10_sayChapel 18 = .ok (.iconst 0, 1) := by decide +kernel
theorem dX10_sayChapel_19 : decode cX10_sayChapel 19 = .ok (.aload_n 0, 1) := by decide +kernel
theorem dX10_sayChapel_20 : decode cX10_sayChapel 20 = .ok (.getfield 109, 3) := by decide +kernel
theorem dX10_sayChapel_23 : decode cX10_sayChapel 23 = .ok (.invokevirtual 157, 3) := by decide +kernel
theorem dX10_sayChapel_26 : decode cX10_sayChapel 26 = .ok (.i2l, 1) := by decide +kernel
theorem dX10_sayChapel_27 : decode cX10_sayChapel 27 = .ok (.invokevirtual 256, 3) := by decide +kernel
theorem dX10_sayChapel_30 : decode cX10_sayChapel 30 = .ok (.aload_n 0, 1) := by decide +kernel
theorem dX10_sayChapel_31 : decode cX10_sayChapel 31 = .ok (.aload_n 0, 1) := by decide +kernel
theorem dX10_sayChapel_32 : decode cX10_sayChapel 32 = .ok (.aload_n 0, 1) := by decide +kernel
theorem dX10_sayChapel_33 : decode cX10_sayChapel 33 = .ok (.getfield 109, 3) := by decide +kernel
theorem dX10_sayChapel_36 : decode cX10_sayChapel 36 = .ok (.invokevirtual 199, 3) := by decide +kernel
theorem dX10_sayChapel_39 : decode cX10_sayChapel 39 = .ok (.i2l, 1) := by decide +kernel
theorem dX10_sayChapel_40 : decode cX10_sayChapel 40 = .ok (.invokevirtual 256, 3) := by decide +kernel
theorem dX10_sayChapel_43 : decode cX10_sayChapel 43 = .ok (.aload_n 0, 1) := by decide +kernel
theorem dX10_sayChapel_44 : decode cX10_sayChapel 44 = .ok (.aload_n 0, 1) := by decide +kernel
theorem dX10_sayChapel_45 : decode cX10_sayChapel 45 = .ok (.iconst 0, 1) := by decide +kernel
theorem dX10_sayChapel_46 : decode cX10_sayChapel 46 = .ok (.invokevirtual 202, 3) := by decide +kernel
theorem dX10_sayChapel_49 : decode cX10_sayChapel 49 = .ok (.i2l, 1) := by decide +kernel
theorem dX10_sayChapel_50 : decode cX10_sayChapel 50 = .ok (.invokevirtual 256, 3) := by decide +kernel
theorem dX10_sayChapel_53 : decode cX10_sayChapel 53 = .ok (.aload_n 0, 1) := by decide +kernel
theorem dX10_sayChapel_54 : decode cX10_sayChapel 54 = .ok (.aload_n 0, 1) := by decide +kernel
theorem dX10_sayChapel_55 : decode cX10_sayChapel 55 = .ok (.iconst 1, 1) := by decide +kernel
theorem dX10_sayChapel_56 : decode cX10_sayChapel 56 = .ok (.invokevirtual 202, 3) := by decide +kernel
theorem dX10_sayChapel_59 : decode cX10_sayChapel 59 = .ok (.i2l, 1) := by decide +kernel
theorem dX10_sayChapel_60 : decode cX10_sayChapel 60 = .ok (.invokevirtual 256, 3) := by decide +kernel
theorem dX10_sayChapel_63 : decode cX10_sayChapel 63 = .ok (.return_, 1) := by decide +kernel
theorem dX10_digest_0 : decode cX10_digest 0 = .ok (.aload_n 0, 1) := by decide +kernel
theorem dX10_digest_1 : decode cX10_digest 1 = .ok (.ldc2_w 260, 3) := by decide +kernel
theorem dX10_digest_4 : decode cX10_digest 4 = .ok (.putfield 252, 3) := by decide +kernel
theorem dX10_digest_7 : decode cX10_digest 7 = .ok (.iconst 0, 1) := by decide +kernel
theorem dX10_digest_8 : decode cX10_digest 8 = .ok (.istore_n 1, 1) := by decide +kernel
theorem dX10_digest_9 : decode cX10_digest 9 = .ok (.iload_n 1, 1) := by decide +kernel
theorem dX10_digest_10 : decode cX10_digest 10 = .ok (.aload_n 0, 1) := by decide +kernel
theorem dX10_digest_11 : decode cX10_digest 11 = .ok (.getfield 103, 3) := by decide +kernel
theorem dX10_digest_14 : decode cX10_digest 14 = .ok (.if_icmp .ge 58, 3) := by decide +kernel
theorem dX10_digest_17 : decode cX10_digest 17 = .ok (.iconst 0, 1) := by decide +kernel
theorem dX10_digest_18 : decode cX10_digest 18 = .ok (.istore_n 2, 1) := by decide +kernel
theorem dX10_digest_19 : decode cX10_digest 19 = .ok (.iload_n 2, 1) := by decide +kernel
theorem dX10_digest_20 : decode cX10_digest 20 = .ok (.bipush 6, 2) := by decide +kernel
theorem dX10_digest_22 : decode cX10_digest 22 = .ok (.if_icmp .ge 20, 3) := by decide +kernel
theorem dX10_digest_25 : decode cX10_digest 25 = .ok (.aload_n 0, 1) := by decide +kernel
theorem dX10_digest_26 : decode cX10_digest 26 = .ok (.aload_n 0, 1) := by decide +kernel
theorem dX10_digest_27 : decode cX10_digest 27 = .ok (.iload_n 1, 1) := by decide +kernel
theorem dX10_digest_28 : decode cX10_digest 28 = .ok (.iload_n 2, 1) := by decide +kernel
theorem dX10_digest_29 : decode cX10_digest 29 = .ok (.invokevirtual 137, 3) := by decide +kernel
theorem dX10_digest_32 : decode cX10_digest 32 = .ok (.i2l, 1) := by decide +kernel
theorem dX10_digest_33 : decode cX10_digest 33 = .ok (.invokevirtual 256, 3) := by decide +kernel
theorem dX10_digest_36 : decode cX10_digest 36 = .ok (.iinc 2 1, 3) := by decide +kernel
theorem dX10_digest_39 : decode cX10_digest 39 = .ok (.goto (-20), 3) := by decide +kernel
theorem dX10_digest_42 : decode cX10_digest 42 = .ok (.aload_n 0, 1) := by decide +kernel
theorem dX10_digest_43 : decode cX10_digest 43 = .ok (.aload_n 0, 1) := by decide +kernel
theorem dX10_digest_44 : decode cX10_digest 44 = .ok (.iload_n 1, 1) := by decide +kernel
theorem dX10_digest_45 : decode cX10_digest 45 = .ok (.iconst 4, 1) := by decide +kernel
theorem dX10_digest_46 : decode cX10_digest 46 = .ok (.iconst 0, 1) := by decide +kernel
theorem dX10_digest_47 : decode cX10_digest 47 = .ok (.invokevirtual 207, 3) := by decide +kernel
theorem dX10_digest_50 : decode cX10_digest 50 = .ok (.i2l, 1) := by decide +kernel
theorem dX10_digest_51 : decode cX10_digest 51 = .ok (.invokevirtual 256, 3) := by decide +kernel
theorem dX10_digest_54 : decode cX10_digest 54 = .ok (.aload_n 0, 1) := by decide +kernel
theorem dX10_digest_55 : decode cX10_digest 55 = .ok (.aload_n 0, 1) := by decide +kernel
theorem dX10_digest_56 : decode cX10_digest 56 = .ok (.iload_n 1, 1) := by decide +kernel
theorem dX10_digest_57 : decode cX10_digest 57 = .ok (.iconst 4, 1) := by decide +kernel
theorem dX10_digest_58 : decode cX10_digest 58 = .ok (.iconst 1, 1) := by decide +kernel
theorem dX10_digest_59 : decode cX10_digest 59 = .ok (.invokevirtual 207, 3) := by decide +kernel
theorem dX10_digest_62 : decode cX10_digest 62 = .ok (.i2l, 1) := by decide +kernel
theorem dX10_digest_63 : decode cX10_digest 63 = .ok (.invokevirtual 256, 3) := by decide +kernel
theorem dX10_digest_66 : decode cX10_digest 66 = .ok (.iinc 1 1, 3) := by decide +kernel
theorem dX10_digest_69 : decode cX10_digest 69 = .ok (.goto (-60), 3) := by decide +kernel
theorem dX10_digest_72 : decode cX10_digest 72 = .ok (.iconst 0, 1) := by decide +kernel
theorem dX10_digest_73 : decode cX10_digest 73 = .ok (.istore_n 1, 1) := by decide +kernel
theorem dX10_digest_74 : decode cX10_digest 74 = .ok (.iload_n 1, 1) := by decide +kernel
theorem dX10_digest_75 : decode cX10_digest 75 = .ok (.aload_n 0, 1) := by decide +kernel
theorem dX10_digest_76 : decode cX10_digest 76 = .ok (.getfield 106, 3) := by decide +kernel
theorem dX10_digest_79 : decode cX10_digest 79 = .ok (.if_icmp .ge 34, 3) := by decide +kernel
theorem dX10_digest_82 : decode cX10_digest 82 = .ok (.iconst 0, 1) := by decide +kernel
theorem dX10_digest_83 : decode cX10_digest 83 = .ok (.istore_n 2, 1) := by decide +kernel
theorem dX10_digest_84 : decode cX10_digest 84 = .ok (.iload_n 2, 1) := by decide +kernel
theorem dX10_digest_85 : decode cX10_digest 85 = .ok (.bipush 6, 2) := by decide +kernel
theorem dX10_digest_87 : decode cX10_digest 87 = .ok (.if_icmp .ge 20, 3) := by decide +kernel
theorem dX10_digest_90 : decode cX10_digest 90 = .ok (.aload_n 0, 1) := by decide +kernel
theorem dX10_digest_91 : decode cX10_digest 91 = .ok (.aload_n 0, 1) := by decide +kernel
theorem dX10_digest_92 : decode cX10_digest 92 = .ok (.iload_n 1, 1) := by decide +kernel
theorem dX10_digest_93 : decode cX10_digest 93 = .ok (.iload_n 2, 1) := by decide +kernel
theorem dX10_digest_94 : decode cX10_digest 94 = .ok (.invokevirtual 151, 3) := by decide +kernel
theorem dX10_digest_97 : decode cX10_digest 97 = .ok (.i2l, 1) := by decide +kernel
theorem dX10_digest_98 : decode cX10_digest 98 = .ok (.invokevirtual 256, 3) := by decide +kernel
theorem dX10_digest_101 : decode cX10_digest 101 = .ok (.iinc 2 1, 3) := by decide +kernel
theorem dX10_digest_104 : decode cX10_digest 104 = .ok (.goto (-20), 3) := by decide +kernel
theorem dX10_digest_107 : decode cX10_digest 107 = .ok (.iinc 1 1, 3) := by decide +kernel
theorem dX10_digest_110 : decode cX10_digest 110 = .ok (.goto (-36), 3) := by decide +kernel
theorem dX10_digest_113 : decode cX10_digest 113 = .ok (.aload_n 0, 1) := by decide +kernel
theorem dX10_digest_114 : decode cX10_digest 114 = .ok (.invokevirtual 161, 3) := by decide +kernel
theorem dX10_digest_117 : decode cX10_digest 117 = .ok (.ifCond .ne 7, 3) := by decide +kernel
theorem dX10_digest_120 : decode cX10_digest 120 = .ok (.aload_n 0, 1) := by decide +kernel
theorem dX10_digest_121 : decode cX10_digest 121 = .ok (.invokevirtual 262, 3) := by decide +kernel
theorem dX10_digest_124 : decode cX10_digest 124 = .ok (.iconst 0, 1) := by decide +kernel
theorem dX10_digest_125 : decode cX10_digest 125 = .ok (.istore_n 1, 1) := by decide +kernel
theorem dX10_digest_126 : decode cX10_digest 126 = .ok (.iload_n 1, 1) := by decide +kernel
theorem dX10_digest_127 : decode cX10_digest 127 = .ok (.aload_n 0, 1) := by decide +kernel
theorem dX10_digest_128 : decode cX10_digest 128 = .ok (.getfield 65, 3) := by decide +kernel
theorem dX10_digest_131 : decode cX10_digest 131 = .ok (.if_icmp .ge 20, 3) := by decide +kernel
theorem dX10_digest_134 : decode cX10_digest 134 = .ok (.aload_n 0, 1) := by decide +kernel
theorem dX10_digest_135 : decode cX10_digest 135 = .ok (.aload_n 0, 1) := by decide +kernel
theorem dX10_digest_136 : decode cX10_digest 136 = .ok (.getfield 7, 3) := by decide +kernel
theorem dX10_digest_139 : decode cX10_digest 139 = .ok (.iload_n 1, 1) := by decide +kernel
theorem dX10_digest_140 : decode cX10_digest 140 = .ok (.iaload, 1) := by decide +kernel
theorem dX10_digest_141 : decode cX10_digest 141 = .ok (.i2l, 1) := by decide +kernel
theorem dX10_digest_142 : decode cX10_digest 142 = .ok (.invokevirtual 256, 3) := by decide +kernel
theorem dX10_digest_145 : decode cX10_digest 145 = .ok (.iinc 1 1, 3) := by decide +kernel
theorem dX10_digest_148 : decode cX10_digest 148 = .ok (.goto (-22), 3) := by decide +kernel
theorem dX10_digest_151 : decode cX10_digest 151 = .ok (.iconst 0, 1) := by decide +kernel
theorem dX10_digest_152 : decode cX10_digest 152 = .ok (.istore_n 1, 1) := by decide +kernel
theorem dX10_digest_153 : decode cX10_digest 153 = .ok (.iload_n 1, 1) := by decide +kernel
theorem dX10_digest_154 : decode cX10_digest 154 = .ok (.bipush 13, 2) := by decide +kernel
theorem dX10_digest_156 : decode cX10_digest 156 = .ok (.if_icmp .ge 19, 3) := by decide +kernel
theorem dX10_digest_159 : decode cX10_digest 159 = .ok (.aload_n 0, 1) := by decide +kernel
theorem dX10_digest_160 : decode cX10_digest 160 = .ok (.aload_n 0, 1) := by decide +kernel
theorem dX10_digest_161 : decode cX10_digest 161 = .ok (.iload_n 1, 1) := by decide +kernel
theorem dX10_digest_162 : decode cX10_digest 162 = .ok (.invokevirtual 247, 3) := by decide +kernel
theorem dX10_digest_165 : decode cX10_digest 165 = .ok (.i2l, 1) := by decide +kernel
theorem dX10_digest_166 : decode cX10_digest 166 = .ok (.invokevirtual 256, 3) := by decide +kernel
theorem dX10_digest_169 : decode cX10_digest 169 = .ok (.iinc 1 1, 3) := by decide +kernel
theorem dX10_digest_172 : decode cX10_digest 172 = .ok (.goto (-19), 3) := by decide +kernel
theorem dX10_digest_175 : decode cX10_digest 175 = .ok (.aload_n 0, 1) := by decide +kernel
theorem dX10_digest_176 : decode cX10_digest 176 = .ok (.getfield 252, 3) := by decide +kernel
theorem dX10_digest_179 : decode cX10_digest 179 = .ok (.lreturn, 1) := by decide +kernel
theorem dJ11_isValidCodePoint_9a6ad_0 : decode cJ11_isValidCodePoint_9a6ad 0 = .ok (.iload_n 0, 1) := by decide +kernel
theorem dJ11_isValidCodePoint_9a6ad_1 : decode cJ11_isValidCodePoint_9a6ad 1 = .ok (.bipush 16, 2) := by decide +kernel
theorem dJ11_isValidCodePoint_9a6ad_3 : decode cJ11_isValidCodePoint_9a6ad 3 = .ok (.iushr, 1) := by decide +kernel
theorem dJ11_isValidCodePoint_9a6ad_4 : decode cJ11_isValidCodePoint_9a6ad 4 = .ok (.istore_n 1, 1) := by decide +kernel
theorem dJ11_isValidCodePoint_9a6ad_5 : decode cJ11_isValidCodePoint_9a6ad 5 = .ok (.iload_n 1, 1) := by decide +kernel
theorem dJ11_isValidCodePoint_9a6ad_6 : decode cJ11_isValidCodePoint_9a6ad 6 = .ok (.bipush 17, 2) := by decide +kernel
theorem dJ11_isValidCodePoint_9a6ad_8 : decode cJ11_isValidCodePoint_9a6ad 8 = .ok (.if_icmp .ge 7, 3) := by decide +kernel
theorem dJ11_isValidCodePoint_9a6ad_11 : decode cJ11_isValidCodePoint_9a6ad 11 = .ok (.iconst 1, 1) := by decide +kernel
theorem dJ11_isValidCodePoint_9a6ad_12 : decode cJ11_isValidCodePoint_9a6ad 12 = .ok (.goto 4, 3) := by decide +kernel
theorem dJ11_isValidCodePoint_9a6ad_15 : decode cJ11_isValidCodePoint_9a6ad 15 = .ok (.iconst 0, 1) := by decide +kernel
theorem dJ11_isValidCodePoint_9a6ad_16 : decode cJ11_isValidCodePoint_9a6ad 16 = .ok (.ireturn, 1) := by decide +kernel
theorem dJ11_highSurrogate_5068e_0 : decode cJ11_highSurrogate_5068e 0 = .ok (.iload_n 0, 1) := by decide +kernel
theorem dJ11_highSurrogate_5068e_1 : decode cJ11_highSurrogate_5068e 1 = .ok (.bipush 10, 2) := by decide +kernel
theorem dJ11_highSurrogate_5068e_3 : decode cJ11_highSurrogate_5068e 3 = .ok (.iushr, 1) := by decide +kernel
theorem dJ11_highSurrogate_5068e_4 : decode cJ11_highSurrogate_5068e 4 = .ok (.ldc 110, 2) := by decide +kernel
theorem dJ11_highSurrogate_5068e_6 : decode cJ11_highSurrogate_5068e 6 = .ok (.iadd, 1) := by decide +kernel
theorem dJ11_highSurrogate_5068e_7 : decode cJ11_highSurrogate_5068e 7 = .ok (.i2c, 1) := by decide +kernel
theorem dJ11_highSurrogate_5068e_8 : decode cJ11_highSurrogate_5068e 8 = .ok (.ireturn, 1) := by decide +kernel
theorem dJ11_lowSurrogate_5068e_0 : decode cJ11_lowSurrogate_5068e 0 = .ok (.iload_n 0, 1) := by decide +kernel
theorem dJ11_lowSurrogate_5068e_1 : decode cJ11_lowSurrogate_5068e 1 = .ok (.sipush 1023, 3) := by decide +kernel
theorem dJ11_lowSurrogate_5068e_4 : decode cJ11_lowSurrogate_5068e 4 = .ok (.iand, 1) := by decide +kernel
theorem dJ11_lowSurrogate_5068e_5 : decode cJ11_lowSurrogate_5068e 5 = .ok (.ldc 76, 2) := by decide +kernel
theorem dJ11_lowSurrogate_5068e_7 : decode cJ11_lowSurrogate_5068e 7 = .ok (.iadd, 1) := by decide +kernel
theorem dJ11_lowSurrogate_5068e_8 : decode cJ11_lowSurrogate_5068e 8 = .ok (.i2c, 1) := by decide +kernel
theorem dJ11_lowSurrogate_5068e_9 : decode cJ11_lowSurrogate_5068e 9 = .ok (.ireturn, 1) := by decide +kernel
theorem dJ6_bitCount_0f7a4_0 : decode cJ6_bitCount_0f7a4 0 = .ok (.iload_n 0, 1) := by decide +kernel
theorem dJ6_bitCount_0f7a4_1 : decode cJ6_bitCount_0f7a4 1 = .ok (.iload_n 0, 1) := by decide +kernel
theorem dJ6_bitCount_0f7a4_2 : decode cJ6_bitCount_0f7a4 2 = .ok (.iconst 1, 1) := by decide +kernel
theorem dJ6_bitCount_0f7a4_3 : decode cJ6_bitCount_0f7a4 3 = .ok (.iushr, 1) := by decide +kernel
theorem dJ6_bitCount_0f7a4_4 : decode cJ6_bitCount_0f7a4 4 = .ok (.ldc_w 265, 3) := by decide +kernel
theorem dJ6_bitCount_0f7a4_7 : decode cJ6_bitCount_0f7a4 7 = .ok (.iand, 1) := by decide +kernel
theorem dJ6_bitCount_0f7a4_8 : decode cJ6_bitCount_0f7a4 8 = .ok (.isub, 1) := by decide +kernel
theorem dJ6_bitCount_0f7a4_9 : decode cJ6_bitCount_0f7a4 9 = .ok (.istore_n 0, 1) := by decide +kernel
theorem dJ6_bitCount_0f7a4_10 : decode cJ6_bitCount_0f7a4 10 = .ok (.iload_n 0, 1) := by decide +kernel
theorem dJ6_bitCount_0f7a4_11 : decode cJ6_bitCount_0f7a4 11 = .ok (.ldc_w 266, 3) := by decide +kernel
theorem dJ6_bitCount_0f7a4_14 : decode cJ6_bitCount_0f7a4 14 = .ok (.iand, 1) := by decide +kernel
theorem dJ6_bitCount_0f7a4_15 : decode cJ6_bitCount_0f7a4 15 = .ok (.iload_n 0, 1) := by decide +kernel
theorem dJ6_bitCount_0f7a4_16 : decode cJ6_bitCount_0f7a4 16 = .ok (.iconst 2, 1) := by decide +kernel
theorem dJ6_bitCount_0f7a4_17 : decode cJ6_bitCount_0f7a4 17 = .ok (.iushr, 1) := by decide +kernel
theorem dJ6_bitCount_0f7a4_18 : decode cJ6_bitCount_0f7a4 18 = .ok (.ldc_w 266, 3) := by decide +kernel
theorem dJ6_bitCount_0f7a4_21 : decode cJ6_bitCount_0f7a4 21 = .ok (.iand, 1) := by decide +kernel
theorem dJ6_bitCount_0f7a4_22 : decode cJ6_bitCount_0f7a4 22 = .ok (.iadd, 1) := by decide +kernel
theorem dJ6_bitCount_0f7a4_23 : decode cJ6_bitCount_0f7a4 23 = .ok (.istore_n 0, 1) := by decide +kernel
theorem dJ6_bitCount_0f7a4_24 : decode cJ6_bitCount_0f7a4 24 = .ok (.iload_n 0, 1) := by decide +kernel
theorem dJ6_bitCount_0f7a4_25 : decode cJ6_bitCount_0f7a4 25 = .ok (.iload_n 0, 1) := by decide +kernel
theorem dJ6_bitCount_0f7a4_26 : decode cJ6_bitCount_0f7a4 26 = .ok (.iconst 4, 1) := by decide +kernel
theorem dJ6_bitCount_0f7a4_27 : decode cJ6_bitCount_0f7a4 27 = .ok (.iushr, 1) := by decide +kernel
theorem dJ6_bitCount_0f7a4_28 : decode cJ6_bitCount_0f7a4 28 = .ok (.iadd, 1) := by decide +kernel
theorem dJ6_bitCount_0f7a4_29 : decode cJ6_bitCount_0f7a4 29 = .ok (.ldc_w 267, 3) := by decide +kernel
theorem dJ6_bitCount_0f7a4_32 : decode cJ6_bitCount_0f7a4 32 = .ok (.iand, 1) := by decide +kernel
theorem dJ6_bitCount_0f7a4_33 : decode cJ6_bitCount_0f7a4 33 = .ok (.istore_n 0, 1) := by decide +kernel
theorem dJ6_bitCount_0f7a4_34 : decode cJ6_bitCount_0f7a4 34 = .ok (.iload_n 0, 1) := by decide +kernel
theorem dJ6_bitCount_0f7a4_35 : decode cJ6_bitCount_0f7a4 35 = .ok (.iload_n 0, 1) := by decide +kernel
theorem dJ6_bitCount_0f7a4_36 : decode cJ6_bitCount_0f7a4 36 = .ok (.bipush 8, 2) := by decide +kernel
theorem dJ6_bitCount_0f7a4_38 : decode cJ6_bitCount_0f7a4 38 = .ok (.iushr, 1) := by decide +kernel
theorem dJ6_bitCount_0f7a4_39 : decode cJ6_bitCount_0f7a4 39 = .ok (.iadd, 1) := by decide +kernel
theorem dJ6_bitCount_0f7a4_40 : decode cJ6_bitCount_0f7a4 40 = .ok (.istore_n 0, 1) := by decide +kernel
theorem dJ6_bitCount_0f7a4_41 : decode cJ6_bitCount_0f7a4 41 = .ok (.iload_n 0, 1) := by decide +kernel
theorem dJ6_bitCount_0f7a4_42 : decode cJ6_bitCount_0f7a4 42 = .ok (.iload_n 0, 1) := by decide +kernel
theorem dJ6_bitCount_0f7a4_43 : decode cJ6_bitCount_0f7a4 43 = .ok (.bipush 16, 2) := by decide +kernel
theorem dJ6_bitCount_0f7a4_45 : decode cJ6_bitCount_0f7a4 45 = .ok (.iushr, 1) := by decide +kernel
theorem dJ6_bitCount_0f7a4_46 : decode cJ6_bitCount_0f7a4 46 = .ok (.iadd, 1) := by decide +kernel
theorem dJ6_bitCount_0f7a4_47 : decode cJ6_bitCount_0f7a4 47 = .ok (.istore_n 0, 1) := by decide +kernel
theorem dJ6_bitCount_0f7a4_48 : decode cJ6_bitCount_0f7a4 48 = .ok (.iload_n 0, 1) := by decide +kernel
theorem dJ6_bitCount_0f7a4_49 : decode cJ6_bitCount_0f7a4 49 = .ok (.bipush 63, 2) := by decide +kernel
theorem dJ6_bitCount_0f7a4_51 : decode cJ6_bitCount_0f7a4 51 = .ok (.iand, 1) := by decide +kernel
theorem dJ6_bitCount_0f7a4_52 : decode cJ6_bitCount_0f7a4 52 = .ok (.ireturn, 1) := by decide +kernel
theorem dJ9_max_7cf53_0 : decode cJ9_max_7cf53 0 = .ok (.iload_n 0, 1) := by decide +kernel
theorem dJ9_max_7cf53_1 : decode cJ9_max_7cf53 1 = .ok (.iload_n 1, 1) := by decide +kernel
theorem dJ9_max_7cf53_2 : decode cJ9_max_7cf53 2 = .ok (.if_icmp .lt 7, 3) := by decide +kernel
theorem dJ9_max_7cf53_5 : decode cJ9_max_7cf53 5 = .ok (.iload_n 0, 1) := by decide +kernel
theorem dJ9_max_7cf53_6 : decode cJ9_max_7cf53 6 = .ok (.goto 4, 3) := by decide +kernel
theorem dJ9_max_7cf53_9 : decode cJ9_max_7cf53 9 = .ok (.iload_n 1, 1) := by decide +kernel
theorem dJ9_max_7cf53_10 : decode cJ9_max_7cf53 10 = .ok (.ireturn, 1) := by decide +kernel
theorem dJ9_min_7cf53_0 : decode cJ9_min_7cf53 0 = .ok (.iload_n 0, 1) := by decide +kernel
theorem dJ9_min_7cf53_1 : decode cJ9_min_7cf53 1 = .ok (.iload_n 1, 1) := by decide +kernel
theorem dJ9_min_7cf53_2 : decode cJ9_min_7cf53 2 = .ok (.if_icmp .gt 7, 3) := by decide +kernel
theorem dJ9_min_7cf53_5 : decode cJ9_min_7cf53 5 = .ok (.iload_n 0, 1) := by decide +kernel
theorem dJ9_min_7cf53_6 : decode cJ9_min_7cf53 6 = .ok (.goto 4, 3) := by decide +kernel
theorem dJ9_min_7cf53_9 : decode cJ9_min_7cf53 9 = .ok (.iload_n 1, 1) := by decide +kernel
theorem dJ9_min_7cf53_10 : decode cJ9_min_7cf53 10 = .ok (.ireturn, 1) := by decide +kernel
theorem dJ0_length_8abf5_0 : decode cJ0_length_8abf5 0 = .ok (.aload_n 0, 1) := by decide +kernel
theorem dJ0_length_8abf5_1 : decode cJ0_length_8abf5 1 = .ok (.getfield 9, 3) := by decide +kernel
theorem dJ0_length_8abf5_4 : decode cJ0_length_8abf5 4 = .ok (.arraylength, 1) := by decide +kernel
theorem dJ0_length_8abf5_5 : decode cJ0_length_8abf5 5 = .ok (.aload_n 0, 1) := by decide +kernel
theorem dJ0_length_8abf5_6 : decode cJ0_length_8abf5 6 = .ok (.invokevirtual 335, 3) := by decide +kernel
theorem dJ0_length_8abf5_9 : decode cJ0_length_8abf5 9 = .ok (.ishr, 1) := by decide +kernel
theorem dJ0_length_8abf5_10 : decode cJ0_length_8abf5 10 = .ok (.ireturn, 1) := by decide +kernel
theorem dJ0_indexOf_0f7a4_0 : decode cJ0_indexOf_0f7a4 0 = .ok (.aload_n 0, 1) := by decide +kernel
theorem dJ0_indexOf_0f7a4_1 : decode cJ0_indexOf_0f7a4 1 = .ok (.iload_n 1, 1) := by decide +kernel
theorem dJ0_indexOf_0f7a4_2 : decode cJ0_indexOf_0f7a4 2 = .ok (.iconst 0, 1) := by decide +kernel
theorem dJ0_indexOf_0f7a4_3 : decode cJ0_indexOf_0f7a4 3 = .ok (.invokevirtual 633, 3) := by decide +kernel
theorem dJ0_indexOf_0f7a4_6 : decode cJ0_indexOf_0f7a4 6 = .ok (.ireturn, 1) := by decide +kernel
theorem dJ0_indexOf_7cf53_0 : decode cJ0_indexOf_7cf53 0 = .ok (.aload_n 0, 1) := by decide +kernel
theorem dJ0_indexOf_7cf53_1 : decode cJ0_indexOf_7cf53 1 = .ok (.invokevirtual 492, 3) := by decide +kernel
theorem dJ0_indexOf_7cf53_4 : decode cJ0_indexOf_7cf53 4 = .ok (.ifCond .eq 19, 3) := by decide +kernel
theorem dJ0_indexOf_7cf53_7 : decode cJ0_indexOf_7cf53 7 = .ok (.aload_n 0, 1) := by decide +kernel
theorem dJ0_indexOf_7cf53_8 : decode cJ0_indexOf_7cf53 8 = .ok (.getfield 9, 3) := by decide +kernel
theorem dJ0_indexOf_7cf53_11 : decode cJ0_indexOf_7cf53 11 = .ok (.iload_n 1, 1) := by decide +kernel
theorem dJ0_indexOf_7cf53_12 : decode cJ0_indexOf_7cf53 12 = .ok (.iload_n 2, 1) := by decide +kernel
theorem dJ0_indexOf_7cf53_13 : decode cJ0_indexOf_7cf53 13 = .ok (.aload_n 0, 1) := by decide +kernel
theorem dJ0_indexOf_7cf53_14 : decode cJ0_indexOf_7cf53 14 = .ok (.invokevirtual 505, 3) := by decide +kernel
theorem dJ0_indexOf_7cf53_17 : decode cJ0_indexOf_7cf53 17 = .ok (.invokestatic 637, 3) := by decide +kernel
theorem dJ0_indexOf_7cf53_20 : decode cJ0_indexOf_7cf53 20 = .ok (.goto 16, 3) := by decide +kernel
theorem dJ0_indexOf_7cf53_23 : decode cJ0_indexOf_7cf53 23 = .ok (.aload_n 0, 1) := by decide +kernel
theorem dJ0_indexOf_7cf53_24 : decode cJ0_indexOf_7cf53 24 = .ok (.getfield 9, 3) := by decide +kernel
theorem dJ0_indexOf_7cf53_27 : decode cJ0_indexOf_7cf53 27 = .ok (.iload_n 1, 1) := by decide +kernel
theorem dJ0_indexOf_7cf53_28 : decode cJ0_indexOf_7cf53 28 = .ok (.iload_n 2, 1) := by decide +kernel
theorem dJ0_indexOf_7cf53_29 : decode cJ0_indexOf_7cf53 29 = .ok (.aload_n 0, 1) := by decide +kernel
theorem dJ0_indexOf_7cf53_30 : decode cJ0_indexOf_7cf53 30 = .ok (.invokevirtual 505, 3) := by decide +kernel
theorem dJ0_indexOf_7cf53_33 : decode cJ0_indexOf_7cf53 33 = .ok (.invokestatic 640, 3) := by decide +kernel
theorem dJ0_indexOf_7cf53_36 : decode cJ0_indexOf_7cf53 36 = .ok (.ireturn, 1) := by decide +kernel
theorem dJ0_coder_7d493_0 : decode cJ0_coder_7d493 0 = .ok (.getstatic 38, 3) := by decide +kernel
theorem dJ0_coder_7d493_3 : decode cJ0_coder_7d493 3 = .ok (.ifCond .eq 10, 3) := by decide +kernel
theorem dJ0_coder_7d493_6 : decode cJ0_coder_7d493 6 = .ok (.aload_n 0, 1) := by decide +kernel
theorem dJ0_coder_7d493_7 : decode cJ0_coder_7d493 7 = .ok (.getfield 15, 3) := by decide +kernel
theorem dJ0_coder_7d493_10 : decode cJ0_coder_7d493 10 = .ok (.goto 4, 3) := by decide +kernel
theorem dJ0_coder_7d493_13 : decode cJ0_coder_7d493 13 = .ok (.iconst 1, 1) := by decide +kernel
theorem dJ0_coder_7d493_14 : decode cJ0_coder_7d493 14 = .ok (.ireturn, 1) := by decide +kernel
theorem dJ0_isLatin1_aae02_0 : decode cJ0_isLatin1_aae02 0 = .ok (.getstatic 38, 3) := by decide +kernel
theorem dJ0_isLatin1_aae02_3 : decode cJ0_isLatin1_aae02 3 = .ok (.ifCond .eq 14, 3) := by decide +kernel
theorem dJ0_isLatin1_aae02_6 : decode cJ0_isLatin1_aae02 6 = .ok (.aload_n 0, 1) := by decide +kernel
theorem dJ0_isLatin1_aae02_7 : decode cJ0_isLatin1_aae02 7 = .ok (.getfield 15, 3) := by decide +kernel
theorem dJ0_isLatin1_aae02_10 : decode cJ0_isLatin1_aae02 10 = .ok (.ifCond .ne 7, 3) := by decide +kernel
theorem dJ0_isLatin1_aae02_13 : decode cJ0_isLatin1_aae02 13 = .ok (.iconst 1, 1) := by decide +kernel
theorem dJ0_isLatin1_aae02_14 : decode cJ0_isLatin1_aae02 14 = .ok (.goto 4, 3) := by decide +kernel
theorem dJ0_isLatin1_aae02_17 : decode cJ0_isLatin1_aae02 17 = .ok (.iconst 0, 1) := by decide +kernel
theorem dJ0_isLatin1_aae02_18 : decode cJ0_isLatin1_aae02 18 = .ok (.ireturn, 1) := by decide +kernel
theorem dJ0_checkBoundsBeginEnd_23922_0 : decode cJ0_checkBoundsBeginEnd_23922 0 = .ok (.iload_n 0, 1) := by decide +kernel
theorem dJ0_checkBoundsBeginEnd_23922_1 : decode cJ0_checkBoundsBeginEnd_23922 1 = .ok (.iload_n 1, 1) := by decide +kernel
theorem dJ0_checkBoundsBeginEnd_23922_2 : decode cJ0_checkBoundsBeginEnd_23922 2 = .ok (.iload_n 2, 1) := by decide +kernel
theorem dJ0_checkBoundsBeginEnd_23922_3 : decode cJ0_checkBoundsBeginEnd_23922 3 = .ok (.getstatic 1053, 3) := by decide +kernel
theorem dJ0_checkBoundsBeginEnd_23922_6 : decode cJ0_checkBoundsBeginEnd_23922 6 = .ok (.invokestatic 1062, 3) := by decide +kernel
theorem dJ0_checkBoundsBeginEnd_23922_9 : decode cJ0_checkBoundsBeginEnd_23922 9 = .ok (.pop, 1) := by decide +kernel
theorem dJ0_checkBoundsBeginEnd_23922_10 : decode cJ0_checkBoundsBeginEnd_23922 10 = .ok (.return_, 1) := by decide +kernel
theorem dJ1_canEncode_9a6ad_0 : decode cJ1_canEncode_9a6ad 0 = .ok (.iload_n 0, 1) := by decide +kernel
theorem dJ1_canEncode_9a6ad_1 : decode cJ1_canEncode_9a6ad 1 = .ok (.ifCond .lt 14, 3) := by decide +kernel
theorem dJ1_canEncode_9a6ad_4 : decode cJ1_canEncode_9a6ad 4 = .ok (.iload_n 0, 1) := by decide +kernel
theorem dJ1_canEncode_9a6ad_5 : decode cJ1_canEncode_9a6ad 5 = .ok (.sipush 255, 3) := by decide +kernel
theorem dJ1_canEncode_9a6ad_8 : decode cJ1_canEncode_9a6ad 8 = .ok (.if_icmp .gt 7, 3) := by decide +kernel
theorem dJ1_canEncode_9a6ad_11 : decode cJ1_canEncode_9a6ad 11 = .ok (.iconst 1, 1) := by decide +kernel
theorem dJ1_canEncode_9a6ad_12 : decode cJ1_canEncode_9a6ad 12 = .ok (.goto 4, 3) := by decide +kernel
theorem dJ1_canEncode_9a6ad_15 : decode cJ1_canEncode_9a6ad 15 = .ok (.iconst 0, 1) := by decide +kernel
theorem dJ1_canEncode_9a6ad_16 : decode cJ1_canEncode_9a6ad 16 = .ok (.ireturn, 1) := by decide +kernel
theorem dJ1_indexOf_4cfef_0 : decode cJ1_indexOf_4cfef 0 = .ok (.iload_n 1, 1) := by decide +kernel
theorem dJ1_indexOf_4cfef_1 : decode cJ1_indexOf_4cfef 1 = .ok (.invokestatic 88, 3) := by decide +kernel
theorem dJ1_indexOf_4cfef_4 : decode cJ1_indexOf_4cfef 4 = .ok (.ifCond .ne 5, 3) := by decide +kernel
theorem dJ1_indexOf_4cfef_7 : decode cJ1_indexOf_4cfef 7 = .ok (.iconst (-1), 1) := by decide +kernel
theorem dJ1_indexOf_4cfef_8 : decode cJ1_indexOf_4cfef 8 = .ok (.ireturn, 1) := by decide +kernel
theorem dJ1_indexOf_4cfef_9 : decode cJ1_indexOf_4cfef 9 = .ok (.iload_n 2, 1) := by decide +kernel
theorem dJ1_indexOf_4cfef_10 : decode cJ1_indexOf_4cfef 10 = .ok (.iconst 0, 1) := by decide +kernel
theorem dJ1_indexOf_4cfef_11 : decode cJ1_indexOf_4cfef 11 = .ok (.invokestatic 92, 3) := by decide +kernel
theorem dJ1_indexOf_4cfef_14 : decode cJ1_indexOf_4cfef 14 = .ok (.istore_n 2, 1) := by decide +kernel
theorem dJ1_indexOf_4cfef_15 : decode cJ1_indexOf_4cfef 15 = .ok (.iload_n 3, 1) := by decide +kernel
theorem dJ1_indexOf_4cfef_16 : decode cJ1_indexOf_4cfef 16 = .ok (.aload_n 0, 1) := by decide +kernel
theorem dJ1_indexOf_4cfef_17 : decode cJ1_indexOf_4cfef 17 = .ok (.arraylength, 1) := by decide +kernel
theorem dJ1_indexOf_4cfef_18 : decode cJ1_indexOf_4cfef 18 = .ok (.invokestatic 38, 3) := by decide +kernel
theorem dJ1_indexOf_4cfef_21 : decode cJ1_indexOf_4cfef 21 = .ok (.istore_n 3, 1) := by decide +kernel
theorem dJ1_indexOf_4cfef_22 : decode cJ1_indexOf_4cfef 22 = .ok (.iload_n 2, 1) := by decide +kernel
theorem dJ1_indexOf_4cfef_23 : decode cJ1_indexOf_4cfef 23 = .ok (.iload_n 3, 1) := by decide +kernel
theorem dJ1_indexOf_4cfef_24 : decode cJ1_indexOf_4cfef 24 = .ok (.if_icmp .lt 5, 3) := by decide +kernel
theorem dJ1_indexOf_4cfef_27 : decode cJ1_indexOf_4cfef 27 = .ok (.iconst (-1), 1) := by decide +kernel
theorem dJ1_indexOf_4cfef_28 : decode cJ1_indexOf_4cfef 28 = .ok (.ireturn, 1) := by decide +kernel
theorem dJ1_indexOf_4cfef_29 : decode cJ1_indexOf_4cfef 29 = .ok (.aload_n 0, 1) := by decide +kernel
theorem dJ1_indexOf_4cfef_30 : decode cJ1_indexOf_4cfef 30 = .ok (.iload_n 1, 1) := by decide +kernel
theorem dJ1_indexOf_4cfef_31 : decode cJ1_indexOf_4cfef 31 = .ok (.iload_n 2, 1) := by decide +kernel
theorem dJ1_indexOf_4cfef_32 : decode cJ1_indexOf_4cfef 32 = .ok (.iload_n 3, 1) := by decide +kernel
theorem dJ1_indexOf_4cfef_33 : decode cJ1_indexOf_4cfef 33 = .ok (.invokestatic 95, 3) := by decide +kernel
theorem dJ1_indexOf_4cfef_36 : decode cJ1_indexOf_4cfef 36 = .ok (.ireturn, 1) := by decide +kernel
theorem dJ1_indexOfChar_4cfef_0 : decode cJ1_indexOfChar_4cfef 0 = .ok (.iload_n 1, 1) := by decide +kernel
theorem dJ1_indexOfChar_4cfef_1 : decode cJ1_indexOfChar_4cfef 1 = .ok (.i2b, 1) := by decide +kernel
theorem dJ1_indexOfChar_4cfef_2 : decode cJ1_indexOfChar_4cfef 2 = .ok (.istore 4, 2) := by decide +kernel
theorem dJ1_indexOfChar_4cfef_4 : decode cJ1_indexOfChar_4cfef 4 = .ok (.iload_n 2, 1) := by decide +kernel
theorem dJ1_indexOfChar_4cfef_5 : decode cJ1_indexOfChar_4cfef 5 = .ok (.istore 5, 2) := by decide +kernel
theorem dJ1_indexOfChar_4cfef_7 : decode cJ1_indexOfChar_4cfef 7 = .ok (.iload 5, 2) := by decide +kernel
theorem dJ1_indexOfChar_4cfef_9 : decode cJ1_indexOfChar_4cfef 9 = .ok (.iload_n 3, 1) := by decide +kernel
theorem dJ1_indexOfChar_4cfef_10 : decode cJ1_indexOfChar_4cfef 10 = .ok (.if_icmp .ge 21, 3) := by decide +kernel
theorem dJ1_indexOfChar_4cfef_13 : decode cJ1_indexOfChar_4cfef 13 = .ok (.aload_n 0, 1) := by decide +kernel
theorem dJ1_indexOfChar_4cfef_14 : decode cJ1_indexOfChar_4cfef 14 = .ok (.iload 5, 2) := by decide +kernel
theorem dJ1_indexOfChar_4cfef_16 : decode cJ1_indexOfChar_4cfef 16 = .ok (.baload, 1) := by decide +kernel
theorem dJ1_indexOfChar_4cfef_17 : decode cJ1_indexOfChar_4cfef 17 = .ok (.iload 4, 2) := by decide +kernel
theorem dJ1_indexOfChar_4cfef_19 : decode cJ1_indexOfChar_4cfef 19 = .ok (.if_icmp .ne 6, 3) := by decide +kernel
theorem dJ1_indexOfChar_4cfef_22 : decode cJ1_indexOfChar_4cfef 22 = .ok (.iload 5, 2) := by decide +kernel
theorem dJ1_indexOfChar_4cfef_24 : decode cJ1_indexOfChar_4cfef 24 = .ok (.ireturn, 1) := by decide +kernel
theorem dJ1_indexOfChar_4cfef_25 : decode cJ1_indexOfChar_4cfef 25 = .ok (.iinc 5 1, 3) := by decide +kernel
theorem dJ1_indexOfChar_4cfef_28 : decode cJ1_indexOfChar_4cfef 28 = .ok (.goto (-21), 3) := by decide +kernel
theorem dJ1_indexOfChar_4cfef_31 : decode cJ1_indexOfChar_4cfef 31 = .ok (.iconst (-1), 1) := by decide +kernel
theorem dJ1_indexOfChar_4cfef_32 : decode cJ1_indexOfChar_4cfef 32 = .ok (.ireturn, 1) := by decide +kernel
theorem dJ2_getChar_3b067_0 : decode cJ2_getChar_3b067 0 = .ok (.getstatic 44, 3) := by decide +kernel
theorem dJ2_getChar_3b067_3 : decode cJ2_getChar_3b067 3 = .ok (.ifCond .ne 25, 3) := by decide +kernel
theorem dJ2_getChar_3b067_6 : decode cJ2_getChar_3b067 6 = .ok (.iload_n 1, 1) := by decide +kernel
theorem dJ2_getChar_3b067_7 : decode cJ2_getChar_3b067 7 = .ok (.ifCond .lt 11, 3) := by decide +kernel
theorem dJ2_getChar_3b067_10 : decode cJ2_getChar_3b067 10 = .ok (.iload_n 1, 1) := by decide +kernel
theorem dJ2_getChar_3b067_11 : decode cJ2_getChar_3b067 11 = .ok (.aload_n 0, 1) := by decide +kernel
theorem dJ2_getChar_3b067_12 : decode cJ2_getChar_3b067 12 = .ok (.invokestatic 48, 3) := by decide +kernel
theorem dJ2_getChar_3b067_15 : decode cJ2_getChar_3b067 15 = .ok (.if_icmp .lt 13, 3) := by decide +kernel
theorem dJ2_getChar_3b067_18 : decode cJ2_getChar_3b067 18 = .ok (.new 52, 3) := by decide +kernel
theorem dJ2_getChar_3b067_21 : decode cJ2_getChar_3b067 21 = .ok (.dup, 1) := by decide +kernel
theorem dJ2_getChar_3b067_22 : decode cJ2_getChar_3b067 22 = .ok (.ldc 54, 2) := by decide +kernel
theorem dJ2_getChar_3b067_24 : decode cJ2_getChar_3b067 24 = .ok (.invokespecial 56, 3) := by decide +kernel
theorem dJ2_getChar_3b067_27 : decode cJ2_getChar_3b067 27 = .ok (.athrow, 1) := by decide +kernel
theorem dJ2_getChar_3b067_28 : decode cJ2_getChar_3b067 28 = .ok (.iload_n 1, 1) := by decide +kernel
theorem dJ2_getChar_3b067_29 : decode cJ2_getChar_3b067 29 = .ok (.iconst 1, 1) := by decide +kernel
theorem dJ2_getChar_3b067_30 : decode cJ2_getChar_3b067 30 = .ok (.ishl, 1) := by decide +kernel
theorem dJ2_getChar_3b067_31 : decode cJ2_getChar_3b067 31 = .ok (.istore_n 1, 1) := by decide +kernel
theorem dJ2_getChar_3b067_32 : decode cJ2_getChar_3b067 32 = .ok (.aload_n 0, 1) := by decide +kernel
theorem dJ2_getChar_3b067_33 : decode cJ2_getChar_3b067 33 = .ok (.iload_n 1, 1) := by decide +kernel
theorem dJ2_getChar_3b067_34 : decode cJ2_getChar_3b067 34 = .ok (.iinc 1 1, 3) := by decide +kernel
theorem dJ2_getChar_3b067_37 : decode cJ2_getChar_3b067 37 = .ok (.baload, 1) := by decide +kernel
theorem dJ2_getChar_3b067_38 : decode cJ2_getChar_3b067 38 = .ok (.sipush 255, 3) := by decide +kernel
theorem dJ2_getChar_3b067_41 : decode cJ2_getChar_3b067 41 = .ok (.iand, 1) := by decide +kernel
theorem dJ2_getChar_3b067_42 : decode cJ2_getChar_3b067 42 = .ok (.getstatic 59, 3) := by decide +kernel
theorem dJ2_getChar_3b067_45 : decode cJ2_getChar_3b067 45 = .ok (.ishl, 1) := by decide +kernel
theorem dJ2_getChar_3b067_46 : decode cJ2_getChar_3b067 46 = .ok (.aload_n 0, 1) := by decide +kernel
theorem dJ2_getChar_3b067_47 : decode cJ2_getChar_3b067 47 = .ok (.iload_n 1, 1) := by decide +kernel
theorem dJ2_getChar_3b067_48 : decode cJ2_getChar_3b067 48 = .ok (.baload, 1) := by decide +kernel
theorem dJ2_getChar_3b067_49 : decode cJ2_getChar_3b067 49 = .ok (.sipush 255, 3) := by decide +kernel
theorem dJ2_getChar_3b067_52 : decode cJ2_getChar_3b067 52 = .ok (.iand, 1) := by decide +kernel
theorem dJ2_getChar_3b067_53 : decode cJ2_getChar_3b067 53 = .ok (.getstatic 63, 3) := by decide +kernel
theorem dJ2_getChar_3b067_56 : decode cJ2_getChar_3b067 56 = .ok (.ishl, 1) := by decide +kernel
theorem dJ2_getChar_3b067_57 : decode cJ2_getChar_3b067 57 = .ok (.ior, 1) := by decide +kernel
theorem dJ2_getChar_3b067_58 : decode cJ2_getChar_3b067 58 = .ok (.i2c, 1) := by decide +kernel
theorem dJ2_getChar_3b067_59 : decode cJ2_getChar_3b067 59 = .ok (.ireturn, 1) := by decide +kernel
theorem dJ2_length_9d52b_0 : decode cJ2_length_9d52b 0 = .ok (.aload_n 0, 1) := by decide +kernel
theorem dJ2_length_9d52b_1 : decode cJ2_length_9d52b 1 = .ok (.arraylength, 1) := by decide +kernel
theorem dJ2_length_9d52b_2 : decode cJ2_length_9d52b 2 = .ok (.iconst 1, 1) := by decide +kernel
theorem dJ2_length_9d52b_3 : decode cJ2_length_9d52b 3 = .ok (.ishr, 1) := by decide +kernel
theorem dJ2_length_9d52b_4 : decode cJ2_length_9d52b 4 = .ok (.ireturn, 1) := by decide +kernel
theorem dJ2_indexOf_4cfef_0 : decode cJ2_indexOf_4cfef 0 = .ok (.iload_n 2, 1) := by decide +kernel
theorem dJ2_indexOf_4cfef_1 : decode cJ2_indexOf_4cfef 1 = .ok (.iconst 0, 1) := by decide +kernel
theorem dJ2_indexOf_4cfef_2 : decode cJ2_indexOf_4cfef 2 = .ok (.invokestatic 224, 3) := by decide +kernel
theorem dJ2_indexOf_4cfef_5 : decode cJ2_indexOf_4cfef 5 = .ok (.istore_n 2, 1) := by decide +kernel
theorem dJ2_indexOf_4cfef_6 : decode cJ2_indexOf_4cfef 6 = .ok (.iload_n 3, 1) := by decide +kernel
theorem dJ2_indexOf_4cfef_7 : decode cJ2_indexOf_4cfef 7 = .ok (.aload_n 0, 1) := by decide +kernel
theorem dJ2_indexOf_4cfef_8 : decode cJ2_indexOf_4cfef 8 = .ok (.arraylength, 1) := by decide +kernel
theorem dJ2_indexOf_4cfef_9 : decode cJ2_indexOf_4cfef 9 = .ok (.iconst 1, 1) := by decide +kernel
theorem dJ2_indexOf_4cfef_10 : decode cJ2_indexOf_4cfef 10 = .ok (.ishr, 1) := by decide +kernel
theorem dJ2_indexOf_4cfef_11 : decode cJ2_indexOf_4cfef 11 = .ok (.invokestatic 183, 3) := by decide +kernel
theorem dJ2_indexOf_4cfef_14 : decode cJ2_indexOf_4cfef 14 = .ok (.istore_n 3, 1) := by decide +kernel
theorem dJ2_indexOf_4cfef_15 : decode cJ2_indexOf_4cfef 15 = .ok (.iload_n 2, 1) := by decide +kernel
theorem dJ2_indexOf_4cfef_16 : decode cJ2_indexOf_4cfef 16 = .ok (.iload_n 3, 1) := by decide +kernel
theorem dJ2_indexOf_4cfef_17 : decode cJ2_indexOf_4cfef 17 = .ok (.if_icmp .lt 5, 3) := by decide +kernel
theorem dJ2_indexOf_4cfef_20 : decode cJ2_indexOf_4cfef 20 = .ok (.iconst (-1), 1) := by decide +kernel
theorem dJ2_indexOf_4cfef_21 : decode cJ2_indexOf_4cfef 21 = .ok (.ireturn, 1) := by decide +kernel
theorem dJ2_indexOf_4cfef_22 : decode cJ2_indexOf_4cfef 22 = .ok (.iload_n 1, 1) := by decide +kernel
theorem dJ2_indexOf_4cfef_23 : decode cJ2_indexOf_4cfef 23 = .ok (.ldc 227, 2) := by decide +kernel
theorem dJ2_indexOf_4cfef_25 : decode cJ2_indexOf_4cfef 25 = .ok (.if_icmp .ge 11, 3) := by decide +kernel
theorem dJ2_indexOf_4cfef_28 : decode cJ2_indexOf_4cfef 28 = .ok (.aload_n 0, 1) := by decide +kernel
theorem dJ2_indexOf_4cfef_29 : decode cJ2_indexOf_4cfef 29 = .ok (.iload_n 1, 1) := by decide +kernel
theorem dJ2_indexOf_4cfef_30 : decode cJ2_indexOf_4cfef 30 = .ok (.iload_n 2, 1) := by decide +kernel
theorem dJ2_indexOf_4cfef_31 : decode cJ2_indexOf_4cfef 31 = .ok (.iload_n 3, 1) := by decide +kernel
theorem dJ2_indexOf_4cfef_32 : decode cJ2_indexOf_4cfef 32 = .ok (.invokestatic 228, 3) := by decide +kernel
theorem dJ2_indexOf_4cfef_35 : decode cJ2_indexOf_4cfef 35 = .ok (.ireturn, 1) := by decide +kernel
theorem dJ2_indexOf_4cfef_36 : decode cJ2_indexOf_4cfef 36 = .ok (.aload_n 0, 1) := by decide +kernel
theorem dJ2_indexOf_4cfef_37 : decode cJ2_indexOf_4cfef 37 = .ok (.iload_n 1, 1) := by decide +kernel
theorem dJ2_indexOf_4cfef_38 : decode cJ2_indexOf_4cfef 38 = .ok (.iload_n 2, 1) := by decide +kernel
theorem dJ2_indexOf_4cfef_39 : decode cJ2_indexOf_4cfef 39 = .ok (.iload_n 3, 1) := by decide +kernel
theorem dJ2_indexOf_4cfef_40 : decode cJ2_indexOf_4cfef 40 = .ok (.invokestatic 232, 3) := by decide +kernel
theorem dJ2_indexOf_4cfef_43 : decode cJ2_indexOf_4cfef 43 = .ok (.ireturn, 1) := by decide +kernel
theorem dJ2_indexOfChar_4cfef_0 : decode cJ2_indexOfChar_4cfef 0 = .ok (.iload_n 2, 1) := by decide +kernel
theorem dJ2_indexOfChar_4cfef_1 : decode cJ2_indexOfChar_4cfef 1 = .ok (.iload_n 3, 1) := by decide +kernel
theorem dJ2_indexOfChar_4cfef_2 : decode cJ2_indexOfChar_4cfef 2 = .ok (.aload_n 0, 1) := by decide +kernel
theorem dJ2_indexOfChar_4cfef_3 : decode cJ2_indexOfChar_4cfef 3 = .ok (.invokestatic 96, 3) := by decide +kernel
theorem dJ2_indexOfChar_4cfef_6 : decode cJ2_indexOfChar_4cfef 6 = .ok (.aload_n 0, 1) := by decide +kernel
theorem dJ2_indexOfChar_4cfef_7 : decode cJ2_indexOfChar_4cfef 7 = .ok (.iload_n 1, 1) := by decide +kernel
theorem dJ2_indexOfChar_4cfef_8 : decode cJ2_indexOfChar_4cfef 8 = .ok (.iload_n 2, 1) := by decide +kernel
theorem dJ2_indexOfChar_4cfef_9 : decode cJ2_indexOfChar_4cfef 9 = .ok (.iload_n 3, 1) := by decide +kernel
theorem dJ2_indexOfChar_4cfef_10 : decode cJ2_indexOfChar_4cfef 10 = .ok (.invokestatic 244, 3) := by decide +kernel
theorem dJ2_indexOfChar_4cfef_13 : decode cJ2_indexOfChar_4cfef 13 = .ok (.ireturn, 1) := by decide +kernel
theorem dJ2_indexOfCharUnsafe_4cfef_0 : decode cJ2_indexOfCharUnsafe_4cfef 0 = .ok (.iload_n 2, 1) := by decide +kernel
theorem dJ2_indexOfCharUnsafe_4cfef_1 : decode cJ2_indexOfCharUnsafe_4cfef 1 = .ok (.istore 4, 2) := by decide +kernel
theorem dJ2_indexOfCharUnsafe_4cfef_3 : decode cJ2_indexOfCharUnsafe_4cfef 3 = .ok (.iload 4, 2) := by decide +kernel
theorem dJ2_indexOfCharUnsafe_4cfef_5 : decode cJ2_indexOfCharUnsafe_4cfef 5 = .ok (.iload_n 3, 1) := by decide +kernel
theorem dJ2_indexOfCharUnsafe_4cfef_6 : decode cJ2_indexOfCharUnsafe_4cfef 6 = .ok (.if_icmp .ge 22, 3) := by decide +kernel
theorem dJ2_indexOfCharUnsafe_4cfef_9 : decode cJ2_indexOfCharUnsafe_4cfef 9 = .ok (.aload_n 0, 1) := by decide +kernel
theorem dJ2_indexOfCharUnsafe_4cfef_10 : decode cJ2_indexOfCharUnsafe_4cfef 10 = .ok (.iload 4, 2) := by decide +kernel
theorem dJ2_indexOfCharUnsafe_4cfef_12 : decode cJ2_indexOfCharUnsafe_4cfef 12 = .ok (.invokestatic 71, 3) := by decide +kernel
theorem dJ2_indexOfCharUnsafe_4cfef_15 : decode cJ2_indexOfCharUnsafe_4cfef 15 = .ok (.iload_n 1, 1) := by decide +kernel
theorem dJ2_indexOfCharUnsafe_4cfef_16 : decode cJ2_indexOfCharUnsafe_4cfef 16 = .ok (.if_icmp .ne 6, 3) := by decide +kernel
theorem dJ2_indexOfCharUnsafe_4cfef_19 : decode cJ2_indexOfCharUnsafe_4cfef 19 = .ok (.iload 4, 2) := by decide +kernel
theorem dJ2_indexOfCharUnsafe_4cfef_21 : decode cJ2_indexOfCharUnsafe_4cfef 21 = .ok (.ireturn, 1) := by decide +kernel
theorem dJ2_indexOfCharUnsafe_4cfef_22 : decode cJ2_indexOfCharUnsafe_4cfef 22 = .ok (.iinc 4 1, 3) := by decide +kernel
theorem dJ2_indexOfCharUnsafe_4cfef_25 : decode cJ2_indexOfCharUnsafe_4cfef 25 = .ok (.goto (-22), 3) := by decide +kernel
theorem dJ2_indexOfCharUnsafe_4cfef_28 : decode cJ2_indexOfCharUnsafe_4cfef 28 = .ok (.iconst (-1), 1) := by decide +kernel
theorem dJ2_indexOfCharUnsafe_4cfef_29 : decode cJ2_indexOfCharUnsafe_4cfef 29 = .ok (.ireturn, 1) := by decide +kernel
theorem dJ2_indexOfSupplementary_4cfef_0 : decode cJ2_indexOfSupplementary_4cfef 0 = .ok (.iload_n 1, 1) := by decide +kernel
theorem dJ2_indexOfSupplementary_4cfef_1 : decode cJ2_indexOfSupplementary_4cfef 1 = .ok (.invokestatic 164, 3) := by decide +kernel
theorem dJ2_indexOfSupplementary_4cfef_4 : decode cJ2_indexOfSupplementary_4cfef 4 = .ok (.ifCond .eq 65, 3) := by decide +kernel
theorem dJ2_indexOfSupplementary_4cfef_7 : decode cJ2_indexOfSupplementary_4cfef 7 = .ok (.iload_n 1, 1) := by decide +kernel
theorem dJ2_indexOfSupplementary_4cfef_8 : decode cJ2_indexOfSupplementary_4cfef 8 = .ok (.invokestatic 157, 3) := by decide +kernel
theorem dJ2_indexOfSupplementary_4cfef_11 : decode cJ2_indexOfSupplementary_4cfef 11 = .ok (.istore 4, 2) := by decide +kernel
theorem dJ2_indexOfSupplementary_4cfef_13 : decode cJ2_indexOfSupplementary_4cfef 13 = .ok (.iload_n 1, 1) := by decide +kernel
theorem dJ2_indexOfSupplementary_4cfef_14 : decode cJ2_indexOfSupplementary_4cfef 14 = .ok (.invokestatic 161, 3) := by decide +kernel
theorem dJ2_indexOfSupplementary_4cfef_17 : decode cJ2_indexOfSupplementary_4cfef 17 = .ok (.istore 5, 2) := by decide +kernel
theorem dJ2_indexOfSupplementary_4cfef_19 : decode cJ2_indexOfSupplementary_4cfef 19 = .ok (.iload_n 2, 1) := by decide +kernel
theorem dJ2_indexOfSupplementary_4cfef_20 : decode cJ2_indexOfSupplementary_4cfef 20 = .ok (.iload_n 3, 1) := by decide +kernel
theorem dJ2_indexOfSupplementary_4cfef_21 : decode cJ2_indexOfSupplementary_4cfef 21 = .ok (.aload_n 0, 1) := by decide +kernel
theorem dJ2_indexOfSupplementary_4cfef_22 : decode cJ2_indexOfSupplementary_4cfef 22 = .ok (.invokestatic 96, 3) := by decide +kernel
theorem dJ2_indexOfSupplementary_4cfef_25 : decode cJ2_indexOfSupplementary_4cfef 25 = .ok (.iload_n 2, 1) := by decide +kernel
theorem dJ2_indexOfSupplementary_4cfef_26 : decode cJ2_indexOfSupplementary_4cfef 26 = .ok (.istore 6, 2) := by decide +kernel
theorem dJ2_indexOfSupplementary_4cfef_28 : decode cJ2_indexOfSupplementary_4cfef 28 = .ok (.iload 6, 2) := by decide +kernel
theorem dJ2_indexOfSupplementary_4cfef_30 : decode cJ2_indexOfSupplementary_4cfef 30 = .ok (.iload_n 3, 1) := by decide +kernel
theorem dJ2_indexOfSupplementary_4cfef_31 : decode cJ2_indexOfSupplementary_4cfef 31 = .ok (.iconst 1, 1) := by decide +kernel
theorem dJ2_indexOfSupplementary_4cfef_32 : decode cJ2_indexOfSupplementary_4cfef 32 = .ok (.isub, 1) := by decide +kernel
theorem dJ2_indexOfSupplementary_4cfef_33 : decode cJ2_indexOfSupplementary_4cfef 33 = .ok (.if_icmp .ge 36, 3) := by decide +kernel
theorem dJ2_indexOfSupplementary_4cfef_36 : decode cJ2_indexOfSupplementary_4cfef 36 = .ok (.aload_n 0, 1) := by decide +kernel
theorem dJ2_indexOfSupplementary_4cfef_37 : decode cJ2_indexOfSupplementary_4cfef 37 = .ok (.iload 6, 2) := by decide +kernel
theorem dJ2_indexOfSupplementary_4cfef_39 : decode cJ2_indexOfSupplementary_4cfef 39 = .ok (.invokestatic 71, 3) := by decide +kernel
theorem dJ2_indexOfSupplementary_4cfef_42 : decode cJ2_indexOfSupplementary_4cfef 42 = .ok (.iload 4, 2) := by decide +kernel
theorem dJ2_indexOfSupplementary_4cfef_44 : decode cJ2_indexOfSupplementary_4cfef 44 = .ok (.if_icmp .ne 19, 3) := by decide +kernel
theorem dJ2_indexOfSupplementary_4cfef_47 : decode cJ2_indexOfSupplementary_4cfef 47 = .ok (.aload_n 0, 1) := by decide +kernel
theorem dJ2_indexOfSupplementary_4cfef_48 : decode cJ2_indexOfSupplementary_4cfef 48 = .ok (.iload 6, 2) := by decide +kernel
theorem dJ2_indexOfSupplementary_4cfef_50 : decode cJ2_indexOfSupplementary_4cfef 50 = .ok (.iconst 1, 1) := by decide +kernel
theorem dJ2_indexOfSupplementary_4cfef_51 : decode cJ2_indexOfSupplementary_4cfef 51 = .ok (.iadd, 1) := by decide +kernel
theorem dJ2_indexOfSupplementary_4cfef_52 : decode cJ2_indexOfSupplementary_4cfef 52 = .ok (.invokestatic 71, 3) := by decide +kernel
theorem dJ2_indexOfSupplementary_4cfef_55 : decode cJ2_indexOfSupplementary_4cfef 55 = .ok (.iload 5, 2) := by decide +kernel
theorem dJ2_indexOfSupplementary_4cfef_57 : decode cJ2_indexOfSupplementary_4cfef 57 = .ok (.if_icmp .ne 6, 3) := by decide +kernel
theorem dJ2_indexOfSupplementary_4cfef_60 : decode cJ2_indexOfSupplementary_4cfef 60 = .ok (.iload 6, 2) := by decide +kernel
theorem dJ2_indexOfSupplementary_4cfef_62 : decode cJ2_indexOfSupplementary_4cfef 62 = .ok (.ireturn, 1) := by decide +kernel
theorem dJ2_indexOfSupplementary_4cfef_63 : decode cJ2_indexOfSupplementary_4cfef 63 = .ok (.iinc 6 1, 3) := by decide +kernel
theorem dJ2_indexOfSupplementary_4cfef_66 : decode cJ2_indexOfSupplementary_4cfef 66 = .ok (.goto (-38), 3) := by decide +kernel
theorem dJ2_indexOfSupplementary_4cfef_69 : decode cJ2_indexOfSupplementary_4cfef 69 = .ok (.iconst (-1), 1) := by decide +kernel
theorem dJ2_indexOfSupplementary_4cfef_70 : decode cJ2_indexOfSupplementary_4cfef 70 = .ok (.ireturn, 1) := by decide +kernel
theorem dJ2_checkBoundsBeginEnd_d044e_0 : decode cJ2_checkBoundsBeginEnd_d044e 0 = .ok (.iload_n 0, 1) := by decide +kernel
theorem dJ2_checkBoundsBeginEnd_d044e_1 : decode cJ2_checkBoundsBeginEnd_d044e 1 = .ok (.iload_n 1, 1) := by decide +kernel
theorem dJ2_checkBoundsBeginEnd_d044e_2 : decode cJ2_checkBoundsBeginEnd_d044e 2 = .ok (.aload_n 2, 1) := by decide +kernel
theorem dJ2_checkBoundsBeginEnd_d044e_3 : decode cJ2_checkBoundsBeginEnd_d044e 3 = .ok (.invokestatic 48, 3) := by decide +kernel
theorem dJ2_checkBoundsBeginEnd_d044e_6 : decode cJ2_checkBoundsBeginEnd_d044e 6 = .ok (.invokestatic 241, 3) := by decide +kernel
theorem dJ2_checkBoundsBeginEnd_d044e_9 : decode cJ2_checkBoundsBeginEnd_d044e 9 = .ok (.return_, 1) := by decide +kernel
theorem dJ3_checkFromToIndex_8c36e_0 : decode cJ3_checkFromToIndex_8c36e 0 = .ok (.iload_n 0, 1) := by decide +kernel
theorem dJ3_checkFromToIndex_8c36e_1 : decode cJ3_checkFromToIndex_8c36e 1 = .ok (.ifCond .lt 13, 3) := by decide +kernel
theorem dJ3_checkFromToIndex_8c36e_4 : decode cJ3_checkFromToIndex_8c36e 4 = .ok (.iload_n 0, 1) := by decide +kernel
theorem dJ3_checkFromToIndex_8c36e_5 : decode cJ3_checkFromToIndex_8c36e 5 = .ok (.iload_n 1, 1) := by decide +kernel
theorem dJ3_checkFromToIndex_8c36e_6 : decode cJ3_checkFromToIndex_8c36e 6 = .ok (.if_icmp .gt 8, 3) := by decide +kernel
theorem dJ3_checkFromToIndex_8c36e_9 : decode cJ3_checkFromToIndex_8c36e 9 = .ok (.iload_n 1, 1) := by decide +kernel
theorem dJ3_checkFromToIndex_8c36e_10 : decode cJ3_checkFromToIndex_8c36e 10 = .ok (.iload_n 2, 1) := by decide +kernel
theorem dJ3_checkFromToIndex_8c36e_11 : decode cJ3_checkFromToIndex_8c36e 11 = .ok (.if_icmp .le 11, 3) := by decide +kernel
theorem dJ3_checkFromToIndex_8c36e_14 : decode cJ3_checkFromToIndex_8c36e 14 = .ok (.aload_n 3, 1) := by decide +kernel
theorem dJ3_checkFromToIndex_8c36e_15 : decode cJ3_checkFromToIndex_8c36e 15 = .ok (.iload_n 0, 1) := by decide +kernel
theorem dJ3_checkFromToIndex_8c36e_16 : decode cJ3_checkFromToIndex_8c36e 16 = .ok (.iload_n 1, 1) := by decide +kernel
theorem dJ3_checkFromToIndex_8c36e_17 : decode cJ3_checkFromToIndex_8c36e 17 = .ok (.iload_n 2, 1) := by decide +kernel
theorem dJ3_checkFromToIndex_8c36e_18 : decode cJ3_checkFromToIndex_8c36e 18 = .ok (.invokestatic 99, 3) := by decide +kernel
theorem dJ3_checkFromToIndex_8c36e_21 : decode cJ3_checkFromToIndex_8c36e 21 = .ok (.athrow, 1) := by decide +kernel
theorem dJ3_checkFromToIndex_8c36e_22 : decode cJ3_checkFromToIndex_8c36e 22 = .ok (.iload_n 0, 1) := by decide +kernel
theorem dJ3_checkFromToIndex_8c36e_23 : decode cJ3_checkFromToIndex_8c36e 23 = .ok (.ireturn, 1) := by decide +kernel
theorem dL_law_0 : decode cL_law 0 = .ok (.new 7, 3) := by decide +kernel
theorem dL_law_3 : decode cL_law 3 = .ok (.dup, 1) := by decide +kernel
theorem dL_law_4 : decode cL_law 4 = .ok (.invokespecial 9, 3) := by decide +kernel
theorem dL_law_7 : decode cL_law 7 = .ok (.astore_n 1, 1) := by decide +kernel
theorem dL_law_8 : decode cL_law 8 = .ok (.new 10, 3) := by decide +kernel
theorem dL_law_11 : decode cL_law 11 = .ok (.dup, 1) := by decide +kernel
theorem dL_law_12 : decode cL_law 12 = .ok (.invokespecial 12, 3) := by decide +kernel
theorem dL_law_15 : decode cL_law 15 = .ok (.astore_n 2, 1) := by decide +kernel
theorem dL_law_16 : decode cL_law 16 = .ok (.iconst 0, 1) := by decide +kernel
theorem dL_law_17 : decode cL_law 17 = .ok (.istore_n 3, 1) := by decide +kernel
theorem dL_law_18 : decode cL_law 18 = .ok (.iload_n 3, 1) := by decide +kernel
theorem dL_law_19 : decode cL_law 19 = .ok (.aload_n 0, 1) := by decide +kernel
theorem dL_law_20 : decode cL_law 20 = .ok (.arraylength, 1) := by decide +kernel
theorem dL_law_21 : decode cL_law 21 = .ok (.iconst 4, 1) := by decide +kernel
theorem dL_law_22 : decode cL_law 22 = .ok (.isub, 1) := by decide +kernel
theorem dL_law_23 : decode cL_law 23 = .ok (.if_icmp .gt 746, 3) := by decide +kernel
theorem dL_law_26 : decode cL_law 26 = .ok (.aload_n 0, 1) := by decide +kernel
theorem dL_law_27 : decode cL_law 27 = .ok (.iload_n 3, 1) := by decide +kernel
theorem dL_law_28 : decode cL_law 28 = .ok (.iaload, 1) := by decide +kernel
theorem dL_law_29 : decode cL_law 29 = .ok (.bipush 31, 2) := by decide +kernel
theorem dL_law_31 : decode cL_law 31 = .ok (.iand, 1) := by decide +kernel
theorem dL_law_32 : decode cL_law 32 = .ok (.tableswitch 731 0 23 #[112, 135, 148, 161, 174, 207, 240, 273, 306, 319, 342, 375, 398, 441, 474, 487, 510, 553, 612, 625, 668, 681, 694, 717], 112) := by decide +kernel
theorem dL_law_144 : decode cL_law 144 = .ok (.aload_n 1, 1) := by decide +kernel
theorem dL_law_145 : decode cL_law 145 = .ok (.aload_n 0, 1) := by decide +kernel
theorem dL_law_146 : decode cL_law 146 = .ok (.iload_n 3, 1) := by decide +kernel
theorem dL_law_147 : decode cL_law 147 = .ok (.iconst 1, 1) := by decide +kernel
theorem dL_law_148 : decode cL_law 148 = .ok (.iadd, 1) := by decide +kernel
theorem dL_law_149 : decode cL_law 149 = .ok (.iaload, 1) := by decide +kernel
theorem dL_law_150 : decode cL_law 150 = .ok (.invokevirtual 13, 3) := by decide +kernel
theorem dL_law_153 : decode cL_law 153 = .ok (.aload_n 2, 1) := by decide +kernel
theorem dL_law_154 : decode cL_law 154 = .ok (.aload_n 0, 1) := by decide +kernel
theorem dL_law_155 : decode cL_law 155 = .ok (.iload_n 3, 1) := by decide +kernel
theorem dL_law_156 : decode cL_law 156 = .ok (.iconst 1, 1) := by decide +kernel
theorem dL_law_157 : decode cL_law 157 = .ok (.iadd, 1) := by decide +kernel
theorem dL_law_158 : decode cL_law 158 = .ok (.iaload, 1) := by decide +kernel
theorem dL_law_159 : decode cL_law 159 = .ok (.invokevirtual 17, 3) := by decide +kernel
theorem dL_law_162 : decode cL_law 162 = .ok (.if_icmp .eq 601, 3) := by decide +kernel
theorem dL_law_165 : decode cL_law 165 = .ok (.iconst 0, 1) := by decide +kernel
theorem dL_law_166 : decode cL_law 166 = .ok (.ireturn, 1) := by decide +kernel
theorem dL_law_167 : decode cL_law 167 = .ok (.aload_n 1, 1) := by decide +kernel
theorem dL_law_168 : decode cL_law 168 = .ok (.invokevirtual 18, 3) := by decide +kernel
theorem dL_law_171 : decode cL_law 171 = .ok (.aload_n 2, 1) := by decide +kernel
theorem dL_law_172 : decode cL_law 172 = .ok (.invokevirtual 22, 3) := by decide +kernel
theorem dL_law_175 : decode cL_law 175 = .ok (.if_icmp .eq 588, 3) := by decide +kernel
theorem dL_law_178 : decode cL_law 178 = .ok (.iconst 0, 1) := by decide +kernel
theorem dL_law_179 : decode cL_law 179 = .ok (.ireturn, 1) := by decide +kernel
theorem dL_law_180 : decode cL_law 180 = .ok (.aload_n 1, 1) := by decide +kernel
theorem dL_law_181 : decode cL_law 181 = .ok (.invokevirtual 23, 3) := by decide +kernel
theorem dL_law_184 : decode cL_law 184 = .ok (.aload_n 2, 1) := by decide +kernel
theorem dL_law_185 : decode cL_law 185 = .ok (.invokevirtual 26, 3) := by decide +kernel
theorem dL_law_188 : decode cL_law 188 = .ok (.if_icmp .eq 575, 3) := by decide +kernel
theorem dL_law_191 : decode cL_law 191 = .ok (.iconst 0, 1) := by decide +kernel
theorem dL_law_192 : decode cL_law 192 = .ok (.ireturn, 1) := by decide +kernel
theorem dL_law_193 : decode cL_law 193 = .ok (.aload_n 1, 1) := by decide +kernel
theorem dL_law_194 : decode cL_law 194 = .ok (.invokevirtual 27, 3) := by decide +kernel
theorem dL_law_197 : decode cL_law 197 = .ok (.aload_n 2, 1) := by decide +kernel
theorem dL_law_198 : decode cL_law 198 = .ok (.invokevirtual 30, 3) := by decide +kernel
theorem dL_law_201 : decode cL_law 201 = .ok (.if_icmp .eq 562, 3) := by decide +kernel
theorem dL_law_204 : decode cL_law 204 = .ok (.iconst 0, 1) := by decide +kernel
theorem dL_law_205 : decode cL_law 205 = .ok (.ireturn, 1) := by decide +kernel
theorem dL_law_206 : decode cL_law 206 = .ok (.aload_n 1, 1) := by decide +kernel
theorem dL_law_207 : decode cL_law 207 = .ok (.aload_n 0, 1) := by decide +kernel
theorem dL_law_208 : decode cL_law 208 = .ok (.iload_n 3, 1) := by decide +kernel
theorem dL_law_209 : decode cL_law 209 = .ok (.iconst 1, 1) := by decide +kernel
theorem dL_law_210 : decode cL_law 210 = .ok (.iadd, 1) := by decide +kernel
theorem dL_law_211 : decode cL_law 211 = .ok (.iaload, 1) := by decide +kernel
theorem dL_law_212 : decode cL_law 212 = .ok (.aload_n 0, 1) := by decide +kernel
theorem dL_law_213 : decode cL_law 213 = .ok (.iload_n 3, 1) := by decide +kernel
theorem dL_law_214 : decode cL_law 214 = .ok (.iconst 2, 1) := by decide +kernel
theorem dL_law_215 : decode cL_law 215 = .ok (.iadd, 1) := by decide +kernel
theorem dL_law_216 : decode cL_law 216 = .ok (.iaload, 1) := by decide +kernel
theorem dL_law_217 : decode cL_law 217 = .ok (.invokevirtual 31, 3) := by decide +kernel
theorem dL_law_220 : decode cL_law 220 = .ok (.aload_n 2, 1) := by decide +kernel
theorem dL_law_221 : decode cL_law 221 = .ok (.aload_n 0, 1) := by decide +kernel
theorem dL_law_222 : decode cL_law 222 = .ok (.iload_n 3, 1) := by decide +kernel
theorem dL_law_223 : decode cL_law 223 = .ok (.iconst 1, 1) := by decide +kernel
theorem dL_law_224 : decode cL_law 224 = .ok (.iadd, 1) := by decide +kernel
theorem dL_law_225 : decode cL_law 225 = .ok (.iaload, 1) := by decide +kernel
theorem dL_law_226 : decode cL_law 226 = .ok (.aload_n 0, 1) := by decide +kernel
theorem dL_law_227 : decode cL_law 227 = .ok (.iload_n 3, 1) := by decide +kernel
theorem dL_law_228 : decode cL_law 228 = .ok (.iconst 2, 1) := by decide +kernel
theorem dL_law_229 : decode cL_law 229 = .ok (.iadd, 1) := by decide +kernel
theorem dL_law_230 : decode cL_law 230 = .ok (.iaload, 1) := by decide +kernel
theorem dL_law_231 : decode cL_law 231 = .ok (.invokevirtual 35, 3) := by decide +kernel
theorem dL_law_234 : decode cL_law 234 = .ok (.if_icmp .eq 529, 3) := by decide +kernel
theorem dL_law_237 : decode cL_law 237 = .ok (.iconst 0, 1) := by decide +kernel
theorem dL_law_238 : decode cL_law 238 = .ok (.ireturn, 1) := by decide +kernel
theorem dL_law_239 : decode cL_law 239 = .ok (.aload_n 1, 1) := by decide +kernel
theorem dL_law_240 : decode cL_law 240 = .ok (.aload_n 0, 1) := by decide +kernel
theorem dL_law_241 : decode cL_law 241 = .ok (.iload_n 3, 1) := by decide +kernel
theorem dL_law_242 : decode cL_law 242 = .ok (.iconst 1, 1) := by decide +kernel
theorem dL_law_243 : decode cL_law 243 = .ok (.iadd, 1) := by decide +kernel
theorem dL_law_244 : decode cL_law 244 = .ok (.iaload, 1) := by decide +kernel
theorem dL_law_245 : decode cL_law 245 = .ok (.aload_n 0, 1) := by decide +kernel
theorem dL_law_246 : decode cL_law 246 = .ok (.iload_n 3, 1) := by decide +kernel
theorem dL_law_247 : decode cL_law 247 = .ok (.iconst 2, 1) := by decide +kernel
theorem dL_law_248 : decode cL_law 248 = .ok (.iadd, 1) := by decide +kernel
theorem dL_law_249 : decode cL_law 249 = .ok (.iaload, 1) := by decide +kernel
theorem dL_law_250 : decode cL_law 250 = .ok (.invokevirtual 36, 3) := by decide +kernel
theorem dL_law_253 : decode cL_law 253 = .ok (.aload_n 2, 1) := by decide +kernel
theorem dL_law_254 : decode cL_law 254 = .ok (.aload_n 0, 1) := by decide +kernel
theorem dL_law_255 : decode cL_law 255 = .ok (.iload_n 3, 1) := by decide +kernel
theorem dL_law_256 : decode cL_law 256 = .ok (.iconst 1, 1) := by decide +kernel
theorem dL_law_257 : decode cL_law 257 = .ok (.iadd, 1) := by decide +kernel
theorem dL_law_258 : decode cL_law 258 = .ok (.iaload, 1) := by decide +kernel
theorem dL_law_259 : decode cL_law 259 = .ok (.aload_n 0, 1) := by decide +kernel
theorem dL_law_260 : decode cL_law 260 = .ok (.iload_n 3, 1) := by decide +kernel
theorem dL_law_261 : decode cL_law 261 = .ok (.iconst 2, 1) := by decide +kernel
theorem dL_law_262 : decode cL_law 262 = .ok (.iadd, 1) := by decide +kernel
theorem dL_law_263 : decode cL_law 263 = .ok (.iaload, 1) := by decide +kernel
theorem dL_law_264 : decode cL_law 264 = .ok (.invokevirtual 39, 3) := by decide +kernel
theorem dL_law_267 : decode cL_law 267 = .ok (.if_icmp .eq 496, 3) := by decide +kernel
theorem dL_law_270 : decode cL_law 270 = .ok (.iconst 0, 1) := by decide +kernel
theorem dL_law_271 : decode cL_law 271 = .ok (.ireturn, 1) := by decide +kernel
theorem dL_law_272 : decode cL_law 272 = .ok (.aload_n 1, 1) := by decide +kernel
theorem dL_law_273 : decode cL_law 273 = .ok (.aload_n 0, 1) := by decide +kernel
theorem dL_law_274 : decode cL_law 274 = .ok (.iload_n 3, 1) := by decide +kernel
theorem dL_law_275 : decode cL_law 275 = .ok (.iconst 1, 1) := by decide +kernel
theorem dL_law_276 : decode cL_law 276 = .ok (.iadd, 1) := by decide +kernel
theorem dL_law_277 : decode cL_law 277 = .ok (.iaload, 1) := by decide +kernel
theorem dL_law_278 : decode cL_law 278 = .ok (.aload_n 0, 1) := by decide +kernel
theorem dL_law_279 : decode cL_law 279 = .ok (.iload_n 3, 1) := by decide +kernel
theorem dL_law_280 : decode cL_law 280 = .ok (.iconst 2, 1) := by decide +kernel
theorem dL_law_281 : decode cL_law 281 = .ok (.iadd, 1) := by decide +kernel
theorem dL_law_282 : decode cL_law 282 = .ok (.iaload, 1) := by decide +kernel
theorem dL_law_283 : decode cL_law 283 = .ok (.invokevirtual 40, 3) := by decide +kernel
theorem dL_law_286 : decode cL_law 286 = .ok (.aload_n 2, 1) := by decide +kernel
theorem dL_law_287 : decode cL_law 287 = .ok (.aload_n 0, 1) := by decide +kernel
theorem dL_law_288 : decode cL_law 288 = .ok (.iload_n 3, 1) := by decide +kernel
theorem dL_law_289 : decode cL_law 289 = .ok (.iconst 1, 1) := by decide +kernel
theorem dL_law_290 : decode cL_law 290 = .ok (.iadd, 1) := by decide +kernel
theorem dL_law_291 : decode cL_law 291 = .ok (.iaload, 1) := by decide +kernel
theorem dL_law_292 : decode cL_law 292 = .ok (.aload_n 0, 1) := by decide +kernel
theorem dL_law_293 : decode cL_law 293 = .ok (.iload_n 3, 1) := by decide +kernel
theorem dL_law_294 : decode cL_law 294 = .ok (.iconst 2, 1) := by decide +kernel
theorem dL_law_295 : decode cL_law 295 = .ok (.iadd, 1) := by decide +kernel
theorem dL_law_296 : decode cL_law 296 = .ok (.iaload, 1) := by decide +kernel
theorem dL_law_297 : decode cL_law 297 = .ok (.invokevirtual 43, 3) := by decide +kernel
theorem dL_law_300 : decode cL_law 300 = .ok (.if_icmp .eq 463, 3) := by decide +kernel
theorem dL_law_303 : decode cL_law 303 = .ok (.iconst 0, 1) := by decide +kernel
theorem dL_law_304 : decode cL_law 304 = .ok (.ireturn, 1) := by decide +kernel
theorem dL_law_305 : decode cL_law 305 = .ok (.aload_n 1, 1) := by decide +kernel
theorem dL_law_306 : decode cL_law 306 = .ok (.aload_n 0, 1) := by decide +kernel
theorem dL_law_307 : decode cL_law 307 = .ok (.iload_n 3, 1) := by decide +kernel
theorem dL_law_308 : decode cL_law 308 = .ok (.iconst 1, 1) := by decide +kernel
theorem dL_law_309 : decode cL_law 309 = .ok (.iadd, 1) := by decide +kernel
theorem dL_law_310 : decode cL_law 310 = .ok (.iaload, 1) := by decide +kernel
theorem dL_law_311 : decode cL_law 311 = .ok (.aload_n 0, 1) := by decide +kernel
theorem dL_law_312 : decode cL_law 312 = .ok (.iload_n 3, 1) := by decide +kernel
theorem dL_law_313 : decode cL_law 313 = .ok (.iconst 2, 1) := by decide +kernel
theorem dL_law_314 : decode cL_law 314 = .ok (.iadd, 1) := by decide +kernel
theorem dL_law_315 : decode cL_law 315 = .ok (.iaload, 1) := by decide +kernel
theorem dL_law_316 : decode cL_law 316 = .ok (.invokevirtual 44, 3) := by decide +kernel
theorem dL_law_319 : decode cL_law 319 = .ok (.aload_n 2, 1) := by decide +kernel
theorem dL_law_320 : decode cL_law 320 = .ok (.aload_n 0, 1) := by decide +kernel
theorem dL_law_321 : decode cL_law 321 = .ok (.iload_n 3, 1) := by decide +kernel
theorem dL_law_322 : decode cL_law 322 = .ok (.iconst 1, 1) := by decide +kernel
theorem dL_law_323 : decode cL_law 323 = .ok (.iadd, 1) := by decide +kernel
theorem dL_law_324 : decode cL_law 324 = .ok (.iaload, 1) := by decide +kernel
theorem dL_law_325 : decode cL_law 325 = .ok (.aload_n 0, 1) := by decide +kernel
theorem dL_law_326 : decode cL_law 326 = .ok (.iload_n 3, 1) := by decide +kernel
theorem dL_law_327 : decode cL_law 327 = .ok (.iconst 2, 1) := by decide +kernel
theorem dL_law_328 : decode cL_law 328 = .ok (.iadd, 1) := by decide +kernel
theorem dL_law_329 : decode cL_law 329 = .ok (.iaload, 1) := by decide +kernel
theorem dL_law_330 : decode cL_law 330 = .ok (.invokevirtual 47, 3) := by decide +kernel
theorem dL_law_333 : decode cL_law 333 = .ok (.if_icmp .eq 430, 3) := by decide +kernel
theorem dL_law_336 : decode cL_law 336 = .ok (.iconst 0, 1) := by decide +kernel
theorem dL_law_337 : decode cL_law 337 = .ok (.ireturn, 1) := by decide +kernel
theorem dL_law_338 : decode cL_law 338 = .ok (.aload_n 1, 1) := by decide +kernel
theorem dL_law_339 : decode cL_law 339 = .ok (.invokevirtual 48, 3) := by decide +kernel
theorem dL_law_342 : decode cL_law 342 = .ok (.aload_n 2, 1) := by decide +kernel
theorem dL_law_343 : decode cL_law 343 = .ok (.invokevirtual 51, 3) := by decide +kernel
theorem dL_law_346 : decode cL_law 346 = .ok (.if_icmp .eq 417, 3) := by decide +kernel
theorem dL_law_349 : decode cL_law 349 = .ok (.iconst 0, 1) := by decide +kernel
theorem dL_law_350 : decode cL_law 350 = .ok (.ireturn, 1) := by decide +kernel
theorem dL_law_351 : decode cL_law 351 = .ok (.aload_n 1, 1) := by decide +kernel
theorem dL_law_352 : decode cL_law 352 = .ok (.aload_n 0, 1) := by decide +kernel
theorem dL_law_353 : decode cL_law 353 = .ok (.iload_n 3, 1) := by decide +kernel
theorem dL_law_354 : decode cL_law 354 = .ok (.iconst 1, 1) := by decide +kernel
theorem dL_law_355 : decode cL_law 355 = .ok (.iadd, 1) := by decide +kernel
theorem dL_law_356 : decode cL_law 356 = .ok (.iaload, 1) := by decide +kernel
theorem dL_law_357 : decode cL_law 357 = .ok (.invokevirtual 52, 3) := by decide +kernel
theorem dL_law_360 : decode cL_law 360 = .ok (.aload_n 2, 1) := by decide +kernel
theorem dL_law_361 : decode cL_law 361 = .ok (.aload_n 0, 1) := by decide +kernel
theorem dL_law_362 : decode cL_law 362 = .ok (.iload_n 3, 1) := by decide +kernel
theorem dL_law_363 : decode cL_law 363 = .ok (.iconst 1, 1) := by decide +kernel
theorem dL_law_364 : decode cL_law 364 = .ok (.iadd, 1) := by decide +kernel
theorem dL_law_365 : decode cL_law 365 = .ok (.iaload, 1) := by decide +kernel
theorem dL_law_366 : decode cL_law 366 = .ok (.invokevirtual 55, 3) := by decide +kernel
theorem dL_law_369 : decode cL_law 369 = .ok (.if_icmp .eq 394, 3) := by decide +kernel
theorem dL_law_372 : decode cL_law 372 = .ok (.iconst 0, 1) := by decide +kernel
theorem dL_law_373 : decode cL_law 373 = .ok (.ireturn, 1) := by decide +kernel
theorem dL_law_374 : decode cL_law 374 = .ok (.aload_n 1, 1) := by decide +kernel
theorem dL_law_375 : decode cL_law 375 = .ok (.aload_n 0, 1) := by decide +kernel
theorem dL_law_376 : decode cL_law 376 = .ok (.iload_n 3, 1) := by decide +kernel
theorem dL_law_377 : decode cL_law 377 = .ok (.iconst 1, 1) := by decide +kernel
theorem dL_law_378 : decode cL_law 378 = .ok (.iadd, 1) := by decide +kernel
theorem dL_law_379 : decode cL_law 379 = .ok (.iaload, 1) := by decide +kernel
theorem dL_law_380 : decode cL_law 380 = .ok (.aload_n 0, 1) := by decide +kernel
theorem dL_law_381 : decode cL_law 381 = .ok (.iload_n 3, 1) := by decide +kernel
theorem dL_law_382 : decode cL_law 382 = .ok (.iconst 2, 1) := by decide +kernel
theorem dL_law_383 : decode cL_law 383 = .ok (.iadd, 1) := by decide +kernel
theorem dL_law_384 : decode cL_law 384 = .ok (.iaload, 1) := by decide +kernel
theorem dL_law_385 : decode cL_law 385 = .ok (.invokevirtual 56, 3) := by decide +kernel
theorem dL_law_388 : decode cL_law 388 = .ok (.aload_n 2, 1) := by decide +kernel
theorem dL_law_389 : decode cL_law 389 = .ok (.aload_n 0, 1) := by decide +kernel
theorem dL_law_390 : decode cL_law 390 = .ok (.iload_n 3, 1) := by decide +kernel
theorem dL_law_391 : decode cL_law 391 = .ok (.iconst 1, 1) := by decide +kernel
theorem dL_law_392 : decode cL_law 392 = .ok (.iadd, 1) := by decide +kernel
theorem dL_law_393 : decode cL_law 393 = .ok (.iaload, 1) := by decide +kernel
theorem dL_law_394 : decode cL_law 394 = .ok (.aload_n 0, 1) := by decide +kernel
theorem dL_law_395 : decode cL_law 395 = .ok (.iload_n 3, 1) := by decide +kernel
theorem dL_law_396 : decode cL_law 396 = .ok (.iconst 2, 1) := by decide +kernel
theorem dL_law_397 : decode cL_law 397 = .ok (.iadd, 1) := by decide +kernel
theorem dL_law_398 : decode cL_law 398 = .ok (.iaload, 1) := by decide +kernel
theorem dL_law_399 : decode cL_law 399 = .ok (.invokevirtual 59, 3) := by decide +kernel
theorem dL_law_402 : decode cL_law 402 = .ok (.if_icmp .eq 361, 3) := by decide +kernel
theorem dL_law_405 : decode cL_law 405 = .ok (.iconst 0, 1) := by decide +kernel
theorem dL_law_406 : decode cL_law 406 = .ok (.ireturn, 1) := by decide +kernel
theorem dL_law_407 : decode cL_law 407 = .ok (.aload_n 1, 1) := by decide +kernel
theorem dL_law_408 : decode cL_law 408 = .ok (.aload_n 0, 1) := by decide +kernel
theorem dL_law_409 : decode cL_law 409 = .ok (.iload_n 3, 1) := by decide +kernel
theorem dL_law_410 : decode cL_law 410 = .ok (.iconst 1, 1) := by decide +kernel
theorem dL_law_411 : decode cL_law 411 = .ok (.iadd, 1) := by decide +kernel
theorem dL_law_412 : decode cL_law 412 = .ok (.iaload, 1) := by decide +kernel
theorem dL_law_413 : decode cL_law 413 = .ok (.invokevirtual 60, 3) := by decide +kernel
theorem dL_law_416 : decode cL_law 416 = .ok (.aload_n 2, 1) := by decide +kernel
theorem dL_law_417 : decode cL_law 417 = .ok (.aload_n 0, 1) := by decide +kernel
theorem dL_law_418 : decode cL_law 418 = .ok (.iload_n 3, 1) := by decide +kernel
theorem dL_law_419 : decode cL_law 419 = .ok (.iconst 1, 1) := by decide +kernel
theorem dL_law_420 : decode cL_law 420 = .ok (.iadd, 1) := by decide +kernel
theorem dL_law_421 : decode cL_law 421 = .ok (.iaload, 1) := by decide +kernel
theorem dL_law_422 : decode cL_law 422 = .ok (.invokevirtual 63, 3) := by decide +kernel
theorem dL_law_425 : decode cL_law 425 = .ok (.if_icmp .eq 338, 3) := by decide +kernel
theorem dL_law_428 : decode cL_law 428 = .ok (.iconst 0, 1) := by decide +kernel
theorem dL_law_429 : decode cL_law 429 = .ok (.ireturn, 1) := by decide +kernel
theorem dL_law_430 : decode cL_law 430 = .ok (.aload_n 1, 1) := by decide +kernel
theorem dL_law_431 : decode cL_law 431 = .ok (.aload_n 0, 1) := by decide +kernel
theorem dL_law_432 : decode cL_law 432 = .ok (.iload_n 3, 1) := by decide +kernel
theorem dL_law_433 : decode cL_law 433 = .ok (.iconst 1, 1) := by decide +kernel
theorem dL_law_434 : decode cL_law 434 = .ok (.iadd, 1) := by decide +kernel
theorem dL_law_435 : decode cL_law 435 = .ok (.iaload, 1) := by decide +kernel
theorem dL_law_436 : decode cL_law 436 = .ok (.aload_n 0, 1) := by decide +kernel
theorem dL_law_437 : decode cL_law 437 = .ok (.iload_n 3, 1) := by decide +kernel
theorem dL_law_438 : decode cL_law 438 = .ok (.iconst 2, 1) := by decide +kernel
theorem dL_law_439 : decode cL_law 439 = .ok (.iadd, 1) := by decide +kernel
theorem dL_law_440 : decode cL_law 440 = .ok (.iaload, 1) := by decide +kernel
theorem dL_law_441 : decode cL_law 441 = .ok (.aload_n 0, 1) := by decide +kernel
theorem dL_law_442 : decode cL_law 442 = .ok (.iload_n 3, 1) := by decide +kernel
theorem dL_law_443 : decode cL_law 443 = .ok (.iconst 3, 1) := by decide +kernel
theorem dL_law_444 : decode cL_law 444 = .ok (.iadd, 1) := by decide +kernel
theorem dL_law_445 : decode cL_law 445 = .ok (.iaload, 1) := by decide +kernel
theorem dL_law_446 : decode cL_law 446 = .ok (.invokevirtual 64, 3) := by decide +kernel
theorem dL_law_449 : decode cL_law 449 = .ok (.aload_n 2, 1) := by decide +kernel
theorem dL_law_450 : decode cL_law 450 = .ok (.aload_n 0, 1) := by decide +kernel
theorem dL_law_451 : decode cL_law 451 = .ok (.iload_n 3, 1) := by decide +kernel
theorem dL_law_452 : decode cL_law 452 = .ok (.iconst 1, 1) := by decide +kernel
theorem dL_law_453 : decode cL_law 453 = .ok (.iadd, 1) := by decide +kernel
theorem dL_law_454 : decode cL_law 454 = .ok (.iaload, 1) := by decide +kernel
theorem dL_law_455 : decode cL_law 455 = .ok (.aload_n 0, 1) := by decide +kernel
theorem dL_law_456 : decode cL_law 456 = .ok (.iload_n 3, 1) := by decide +kernel
theorem dL_law_457 : decode cL_law 457 = .ok (.iconst 2, 1) := by decide +kernel
theorem dL_law_458 : decode cL_law 458 = .ok (.iadd, 1) := by decide +kernel
theorem dL_law_459 : decode cL_law 459 = .ok (.iaload, 1) := by decide +kernel
theorem dL_law_460 : decode cL_law 460 = .ok (.aload_n 0, 1) := by decide +kernel
theorem dL_law_461 : decode cL_law 461 = .ok (.iload_n 3, 1) := by decide +kernel
theorem dL_law_462 : decode cL_law 462 = .ok (.iconst 3, 1) := by decide +kernel
theorem dL_law_463 : decode cL_law 463 = .ok (.iadd, 1) := by decide +kernel
theorem dL_law_464 : decode cL_law 464 = .ok (.iaload, 1) := by decide +kernel
theorem dL_law_465 : decode cL_law 465 = .ok (.invokevirtual 68, 3) := by decide +kernel
theorem dL_law_468 : decode cL_law 468 = .ok (.if_icmp .eq 295, 3) := by decide +kernel
theorem dL_law_471 : decode cL_law 471 = .ok (.iconst 0, 1) := by decide +kernel
theorem dL_law_472 : decode cL_law 472 = .ok (.ireturn, 1) := by decide +kernel
theorem dL_law_473 : decode cL_law 473 = .ok (.aload_n 1, 1) := by decide +kernel
theorem dL_law_474 : decode cL_law 474 = .ok (.aload_n 0, 1) := by decide +kernel
theorem dL_law_475 : decode cL_law 475 = .ok (.iload_n 3, 1) := by decide +kernel
theorem dL_law_476 : decode cL_law 476 = .ok (.iconst 1, 1) := by decide +kernel
theorem dL_law_477 : decode cL_law 477 = .ok (.iadd, 1) := by decide +kernel
theorem dL_law_478 : decode cL_law 478 = .ok (.iaload, 1) := by decide +kernel
theorem dL_law_479 : decode cL_law 479 = .ok (.aload_n 0, 1) := by decide +kernel
theorem dL_law_480 : decode cL_law 480 = .ok (.iload_n 3, 1) := by decide +kernel
theorem dL_law_481 : decode cL_law 481 = .ok (.iconst 2, 1) := by decide +kernel
theorem dL_law_482 : decode cL_law 482 = .ok (.iadd, 1) := by decide +kernel
theorem dL_law_483 : decode cL_law 483 = .ok (.iaload, 1) := by decide +kernel
theorem dL_law_484 : decode cL_law 484 = .ok (.invokevirtual 69, 3) := by decide +kernel
theorem dL_law_487 : decode cL_law 487 = .ok (.aload_n 2, 1) := by decide +kernel
theorem dL_law_488 : decode cL_law 488 = .ok (.aload_n 0, 1) := by decide +kernel
theorem dL_law_489 : decode cL_law 489 = .ok (.iload_n 3, 1) := by decide +kernel
theorem dL_law_490 : decode cL_law 490 = .ok (.iconst 1, 1) := by decide +kernel
theorem dL_law_491 : decode cL_law 491 = .ok (.iadd, 1) := by decide +kernel
theorem dL_law_492 : decode cL_law 492 = .ok (.iaload, 1) := by decide +kernel
theorem dL_law_493 : decode cL_law 493 = .ok (.aload_n 0, 1) := by decide +kernel
theorem dL_law_494 : decode cL_law 494 = .ok (.iload_n 3, 1) := by decide +kernel
theorem dL_law_495 : decode cL_law 495 = .ok (.iconst 2, 1) := by decide +kernel
theorem dL_law_496 : decode cL_law 496 = .ok (.iadd, 1) := by decide +kernel
theorem dL_law_497 : decode cL_law 497 = .ok (.iaload, 1) := by decide +kernel
theorem dL_law_498 : decode cL_law 498 = .ok (.invokevirtual 72, 3) := by decide +kernel
theorem dL_law_501 : decode cL_law 501 = .ok (.if_icmp .eq 262, 3) := by decide +kernel
theorem dL_law_504 : decode cL_law 504 = .ok (.iconst 0, 1) := by decide +kernel
theorem dL_law_505 : decode cL_law 505 = .ok (.ireturn, 1) := by decide +kernel
theorem dL_law_506 : decode cL_law 506 = .ok (.aload_n 1, 1) := by decide +kernel
theorem dL_law_507 : decode cL_law 507 = .ok (.invokevirtual 73, 3) := by decide +kernel
theorem dL_law_510 : decode cL_law 510 = .ok (.aload_n 2, 1) := by decide +kernel
theorem dL_law_511 : decode cL_law 511 = .ok (.invokevirtual 76, 3) := by decide +kernel
theorem dL_law_514 : decode cL_law 514 = .ok (.if_icmp .eq 249, 3) := by decide +kernel
theorem dL_law_517 : decode cL_law 517 = .ok (.iconst 0, 1) := by decide +kernel
theorem dL_law_518 : decode cL_law 518 = .ok (.ireturn, 1) := by decide +kernel
theorem dL_law_519 : decode cL_law 519 = .ok (.aload_n 1, 1) := by decide +kernel
theorem dL_law_520 : decode cL_law 520 = .ok (.aload_n 0, 1) := by decide +kernel
theorem dL_law_521 : decode cL_law 521 = .ok (.iload_n 3, 1) := by decide +kernel
theorem dL_law_522 : decode cL_law 522 = .ok (.iconst 1, 1) := by decide +kernel
theorem dL_law_523 : decode cL_law 523 = .ok (.iadd, 1) := by decide +kernel
theorem dL_law_524 : decode cL_law 524 = .ok (.iaload, 1) := by decide +kernel
theorem dL_law_525 : decode cL_law 525 = .ok (.invokevirtual 77, 3) := by decide +kernel
theorem dL_law_528 : decode cL_law 528 = .ok (.aload_n 2, 1) := by decide +kernel
theorem dL_law_529 : decode cL_law 529 = .ok (.aload_n 0, 1) := by decide +kernel
theorem dL_law_530 : decode cL_law 530 = .ok (.iload_n 3, 1) := by decide +kernel
theorem dL_law_531 : decode cL_law 531 = .ok (.iconst 1, 1) := by decide +kernel
theorem dL_law_532 : decode cL_law 532 = .ok (.iadd, 1) := by decide +kernel
theorem dL_law_533 : decode cL_law 533 = .ok (.iaload, 1) := by decide +kernel
theorem dL_law_534 : decode cL_law 534 = .ok (.invokevirtual 80, 3) := by decide +kernel
theorem dL_law_537 : decode cL_law 537 = .ok (.if_icmp .eq 226, 3) := by decide +kernel
theorem dL_law_540 : decode cL_law 540 = .ok (.iconst 0, 1) := by decide +kernel
theorem dL_law_541 : decode cL_law 541 = .ok (.ireturn, 1) := by decide +kernel
theorem dL_law_542 : decode cL_law 542 = .ok (.aload_n 1, 1) := by decide +kernel
theorem dL_law_543 : decode cL_law 543 = .ok (.aload_n 0, 1) := by decide +kernel
theorem dL_law_544 : decode cL_law 544 = .ok (.iload_n 3, 1) := by decide +kernel
theorem dL_law_545 : decode cL_law 545 = .ok (.iconst 1, 1) := by decide +kernel
theorem dL_law_546 : decode cL_law 546 = .ok (.iadd, 1) := by decide +kernel
theorem dL_law_547 : decode cL_law 547 = .ok (.iaload, 1) := by decide +kernel
theorem dL_law_548 : decode cL_law 548 = .ok (.aload_n 0, 1) := by decide +kernel
theorem dL_law_549 : decode cL_law 549 = .ok (.iload_n 3, 1) := by decide +kernel
theorem dL_law_550 : decode cL_law 550 = .ok (.iconst 2, 1) := by decide +kernel
theorem dL_law_551 : decode cL_law 551 = .ok (.iadd, 1) := by decide +kernel
theorem dL_law_552 : decode cL_law 552 = .ok (.iaload, 1) := by decide +kernel
theorem dL_law_553 : decode cL_law 553 = .ok (.aload_n 0, 1) := by decide +kernel
theorem dL_law_554 : decode cL_law 554 = .ok (.iload_n 3, 1) := by decide +kernel
theorem dL_law_555 : decode cL_law 555 = .ok (.iconst 3, 1) := by decide +kernel
theorem dL_law_556 : decode cL_law 556 = .ok (.iadd, 1) := by decide +kernel
theorem dL_law_557 : decode cL_law 557 = .ok (.iaload, 1) := by decide +kernel
theorem dL_law_558 : decode cL_law 558 = .ok (.invokevirtual 81, 3) := by decide +kernel
theorem dL_law_561 : decode cL_law 561 = .ok (.aload_n 2, 1) := by decide +kernel
theorem dL_law_562 : decode cL_law 562 = .ok (.aload_n 0, 1) := by decide +kernel
theorem dL_law_563 : decode cL_law 563 = .ok (.iload_n 3, 1) := by decide +kernel
theorem dL_law_564 : decode cL_law 564 = .ok (.iconst 1, 1) := by decide +kernel
theorem dL_law_565 : decode cL_law 565 = .ok (.iadd, 1) := by decide +kernel
theorem dL_law_566 : decode cL_law 566 = .ok (.iaload, 1) := by decide +kernel
theorem dL_law_567 : decode cL_law 567 = .ok (.aload_n 0, 1) := by decide +kernel
theorem dL_law_568 : decode cL_law 568 = .ok (.iload_n 3, 1) := by decide +kernel
theorem dL_law_569 : decode cL_law 569 = .ok (.iconst 2, 1) := by decide +kernel
theorem dL_law_570 : decode cL_law 570 = .ok (.iadd, 1) := by decide +kernel
theorem dL_law_571 : decode cL_law 571 = .ok (.iaload, 1) := by decide +kernel
theorem dL_law_572 : decode cL_law 572 = .ok (.aload_n 0, 1) := by decide +kernel
theorem dL_law_573 : decode cL_law 573 = .ok (.iload_n 3, 1) := by decide +kernel
theorem dL_law_574 : decode cL_law 574 = .ok (.iconst 3, 1) := by decide +kernel
theorem dL_law_575 : decode cL_law 575 = .ok (.iadd, 1) := by decide +kernel
theorem dL_law_576 : decode cL_law 576 = .ok (.iaload, 1) := by decide +kernel
theorem dL_law_577 : decode cL_law 577 = .ok (.invokevirtual 84, 3) := by decide +kernel
theorem dL_law_580 : decode cL_law 580 = .ok (.if_icmp .eq 183, 3) := by decide +kernel
theorem dL_law_583 : decode cL_law 583 = .ok (.iconst 0, 1) := by decide +kernel
theorem dL_law_584 : decode cL_law 584 = .ok (.ireturn, 1) := by decide +kernel
theorem dL_law_585 : decode cL_law 585 = .ok (.aload_n 1, 1) := by decide +kernel
theorem dL_law_586 : decode cL_law 586 = .ok (.aload_n 0, 1) := by decide +kernel
theorem dL_law_587 : decode cL_law 587 = .ok (.iload_n 3, 1) := by decide +kernel
theorem dL_law_588 : decode cL_law 588 = .ok (.iconst 1, 1) := by decide +kernel
theorem dL_law_589 : decode cL_law 589 = .ok (.iadd, 1) := by decide +kernel
theorem dL_law_590 : decode cL_law 590 = .ok (.iaload, 1) := by decide +kernel
theorem dL_law_591 : decode cL_law 591 = .ok (.aload_n 0, 1) := by decide +kernel
theorem dL_law_592 : decode cL_law 592 = .ok (.iload_n 3, 1) := by decide +kernel
theorem dL_law_593 : decode cL_law 593 = .ok (.iconst 2, 1) := by decide +kernel
theorem dL_law_594 : decode cL_law 594 = .ok (.iadd, 1) := by decide +kernel
theorem dL_law_595 : decode cL_law 595 = .ok (.iaload, 1) := by decide +kernel
theorem dL_law_596 : decode cL_law 596 = .ok (.aload_n 0, 1) := by decide +kernel
theorem dL_law_597 : decode cL_law 597 = .ok (.iload_n 3, 1) := by decide +kernel
theorem dL_law_598 : decode cL_law 598 = .ok (.iconst 3, 1) := by decide +kernel
theorem dL_law_599 : decode cL_law 599 = .ok (.iadd, 1) := by decide +kernel
theorem dL_law_600 : decode cL_law 600 = .ok (.iaload, 1) := by decide +kernel
theorem dL_law_601 : decode cL_law 601 = .ok (.ifCond .eq 7, 3) := by decide +kernel
theorem dL_law_604 : decode cL_law 604 = .ok (.iconst 1, 1) := by decide +kernel
theorem dL_law_605 : decode cL_law 605 = .ok (.goto 4, 3) := by decide +kernel
theorem dL_law_608 : decode cL_law 608 = .ok (.iconst 0, 1) := by decide +kernel
theorem dL_law_609 : decode cL_law 609 = .ok (.invokevirtual 85, 3) := by decide +kernel
theorem dL_law_612 : decode cL_law 612 = .ok (.aload_n 2, 1) := by decide +kernel
theorem dL_law_613 : decode cL_law 613 = .ok (.aload_n 0, 1) := by decide +kernel
theorem dL_law_614 : decode cL_law 614 = .ok (.iload_n 3, 1) := by decide +kernel
theorem dL_law_615 : decode cL_law 615 = .ok (.iconst 1, 1) := by decide +kernel
theorem dL_law_616 : decode cL_law 616 = .ok (.iadd, 1) := by decide +kernel
theorem dL_law_617 : decode cL_law 617 = .ok (.iaload, 1) := by decide +kernel
theorem dL_law_618 : decode cL_law 618 = .ok (.aload_n 0, 1) := by decide +kernel
theorem dL_law_619 : decode cL_law 619 = .ok (.iload_n 3, 1) := by decide +kernel
theorem dL_law_620 : decode cL_law 620 = .ok (.iconst 2, 1) := by decide +kernel
theorem dL_law_621 : decode cL_law 621 = .ok (.iadd, 1) := by decide +kernel
theorem dL_law_622 : decode cL_law 622 = .ok (.iaload, 1) := by decide +kernel
theorem dL_law_623 : decode cL_law 623 = .ok (.aload_n 0, 1) := by decide +kernel
theorem dL_law_624 : decode cL_law 624 = .ok (.iload_n 3, 1) := by decide +kernel
theorem dL_law_625 : decode cL_law 625 = .ok (.iconst 3, 1) := by decide +kernel
theorem dL_law_626 : decode cL_law 626 = .ok (.iadd, 1) := by decide +kernel
theorem dL_law_627 : decode cL_law 627 = .ok (.iaload, 1) := by decide +kernel
theorem dL_law_628 : decode cL_law 628 = .ok (.ifCond .eq 7, 3) := by decide +kernel
theorem dL_law_631 : decode cL_law 631 = .ok (.iconst 1, 1) := by decide +kernel
theorem dL_law_632 : decode cL_law 632 = .ok (.goto 4, 3) := by decide +kernel
theorem dL_law_635 : decode cL_law 635 = .ok (.iconst 0, 1) := by decide +kernel
theorem dL_law_636 : decode cL_law 636 = .ok (.invokevirtual 89, 3) := by decide +kernel
theorem dL_law_639 : decode cL_law 639 = .ok (.if_icmp .eq 124, 3) := by decide +kernel
theorem dL_law_642 : decode cL_law 642 = .ok (.iconst 0, 1) := by decide +kernel
theorem dL_law_643 : decode cL_law 643 = .ok (.ireturn, 1) := by decide +kernel
theorem dL_law_644 : decode cL_law 644 = .ok (.aload_n 1, 1) := by decide +kernel
theorem dL_law_645 : decode cL_law 645 = .ok (.invokevirtual 90, 3) := by decide +kernel
theorem dL_law_648 : decode cL_law 648 = .ok (.aload_n 2, 1) := by decide +kernel
theorem dL_law_649 : decode cL_law 649 = .ok (.invokevirtual 93, 3) := by decide +kernel
theorem dL_law_652 : decode cL_law 652 = .ok (.if_icmp .eq 111, 3) := by decide +kernel
theorem dL_law_655 : decode cL_law 655 = .ok (.iconst 0, 1) := by decide +kernel
theorem dL_law_656 : decode cL_law 656 = .ok (.ireturn, 1) := by decide +kernel
theorem dL_law_657 : decode cL_law 657 = .ok (.aload_n 1, 1) := by decide +kernel
theorem dL_law_658 : decode cL_law 658 = .ok (.aload_n 0, 1) := by decide +kernel
theorem dL_law_659 : decode cL_law 659 = .ok (.iload_n 3, 1) := by decide +kernel
theorem dL_law_660 : decode cL_law 660 = .ok (.iconst 1, 1) := by decide +kernel
theorem dL_law_661 : decode cL_law 661 = .ok (.iadd, 1) := by decide +kernel
theorem dL_law_662 : decode cL_law 662 = .ok (.iaload, 1) := by decide +kernel
theorem dL_law_663 : decode cL_law 663 = .ok (.aload_n 0, 1) := by decide +kernel
theorem dL_law_664 : decode cL_law 664 = .ok (.iload_n 3, 1) := by decide +kernel
theorem dL_law_665 : decode cL_law 665 = .ok (.iconst 2, 1) := by decide +kernel
theorem dL_law_666 : decode cL_law 666 = .ok (.iadd, 1) := by decide +kernel
theorem dL_law_667 : decode cL_law 667 = .ok (.iaload, 1) := by decide +kernel
theorem dL_law_668 : decode cL_law 668 = .ok (.aload_n 0, 1) := by decide +kernel
theorem dL_law_669 : decode cL_law 669 = .ok (.iload_n 3, 1) := by decide +kernel
theorem dL_law_670 : decode cL_law 670 = .ok (.iconst 3, 1) := by decide +kernel
theorem dL_law_671 : decode cL_law 671 = .ok (.iadd, 1) := by decide +kernel
theorem dL_law_672 : decode cL_law 672 = .ok (.iaload, 1) := by decide +kernel
theorem dL_law_673 : decode cL_law 673 = .ok (.invokevirtual 94, 3) := by decide +kernel
theorem dL_law_676 : decode cL_law 676 = .ok (.aload_n 2, 1) := by decide +kernel
theorem dL_law_677 : decode cL_law 677 = .ok (.aload_n 0, 1) := by decide +kernel
theorem dL_law_678 : decode cL_law 678 = .ok (.iload_n 3, 1) := by decide +kernel
theorem dL_law_679 : decode cL_law 679 = .ok (.iconst 1, 1) := by decide +kernel
theorem dL_law_680 : decode cL_law 680 = .ok (.iadd, 1) := by decide +kernel
theorem dL_law_681 : decode cL_law 681 = .ok (.iaload, 1) := by decide +kernel
theorem dL_law_682 : decode cL_law 682 = .ok (.aload_n 0, 1) := by decide +kernel
theorem dL_law_683 : decode cL_law 683 = .ok (.iload_n 3, 1) := by decide +kernel
theorem dL_law_684 : decode cL_law 684 = .ok (.iconst 2, 1) := by decide +kernel
theorem dL_law_685 : decode cL_law 685 = .ok (.iadd, 1) := by decide +kernel
theorem dL_law_686 : decode cL_law 686 = .ok (.iaload, 1) := by decide +kernel
theorem dL_law_687 : decode cL_law 687 = .ok (.aload_n 0, 1) := by decide +kernel
theorem dL_law_688 : decode cL_law 688 = .ok (.iload_n 3, 1) := by decide +kernel
theorem dL_law_689 : decode cL_law 689 = .ok (.iconst 3, 1) := by decide +kernel
theorem dL_law_690 : decode cL_law 690 = .ok (.iadd, 1) := by decide +kernel
theorem dL_law_691 : decode cL_law 691 = .ok (.iaload, 1) := by decide +kernel
theorem dL_law_692 : decode cL_law 692 = .ok (.invokevirtual 97, 3) := by decide +kernel
theorem dL_law_695 : decode cL_law 695 = .ok (.if_icmp .eq 68, 3) := by decide +kernel
theorem dL_law_698 : decode cL_law 698 = .ok (.iconst 0, 1) := by decide +kernel
theorem dL_law_699 : decode cL_law 699 = .ok (.ireturn, 1) := by decide +kernel
theorem dL_law_700 : decode cL_law 700 = .ok (.aload_n 1, 1) := by decide +kernel
theorem dL_law_701 : decode cL_law 701 = .ok (.invokevirtual 98, 3) := by decide +kernel
theorem dL_law_704 : decode cL_law 704 = .ok (.aload_n 2, 1) := by decide +kernel
theorem dL_law_705 : decode cL_law 705 = .ok (.invokevirtual 101, 3) := by decide +kernel
theorem dL_law_708 : decode cL_law 708 = .ok (.if_icmp .eq 55, 3) := by decide +kernel
theorem dL_law_711 : decode cL_law 711 = .ok (.iconst 0, 1) := by decide +kernel
theorem dL_law_712 : decode cL_law 712 = .ok (.ireturn, 1) := by decide +kernel
theorem dL_law_713 : decode cL_law 713 = .ok (.aload_n 1, 1) := by decide +kernel
theorem dL_law_714 : decode cL_law 714 = .ok (.invokevirtual 102, 3) := by decide +kernel
theorem dL_law_717 : decode cL_law 717 = .ok (.aload_n 2, 1) := by decide +kernel
theorem dL_law_718 : decode cL_law 718 = .ok (.invokevirtual 105, 3) := by decide +kernel
theorem dL_law_721 : decode cL_law 721 = .ok (.if_icmp .eq 42, 3) := by decide +kernel
theorem dL_law_724 : decode cL_law 724 = .ok (.iconst 0, 1) := by decide +kernel
theorem dL_law_725 : decode cL_law 725 = .ok (.ireturn, 1) := by decide +kernel
theorem dL_law_726 : decode cL_law 726 = .ok (.aload_n 1, 1) := by decide +kernel
theorem dL_law_727 : decode cL_law 727 = .ok (.aload_n 0, 1) := by decide +kernel
theorem dL_law_728 : decode cL_law 728 = .ok (.iload_n 3, 1) := by decide +kernel
theorem dL_law_729 : decode cL_law 729 = .ok (.iconst 1, 1) := by decide +kernel
theorem dL_law_730 : decode cL_law 730 = .ok (.iadd, 1) := by decide +kernel
theorem dL_law_731 : decode cL_law 731 = .ok (.iaload, 1) := by decide +kernel
theorem dL_law_732 : decode cL_law 732 = .ok (.invokevirtual 106, 3) := by decide +kernel
theorem dL_law_735 : decode cL_law 735 = .ok (.aload_n 2, 1) := by decide +kernel
theorem dL_law_736 : decode cL_law 736 = .ok (.aload_n 0, 1) := by decide +kernel
theorem dL_law_737 : decode cL_law 737 = .ok (.iload_n 3, 1) := by decide +kernel
theorem dL_law_738 : decode cL_law 738 = .ok (.iconst 1, 1) := by decide +kernel
theorem dL_law_739 : decode cL_law 739 = .ok (.iadd, 1) := by decide +kernel
theorem dL_law_740 : decode cL_law 740 = .ok (.iaload, 1) := by decide +kernel
theorem dL_law_741 : decode cL_law 741 = .ok (.invokevirtual 109, 3) := by decide +kernel
theorem dL_law_744 : decode cL_law 744 = .ok (.if_icmp .eq 19, 3) := by decide +kernel
theorem dL_law_747 : decode cL_law 747 = .ok (.iconst 0, 1) := by decide +kernel
theorem dL_law_748 : decode cL_law 748 = .ok (.ireturn, 1) := by decide +kernel
theorem dL_law_749 : decode cL_law 749 = .ok (.aload_n 1, 1) := by decide +kernel
theorem dL_law_750 : decode cL_law 750 = .ok (.invokevirtual 110, 3) := by decide +kernel
theorem dL_law_753 : decode cL_law 753 = .ok (.aload_n 2, 1) := by decide +kernel
theorem dL_law_754 : decode cL_law 754 = .ok (.invokevirtual 114, 3) := by decide +kernel
theorem dL_law_757 : decode cL_law 757 = .ok (.lcmp, 1) := by decide +kernel
theorem dL_law_758 : decode cL_law 758 = .ok (.ifCond .eq 5, 3) := by decide +kernel
theorem dL_law_761 : decode cL_law 761 = .ok (.iconst 0, 1) := by decide +kernel
theorem dL_law_762 : decode cL_law 762 = .ok (.ireturn, 1) := by decide +kernel
theorem dL_law_763 : decode cL_law 763 = .ok (.iinc 3 4, 3) := by decide +kernel
theorem dL_law_766 : decode cL_law 766 = .ok (.goto (-748), 3) := by decide +kernel
theorem dL_law_769 : decode cL_law 769 = .ok (.iconst 1, 1) := by decide +kernel
theorem dL_law_770 : decode cL_law 770 = .ok (.ireturn, 1) := by decide +kernel
end
section
def kdL : List Nat := [9, 6, 100, 7, 2, 100, 100, 100, 100, 100, 100, 100, 100, 101, 2, 100, 100, 100, 100, 100, 100, 100, 100, 101, 2, 100, 100, 100, 100, 100, 100, 100, 100, 101, 2, 100, 100, 100, 100, 100, 100, 100, 100, 101, 0, 100, 100, 4, 100, 5, 102, 100, 100, 102, 100, 100, 1, 100, 100, 100, 3, 100, 8, 10, 100, 100, 100, 100, 100, 100, 100, 100, 100, 100, 100, 100, 100, 100, 100]
def lnL : List Nat := [14, 2, 54, 2, 15, 6, 6, 6, 8, 8, 8, 6, 6, 6, 15, 6, 6, 6, 8, 8, 8, 6, 6, 6, 15, 6, 6, 6, 8, 8, 8, 6, 6, 6, 15, 6, 6, 6, 8, 8, 8, 6, 6, 6, 3, 6, 6, 2, 6, 5, 2, 6, 6, 2, 6, 6, 4, 6, 9, 9, 2, 10, 2, 34, 54, 6, 6, 6, 8, 8, 8, 6, 6, 18, 6, 6, 6, 8, 18]
def fkL : List (List Nat) := [[2, 2, 0], [2, 2, 2, 0], [0, 0, 0, 0, 0, 0, 2, 2, 2, 2, 2, 2, 2, 2, 2], [2, 0], [2, 0], [2, 2, 0, 0, 0], [2, 0], [2, 0], [0, 0], [2, 2, 2, 2, 2, 2, 2, 2, 2, 2, 2, 0, 0, 0], [2, 0, 0, 0, 0, 0, 0, 0, 0, 2, 2, 2, 2, 2, 2, 2, 2, 0, 0, 0, 0, 2, 0, 0, 0, 0, 0, 0, 2, 2, 2, 2, 2, 1]]
def rfL : List (List Nat) := [[1, 3, 14, 24, 34, 44, 47, 49, 56, 60, 62, 0, 0, 0], [2, 0], [], [4, 0], [0, 0, 0, 0, 0, 0, 5, 6, 7, 8, 9, 10, 11, 12, 13], [], [], [], [], [], [], [], [], [], [0, 0, 0, 0, 0, 0, 15, 16, 17, 18, 19, 20, 21, 22, 23], [], [], [], [], [], [], [], [], [], [0, 0, 0, 0, 0, 0, 25, 26, 27, 28, 29, 30, 31, 32, 33], [], [], [], [], [], [], [], [], [], [0, 0, 0, 0, 0, 0, 35, 36, 37, 38, 39, 40, 41, 42, 43], [], [], [], [], [], [], [], [], [], [45, 46, 0], [], [], [48, 0], [], [50, 53, 0, 0, 0], [51, 52], [], [], [54, 55], [], [], [57, 58, 59, 0], [], [], [], [61, 0], [], [0, 0], [64, 0, 0, 0, 0, 0, 0, 0, 0, 65, 66, 67, 68, 69, 70, 71, 72, 0, 0, 0, 0, 73, 0, 0, 0, 0, 0, 0, 74, 75, 76, 77, 78, 0], [], [], [], [], [], [], [], [], [], [], [], [], [], [], []]
abbrev vwCl : List vw_C := [(RX0, TX0, 3), (RX1, TX1, 4), (RX2, TX2, 15), (RX3, TX3, 2), (RX4, TX4, 2), (RX5, TX5, 5), (RX6, TX6, 2), (RX7, TX7, 2), (RX8, TX8, 2), (RX9, TX9, 14), (RX10, TX10, 34)]
def NS : List (String × Nat × MethodName × String) := [("LastBench", 9, ⟨"LastBench$Page", "<init>", "()V"⟩, "LastBench"), ("LastBench", 18, ⟨"LastBench$Reader", "<init>", "()V"⟩, "LastBench"), ("LastBench$Reader", 11, ⟨"LastBench$Chapel", "<init>", "()V"⟩, "LastBench"), ("LastBench", 25, ⟨"LastBench$Chapel", "<init>", "()V"⟩, "LastBench"), ("LastBench", 38, ⟨"LastBench$Bench", "<init>", "()V"⟩, "LastBench"), ("LastBench", 45, ⟨"LastBench$Grudges", "<init>", "()V"⟩, "LastBench"), ("LastBench", 52, ⟨"LastBench$Leaving", "<init>", "()V"⟩, "LastBench"), ("LastBench", 59, ⟨"LastBench$Chances", "<init>", "()V"⟩, "LastBench"), ("LastBench", 66, ⟨"LastBench$Graves", "<init>", "()V"⟩, "LastBench"), ("LastBench", 73, ⟨"LastBench$Weather", "<init>", "()V"⟩, "LastBench"), ("LastBench$Reader", 38, ⟨"LastBench", "digitOf", "(I)I"⟩, "LastBench"), ("LastBench$Reader", 80, ⟨"LastBench", "isRoom", "(I)Z"⟩, "LastBench"), ("LastBench$Bench", 31, ⟨"LastBench", "hasBit", "(II)Z"⟩, "LastBench"), ("LastBench$Grudges", 25, ⟨"LastBench", "hasBit", "(II)Z"⟩, "LastBench"), ("LastBench$Chapel", 59, ⟨"LastBench", "hasBit", "(II)Z"⟩, "LastBench"), ("LastBench$Graves", 64, ⟨"LastBench", "hasBit", "(II)Z"⟩, "LastBench"), ("LastBench$Chapel", 63, ⟨"LastBench", "nextWarm", "(IZ)I"⟩, "LastBench"), ("LastBench$Leaving", 62, ⟨"LastBench", "nextWarm", "(IZ)I"⟩, "LastBench"), ("LastBench$Leaving", 66, ⟨"LastBench", "hasBit", "(II)Z"⟩, "LastBench"), ("LastBench$Chances", 62, ⟨"LastBench", "hasBit", "(II)Z"⟩, "LastBench")]
end
section
/-! THE CORE: the fixed heap as a table of numbers σ (cell, place); 'Rn': from here the method comes to its end with Q -/
abbrev Mm : Type := Nat → Nat → Int32
def kd (k : Nat) : Nat := kdL.getD k 0
def ln (k : Nat) : Nat := lnL.getD k 0
def fk (c j : Nat) : Nat := (fkL.getD c []).getD j 0
def rf (k j : Nat) : Nat := (rfL.getD k []).getD j 0
def jn (lo hi : Int32) : Int64 := Int64.ofBitVec (hi.toBitVec ++ lo.toBitVec)
def jlo (x : Int64) : Int32 := Int32.ofBitVec (x.toBitVec.extractLsb' 0 32)
def jhi (x : Int64) : Int32 := Int32.ofBitVec (x.toBitVec.extractLsb' 32 32)
theorem jn_eq (x : Int64) : jn (jlo x) (jhi x) = x := by
  have h : x.toBitVec.extractLsb' 32 32 ++ x.toBitVec.extractLsb' 0 32 = x.toBitVec := by
    apply BitVec.eq_of_getLsbD_eq
    intro i hi
    rw [BitVec.getLsbD_append]
    split
    · rename_i h
      simp [BitVec.getLsbD_extractLsb', h]
    · rename_i h
      have h2 : i - 32 < 32 := by omega
      have h3 : 32 + (i - 32) = i := by omega
      simp only [BitVec.getLsbD_extractLsb', h2, h3, decide_true, Bool.true_and]
  show Int64.ofBitVec (x.toBitVec.extractLsb' 32 32 ++ x.toBitVec.extractLsb' 0 32) = x
  rw [h]
  rfl
def up (σ : Mm) (k j : Nat) (x : Int32) : Mm := fun a => if a = k then upd (σ a) j x else σ a
theorem up_eq {σ : Mm} {k j : Nat} {x : Int32} : up σ k j x k = upd (σ k) j x := if_pos rfl
theorem up_ne {σ : Mm} {k j a : Nat} {x : Int32} (h : a ≠ k) : up σ k j x a = σ a := if_neg h
theorem upd_eq {f : Nat → Int32} {j : Nat} {x : Int32} : upd f j x j = x := pk_us
theorem upd_ne {f : Nat → Int32} {j i : Nat} {x : Int32} (h : i ≠ j) : upd f j x i = f i := pk_un h
abbrev EE : Type := Launch × (Nat → Nat) × va_G × (ClassId × ClassId × ClassId) × (Nat → Nat) × (Nat → Nat)
def eL (E : EE) : Launch := E.1
def Ad (E : EE) : Nat → Nat := E.2.1
def eD (E : EE) : va_G := E.2.2.1
def cI (E : EE) : ClassId := E.2.2.2.1.1
def cZ (E : EE) : ClassId := E.2.2.2.1.2.1
def cII (E : EE) : ClassId := E.2.2.2.1.2.2
def sK (E : EE) : Nat → Nat := E.2.2.2.2.1
def sV (E : EE) : Nat → Nat := E.2.2.2.2.2
abbrev tysE (E : EE) : List (ClassId × FieldType) := [(cI E, .int), (cZ E, .boolean), (cII E, .array .int)]
def fv (E : EE) (k : Nat) (f : Nat → Int32) (j : Nat) : Value := if fk (kd k) j = 2 then .ref (Ad E (rf k j)) else if fk (kd k) j = 1 then .long (jn (f j) (f (j + 1000))) else .int (f j)
def fo (E : EE) (k : Nat) (f : Nat → Int32) : List Value := (List.range (ln k)).map (fv E k f)
def ce (E : EE) (k : Nat) (f : Nat → Int32) : va_E := if kd k = 100 then .inl (cI E, ln k, .inl f) else if kd k = 101 then .inl (cZ E, ln k, .inl f) else if kd k = 102 then .inl (cII E, ln k, .inr (.inr (.inr (.inr (fun i => if i < ln k then some (Ad E (rf k i)) else none))))) else .inr (kd k, fo E k f)
def wl (E : EE) (σ : Mm) : va_W := (List.range 79).map (fun k => (Ad E k, ce E k (σ k)))
def Aw (E : EE) : Nat → Prop := fun q => ∃ k, k < 79 ∧ q = Ad E k
theorem wl_at {E : EE} {σ : Mm} {k : Nat} (hk : k < 79) : (wl E σ)[k]? = some (Ad E k, ce E k (σ k)) := by
  unfold wl
  rw [List.getElem?_map, List.getElem?_range hk]
  rfl
theorem wl_len {E : EE} {σ : Mm} : (wl E σ).length = 79 := by
  unfold wl
  rw [List.length_map, List.length_range]
theorem wl_no {E : EE} {σ : Mm} {k : Nat} (hk : ¬ k < 79) : (wl E σ)[k]? = none := List.getElem?_eq_none (by rw [wl_len]; omega)
theorem wl_set {E : EE} {σ τ : Mm} {k : Nat} (hk : k < 79) (h : ∀ a, a ≠ k → τ a = σ a) : (wl E σ).set k (Ad E k, ce E k (τ k)) = wl E τ := by
  apply List.ext_getElem?
  intro i
  by_cases hi : i = k
  · subst hi
    rw [List.getElem?_set_self (by rw [wl_len]; exact hk), wl_at hk]
  · rw [List.getElem?_set_ne (Ne.symm hi)]
    by_cases hl : i < 79
    · rw [wl_at hl, wl_at hl, h i hi]
    · rw [wl_no hl, wl_no hl]
theorem wl_D {E : EE} {σ : Mm} (h : ∀ i j, i < 79 → j < 79 → Ad E i = Ad E j → i = j) : va_D (Aw E) (wl E σ) := by
  have key : ∀ (k : Nat) (q : Nat × va_E), (wl E σ)[k]? = some q → k < 79 ∧ q.1 = Ad E k := by
    intro k q hq
    by_cases hk : k < 79
    · rw [wl_at hk] at hq
      cases hq
      exact ⟨hk, rfl⟩
    · rw [wl_no hk] at hq
      cases hq
  refine ⟨fun i j x y hi hj hxy => ?_, fun k q hk => ?_⟩
  · obtain ⟨a1, a2⟩ := key i x hi
    obtain ⟨b1, b2⟩ := key j y hj
    exact h i j a1 b1 (by rw [← a2, ← b2, hxy])
  · obtain ⟨a1, a2⟩ := key k q hk
    exact ⟨k, a1, a2⟩
/-- an object's cell, and a field of it -/
def Fdd (k j ci : Nat) (C : String) (T : u_T) (N : Nat) (t : Nat) : Prop := k < 79 ∧ kd k = ci ∧ vwCl[ci]? = some (C, T, N) ∧ ln k = N ∧ j < N ∧ fk ci j = t ∧ ci < 100 ∧ N < 1000
def Ar (k t n : Nat) : Prop := k < 79 ∧ kd k = t ∧ ln k = n
theorem ce_obj {E : EE} {k : Nat} {f : Nat → Int32} {ci : Nat} (h : kd k = ci) (hc : ci < 100) : ce E k f = .inr (ci, fo E k f) := by
  unfold ce
  rw [if_neg (by omega), if_neg (by omega), if_neg (by omega), h]
theorem fo_at {E : EE} {k j : Nat} {f : Nat → Int32} (hj : j < ln k) : (fo E k f)[j]? = some (fv E k f j) := by
  unfold fo
  rw [List.getElem?_map, List.getElem?_range hj]
  rfl
theorem fo_len {E : EE} {k : Nat} {f : Nat → Int32} : (fo E k f).length = ln k := by
  unfold fo
  rw [List.length_map, List.length_range]
theorem fo_set {E : EE} {k j : Nat} {f f' : Nat → Int32} {v : Value} (hj : j < ln k) (hv : fv E k f' j = v) (h : ∀ i, i < ln k → i ≠ j → fv E k f' i = fv E k f i) : (fo E k f).set j v = fo E k f' := by
  apply List.ext_getElem?
  intro i
  by_cases hi : i = j
  · subst hi
    rw [List.getElem?_set_self (by rw [fo_len]; exact hj), fo_at hj, hv]
  · rw [List.getElem?_set_ne (Ne.symm hi)]
    by_cases hl : i < ln k
    · rw [fo_at hl, fo_at hl, h i hl hi]
    · rw [List.getElem?_eq_none (by rw [fo_len]; omega), List.getElem?_eq_none (by rw [fo_len]; omega)]
theorem fv_i {E : EE} {k j : Nat} {f : Nat → Int32} (h : fk (kd k) j = 0) : fv E k f j = .int (f j) := by
  unfold fv
  rw [if_neg (by omega), if_neg (by omega)]
theorem fv_l {E : EE} {k j : Nat} {f : Nat → Int32} (h : fk (kd k) j = 1) : fv E k f j = .long (jn (f j) (f (j + 1000))) := by
  unfold fv
  rw [if_neg (by omega), if_pos h]
theorem fv_r {E : EE} {k j : Nat} {f : Nat → Int32} (h : fk (kd k) j = 2) : fv E k f j = .ref (Ad E (rf k j)) := by
  unfold fv
  rw [if_pos h]
theorem fv_ne {E : EE} {k j : Nat} {f f' : Nat → Int32} (h1 : f' j = f j) (h2 : f' (j + 1000) = f (j + 1000)) : fv E k f' j = fv E k f j := by
  unfold fv
  rw [h1, h2]
/-- the good words of the tables: they go from caller to callee -/
def TB : List Cond := lw_tbl.filter goodWord
theorem in_TB {w : Cond} (i : Nat) (h : lw_tbl[i]? = some w) (g : goodWord w = true) : w ∈ TB := List.mem_filter.mpr ⟨List.mem_of_getElem? h, g⟩
theorem gd_TB {ws : List Cond} (h : ∀ w ∈ ws, w ∈ TB) : GoodIn TB ws := fun w hw => ⟨h w hw, good_of_word (List.mem_filter.mp (h w hw)).2⟩
/-- what stays as it is: the tables, the nest words, the one String, a static -/
def Fx (E : EE) (U : State) (H : Heap) : Prop := va_K (eD E) vwCl (tysE E) U ∧ (∀ q ∈ NS, va_Nw (.methodLinkNest q.1 q.2.1 q.2.2.1 q.2.2.2) U) ∧ vk_R RX7 49 "pghbs" (sK E 0) U ∧ vk_S 1 [5] [[112, 103, 104, 98, 115]] (sK E) (sV E) (Aw E) U H ∧ va_Z "java/lang/String" "COMPACT_STRINGS" "Z" (.int 1) (Aw E) U H ∧ (∀ i j, i < 79 → j < 79 → Ad E i = Ad E j → i = j)
theorem Fx.moved {E : EE} {s U : State} {H : Heap} (hW : s.WarmedH U.vm) (h : Fx E s H) : Fx E U H :=
  ⟨va_K.moved hW.alike h.1, fun q hq => va_Nw.warmM hW (h.2.1 q hq), vk_R.warm hW h.2.2.1, vk_S.moved hW.alike h.2.2.2.1, va_Z.moved hW.alike h.2.2.2.2.1, h.2.2.2.2.2⟩
theorem Fx.kept {E : EE} {U : State} {H0 H : Heap} {locs : List Loc} (hS : va_S (Aw E) H0 H locs) (h : Fx E U H0) : Fx E U H :=
  ⟨h.1, h.2.1, h.2.2.1, h.2.2.2.1.kept (fun a h1 h2 => hS.2.1 a h1 h2), h.2.2.2.2.1.kept (fun a h1 h2 => hS.2.1 a h1 h2), h.2.2.2.2.2⟩
theorem Fx.calling {E : EE} {U : State} (a : Array Value) (g : JFrame) (mk : MethodId) (h : Fx E U U.heap) : Fx E (U.calling g mk a) (U.calling g mk a).heap :=
  ⟨va_K.moved (u := U) (U := U.calling g mk a) (Vm.Alike.refl U.vm) h.1, fun q hq => va_Nw.same (u := U) rfl rfl (h.2.1 q hq), vk_R.same (u := U) rfl h.2.2.1, vk_S.moved (u := U) (U := U.calling g mk a) (Vm.Alike.refl U.vm) h.2.2.2.1, va_Z.moved (u := U) (U := U.calling g mk a) (Vm.Alike.refl U.vm) h.2.2.2.2.1, h.2.2.2.2.2⟩
/-- a method: its class, code, locals, answer's type, frames, locals' room, name -/
abbrev Md : Type := String × ByteArray × Nat × Option FieldType × Nat × Nat × MethodName
abbrev mOwn (M : Md) : String := M.1
abbrev mCode (M : Md) : ByteArray := M.2.1
abbrev mLoc (M : Md) : Nat := M.2.2.1
abbrev mRet (M : Md) : Option FieldType := M.2.2.2.1
abbrev mFr (M : Md) : Nat := M.2.2.2.2.1
abbrev mRm (M : Md) : Nat := M.2.2.2.2.2.1
abbrev mNm (M : Md) : MethodName := M.2.2.2.2.2.2
def Cx (E : EE) (M : Md) (p : Program) (R : Room) (s : State) (m : MethodId) (args : Array Value) (c : Code) (cells slots : Nat) : Prop :=
  p.tables.exec = Jvm.exec ∧ c.code = mCode M ∧ c.maxLocals = mLoc M ∧ s.vm.findClass (mOwn M) = some m.cls ∧ (∀ w ∈ TB, w.before args s = true) ∧ Fx E s s.heap ∧ (mFr M ≤ R.frames ∧ mRm M ≤ R.locals ∧ cells ≤ R.cells ∧ slots ≤ R.slots)
def Hd (E : EE) (σ : Mm) (s : State) (H : Heap) (locs : List Loc) : Prop := va_P (eD E) vwCl (wl E σ) H ∧ va_S (Aw E) s.heap H locs
def RetI (M : Md) (pc : Nat) (r : Option Value) : Prop := match r with
  | none => decode (mCode M) pc = .ok (.return_, 1) ∧ mRet M = none
  | some (.int x) => decode (mCode M) pc = .ok (.ireturn, 1) ∧ ∃ ty, mRet M = some ty ∧ narrow ty (.int x) = .int x
  | some (.long _) => decode (mCode M) pc = .ok (.lreturn, 1) ∧ mRet M = some .long
  | _ => False
def Rn (E : EE) (M : Md) (pc : Nat) (lv : List (Nat × Value)) (st : List Value) (σ : Mm) (Q : Option Value → Mm → Prop) : Prop :=
  ∀ (p : Program) (e : Env) (R : Room) (s : State) (m : MethodId) (args : Array Value) (below : List Frame) (meth : Method) (c : Code) (Z : State → Prop) (cells slots : Nat) (H : Heap) (locs : List Loc) (ls : Array Slot),
    Cx E M p R s m args c cells slots → Hd E σ s H locs → lv_has ls (mLoc M) lv →
    (∀ (r : Option Value) (σ' : Mm) (H' : Heap) (locs' : List Loc) (ls' : Array Slot) (pc' : Nat), Q r σ' → Hd E σ' s H' locs' → RetI M pc' r → W p (eL E) e R s m args below meth c H' locs' cells slots Z (F0 m pc' ls' r.toList)) →
    W p (eL E) e R s m args below meth c H locs cells slots Z (F0 m pc ls st)
theorem Rn.mono {E : EE} {M : Md} {pc : Nat} {lv : List (Nat × Value)} {st : List Value} {σ : Mm} {Q Q' : Option Value → Mm → Prop} (h : Rn E M pc lv st σ Q) (hq : ∀ r σ', Q r σ' → Q' r σ') : Rn E M pc lv st σ Q' :=
  fun p e R s m args below meth c Z cells slots H locs ls C hH hl hr => h p e R s m args below meth c Z cells slots H locs ls C hH hl (fun r σ' H' locs' ls' pc' q => hr r σ' H' locs' ls' pc' (hq r σ' q))
def qi (Q : Int32 → Mm → Prop) : Option Value → Mm → Prop := fun r σ => ∃ x : Int32, r = some (.int x) ∧ Q x σ
def ql (Q : Int64 → Mm → Prop) : Option Value → Mm → Prop := fun r σ => ∃ x : Int64, r = some (.long x) ∧ Q x σ
def qv (Q : Mm → Prop) : Option Value → Mm → Prop := fun r σ => r = none ∧ Q σ
def PcE (E : EE) (σ : Mm) (vs : List Value) : Array Value → State → Prop := va_Pc vs (fun U => va_P (eD E) vwCl (wl E σ) U.heap ∧ Fx E U U.heap)
def QcE (E : EE) (Q : Option Value → Mm → Prop) : Array Value → State → Outcome → State → Prop := fun _ st oc t => (∃ (r : Option Value) (σ' : Mm), oc = .returned r ∧ Q r σ' ∧ va_P (eD E) vwCl (wl E σ') t.heap) ∧ va_F (Aw E) st t
abbrev mWs (M : Md) : List Cond := Cond.code (mNm M) (mCode M) (mLoc M) (mRet M) :: TB
theorem Rn.met {E : EE} {M : Md} {vs : List Value} {σ : Mm} {Q : Option Value → Mm → Prop} (h : Rn E M 0 (lv_args 0 vs) [] σ Q) (hp : plainName (mNm M).cls = true) (ho : (mNm M).cls = mOwn M) (hn : (lg_sl vs).length ≤ mLoc M) :
    Met (eL E) (mNm M) (mWs M) ({ frames := mFr M, cells := 0, slots := 0, locals := mRm M }) (PcE E σ vs) (QcE E Q) 0 0 (Aw E) := by
  refine Met.ofW (cc := mCode M) (maxL := mLoc M) (ret := mRet M) hp rfl ?_
  intro p e s m args below meth c s₁ B hml hv
  obtain ⟨rfl, hP, hF⟩ := hv
  have hx := B.exec
  have hb := B.bytes
  have hr := B.returns
  have hlocks := B.notSynchronized
  have hts := atoms_spec (ws := mWs M) B.pre
  have hown : s.vm.findClass (mNm M).cls = some m.cls := findClass_of_methodNamed B.named
  have hl := lv_entry vs hn
  rw [lg_entry_eq]
  refine h p e _ s m _ below meth c _ 0 0 s.heap [] _ ⟨hx, hb, hml, by rw [← ho]; exact hown, fun w hw => hts w (List.mem_cons_of_mem _ hw), hF, ⟨Nat.le_refl _, Nat.le_refl _, Nat.zero_le _, Nat.zero_le _⟩⟩ ⟨hP, va_S.rf⟩ hl ?_
  intro r σ' H' locs' ls' pc' hq hH hI
  have fin : ∀ t : State, t.heap = H' → QcE E Q vs.toArray s (.returned r) t := fun t ht => ⟨⟨r, σ', rfl, hq, by rw [ht]; exact hH.1⟩, hH.2.F ht⟩
  match r, hI, fin with
  | none, hI, fin => exact W.vret hx hb (hr.trans hI.2) (fun t ht _ => fin t ht) hH.2.2.2 hI.1
  | some (.int x), hI, fin =>
    obtain ⟨h1, ty, h2, h3⟩ := hI
    exact W.zret (ty := ty) hx hb (hr.trans h2) h3 (fun t ht _ => fin t ht) hH.2.2.2 h1
  | some (.long x), hI, fin => exact W.lret hx hb (hr.trans hI.2) (fun t ht _ => fin t ht) hH.2.2.2 hI.1
  | some (.float x), hI, fin => exact hI.elim
  | some (.double x), hI, fin => exact hI.elim
  | some (.ref x), hI, fin => exact hI.elim
  | some .null, hI, fin => exact hI.elim
/-- a callee, by the tables -/
def Cal (M : Md) (n : Nat) : Prop := plainName (mNm M).cls = true ∧ (mNm M).cls = mOwn M ∧ Cond.code (mNm M) (mCode M) (mLoc M) (mRet M) ∈ TB ∧ Cond.initialized (mNm M).cls ∈ TB ∧ ((mNm M).cls ≠ "java/lang/invoke/MethodHandle" ∧ (mNm M).cls ≠ "java/lang/invoke/VarHandle" ∧ (parseMethodDescriptor (mNm M).desc).map (fun d => d.parameters.length) = some n)
end
section
theorem in_TBs (ws : List Cond) (ps : List Nat) (h : ws = ps.filterMap (fun i => lw_tbl[i]?)) (g : ws.all goodWord = true) : ∀ w ∈ ws, w ∈ TB := by
  intro w hw
  have h1 := List.all_eq_true.mp g w hw
  rw [h] at hw
  obtain ⟨i, -, hi⟩ := List.mem_filterMap.mp hw
  exact in_TB i hi h1
theorem kW_X0 : ∀ w ∈ u_ws RX0 TX0 3, w ∈ TB := in_TBs _ [226, 228, 230] (by decide +kernel) (by decide +kernel)
theorem kW_X1 : ∀ w ∈ u_ws RX1 TX1 4, w ∈ TB := in_TBs _ [284, 286, 288, 290] (by decide +kernel) (by decide +kernel)
theorem kW_X2 : ∀ w ∈ u_ws RX2 TX2 15, w ∈ TB := in_TBs _ [174, 176, 178, 180, 182, 184, 186, 188, 190, 192, 194, 196, 198, 200, 202] (by decide +kernel) (by decide +kernel)
theorem kW_X3 : ∀ w ∈ u_ws RX3 TX3 2, w ∈ TB := in_TBs _ [302, 304] (by decide +kernel) (by decide +kernel)
theorem kW_X4 : ∀ w ∈ u_ws RX4 TX4 2, w ∈ TB := in_TBs _ [242, 244] (by decide +kernel) (by decide +kernel)
theorem kW_X5 : ∀ w ∈ u_ws RX5 TX5 5, w ∈ TB := in_TBs _ [263, 265, 267, 269, 271] (by decide +kernel) (by decide +kernel)
theorem kW_X6 : ∀ w ∈ u_ws RX6 TX6 2, w ∈ TB := in_TBs _ [92, 94] (by decide +kernel) (by decide +kernel)
theorem kW_X7 : ∀ w ∈ u_ws RX7 TX7 2, w ∈ TB := in_TBs _ [209, 211] (by decide +kernel) (by decide +kernel)
theorem kW_X8 : ∀ w ∈ u_ws RX8 TX8 2, w ∈ TB := in_TBs _ [317, 319] (by decide +kernel) (by decide +kernel)
theorem kW_X9 : ∀ w ∈ u_ws RX9 TX9 14, w ∈ TB := in_TBs _ [336, 338, 340, 342, 344, 346, 348, 350, 352, 354, 356, 358, 360, 362] (by decide +kernel) (by decide +kernel)
theorem kW_X10 : ∀ w ∈ u_ws RX10 TX10 34, w ∈ TB := in_TBs _ [867, 869, 871, 873, 875, 877, 879, 881, 883, 885, 887, 889, 891, 893, 895, 897, 899, 901, 903, 905, 907, 909, 911, 913, 915, 917, 919, 921, 923, 925, 927, 929, 931, 933] (by decide +kernel) (by decide +kernel)
theorem kW_all : ∀ q ∈ vwCl, ∀ w ∈ u_ws q.1 q.2.1 q.2.2, w ∈ TB := by
  show ∀ q ∈ [(RX0, TX0, 3), (RX1, TX1, 4), (RX2, TX2, 15), (RX3, TX3, 2), (RX4, TX4, 2), (RX5, TX5, 5), (RX6, TX6, 2), (RX7, TX7, 2), (RX8, TX8, 2), (RX9, TX9, 14), (RX10, TX10, 34)], _
  simp only [List.forall_mem_cons]
  exact ⟨kW_X0, kW_X1, kW_X2, kW_X3, kW_X4, kW_X5, kW_X6, kW_X7, kW_X8, kW_X9, kW_X10, fun _ h => absurd h List.not_mem_nil⟩
theorem kC_X8_49 : Cond.constant RX8 49 (65536) ∈ TB := in_TB 776 (by decide +kernel) (by decide +kernel)
theorem kC_X10_222 : Cond.constant RX10 222 (65536) ∈ TB := in_TB 1147 (by decide +kernel) (by decide +kernel)
theorem kC_J11_110 : Cond.constant RJ11 110 (55232) ∈ TB := in_TB 489 (by decide +kernel) (by decide +kernel)
theorem kC_J11_76 : Cond.constant RJ11 76 (56320) ∈ TB := in_TB 493 (by decide +kernel) (by decide +kernel)
theorem kC_J6_265 : Cond.constant RJ6 265 (1431655765) ∈ TB := in_TB 618 (by decide +kernel) (by decide +kernel)
theorem kC_J6_266 : Cond.constant RJ6 266 (858993459) ∈ TB := in_TB 619 (by decide +kernel) (by decide +kernel)
theorem kC_J6_267 : Cond.constant RJ6 267 (252645135) ∈ TB := in_TB 620 (by decide +kernel) (by decide +kernel)
theorem kC_J2_227 : Cond.constant RJ2 227 (65536) ∈ TB := in_TB 450 (by decide +kernel) (by decide +kernel)
theorem kC_X8_43 : Cond.constantLong RX8 43 (1103515245) ∈ TB := in_TB 773 (by decide +kernel) (by decide +kernel)
theorem kC_X8_45 : Cond.constantLong RX8 45 (12345) ∈ TB := in_TB 774 (by decide +kernel) (by decide +kernel)
theorem kC_X8_47 : Cond.constantLong RX8 47 (2147483648) ∈ TB := in_TB 775 (by decide +kernel) (by decide +kernel)
theorem kC_X9_260 : Cond.constantLong RX9 260 (1289) ∈ TB := in_TB 808 (by decide +kernel) (by decide +kernel)
theorem kC_X9_272 : Cond.constantLong RX9 272 (31) ∈ TB := in_TB 813 (by decide +kernel) (by decide +kernel)
theorem kC_X10_140 : Cond.constantLong RX10 140 (4) ∈ TB := in_TB 1015 (by decide +kernel) (by decide +kernel)
theorem kC_X10_175 : Cond.constantLong RX10 175 (9) ∈ TB := in_TB 1078 (by decide +kernel) (by decide +kernel)
theorem kC_X10_177 : Cond.constantLong RX10 177 (6) ∈ TB := in_TB 1083 (by decide +kernel) (by decide +kernel)
theorem kC_X10_179 : Cond.constantLong RX10 179 (20) ∈ TB := in_TB 1088 (by decide +kernel) (by decide +kernel)
theorem kC_X10_191 : Cond.constantLong RX10 191 (2) ∈ TB := in_TB 1093 (by decide +kernel) (by decide +kernel)
theorem kC_X10_205 : Cond.constantLong RX10 205 (10) ∈ TB := in_TB 1122 (by decide +kernel) (by decide +kernel)
theorem kC_X10_213 : Cond.constantLong RX10 213 (1103515245) ∈ TB := in_TB 1144 (by decide +kernel) (by decide +kernel)
theorem kC_X10_218 : Cond.constantLong RX10 218 (12345) ∈ TB := in_TB 1145 (by decide +kernel) (by decide +kernel)
theorem kC_X10_220 : Cond.constantLong RX10 220 (2147483647) ∈ TB := in_TB 1146 (by decide +kernel) (by decide +kernel)
theorem kC_X10_223 : Cond.constantLong RX10 223 (60) ∈ TB := in_TB 1139 (by decide +kernel) (by decide +kernel)
theorem kC_X10_250 : Cond.constantLong RX10 250 (31) ∈ TB := in_TB 1181 (by decide +kernel) (by decide +kernel)
theorem kC_X10_260 : Cond.constantLong RX10 260 (1289) ∈ TB := in_TB 1176 (by decide +kernel) (by decide +kernel)
theorem kC_X10_59 : Cond.constantLong RX10 59 (126) ∈ TB := in_TB 940 (by decide +kernel) (by decide +kernel)
theorem kC_X10_72 : Cond.constantLong RX10 72 (48) ∈ TB := in_TB 969 (by decide +kernel) (by decide +kernel)
theorem kC_X10_74 : Cond.constantLong RX10 74 (57) ∈ TB := in_TB 970 (by decide +kernel) (by decide +kernel)
theorem kC_X10_83 : Cond.constantLong RX10 83 (49) ∈ TB := in_TB 960 (by decide +kernel) (by decide +kernel)
theorem kC_X10_85 : Cond.constantLong RX10 85 (54) ∈ TB := in_TB 961 (by decide +kernel) (by decide +kernel)
theorem kF_X0_15 : Cond.fieldLink RX0 15 (TX0 1).1 (TX0 1).2.1 (TX0 1).2.2.1 ∈ TB := in_TB 224 (by decide +kernel) (by decide +kernel)
theorem kF_X0_18 : Cond.fieldLink RX0 18 (TX0 2).1 (TX0 2).2.1 (TX0 2).2.2.1 ∈ TB := in_TB 225 (by decide +kernel) (by decide +kernel)
theorem kF_X0_22 : Cond.fieldLink RX0 22 (TX2 1).1 (TX2 1).2.1 (TX2 1).2.2.1 ∈ TB := in_TB 117 (by decide +kernel) (by decide +kernel)
theorem kF_X0_25 : Cond.fieldLink RX0 25 (TX2 2).1 (TX2 2).2.1 (TX2 2).2.2.1 ∈ TB := in_TB 128 (by decide +kernel) (by decide +kernel)
theorem kF_X0_28 : Cond.fieldLink RX0 28 (TX2 9).1 (TX2 9).2.1 (TX2 9).2.2.1 ∈ TB := in_TB 155 (by decide +kernel) (by decide +kernel)
theorem kF_X0_35 : Cond.fieldLink RX0 35 (TX2 11).1 (TX2 11).2.1 (TX2 11).2.2.1 ∈ TB := in_TB 165 (by decide +kernel) (by decide +kernel)
theorem kF_X0_38 : Cond.fieldLink RX0 38 (TX2 6).1 (TX2 6).2.1 (TX2 6).2.2.1 ∈ TB := in_TB 143 (by decide +kernel) (by decide +kernel)
theorem kF_X0_9 : Cond.fieldLink RX0 9 (TX0 0).1 (TX0 0).2.1 (TX0 0).2.2.1 ∈ TB := in_TB 222 (by decide +kernel) (by decide +kernel)
theorem kF_X1_15 : Cond.fieldLink RX1 15 (TX1 1).1 (TX1 1).2.1 (TX1 1).2.2.1 ∈ TB := in_TB 281 (by decide +kernel) (by decide +kernel)
theorem kF_X1_18 : Cond.fieldLink RX1 18 (TX1 2).1 (TX1 2).2.1 (TX1 2).2.2.1 ∈ TB := in_TB 282 (by decide +kernel) (by decide +kernel)
theorem kF_X1_21 : Cond.fieldLink RX1 21 (TX1 3).1 (TX1 3).2.1 (TX1 3).2.2.1 ∈ TB := in_TB 283 (by decide +kernel) (by decide +kernel)
theorem kF_X1_25 : Cond.fieldLink RX1 25 (TX2 2).1 (TX2 2).2.1 (TX2 2).2.2.1 ∈ TB := in_TB 124 (by decide +kernel) (by decide +kernel)
theorem kF_X1_30 : Cond.fieldLink RX1 30 (TX2 3).1 (TX2 3).2.1 (TX2 3).2.2.1 ∈ TB := in_TB 132 (by decide +kernel) (by decide +kernel)
theorem kF_X1_43 : Cond.fieldLink RX1 43 (TX2 1).1 (TX2 1).2.1 (TX2 1).2.2.1 ∈ TB := in_TB 120 (by decide +kernel) (by decide +kernel)
theorem kF_X1_52 : Cond.fieldLink RX1 52 (TX2 0).1 (TX2 0).2.1 (TX2 0).2.2.1 ∈ TB := in_TB 113 (by decide +kernel) (by decide +kernel)
theorem kF_X1_9 : Cond.fieldLink RX1 9 (TX1 0).1 (TX1 0).2.1 (TX1 0).2.2.1 ∈ TB := in_TB 280 (by decide +kernel) (by decide +kernel)
theorem kF_X2_15 : Cond.fieldLink RX2 15 (TX2 1).1 (TX2 1).2.1 (TX2 1).2.2.1 ∈ TB := in_TB 116 (by decide +kernel) (by decide +kernel)
theorem kF_X2_18 : Cond.fieldLink RX2 18 (TX2 2).1 (TX2 2).2.1 (TX2 2).2.2.1 ∈ TB := in_TB 123 (by decide +kernel) (by decide +kernel)
theorem kF_X2_21 : Cond.fieldLink RX2 21 (TX2 3).1 (TX2 3).2.1 (TX2 3).2.2.1 ∈ TB := in_TB 131 (by decide +kernel) (by decide +kernel)
theorem kF_X2_24 : Cond.fieldLink RX2 24 (TX2 4).1 (TX2 4).2.1 (TX2 4).2.2.1 ∈ TB := in_TB 137 (by decide +kernel) (by decide +kernel)
theorem kF_X2_27 : Cond.fieldLink RX2 27 (TX2 5).1 (TX2 5).2.1 (TX2 5).2.2.1 ∈ TB := in_TB 139 (by decide +kernel) (by decide +kernel)
theorem kF_X2_30 : Cond.fieldLink RX2 30 (TX2 6).1 (TX2 6).2.1 (TX2 6).2.2.1 ∈ TB := in_TB 142 (by decide +kernel) (by decide +kernel)
theorem kF_X2_34 : Cond.fieldLink RX2 34 (TX2 7).1 (TX2 7).2.1 (TX2 7).2.2.1 ∈ TB := in_TB 146 (by decide +kernel) (by decide +kernel)
theorem kF_X2_37 : Cond.fieldLink RX2 37 (TX2 8).1 (TX2 8).2.1 (TX2 8).2.2.1 ∈ TB := in_TB 150 (by decide +kernel) (by decide +kernel)
theorem kF_X2_40 : Cond.fieldLink RX2 40 (TX2 9).1 (TX2 9).2.1 (TX2 9).2.2.1 ∈ TB := in_TB 153 (by decide +kernel) (by decide +kernel)
theorem kF_X2_43 : Cond.fieldLink RX2 43 (TX2 10).1 (TX2 10).2.1 (TX2 10).2.2.1 ∈ TB := in_TB 159 (by decide +kernel) (by decide +kernel)
theorem kF_X2_46 : Cond.fieldLink RX2 46 (TX2 11).1 (TX2 11).2.1 (TX2 11).2.2.1 ∈ TB := in_TB 163 (by decide +kernel) (by decide +kernel)
theorem kF_X2_49 : Cond.fieldLink RX2 49 (TX2 12).1 (TX2 12).2.1 (TX2 12).2.2.1 ∈ TB := in_TB 168 (by decide +kernel) (by decide +kernel)
theorem kF_X2_52 : Cond.fieldLink RX2 52 (TX2 13).1 (TX2 13).2.1 (TX2 13).2.2.1 ∈ TB := in_TB 170 (by decide +kernel) (by decide +kernel)
theorem kF_X2_55 : Cond.fieldLink RX2 55 (TX2 14).1 (TX2 14).2.1 (TX2 14).2.2.1 ∈ TB := in_TB 172 (by decide +kernel) (by decide +kernel)
theorem kF_X2_9 : Cond.fieldLink RX2 9 (TX2 0).1 (TX2 0).2.1 (TX2 0).2.2.1 ∈ TB := in_TB 110 (by decide +kernel) (by decide +kernel)
theorem kF_X3_15 : Cond.fieldLink RX3 15 (TX3 1).1 (TX3 1).2.1 (TX3 1).2.2.1 ∈ TB := in_TB 300 (by decide +kernel) (by decide +kernel)
theorem kF_X3_25 : Cond.fieldLink RX3 25 (TX2 11).1 (TX2 11).2.1 (TX2 11).2.2.1 ∈ TB := in_TB 164 (by decide +kernel) (by decide +kernel)
theorem kF_X3_28 : Cond.fieldLink RX3 28 (TX2 3).1 (TX2 3).2.1 (TX2 3).2.2.1 ∈ TB := in_TB 134 (by decide +kernel) (by decide +kernel)
theorem kF_X3_37 : Cond.fieldLink RX3 37 (TX2 9).1 (TX2 9).2.1 (TX2 9).2.2.1 ∈ TB := in_TB 154 (by decide +kernel) (by decide +kernel)
theorem kF_X3_48 : Cond.fieldLink RX3 48 (TX2 5).1 (TX2 5).2.1 (TX2 5).2.2.1 ∈ TB := in_TB 140 (by decide +kernel) (by decide +kernel)
theorem kF_X3_51 : Cond.fieldLink RX3 51 (TX2 12).1 (TX2 12).2.1 (TX2 12).2.2.1 ∈ TB := in_TB 169 (by decide +kernel) (by decide +kernel)
theorem kF_X3_54 : Cond.fieldLink RX3 54 (TX2 13).1 (TX2 13).2.1 (TX2 13).2.2.1 ∈ TB := in_TB 171 (by decide +kernel) (by decide +kernel)
theorem kF_X3_57 : Cond.fieldLink RX3 57 (TX2 14).1 (TX2 14).2.1 (TX2 14).2.2.1 ∈ TB := in_TB 173 (by decide +kernel) (by decide +kernel)
theorem kF_X3_9 : Cond.fieldLink RX3 9 (TX3 0).1 (TX3 0).2.1 (TX3 0).2.2.1 ∈ TB := in_TB 299 (by decide +kernel) (by decide +kernel)
theorem kF_X4_15 : Cond.fieldLink RX4 15 (TX4 1).1 (TX4 1).2.1 (TX4 1).2.2.1 ∈ TB := in_TB 241 (by decide +kernel) (by decide +kernel)
theorem kF_X4_19 : Cond.fieldLink RX4 19 (TX2 1).1 (TX2 1).2.1 (TX2 1).2.2.1 ∈ TB := in_TB 118 (by decide +kernel) (by decide +kernel)
theorem kF_X4_22 : Cond.fieldLink RX4 22 (TX2 2).1 (TX2 2).2.1 (TX2 2).2.2.1 ∈ TB := in_TB 127 (by decide +kernel) (by decide +kernel)
theorem kF_X4_29 : Cond.fieldLink RX4 29 (TX2 10).1 (TX2 10).2.1 (TX2 10).2.2.1 ∈ TB := in_TB 160 (by decide +kernel) (by decide +kernel)
theorem kF_X4_32 : Cond.fieldLink RX4 32 (TX2 9).1 (TX2 9).2.1 (TX2 9).2.2.1 ∈ TB := in_TB 156 (by decide +kernel) (by decide +kernel)
theorem kF_X4_43 : Cond.fieldLink RX4 43 (TX2 3).1 (TX2 3).2.1 (TX2 3).2.2.1 ∈ TB := in_TB 135 (by decide +kernel) (by decide +kernel)
theorem kF_X4_9 : Cond.fieldLink RX4 9 (TX4 0).1 (TX4 0).2.1 (TX4 0).2.2.1 ∈ TB := in_TB 239 (by decide +kernel) (by decide +kernel)
theorem kF_X5_11 : Cond.fieldLink RX5 11 (TX5 0).1 (TX5 0).2.1 (TX5 0).2.2.1 ∈ TB := in_TB 255 (by decide +kernel) (by decide +kernel)
theorem kF_X5_16 : Cond.fieldLink RX5 16 (TX5 1).1 (TX5 1).2.1 (TX5 1).2.2.1 ∈ TB := in_TB 256 (by decide +kernel) (by decide +kernel)
theorem kF_X5_19 : Cond.fieldLink RX5 19 (TX5 2).1 (TX5 2).2.1 (TX5 2).2.2.1 ∈ TB := in_TB 257 (by decide +kernel) (by decide +kernel)
theorem kF_X5_23 : Cond.fieldLink RX5 23 (TX5 3).1 (TX5 3).2.1 (TX5 3).2.2.1 ∈ TB := in_TB 259 (by decide +kernel) (by decide +kernel)
theorem kF_X5_26 : Cond.fieldLink RX5 26 (TX5 4).1 (TX5 4).2.1 (TX5 4).2.2.1 ∈ TB := in_TB 261 (by decide +kernel) (by decide +kernel)
theorem kF_X5_33 : Cond.fieldLink RX5 33 (TX2 2).1 (TX2 2).2.1 (TX2 2).2.2.1 ∈ TB := in_TB 125 (by decide +kernel) (by decide +kernel)
theorem kF_X5_44 : Cond.fieldLink RX5 44 (TX2 1).1 (TX2 1).2.1 (TX2 1).2.2.1 ∈ TB := in_TB 119 (by decide +kernel) (by decide +kernel)
theorem kF_X5_47 : Cond.fieldLink RX5 47 (TX2 0).1 (TX2 0).2.1 (TX2 0).2.2.1 ∈ TB := in_TB 111 (by decide +kernel) (by decide +kernel)
theorem kF_X5_58 : Cond.fieldLink RX5 58 (TX2 7).1 (TX2 7).2.1 (TX2 7).2.2.1 ∈ TB := in_TB 147 (by decide +kernel) (by decide +kernel)
theorem kF_X6_15 : Cond.fieldLink RX6 15 (TX6 1).1 (TX6 1).2.1 (TX6 1).2.2.1 ∈ TB := in_TB 89 (by decide +kernel) (by decide +kernel)
theorem kF_X6_9 : Cond.fieldLink RX6 9 (TX6 0).1 (TX6 0).2.1 (TX6 0).2.2.1 ∈ TB := in_TB 86 (by decide +kernel) (by decide +kernel)
theorem kF_X7_101 : Cond.fieldLink RX7 101 (TX2 10).1 (TX2 10).2.1 (TX2 10).2.2.1 ∈ TB := in_TB 162 (by decide +kernel) (by decide +kernel)
theorem kF_X7_104 : Cond.fieldLink RX7 104 (TX2 11).1 (TX2 11).2.1 (TX2 11).2.2.1 ∈ TB := in_TB 167 (by decide +kernel) (by decide +kernel)
theorem kF_X7_12 : Cond.fieldLink RX7 12 (TX7 0).1 (TX7 0).2.1 (TX7 0).2.2.1 ∈ TB := in_TB 206 (by decide +kernel) (by decide +kernel)
theorem kF_X7_18 : Cond.fieldLink RX7 18 (TX7 1).1 (TX7 1).2.1 (TX7 1).2.2.1 ∈ TB := in_TB 208 (by decide +kernel) (by decide +kernel)
theorem kF_X7_25 : Cond.fieldLink RX7 25 (TX6 1).1 (TX6 1).2.1 (TX6 1).2.2.1 ∈ TB := in_TB 90 (by decide +kernel) (by decide +kernel)
theorem kF_X7_30 : Cond.fieldLink RX7 30 (TX6 0).1 (TX6 0).2.1 (TX6 0).2.2.1 ∈ TB := in_TB 87 (by decide +kernel) (by decide +kernel)
theorem kF_X7_74 : Cond.fieldLink RX7 74 (TX2 2).1 (TX2 2).2.1 (TX2 2).2.2.1 ∈ TB := in_TB 129 (by decide +kernel) (by decide +kernel)
theorem kF_X7_77 : Cond.fieldLink RX7 77 (TX2 0).1 (TX2 0).2.1 (TX2 0).2.2.1 ∈ TB := in_TB 114 (by decide +kernel) (by decide +kernel)
theorem kF_X7_83 : Cond.fieldLink RX7 83 (TX2 1).1 (TX2 1).2.1 (TX2 1).2.2.1 ∈ TB := in_TB 122 (by decide +kernel) (by decide +kernel)
theorem kF_X7_86 : Cond.fieldLink RX7 86 (TX2 6).1 (TX2 6).2.1 (TX2 6).2.2.1 ∈ TB := in_TB 145 (by decide +kernel) (by decide +kernel)
theorem kF_X7_89 : Cond.fieldLink RX7 89 (TX2 7).1 (TX2 7).2.1 (TX2 7).2.2.1 ∈ TB := in_TB 149 (by decide +kernel) (by decide +kernel)
theorem kF_X7_92 : Cond.fieldLink RX7 92 (TX2 8).1 (TX2 8).2.1 (TX2 8).2.2.1 ∈ TB := in_TB 152 (by decide +kernel) (by decide +kernel)
theorem kF_X7_98 : Cond.fieldLink RX7 98 (TX2 9).1 (TX2 9).2.1 (TX2 9).2.2.1 ∈ TB := in_TB 158 (by decide +kernel) (by decide +kernel)
theorem kF_X8_13 : Cond.fieldLink RX8 13 (TX8 1).1 (TX8 1).2.1 (TX8 1).2.2.1 ∈ TB := in_TB 315 (by decide +kernel) (by decide +kernel)
theorem kF_X8_16 : Cond.fieldLink RX8 16 (TX2 3).1 (TX2 3).2.1 (TX2 3).2.2.1 ∈ TB := in_TB 133 (by decide +kernel) (by decide +kernel)
theorem kF_X8_21 : Cond.fieldLink RX8 21 (TX2 2).1 (TX2 2).2.1 (TX2 2).2.2.1 ∈ TB := in_TB 126 (by decide +kernel) (by decide +kernel)
theorem kF_X8_34 : Cond.fieldLink RX8 34 (TX2 0).1 (TX2 0).2.1 (TX2 0).2.2.1 ∈ TB := in_TB 112 (by decide +kernel) (by decide +kernel)
theorem kF_X8_7 : Cond.fieldLink RX8 7 (TX8 0).1 (TX8 0).2.1 (TX8 0).2.2.1 ∈ TB := in_TB 313 (by decide +kernel) (by decide +kernel)
theorem kF_X9_10 : Cond.fieldLink RX9 10 (TX9 0).1 (TX9 0).2.1 (TX9 0).2.2.1 ∈ TB := in_TB 322 (by decide +kernel) (by decide +kernel)
theorem kF_X9_104 : Cond.fieldLink RX9 104 (TX7 0).1 (TX7 0).2.1 (TX7 0).2.2.1 ∈ TB := in_TB 207 (by decide +kernel) (by decide +kernel)
theorem kF_X9_111 : Cond.fieldLink RX9 111 (TX2 1).1 (TX2 1).2.1 (TX2 1).2.2.1 ∈ TB := in_TB 121 (by decide +kernel) (by decide +kernel)
theorem kF_X9_118 : Cond.fieldLink RX9 118 (TX2 6).1 (TX2 6).2.1 (TX2 6).2.2.1 ∈ TB := in_TB 144 (by decide +kernel) (by decide +kernel)
theorem kF_X9_122 : Cond.fieldLink RX9 122 (TX2 7).1 (TX2 7).2.1 (TX2 7).2.2.1 ∈ TB := in_TB 148 (by decide +kernel) (by decide +kernel)
theorem kF_X9_137 : Cond.fieldLink RX9 137 (TX2 8).1 (TX2 8).2.1 (TX2 8).2.2.1 ∈ TB := in_TB 151 (by decide +kernel) (by decide +kernel)
theorem kF_X9_140 : Cond.fieldLink RX9 140 (TX2 3).1 (TX2 3).2.1 (TX2 3).2.2.1 ∈ TB := in_TB 136 (by decide +kernel) (by decide +kernel)
theorem kF_X9_147 : Cond.fieldLink RX9 147 (TX4 0).1 (TX4 0).2.1 (TX4 0).2.2.1 ∈ TB := in_TB 240 (by decide +kernel) (by decide +kernel)
theorem kF_X9_159 : Cond.fieldLink RX9 159 (TX2 9).1 (TX2 9).2.1 (TX2 9).2.2.1 ∈ TB := in_TB 157 (by decide +kernel) (by decide +kernel)
theorem kF_X9_162 : Cond.fieldLink RX9 162 (TX2 10).1 (TX2 10).2.1 (TX2 10).2.2.1 ∈ TB := in_TB 161 (by decide +kernel) (by decide +kernel)
theorem kF_X9_165 : Cond.fieldLink RX9 165 (TX2 11).1 (TX2 11).2.1 (TX2 11).2.2.1 ∈ TB := in_TB 166 (by decide +kernel) (by decide +kernel)
theorem kF_X9_174 : Cond.fieldLink RX9 174 (TX3 1).1 (TX3 1).2.1 (TX3 1).2.2.1 ∈ TB := in_TB 301 (by decide +kernel) (by decide +kernel)
theorem kF_X9_187 : Cond.fieldLink RX9 187 (TX2 4).1 (TX2 4).2.1 (TX2 4).2.2.1 ∈ TB := in_TB 138 (by decide +kernel) (by decide +kernel)
theorem kF_X9_19 : Cond.fieldLink RX9 19 (TX9 1).1 (TX9 1).2.1 (TX9 1).2.2.1 ∈ TB := in_TB 323 (by decide +kernel) (by decide +kernel)
theorem kF_X9_196 : Cond.fieldLink RX9 196 (TX2 0).1 (TX2 0).2.1 (TX2 0).2.2.1 ∈ TB := in_TB 115 (by decide +kernel) (by decide +kernel)
theorem kF_X9_203 : Cond.fieldLink RX9 203 (TX5 2).1 (TX5 2).2.1 (TX5 2).2.2.1 ∈ TB := in_TB 258 (by decide +kernel) (by decide +kernel)
theorem kF_X9_206 : Cond.fieldLink RX9 206 (TX5 3).1 (TX5 3).2.1 (TX5 3).2.2.1 ∈ TB := in_TB 260 (by decide +kernel) (by decide +kernel)
theorem kF_X9_209 : Cond.fieldLink RX9 209 (TX5 4).1 (TX5 4).2.1 (TX5 4).2.2.1 ∈ TB := in_TB 262 (by decide +kernel) (by decide +kernel)
theorem kF_X9_232 : Cond.fieldLink RX9 232 (TX2 5).1 (TX2 5).2.1 (TX2 5).2.2.1 ∈ TB := in_TB 141 (by decide +kernel) (by decide +kernel)
theorem kF_X9_243 : Cond.fieldLink RX9 243 (TX8 0).1 (TX8 0).2.1 (TX8 0).2.2.1 ∈ TB := in_TB 314 (by decide +kernel) (by decide +kernel)
theorem kF_X9_247 : Cond.fieldLink RX9 247 (TX8 1).1 (TX8 1).2.1 (TX8 1).2.2.1 ∈ TB := in_TB 316 (by decide +kernel) (by decide +kernel)
theorem kF_X9_250 : Cond.fieldLink RX9 250 (TX2 2).1 (TX2 2).2.1 (TX2 2).2.2.1 ∈ TB := in_TB 130 (by decide +kernel) (by decide +kernel)
theorem kF_X9_26 : Cond.fieldLink RX9 26 (TX9 2).1 (TX9 2).2.1 (TX9 2).2.2.1 ∈ TB := in_TB 324 (by decide +kernel) (by decide +kernel)
theorem kF_X9_274 : Cond.fieldLink RX9 274 (TX6 0).1 (TX6 0).2.1 (TX6 0).2.2.1 ∈ TB := in_TB 88 (by decide +kernel) (by decide +kernel)
theorem kF_X9_292 : Cond.fieldLink RX9 292 (TX0 0).1 (TX0 0).2.1 (TX0 0).2.2.1 ∈ TB := in_TB 223 (by decide +kernel) (by decide +kernel)
theorem kF_X9_30 : Cond.fieldLink RX9 30 (TX9 3).1 (TX9 3).2.1 (TX9 3).2.2.1 ∈ TB := in_TB 325 (by decide +kernel) (by decide +kernel)
theorem kF_X9_33 : Cond.fieldLink RX9 33 (TX9 4).1 (TX9 4).2.1 (TX9 4).2.2.1 ∈ TB := in_TB 326 (by decide +kernel) (by decide +kernel)
theorem kF_X9_39 : Cond.fieldLink RX9 39 (TX9 5).1 (TX9 5).2.1 (TX9 5).2.2.1 ∈ TB := in_TB 327 (by decide +kernel) (by decide +kernel)
theorem kF_X9_46 : Cond.fieldLink RX9 46 (TX9 6).1 (TX9 6).2.1 (TX9 6).2.2.1 ∈ TB := in_TB 328 (by decide +kernel) (by decide +kernel)
theorem kF_X9_53 : Cond.fieldLink RX9 53 (TX9 7).1 (TX9 7).2.1 (TX9 7).2.2.1 ∈ TB := in_TB 329 (by decide +kernel) (by decide +kernel)
theorem kF_X9_60 : Cond.fieldLink RX9 60 (TX9 8).1 (TX9 8).2.1 (TX9 8).2.2.1 ∈ TB := in_TB 330 (by decide +kernel) (by decide +kernel)
theorem kF_X9_67 : Cond.fieldLink RX9 67 (TX9 9).1 (TX9 9).2.1 (TX9 9).2.2.1 ∈ TB := in_TB 331 (by decide +kernel) (by decide +kernel)
theorem kF_X9_74 : Cond.fieldLink RX9 74 (TX9 10).1 (TX9 10).2.1 (TX9 10).2.2.1 ∈ TB := in_TB 332 (by decide +kernel) (by decide +kernel)
theorem kF_X9_78 : Cond.fieldLink RX9 78 (TX9 11).1 (TX9 11).2.1 (TX9 11).2.2.1 ∈ TB := in_TB 333 (by decide +kernel) (by decide +kernel)
theorem kF_X9_82 : Cond.fieldLink RX9 82 (TX9 12).1 (TX9 12).2.1 (TX9 12).2.2.1 ∈ TB := in_TB 334 (by decide +kernel) (by decide +kernel)
theorem kF_X9_86 : Cond.fieldLink RX9 86 (TX9 13).1 (TX9 13).2.1 (TX9 13).2.2.1 ∈ TB := in_TB 335 (by decide +kernel) (by decide +kernel)
theorem kF_X9_89 : Cond.fieldLink RX9 89 (TX6 1).1 (TX6 1).2.1 (TX6 1).2.2.1 ∈ TB := in_TB 91 (by decide +kernel) (by decide +kernel)
theorem kF_X10_100 : Cond.fieldLink RX10 100 (TX10 5).1 (TX10 5).2.1 (TX10 5).2.2.1 ∈ TB := in_TB 838 (by decide +kernel) (by decide +kernel)
theorem kF_X10_103 : Cond.fieldLink RX10 103 (TX10 3).1 (TX10 3).2.1 (TX10 3).2.2.1 ∈ TB := in_TB 836 (by decide +kernel) (by decide +kernel)
theorem kF_X10_106 : Cond.fieldLink RX10 106 (TX10 4).1 (TX10 4).2.1 (TX10 4).2.2.1 ∈ TB := in_TB 837 (by decide +kernel) (by decide +kernel)
theorem kF_X10_109 : Cond.fieldLink RX10 109 (TX10 6).1 (TX10 6).2.1 (TX10 6).2.2.1 ∈ TB := in_TB 839 (by decide +kernel) (by decide +kernel)
theorem kF_X10_112 : Cond.fieldLink RX10 112 (TX10 7).1 (TX10 7).2.1 (TX10 7).2.2.1 ∈ TB := in_TB 840 (by decide +kernel) (by decide +kernel)
theorem kF_X10_115 : Cond.fieldLink RX10 115 (TX10 20).1 (TX10 20).2.1 (TX10 20).2.2.1 ∈ TB := in_TB 853 (by decide +kernel) (by decide +kernel)
theorem kF_X10_118 : Cond.fieldLink RX10 118 (TX10 8).1 (TX10 8).2.1 (TX10 8).2.2.1 ∈ TB := in_TB 841 (by decide +kernel) (by decide +kernel)
theorem kF_X10_13 : Cond.fieldLink RX10 13 (TX10 9).1 (TX10 9).2.1 (TX10 9).2.2.1 ∈ TB := in_TB 842 (by decide +kernel) (by decide +kernel)
theorem kF_X10_16 : Cond.fieldLink RX10 16 (TX10 10).1 (TX10 10).2.1 (TX10 10).2.2.1 ∈ TB := in_TB 843 (by decide +kernel) (by decide +kernel)
theorem kF_X10_181 : Cond.fieldLink RX10 181 (TX10 18).1 (TX10 18).2.1 (TX10 18).2.2.1 ∈ TB := in_TB 851 (by decide +kernel) (by decide +kernel)
theorem kF_X10_184 : Cond.fieldLink RX10 184 (TX10 19).1 (TX10 19).2.1 (TX10 19).2.2.1 ∈ TB := in_TB 852 (by decide +kernel) (by decide +kernel)
theorem kF_X10_19 : Cond.fieldLink RX10 19 (TX10 11).1 (TX10 11).2.1 (TX10 11).2.2.1 ∈ TB := in_TB 844 (by decide +kernel) (by decide +kernel)
theorem kF_X10_193 : Cond.fieldLink RX10 193 (TX10 17).1 (TX10 17).2.1 (TX10 17).2.2.1 ∈ TB := in_TB 850 (by decide +kernel) (by decide +kernel)
theorem kF_X10_215 : Cond.fieldLink RX10 215 (TX10 22).1 (TX10 22).2.1 (TX10 22).2.2.1 ∈ TB := in_TB 855 (by decide +kernel) (by decide +kernel)
theorem kF_X10_22 : Cond.fieldLink RX10 22 (TX10 12).1 (TX10 12).2.1 (TX10 12).2.2.1 ∈ TB := in_TB 845 (by decide +kernel) (by decide +kernel)
theorem kF_X10_232 : Cond.fieldLink RX10 232 (TX10 24).1 (TX10 24).2.1 (TX10 24).2.2.1 ∈ TB := in_TB 857 (by decide +kernel) (by decide +kernel)
theorem kF_X10_235 : Cond.fieldLink RX10 235 (TX10 25).1 (TX10 25).2.1 (TX10 25).2.2.1 ∈ TB := in_TB 858 (by decide +kernel) (by decide +kernel)
theorem kF_X10_238 : Cond.fieldLink RX10 238 (TX10 26).1 (TX10 26).2.1 (TX10 26).2.2.1 ∈ TB := in_TB 859 (by decide +kernel) (by decide +kernel)
theorem kF_X10_241 : Cond.fieldLink RX10 241 (TX10 27).1 (TX10 27).2.1 (TX10 27).2.2.1 ∈ TB := in_TB 860 (by decide +kernel) (by decide +kernel)
theorem kF_X10_25 : Cond.fieldLink RX10 25 (TX10 13).1 (TX10 13).2.1 (TX10 13).2.2.1 ∈ TB := in_TB 846 (by decide +kernel) (by decide +kernel)
theorem kF_X10_252 : Cond.fieldLink RX10 252 (TX10 33).1 (TX10 33).2.1 (TX10 33).2.2.1 ∈ TB := in_TB 866 (by decide +kernel) (by decide +kernel)
theorem kF_X10_28 : Cond.fieldLink RX10 28 (TX10 14).1 (TX10 14).2.1 (TX10 14).2.2.1 ∈ TB := in_TB 847 (by decide +kernel) (by decide +kernel)
theorem kF_X10_31 : Cond.fieldLink RX10 31 (TX10 15).1 (TX10 15).2.1 (TX10 15).2.2.1 ∈ TB := in_TB 848 (by decide +kernel) (by decide +kernel)
theorem kF_X10_34 : Cond.fieldLink RX10 34 (TX10 16).1 (TX10 16).2.1 (TX10 16).2.2.1 ∈ TB := in_TB 849 (by decide +kernel) (by decide +kernel)
theorem kF_X10_37 : Cond.fieldLink RX10 37 (TX10 21).1 (TX10 21).2.1 (TX10 21).2.2.1 ∈ TB := in_TB 854 (by decide +kernel) (by decide +kernel)
theorem kF_X10_40 : Cond.fieldLink RX10 40 (TX10 28).1 (TX10 28).2.1 (TX10 28).2.2.1 ∈ TB := in_TB 861 (by decide +kernel) (by decide +kernel)
theorem kF_X10_43 : Cond.fieldLink RX10 43 (TX10 29).1 (TX10 29).2.1 (TX10 29).2.2.1 ∈ TB := in_TB 862 (by decide +kernel) (by decide +kernel)
theorem kF_X10_46 : Cond.fieldLink RX10 46 (TX10 30).1 (TX10 30).2.1 (TX10 30).2.2.1 ∈ TB := in_TB 863 (by decide +kernel) (by decide +kernel)
theorem kF_X10_49 : Cond.fieldLink RX10 49 (TX10 31).1 (TX10 31).2.1 (TX10 31).2.2.1 ∈ TB := in_TB 864 (by decide +kernel) (by decide +kernel)
theorem kF_X10_52 : Cond.fieldLink RX10 52 (TX10 32).1 (TX10 32).2.1 (TX10 32).2.2.1 ∈ TB := in_TB 865 (by decide +kernel) (by decide +kernel)
theorem kF_X10_55 : Cond.fieldLink RX10 55 (TX10 23).1 (TX10 23).2.1 (TX10 23).2.2.1 ∈ TB := in_TB 856 (by decide +kernel) (by decide +kernel)
theorem kF_X10_65 : Cond.fieldLink RX10 65 (TX10 1).1 (TX10 1).2.1 (TX10 1).2.2.1 ∈ TB := in_TB 834 (by decide +kernel) (by decide +kernel)
theorem kF_X10_7 : Cond.fieldLink RX10 7 (TX10 0).1 (TX10 0).2.1 (TX10 0).2.2.1 ∈ TB := in_TB 833 (by decide +kernel) (by decide +kernel)
theorem kF_X10_76 : Cond.fieldLink RX10 76 (TX10 2).1 (TX10 2).2.1 (TX10 2).2.2.1 ∈ TB := in_TB 835 (by decide +kernel) (by decide +kernel)
theorem kM_X0_41 : Cond.methodLink RX0 41 yX0_guiltAs ∈ TB := in_TB 551 (by decide +kernel) (by decide +kernel)
theorem kM_X0_45 : Cond.methodLink RX0 45 Lib.Math.max.name ∈ TB := in_TB 554 (by decide +kernel) (by decide +kernel)
theorem kM_X0_51 : Cond.methodLink RX0 51 yX0_placeOf ∈ TB := in_TB 563 (by decide +kernel) (by decide +kernel)
theorem kM_X1_33 : Cond.methodLink RX1 33 yJ6_bitCount_0f7a4 ∈ TB := in_TB 726 (by decide +kernel) (by decide +kernel)
theorem kM_X1_39 : Cond.methodLink RX1 39 yX1_fillParts ∈ TB := in_TB 727 (by decide +kernel) (by decide +kernel)
theorem kM_X1_46 : Cond.methodLink RX1 46 yX0_fill ∈ TB := in_TB 730 (by decide +kernel) (by decide +kernel)
theorem kM_X1_55 : Cond.methodLink RX1 55 yX0_sitters ∈ TB := in_TB 731 (by decide +kernel) (by decide +kernel)
theorem kM_X1_58 : Cond.methodLink RX1 58 yX1_addTo ∈ TB := in_TB 732 (by decide +kernel) (by decide +kernel)
theorem kM_X1_66 : Cond.methodLink RX1 66 yX1_commonPart ∈ TB := in_TB 741 (by decide +kernel) (by decide +kernel)
theorem kM_X1_70 : Cond.methodLink RX1 70 Lib.Math.max.name ∈ TB := in_TB 744 (by decide +kernel) (by decide +kernel)
theorem kM_X3_19 : Cond.methodLink RX3 19 yX2_copyFrom ∈ TB := in_TB 600 (by decide +kernel) (by decide +kernel)
theorem kM_X3_31 : Cond.methodLink RX3 31 yX0_fill ∈ TB := in_TB 601 (by decide +kernel) (by decide +kernel)
theorem kM_X3_40 : Cond.methodLink RX3 40 yX0_placeOf ∈ TB := in_TB 602 (by decide +kernel) (by decide +kernel)
theorem kM_X3_44 : Cond.methodLink RX3 44 yX3_isAsSeen ∈ TB := in_TB 603 (by decide +kernel) (by decide +kernel)
theorem kM_X3_61 : Cond.methodLink RX3 61 yX3_leftAtWorst ∈ TB := in_TB 610 (by decide +kernel) (by decide +kernel)
theorem kM_X3_68 : Cond.methodLink RX3 68 yJ6_bitCount_0f7a4 ∈ TB := in_TB 615 (by decide +kernel) (by decide +kernel)
theorem kM_X3_73 : Cond.methodLink RX3 73 Lib.Math.max.name ∈ TB := in_TB 621 (by decide +kernel) (by decide +kernel)
theorem kM_X4_35 : Cond.methodLink RX4 35 yX4_oneFurther ∈ TB := in_TB 630 (by decide +kernel) (by decide +kernel)
theorem kM_X4_39 : Cond.methodLink RX4 39 yX4_fewest ∈ TB := in_TB 702 (by decide +kernel) (by decide +kernel)
theorem kM_X4_46 : Cond.methodLink RX4 46 yJ6_bitCount_0f7a4 ∈ TB := in_TB 711 (by decide +kernel) (by decide +kernel)
theorem kM_X4_51 : Cond.methodLink RX4 51 yX4_fill ∈ TB := in_TB 712 (by decide +kernel) (by decide +kernel)
theorem kM_X4_55 : Cond.methodLink RX4 55 yX4_hasRing ∈ TB := in_TB 713 (by decide +kernel) (by decide +kernel)
theorem kM_X5_29 : Cond.methodLink RX5 29 yX5_lookAhead ∈ TB := in_TB 676 (by decide +kernel) (by decide +kernel)
theorem kM_X5_38 : Cond.methodLink RX5 38 yX0_fill ∈ TB := in_TB 681 (by decide +kernel) (by decide +kernel)
theorem kM_X5_50 : Cond.methodLink RX5 50 yX0_sitters ∈ TB := in_TB 682 (by decide +kernel) (by decide +kernel)
theorem kM_X5_54 : Cond.methodLink RX5 54 yX5_weigh ∈ TB := in_TB 683 (by decide +kernel) (by decide +kernel)
theorem kM_X5_70 : Cond.methodLink RX5 70 Lib.Math.min.name ∈ TB := in_TB 688 (by decide +kernel) (by decide +kernel)
theorem kM_X5_76 : Cond.methodLink RX5 76 yX5_isBetter ∈ TB := in_TB 689 (by decide +kernel) (by decide +kernel)
theorem kM_X5_80 : Cond.methodLink RX5 80 yJ6_bitCount_0f7a4 ∈ TB := in_TB 693 (by decide +kernel) (by decide +kernel)
theorem kM_X7_22 : Cond.methodLink RX7 22 yX2_clear ∈ TB := in_TB 385 (by decide +kernel) (by decide +kernel)
theorem kM_X7_34 : Cond.methodLink RX7 34 yX7_takes ∈ TB := in_TB 389 (by decide +kernel) (by decide +kernel)
theorem kM_X7_42 : Cond.methodLink RX7 42 yX7_takesRoom ∈ TB := in_TB 396 (by decide +kernel) (by decide +kernel)
theorem kM_X7_45 : Cond.methodLink RX7 45 yX7_goesOn ∈ TB := in_TB 403 (by decide +kernel) (by decide +kernel)
theorem kM_X7_51 : Cond.methodLink RX7 51 yJ0_indexOf_0f7a4 ∈ TB := in_TB 408 (by decide +kernel) (by decide +kernel)
theorem kM_X7_56 : Cond.methodLink RX7 56 yX7_takesKind ∈ TB := in_TB 494 (by decide +kernel) (by decide +kernel)
theorem kM_X7_59 : Cond.methodLink RX7 59 yX7_takesWarm ∈ TB := in_TB 498 (by decide +kernel) (by decide +kernel)
theorem kM_X7_62 : Cond.methodLink RX7 62 yX7_takesMark ∈ TB := in_TB 502 (by decide +kernel) (by decide +kernel)
theorem kM_X7_65 : Cond.methodLink RX7 65 yX7_takesDid ∈ TB := in_TB 506 (by decide +kernel) (by decide +kernel)
theorem kM_X7_68 : Cond.methodLink RX7 68 yX7_takesWhom ∈ TB := in_TB 514 (by decide +kernel) (by decide +kernel)
theorem kM_X7_71 : Cond.methodLink RX7 71 yX7_takesGrave ∈ TB := in_TB 518 (by decide +kernel) (by decide +kernel)
theorem kM_X7_95 : Cond.methodLink RX7 95 yX2_hasPerson ∈ TB := in_TB 510 (by decide +kernel) (by decide +kernel)
theorem kM_X8_24 : Cond.methodLink RX8 24 yX8_draw ∈ TB := in_TB 769 (by decide +kernel) (by decide +kernel)
theorem kM_X8_28 : Cond.methodLink RX8 28 yX0_fill ∈ TB := in_TB 777 (by decide +kernel) (by decide +kernel)
theorem kM_X8_37 : Cond.methodLink RX8 37 yX0_sitters ∈ TB := in_TB 778 (by decide +kernel) (by decide +kernel)
theorem kM_X8_40 : Cond.methodLink RX8 40 yX2_passSunday ∈ TB := in_TB 779 (by decide +kernel) (by decide +kernel)
theorem kM_X9_100 : Cond.methodLink RX9 100 yX7_isWhole ∈ TB := in_TB 527 (by decide +kernel) (by decide +kernel)
theorem kM_X9_107 : Cond.methodLink RX9 107 yX2_copyFrom ∈ TB := in_TB 531 (by decide +kernel) (by decide +kernel)
theorem kM_X9_114 : Cond.methodLink RX9 114 yX2_hasPerson ∈ TB := in_TB 539 (by decide +kernel) (by decide +kernel)
theorem kM_X9_125 : Cond.methodLink RX9 125 yX9_guiltOf ∈ TB := in_TB 540 (by decide +kernel) (by decide +kernel)
theorem kM_X9_129 : Cond.methodLink RX9 129 yX9_sittersNow ∈ TB := in_TB 555 (by decide +kernel) (by decide +kernel)
theorem kM_X9_133 : Cond.methodLink RX9 133 yX9_hasBit ∈ TB := in_TB 567 (by decide +kernel) (by decide +kernel)
theorem kM_X9_143 : Cond.methodLink RX9 143 yX4_fill ∈ TB := in_TB 568 (by decide +kernel) (by decide +kernel)
theorem kM_X9_150 : Cond.methodLink RX9 150 yX9_isKind ∈ TB := in_TB 577 (by decide +kernel) (by decide +kernel)
theorem kM_X9_153 : Cond.methodLink RX9 153 yX9_isA ∈ TB := in_TB 580 (by decide +kernel) (by decide +kernel)
theorem kM_X9_156 : Cond.methodLink RX9 156 yX2_hasWrong ∈ TB := in_TB 587 (by decide +kernel) (by decide +kernel)
theorem kM_X9_168 : Cond.methodLink RX9 168 yX2_isForgiven ∈ TB := in_TB 591 (by decide +kernel) (by decide +kernel)
theorem kM_X9_171 : Cond.methodLink RX9 171 yX3_fill ∈ TB := in_TB 596 (by decide +kernel) (by decide +kernel)
theorem kM_X9_177 : Cond.methodLink RX9 177 yX3_bestRoom ∈ TB := in_TB 606 (by decide +kernel) (by decide +kernel)
theorem kM_X9_180 : Cond.methodLink RX9 180 yX4_fewest ∈ TB := in_TB 626 (by decide +kernel) (by decide +kernel)
theorem kM_X9_184 : Cond.methodLink RX9 184 yX2_isThere ∈ TB := in_TB 638 (by decide +kernel) (by decide +kernel)
theorem kM_X9_190 : Cond.methodLink RX9 190 yX2_passSunday ∈ TB := in_TB 642 (by decide +kernel) (by decide +kernel)
theorem kM_X9_193 : Cond.methodLink RX9 193 yX9_isRoom ∈ TB := in_TB 663 (by decide +kernel) (by decide +kernel)
theorem kM_X9_199 : Cond.methodLink RX9 199 yX5_choose ∈ TB := in_TB 672 (by decide +kernel) (by decide +kernel)
theorem kM_X9_212 : Cond.methodLink RX9 212 yX4_shortestRing ∈ TB := in_TB 698 (by decide +kernel) (by decide +kernel)
theorem kM_X9_215 : Cond.methodLink RX9 215 yX4_fewestToForgive ∈ TB := in_TB 707 (by decide +kernel) (by decide +kernel)
theorem kM_X9_219 : Cond.methodLink RX9 219 yJ6_bitCount_0f7a4 ∈ TB := in_TB 717 (by decide +kernel) (by decide +kernel)
theorem kM_X9_224 : Cond.methodLink RX9 224 yX1_fill ∈ TB := in_TB 722 (by decide +kernel) (by decide +kernel)
theorem kM_X9_226 : Cond.methodLink RX9 226 yX1_above ∈ TB := in_TB 737 (by decide +kernel) (by decide +kernel)
theorem kM_X9_229 : Cond.methodLink RX9 229 yX1_below ∈ TB := in_TB 745 (by decide +kernel) (by decide +kernel)
theorem kM_X9_235 : Cond.methodLink RX9 235 yX2_addSeen ∈ TB := in_TB 753 (by decide +kernel) (by decide +kernel)
theorem kM_X9_239 : Cond.methodLink RX9 239 yX8_pass ∈ TB := in_TB 765 (by decide +kernel) (by decide +kernel)
theorem kM_X9_244 : Cond.methodLink RX9 244 yX2_allWarm ∈ TB := in_TB 780 (by decide +kernel) (by decide +kernel)
theorem kM_X9_253 : Cond.methodLink RX9 253 yX0_fill ∈ TB := in_TB 544 (by decide +kernel) (by decide +kernel)
theorem kM_X9_254 : Cond.methodLink RX9 254 yX0_allGuilt ∈ TB := in_TB 796 (by decide +kernel) (by decide +kernel)
theorem kM_X9_257 : Cond.methodLink RX9 257 yX2_allFroze ∈ TB := in_TB 800 (by decide +kernel) (by decide +kernel)
theorem kM_X9_262 : Cond.methodLink RX9 262 yX9_digestPeople ∈ TB := in_TB 809 (by decide +kernel) (by decide +kernel)
theorem kM_X9_266 : Cond.methodLink RX9 266 yX9_digestWrongs ∈ TB := in_TB 815 (by decide +kernel) (by decide +kernel)
theorem kM_X9_269 : Cond.methodLink RX9 269 yX9_digestGrudges ∈ TB := in_TB 820 (by decide +kernel) (by decide +kernel)
theorem kM_X9_277 : Cond.methodLink RX9 277 yX9_count ∈ TB := in_TB 826 (by decide +kernel) (by decide +kernel)
theorem kM_X9_280 : Cond.methodLink RX9 280 yX9_person ∈ TB := in_TB 814 (by decide +kernel) (by decide +kernel)
theorem kM_X9_283 : Cond.methodLink RX9 283 yX9_wrong ∈ TB := in_TB 819 (by decide +kernel) (by decide +kernel)
theorem kM_X9_286 : Cond.methodLink RX9 286 yX9_to ∈ TB := in_TB 824 (by decide +kernel) (by decide +kernel)
theorem kM_X9_289 : Cond.methodLink RX9 289 yX9_ring ∈ TB := in_TB 825 (by decide +kernel) (by decide +kernel)
theorem kM_X9_295 : Cond.methodLink RX9 295 yX0_sitters ∈ TB := in_TB 559 (by decide +kernel) (by decide +kernel)
theorem kM_X9_298 : Cond.methodLink RX9 298 Lib.Math.min.name ∈ TB := in_TB 649 (by decide +kernel) (by decide +kernel)
theorem kM_X9_303 : Cond.methodLink RX9 303 Lib.Math.max.name ∈ TB := in_TB 650 (by decide +kernel) (by decide +kernel)
theorem kM_X9_92 : Cond.methodLink RX9 92 yX6_add ∈ TB := in_TB 369 (by decide +kernel) (by decide +kernel)
theorem kM_X9_96 : Cond.methodLink RX9 96 yX7_firstFault ∈ TB := in_TB 381 (by decide +kernel) (by decide +kernel)
theorem kM_L_101 : Cond.methodLink RL 101 yX10_image ∈ TB := in_TB 1152 (by decide +kernel) (by decide +kernel)
theorem kM_L_102 : Cond.methodLink RL 102 yX9_restore ∈ TB := in_TB 788 (by decide +kernel) (by decide +kernel)
theorem kM_L_105 : Cond.methodLink RL 105 yX10_restore ∈ TB := in_TB 1156 (by decide +kernel) (by decide +kernel)
theorem kM_L_106 : Cond.methodLink RL 106 yX9_count ∈ TB := in_TB 792 (by decide +kernel) (by decide +kernel)
theorem kM_L_109 : Cond.methodLink RL 109 yX10_count ∈ TB := in_TB 1160 (by decide +kernel) (by decide +kernel)
theorem kM_L_110 : Cond.methodLink RL 110 yX9_digest ∈ TB := in_TB 804 (by decide +kernel) (by decide +kernel)
theorem kM_L_114 : Cond.methodLink RL 114 yX10_digest ∈ TB := in_TB 1172 (by decide +kernel) (by decide +kernel)
theorem kM_L_12 : Cond.methodLink RL 12 yX10_init ∈ TB := in_TB 829 (by decide +kernel) (by decide +kernel)
theorem kM_L_13 : Cond.methodLink RL 13 yX9_letter ∈ TB := in_TB 365 (by decide +kernel) (by decide +kernel)
theorem kM_L_17 : Cond.methodLink RL 17 yX10_letter ∈ TB := in_TB 936 (by decide +kernel) (by decide +kernel)
theorem kM_L_18 : Cond.methodLink RL 18 yX9_blank ∈ TB := in_TB 373 (by decide +kernel) (by decide +kernel)
theorem kM_L_22 : Cond.methodLink RL 22 yX10_blank ∈ TB := in_TB 944 (by decide +kernel) (by decide +kernel)
theorem kM_L_23 : Cond.methodLink RL 23 yX9_fault ∈ TB := in_TB 377 (by decide +kernel) (by decide +kernel)
theorem kM_L_26 : Cond.methodLink RL 26 yX10_fault ∈ TB := in_TB 948 (by decide +kernel) (by decide +kernel)
theorem kM_L_27 : Cond.methodLink RL 27 yX9_chapel ∈ TB := in_TB 523 (by decide +kernel) (by decide +kernel)
theorem kM_L_30 : Cond.methodLink RL 30 yX10_chapel ∈ TB := in_TB 979 (by decide +kernel) (by decide +kernel)
theorem kM_L_31 : Cond.methodLink RL 31 yX9_person ∈ TB := in_TB 535 (by decide +kernel) (by decide +kernel)
theorem kM_L_35 : Cond.methodLink RL 35 yX10_person ∈ TB := in_TB 983 (by decide +kernel) (by decide +kernel)
theorem kM_L_36 : Cond.methodLink RL 36 yX9_as ∈ TB := in_TB 573 (by decide +kernel) (by decide +kernel)
theorem kM_L_39 : Cond.methodLink RL 39 yX10_as ∈ TB := in_TB 1011 (by decide +kernel) (by decide +kernel)
theorem kM_L_40 : Cond.methodLink RL 40 yX9_wrong ∈ TB := in_TB 583 (by decide +kernel) (by decide +kernel)
theorem kM_L_43 : Cond.methodLink RL 43 yX10_wrong ∈ TB := in_TB 1016 (by decide +kernel) (by decide +kernel)
theorem kM_L_44 : Cond.methodLink RL 44 yX9_to ∈ TB := in_TB 622 (by decide +kernel) (by decide +kernel)
theorem kM_L_47 : Cond.methodLink RL 47 yX10_to ∈ TB := in_TB 1040 (by decide +kernel) (by decide +kernel)
theorem kM_L_48 : Cond.methodLink RL 48 yX9_sunday ∈ TB := in_TB 634 (by decide +kernel) (by decide +kernel)
theorem kM_L_51 : Cond.methodLink RL 51 yX10_sunday ∈ TB := in_TB 1052 (by decide +kernel) (by decide +kernel)
theorem kM_L_52 : Cond.methodLink RL 52 yX9_forgive ∈ TB := in_TB 651 (by decide +kernel) (by decide +kernel)
theorem kM_L_55 : Cond.methodLink RL 55 yX10_forgive ∈ TB := in_TB 1070 (by decide +kernel) (by decide +kernel)
theorem kM_L_56 : Cond.methodLink RL 56 yX9_again ∈ TB := in_TB 655 (by decide +kernel) (by decide +kernel)
theorem kM_L_59 : Cond.methodLink RL 59 yX10_again ∈ TB := in_TB 1074 (by decide +kernel) (by decide +kernel)
theorem kM_L_60 : Cond.methodLink RL 60 yX9_room ∈ TB := in_TB 659 (by decide +kernel) (by decide +kernel)
theorem kM_L_63 : Cond.methodLink RL 63 yX10_room ∈ TB := in_TB 1079 (by decide +kernel) (by decide +kernel)
theorem kM_L_64 : Cond.methodLink RL 64 yX9_change ∈ TB := in_TB 664 (by decide +kernel) (by decide +kernel)
theorem kM_L_68 : Cond.methodLink RL 68 yX10_change ∈ TB := in_TB 1084 (by decide +kernel) (by decide +kernel)
theorem kM_L_69 : Cond.methodLink RL 69 yX9_leave ∈ TB := in_TB 668 (by decide +kernel) (by decide +kernel)
theorem kM_L_72 : Cond.methodLink RL 72 yX10_leave ∈ TB := in_TB 1089 (by decide +kernel) (by decide +kernel)
theorem kM_L_73 : Cond.methodLink RL 73 yX9_ring ∈ TB := in_TB 694 (by decide +kernel) (by decide +kernel)
theorem kM_L_76 : Cond.methodLink RL 76 yX10_ring ∈ TB := in_TB 1102 (by decide +kernel) (by decide +kernel)
theorem kM_L_77 : Cond.methodLink RL 77 yX9_peace ∈ TB := in_TB 703 (by decide +kernel) (by decide +kernel)
theorem kM_L_80 : Cond.methodLink RL 80 yX10_peace ∈ TB := in_TB 1110 (by decide +kernel) (by decide +kernel)
theorem kM_L_81 : Cond.methodLink RL 81 yX9_odds ∈ TB := in_TB 718 (by decide +kernel) (by decide +kernel)
theorem kM_L_84 : Cond.methodLink RL 84 yX10_odds ∈ TB := in_TB 1118 (by decide +kernel) (by decide +kernel)
theorem kM_L_85 : Cond.methodLink RL 85 yX9_see ∈ TB := in_TB 749 (by decide +kernel) (by decide +kernel)
theorem kM_L_89 : Cond.methodLink RL 89 yX10_see ∈ TB := in_TB 1127 (by decide +kernel) (by decide +kernel)
theorem kM_L_9 : Cond.methodLink RL 9 yX9_init ∈ TB := in_TB 74 (by decide +kernel) (by decide +kernel)
theorem kM_L_90 : Cond.methodLink RL 90 yX9_forget ∈ TB := in_TB 757 (by decide +kernel) (by decide +kernel)
theorem kM_L_93 : Cond.methodLink RL 93 yX10_forget ∈ TB := in_TB 1131 (by decide +kernel) (by decide +kernel)
theorem kM_L_94 : Cond.methodLink RL 94 yX9_winters ∈ TB := in_TB 761 (by decide +kernel) (by decide +kernel)
theorem kM_L_97 : Cond.methodLink RL 97 yX10_winters ∈ TB := in_TB 1135 (by decide +kernel) (by decide +kernel)
theorem kM_L_98 : Cond.methodLink RL 98 yX9_image ∈ TB := in_TB 784 (by decide +kernel) (by decide +kernel)
theorem kM_X10_121 : Cond.methodLink RX10 121 yX10_guiltBy ∈ TB := in_TB 995 (by decide +kernel) (by decide +kernel)
theorem kM_X10_125 : Cond.methodLink RX10 125 yX10_sitsBy ∈ TB := in_TB 1003 (by decide +kernel) (by decide +kernel)
theorem kM_X10_128 : Cond.methodLink RX10 128 yX10_sitsNow ∈ TB := in_TB 999 (by decide +kernel) (by decide +kernel)
theorem kM_X10_131 : Cond.methodLink RX10 131 yX10_grudgesOf ∈ TB := in_TB 1007 (by decide +kernel) (by decide +kernel)
theorem kM_X10_134 : Cond.methodLink RX10 134 yX10_isPerson ∈ TB := in_TB 987 (by decide +kernel) (by decide +kernel)
theorem kM_X10_137 : Cond.methodLink RX10 137 yX10_tellPerson ∈ TB := in_TB 991 (by decide +kernel) (by decide +kernel)
theorem kM_X10_142 : Cond.methodLink RX10 142 yX10_gravesOf ∈ TB := in_TB 1028 (by decide +kernel) (by decide +kernel)
theorem kM_X10_145 : Cond.methodLink RX10 145 yX10_lookOf ∈ TB := in_TB 1036 (by decide +kernel) (by decide +kernel)
theorem kM_X10_148 : Cond.methodLink RX10 148 yX10_isWrong ∈ TB := in_TB 1020 (by decide +kernel) (by decide +kernel)
theorem kM_X10_151 : Cond.methodLink RX10 151 yX10_tellWrong ∈ TB := in_TB 1024 (by decide +kernel) (by decide +kernel)
theorem kM_X10_154 : Cond.methodLink RX10 154 yX10_stepFrom ∈ TB := in_TB 1048 (by decide +kernel) (by decide +kernel)
theorem kM_X10_157 : Cond.methodLink RX10 157 yX10_farBy ∈ TB := in_TB 1044 (by decide +kernel) (by decide +kernel)
theorem kM_X10_161 : Cond.methodLink RX10 161 yX10_lacks ∈ TB := in_TB 1056 (by decide +kernel) (by decide +kernel)
theorem kM_X10_165 : Cond.methodLink RX10 165 yX10_copy ∈ TB := in_TB 1060 (by decide +kernel) (by decide +kernel)
theorem kM_X10_169 : Cond.methodLink RX10 169 yX10_sundayThen ∈ TB := in_TB 1063 (by decide +kernel) (by decide +kernel)
theorem kM_X10_172 : Cond.methodLink RX10 172 yX10_ones ∈ TB := in_TB 1067 (by decide +kernel) (by decide +kernel)
theorem kM_X10_187 : Cond.methodLink RX10 187 yX10_goSundays ∈ TB := in_TB 1098 (by decide +kernel) (by decide +kernel)
theorem kM_X10_196 : Cond.methodLink RX10 196 yX10_leaveOf ∈ TB := in_TB 1094 (by decide +kernel) (by decide +kernel)
theorem kM_X10_199 : Cond.methodLink RX10 199 yX10_ringBy ∈ TB := in_TB 1106 (by decide +kernel) (by decide +kernel)
theorem kM_X10_202 : Cond.methodLink RX10 202 yX10_peaceOf ∈ TB := in_TB 1114 (by decide +kernel) (by decide +kernel)
theorem kM_X10_207 : Cond.methodLink RX10 207 yX10_oddsOf ∈ TB := in_TB 1123 (by decide +kernel) (by decide +kernel)
theorem kM_X10_210 : Cond.methodLink RX10 210 yX10_sitsIf ∈ TB := in_TB 1032 (by decide +kernel) (by decide +kernel)
theorem kM_X10_225 : Cond.methodLink RX10 225 yX10_draw ∈ TB := in_TB 1140 (by decide +kernel) (by decide +kernel)
theorem kM_X10_228 : Cond.methodLink RX10 228 yX10_warmAll ∈ TB := in_TB 1148 (by decide +kernel) (by decide +kernel)
theorem kM_X10_244 : Cond.methodLink RX10 244 yX10_guiltAll ∈ TB := in_TB 1168 (by decide +kernel) (by decide +kernel)
theorem kM_X10_247 : Cond.methodLink RX10 247 yX10_countOf ∈ TB := in_TB 1164 (by decide +kernel) (by decide +kernel)
theorem kM_X10_256 : Cond.methodLink RX10 256 yX10_say ∈ TB := in_TB 1177 (by decide +kernel) (by decide +kernel)
theorem kM_X10_262 : Cond.methodLink RX10 262 yX10_sayChapel ∈ TB := in_TB 1182 (by decide +kernel) (by decide +kernel)
theorem kM_X10_61 : Cond.methodLink RX10 61 yX10_in ∈ TB := in_TB 941 (by decide +kernel) (by decide +kernel)
theorem kM_X10_68 : Cond.methodLink RX10 68 yX10_kindBy ∈ TB := in_TB 966 (by decide +kernel) (by decide +kernel)
theorem kM_X10_79 : Cond.methodLink RX10 79 yX10_isPersonDigit ∈ TB := in_TB 975 (by decide +kernel) (by decide +kernel)
theorem kM_X10_87 : Cond.methodLink RX10 87 yX10_isPersonLetter ∈ TB := in_TB 962 (by decide +kernel) (by decide +kernel)
theorem kM_X10_90 : Cond.methodLink RX10 90 yX10_isWrongLetter ∈ TB := in_TB 971 (by decide +kernel) (by decide +kernel)
theorem kM_X10_93 : Cond.methodLink RX10 93 yX10_isGood ∈ TB := in_TB 956 (by decide +kernel) (by decide +kernel)
theorem kM_X10_96 : Cond.methodLink RX10 96 yX10_faultOf ∈ TB := in_TB 952 (by decide +kernel) (by decide +kernel)
theorem kM_J0_1062 : Cond.methodLink RJ0 1062 yJ3_checkFromToIndex_8c36e ∈ TB := in_TB 465 (by decide +kernel) (by decide +kernel)
theorem kM_J0_335 : Cond.methodLink RJ0 335 yJ0_coder_7d493 ∈ TB := in_TB 426 (by decide +kernel) (by decide +kernel)
theorem kM_J0_492 : Cond.methodLink RJ0 492 yJ0_isLatin1_aae02 ∈ TB := in_TB 416 (by decide +kernel) (by decide +kernel)
theorem kM_J0_505 : Cond.methodLink RJ0 505 yJ0_length_8abf5 ∈ TB := in_TB 422 (by decide +kernel) (by decide +kernel)
theorem kM_J0_633 : Cond.methodLink RJ0 633 yJ0_indexOf_7cf53 ∈ TB := in_TB 412 (by decide +kernel) (by decide +kernel)
theorem kM_J0_637 : Cond.methodLink RJ0 637 yJ1_indexOf_4cfef ∈ TB := in_TB 430 (by decide +kernel) (by decide +kernel)
theorem kM_J0_640 : Cond.methodLink RJ0 640 yJ2_indexOf_4cfef ∈ TB := in_TB 445 (by decide +kernel) (by decide +kernel)
theorem kM_J1_38 : Cond.methodLink RJ1 38 Lib.Math.min.name ∈ TB := in_TB 439 (by decide +kernel) (by decide +kernel)
theorem kM_J1_88 : Cond.methodLink RJ1 88 yJ1_canEncode_9a6ad ∈ TB := in_TB 433 (by decide +kernel) (by decide +kernel)
theorem kM_J1_92 : Cond.methodLink RJ1 92 Lib.Math.max.name ∈ TB := in_TB 436 (by decide +kernel) (by decide +kernel)
theorem kM_J1_95 : Cond.methodLink RJ1 95 yJ1_indexOfChar_4cfef ∈ TB := in_TB 442 (by decide +kernel) (by decide +kernel)
theorem kM_J2_157 : Cond.methodLink RJ2 157 yJ11_highSurrogate_5068e ∈ TB := in_TB 486 (by decide +kernel) (by decide +kernel)
theorem kM_J2_161 : Cond.methodLink RJ2 161 yJ11_lowSurrogate_5068e ∈ TB := in_TB 490 (by decide +kernel) (by decide +kernel)
theorem kM_J2_164 : Cond.methodLink RJ2 164 yJ11_isValidCodePoint_9a6ad ∈ TB := in_TB 483 (by decide +kernel) (by decide +kernel)
theorem kM_J2_183 : Cond.methodLink RJ2 183 Lib.Math.min.name ∈ TB := in_TB 449 (by decide +kernel) (by decide +kernel)
theorem kM_J2_224 : Cond.methodLink RJ2 224 Lib.Math.max.name ∈ TB := in_TB 448 (by decide +kernel) (by decide +kernel)
theorem kM_J2_228 : Cond.methodLink RJ2 228 yJ2_indexOfChar_4cfef ∈ TB := in_TB 451 (by decide +kernel) (by decide +kernel)
theorem kM_J2_232 : Cond.methodLink RJ2 232 yJ2_indexOfSupplementary_4cfef ∈ TB := in_TB 480 (by decide +kernel) (by decide +kernel)
theorem kM_J2_241 : Cond.methodLink RJ2 241 yJ0_checkBoundsBeginEnd_23922 ∈ TB := in_TB 460 (by decide +kernel) (by decide +kernel)
theorem kM_J2_244 : Cond.methodLink RJ2 244 yJ2_indexOfCharUnsafe_4cfef ∈ TB := in_TB 468 (by decide +kernel) (by decide +kernel)
theorem kM_J2_48 : Cond.methodLink RJ2 48 yJ2_length_9d52b ∈ TB := in_TB 457 (by decide +kernel) (by decide +kernel)
theorem kM_J2_71 : Cond.methodLink RJ2 71 yJ2_getChar_3b067 ∈ TB := in_TB 471 (by decide +kernel) (by decide +kernel)
theorem kM_J2_96 : Cond.methodLink RJ2 96 yJ2_checkBoundsBeginEnd_d044e ∈ TB := in_TB 454 (by decide +kernel) (by decide +kernel)
theorem kN_X0_31 : (RX0, 31, yX9_hasBit, RX9) ∈ NS := by decide +kernel
theorem kN_X1_62 : (RX1, 62, yX9_hasBit, RX9) ∈ NS := by decide +kernel
theorem kN_X2_59 : (RX2, 59, yX9_hasBit, RX9) ∈ NS := by decide +kernel
theorem kN_X2_63 : (RX2, 63, yX9_nextWarm, RX9) ∈ NS := by decide +kernel
theorem kN_X3_64 : (RX3, 64, yX9_hasBit, RX9) ∈ NS := by decide +kernel
theorem kN_X4_25 : (RX4, 25, yX9_hasBit, RX9) ∈ NS := by decide +kernel
theorem kN_X5_62 : (RX5, 62, yX9_nextWarm, RX9) ∈ NS := by decide +kernel
theorem kN_X5_66 : (RX5, 66, yX9_hasBit, RX9) ∈ NS := by decide +kernel
theorem kN_X7_11 : (RX7, 11, yX2_init, RX9) ∈ NS := by decide +kernel
theorem kN_X7_38 : (RX7, 38, yX9_digitOf, RX9) ∈ NS := by decide +kernel
theorem kN_X7_80 : (RX7, 80, yX9_isRoom, RX9) ∈ NS := by decide +kernel
theorem kN_X9_18 : (RX9, 18, yX7_init, RX9) ∈ NS := by decide +kernel
theorem kN_X9_25 : (RX9, 25, yX2_init, RX9) ∈ NS := by decide +kernel
theorem kN_X9_38 : (RX9, 38, yX0_init, RX9) ∈ NS := by decide +kernel
theorem kN_X9_45 : (RX9, 45, yX4_init, RX9) ∈ NS := by decide +kernel
theorem kN_X9_52 : (RX9, 52, yX5_init, RX9) ∈ NS := by decide +kernel
theorem kN_X9_59 : (RX9, 59, yX1_init, RX9) ∈ NS := by decide +kernel
theorem kN_X9_66 : (RX9, 66, yX3_init, RX9) ∈ NS := by decide +kernel
theorem kN_X9_73 : (RX9, 73, yX8_init, RX9) ∈ NS := by decide +kernel
theorem kN_X9_9 : (RX9, 9, yX6_init, RX9) ∈ NS := by decide +kernel
theorem ki_Math : Cond.initialized "java/lang/Math" ∈ TB := in_TB 67 (by decide +kernel) (by decide +kernel)
def M_X0_init : Md := (RX0, cX0_init, 1, none, 1, 20, yX0_init)
theorem kc_X0_init : Cal M_X0_init 0 := ⟨by decide +kernel, rfl, in_TB 220 (by decide +kernel) (by decide +kernel), in_TB 58 (by decide +kernel) (by decide +kernel), by decide +kernel⟩
theorem ki_X0_init : Cond.instanceMethod yX0_init ∈ TB := in_TB 219 (by decide +kernel) (by decide +kernel)
def M_X0_fill : Md := (RX0, cX0_fill, 5, none, 2, 43, yX0_fill)
theorem kc_X0_fill : Cal M_X0_fill 2 := ⟨by decide +kernel, rfl, in_TB 547 (by decide +kernel) (by decide +kernel), in_TB 58 (by decide +kernel) (by decide +kernel), by decide +kernel⟩
theorem ki_X0_fill : Cond.instanceMethod yX0_fill ∈ TB := in_TB 545 (by decide +kernel) (by decide +kernel)
theorem kx_X0_fill : Cond.selects RX0 yX0_fill yX0_fill ∈ TB := in_TB 546 (by decide +kernel) (by decide +kernel)
def M_X0_guiltAs : Md := (RX0, cX0_guiltAs, 3, some .int, 1, 21, yX0_guiltAs)
theorem kc_X0_guiltAs : Cal M_X0_guiltAs 3 := ⟨by decide +kernel, rfl, in_TB 553 (by decide +kernel) (by decide +kernel), in_TB 58 (by decide +kernel) (by decide +kernel), by decide +kernel⟩
theorem ks_X0_guiltAs : Cond.static yX0_guiltAs ∈ TB := in_TB 552 (by decide +kernel) (by decide +kernel)
def M_X0_placeOf : Md := (RX0, cX0_placeOf, 5, some .int, 0, 0, yX0_placeOf)
theorem kc_X0_placeOf : Cal M_X0_placeOf 1 := ⟨by decide +kernel, rfl, in_TB 566 (by decide +kernel) (by decide +kernel), in_TB 58 (by decide +kernel) (by decide +kernel), by decide +kernel⟩
theorem ki_X0_placeOf : Cond.instanceMethod yX0_placeOf ∈ TB := in_TB 564 (by decide +kernel) (by decide +kernel)
theorem kx_X0_placeOf : Cond.selects RX0 yX0_placeOf yX0_placeOf ∈ TB := in_TB 565 (by decide +kernel) (by decide +kernel)
def M_X0_sitters : Md := (RX0, cX0_sitters, 4, some .int, 1, 24, yX0_sitters)
theorem kc_X0_sitters : Cal M_X0_sitters 1 := ⟨by decide +kernel, rfl, in_TB 562 (by decide +kernel) (by decide +kernel), in_TB 58 (by decide +kernel) (by decide +kernel), by decide +kernel⟩
theorem ki_X0_sitters : Cond.instanceMethod yX0_sitters ∈ TB := in_TB 560 (by decide +kernel) (by decide +kernel)
theorem kx_X0_sitters : Cond.selects RX0 yX0_sitters yX0_sitters ∈ TB := in_TB 561 (by decide +kernel) (by decide +kernel)
def M_X0_allGuilt : Md := (RX0, cX0_allGuilt, 3, some .int, 0, 0, yX0_allGuilt)
theorem kc_X0_allGuilt : Cal M_X0_allGuilt 0 := ⟨by decide +kernel, rfl, in_TB 799 (by decide +kernel) (by decide +kernel), in_TB 58 (by decide +kernel) (by decide +kernel), by decide +kernel⟩
theorem ki_X0_allGuilt : Cond.instanceMethod yX0_allGuilt ∈ TB := in_TB 797 (by decide +kernel) (by decide +kernel)
theorem kx_X0_allGuilt : Cond.selects RX0 yX0_allGuilt yX0_allGuilt ∈ TB := in_TB 798 (by decide +kernel) (by decide +kernel)
def M_X1_init : Md := (RX1, cX1_init, 1, none, 1, 20, yX1_init)
theorem kc_X1_init : Cal M_X1_init 0 := ⟨by decide +kernel, rfl, in_TB 278 (by decide +kernel) (by decide +kernel), in_TB 61 (by decide +kernel) (by decide +kernel), by decide +kernel⟩
theorem ki_X1_init : Cond.instanceMethod yX1_init ∈ TB := in_TB 277 (by decide +kernel) (by decide +kernel)
def M_X1_fill : Md := (RX1, cX1_fill, 10, none, 3, 67, yX1_fill)
theorem kc_X1_fill : Cal M_X1_fill 3 := ⟨by decide +kernel, rfl, in_TB 725 (by decide +kernel) (by decide +kernel), in_TB 61 (by decide +kernel) (by decide +kernel), by decide +kernel⟩
theorem ki_X1_fill : Cond.instanceMethod yX1_fill ∈ TB := in_TB 723 (by decide +kernel) (by decide +kernel)
theorem kx_X1_fill : Cond.selects RX1 yX1_fill yX1_fill ∈ TB := in_TB 724 (by decide +kernel) (by decide +kernel)
def M_X1_fillParts : Md := (RX1, cX1_fillParts, 3, none, 0, 0, yX1_fillParts)
theorem kc_X1_fillParts : Cal M_X1_fillParts 2 := ⟨by decide +kernel, rfl, in_TB 729 (by decide +kernel) (by decide +kernel), in_TB 61 (by decide +kernel) (by decide +kernel), by decide +kernel⟩
theorem ks_X1_fillParts : Cond.static yX1_fillParts ∈ TB := in_TB 728 (by decide +kernel) (by decide +kernel)
def M_X1_addTo : Md := (RX1, cX1_addTo, 5, none, 1, 21, yX1_addTo)
theorem kc_X1_addTo : Cal M_X1_addTo 3 := ⟨by decide +kernel, rfl, in_TB 735 (by decide +kernel) (by decide +kernel), in_TB 61 (by decide +kernel) (by decide +kernel), by decide +kernel⟩
theorem ki_X1_addTo : Cond.instanceMethod yX1_addTo ∈ TB := in_TB 734 (by decide +kernel) (by decide +kernel)
theorem kx_X1_addTo : Cond.selects RX1 yX1_addTo yX1_addTo ∈ TB := in_TB 17 (by decide +kernel) (by decide +kernel)
def M_X1_above : Md := (RX1, cX1_above, 2, some .int, 2, 46, yX1_above)
theorem kc_X1_above : Cal M_X1_above 1 := ⟨by decide +kernel, rfl, in_TB 740 (by decide +kernel) (by decide +kernel), in_TB 61 (by decide +kernel) (by decide +kernel), by decide +kernel⟩
theorem ki_X1_above : Cond.instanceMethod yX1_above ∈ TB := in_TB 738 (by decide +kernel) (by decide +kernel)
theorem kx_X1_above : Cond.selects RX1 yX1_above yX1_above ∈ TB := in_TB 739 (by decide +kernel) (by decide +kernel)
def M_X1_below : Md := (RX1, cX1_below, 2, some .int, 2, 46, yX1_below)
theorem kc_X1_below : Cal M_X1_below 1 := ⟨by decide +kernel, rfl, in_TB 748 (by decide +kernel) (by decide +kernel), in_TB 61 (by decide +kernel) (by decide +kernel), by decide +kernel⟩
theorem ki_X1_below : Cond.instanceMethod yX1_below ∈ TB := in_TB 746 (by decide +kernel) (by decide +kernel)
theorem kx_X1_below : Cond.selects RX1 yX1_below yX1_below ∈ TB := in_TB 747 (by decide +kernel) (by decide +kernel)
def M_X1_commonPart : Md := (RX1, cX1_commonPart, 6, some .int, 1, 21, yX1_commonPart)
theorem kc_X1_commonPart : Cal M_X1_commonPart 2 := ⟨by decide +kernel, rfl, in_TB 743 (by decide +kernel) (by decide +kernel), in_TB 61 (by decide +kernel) (by decide +kernel), by decide +kernel⟩
theorem ks_X1_commonPart : Cond.static yX1_commonPart ∈ TB := in_TB 742 (by decide +kernel) (by decide +kernel)
def M_X2_init : Md := (RX2, cX2_init, 1, none, 1, 20, yX2_init)
theorem kc_X2_init : Cal M_X2_init 0 := ⟨by decide +kernel, rfl, in_TB 108 (by decide +kernel) (by decide +kernel), in_TB 57 (by decide +kernel) (by decide +kernel), by decide +kernel⟩
theorem ki_X2_init : Cond.instanceMethod yX2_init ∈ TB := in_TB 107 (by decide +kernel) (by decide +kernel)
def M_X2_clear : Md := (RX2, cX2_clear, 1, none, 0, 0, yX2_clear)
theorem kc_X2_clear : Cal M_X2_clear 0 := ⟨by decide +kernel, rfl, in_TB 388 (by decide +kernel) (by decide +kernel), in_TB 57 (by decide +kernel) (by decide +kernel), by decide +kernel⟩
theorem ki_X2_clear : Cond.instanceMethod yX2_clear ∈ TB := in_TB 386 (by decide +kernel) (by decide +kernel)
theorem kx_X2_clear : Cond.selects RX2 yX2_clear yX2_clear ∈ TB := in_TB 387 (by decide +kernel) (by decide +kernel)
def M_X2_copyFrom : Md := (RX2, cX2_copyFrom, 3, none, 0, 0, yX2_copyFrom)
theorem kc_X2_copyFrom : Cal M_X2_copyFrom 1 := ⟨by decide +kernel, rfl, in_TB 534 (by decide +kernel) (by decide +kernel), in_TB 57 (by decide +kernel) (by decide +kernel), by decide +kernel⟩
theorem ki_X2_copyFrom : Cond.instanceMethod yX2_copyFrom ∈ TB := in_TB 532 (by decide +kernel) (by decide +kernel)
theorem kx_X2_copyFrom : Cond.selects RX2 yX2_copyFrom yX2_copyFrom ∈ TB := in_TB 533 (by decide +kernel) (by decide +kernel)
def M_X2_isThere : Md := (RX2, cX2_isThere, 1, some .boolean, 0, 0, yX2_isThere)
theorem kc_X2_isThere : Cal M_X2_isThere 0 := ⟨by decide +kernel, rfl, in_TB 641 (by decide +kernel) (by decide +kernel), in_TB 57 (by decide +kernel) (by decide +kernel), by decide +kernel⟩
theorem ki_X2_isThere : Cond.instanceMethod yX2_isThere ∈ TB := in_TB 639 (by decide +kernel) (by decide +kernel)
theorem kx_X2_isThere : Cond.selects RX2 yX2_isThere yX2_isThere ∈ TB := in_TB 640 (by decide +kernel) (by decide +kernel)
def M_X2_hasPerson : Md := (RX2, cX2_hasPerson, 2, some .boolean, 0, 0, yX2_hasPerson)
theorem kc_X2_hasPerson : Cal M_X2_hasPerson 1 := ⟨by decide +kernel, rfl, in_TB 513 (by decide +kernel) (by decide +kernel), in_TB 57 (by decide +kernel) (by decide +kernel), by decide +kernel⟩
theorem ki_X2_hasPerson : Cond.instanceMethod yX2_hasPerson ∈ TB := in_TB 511 (by decide +kernel) (by decide +kernel)
theorem kx_X2_hasPerson : Cond.selects RX2 yX2_hasPerson yX2_hasPerson ∈ TB := in_TB 512 (by decide +kernel) (by decide +kernel)
def M_X2_hasWrong : Md := (RX2, cX2_hasWrong, 2, some .boolean, 0, 0, yX2_hasWrong)
theorem kc_X2_hasWrong : Cal M_X2_hasWrong 1 := ⟨by decide +kernel, rfl, in_TB 590 (by decide +kernel) (by decide +kernel), in_TB 57 (by decide +kernel) (by decide +kernel), by decide +kernel⟩
theorem ki_X2_hasWrong : Cond.instanceMethod yX2_hasWrong ∈ TB := in_TB 588 (by decide +kernel) (by decide +kernel)
theorem kx_X2_hasWrong : Cond.selects RX2 yX2_hasWrong yX2_hasWrong ∈ TB := in_TB 589 (by decide +kernel) (by decide +kernel)
def M_X2_isForgiven : Md := (RX2, cX2_isForgiven, 2, some .boolean, 1, 21, yX2_isForgiven)
theorem kc_X2_isForgiven : Cal M_X2_isForgiven 1 := ⟨by decide +kernel, rfl, in_TB 594 (by decide +kernel) (by decide +kernel), in_TB 57 (by decide +kernel) (by decide +kernel), by decide +kernel⟩
theorem ki_X2_isForgiven : Cond.instanceMethod yX2_isForgiven ∈ TB := in_TB 592 (by decide +kernel) (by decide +kernel)
theorem kx_X2_isForgiven : Cond.selects RX2 yX2_isForgiven yX2_isForgiven ∈ TB := in_TB 593 (by decide +kernel) (by decide +kernel)
def M_X2_allWarm : Md := (RX2, cX2_allWarm, 3, some .int, 0, 0, yX2_allWarm)
theorem kc_X2_allWarm : Cal M_X2_allWarm 0 := ⟨by decide +kernel, rfl, in_TB 783 (by decide +kernel) (by decide +kernel), in_TB 57 (by decide +kernel) (by decide +kernel), by decide +kernel⟩
theorem ki_X2_allWarm : Cond.instanceMethod yX2_allWarm ∈ TB := in_TB 781 (by decide +kernel) (by decide +kernel)
theorem kx_X2_allWarm : Cond.selects RX2 yX2_allWarm yX2_allWarm ∈ TB := in_TB 782 (by decide +kernel) (by decide +kernel)
def M_X2_allFroze : Md := (RX2, cX2_allFroze, 3, some .int, 0, 0, yX2_allFroze)
theorem kc_X2_allFroze : Cal M_X2_allFroze 0 := ⟨by decide +kernel, rfl, in_TB 803 (by decide +kernel) (by decide +kernel), in_TB 57 (by decide +kernel) (by decide +kernel), by decide +kernel⟩
theorem ki_X2_allFroze : Cond.instanceMethod yX2_allFroze ∈ TB := in_TB 801 (by decide +kernel) (by decide +kernel)
theorem kx_X2_allFroze : Cond.selects RX2 yX2_allFroze yX2_allFroze ∈ TB := in_TB 802 (by decide +kernel) (by decide +kernel)
def M_X2_passSunday : Md := (RX2, cX2_passSunday, 4, some .int, 2, 42, yX2_passSunday)
theorem kc_X2_passSunday : Cal M_X2_passSunday 1 := ⟨by decide +kernel, rfl, in_TB 645 (by decide +kernel) (by decide +kernel), in_TB 57 (by decide +kernel) (by decide +kernel), by decide +kernel⟩
theorem ki_X2_passSunday : Cond.instanceMethod yX2_passSunday ∈ TB := in_TB 643 (by decide +kernel) (by decide +kernel)
theorem kx_X2_passSunday : Cond.selects RX2 yX2_passSunday yX2_passSunday ∈ TB := in_TB 644 (by decide +kernel) (by decide +kernel)
def M_X2_addSeen : Md := (RX2, cX2_addSeen, 4, none, 0, 0, yX2_addSeen)
theorem kc_X2_addSeen : Cal M_X2_addSeen 3 := ⟨by decide +kernel, rfl, in_TB 756 (by decide +kernel) (by decide +kernel), in_TB 57 (by decide +kernel) (by decide +kernel), by decide +kernel⟩
theorem ki_X2_addSeen : Cond.instanceMethod yX2_addSeen ∈ TB := in_TB 754 (by decide +kernel) (by decide +kernel)
theorem kx_X2_addSeen : Cond.selects RX2 yX2_addSeen yX2_addSeen ∈ TB := in_TB 755 (by decide +kernel) (by decide +kernel)
def M_X3_init : Md := (RX3, cX3_init, 1, none, 1, 20, yX3_init)
theorem kc_X3_init : Cal M_X3_init 0 := ⟨by decide +kernel, rfl, in_TB 297 (by decide +kernel) (by decide +kernel), in_TB 62 (by decide +kernel) (by decide +kernel), by decide +kernel⟩
theorem ki_X3_init : Cond.instanceMethod yX3_init ∈ TB := in_TB 296 (by decide +kernel) (by decide +kernel)
def M_X3_fill : Md := (RX3, cX3_fill, 6, none, 3, 67, yX3_fill)
theorem kc_X3_fill : Cal M_X3_fill 4 := ⟨by decide +kernel, rfl, in_TB 599 (by decide +kernel) (by decide +kernel), in_TB 62 (by decide +kernel) (by decide +kernel), by decide +kernel⟩
theorem ki_X3_fill : Cond.instanceMethod yX3_fill ∈ TB := in_TB 597 (by decide +kernel) (by decide +kernel)
theorem kx_X3_fill : Cond.selects RX3 yX3_fill yX3_fill ∈ TB := in_TB 598 (by decide +kernel) (by decide +kernel)
def M_X3_isAsSeen : Md := (RX3, cX3_isAsSeen, 4, some .boolean, 0, 0, yX3_isAsSeen)
theorem kc_X3_isAsSeen : Cal M_X3_isAsSeen 3 := ⟨by decide +kernel, rfl, in_TB 605 (by decide +kernel) (by decide +kernel), in_TB 62 (by decide +kernel) (by decide +kernel), by decide +kernel⟩
theorem ks_X3_isAsSeen : Cond.static yX3_isAsSeen ∈ TB := in_TB 604 (by decide +kernel) (by decide +kernel)
def M_X3_bestRoom : Md := (RX3, cX3_bestRoom, 3, some .int, 2, 44, yX3_bestRoom)
theorem kc_X3_bestRoom : Cal M_X3_bestRoom 0 := ⟨by decide +kernel, rfl, in_TB 609 (by decide +kernel) (by decide +kernel), in_TB 62 (by decide +kernel) (by decide +kernel), by decide +kernel⟩
theorem ki_X3_bestRoom : Cond.instanceMethod yX3_bestRoom ∈ TB := in_TB 607 (by decide +kernel) (by decide +kernel)
theorem kx_X3_bestRoom : Cond.selects RX3 yX3_bestRoom yX3_bestRoom ∈ TB := in_TB 608 (by decide +kernel) (by decide +kernel)
def M_X3_leftAtWorst : Md := (RX3, cX3_leftAtWorst, 4, some .int, 1, 21, yX3_leftAtWorst)
theorem kc_X3_leftAtWorst : Cal M_X3_leftAtWorst 1 := ⟨by decide +kernel, rfl, in_TB 613 (by decide +kernel) (by decide +kernel), in_TB 62 (by decide +kernel) (by decide +kernel), by decide +kernel⟩
theorem ki_X3_leftAtWorst : Cond.instanceMethod yX3_leftAtWorst ∈ TB := in_TB 612 (by decide +kernel) (by decide +kernel)
theorem kx_X3_leftAtWorst : Cond.selects RX3 yX3_leftAtWorst yX3_leftAtWorst ∈ TB := in_TB 11 (by decide +kernel) (by decide +kernel)
def M_X4_init : Md := (RX4, cX4_init, 1, none, 1, 20, yX4_init)
theorem kc_X4_init : Cal M_X4_init 0 := ⟨by decide +kernel, rfl, in_TB 237 (by decide +kernel) (by decide +kernel), in_TB 59 (by decide +kernel) (by decide +kernel), by decide +kernel⟩
theorem ki_X4_init : Cond.instanceMethod yX4_init ∈ TB := in_TB 236 (by decide +kernel) (by decide +kernel)
def M_X4_fill : Md := (RX4, cX4_fill, 4, none, 1, 21, yX4_fill)
theorem kc_X4_fill : Cal M_X4_fill 2 := ⟨by decide +kernel, rfl, in_TB 571 (by decide +kernel) (by decide +kernel), in_TB 59 (by decide +kernel) (by decide +kernel), by decide +kernel⟩
theorem ki_X4_fill : Cond.instanceMethod yX4_fill ∈ TB := in_TB 569 (by decide +kernel) (by decide +kernel)
theorem kx_X4_fill : Cond.selects RX4 yX4_fill yX4_fill ∈ TB := in_TB 570 (by decide +kernel) (by decide +kernel)
def M_X4_fewest : Md := (RX4, cX4_fewest, 5, some .int, 2, 44, yX4_fewest)
theorem kc_X4_fewest : Cal M_X4_fewest 2 := ⟨by decide +kernel, rfl, in_TB 629 (by decide +kernel) (by decide +kernel), in_TB 59 (by decide +kernel) (by decide +kernel), by decide +kernel⟩
theorem ki_X4_fewest : Cond.instanceMethod yX4_fewest ∈ TB := in_TB 627 (by decide +kernel) (by decide +kernel)
theorem kx_X4_fewest : Cond.selects RX4 yX4_fewest yX4_fewest ∈ TB := in_TB 628 (by decide +kernel) (by decide +kernel)
def M_X4_oneFurther : Md := (RX4, cX4_oneFurther, 4, some .int, 1, 21, yX4_oneFurther)
theorem kc_X4_oneFurther : Cal M_X4_oneFurther 1 := ⟨by decide +kernel, rfl, in_TB 633 (by decide +kernel) (by decide +kernel), in_TB 59 (by decide +kernel) (by decide +kernel), by decide +kernel⟩
theorem ki_X4_oneFurther : Cond.instanceMethod yX4_oneFurther ∈ TB := in_TB 632 (by decide +kernel) (by decide +kernel)
theorem kx_X4_oneFurther : Cond.selects RX4 yX4_oneFurther yX4_oneFurther ∈ TB := in_TB 12 (by decide +kernel) (by decide +kernel)
def M_X4_shortestRing : Md := (RX4, cX4_shortestRing, 4, some .int, 3, 68, yX4_shortestRing)
theorem kc_X4_shortestRing : Cal M_X4_shortestRing 0 := ⟨by decide +kernel, rfl, in_TB 701 (by decide +kernel) (by decide +kernel), in_TB 59 (by decide +kernel) (by decide +kernel), by decide +kernel⟩
theorem ki_X4_shortestRing : Cond.instanceMethod yX4_shortestRing ∈ TB := in_TB 699 (by decide +kernel) (by decide +kernel)
theorem kx_X4_shortestRing : Cond.selects RX4 yX4_shortestRing yX4_shortestRing ∈ TB := in_TB 700 (by decide +kernel) (by decide +kernel)
def M_X4_fewestToForgive : Md := (RX4, cX4_fewestToForgive, 6, some .int, 2, 44, yX4_fewestToForgive)
theorem kc_X4_fewestToForgive : Cal M_X4_fewestToForgive 1 := ⟨by decide +kernel, rfl, in_TB 710 (by decide +kernel) (by decide +kernel), in_TB 59 (by decide +kernel) (by decide +kernel), by decide +kernel⟩
theorem ki_X4_fewestToForgive : Cond.instanceMethod yX4_fewestToForgive ∈ TB := in_TB 708 (by decide +kernel) (by decide +kernel)
theorem kx_X4_fewestToForgive : Cond.selects RX4 yX4_fewestToForgive yX4_fewestToForgive ∈ TB := in_TB 709 (by decide +kernel) (by decide +kernel)
def M_X4_hasRing : Md := (RX4, cX4_hasRing, 4, some .boolean, 0, 0, yX4_hasRing)
theorem kc_X4_hasRing : Cal M_X4_hasRing 0 := ⟨by decide +kernel, rfl, in_TB 716 (by decide +kernel) (by decide +kernel), in_TB 59 (by decide +kernel) (by decide +kernel), by decide +kernel⟩
theorem ki_X4_hasRing : Cond.instanceMethod yX4_hasRing ∈ TB := in_TB 715 (by decide +kernel) (by decide +kernel)
theorem kx_X4_hasRing : Cond.selects RX4 yX4_hasRing yX4_hasRing ∈ TB := in_TB 16 (by decide +kernel) (by decide +kernel)
def M_X5_init : Md := (RX5, cX5_init, 1, none, 1, 20, yX5_init)
theorem kc_X5_init : Cal M_X5_init 0 := ⟨by decide +kernel, rfl, in_TB 251 (by decide +kernel) (by decide +kernel), in_TB 60 (by decide +kernel) (by decide +kernel), by decide +kernel⟩
theorem ki_X5_init : Cond.instanceMethod yX5_init ∈ TB := in_TB 250 (by decide +kernel) (by decide +kernel)
def M_X5_choose : Md := (RX5, cX5_choose, 6, none, 3, 70, yX5_choose)
theorem kc_X5_choose : Cal M_X5_choose 3 := ⟨by decide +kernel, rfl, in_TB 675 (by decide +kernel) (by decide +kernel), in_TB 60 (by decide +kernel) (by decide +kernel), by decide +kernel⟩
theorem ki_X5_choose : Cond.instanceMethod yX5_choose ∈ TB := in_TB 673 (by decide +kernel) (by decide +kernel)
theorem kx_X5_choose : Cond.selects RX5 yX5_choose yX5_choose ∈ TB := in_TB 674 (by decide +kernel) (by decide +kernel)
def M_X5_lookAhead : Md := (RX5, cX5_lookAhead, 8, none, 2, 42, yX5_lookAhead)
theorem kc_X5_lookAhead : Cal M_X5_lookAhead 3 := ⟨by decide +kernel, rfl, in_TB 679 (by decide +kernel) (by decide +kernel), in_TB 60 (by decide +kernel) (by decide +kernel), by decide +kernel⟩
theorem ki_X5_lookAhead : Cond.instanceMethod yX5_lookAhead ∈ TB := in_TB 678 (by decide +kernel) (by decide +kernel)
theorem kx_X5_lookAhead : Cond.selects RX5 yX5_lookAhead yX5_lookAhead ∈ TB := in_TB 13 (by decide +kernel) (by decide +kernel)
def M_X5_weigh : Md := (RX5, cX5_weigh, 8, none, 2, 43, yX5_weigh)
theorem kc_X5_weigh : Cal M_X5_weigh 3 := ⟨by decide +kernel, rfl, in_TB 686 (by decide +kernel) (by decide +kernel), in_TB 60 (by decide +kernel) (by decide +kernel), by decide +kernel⟩
theorem ki_X5_weigh : Cond.instanceMethod yX5_weigh ∈ TB := in_TB 685 (by decide +kernel) (by decide +kernel)
theorem kx_X5_weigh : Cond.selects RX5 yX5_weigh yX5_weigh ∈ TB := in_TB 14 (by decide +kernel) (by decide +kernel)
def M_X5_isBetter : Md := (RX5, cX5_isBetter, 4, some .boolean, 1, 20, yX5_isBetter)
theorem kc_X5_isBetter : Cal M_X5_isBetter 3 := ⟨by decide +kernel, rfl, in_TB 692 (by decide +kernel) (by decide +kernel), in_TB 60 (by decide +kernel) (by decide +kernel), by decide +kernel⟩
theorem ki_X5_isBetter : Cond.instanceMethod yX5_isBetter ∈ TB := in_TB 691 (by decide +kernel) (by decide +kernel)
theorem kx_X5_isBetter : Cond.selects RX5 yX5_isBetter yX5_isBetter ∈ TB := in_TB 15 (by decide +kernel) (by decide +kernel)
def M_X6_init : Md := (RX6, cX6_init, 1, none, 1, 20, yX6_init)
theorem kc_X6_init : Cal M_X6_init 0 := ⟨by decide +kernel, rfl, in_TB 84 (by decide +kernel) (by decide +kernel), in_TB 55 (by decide +kernel) (by decide +kernel), by decide +kernel⟩
theorem ki_X6_init : Cond.instanceMethod yX6_init ∈ TB := in_TB 83 (by decide +kernel) (by decide +kernel)
def M_X6_add : Md := (RX6, cX6_add, 2, none, 0, 0, yX6_add)
theorem kc_X6_add : Cal M_X6_add 1 := ⟨by decide +kernel, rfl, in_TB 372 (by decide +kernel) (by decide +kernel), in_TB 55 (by decide +kernel) (by decide +kernel), by decide +kernel⟩
theorem ki_X6_add : Cond.instanceMethod yX6_add ∈ TB := in_TB 370 (by decide +kernel) (by decide +kernel)
theorem kx_X6_add : Cond.selects RX6 yX6_add yX6_add ∈ TB := in_TB 371 (by decide +kernel) (by decide +kernel)
def M_X7_init : Md := (RX7, cX7_init, 1, none, 2, 40, yX7_init)
theorem kc_X7_init : Cal M_X7_init 0 := ⟨by decide +kernel, rfl, in_TB 102 (by decide +kernel) (by decide +kernel), in_TB 56 (by decide +kernel) (by decide +kernel), by decide +kernel⟩
theorem ki_X7_init : Cond.instanceMethod yX7_init ∈ TB := in_TB 101 (by decide +kernel) (by decide +kernel)
def M_X7_firstFault : Md := (RX7, cX7_firstFault, 3, some .int, 8, 180, yX7_firstFault)
theorem kc_X7_firstFault : Cal M_X7_firstFault 1 := ⟨by decide +kernel, rfl, in_TB 384 (by decide +kernel) (by decide +kernel), in_TB 56 (by decide +kernel) (by decide +kernel), by decide +kernel⟩
theorem ki_X7_firstFault : Cond.instanceMethod yX7_firstFault ∈ TB := in_TB 382 (by decide +kernel) (by decide +kernel)
theorem kx_X7_firstFault : Cond.selects RX7 yX7_firstFault yX7_firstFault ∈ TB := in_TB 383 (by decide +kernel) (by decide +kernel)
def M_X7_isWhole : Md := (RX7, cX7_isWhole, 1, some .boolean, 0, 0, yX7_isWhole)
theorem kc_X7_isWhole : Cal M_X7_isWhole 0 := ⟨by decide +kernel, rfl, in_TB 530 (by decide +kernel) (by decide +kernel), in_TB 56 (by decide +kernel) (by decide +kernel), by decide +kernel⟩
theorem ki_X7_isWhole : Cond.instanceMethod yX7_isWhole ∈ TB := in_TB 528 (by decide +kernel) (by decide +kernel)
theorem kx_X7_isWhole : Cond.selects RX7 yX7_isWhole yX7_isWhole ∈ TB := in_TB 529 (by decide +kernel) (by decide +kernel)
def M_X7_takes : Md := (RX7, cX7_takes, 2, some .boolean, 7, 159, yX7_takes)
theorem kc_X7_takes : Cal M_X7_takes 1 := ⟨by decide +kernel, rfl, in_TB 392 (by decide +kernel) (by decide +kernel), in_TB 56 (by decide +kernel) (by decide +kernel), by decide +kernel⟩
theorem ki_X7_takes : Cond.instanceMethod yX7_takes ∈ TB := in_TB 391 (by decide +kernel) (by decide +kernel)
theorem kx_X7_takes : Cond.selects RX7 yX7_takes yX7_takes ∈ TB := in_TB 0 (by decide +kernel) (by decide +kernel)
def M_X7_goesOn : Md := (RX7, cX7_goesOn, 3, some .boolean, 0, 0, yX7_goesOn)
theorem kc_X7_goesOn : Cal M_X7_goesOn 2 := ⟨by decide +kernel, rfl, in_TB 406 (by decide +kernel) (by decide +kernel), in_TB 56 (by decide +kernel) (by decide +kernel), by decide +kernel⟩
theorem ki_X7_goesOn : Cond.instanceMethod yX7_goesOn ∈ TB := in_TB 405 (by decide +kernel) (by decide +kernel)
theorem kx_X7_goesOn : Cond.selects RX7 yX7_goesOn yX7_goesOn ∈ TB := in_TB 2 (by decide +kernel) (by decide +kernel)
def M_X7_takesRoom : Md := (RX7, cX7_takesRoom, 2, some .boolean, 1, 22, yX7_takesRoom)
theorem kc_X7_takesRoom : Cal M_X7_takesRoom 1 := ⟨by decide +kernel, rfl, in_TB 399 (by decide +kernel) (by decide +kernel), in_TB 56 (by decide +kernel) (by decide +kernel), by decide +kernel⟩
theorem ki_X7_takesRoom : Cond.instanceMethod yX7_takesRoom ∈ TB := in_TB 398 (by decide +kernel) (by decide +kernel)
theorem kx_X7_takesRoom : Cond.selects RX7 yX7_takesRoom yX7_takesRoom ∈ TB := in_TB 1 (by decide +kernel) (by decide +kernel)
def M_X7_takesKind : Md := (RX7, cX7_takesKind, 2, some .boolean, 0, 0, yX7_takesKind)
theorem kc_X7_takesKind : Cal M_X7_takesKind 1 := ⟨by decide +kernel, rfl, in_TB 497 (by decide +kernel) (by decide +kernel), in_TB 56 (by decide +kernel) (by decide +kernel), by decide +kernel⟩
theorem ki_X7_takesKind : Cond.instanceMethod yX7_takesKind ∈ TB := in_TB 496 (by decide +kernel) (by decide +kernel)
theorem kx_X7_takesKind : Cond.selects RX7 yX7_takesKind yX7_takesKind ∈ TB := in_TB 3 (by decide +kernel) (by decide +kernel)
def M_X7_takesWarm : Md := (RX7, cX7_takesWarm, 2, some .boolean, 0, 0, yX7_takesWarm)
theorem kc_X7_takesWarm : Cal M_X7_takesWarm 1 := ⟨by decide +kernel, rfl, in_TB 501 (by decide +kernel) (by decide +kernel), in_TB 56 (by decide +kernel) (by decide +kernel), by decide +kernel⟩
theorem ki_X7_takesWarm : Cond.instanceMethod yX7_takesWarm ∈ TB := in_TB 500 (by decide +kernel) (by decide +kernel)
theorem kx_X7_takesWarm : Cond.selects RX7 yX7_takesWarm yX7_takesWarm ∈ TB := in_TB 4 (by decide +kernel) (by decide +kernel)
def M_X7_takesMark : Md := (RX7, cX7_takesMark, 2, some .boolean, 1, 22, yX7_takesMark)
theorem kc_X7_takesMark : Cal M_X7_takesMark 1 := ⟨by decide +kernel, rfl, in_TB 505 (by decide +kernel) (by decide +kernel), in_TB 56 (by decide +kernel) (by decide +kernel), by decide +kernel⟩
theorem ki_X7_takesMark : Cond.instanceMethod yX7_takesMark ∈ TB := in_TB 504 (by decide +kernel) (by decide +kernel)
theorem kx_X7_takesMark : Cond.selects RX7 yX7_takesMark yX7_takesMark ∈ TB := in_TB 5 (by decide +kernel) (by decide +kernel)
def M_X7_takesDid : Md := (RX7, cX7_takesDid, 2, some .boolean, 1, 21, yX7_takesDid)
theorem kc_X7_takesDid : Cal M_X7_takesDid 1 := ⟨by decide +kernel, rfl, in_TB 509 (by decide +kernel) (by decide +kernel), in_TB 56 (by decide +kernel) (by decide +kernel), by decide +kernel⟩
theorem ki_X7_takesDid : Cond.instanceMethod yX7_takesDid ∈ TB := in_TB 508 (by decide +kernel) (by decide +kernel)
theorem kx_X7_takesDid : Cond.selects RX7 yX7_takesDid yX7_takesDid ∈ TB := in_TB 6 (by decide +kernel) (by decide +kernel)
def M_X7_takesWhom : Md := (RX7, cX7_takesWhom, 2, some .boolean, 1, 21, yX7_takesWhom)
theorem kc_X7_takesWhom : Cal M_X7_takesWhom 1 := ⟨by decide +kernel, rfl, in_TB 517 (by decide +kernel) (by decide +kernel), in_TB 56 (by decide +kernel) (by decide +kernel), by decide +kernel⟩
theorem ki_X7_takesWhom : Cond.instanceMethod yX7_takesWhom ∈ TB := in_TB 516 (by decide +kernel) (by decide +kernel)
theorem kx_X7_takesWhom : Cond.selects RX7 yX7_takesWhom yX7_takesWhom ∈ TB := in_TB 7 (by decide +kernel) (by decide +kernel)
def M_X7_takesGrave : Md := (RX7, cX7_takesGrave, 2, some .boolean, 0, 0, yX7_takesGrave)
theorem kc_X7_takesGrave : Cal M_X7_takesGrave 1 := ⟨by decide +kernel, rfl, in_TB 521 (by decide +kernel) (by decide +kernel), in_TB 56 (by decide +kernel) (by decide +kernel), by decide +kernel⟩
theorem ki_X7_takesGrave : Cond.instanceMethod yX7_takesGrave ∈ TB := in_TB 520 (by decide +kernel) (by decide +kernel)
theorem kx_X7_takesGrave : Cond.selects RX7 yX7_takesGrave yX7_takesGrave ∈ TB := in_TB 8 (by decide +kernel) (by decide +kernel)
def M_X8_init : Md := (RX8, cX8_init, 1, none, 1, 20, yX8_init)
theorem kc_X8_init : Cal M_X8_init 0 := ⟨by decide +kernel, rfl, in_TB 311 (by decide +kernel) (by decide +kernel), in_TB 63 (by decide +kernel) (by decide +kernel), by decide +kernel⟩
theorem ki_X8_init : Cond.instanceMethod yX8_init ∈ TB := in_TB 310 (by decide +kernel) (by decide +kernel)
def M_X8_pass : Md := (RX8, cX8_pass, 6, none, 3, 67, yX8_pass)
theorem kc_X8_pass : Cal M_X8_pass 4 := ⟨by decide +kernel, rfl, in_TB 768 (by decide +kernel) (by decide +kernel), in_TB 63 (by decide +kernel) (by decide +kernel), by decide +kernel⟩
theorem ki_X8_pass : Cond.instanceMethod yX8_pass ∈ TB := in_TB 766 (by decide +kernel) (by decide +kernel)
theorem kx_X8_pass : Cond.selects RX8 yX8_pass yX8_pass ∈ TB := in_TB 767 (by decide +kernel) (by decide +kernel)
def M_X8_draw : Md := (RX8, cX8_draw, 2, some .int, 0, 0, yX8_draw)
theorem kc_X8_draw : Cal M_X8_draw 1 := ⟨by decide +kernel, rfl, in_TB 772 (by decide +kernel) (by decide +kernel), in_TB 63 (by decide +kernel) (by decide +kernel), by decide +kernel⟩
theorem ki_X8_draw : Cond.instanceMethod yX8_draw ∈ TB := in_TB 771 (by decide +kernel) (by decide +kernel)
theorem kx_X8_draw : Cond.selects RX8 yX8_draw yX8_draw ∈ TB := in_TB 18 (by decide +kernel) (by decide +kernel)
def M_X9_init : Md := (RX9, cX9_init, 1, none, 3, 60, yX9_init)
theorem kc_X9_init : Cal M_X9_init 0 := ⟨by decide +kernel, rfl, in_TB 76 (by decide +kernel) (by decide +kernel), in_TB 54 (by decide +kernel) (by decide +kernel), by decide +kernel⟩
theorem ki_X9_init : Cond.instanceMethod yX9_init ∈ TB := in_TB 75 (by decide +kernel) (by decide +kernel)
def M_X9_letter : Md := (RX9, cX9_letter, 2, some .int, 1, 21, yX9_letter)
theorem kc_X9_letter : Cal M_X9_letter 1 := ⟨by decide +kernel, rfl, in_TB 368 (by decide +kernel) (by decide +kernel), in_TB 54 (by decide +kernel) (by decide +kernel), by decide +kernel⟩
theorem ki_X9_letter : Cond.instanceMethod yX9_letter ∈ TB := in_TB 366 (by decide +kernel) (by decide +kernel)
theorem kx_X9_letter : Cond.selects RX9 yX9_letter yX9_letter ∈ TB := in_TB 367 (by decide +kernel) (by decide +kernel)
def M_X9_blank : Md := (RX9, cX9_blank, 2, some .int, 0, 0, yX9_blank)
theorem kc_X9_blank : Cal M_X9_blank 0 := ⟨by decide +kernel, rfl, in_TB 376 (by decide +kernel) (by decide +kernel), in_TB 54 (by decide +kernel) (by decide +kernel), by decide +kernel⟩
theorem ki_X9_blank : Cond.instanceMethod yX9_blank ∈ TB := in_TB 374 (by decide +kernel) (by decide +kernel)
theorem kx_X9_blank : Cond.selects RX9 yX9_blank yX9_blank ∈ TB := in_TB 375 (by decide +kernel) (by decide +kernel)
def M_X9_fault : Md := (RX9, cX9_fault, 1, some .int, 9, 202, yX9_fault)
theorem kc_X9_fault : Cal M_X9_fault 0 := ⟨by decide +kernel, rfl, in_TB 380 (by decide +kernel) (by decide +kernel), in_TB 54 (by decide +kernel) (by decide +kernel), by decide +kernel⟩
theorem ki_X9_fault : Cond.instanceMethod yX9_fault ∈ TB := in_TB 378 (by decide +kernel) (by decide +kernel)
theorem kx_X9_fault : Cond.selects RX9 yX9_fault yX9_fault ∈ TB := in_TB 379 (by decide +kernel) (by decide +kernel)
def M_X9_chapel : Md := (RX9, cX9_chapel, 1, some .int, 9, 202, yX9_chapel)
theorem kc_X9_chapel : Cal M_X9_chapel 0 := ⟨by decide +kernel, rfl, in_TB 526 (by decide +kernel) (by decide +kernel), in_TB 54 (by decide +kernel) (by decide +kernel), by decide +kernel⟩
theorem ki_X9_chapel : Cond.instanceMethod yX9_chapel ∈ TB := in_TB 524 (by decide +kernel) (by decide +kernel)
theorem kx_X9_chapel : Cond.selects RX9 yX9_chapel yX9_chapel ∈ TB := in_TB 525 (by decide +kernel) (by decide +kernel)
def M_X9_person : Md := (RX9, cX9_person, 3, some .int, 4, 88, yX9_person)
theorem kc_X9_person : Cal M_X9_person 2 := ⟨by decide +kernel, rfl, in_TB 538 (by decide +kernel) (by decide +kernel), in_TB 54 (by decide +kernel) (by decide +kernel), by decide +kernel⟩
theorem ki_X9_person : Cond.instanceMethod yX9_person ∈ TB := in_TB 536 (by decide +kernel) (by decide +kernel)
theorem kx_X9_person : Cond.selects RX9 yX9_person yX9_person ∈ TB := in_TB 537 (by decide +kernel) (by decide +kernel)
def M_X9_as : Md := (RX9, cX9_as, 3, some .int, 1, 21, yX9_as)
theorem kc_X9_as : Cal M_X9_as 2 := ⟨by decide +kernel, rfl, in_TB 576 (by decide +kernel) (by decide +kernel), in_TB 54 (by decide +kernel) (by decide +kernel), by decide +kernel⟩
theorem ki_X9_as : Cond.instanceMethod yX9_as ∈ TB := in_TB 574 (by decide +kernel) (by decide +kernel)
theorem kx_X9_as : Cond.selects RX9 yX9_as yX9_as ∈ TB := in_TB 575 (by decide +kernel) (by decide +kernel)
def M_X9_wrong : Md := (RX9, cX9_wrong, 3, some .int, 4, 92, yX9_wrong)
theorem kc_X9_wrong : Cal M_X9_wrong 2 := ⟨by decide +kernel, rfl, in_TB 586 (by decide +kernel) (by decide +kernel), in_TB 54 (by decide +kernel) (by decide +kernel), by decide +kernel⟩
theorem ki_X9_wrong : Cond.instanceMethod yX9_wrong ∈ TB := in_TB 584 (by decide +kernel) (by decide +kernel)
theorem kx_X9_wrong : Cond.selects RX9 yX9_wrong yX9_wrong ∈ TB := in_TB 585 (by decide +kernel) (by decide +kernel)
def M_X9_to : Md := (RX9, cX9_to, 3, some .int, 3, 68, yX9_to)
theorem kc_X9_to : Cal M_X9_to 2 := ⟨by decide +kernel, rfl, in_TB 625 (by decide +kernel) (by decide +kernel), in_TB 54 (by decide +kernel) (by decide +kernel), by decide +kernel⟩
theorem ki_X9_to : Cond.instanceMethod yX9_to ∈ TB := in_TB 623 (by decide +kernel) (by decide +kernel)
theorem kx_X9_to : Cond.selects RX9 yX9_to yX9_to ∈ TB := in_TB 624 (by decide +kernel) (by decide +kernel)
def M_X9_sunday : Md := (RX9, cX9_sunday, 1, some .int, 4, 87, yX9_sunday)
theorem kc_X9_sunday : Cal M_X9_sunday 0 := ⟨by decide +kernel, rfl, in_TB 637 (by decide +kernel) (by decide +kernel), in_TB 54 (by decide +kernel) (by decide +kernel), by decide +kernel⟩
theorem ki_X9_sunday : Cond.instanceMethod yX9_sunday ∈ TB := in_TB 635 (by decide +kernel) (by decide +kernel)
theorem kx_X9_sunday : Cond.selects RX9 yX9_sunday yX9_sunday ∈ TB := in_TB 636 (by decide +kernel) (by decide +kernel)
def M_X9_forgive : Md := (RX9, cX9_forgive, 2, some .int, 4, 88, yX9_forgive)
theorem kc_X9_forgive : Cal M_X9_forgive 1 := ⟨by decide +kernel, rfl, in_TB 654 (by decide +kernel) (by decide +kernel), in_TB 54 (by decide +kernel) (by decide +kernel), by decide +kernel⟩
theorem ki_X9_forgive : Cond.instanceMethod yX9_forgive ∈ TB := in_TB 652 (by decide +kernel) (by decide +kernel)
theorem kx_X9_forgive : Cond.selects RX9 yX9_forgive yX9_forgive ∈ TB := in_TB 653 (by decide +kernel) (by decide +kernel)
def M_X9_again : Md := (RX9, cX9_again, 3, some .int, 4, 88, yX9_again)
theorem kc_X9_again : Cal M_X9_again 2 := ⟨by decide +kernel, rfl, in_TB 658 (by decide +kernel) (by decide +kernel), in_TB 54 (by decide +kernel) (by decide +kernel), by decide +kernel⟩
theorem ki_X9_again : Cond.instanceMethod yX9_again ∈ TB := in_TB 656 (by decide +kernel) (by decide +kernel)
theorem kx_X9_again : Cond.selects RX9 yX9_again yX9_again ∈ TB := in_TB 657 (by decide +kernel) (by decide +kernel)
def M_X9_room : Md := (RX9, cX9_room, 3, some .int, 1, 20, yX9_room)
theorem kc_X9_room : Cal M_X9_room 1 := ⟨by decide +kernel, rfl, in_TB 662 (by decide +kernel) (by decide +kernel), in_TB 54 (by decide +kernel) (by decide +kernel), by decide +kernel⟩
theorem ki_X9_room : Cond.instanceMethod yX9_room ∈ TB := in_TB 660 (by decide +kernel) (by decide +kernel)
theorem kx_X9_room : Cond.selects RX9 yX9_room yX9_room ∈ TB := in_TB 661 (by decide +kernel) (by decide +kernel)
def M_X9_change : Md := (RX9, cX9_change, 5, some .int, 1, 21, yX9_change)
theorem kc_X9_change : Cal M_X9_change 3 := ⟨by decide +kernel, rfl, in_TB 667 (by decide +kernel) (by decide +kernel), in_TB 54 (by decide +kernel) (by decide +kernel), by decide +kernel⟩
theorem ki_X9_change : Cond.instanceMethod yX9_change ∈ TB := in_TB 665 (by decide +kernel) (by decide +kernel)
theorem kx_X9_change : Cond.selects RX9 yX9_change yX9_change ∈ TB := in_TB 666 (by decide +kernel) (by decide +kernel)
def M_X9_leave : Md := (RX9, cX9_leave, 3, some .int, 4, 95, yX9_leave)
theorem kc_X9_leave : Cal M_X9_leave 2 := ⟨by decide +kernel, rfl, in_TB 671 (by decide +kernel) (by decide +kernel), in_TB 54 (by decide +kernel) (by decide +kernel), by decide +kernel⟩
theorem ki_X9_leave : Cond.instanceMethod yX9_leave ∈ TB := in_TB 669 (by decide +kernel) (by decide +kernel)
theorem kx_X9_leave : Cond.selects RX9 yX9_leave yX9_leave ∈ TB := in_TB 670 (by decide +kernel) (by decide +kernel)
def M_X9_ring : Md := (RX9, cX9_ring, 1, some .int, 4, 91, yX9_ring)
theorem kc_X9_ring : Cal M_X9_ring 0 := ⟨by decide +kernel, rfl, in_TB 697 (by decide +kernel) (by decide +kernel), in_TB 54 (by decide +kernel) (by decide +kernel), by decide +kernel⟩
theorem ki_X9_ring : Cond.instanceMethod yX9_ring ∈ TB := in_TB 695 (by decide +kernel) (by decide +kernel)
theorem kx_X9_ring : Cond.selects RX9 yX9_ring yX9_ring ∈ TB := in_TB 696 (by decide +kernel) (by decide +kernel)
def M_X9_peace : Md := (RX9, cX9_peace, 3, some .int, 3, 69, yX9_peace)
theorem kc_X9_peace : Cal M_X9_peace 1 := ⟨by decide +kernel, rfl, in_TB 706 (by decide +kernel) (by decide +kernel), in_TB 54 (by decide +kernel) (by decide +kernel), by decide +kernel⟩
theorem ki_X9_peace : Cond.instanceMethod yX9_peace ∈ TB := in_TB 704 (by decide +kernel) (by decide +kernel)
theorem kx_X9_peace : Cond.selects RX9 yX9_peace yX9_peace ∈ TB := in_TB 705 (by decide +kernel) (by decide +kernel)
def M_X9_odds : Md := (RX9, cX9_odds, 4, some .int, 4, 96, yX9_odds)
theorem kc_X9_odds : Cal M_X9_odds 3 := ⟨by decide +kernel, rfl, in_TB 721 (by decide +kernel) (by decide +kernel), in_TB 54 (by decide +kernel) (by decide +kernel), by decide +kernel⟩
theorem ki_X9_odds : Cond.instanceMethod yX9_odds ∈ TB := in_TB 719 (by decide +kernel) (by decide +kernel)
theorem kx_X9_odds : Cond.selects RX9 yX9_odds yX9_odds ∈ TB := in_TB 720 (by decide +kernel) (by decide +kernel)
def M_X9_see : Md := (RX9, cX9_see, 4, some .int, 1, 23, yX9_see)
theorem kc_X9_see : Cal M_X9_see 3 := ⟨by decide +kernel, rfl, in_TB 752 (by decide +kernel) (by decide +kernel), in_TB 54 (by decide +kernel) (by decide +kernel), by decide +kernel⟩
theorem ki_X9_see : Cond.instanceMethod yX9_see ∈ TB := in_TB 750 (by decide +kernel) (by decide +kernel)
theorem kx_X9_see : Cond.selects RX9 yX9_see yX9_see ∈ TB := in_TB 751 (by decide +kernel) (by decide +kernel)
def M_X9_forget : Md := (RX9, cX9_forget, 2, some .int, 0, 0, yX9_forget)
theorem kc_X9_forget : Cal M_X9_forget 0 := ⟨by decide +kernel, rfl, in_TB 760 (by decide +kernel) (by decide +kernel), in_TB 54 (by decide +kernel) (by decide +kernel), by decide +kernel⟩
theorem ki_X9_forget : Cond.instanceMethod yX9_forget ∈ TB := in_TB 758 (by decide +kernel) (by decide +kernel)
theorem kx_X9_forget : Cond.selects RX9 yX9_forget yX9_forget ∈ TB := in_TB 759 (by decide +kernel) (by decide +kernel)
def M_X9_winters : Md := (RX9, cX9_winters, 4, some .int, 4, 92, yX9_winters)
theorem kc_X9_winters : Cal M_X9_winters 3 := ⟨by decide +kernel, rfl, in_TB 764 (by decide +kernel) (by decide +kernel), in_TB 54 (by decide +kernel) (by decide +kernel), by decide +kernel⟩
theorem ki_X9_winters : Cond.instanceMethod yX9_winters ∈ TB := in_TB 762 (by decide +kernel) (by decide +kernel)
theorem kx_X9_winters : Cond.selects RX9 yX9_winters yX9_winters ∈ TB := in_TB 763 (by decide +kernel) (by decide +kernel)
def M_X9_image : Md := (RX9, cX9_image, 1, some .int, 1, 22, yX9_image)
theorem kc_X9_image : Cal M_X9_image 0 := ⟨by decide +kernel, rfl, in_TB 787 (by decide +kernel) (by decide +kernel), in_TB 54 (by decide +kernel) (by decide +kernel), by decide +kernel⟩
theorem ki_X9_image : Cond.instanceMethod yX9_image ∈ TB := in_TB 785 (by decide +kernel) (by decide +kernel)
theorem kx_X9_image : Cond.selects RX9 yX9_image yX9_image ∈ TB := in_TB 786 (by decide +kernel) (by decide +kernel)
def M_X9_restore : Md := (RX9, cX9_restore, 1, some .int, 1, 22, yX9_restore)
theorem kc_X9_restore : Cal M_X9_restore 0 := ⟨by decide +kernel, rfl, in_TB 791 (by decide +kernel) (by decide +kernel), in_TB 54 (by decide +kernel) (by decide +kernel), by decide +kernel⟩
theorem ki_X9_restore : Cond.instanceMethod yX9_restore ∈ TB := in_TB 789 (by decide +kernel) (by decide +kernel)
theorem kx_X9_restore : Cond.selects RX9 yX9_restore yX9_restore ∈ TB := in_TB 790 (by decide +kernel) (by decide +kernel)
def M_X9_count : Md := (RX9, cX9_count, 2, some .int, 4, 87, yX9_count)
theorem kc_X9_count : Cal M_X9_count 1 := ⟨by decide +kernel, rfl, in_TB 795 (by decide +kernel) (by decide +kernel), in_TB 54 (by decide +kernel) (by decide +kernel), by decide +kernel⟩
theorem ki_X9_count : Cond.instanceMethod yX9_count ∈ TB := in_TB 793 (by decide +kernel) (by decide +kernel)
theorem kx_X9_count : Cond.selects RX9 yX9_count yX9_count ∈ TB := in_TB 794 (by decide +kernel) (by decide +kernel)
def M_X9_digest : Md := (RX9, cX9_digest, 4, some .long, 6, 140, yX9_digest)
theorem kc_X9_digest : Cal M_X9_digest 0 := ⟨by decide +kernel, rfl, in_TB 807 (by decide +kernel) (by decide +kernel), in_TB 54 (by decide +kernel) (by decide +kernel), by decide +kernel⟩
theorem ki_X9_digest : Cond.instanceMethod yX9_digest ∈ TB := in_TB 805 (by decide +kernel) (by decide +kernel)
theorem kx_X9_digest : Cond.selects RX9 yX9_digest yX9_digest ∈ TB := in_TB 806 (by decide +kernel) (by decide +kernel)
def M_X9_digestPeople : Md := (RX9, cX9_digestPeople, 7, some .long, 5, 110, yX9_digestPeople)
theorem kc_X9_digestPeople : Cal M_X9_digestPeople 1 := ⟨by decide +kernel, rfl, in_TB 812 (by decide +kernel) (by decide +kernel), in_TB 54 (by decide +kernel) (by decide +kernel), by decide +kernel⟩
theorem ki_X9_digestPeople : Cond.instanceMethod yX9_digestPeople ∈ TB := in_TB 811 (by decide +kernel) (by decide +kernel)
theorem kx_X9_digestPeople : Cond.selects RX9 yX9_digestPeople yX9_digestPeople ∈ TB := in_TB 19 (by decide +kernel) (by decide +kernel)
def M_X9_digestWrongs : Md := (RX9, cX9_digestWrongs, 7, some .long, 5, 114, yX9_digestWrongs)
theorem kc_X9_digestWrongs : Cal M_X9_digestWrongs 1 := ⟨by decide +kernel, rfl, in_TB 818 (by decide +kernel) (by decide +kernel), in_TB 54 (by decide +kernel) (by decide +kernel), by decide +kernel⟩
theorem ki_X9_digestWrongs : Cond.instanceMethod yX9_digestWrongs ∈ TB := in_TB 817 (by decide +kernel) (by decide +kernel)
theorem kx_X9_digestWrongs : Cond.selects RX9 yX9_digestWrongs yX9_digestWrongs ∈ TB := in_TB 20 (by decide +kernel) (by decide +kernel)
def M_X9_digestGrudges : Md := (RX9, cX9_digestGrudges, 6, some .long, 5, 111, yX9_digestGrudges)
theorem kc_X9_digestGrudges : Cal M_X9_digestGrudges 1 := ⟨by decide +kernel, rfl, in_TB 823 (by decide +kernel) (by decide +kernel), in_TB 54 (by decide +kernel) (by decide +kernel), by decide +kernel⟩
theorem ki_X9_digestGrudges : Cond.instanceMethod yX9_digestGrudges ∈ TB := in_TB 822 (by decide +kernel) (by decide +kernel)
theorem kx_X9_digestGrudges : Cond.selects RX9 yX9_digestGrudges yX9_digestGrudges ∈ TB := in_TB 21 (by decide +kernel) (by decide +kernel)
def M_X9_guiltOf : Md := (RX9, cX9_guiltOf, 2, some .int, 3, 67, yX9_guiltOf)
theorem kc_X9_guiltOf : Cal M_X9_guiltOf 1 := ⟨by decide +kernel, rfl, in_TB 543 (by decide +kernel) (by decide +kernel), in_TB 54 (by decide +kernel) (by decide +kernel), by decide +kernel⟩
theorem ki_X9_guiltOf : Cond.instanceMethod yX9_guiltOf ∈ TB := in_TB 542 (by decide +kernel) (by decide +kernel)
theorem kx_X9_guiltOf : Cond.selects RX9 yX9_guiltOf yX9_guiltOf ∈ TB := in_TB 9 (by decide +kernel) (by decide +kernel)
def M_X9_sittersNow : Md := (RX9, cX9_sittersNow, 1, some .int, 3, 67, yX9_sittersNow)
theorem kc_X9_sittersNow : Cal M_X9_sittersNow 0 := ⟨by decide +kernel, rfl, in_TB 558 (by decide +kernel) (by decide +kernel), in_TB 54 (by decide +kernel) (by decide +kernel), by decide +kernel⟩
theorem ki_X9_sittersNow : Cond.instanceMethod yX9_sittersNow ∈ TB := in_TB 557 (by decide +kernel) (by decide +kernel)
theorem kx_X9_sittersNow : Cond.selects RX9 yX9_sittersNow yX9_sittersNow ∈ TB := in_TB 10 (by decide +kernel) (by decide +kernel)
def M_X9_isRoom : Md := (RX9, cX9_isRoom, 1, some .boolean, 0, 0, yX9_isRoom)
theorem kc_X9_isRoom : Cal M_X9_isRoom 1 := ⟨by decide +kernel, rfl, in_TB 402 (by decide +kernel) (by decide +kernel), in_TB 54 (by decide +kernel) (by decide +kernel), by decide +kernel⟩
theorem ks_X9_isRoom : Cond.static yX9_isRoom ∈ TB := in_TB 401 (by decide +kernel) (by decide +kernel)
def M_X9_isKind : Md := (RX9, cX9_isKind, 1, some .boolean, 0, 0, yX9_isKind)
theorem kc_X9_isKind : Cal M_X9_isKind 1 := ⟨by decide +kernel, rfl, in_TB 579 (by decide +kernel) (by decide +kernel), in_TB 54 (by decide +kernel) (by decide +kernel), by decide +kernel⟩
theorem ks_X9_isKind : Cond.static yX9_isKind ∈ TB := in_TB 578 (by decide +kernel) (by decide +kernel)
def M_X9_isA : Md := (RX9, cX9_isA, 2, some .boolean, 0, 0, yX9_isA)
theorem kc_X9_isA : Cal M_X9_isA 2 := ⟨by decide +kernel, rfl, in_TB 582 (by decide +kernel) (by decide +kernel), in_TB 54 (by decide +kernel) (by decide +kernel), by decide +kernel⟩
theorem ks_X9_isA : Cond.static yX9_isA ∈ TB := in_TB 581 (by decide +kernel) (by decide +kernel)
def M_X9_hasBit : Md := (RX9, cX9_hasBit, 2, some .boolean, 0, 0, yX9_hasBit)
theorem kc_X9_hasBit : Cal M_X9_hasBit 2 := ⟨by decide +kernel, rfl, in_TB 550 (by decide +kernel) (by decide +kernel), in_TB 54 (by decide +kernel) (by decide +kernel), by decide +kernel⟩
theorem ks_X9_hasBit : Cond.static yX9_hasBit ∈ TB := in_TB 549 (by decide +kernel) (by decide +kernel)
def M_X9_nextWarm : Md := (RX9, cX9_nextWarm, 2, some .int, 1, 21, yX9_nextWarm)
theorem kc_X9_nextWarm : Cal M_X9_nextWarm 2 := ⟨by decide +kernel, rfl, in_TB 648 (by decide +kernel) (by decide +kernel), in_TB 54 (by decide +kernel) (by decide +kernel), by decide +kernel⟩
theorem ks_X9_nextWarm : Cond.static yX9_nextWarm ∈ TB := in_TB 647 (by decide +kernel) (by decide +kernel)
def M_X9_digitOf : Md := (RX9, cX9_digitOf, 1, some .int, 0, 0, yX9_digitOf)
theorem kc_X9_digitOf : Cal M_X9_digitOf 1 := ⟨by decide +kernel, rfl, in_TB 395 (by decide +kernel) (by decide +kernel), in_TB 54 (by decide +kernel) (by decide +kernel), by decide +kernel⟩
theorem ks_X9_digitOf : Cond.static yX9_digitOf ∈ TB := in_TB 394 (by decide +kernel) (by decide +kernel)
def M_X10_init : Md := (RX10, cX10_init, 1, none, 1, 20, yX10_init)
theorem kc_X10_init : Cal M_X10_init 0 := ⟨by decide +kernel, rfl, in_TB 831 (by decide +kernel) (by decide +kernel), in_TB 64 (by decide +kernel) (by decide +kernel), by decide +kernel⟩
theorem ki_X10_init : Cond.instanceMethod yX10_init ∈ TB := in_TB 830 (by decide +kernel) (by decide +kernel)
def M_X10_in : Md := (RX10, cX10_in, 6, some .boolean, 0, 0, yX10_in)
theorem kc_X10_in : Cal M_X10_in 3 := ⟨by decide +kernel, rfl, in_TB 943 (by decide +kernel) (by decide +kernel), in_TB 64 (by decide +kernel) (by decide +kernel), by decide +kernel⟩
theorem ks_X10_in : Cond.static yX10_in ∈ TB := in_TB 942 (by decide +kernel) (by decide +kernel)
def M_X10_copy : Md := (RX10, cX10_copy, 3, none, 0, 0, yX10_copy)
theorem kc_X10_copy : Cal M_X10_copy 2 := ⟨by decide +kernel, rfl, in_TB 1062 (by decide +kernel) (by decide +kernel), in_TB 64 (by decide +kernel) (by decide +kernel), by decide +kernel⟩
theorem ks_X10_copy : Cond.static yX10_copy ∈ TB := in_TB 1061 (by decide +kernel) (by decide +kernel)
def M_X10_ones : Md := (RX10, cX10_ones, 3, some .int, 0, 0, yX10_ones)
theorem kc_X10_ones : Cal M_X10_ones 1 := ⟨by decide +kernel, rfl, in_TB 1069 (by decide +kernel) (by decide +kernel), in_TB 64 (by decide +kernel) (by decide +kernel), by decide +kernel⟩
theorem ks_X10_ones : Cond.static yX10_ones ∈ TB := in_TB 1068 (by decide +kernel) (by decide +kernel)
def M_X10_letter : Md := (RX10, cX10_letter, 2, some .int, 1, 25, yX10_letter)
theorem kc_X10_letter : Cal M_X10_letter 1 := ⟨by decide +kernel, rfl, in_TB 939 (by decide +kernel) (by decide +kernel), in_TB 64 (by decide +kernel) (by decide +kernel), by decide +kernel⟩
theorem ki_X10_letter : Cond.instanceMethod yX10_letter ∈ TB := in_TB 937 (by decide +kernel) (by decide +kernel)
theorem kx_X10_letter : Cond.selects RX10 yX10_letter yX10_letter ∈ TB := in_TB 938 (by decide +kernel) (by decide +kernel)
def M_X10_blank : Md := (RX10, cX10_blank, 2, some .int, 0, 0, yX10_blank)
theorem kc_X10_blank : Cal M_X10_blank 0 := ⟨by decide +kernel, rfl, in_TB 947 (by decide +kernel) (by decide +kernel), in_TB 64 (by decide +kernel) (by decide +kernel), by decide +kernel⟩
theorem ki_X10_blank : Cond.instanceMethod yX10_blank ∈ TB := in_TB 945 (by decide +kernel) (by decide +kernel)
theorem kx_X10_blank : Cond.selects RX10 yX10_blank yX10_blank ∈ TB := in_TB 946 (by decide +kernel) (by decide +kernel)
def M_X10_kindBy : Md := (RX10, cX10_kindBy, 1, some .int, 0, 0, yX10_kindBy)
theorem kc_X10_kindBy : Cal M_X10_kindBy 1 := ⟨by decide +kernel, rfl, in_TB 968 (by decide +kernel) (by decide +kernel), in_TB 64 (by decide +kernel) (by decide +kernel), by decide +kernel⟩
theorem ks_X10_kindBy : Cond.static yX10_kindBy ∈ TB := in_TB 967 (by decide +kernel) (by decide +kernel)
def M_X10_isPersonLetter : Md := (RX10, cX10_isPersonLetter, 4, some .boolean, 1, 25, yX10_isPersonLetter)
theorem kc_X10_isPersonLetter : Cal M_X10_isPersonLetter 1 := ⟨by decide +kernel, rfl, in_TB 965 (by decide +kernel) (by decide +kernel), in_TB 64 (by decide +kernel) (by decide +kernel), by decide +kernel⟩
theorem ki_X10_isPersonLetter : Cond.instanceMethod yX10_isPersonLetter ∈ TB := in_TB 964 (by decide +kernel) (by decide +kernel)
theorem kx_X10_isPersonLetter : Cond.selects RX10 yX10_isPersonLetter yX10_isPersonLetter ∈ TB := in_TB 24 (by decide +kernel) (by decide +kernel)
def M_X10_isPersonDigit : Md := (RX10, cX10_isPersonDigit, 2, some .boolean, 1, 25, yX10_isPersonDigit)
theorem kc_X10_isPersonDigit : Cal M_X10_isPersonDigit 1 := ⟨by decide +kernel, rfl, in_TB 978 (by decide +kernel) (by decide +kernel), in_TB 64 (by decide +kernel) (by decide +kernel), by decide +kernel⟩
theorem ki_X10_isPersonDigit : Cond.instanceMethod yX10_isPersonDigit ∈ TB := in_TB 977 (by decide +kernel) (by decide +kernel)
theorem kx_X10_isPersonDigit : Cond.selects RX10 yX10_isPersonDigit yX10_isPersonDigit ∈ TB := in_TB 26 (by decide +kernel) (by decide +kernel)
def M_X10_isWrongLetter : Md := (RX10, cX10_isWrongLetter, 4, some .boolean, 2, 46, yX10_isWrongLetter)
theorem kc_X10_isWrongLetter : Cal M_X10_isWrongLetter 1 := ⟨by decide +kernel, rfl, in_TB 974 (by decide +kernel) (by decide +kernel), in_TB 64 (by decide +kernel) (by decide +kernel), by decide +kernel⟩
theorem ki_X10_isWrongLetter : Cond.instanceMethod yX10_isWrongLetter ∈ TB := in_TB 973 (by decide +kernel) (by decide +kernel)
theorem kx_X10_isWrongLetter : Cond.selects RX10 yX10_isWrongLetter yX10_isWrongLetter ∈ TB := in_TB 25 (by decide +kernel) (by decide +kernel)
def M_X10_isGood : Md := (RX10, cX10_isGood, 2, some .boolean, 3, 69, yX10_isGood)
theorem kc_X10_isGood : Cal M_X10_isGood 1 := ⟨by decide +kernel, rfl, in_TB 959 (by decide +kernel) (by decide +kernel), in_TB 64 (by decide +kernel) (by decide +kernel), by decide +kernel⟩
theorem ki_X10_isGood : Cond.instanceMethod yX10_isGood ∈ TB := in_TB 958 (by decide +kernel) (by decide +kernel)
theorem kx_X10_isGood : Cond.selects RX10 yX10_isGood yX10_isGood ∈ TB := in_TB 23 (by decide +kernel) (by decide +kernel)
def M_X10_faultOf : Md := (RX10, cX10_faultOf, 2, some .int, 4, 90, yX10_faultOf)
theorem kc_X10_faultOf : Cal M_X10_faultOf 0 := ⟨by decide +kernel, rfl, in_TB 955 (by decide +kernel) (by decide +kernel), in_TB 64 (by decide +kernel) (by decide +kernel), by decide +kernel⟩
theorem ki_X10_faultOf : Cond.instanceMethod yX10_faultOf ∈ TB := in_TB 954 (by decide +kernel) (by decide +kernel)
theorem kx_X10_faultOf : Cond.selects RX10 yX10_faultOf yX10_faultOf ∈ TB := in_TB 22 (by decide +kernel) (by decide +kernel)
def M_X10_fault : Md := (RX10, cX10_fault, 1, some .int, 5, 111, yX10_fault)
theorem kc_X10_fault : Cal M_X10_fault 0 := ⟨by decide +kernel, rfl, in_TB 951 (by decide +kernel) (by decide +kernel), in_TB 64 (by decide +kernel) (by decide +kernel), by decide +kernel⟩
theorem ki_X10_fault : Cond.instanceMethod yX10_fault ∈ TB := in_TB 949 (by decide +kernel) (by decide +kernel)
theorem kx_X10_fault : Cond.selects RX10 yX10_fault yX10_fault ∈ TB := in_TB 950 (by decide +kernel) (by decide +kernel)
def M_X10_chapel : Md := (RX10, cX10_chapel, 3, some .int, 5, 111, yX10_chapel)
theorem kc_X10_chapel : Cal M_X10_chapel 0 := ⟨by decide +kernel, rfl, in_TB 982 (by decide +kernel) (by decide +kernel), in_TB 64 (by decide +kernel) (by decide +kernel), by decide +kernel⟩
theorem ki_X10_chapel : Cond.instanceMethod yX10_chapel ∈ TB := in_TB 980 (by decide +kernel) (by decide +kernel)
theorem kx_X10_chapel : Cond.selects RX10 yX10_chapel yX10_chapel ∈ TB := in_TB 981 (by decide +kernel) (by decide +kernel)
def M_X10_lacks : Md := (RX10, cX10_lacks, 1, some .boolean, 0, 0, yX10_lacks)
theorem kc_X10_lacks : Cal M_X10_lacks 0 := ⟨by decide +kernel, rfl, in_TB 1059 (by decide +kernel) (by decide +kernel), in_TB 64 (by decide +kernel) (by decide +kernel), by decide +kernel⟩
theorem ki_X10_lacks : Cond.instanceMethod yX10_lacks ∈ TB := in_TB 1058 (by decide +kernel) (by decide +kernel)
theorem kx_X10_lacks : Cond.selects RX10 yX10_lacks yX10_lacks ∈ TB := in_TB 40 (by decide +kernel) (by decide +kernel)
def M_X10_isPerson : Md := (RX10, cX10_isPerson, 2, some .boolean, 1, 25, yX10_isPerson)
theorem kc_X10_isPerson : Cal M_X10_isPerson 1 := ⟨by decide +kernel, rfl, in_TB 990 (by decide +kernel) (by decide +kernel), in_TB 64 (by decide +kernel) (by decide +kernel), by decide +kernel⟩
theorem ki_X10_isPerson : Cond.instanceMethod yX10_isPerson ∈ TB := in_TB 989 (by decide +kernel) (by decide +kernel)
theorem kx_X10_isPerson : Cond.selects RX10 yX10_isPerson yX10_isPerson ∈ TB := in_TB 27 (by decide +kernel) (by decide +kernel)
def M_X10_isWrong : Md := (RX10, cX10_isWrong, 2, some .boolean, 1, 25, yX10_isWrong)
theorem kc_X10_isWrong : Cal M_X10_isWrong 1 := ⟨by decide +kernel, rfl, in_TB 1023 (by decide +kernel) (by decide +kernel), in_TB 64 (by decide +kernel) (by decide +kernel), by decide +kernel⟩
theorem ki_X10_isWrong : Cond.instanceMethod yX10_isWrong ∈ TB := in_TB 1022 (by decide +kernel) (by decide +kernel)
theorem kx_X10_isWrong : Cond.selects RX10 yX10_isWrong yX10_isWrong ∈ TB := in_TB 33 (by decide +kernel) (by decide +kernel)
def M_X10_guiltBy : Md := (RX10, cX10_guiltBy, 8, some .int, 0, 0, yX10_guiltBy)
theorem kc_X10_guiltBy : Cal M_X10_guiltBy 2 := ⟨by decide +kernel, rfl, in_TB 998 (by decide +kernel) (by decide +kernel), in_TB 64 (by decide +kernel) (by decide +kernel), by decide +kernel⟩
theorem ki_X10_guiltBy : Cond.instanceMethod yX10_guiltBy ∈ TB := in_TB 997 (by decide +kernel) (by decide +kernel)
theorem kx_X10_guiltBy : Cond.selects RX10 yX10_guiltBy yX10_guiltBy ∈ TB := in_TB 29 (by decide +kernel) (by decide +kernel)
def M_X10_sitsBy : Md := (RX10, cX10_sitsBy, 7, some .int, 1, 27, yX10_sitsBy)
theorem kc_X10_sitsBy : Cal M_X10_sitsBy 2 := ⟨by decide +kernel, rfl, in_TB 1006 (by decide +kernel) (by decide +kernel), in_TB 64 (by decide +kernel) (by decide +kernel), by decide +kernel⟩
theorem ki_X10_sitsBy : Cond.instanceMethod yX10_sitsBy ∈ TB := in_TB 1005 (by decide +kernel) (by decide +kernel)
theorem kx_X10_sitsBy : Cond.selects RX10 yX10_sitsBy yX10_sitsBy ∈ TB := in_TB 31 (by decide +kernel) (by decide +kernel)
def M_X10_sitsNow : Md := (RX10, cX10_sitsNow, 1, some .int, 2, 53, yX10_sitsNow)
theorem kc_X10_sitsNow : Cal M_X10_sitsNow 0 := ⟨by decide +kernel, rfl, in_TB 1002 (by decide +kernel) (by decide +kernel), in_TB 64 (by decide +kernel) (by decide +kernel), by decide +kernel⟩
theorem ki_X10_sitsNow : Cond.instanceMethod yX10_sitsNow ∈ TB := in_TB 1001 (by decide +kernel) (by decide +kernel)
theorem kx_X10_sitsNow : Cond.selects RX10 yX10_sitsNow yX10_sitsNow ∈ TB := in_TB 30 (by decide +kernel) (by decide +kernel)
def M_X10_sundayThen : Md := (RX10, cX10_sundayThen, 6, some .int, 0, 0, yX10_sundayThen)
theorem kc_X10_sundayThen : Cal M_X10_sundayThen 1 := ⟨by decide +kernel, rfl, in_TB 1066 (by decide +kernel) (by decide +kernel), in_TB 64 (by decide +kernel) (by decide +kernel), by decide +kernel⟩
theorem ki_X10_sundayThen : Cond.instanceMethod yX10_sundayThen ∈ TB := in_TB 1065 (by decide +kernel) (by decide +kernel)
theorem kx_X10_sundayThen : Cond.selects RX10 yX10_sundayThen yX10_sundayThen ∈ TB := in_TB 41 (by decide +kernel) (by decide +kernel)
def M_X10_grudgesOf : Md := (RX10, cX10_grudgesOf, 5, some .int, 0, 0, yX10_grudgesOf)
theorem kc_X10_grudgesOf : Cal M_X10_grudgesOf 2 := ⟨by decide +kernel, rfl, in_TB 1010 (by decide +kernel) (by decide +kernel), in_TB 64 (by decide +kernel) (by decide +kernel), by decide +kernel⟩
theorem ki_X10_grudgesOf : Cond.instanceMethod yX10_grudgesOf ∈ TB := in_TB 1009 (by decide +kernel) (by decide +kernel)
theorem kx_X10_grudgesOf : Cond.selects RX10 yX10_grudgesOf yX10_grudgesOf ∈ TB := in_TB 32 (by decide +kernel) (by decide +kernel)
def M_X10_tellPerson : Md := (RX10, cX10_tellPerson, 3, some .int, 3, 73, yX10_tellPerson)
theorem kc_X10_tellPerson : Cal M_X10_tellPerson 2 := ⟨by decide +kernel, rfl, in_TB 994 (by decide +kernel) (by decide +kernel), in_TB 64 (by decide +kernel) (by decide +kernel), by decide +kernel⟩
theorem ki_X10_tellPerson : Cond.instanceMethod yX10_tellPerson ∈ TB := in_TB 993 (by decide +kernel) (by decide +kernel)
theorem kx_X10_tellPerson : Cond.selects RX10 yX10_tellPerson yX10_tellPerson ∈ TB := in_TB 28 (by decide +kernel) (by decide +kernel)
def M_X10_person : Md := (RX10, cX10_person, 3, some .int, 4, 95, yX10_person)
theorem kc_X10_person : Cal M_X10_person 2 := ⟨by decide +kernel, rfl, in_TB 986 (by decide +kernel) (by decide +kernel), in_TB 64 (by decide +kernel) (by decide +kernel), by decide +kernel⟩
theorem ki_X10_person : Cond.instanceMethod yX10_person ∈ TB := in_TB 984 (by decide +kernel) (by decide +kernel)
theorem kx_X10_person : Cond.selects RX10 yX10_person yX10_person ∈ TB := in_TB 985 (by decide +kernel) (by decide +kernel)
def M_X10_as : Md := (RX10, cX10_as, 4, some .int, 2, 46, yX10_as)
theorem kc_X10_as : Cal M_X10_as 2 := ⟨by decide +kernel, rfl, in_TB 1014 (by decide +kernel) (by decide +kernel), in_TB 64 (by decide +kernel) (by decide +kernel), by decide +kernel⟩
theorem ki_X10_as : Cond.instanceMethod yX10_as ∈ TB := in_TB 1012 (by decide +kernel) (by decide +kernel)
theorem kx_X10_as : Cond.selects RX10 yX10_as yX10_as ∈ TB := in_TB 1013 (by decide +kernel) (by decide +kernel)
def M_X10_tellWrong : Md := (RX10, cX10_tellWrong, 3, some .int, 5, 133, yX10_tellWrong)
theorem kc_X10_tellWrong : Cal M_X10_tellWrong 2 := ⟨by decide +kernel, rfl, in_TB 1027 (by decide +kernel) (by decide +kernel), in_TB 64 (by decide +kernel) (by decide +kernel), by decide +kernel⟩
theorem ki_X10_tellWrong : Cond.instanceMethod yX10_tellWrong ∈ TB := in_TB 1026 (by decide +kernel) (by decide +kernel)
theorem kx_X10_tellWrong : Cond.selects RX10 yX10_tellWrong yX10_tellWrong ∈ TB := in_TB 34 (by decide +kernel) (by decide +kernel)
def M_X10_wrong : Md := (RX10, cX10_wrong, 3, some .int, 6, 155, yX10_wrong)
theorem kc_X10_wrong : Cal M_X10_wrong 2 := ⟨by decide +kernel, rfl, in_TB 1019 (by decide +kernel) (by decide +kernel), in_TB 64 (by decide +kernel) (by decide +kernel), by decide +kernel⟩
theorem ki_X10_wrong : Cond.instanceMethod yX10_wrong ∈ TB := in_TB 1017 (by decide +kernel) (by decide +kernel)
theorem kx_X10_wrong : Cond.selects RX10 yX10_wrong yX10_wrong ∈ TB := in_TB 1018 (by decide +kernel) (by decide +kernel)
def M_X10_stepFrom : Md := (RX10, cX10_stepFrom, 5, some .int, 1, 24, yX10_stepFrom)
theorem kc_X10_stepFrom : Cal M_X10_stepFrom 2 := ⟨by decide +kernel, rfl, in_TB 1051 (by decide +kernel) (by decide +kernel), in_TB 64 (by decide +kernel) (by decide +kernel), by decide +kernel⟩
theorem ki_X10_stepFrom : Cond.instanceMethod yX10_stepFrom ∈ TB := in_TB 1050 (by decide +kernel) (by decide +kernel)
theorem kx_X10_stepFrom : Cond.selects RX10 yX10_stepFrom yX10_stepFrom ∈ TB := in_TB 39 (by decide +kernel) (by decide +kernel)
def M_X10_farBy : Md := (RX10, cX10_farBy, 6, some .int, 2, 48, yX10_farBy)
theorem kc_X10_farBy : Cal M_X10_farBy 3 := ⟨by decide +kernel, rfl, in_TB 1047 (by decide +kernel) (by decide +kernel), in_TB 64 (by decide +kernel) (by decide +kernel), by decide +kernel⟩
theorem ki_X10_farBy : Cond.instanceMethod yX10_farBy ∈ TB := in_TB 1046 (by decide +kernel) (by decide +kernel)
theorem kx_X10_farBy : Cond.selects RX10 yX10_farBy yX10_farBy ∈ TB := in_TB 38 (by decide +kernel) (by decide +kernel)
def M_X10_to : Md := (RX10, cX10_to, 3, some .int, 3, 73, yX10_to)
theorem kc_X10_to : Cal M_X10_to 2 := ⟨by decide +kernel, rfl, in_TB 1043 (by decide +kernel) (by decide +kernel), in_TB 64 (by decide +kernel) (by decide +kernel), by decide +kernel⟩
theorem ki_X10_to : Cond.instanceMethod yX10_to ∈ TB := in_TB 1041 (by decide +kernel) (by decide +kernel)
theorem kx_X10_to : Cond.selects RX10 yX10_to yX10_to ∈ TB := in_TB 1042 (by decide +kernel) (by decide +kernel)
def M_X10_sunday : Md := (RX10, cX10_sunday, 3, some .int, 3, 73, yX10_sunday)
theorem kc_X10_sunday : Cal M_X10_sunday 0 := ⟨by decide +kernel, rfl, in_TB 1055 (by decide +kernel) (by decide +kernel), in_TB 64 (by decide +kernel) (by decide +kernel), by decide +kernel⟩
theorem ki_X10_sunday : Cond.instanceMethod yX10_sunday ∈ TB := in_TB 1053 (by decide +kernel) (by decide +kernel)
theorem kx_X10_sunday : Cond.selects RX10 yX10_sunday yX10_sunday ∈ TB := in_TB 1054 (by decide +kernel) (by decide +kernel)
def M_X10_forgive : Md := (RX10, cX10_forgive, 2, some .int, 2, 46, yX10_forgive)
theorem kc_X10_forgive : Cal M_X10_forgive 1 := ⟨by decide +kernel, rfl, in_TB 1073 (by decide +kernel) (by decide +kernel), in_TB 64 (by decide +kernel) (by decide +kernel), by decide +kernel⟩
theorem ki_X10_forgive : Cond.instanceMethod yX10_forgive ∈ TB := in_TB 1071 (by decide +kernel) (by decide +kernel)
theorem kx_X10_forgive : Cond.selects RX10 yX10_forgive yX10_forgive ∈ TB := in_TB 1072 (by decide +kernel) (by decide +kernel)
def M_X10_again : Md := (RX10, cX10_again, 3, some .int, 2, 46, yX10_again)
theorem kc_X10_again : Cal M_X10_again 2 := ⟨by decide +kernel, rfl, in_TB 1077 (by decide +kernel) (by decide +kernel), in_TB 64 (by decide +kernel) (by decide +kernel), by decide +kernel⟩
theorem ki_X10_again : Cond.instanceMethod yX10_again ∈ TB := in_TB 1075 (by decide +kernel) (by decide +kernel)
theorem kx_X10_again : Cond.selects RX10 yX10_again yX10_again ∈ TB := in_TB 1076 (by decide +kernel) (by decide +kernel)
def M_X10_room : Md := (RX10, cX10_room, 3, some .int, 1, 25, yX10_room)
theorem kc_X10_room : Cal M_X10_room 1 := ⟨by decide +kernel, rfl, in_TB 1082 (by decide +kernel) (by decide +kernel), in_TB 64 (by decide +kernel) (by decide +kernel), by decide +kernel⟩
theorem ki_X10_room : Cond.instanceMethod yX10_room ∈ TB := in_TB 1080 (by decide +kernel) (by decide +kernel)
theorem kx_X10_room : Cond.selects RX10 yX10_room yX10_room ∈ TB := in_TB 1081 (by decide +kernel) (by decide +kernel)
def M_X10_change : Md := (RX10, cX10_change, 5, some .int, 2, 46, yX10_change)
theorem kc_X10_change : Cal M_X10_change 3 := ⟨by decide +kernel, rfl, in_TB 1087 (by decide +kernel) (by decide +kernel), in_TB 64 (by decide +kernel) (by decide +kernel), by decide +kernel⟩
theorem ki_X10_change : Cond.instanceMethod yX10_change ∈ TB := in_TB 1085 (by decide +kernel) (by decide +kernel)
theorem kx_X10_change : Cond.selects RX10 yX10_change yX10_change ∈ TB := in_TB 1086 (by decide +kernel) (by decide +kernel)
def M_X10_goSundays : Md := (RX10, cX10_goSundays, 5, none, 2, 53, yX10_goSundays)
theorem kc_X10_goSundays : Cal M_X10_goSundays 2 := ⟨by decide +kernel, rfl, in_TB 1101 (by decide +kernel) (by decide +kernel), in_TB 64 (by decide +kernel) (by decide +kernel), by decide +kernel⟩
theorem ki_X10_goSundays : Cond.instanceMethod yX10_goSundays ∈ TB := in_TB 1100 (by decide +kernel) (by decide +kernel)
theorem kx_X10_goSundays : Cond.selects RX10 yX10_goSundays yX10_goSundays ∈ TB := in_TB 43 (by decide +kernel) (by decide +kernel)
def M_X10_leaveOf : Md := (RX10, cX10_leaveOf, 8, some .int, 3, 77, yX10_leaveOf)
theorem kc_X10_leaveOf : Cal M_X10_leaveOf 2 := ⟨by decide +kernel, rfl, in_TB 1097 (by decide +kernel) (by decide +kernel), in_TB 64 (by decide +kernel) (by decide +kernel), by decide +kernel⟩
theorem ki_X10_leaveOf : Cond.instanceMethod yX10_leaveOf ∈ TB := in_TB 1096 (by decide +kernel) (by decide +kernel)
theorem kx_X10_leaveOf : Cond.selects RX10 yX10_leaveOf yX10_leaveOf ∈ TB := in_TB 42 (by decide +kernel) (by decide +kernel)
def M_X10_leave : Md := (RX10, cX10_leave, 3, some .int, 4, 104, yX10_leave)
theorem kc_X10_leave : Cal M_X10_leave 2 := ⟨by decide +kernel, rfl, in_TB 1092 (by decide +kernel) (by decide +kernel), in_TB 64 (by decide +kernel) (by decide +kernel), by decide +kernel⟩
theorem ki_X10_leave : Cond.instanceMethod yX10_leave ∈ TB := in_TB 1090 (by decide +kernel) (by decide +kernel)
theorem kx_X10_leave : Cond.selects RX10 yX10_leave yX10_leave ∈ TB := in_TB 1091 (by decide +kernel) (by decide +kernel)
def M_X10_ringBy : Md := (RX10, cX10_ringBy, 5, some .int, 3, 73, yX10_ringBy)
theorem kc_X10_ringBy : Cal M_X10_ringBy 1 := ⟨by decide +kernel, rfl, in_TB 1109 (by decide +kernel) (by decide +kernel), in_TB 64 (by decide +kernel) (by decide +kernel), by decide +kernel⟩
theorem ki_X10_ringBy : Cond.instanceMethod yX10_ringBy ∈ TB := in_TB 1108 (by decide +kernel) (by decide +kernel)
theorem kx_X10_ringBy : Cond.selects RX10 yX10_ringBy yX10_ringBy ∈ TB := in_TB 44 (by decide +kernel) (by decide +kernel)
def M_X10_ring : Md := (RX10, cX10_ring, 1, some .int, 4, 97, yX10_ring)
theorem kc_X10_ring : Cal M_X10_ring 0 := ⟨by decide +kernel, rfl, in_TB 1105 (by decide +kernel) (by decide +kernel), in_TB 64 (by decide +kernel) (by decide +kernel), by decide +kernel⟩
theorem ki_X10_ring : Cond.instanceMethod yX10_ring ∈ TB := in_TB 1103 (by decide +kernel) (by decide +kernel)
theorem kx_X10_ring : Cond.selects RX10 yX10_ring yX10_ring ∈ TB := in_TB 1104 (by decide +kernel) (by decide +kernel)
def M_X10_peaceOf : Md := (RX10, cX10_peaceOf, 5, some .int, 4, 97, yX10_peaceOf)
theorem kc_X10_peaceOf : Cal M_X10_peaceOf 1 := ⟨by decide +kernel, rfl, in_TB 1117 (by decide +kernel) (by decide +kernel), in_TB 64 (by decide +kernel) (by decide +kernel), by decide +kernel⟩
theorem ki_X10_peaceOf : Cond.instanceMethod yX10_peaceOf ∈ TB := in_TB 1116 (by decide +kernel) (by decide +kernel)
theorem kx_X10_peaceOf : Cond.selects RX10 yX10_peaceOf yX10_peaceOf ∈ TB := in_TB 45 (by decide +kernel) (by decide +kernel)
def M_X10_peace : Md := (RX10, cX10_peace, 2, some .int, 5, 121, yX10_peace)
theorem kc_X10_peace : Cal M_X10_peace 1 := ⟨by decide +kernel, rfl, in_TB 1113 (by decide +kernel) (by decide +kernel), in_TB 64 (by decide +kernel) (by decide +kernel), by decide +kernel⟩
theorem ki_X10_peace : Cond.instanceMethod yX10_peace ∈ TB := in_TB 1111 (by decide +kernel) (by decide +kernel)
theorem kx_X10_peace : Cond.selects RX10 yX10_peace yX10_peace ∈ TB := in_TB 1112 (by decide +kernel) (by decide +kernel)
def M_X10_oddsOf : Md := (RX10, cX10_oddsOf, 9, some .int, 2, 53, yX10_oddsOf)
theorem kc_X10_oddsOf : Cal M_X10_oddsOf 3 := ⟨by decide +kernel, rfl, in_TB 1126 (by decide +kernel) (by decide +kernel), in_TB 64 (by decide +kernel) (by decide +kernel), by decide +kernel⟩
theorem ki_X10_oddsOf : Cond.instanceMethod yX10_oddsOf ∈ TB := in_TB 1125 (by decide +kernel) (by decide +kernel)
theorem kx_X10_oddsOf : Cond.selects RX10 yX10_oddsOf yX10_oddsOf ∈ TB := in_TB 46 (by decide +kernel) (by decide +kernel)
def M_X10_odds : Md := (RX10, cX10_odds, 4, some .int, 3, 81, yX10_odds)
theorem kc_X10_odds : Cal M_X10_odds 3 := ⟨by decide +kernel, rfl, in_TB 1121 (by decide +kernel) (by decide +kernel), in_TB 64 (by decide +kernel) (by decide +kernel), by decide +kernel⟩
theorem ki_X10_odds : Cond.instanceMethod yX10_odds ∈ TB := in_TB 1119 (by decide +kernel) (by decide +kernel)
theorem kx_X10_odds : Cond.selects RX10 yX10_odds yX10_odds ∈ TB := in_TB 1120 (by decide +kernel) (by decide +kernel)
def M_X10_see : Md := (RX10, cX10_see, 4, some .int, 2, 46, yX10_see)
theorem kc_X10_see : Cal M_X10_see 3 := ⟨by decide +kernel, rfl, in_TB 1130 (by decide +kernel) (by decide +kernel), in_TB 64 (by decide +kernel) (by decide +kernel), by decide +kernel⟩
theorem ki_X10_see : Cond.instanceMethod yX10_see ∈ TB := in_TB 1128 (by decide +kernel) (by decide +kernel)
theorem kx_X10_see : Cond.selects RX10 yX10_see yX10_see ∈ TB := in_TB 1129 (by decide +kernel) (by decide +kernel)
def M_X10_forget : Md := (RX10, cX10_forget, 2, some .int, 0, 0, yX10_forget)
theorem kc_X10_forget : Cal M_X10_forget 0 := ⟨by decide +kernel, rfl, in_TB 1134 (by decide +kernel) (by decide +kernel), in_TB 64 (by decide +kernel) (by decide +kernel), by decide +kernel⟩
theorem ki_X10_forget : Cond.instanceMethod yX10_forget ∈ TB := in_TB 1132 (by decide +kernel) (by decide +kernel)
theorem kx_X10_forget : Cond.selects RX10 yX10_forget yX10_forget ∈ TB := in_TB 1133 (by decide +kernel) (by decide +kernel)
def M_X10_sitsIf : Md := (RX10, cX10_sitsIf, 6, some .int, 2, 53, yX10_sitsIf)
theorem kc_X10_sitsIf : Cal M_X10_sitsIf 3 := ⟨by decide +kernel, rfl, in_TB 1035 (by decide +kernel) (by decide +kernel), in_TB 64 (by decide +kernel) (by decide +kernel), by decide +kernel⟩
theorem ki_X10_sitsIf : Cond.instanceMethod yX10_sitsIf ∈ TB := in_TB 1034 (by decide +kernel) (by decide +kernel)
theorem kx_X10_sitsIf : Cond.selects RX10 yX10_sitsIf yX10_sitsIf ∈ TB := in_TB 36 (by decide +kernel) (by decide +kernel)
def M_X10_gravesOf : Md := (RX10, cX10_gravesOf, 6, some .int, 3, 78, yX10_gravesOf)
theorem kc_X10_gravesOf : Cal M_X10_gravesOf 1 := ⟨by decide +kernel, rfl, in_TB 1031 (by decide +kernel) (by decide +kernel), in_TB 64 (by decide +kernel) (by decide +kernel), by decide +kernel⟩
theorem ki_X10_gravesOf : Cond.instanceMethod yX10_gravesOf ∈ TB := in_TB 1030 (by decide +kernel) (by decide +kernel)
theorem kx_X10_gravesOf : Cond.selects RX10 yX10_gravesOf yX10_gravesOf ∈ TB := in_TB 35 (by decide +kernel) (by decide +kernel)
def M_X10_lookOf : Md := (RX10, cX10_lookOf, 11, some .int, 4, 103, yX10_lookOf)
theorem kc_X10_lookOf : Cal M_X10_lookOf 1 := ⟨by decide +kernel, rfl, in_TB 1039 (by decide +kernel) (by decide +kernel), in_TB 64 (by decide +kernel) (by decide +kernel), by decide +kernel⟩
theorem ki_X10_lookOf : Cond.instanceMethod yX10_lookOf ∈ TB := in_TB 1038 (by decide +kernel) (by decide +kernel)
theorem kx_X10_lookOf : Cond.selects RX10 yX10_lookOf yX10_lookOf ∈ TB := in_TB 37 (by decide +kernel) (by decide +kernel)
def M_X10_draw : Md := (RX10, cX10_draw, 2, some .int, 0, 0, yX10_draw)
theorem kc_X10_draw : Cal M_X10_draw 1 := ⟨by decide +kernel, rfl, in_TB 1143 (by decide +kernel) (by decide +kernel), in_TB 64 (by decide +kernel) (by decide +kernel), by decide +kernel⟩
theorem ki_X10_draw : Cond.instanceMethod yX10_draw ∈ TB := in_TB 1142 (by decide +kernel) (by decide +kernel)
theorem kx_X10_draw : Cond.selects RX10 yX10_draw yX10_draw ∈ TB := in_TB 47 (by decide +kernel) (by decide +kernel)
def M_X10_warmAll : Md := (RX10, cX10_warmAll, 4, some .int, 0, 0, yX10_warmAll)
theorem kc_X10_warmAll : Cal M_X10_warmAll 1 := ⟨by decide +kernel, rfl, in_TB 1151 (by decide +kernel) (by decide +kernel), in_TB 64 (by decide +kernel) (by decide +kernel), by decide +kernel⟩
theorem ki_X10_warmAll : Cond.instanceMethod yX10_warmAll ∈ TB := in_TB 1150 (by decide +kernel) (by decide +kernel)
theorem kx_X10_warmAll : Cond.selects RX10 yX10_warmAll yX10_warmAll ∈ TB := in_TB 48 (by decide +kernel) (by decide +kernel)
def M_X10_winters : Md := (RX10, cX10_winters, 7, some .int, 2, 53, yX10_winters)
theorem kc_X10_winters : Cal M_X10_winters 3 := ⟨by decide +kernel, rfl, in_TB 1138 (by decide +kernel) (by decide +kernel), in_TB 64 (by decide +kernel) (by decide +kernel), by decide +kernel⟩
theorem ki_X10_winters : Cond.instanceMethod yX10_winters ∈ TB := in_TB 1136 (by decide +kernel) (by decide +kernel)
theorem kx_X10_winters : Cond.selects RX10 yX10_winters yX10_winters ∈ TB := in_TB 1137 (by decide +kernel) (by decide +kernel)
def M_X10_image : Md := (RX10, cX10_image, 1, some .int, 1, 22, yX10_image)
theorem kc_X10_image : Cal M_X10_image 0 := ⟨by decide +kernel, rfl, in_TB 1155 (by decide +kernel) (by decide +kernel), in_TB 64 (by decide +kernel) (by decide +kernel), by decide +kernel⟩
theorem ki_X10_image : Cond.instanceMethod yX10_image ∈ TB := in_TB 1153 (by decide +kernel) (by decide +kernel)
theorem kx_X10_image : Cond.selects RX10 yX10_image yX10_image ∈ TB := in_TB 1154 (by decide +kernel) (by decide +kernel)
def M_X10_restore : Md := (RX10, cX10_restore, 1, some .int, 1, 22, yX10_restore)
theorem kc_X10_restore : Cal M_X10_restore 0 := ⟨by decide +kernel, rfl, in_TB 1159 (by decide +kernel) (by decide +kernel), in_TB 64 (by decide +kernel) (by decide +kernel), by decide +kernel⟩
theorem ki_X10_restore : Cond.instanceMethod yX10_restore ∈ TB := in_TB 1157 (by decide +kernel) (by decide +kernel)
theorem kx_X10_restore : Cond.selects RX10 yX10_restore yX10_restore ∈ TB := in_TB 1158 (by decide +kernel) (by decide +kernel)
def M_X10_guiltAll : Md := (RX10, cX10_guiltAll, 3, some .int, 1, 27, yX10_guiltAll)
theorem kc_X10_guiltAll : Cal M_X10_guiltAll 0 := ⟨by decide +kernel, rfl, in_TB 1171 (by decide +kernel) (by decide +kernel), in_TB 64 (by decide +kernel) (by decide +kernel), by decide +kernel⟩
theorem ki_X10_guiltAll : Cond.instanceMethod yX10_guiltAll ∈ TB := in_TB 1170 (by decide +kernel) (by decide +kernel)
theorem kx_X10_guiltAll : Cond.selects RX10 yX10_guiltAll yX10_guiltAll ∈ TB := in_TB 50 (by decide +kernel) (by decide +kernel)
def M_X10_countOf : Md := (RX10, cX10_countOf, 2, some .int, 3, 73, yX10_countOf)
theorem kc_X10_countOf : Cal M_X10_countOf 1 := ⟨by decide +kernel, rfl, in_TB 1167 (by decide +kernel) (by decide +kernel), in_TB 64 (by decide +kernel) (by decide +kernel), by decide +kernel⟩
theorem ki_X10_countOf : Cond.instanceMethod yX10_countOf ∈ TB := in_TB 1166 (by decide +kernel) (by decide +kernel)
theorem kx_X10_countOf : Cond.selects RX10 yX10_countOf yX10_countOf ∈ TB := in_TB 49 (by decide +kernel) (by decide +kernel)
def M_X10_count : Md := (RX10, cX10_count, 2, some .int, 4, 94, yX10_count)
theorem kc_X10_count : Cal M_X10_count 1 := ⟨by decide +kernel, rfl, in_TB 1163 (by decide +kernel) (by decide +kernel), in_TB 64 (by decide +kernel) (by decide +kernel), by decide +kernel⟩
theorem ki_X10_count : Cond.instanceMethod yX10_count ∈ TB := in_TB 1161 (by decide +kernel) (by decide +kernel)
theorem kx_X10_count : Cond.selects RX10 yX10_count yX10_count ∈ TB := in_TB 1162 (by decide +kernel) (by decide +kernel)
def M_X10_say : Md := (RX10, cX10_say, 3, none, 0, 0, yX10_say)
theorem kc_X10_say : Cal M_X10_say 1 := ⟨by decide +kernel, rfl, in_TB 1180 (by decide +kernel) (by decide +kernel), in_TB 64 (by decide +kernel) (by decide +kernel), by decide +kernel⟩
theorem ki_X10_say : Cond.instanceMethod yX10_say ∈ TB := in_TB 1179 (by decide +kernel) (by decide +kernel)
theorem kx_X10_say : Cond.selects RX10 yX10_say yX10_say ∈ TB := in_TB 51 (by decide +kernel) (by decide +kernel)
def M_X10_sayChapel : Md := (RX10, cX10_sayChapel, 1, none, 5, 121, yX10_sayChapel)
theorem kc_X10_sayChapel : Cal M_X10_sayChapel 0 := ⟨by decide +kernel, rfl, in_TB 1185 (by decide +kernel) (by decide +kernel), in_TB 64 (by decide +kernel) (by decide +kernel), by decide +kernel⟩
theorem ki_X10_sayChapel : Cond.instanceMethod yX10_sayChapel ∈ TB := in_TB 1184 (by decide +kernel) (by decide +kernel)
theorem kx_X10_sayChapel : Cond.selects RX10 yX10_sayChapel yX10_sayChapel ∈ TB := in_TB 52 (by decide +kernel) (by decide +kernel)
def M_X10_digest : Md := (RX10, cX10_digest, 3, some .long, 6, 155, yX10_digest)
theorem kc_X10_digest : Cal M_X10_digest 0 := ⟨by decide +kernel, rfl, in_TB 1175 (by decide +kernel) (by decide +kernel), in_TB 64 (by decide +kernel) (by decide +kernel), by decide +kernel⟩
theorem ki_X10_digest : Cond.instanceMethod yX10_digest ∈ TB := in_TB 1173 (by decide +kernel) (by decide +kernel)
theorem kx_X10_digest : Cond.selects RX10 yX10_digest yX10_digest ∈ TB := in_TB 1174 (by decide +kernel) (by decide +kernel)
def M_J11_isValidCodePoint_9a6ad : Md := (RJ11, cJ11_isValidCodePoint_9a6ad, 2, some .boolean, 0, 0, yJ11_isValidCodePoint_9a6ad)
theorem kc_J11_isValidCodePoint_9a6ad : Cal M_J11_isValidCodePoint_9a6ad 1 := ⟨by decide +kernel, rfl, in_TB 485 (by decide +kernel) (by decide +kernel), in_TB 70 (by decide +kernel) (by decide +kernel), by decide +kernel⟩
theorem ks_J11_isValidCodePoint_9a6ad : Cond.static yJ11_isValidCodePoint_9a6ad ∈ TB := in_TB 484 (by decide +kernel) (by decide +kernel)
def M_J11_highSurrogate_5068e : Md := (RJ11, cJ11_highSurrogate_5068e, 1, some .char, 0, 0, yJ11_highSurrogate_5068e)
theorem kc_J11_highSurrogate_5068e : Cal M_J11_highSurrogate_5068e 1 := ⟨by decide +kernel, rfl, in_TB 488 (by decide +kernel) (by decide +kernel), in_TB 70 (by decide +kernel) (by decide +kernel), by decide +kernel⟩
theorem ks_J11_highSurrogate_5068e : Cond.static yJ11_highSurrogate_5068e ∈ TB := in_TB 487 (by decide +kernel) (by decide +kernel)
def M_J11_lowSurrogate_5068e : Md := (RJ11, cJ11_lowSurrogate_5068e, 1, some .char, 0, 0, yJ11_lowSurrogate_5068e)
theorem kc_J11_lowSurrogate_5068e : Cal M_J11_lowSurrogate_5068e 1 := ⟨by decide +kernel, rfl, in_TB 492 (by decide +kernel) (by decide +kernel), in_TB 70 (by decide +kernel) (by decide +kernel), by decide +kernel⟩
theorem ks_J11_lowSurrogate_5068e : Cond.static yJ11_lowSurrogate_5068e ∈ TB := in_TB 491 (by decide +kernel) (by decide +kernel)
def M_J6_bitCount_0f7a4 : Md := (RJ6, cJ6_bitCount_0f7a4, 1, some .int, 0, 0, yJ6_bitCount_0f7a4)
theorem kc_J6_bitCount_0f7a4 : Cal M_J6_bitCount_0f7a4 1 := ⟨by decide +kernel, rfl, in_TB 617 (by decide +kernel) (by decide +kernel), in_TB 71 (by decide +kernel) (by decide +kernel), by decide +kernel⟩
theorem ks_J6_bitCount_0f7a4 : Cond.static yJ6_bitCount_0f7a4 ∈ TB := in_TB 616 (by decide +kernel) (by decide +kernel)
theorem kc_max : Cond.code Lib.Math.max.name Lib.Math.max.code 2 (some .int) ∈ TB := in_TB 438 (by decide +kernel) (by decide +kernel)
theorem ks_max : Cond.static Lib.Math.max.name ∈ TB := in_TB 437 (by decide +kernel) (by decide +kernel)
theorem kc_min : Cond.code Lib.Math.min.name Lib.Math.min.code 2 (some .int) ∈ TB := in_TB 441 (by decide +kernel) (by decide +kernel)
theorem ks_min : Cond.static Lib.Math.min.name ∈ TB := in_TB 440 (by decide +kernel) (by decide +kernel)
def M_J0_length_8abf5 : Md := (RJ0, cJ0_length_8abf5, 1, some .int, 1, 20, yJ0_length_8abf5)
theorem kc_J0_length_8abf5 : Cal M_J0_length_8abf5 0 := ⟨by decide +kernel, rfl, in_TB 425 (by decide +kernel) (by decide +kernel), in_TB 65 (by decide +kernel) (by decide +kernel), by decide +kernel⟩
theorem ki_J0_length_8abf5 : Cond.instanceMethod yJ0_length_8abf5 ∈ TB := in_TB 423 (by decide +kernel) (by decide +kernel)
theorem kx_J0_length_8abf5 : Cond.selects RJ0 yJ0_length_8abf5 yJ0_length_8abf5 ∈ TB := in_TB 424 (by decide +kernel) (by decide +kernel)
def M_J0_indexOf_0f7a4 : Md := (RJ0, cJ0_indexOf_0f7a4, 2, some .int, 6, 138, yJ0_indexOf_0f7a4)
theorem kc_J0_indexOf_0f7a4 : Cal M_J0_indexOf_0f7a4 1 := ⟨by decide +kernel, rfl, in_TB 411 (by decide +kernel) (by decide +kernel), in_TB 65 (by decide +kernel) (by decide +kernel), by decide +kernel⟩
theorem ki_J0_indexOf_0f7a4 : Cond.instanceMethod yJ0_indexOf_0f7a4 ∈ TB := in_TB 409 (by decide +kernel) (by decide +kernel)
theorem kx_J0_indexOf_0f7a4 : Cond.selects RJ0 yJ0_indexOf_0f7a4 yJ0_indexOf_0f7a4 ∈ TB := in_TB 410 (by decide +kernel) (by decide +kernel)
def M_J0_indexOf_7cf53 : Md := (RJ0, cJ0_indexOf_7cf53, 3, some .int, 5, 116, yJ0_indexOf_7cf53)
theorem kc_J0_indexOf_7cf53 : Cal M_J0_indexOf_7cf53 2 := ⟨by decide +kernel, rfl, in_TB 415 (by decide +kernel) (by decide +kernel), in_TB 65 (by decide +kernel) (by decide +kernel), by decide +kernel⟩
theorem ki_J0_indexOf_7cf53 : Cond.instanceMethod yJ0_indexOf_7cf53 ∈ TB := in_TB 413 (by decide +kernel) (by decide +kernel)
theorem kx_J0_indexOf_7cf53 : Cond.selects RJ0 yJ0_indexOf_7cf53 yJ0_indexOf_7cf53 ∈ TB := in_TB 414 (by decide +kernel) (by decide +kernel)
def M_J0_coder_7d493 : Md := (RJ0, cJ0_coder_7d493, 1, some .byte, 0, 0, yJ0_coder_7d493)
theorem kc_J0_coder_7d493 : Cal M_J0_coder_7d493 0 := ⟨by decide +kernel, rfl, in_TB 429 (by decide +kernel) (by decide +kernel), in_TB 65 (by decide +kernel) (by decide +kernel), by decide +kernel⟩
theorem ki_J0_coder_7d493 : Cond.instanceMethod yJ0_coder_7d493 ∈ TB := in_TB 427 (by decide +kernel) (by decide +kernel)
theorem kx_J0_coder_7d493 : Cond.selects RJ0 yJ0_coder_7d493 yJ0_coder_7d493 ∈ TB := in_TB 428 (by decide +kernel) (by decide +kernel)
def M_J0_isLatin1_aae02 : Md := (RJ0, cJ0_isLatin1_aae02, 1, some .boolean, 0, 0, yJ0_isLatin1_aae02)
theorem kc_J0_isLatin1_aae02 : Cal M_J0_isLatin1_aae02 0 := ⟨by decide +kernel, rfl, in_TB 419 (by decide +kernel) (by decide +kernel), in_TB 65 (by decide +kernel) (by decide +kernel), by decide +kernel⟩
theorem ki_J0_isLatin1_aae02 : Cond.instanceMethod yJ0_isLatin1_aae02 ∈ TB := in_TB 417 (by decide +kernel) (by decide +kernel)
theorem kx_J0_isLatin1_aae02 : Cond.selects RJ0 yJ0_isLatin1_aae02 yJ0_isLatin1_aae02 ∈ TB := in_TB 418 (by decide +kernel) (by decide +kernel)
def M_J0_checkBoundsBeginEnd_23922 : Md := (RJ0, cJ0_checkBoundsBeginEnd_23922, 3, none, 1, 23, yJ0_checkBoundsBeginEnd_23922)
theorem kc_J0_checkBoundsBeginEnd_23922 : Cal M_J0_checkBoundsBeginEnd_23922 3 := ⟨by decide +kernel, rfl, in_TB 462 (by decide +kernel) (by decide +kernel), in_TB 65 (by decide +kernel) (by decide +kernel), by decide +kernel⟩
theorem ks_J0_checkBoundsBeginEnd_23922 : Cond.static yJ0_checkBoundsBeginEnd_23922 ∈ TB := in_TB 461 (by decide +kernel) (by decide +kernel)
def M_J1_canEncode_9a6ad : Md := (RJ1, cJ1_canEncode_9a6ad, 1, some .boolean, 0, 0, yJ1_canEncode_9a6ad)
theorem kc_J1_canEncode_9a6ad : Cal M_J1_canEncode_9a6ad 1 := ⟨by decide +kernel, rfl, in_TB 435 (by decide +kernel) (by decide +kernel), in_TB 66 (by decide +kernel) (by decide +kernel), by decide +kernel⟩
theorem ks_J1_canEncode_9a6ad : Cond.static yJ1_canEncode_9a6ad ∈ TB := in_TB 434 (by decide +kernel) (by decide +kernel)
def M_J1_indexOf_4cfef : Md := (RJ1, cJ1_indexOf_4cfef, 4, some .int, 1, 25, yJ1_indexOf_4cfef)
theorem kc_J1_indexOf_4cfef : Cal M_J1_indexOf_4cfef 4 := ⟨by decide +kernel, rfl, in_TB 432 (by decide +kernel) (by decide +kernel), in_TB 66 (by decide +kernel) (by decide +kernel), by decide +kernel⟩
theorem ks_J1_indexOf_4cfef : Cond.static yJ1_indexOf_4cfef ∈ TB := in_TB 431 (by decide +kernel) (by decide +kernel)
def M_J1_indexOfChar_4cfef : Md := (RJ1, cJ1_indexOfChar_4cfef, 6, some .int, 0, 0, yJ1_indexOfChar_4cfef)
theorem kc_J1_indexOfChar_4cfef : Cal M_J1_indexOfChar_4cfef 4 := ⟨by decide +kernel, rfl, in_TB 444 (by decide +kernel) (by decide +kernel), in_TB 66 (by decide +kernel) (by decide +kernel), by decide +kernel⟩
theorem ks_J1_indexOfChar_4cfef : Cond.static yJ1_indexOfChar_4cfef ∈ TB := in_TB 443 (by decide +kernel) (by decide +kernel)
def M_J2_getChar_3b067 : Md := (RJ2, cJ2_getChar_3b067, 2, some .char, 1, 20, yJ2_getChar_3b067)
theorem kc_J2_getChar_3b067 : Cal M_J2_getChar_3b067 2 := ⟨by decide +kernel, rfl, in_TB 473 (by decide +kernel) (by decide +kernel), in_TB 68 (by decide +kernel) (by decide +kernel), by decide +kernel⟩
theorem ks_J2_getChar_3b067 : Cond.static yJ2_getChar_3b067 ∈ TB := in_TB 472 (by decide +kernel) (by decide +kernel)
def M_J2_length_9d52b : Md := (RJ2, cJ2_length_9d52b, 1, some .int, 0, 0, yJ2_length_9d52b)
theorem kc_J2_length_9d52b : Cal M_J2_length_9d52b 1 := ⟨by decide +kernel, rfl, in_TB 459 (by decide +kernel) (by decide +kernel), in_TB 68 (by decide +kernel) (by decide +kernel), by decide +kernel⟩
theorem ks_J2_length_9d52b : Cond.static yJ2_length_9d52b ∈ TB := in_TB 458 (by decide +kernel) (by decide +kernel)
def M_J2_indexOf_4cfef : Md := (RJ2, cJ2_indexOf_4cfef, 4, some .int, 4, 93, yJ2_indexOf_4cfef)
theorem kc_J2_indexOf_4cfef : Cal M_J2_indexOf_4cfef 4 := ⟨by decide +kernel, rfl, in_TB 447 (by decide +kernel) (by decide +kernel), in_TB 68 (by decide +kernel) (by decide +kernel), by decide +kernel⟩
theorem ks_J2_indexOf_4cfef : Cond.static yJ2_indexOf_4cfef ∈ TB := in_TB 446 (by decide +kernel) (by decide +kernel)
def M_J2_indexOfChar_4cfef : Md := (RJ2, cJ2_indexOfChar_4cfef, 4, some .int, 3, 67, yJ2_indexOfChar_4cfef)
theorem kc_J2_indexOfChar_4cfef : Cal M_J2_indexOfChar_4cfef 4 := ⟨by decide +kernel, rfl, in_TB 453 (by decide +kernel) (by decide +kernel), in_TB 68 (by decide +kernel) (by decide +kernel), by decide +kernel⟩
theorem ks_J2_indexOfChar_4cfef : Cond.static yJ2_indexOfChar_4cfef ∈ TB := in_TB 452 (by decide +kernel) (by decide +kernel)
def M_J2_indexOfCharUnsafe_4cfef : Md := (RJ2, cJ2_indexOfCharUnsafe_4cfef, 5, some .int, 2, 41, yJ2_indexOfCharUnsafe_4cfef)
theorem kc_J2_indexOfCharUnsafe_4cfef : Cal M_J2_indexOfCharUnsafe_4cfef 4 := ⟨by decide +kernel, rfl, in_TB 470 (by decide +kernel) (by decide +kernel), in_TB 68 (by decide +kernel) (by decide +kernel), by decide +kernel⟩
theorem ks_J2_indexOfCharUnsafe_4cfef : Cond.static yJ2_indexOfCharUnsafe_4cfef ∈ TB := in_TB 469 (by decide +kernel) (by decide +kernel)
def M_J2_indexOfSupplementary_4cfef : Md := (RJ2, cJ2_indexOfSupplementary_4cfef, 7, some .int, 3, 67, yJ2_indexOfSupplementary_4cfef)
theorem kc_J2_indexOfSupplementary_4cfef : Cal M_J2_indexOfSupplementary_4cfef 4 := ⟨by decide +kernel, rfl, in_TB 482 (by decide +kernel) (by decide +kernel), in_TB 68 (by decide +kernel) (by decide +kernel), by decide +kernel⟩
theorem ks_J2_indexOfSupplementary_4cfef : Cond.static yJ2_indexOfSupplementary_4cfef ∈ TB := in_TB 481 (by decide +kernel) (by decide +kernel)
def M_J2_checkBoundsBeginEnd_d044e : Md := (RJ2, cJ2_checkBoundsBeginEnd_d044e, 3, none, 2, 45, yJ2_checkBoundsBeginEnd_d044e)
theorem kc_J2_checkBoundsBeginEnd_d044e : Cal M_J2_checkBoundsBeginEnd_d044e 3 := ⟨by decide +kernel, rfl, in_TB 456 (by decide +kernel) (by decide +kernel), in_TB 68 (by decide +kernel) (by decide +kernel), by decide +kernel⟩
theorem ks_J2_checkBoundsBeginEnd_d044e : Cond.static yJ2_checkBoundsBeginEnd_d044e ∈ TB := in_TB 455 (by decide +kernel) (by decide +kernel)
def M_J3_checkFromToIndex_8c36e : Md := (RJ3, cJ3_checkFromToIndex_8c36e, 4, some .int, 0, 0, yJ3_checkFromToIndex_8c36e)
theorem kc_J3_checkFromToIndex_8c36e : Cal M_J3_checkFromToIndex_8c36e 4 := ⟨by decide +kernel, rfl, in_TB 467 (by decide +kernel) (by decide +kernel), in_TB 69 (by decide +kernel) (by decide +kernel), by decide +kernel⟩
theorem ks_J3_checkFromToIndex_8c36e : Cond.static yJ3_checkFromToIndex_8c36e ∈ TB := in_TB 466 (by decide +kernel) (by decide +kernel)
theorem ob_0 : 0 < 79 ∧ kd 0 = 9 ∧ 9 < 100 ∧ vwCl[9]? = some (RX9, TX9, 14) := ⟨by decide, rfl, by decide, rfl⟩
theorem f_0_0 : Fdd 0 0 9 RX9 TX9 14 2 := ⟨by decide, rfl, rfl, rfl, by decide, rfl, by decide, by decide⟩
theorem f_0_1 : Fdd 0 1 9 RX9 TX9 14 2 := ⟨by decide, rfl, rfl, rfl, by decide, rfl, by decide, by decide⟩
theorem f_0_2 : Fdd 0 2 9 RX9 TX9 14 2 := ⟨by decide, rfl, rfl, rfl, by decide, rfl, by decide, by decide⟩
theorem f_0_3 : Fdd 0 3 9 RX9 TX9 14 2 := ⟨by decide, rfl, rfl, rfl, by decide, rfl, by decide, by decide⟩
theorem f_0_4 : Fdd 0 4 9 RX9 TX9 14 2 := ⟨by decide, rfl, rfl, rfl, by decide, rfl, by decide, by decide⟩
theorem f_0_5 : Fdd 0 5 9 RX9 TX9 14 2 := ⟨by decide, rfl, rfl, rfl, by decide, rfl, by decide, by decide⟩
theorem f_0_6 : Fdd 0 6 9 RX9 TX9 14 2 := ⟨by decide, rfl, rfl, rfl, by decide, rfl, by decide, by decide⟩
theorem f_0_7 : Fdd 0 7 9 RX9 TX9 14 2 := ⟨by decide, rfl, rfl, rfl, by decide, rfl, by decide, by decide⟩
theorem f_0_8 : Fdd 0 8 9 RX9 TX9 14 2 := ⟨by decide, rfl, rfl, rfl, by decide, rfl, by decide, by decide⟩
theorem f_0_9 : Fdd 0 9 9 RX9 TX9 14 2 := ⟨by decide, rfl, rfl, rfl, by decide, rfl, by decide, by decide⟩
theorem f_0_10 : Fdd 0 10 9 RX9 TX9 14 2 := ⟨by decide, rfl, rfl, rfl, by decide, rfl, by decide, by decide⟩
theorem f_0_11 : Fdd 0 11 9 RX9 TX9 14 0 := ⟨by decide, rfl, rfl, rfl, by decide, rfl, by decide, by decide⟩
theorem f_0_12 : Fdd 0 12 9 RX9 TX9 14 0 := ⟨by decide, rfl, rfl, rfl, by decide, rfl, by decide, by decide⟩
theorem f_0_13 : Fdd 0 13 9 RX9 TX9 14 0 := ⟨by decide, rfl, rfl, rfl, by decide, rfl, by decide, by decide⟩
theorem ob_1 : 1 < 79 ∧ kd 1 = 6 ∧ 6 < 100 ∧ vwCl[6]? = some (RX6, TX6, 2) := ⟨by decide, rfl, by decide, rfl⟩
theorem f_1_0 : Fdd 1 0 6 RX6 TX6 2 2 := ⟨by decide, rfl, rfl, rfl, by decide, rfl, by decide, by decide⟩
theorem f_1_1 : Fdd 1 1 6 RX6 TX6 2 0 := ⟨by decide, rfl, rfl, rfl, by decide, rfl, by decide, by decide⟩
theorem a_2 : Ar 2 100 54 := ⟨by decide, rfl, rfl⟩
theorem ob_3 : 3 < 79 ∧ kd 3 = 7 ∧ 7 < 100 ∧ vwCl[7]? = some (RX7, TX7, 2) := ⟨by decide, rfl, by decide, rfl⟩
theorem f_3_0 : Fdd 3 0 7 RX7 TX7 2 2 := ⟨by decide, rfl, rfl, rfl, by decide, rfl, by decide, by decide⟩
theorem f_3_1 : Fdd 3 1 7 RX7 TX7 2 0 := ⟨by decide, rfl, rfl, rfl, by decide, rfl, by decide, by decide⟩
theorem ob_4 : 4 < 79 ∧ kd 4 = 2 ∧ 2 < 100 ∧ vwCl[2]? = some (RX2, TX2, 15) := ⟨by decide, rfl, by decide, rfl⟩
theorem f_4_0 : Fdd 4 0 2 RX2 TX2 15 0 := ⟨by decide, rfl, rfl, rfl, by decide, rfl, by decide, by decide⟩
theorem f_4_1 : Fdd 4 1 2 RX2 TX2 15 0 := ⟨by decide, rfl, rfl, rfl, by decide, rfl, by decide, by decide⟩
theorem f_4_2 : Fdd 4 2 2 RX2 TX2 15 0 := ⟨by decide, rfl, rfl, rfl, by decide, rfl, by decide, by decide⟩
theorem f_4_3 : Fdd 4 3 2 RX2 TX2 15 0 := ⟨by decide, rfl, rfl, rfl, by decide, rfl, by decide, by decide⟩
theorem f_4_4 : Fdd 4 4 2 RX2 TX2 15 0 := ⟨by decide, rfl, rfl, rfl, by decide, rfl, by decide, by decide⟩
theorem f_4_5 : Fdd 4 5 2 RX2 TX2 15 0 := ⟨by decide, rfl, rfl, rfl, by decide, rfl, by decide, by decide⟩
theorem f_4_6 : Fdd 4 6 2 RX2 TX2 15 2 := ⟨by decide, rfl, rfl, rfl, by decide, rfl, by decide, by decide⟩
theorem f_4_7 : Fdd 4 7 2 RX2 TX2 15 2 := ⟨by decide, rfl, rfl, rfl, by decide, rfl, by decide, by decide⟩
theorem f_4_8 : Fdd 4 8 2 RX2 TX2 15 2 := ⟨by decide, rfl, rfl, rfl, by decide, rfl, by decide, by decide⟩
theorem f_4_9 : Fdd 4 9 2 RX2 TX2 15 2 := ⟨by decide, rfl, rfl, rfl, by decide, rfl, by decide, by decide⟩
theorem f_4_10 : Fdd 4 10 2 RX2 TX2 15 2 := ⟨by decide, rfl, rfl, rfl, by decide, rfl, by decide, by decide⟩
theorem f_4_11 : Fdd 4 11 2 RX2 TX2 15 2 := ⟨by decide, rfl, rfl, rfl, by decide, rfl, by decide, by decide⟩
theorem f_4_12 : Fdd 4 12 2 RX2 TX2 15 2 := ⟨by decide, rfl, rfl, rfl, by decide, rfl, by decide, by decide⟩
theorem f_4_13 : Fdd 4 13 2 RX2 TX2 15 2 := ⟨by decide, rfl, rfl, rfl, by decide, rfl, by decide, by decide⟩
theorem f_4_14 : Fdd 4 14 2 RX2 TX2 15 2 := ⟨by decide, rfl, rfl, rfl, by decide, rfl, by decide, by decide⟩
theorem a_5 : Ar 5 100 6 := ⟨by decide, rfl, rfl⟩
theorem a_6 : Ar 6 100 6 := ⟨by decide, rfl, rfl⟩
theorem a_7 : Ar 7 100 6 := ⟨by decide, rfl, rfl⟩
theorem a_8 : Ar 8 100 8 := ⟨by decide, rfl, rfl⟩
theorem a_9 : Ar 9 100 8 := ⟨by decide, rfl, rfl⟩
theorem a_10 : Ar 10 100 8 := ⟨by decide, rfl, rfl⟩
theorem a_11 : Ar 11 100 6 := ⟨by decide, rfl, rfl⟩
theorem a_12 : Ar 12 100 6 := ⟨by decide, rfl, rfl⟩
theorem a_13 : Ar 13 101 6 := ⟨by decide, rfl, rfl⟩
theorem ob_14 : 14 < 79 ∧ kd 14 = 2 ∧ 2 < 100 ∧ vwCl[2]? = some (RX2, TX2, 15) := ⟨by decide, rfl, by decide, rfl⟩
theorem f_14_0 : Fdd 14 0 2 RX2 TX2 15 0 := ⟨by decide, rfl, rfl, rfl, by decide, rfl, by decide, by decide⟩
theorem f_14_1 : Fdd 14 1 2 RX2 TX2 15 0 := ⟨by decide, rfl, rfl, rfl, by decide, rfl, by decide, by decide⟩
theorem f_14_2 : Fdd 14 2 2 RX2 TX2 15 0 := ⟨by decide, rfl, rfl, rfl, by decide, rfl, by decide, by decide⟩
theorem f_14_3 : Fdd 14 3 2 RX2 TX2 15 0 := ⟨by decide, rfl, rfl, rfl, by decide, rfl, by decide, by decide⟩
theorem f_14_4 : Fdd 14 4 2 RX2 TX2 15 0 := ⟨by decide, rfl, rfl, rfl, by decide, rfl, by decide, by decide⟩
theorem f_14_5 : Fdd 14 5 2 RX2 TX2 15 0 := ⟨by decide, rfl, rfl, rfl, by decide, rfl, by decide, by decide⟩
theorem f_14_6 : Fdd 14 6 2 RX2 TX2 15 2 := ⟨by decide, rfl, rfl, rfl, by decide, rfl, by decide, by decide⟩
theorem f_14_7 : Fdd 14 7 2 RX2 TX2 15 2 := ⟨by decide, rfl, rfl, rfl, by decide, rfl, by decide, by decide⟩
theorem f_14_8 : Fdd 14 8 2 RX2 TX2 15 2 := ⟨by decide, rfl, rfl, rfl, by decide, rfl, by decide, by decide⟩
theorem f_14_9 : Fdd 14 9 2 RX2 TX2 15 2 := ⟨by decide, rfl, rfl, rfl, by decide, rfl, by decide, by decide⟩
theorem f_14_10 : Fdd 14 10 2 RX2 TX2 15 2 := ⟨by decide, rfl, rfl, rfl, by decide, rfl, by decide, by decide⟩
theorem f_14_11 : Fdd 14 11 2 RX2 TX2 15 2 := ⟨by decide, rfl, rfl, rfl, by decide, rfl, by decide, by decide⟩
theorem f_14_12 : Fdd 14 12 2 RX2 TX2 15 2 := ⟨by decide, rfl, rfl, rfl, by decide, rfl, by decide, by decide⟩
theorem f_14_13 : Fdd 14 13 2 RX2 TX2 15 2 := ⟨by decide, rfl, rfl, rfl, by decide, rfl, by decide, by decide⟩
theorem f_14_14 : Fdd 14 14 2 RX2 TX2 15 2 := ⟨by decide, rfl, rfl, rfl, by decide, rfl, by decide, by decide⟩
theorem a_15 : Ar 15 100 6 := ⟨by decide, rfl, rfl⟩
theorem a_16 : Ar 16 100 6 := ⟨by decide, rfl, rfl⟩
theorem a_17 : Ar 17 100 6 := ⟨by decide, rfl, rfl⟩
theorem a_18 : Ar 18 100 8 := ⟨by decide, rfl, rfl⟩
theorem a_19 : Ar 19 100 8 := ⟨by decide, rfl, rfl⟩
theorem a_20 : Ar 20 100 8 := ⟨by decide, rfl, rfl⟩
theorem a_21 : Ar 21 100 6 := ⟨by decide, rfl, rfl⟩
theorem a_22 : Ar 22 100 6 := ⟨by decide, rfl, rfl⟩
theorem a_23 : Ar 23 101 6 := ⟨by decide, rfl, rfl⟩
theorem ob_24 : 24 < 79 ∧ kd 24 = 2 ∧ 2 < 100 ∧ vwCl[2]? = some (RX2, TX2, 15) := ⟨by decide, rfl, by decide, rfl⟩
theorem f_24_0 : Fdd 24 0 2 RX2 TX2 15 0 := ⟨by decide, rfl, rfl, rfl, by decide, rfl, by decide, by decide⟩
theorem f_24_1 : Fdd 24 1 2 RX2 TX2 15 0 := ⟨by decide, rfl, rfl, rfl, by decide, rfl, by decide, by decide⟩
theorem f_24_2 : Fdd 24 2 2 RX2 TX2 15 0 := ⟨by decide, rfl, rfl, rfl, by decide, rfl, by decide, by decide⟩
theorem f_24_3 : Fdd 24 3 2 RX2 TX2 15 0 := ⟨by decide, rfl, rfl, rfl, by decide, rfl, by decide, by decide⟩
theorem f_24_4 : Fdd 24 4 2 RX2 TX2 15 0 := ⟨by decide, rfl, rfl, rfl, by decide, rfl, by decide, by decide⟩
theorem f_24_5 : Fdd 24 5 2 RX2 TX2 15 0 := ⟨by decide, rfl, rfl, rfl, by decide, rfl, by decide, by decide⟩
theorem f_24_6 : Fdd 24 6 2 RX2 TX2 15 2 := ⟨by decide, rfl, rfl, rfl, by decide, rfl, by decide, by decide⟩
theorem f_24_7 : Fdd 24 7 2 RX2 TX2 15 2 := ⟨by decide, rfl, rfl, rfl, by decide, rfl, by decide, by decide⟩
theorem f_24_8 : Fdd 24 8 2 RX2 TX2 15 2 := ⟨by decide, rfl, rfl, rfl, by decide, rfl, by decide, by decide⟩
theorem f_24_9 : Fdd 24 9 2 RX2 TX2 15 2 := ⟨by decide, rfl, rfl, rfl, by decide, rfl, by decide, by decide⟩
theorem f_24_10 : Fdd 24 10 2 RX2 TX2 15 2 := ⟨by decide, rfl, rfl, rfl, by decide, rfl, by decide, by decide⟩
theorem f_24_11 : Fdd 24 11 2 RX2 TX2 15 2 := ⟨by decide, rfl, rfl, rfl, by decide, rfl, by decide, by decide⟩
theorem f_24_12 : Fdd 24 12 2 RX2 TX2 15 2 := ⟨by decide, rfl, rfl, rfl, by decide, rfl, by decide, by decide⟩
theorem f_24_13 : Fdd 24 13 2 RX2 TX2 15 2 := ⟨by decide, rfl, rfl, rfl, by decide, rfl, by decide, by decide⟩
theorem f_24_14 : Fdd 24 14 2 RX2 TX2 15 2 := ⟨by decide, rfl, rfl, rfl, by decide, rfl, by decide, by decide⟩
theorem a_25 : Ar 25 100 6 := ⟨by decide, rfl, rfl⟩
theorem a_26 : Ar 26 100 6 := ⟨by decide, rfl, rfl⟩
theorem a_27 : Ar 27 100 6 := ⟨by decide, rfl, rfl⟩
theorem a_28 : Ar 28 100 8 := ⟨by decide, rfl, rfl⟩
theorem a_29 : Ar 29 100 8 := ⟨by decide, rfl, rfl⟩
theorem a_30 : Ar 30 100 8 := ⟨by decide, rfl, rfl⟩
theorem a_31 : Ar 31 100 6 := ⟨by decide, rfl, rfl⟩
theorem a_32 : Ar 32 100 6 := ⟨by decide, rfl, rfl⟩
theorem a_33 : Ar 33 101 6 := ⟨by decide, rfl, rfl⟩
theorem ob_34 : 34 < 79 ∧ kd 34 = 2 ∧ 2 < 100 ∧ vwCl[2]? = some (RX2, TX2, 15) := ⟨by decide, rfl, by decide, rfl⟩
theorem f_34_0 : Fdd 34 0 2 RX2 TX2 15 0 := ⟨by decide, rfl, rfl, rfl, by decide, rfl, by decide, by decide⟩
theorem f_34_1 : Fdd 34 1 2 RX2 TX2 15 0 := ⟨by decide, rfl, rfl, rfl, by decide, rfl, by decide, by decide⟩
theorem f_34_2 : Fdd 34 2 2 RX2 TX2 15 0 := ⟨by decide, rfl, rfl, rfl, by decide, rfl, by decide, by decide⟩
theorem f_34_3 : Fdd 34 3 2 RX2 TX2 15 0 := ⟨by decide, rfl, rfl, rfl, by decide, rfl, by decide, by decide⟩
theorem f_34_4 : Fdd 34 4 2 RX2 TX2 15 0 := ⟨by decide, rfl, rfl, rfl, by decide, rfl, by decide, by decide⟩
theorem f_34_5 : Fdd 34 5 2 RX2 TX2 15 0 := ⟨by decide, rfl, rfl, rfl, by decide, rfl, by decide, by decide⟩
theorem f_34_6 : Fdd 34 6 2 RX2 TX2 15 2 := ⟨by decide, rfl, rfl, rfl, by decide, rfl, by decide, by decide⟩
theorem f_34_7 : Fdd 34 7 2 RX2 TX2 15 2 := ⟨by decide, rfl, rfl, rfl, by decide, rfl, by decide, by decide⟩
theorem f_34_8 : Fdd 34 8 2 RX2 TX2 15 2 := ⟨by decide, rfl, rfl, rfl, by decide, rfl, by decide, by decide⟩
theorem f_34_9 : Fdd 34 9 2 RX2 TX2 15 2 := ⟨by decide, rfl, rfl, rfl, by decide, rfl, by decide, by decide⟩
theorem f_34_10 : Fdd 34 10 2 RX2 TX2 15 2 := ⟨by decide, rfl, rfl, rfl, by decide, rfl, by decide, by decide⟩
theorem f_34_11 : Fdd 34 11 2 RX2 TX2 15 2 := ⟨by decide, rfl, rfl, rfl, by decide, rfl, by decide, by decide⟩
theorem f_34_12 : Fdd 34 12 2 RX2 TX2 15 2 := ⟨by decide, rfl, rfl, rfl, by decide, rfl, by decide, by decide⟩
theorem f_34_13 : Fdd 34 13 2 RX2 TX2 15 2 := ⟨by decide, rfl, rfl, rfl, by decide, rfl, by decide, by decide⟩
theorem f_34_14 : Fdd 34 14 2 RX2 TX2 15 2 := ⟨by decide, rfl, rfl, rfl, by decide, rfl, by decide, by decide⟩
theorem a_35 : Ar 35 100 6 := ⟨by decide, rfl, rfl⟩
theorem a_36 : Ar 36 100 6 := ⟨by decide, rfl, rfl⟩
theorem a_37 : Ar 37 100 6 := ⟨by decide, rfl, rfl⟩
theorem a_38 : Ar 38 100 8 := ⟨by decide, rfl, rfl⟩
theorem a_39 : Ar 39 100 8 := ⟨by decide, rfl, rfl⟩
theorem a_40 : Ar 40 100 8 := ⟨by decide, rfl, rfl⟩
theorem a_41 : Ar 41 100 6 := ⟨by decide, rfl, rfl⟩
theorem a_42 : Ar 42 100 6 := ⟨by decide, rfl, rfl⟩
theorem a_43 : Ar 43 101 6 := ⟨by decide, rfl, rfl⟩
theorem ob_44 : 44 < 79 ∧ kd 44 = 0 ∧ 0 < 100 ∧ vwCl[0]? = some (RX0, TX0, 3) := ⟨by decide, rfl, by decide, rfl⟩
theorem f_44_0 : Fdd 44 0 0 RX0 TX0 3 2 := ⟨by decide, rfl, rfl, rfl, by decide, rfl, by decide, by decide⟩
theorem f_44_1 : Fdd 44 1 0 RX0 TX0 3 2 := ⟨by decide, rfl, rfl, rfl, by decide, rfl, by decide, by decide⟩
theorem f_44_2 : Fdd 44 2 0 RX0 TX0 3 0 := ⟨by decide, rfl, rfl, rfl, by decide, rfl, by decide, by decide⟩
theorem a_45 : Ar 45 100 6 := ⟨by decide, rfl, rfl⟩
theorem a_46 : Ar 46 100 6 := ⟨by decide, rfl, rfl⟩
theorem ob_47 : 47 < 79 ∧ kd 47 = 4 ∧ 4 < 100 ∧ vwCl[4]? = some (RX4, TX4, 2) := ⟨by decide, rfl, by decide, rfl⟩
theorem f_47_0 : Fdd 47 0 4 RX4 TX4 2 2 := ⟨by decide, rfl, rfl, rfl, by decide, rfl, by decide, by decide⟩
theorem f_47_1 : Fdd 47 1 4 RX4 TX4 2 0 := ⟨by decide, rfl, rfl, rfl, by decide, rfl, by decide, by decide⟩
theorem a_48 : Ar 48 100 6 := ⟨by decide, rfl, rfl⟩
theorem ob_49 : 49 < 79 ∧ kd 49 = 5 ∧ 5 < 100 ∧ vwCl[5]? = some (RX5, TX5, 5) := ⟨by decide, rfl, by decide, rfl⟩
theorem f_49_0 : Fdd 49 0 5 RX5 TX5 5 2 := ⟨by decide, rfl, rfl, rfl, by decide, rfl, by decide, by decide⟩
theorem f_49_1 : Fdd 49 1 5 RX5 TX5 5 2 := ⟨by decide, rfl, rfl, rfl, by decide, rfl, by decide, by decide⟩
theorem f_49_2 : Fdd 49 2 5 RX5 TX5 5 0 := ⟨by decide, rfl, rfl, rfl, by decide, rfl, by decide, by decide⟩
theorem f_49_3 : Fdd 49 3 5 RX5 TX5 5 0 := ⟨by decide, rfl, rfl, rfl, by decide, rfl, by decide, by decide⟩
theorem f_49_4 : Fdd 49 4 5 RX5 TX5 5 0 := ⟨by decide, rfl, rfl, rfl, by decide, rfl, by decide, by decide⟩
theorem a_50 : Ar 50 102 2 := ⟨by decide, rfl, rfl⟩
theorem a_51 : Ar 51 100 6 := ⟨by decide, rfl, rfl⟩
theorem a_52 : Ar 52 100 6 := ⟨by decide, rfl, rfl⟩
theorem a_53 : Ar 53 102 2 := ⟨by decide, rfl, rfl⟩
theorem a_54 : Ar 54 100 6 := ⟨by decide, rfl, rfl⟩
theorem a_55 : Ar 55 100 6 := ⟨by decide, rfl, rfl⟩
theorem ob_56 : 56 < 79 ∧ kd 56 = 1 ∧ 1 < 100 ∧ vwCl[1]? = some (RX1, TX1, 4) := ⟨by decide, rfl, by decide, rfl⟩
theorem f_56_0 : Fdd 56 0 1 RX1 TX1 4 2 := ⟨by decide, rfl, rfl, rfl, by decide, rfl, by decide, by decide⟩
theorem f_56_1 : Fdd 56 1 1 RX1 TX1 4 2 := ⟨by decide, rfl, rfl, rfl, by decide, rfl, by decide, by decide⟩
theorem f_56_2 : Fdd 56 2 1 RX1 TX1 4 2 := ⟨by decide, rfl, rfl, rfl, by decide, rfl, by decide, by decide⟩
theorem f_56_3 : Fdd 56 3 1 RX1 TX1 4 0 := ⟨by decide, rfl, rfl, rfl, by decide, rfl, by decide, by decide⟩
theorem a_57 : Ar 57 100 6 := ⟨by decide, rfl, rfl⟩
theorem a_58 : Ar 58 100 9 := ⟨by decide, rfl, rfl⟩
theorem a_59 : Ar 59 100 9 := ⟨by decide, rfl, rfl⟩
theorem ob_60 : 60 < 79 ∧ kd 60 = 3 ∧ 3 < 100 ∧ vwCl[3]? = some (RX3, TX3, 2) := ⟨by decide, rfl, by decide, rfl⟩
theorem f_60_0 : Fdd 60 0 3 RX3 TX3 2 2 := ⟨by decide, rfl, rfl, rfl, by decide, rfl, by decide, by decide⟩
theorem f_60_1 : Fdd 60 1 3 RX3 TX3 2 0 := ⟨by decide, rfl, rfl, rfl, by decide, rfl, by decide, by decide⟩
theorem a_61 : Ar 61 100 10 := ⟨by decide, rfl, rfl⟩
theorem ob_62 : 62 < 79 ∧ kd 62 = 8 ∧ 8 < 100 ∧ vwCl[8]? = some (RX8, TX8, 2) := ⟨by decide, rfl, by decide, rfl⟩
theorem f_62_0 : Fdd 62 0 8 RX8 TX8 2 0 := ⟨by decide, rfl, rfl, rfl, by decide, rfl, by decide, by decide⟩
theorem f_62_1 : Fdd 62 1 8 RX8 TX8 2 0 := ⟨by decide, rfl, rfl, rfl, by decide, rfl, by decide, by decide⟩
theorem ob_63 : 63 < 79 ∧ kd 63 = 10 ∧ 10 < 100 ∧ vwCl[10]? = some (RX10, TX10, 34) := ⟨by decide, rfl, by decide, rfl⟩
theorem f_63_0 : Fdd 63 0 10 RX10 TX10 34 2 := ⟨by decide, rfl, rfl, rfl, by decide, rfl, by decide, by decide⟩
theorem f_63_1 : Fdd 63 1 10 RX10 TX10 34 0 := ⟨by decide, rfl, rfl, rfl, by decide, rfl, by decide, by decide⟩
theorem f_63_2 : Fdd 63 2 10 RX10 TX10 34 0 := ⟨by decide, rfl, rfl, rfl, by decide, rfl, by decide, by decide⟩
theorem f_63_3 : Fdd 63 3 10 RX10 TX10 34 0 := ⟨by decide, rfl, rfl, rfl, by decide, rfl, by decide, by decide⟩
theorem f_63_4 : Fdd 63 4 10 RX10 TX10 34 0 := ⟨by decide, rfl, rfl, rfl, by decide, rfl, by decide, by decide⟩
theorem f_63_5 : Fdd 63 5 10 RX10 TX10 34 0 := ⟨by decide, rfl, rfl, rfl, by decide, rfl, by decide, by decide⟩
theorem f_63_6 : Fdd 63 6 10 RX10 TX10 34 0 := ⟨by decide, rfl, rfl, rfl, by decide, rfl, by decide, by decide⟩
theorem f_63_7 : Fdd 63 7 10 RX10 TX10 34 0 := ⟨by decide, rfl, rfl, rfl, by decide, rfl, by decide, by decide⟩
theorem f_63_8 : Fdd 63 8 10 RX10 TX10 34 0 := ⟨by decide, rfl, rfl, rfl, by decide, rfl, by decide, by decide⟩
theorem f_63_9 : Fdd 63 9 10 RX10 TX10 34 2 := ⟨by decide, rfl, rfl, rfl, by decide, rfl, by decide, by decide⟩
theorem f_63_10 : Fdd 63 10 10 RX10 TX10 34 2 := ⟨by decide, rfl, rfl, rfl, by decide, rfl, by decide, by decide⟩
theorem f_63_11 : Fdd 63 11 10 RX10 TX10 34 2 := ⟨by decide, rfl, rfl, rfl, by decide, rfl, by decide, by decide⟩
theorem f_63_12 : Fdd 63 12 10 RX10 TX10 34 2 := ⟨by decide, rfl, rfl, rfl, by decide, rfl, by decide, by decide⟩
theorem f_63_13 : Fdd 63 13 10 RX10 TX10 34 2 := ⟨by decide, rfl, rfl, rfl, by decide, rfl, by decide, by decide⟩
theorem f_63_14 : Fdd 63 14 10 RX10 TX10 34 2 := ⟨by decide, rfl, rfl, rfl, by decide, rfl, by decide, by decide⟩
theorem f_63_15 : Fdd 63 15 10 RX10 TX10 34 2 := ⟨by decide, rfl, rfl, rfl, by decide, rfl, by decide, by decide⟩
theorem f_63_16 : Fdd 63 16 10 RX10 TX10 34 2 := ⟨by decide, rfl, rfl, rfl, by decide, rfl, by decide, by decide⟩
theorem f_63_17 : Fdd 63 17 10 RX10 TX10 34 0 := ⟨by decide, rfl, rfl, rfl, by decide, rfl, by decide, by decide⟩
theorem f_63_18 : Fdd 63 18 10 RX10 TX10 34 0 := ⟨by decide, rfl, rfl, rfl, by decide, rfl, by decide, by decide⟩
theorem f_63_19 : Fdd 63 19 10 RX10 TX10 34 0 := ⟨by decide, rfl, rfl, rfl, by decide, rfl, by decide, by decide⟩
theorem f_63_20 : Fdd 63 20 10 RX10 TX10 34 0 := ⟨by decide, rfl, rfl, rfl, by decide, rfl, by decide, by decide⟩
theorem f_63_21 : Fdd 63 21 10 RX10 TX10 34 2 := ⟨by decide, rfl, rfl, rfl, by decide, rfl, by decide, by decide⟩
theorem f_63_22 : Fdd 63 22 10 RX10 TX10 34 0 := ⟨by decide, rfl, rfl, rfl, by decide, rfl, by decide, by decide⟩
theorem f_63_23 : Fdd 63 23 10 RX10 TX10 34 0 := ⟨by decide, rfl, rfl, rfl, by decide, rfl, by decide, by decide⟩
theorem f_63_24 : Fdd 63 24 10 RX10 TX10 34 0 := ⟨by decide, rfl, rfl, rfl, by decide, rfl, by decide, by decide⟩
theorem f_63_25 : Fdd 63 25 10 RX10 TX10 34 0 := ⟨by decide, rfl, rfl, rfl, by decide, rfl, by decide, by decide⟩
theorem f_63_26 : Fdd 63 26 10 RX10 TX10 34 0 := ⟨by decide, rfl, rfl, rfl, by decide, rfl, by decide, by decide⟩
theorem f_63_27 : Fdd 63 27 10 RX10 TX10 34 0 := ⟨by decide, rfl, rfl, rfl, by decide, rfl, by decide, by decide⟩
theorem f_63_28 : Fdd 63 28 10 RX10 TX10 34 2 := ⟨by decide, rfl, rfl, rfl, by decide, rfl, by decide, by decide⟩
theorem f_63_29 : Fdd 63 29 10 RX10 TX10 34 2 := ⟨by decide, rfl, rfl, rfl, by decide, rfl, by decide, by decide⟩
theorem f_63_30 : Fdd 63 30 10 RX10 TX10 34 2 := ⟨by decide, rfl, rfl, rfl, by decide, rfl, by decide, by decide⟩
theorem f_63_31 : Fdd 63 31 10 RX10 TX10 34 2 := ⟨by decide, rfl, rfl, rfl, by decide, rfl, by decide, by decide⟩
theorem f_63_32 : Fdd 63 32 10 RX10 TX10 34 2 := ⟨by decide, rfl, rfl, rfl, by decide, rfl, by decide, by decide⟩
theorem f_63_33 : Fdd 63 33 10 RX10 TX10 34 1 := ⟨by decide, rfl, rfl, rfl, by decide, rfl, by decide, by decide⟩
theorem a_64 : Ar 64 100 54 := ⟨by decide, rfl, rfl⟩
theorem a_65 : Ar 65 100 6 := ⟨by decide, rfl, rfl⟩
theorem a_66 : Ar 66 100 6 := ⟨by decide, rfl, rfl⟩
theorem a_67 : Ar 67 100 6 := ⟨by decide, rfl, rfl⟩
theorem a_68 : Ar 68 100 8 := ⟨by decide, rfl, rfl⟩
theorem a_69 : Ar 69 100 8 := ⟨by decide, rfl, rfl⟩
theorem a_70 : Ar 70 100 8 := ⟨by decide, rfl, rfl⟩
theorem a_71 : Ar 71 100 6 := ⟨by decide, rfl, rfl⟩
theorem a_72 : Ar 72 100 6 := ⟨by decide, rfl, rfl⟩
theorem a_73 : Ar 73 100 18 := ⟨by decide, rfl, rfl⟩
theorem a_74 : Ar 74 100 6 := ⟨by decide, rfl, rfl⟩
theorem a_75 : Ar 75 100 6 := ⟨by decide, rfl, rfl⟩
theorem a_76 : Ar 76 100 6 := ⟨by decide, rfl, rfl⟩
theorem a_77 : Ar 77 100 8 := ⟨by decide, rfl, rfl⟩
theorem a_78 : Ar 78 100 18 := ⟨by decide, rfl, rfl⟩
end
section
/-! rows over the fixed heap: fields, arrays, calls, returns -/
section MR
variable {p : Program} {e : Env} {R : Room} {s : State} {m : MethodId} {args : Array Value} {below : List Frame} {meth : Method} {c : Code} {H : Heap} {locs : List Loc} {cells slots : Nat} {Z : State → Prop}
variable {E : EE} {M : Md} {σ : Mm} {pc : Nat} {ls : Array Slot} {rest : List Value} {lv : List (Nat × Value)}
theorem inT {ci : Nat} {C : String} {T : u_T} {N : Nat} (h : vwCl[ci]? = some (C, T, N)) : ∀ w ∈ u_ws C T N, w ∈ TB := by
  have key : ∀ q ∈ vwCl, ∀ w ∈ u_ws q.1 q.2.1 q.2.2, w ∈ TB := kW_all
  exact key (C, T, N) (List.mem_of_getElem? h)
theorem m_geti (C0 : Cx E M p R s m args c cells slots) (hH : Hd E σ s H locs) {k j ci N idx : Nat} {C : String} {T : u_T} (hf : Fdd k j ci C T N 0) (hw : Cond.fieldLink (mOwn M) idx (T j).1 (T j).2.1 (T j).2.2.1 ∈ TB) (hd : decode (mCode M) pc = .ok (.getfield idx, 3)) {x : Int32} (hv : σ k j = x)
    (kk : W p (eL E) e R s m args below meth c H locs cells slots Z (F0 m (pc + 3) ls (.int x :: rest))) : W p (eL E) e R s m args below meth c H locs cells slots Z (F0 m pc ls (.ref (Ad E k) :: rest)) := by
  obtain ⟨h1, h2, h3, h4, h5, h6, h7, h8⟩ := hf
  subst h2
  obtain ⟨hx, hb, hml, hown, hts, hF, -⟩ := C0
  refine va_get (ref := (T j).1) hx hb hts (inT h3) hown hF.1 hH.1 k (by rw [wl_at h1, ce_obj rfl h7]) h3 j h5 (hts _ hw) (fun _ h9 => h9) (v := .int x) (by rw [fo_at (by omega), fv_i h6, hv]) hd kk
theorem m_getl (C0 : Cx E M p R s m args c cells slots) (hH : Hd E σ s H locs) {k j ci N idx : Nat} {C : String} {T : u_T} (hf : Fdd k j ci C T N 1) (hw : Cond.fieldLink (mOwn M) idx (T j).1 (T j).2.1 (T j).2.2.1 ∈ TB) (hd : decode (mCode M) pc = .ok (.getfield idx, 3)) {x : Int64} (hv : jn (σ k j) (σ k (j + 1000)) = x)
    (kk : W p (eL E) e R s m args below meth c H locs cells slots Z (F0 m (pc + 3) ls (.long x :: rest))) : W p (eL E) e R s m args below meth c H locs cells slots Z (F0 m pc ls (.ref (Ad E k) :: rest)) := by
  obtain ⟨h1, h2, h3, h4, h5, h6, h7, h8⟩ := hf
  subst h2
  obtain ⟨hx, hb, hml, hown, hts, hF, -⟩ := C0
  refine va_get (ref := (T j).1) hx hb hts (inT h3) hown hF.1 hH.1 k (by rw [wl_at h1, ce_obj rfl h7]) h3 j h5 (hts _ hw) (fun _ h9 => h9) (v := .long x) (by rw [fo_at (by omega), fv_l h6, hv]) hd kk
theorem m_getr (C0 : Cx E M p R s m args c cells slots) (hH : Hd E σ s H locs) {k j ci N idx : Nat} {C : String} {T : u_T} (hf : Fdd k j ci C T N 2) (r : Nat) (hr : rf k j = r) (hw : Cond.fieldLink (mOwn M) idx (T j).1 (T j).2.1 (T j).2.2.1 ∈ TB) (hd : decode (mCode M) pc = .ok (.getfield idx, 3))
    (kk : W p (eL E) e R s m args below meth c H locs cells slots Z (F0 m (pc + 3) ls (.ref (Ad E r) :: rest))) : W p (eL E) e R s m args below meth c H locs cells slots Z (F0 m pc ls (.ref (Ad E k) :: rest)) := by
  obtain ⟨h1, h2, h3, h4, h5, h6, h7, h8⟩ := hf
  subst h2
  subst hr
  obtain ⟨hx, hb, hml, hown, hts, hF, -⟩ := C0
  refine va_get (ref := (T j).1) hx hb hts (inT h3) hown hF.1 hH.1 k (by rw [wl_at h1, ce_obj rfl h7]) h3 j h5 (hts _ hw) (fun _ h9 => h9) (v := .ref (Ad E (rf k j))) (by rw [fo_at (by omega), fv_r h6]) hd kk
/-- the types of a class's fields, and that their names differ -/
def tyCl (ci : Nat) : Nat → FieldType := match ci with
  | 0 => tyX0 | 1 => tyX1 | 2 => tyX2 | 3 => tyX3 | 4 => tyX4 | 5 => tyX5 | 6 => tyX6 | 7 => tyX7 | 8 => tyX8 | 9 => tyX9 | _ => tyX10
theorem tyCl_ok {ci : Nat} {C : String} {T : u_T} {N : Nat} (h : vwCl[ci]? = some (C, T, N)) : (∀ k, k < N → parseFieldDescriptor (T k).2.2.1 = some (tyCl ci k)) ∧ (∀ a, a < N → ∀ b, b < N → a ≠ b → (T a).2.1 ≠ (T b).2.1) := by
  match ci, h with
  | 0, h => cases h; exact ⟨tyX0_ok, nmX0⟩
  | 1, h => cases h; exact ⟨tyX1_ok, nmX1⟩
  | 2, h => cases h; exact ⟨tyX2_ok, nmX2⟩
  | 3, h => cases h; exact ⟨tyX3_ok, nmX3⟩
  | 4, h => cases h; exact ⟨tyX4_ok, nmX4⟩
  | 5, h => cases h; exact ⟨tyX5_ok, nmX5⟩
  | 6, h => cases h; exact ⟨tyX6_ok, nmX6⟩
  | 7, h => cases h; exact ⟨tyX7_ok, nmX7⟩
  | 8, h => cases h; exact ⟨tyX8_ok, nmX8⟩
  | 9, h => cases h; exact ⟨tyX9_ok, nmX9⟩
  | 10, h => cases h; exact ⟨tyX10_ok, nmX10⟩
  | ci + 11, h => simp [vwCl] at h
theorem m_put {v : Value} {τ : Mm} (C0 : Cx E M p R s m args c cells slots) (hH : Hd E σ s H locs) {k j ci N idx t : Nat} {C : String} {T : u_T} (hf : Fdd k j ci C T N t) (hw : Cond.fieldLink (mOwn M) idx (T j).1 (T j).2.1 (T j).2.2.1 ∈ TB) (hnf : (T j).2.2.2 = false) (hd : decode (mCode M) pc = .ok (.putfield idx, 3)) (hn : narrow (tyCl ci j) v = v) (hfit : fits (tyCl ci j) v = true)
    (hτ : ∀ a, a ≠ k → τ a = σ a) (hset : (fo E k (σ k)).set j v = fo E k (τ k))
    (kk : ∀ (H : Heap) (locs : List Loc), Hd E τ s H locs → W p (eL E) e R s m args below meth c H locs cells slots Z (F0 m (pc + 3) ls rest)) : W p (eL E) e R s m args below meth c H locs cells slots Z (F0 m pc ls (v :: .ref (Ad E k) :: rest)) := by
  obtain ⟨h1, h2, h3, h4, h5, h6, h7, h8⟩ := hf
  subst h2
  obtain ⟨hx, hb, hml, hown, hts, hF, -⟩ := C0
  obtain ⟨t1, t2⟩ := tyCl_ok h3
  refine va_put (ref := (T j).1) hx hb hts (inT h3) (tyCl (kd k)) t1 t2 hown hF.1 hH.1 (wl_D hF.2.2.2.2.2) hH.2 k (by rw [wl_at h1, ce_obj rfl h7]) h3 j h5 (hts _ hw) (fun _ h9 => h9) hnf (t1 j h5) hn hfit (by rw [fo_len]; omega) hd (fun H locs hP hD hS => ?_)
  rw [hset, ← ce_obj (E := E) (k := k) (f := τ k) rfl h7, wl_set h1 hτ] at hP
  exact kk H locs ⟨hP, hS⟩
theorem m_puti (C0 : Cx E M p R s m args c cells slots) (hH : Hd E σ s H locs) {k j ci N idx : Nat} {C : String} {T : u_T} {x : Int32} (hf : Fdd k j ci C T N 0) (hw : Cond.fieldLink (mOwn M) idx (T j).1 (T j).2.1 (T j).2.2.1 ∈ TB) (hnf : (T j).2.2.2 = false) (hd : decode (mCode M) pc = .ok (.putfield idx, 3)) (hn : narrow (tyCl ci j) (.int x) = .int x) (hfit : fits (tyCl ci j) (.int x) = true)
    (kk : ∀ (H : Heap) (locs : List Loc), Hd E (up σ k j x) s H locs → W p (eL E) e R s m args below meth c H locs cells slots Z (F0 m (pc + 3) ls rest)) : W p (eL E) e R s m args below meth c H locs cells slots Z (F0 m pc ls (.int x :: .ref (Ad E k) :: rest)) := by
  have hf' := hf
  obtain ⟨h1, h2, h3, h4, h5, h6, h7, h8⟩ := hf
  subst h2
  refine m_put (τ := up σ k j x) C0 hH hf' hw hnf hd hn hfit (fun a h => up_ne h) ?_ kk
  rw [up_eq]
  refine fo_set (by omega) (by rw [fv_i h6, upd_eq]) (fun i hi hne => fv_ne (upd_ne hne) (upd_ne (by omega)))
theorem m_putl (C0 : Cx E M p R s m args c cells slots) (hH : Hd E σ s H locs) {k j ci N idx : Nat} {C : String} {T : u_T} {x : Int64} (hf : Fdd k j ci C T N 1) (hw : Cond.fieldLink (mOwn M) idx (T j).1 (T j).2.1 (T j).2.2.1 ∈ TB) (hnf : (T j).2.2.2 = false) (hd : decode (mCode M) pc = .ok (.putfield idx, 3)) (hn : narrow (tyCl ci j) (.long x) = .long x) (hfit : fits (tyCl ci j) (.long x) = true)
    (kk : ∀ (H : Heap) (locs : List Loc), Hd E (up (up σ k j (jlo x)) k (j + 1000) (jhi x)) s H locs → W p (eL E) e R s m args below meth c H locs cells slots Z (F0 m (pc + 3) ls rest)) : W p (eL E) e R s m args below meth c H locs cells slots Z (F0 m pc ls (.long x :: .ref (Ad E k) :: rest)) := by
  have hf' := hf
  obtain ⟨h1, h2, h3, h4, h5, h6, h7, h8⟩ := hf
  subst h2
  refine m_put (τ := up (up σ k j (jlo x)) k (j + 1000) (jhi x)) C0 hH hf' hw hnf hd hn hfit (fun a h => by rw [up_ne h, up_ne h]) ?_ kk
  rw [up_eq, up_eq]
  refine fo_set (by omega) (by rw [fv_l h6, upd_eq, upd_ne (by omega), upd_eq, jn_eq]) (fun i hi hne => fv_ne (by rw [upd_ne (by omega), upd_ne hne]) (by rw [upd_ne (by omega), upd_ne (by omega)]))
theorem ce_i {k n : Nat} {f : Nat → Int32} (h : Ar k 100 n) : ce E k f = .inl (cI E, n, .inl f) := by
  obtain ⟨h1, h2, h3⟩ := h
  unfold ce
  rw [if_pos h2, h3]
theorem ce_z {k n : Nat} {f : Nat → Int32} (h : Ar k 101 n) : ce E k f = .inl (cZ E, n, .inl f) := by
  obtain ⟨h1, h2, h3⟩ := h
  unfold ce
  rw [if_neg (by omega), if_pos h2, h3]
theorem ce_r {k n : Nat} {f : Nat → Int32} (h : Ar k 102 n) : ce E k f = .inl (cII E, n, .inr (.inr (.inr (.inr (fun i => if i < n then some (Ad E (rf k i)) else none))))) := by
  obtain ⟨h1, h2, h3⟩ := h
  subst h3
  unfold ce
  rw [if_neg (by omega), if_neg (by omega), if_pos h2]
theorem m_iald (C0 : Cx E M p R s m args c cells slots) (hH : Hd E σ s H locs) {k n : Nat} (hf : Ar k 100 n) {i : Int32} (hin : vp_in i n) (hd : decode (mCode M) pc = .ok (.iaload, 1)) {x : Int32} (hv : σ k i.toNatClampNeg = x)
    (kk : W p (eL E) e R s m args below meth c H locs cells slots Z (F0 m (pc + 1) ls (.int x :: rest))) : W p (eL E) e R s m args below meth c H locs cells slots Z (F0 m pc ls (.int i :: .ref (Ad E k) :: rest)) := by
  subst hv
  obtain ⟨hx, hb, hml, hown, hts, hF, -⟩ := C0
  exact va_iald hx hb hF.1 hH.1 k 0 (by rw [wl_at hf.1, ce_i hf]) rfl hin hd kk
theorem m_iast (C0 : Cx E M p R s m args c cells slots) (hH : Hd E σ s H locs) {k n : Nat} (hf : Ar k 100 n) {i x : Int32} (hin : vp_in i n) (hd : decode (mCode M) pc = .ok (.iastore, 1))
    (kk : ∀ (H : Heap) (locs : List Loc), Hd E (up σ k i.toNatClampNeg x) s H locs → W p (eL E) e R s m args below meth c H locs cells slots Z (F0 m (pc + 1) ls rest)) : W p (eL E) e R s m args below meth c H locs cells slots Z (F0 m pc ls (.int x :: .int i :: .ref (Ad E k) :: rest)) := by
  obtain ⟨hx, hb, hml, hown, hts, hF, -⟩ := C0
  refine va_iast hx hb hF.1 hH.1 (wl_D hF.2.2.2.2.2) hH.2 k 0 (by rw [wl_at hf.1, ce_i hf]) rfl hin hd (fun H locs hP hD hS => ?_)
  have e1 : ce E k (up σ k i.toNatClampNeg x k) = .inl (cI E, n, .inl (upd (σ k) i.toNatClampNeg x)) := by rw [up_eq, ce_i hf]
  rw [← e1, wl_set hf.1 (fun a h => up_ne h)] at hP
  exact kk H locs ⟨hP, hS⟩
theorem m_zald (C0 : Cx E M p R s m args c cells slots) (hH : Hd E σ s H locs) {k n : Nat} (hf : Ar k 101 n) {i : Int32} (hin : vp_in i n) (hd : decode (mCode M) pc = .ok (.baload, 1)) {x : Int32} (hv : σ k i.toNatClampNeg = x)
    (kk : W p (eL E) e R s m args below meth c H locs cells slots Z (F0 m (pc + 1) ls (.int x :: rest))) : W p (eL E) e R s m args below meth c H locs cells slots Z (F0 m pc ls (.int i :: .ref (Ad E k) :: rest)) := by
  subst hv
  obtain ⟨hx, hb, hml, hown, hts, hF, -⟩ := C0
  exact va_zald hx hb hF.1 hH.1 k 1 (by rw [wl_at hf.1, ce_z hf]) rfl hin hd kk
theorem m_zast (C0 : Cx E M p R s m args c cells slots) (hH : Hd E σ s H locs) {k n : Nat} (hf : Ar k 101 n) {i x : Int32} (hin : vp_in i n) (hd : decode (mCode M) pc = .ok (.bastore, 1))
    (kk : ∀ (H : Heap) (locs : List Loc), Hd E (up σ k i.toNatClampNeg (vp_nar .boolean x)) s H locs → W p (eL E) e R s m args below meth c H locs cells slots Z (F0 m (pc + 1) ls rest)) : W p (eL E) e R s m args below meth c H locs cells slots Z (F0 m pc ls (.int x :: .int i :: .ref (Ad E k) :: rest)) := by
  obtain ⟨hx, hb, hml, hown, hts, hF, -⟩ := C0
  refine va_zast hx hb hF.1 hH.1 (wl_D hF.2.2.2.2.2) hH.2 k 1 (by rw [wl_at hf.1, ce_z hf]) rfl hin hd (fun H locs hP hD hS => ?_)
  have e1 : ce E k (up σ k i.toNatClampNeg (vp_nar .boolean x) k) = .inl (cZ E, n, .inl (upd (σ k) i.toNatClampNeg (vp_nar .boolean x))) := by rw [up_eq, ce_z hf]
  rw [← e1, wl_set hf.1 (fun a h => up_ne h)] at hP
  exact kk H locs ⟨hP, hS⟩
theorem m_aald (C0 : Cx E M p R s m args c cells slots) (hH : Hd E σ s H locs) {k n : Nat} (hf : Ar k 102 n) {i : Int32} (hin : vp_in i n) (hd : decode (mCode M) pc = .ok (.aaload, 1)) {r : Nat} (hv : rf k i.toNatClampNeg = r)
    (kk : W p (eL E) e R s m args below meth c H locs cells slots Z (F0 m (pc + 1) ls (.ref (Ad E r) :: rest))) : W p (eL E) e R s m args below meth c H locs cells slots Z (F0 m pc ls (.int i :: .ref (Ad E k) :: rest)) := by
  subst hv
  obtain ⟨hx, hb, hml, hown, hts, hF, -⟩ := C0
  have hlt : i.toNatClampNeg < n := Nat.not_le.mp fun q => hin (Or.inr q)
  have ha : (wl E σ)[k]? = some (Ad E k, .inl (cII E, n, .inr (.inr (.inr (.inr (fun i => if i < n then some (Ad E (rf k i)) else none)))))) := by rw [wl_at hf.1, ce_r hf]
  refine W.aald (v := .ref (Ad E (rf k i.toNatClampNeg))) (ty := .array .int) hx hb (hH.1 k _ ha) ((hF.1.2 2 _ rfl).1 n (fun j => va_rf (if j < n then some (Ad E (rf k j)) else none))) rfl (fun q => by cases q) (by show ¬ (i < 0 ∨ (arrV _ _ _).slots.size ≤ _); rw [arrV_size]; exact hin) (by show (arrV _ _ _).slots[_]? = _; rw [arrV_read _ _ hlt]; simp only [if_pos hlt]; rfl) rfl rfl hd kk
theorem m_alen (C0 : Cx E M p R s m args c cells slots) (hH : Hd E σ s H locs) {k n : Nat} (hf : Ar k 100 n) (hd : decode (mCode M) pc = .ok (.arraylength, 1)) {x : Int32} (hv : Int32.ofNat n = x)
    (kk : W p (eL E) e R s m args below meth c H locs cells slots Z (F0 m (pc + 1) ls (.int x :: rest))) : W p (eL E) e R s m args below meth c H locs cells slots Z (F0 m pc ls (.ref (Ad E k) :: rest)) := by
  obtain ⟨hx, hb, hml, hown, hts, hF, -⟩ := C0
  exact va_alen hx hb hF.1 hH.1 k 0 (by rw [wl_at hf.1, ce_i hf]) rfl hv hd kk
/-- behind a call -/
theorem m_after {Q : Option Value → Mm → Prop} {a : Array Value} {st0 : List Value} (hr : va_Run p (eL E) e R s m args below meth c H locs cells slots 0 0 (F0 m pc ls st0) rest (QcE E Q a) (Aw E)) (hS : va_S (Aw E) s.heap H locs)
    (kk : ∀ (r : Option Value) (τ : Mm) (H : Heap) (locs : List Loc), Q r τ → Hd E τ s H locs → W p (eL E) e R s m args below meth c H locs cells slots Z (F0 m (pc + 3) ls (r.toList ++ rest))) : W p (eL E) e R s m args below meth c H locs cells slots Z (F0 m pc ls st0) := by
  intro T hT X
  obtain ⟨v, st₀, t, T', L, h0, X', hL, e1, e2, ⟨⟨r, τ, hv, hq, hP⟩, hz, hk⟩, st⟩ := hr T hT X
  cases hv
  rw [h0] at hz hk
  obtain ⟨t2, a1, b1⟩ := kk v τ T'.heap (locs ++ L) hq ⟨by rw [e1]; exact hP, Nat.le_trans hS.1 (by rw [e1]; exact hz), fun q h1 h2 => by rw [e1, hk q (Nat.lt_of_lt_of_le h1 hS.1) h2]; exact hS.2.1 q h1 h2, fun q hq => by
      rcases List.mem_append.mp hq with h | h
      · exact hS.2.2 q h
      · exact hL q h⟩ T' rfl X'
  exact ⟨t2, st t2 a1, b1⟩
theorem mWs_in {M2 : Md} {n : Nat} (h : Cal M2 n) : ∀ w ∈ mWs M2, w ∈ TB := fun w hw => by
  rcases List.mem_cons.mp hw with e | h2
  · rw [e]; exact h.2.2.1
  · exact h2
theorem blind {vs : List Value} : FrameBlind (PcE E σ vs) := fun a U g mk q => ⟨q.1, q.2.1, q.2.2.calling a g mk⟩
theorem m_pre {vs : List Value} (C0 : Cx E M p R s m args c cells slots) (hH : Hd E σ s H locs) : ∀ U : State, U.heap = H → s.WarmedH U.vm → PcE E σ vs vs.toArray U := fun U hU hW => ⟨rfl, by rw [hU]; exact hH.1, by rw [hU]; exact (C0.2.2.2.2.2.1.kept hH.2).moved hW⟩
theorem m_cV {M2 : Md} {Q : Option Value → Mm → Prop} {k ci idx n : Nat} {C : String} {T : u_T} {N : Nat} {As : List Value} (h : Rn E M2 0 (lv_args 0 (.ref (Ad E k) :: As)) [] σ Q) (C0 : Cx E M p R s m args c cells slots) (hH : Hd E σ s H locs) (hl : lv_has ls (mLoc M) lv) (hc : Cal M2 n) (hi : Cond.instanceMethod (mNm M2) ∈ TB) (hs : Cond.selects C (mNm M2) (mNm M2) ∈ TB)
    (hk : k < 79 ∧ kd k = ci ∧ ci < 100 ∧ vwCl[ci]? = some (C, T, N)) (hw : Cond.methodLink (mOwn M) idx (mNm M2) ∈ TB) (hn : As.length = n) (hsl : (lg_sl (.ref (Ad E k) :: As)).length ≤ mLoc M2) (hcat : (rest.map fun v => v.category).sum ≤ 8) (hroom : mFr M2 + 1 ≤ mFr M ∧ 8 + (mLoc M2 + 11) + mRm M2 ≤ mRm M) (hd : decode (mCode M) pc = .ok (.invokevirtual idx, 3)) {st0 : List Value} (hst : st0 = As.reverse ++ .ref (Ad E k) :: rest)
    (kk : ∀ (r : Option Value) (τ : Mm) (H : Heap) (locs : List Loc), Q r τ → Hd E τ s H locs → W p (eL E) e R s m args below meth c H locs cells slots Z (F0 m (pc + 3) ls (r.toList ++ rest))) : W p (eL E) e R s m args below meth c H locs cells slots Z (F0 m pc ls st0) := by
  have C1 := C0
  obtain ⟨hx, hb, hml, hown, hts, hF, r1, r2, r3, r4⟩ := C1
  obtain ⟨k1, k2, k3, k4⟩ := hk
  subst k2
  subst hst
  refine m_after (va_runV (C := C) (g := F0 m pc ls (As.reverse ++ .ref (Ad E k) :: rest)) ⟨hx, hb, hml, hown, hts⟩ (h.met hc.1 hc.2.1 hsl) ⟨callB_of n hts (gd_TB (mWs_in hc)) rfl rfl rfl (hts _ hc.2.2.2.1) (hts _ hw) hc.2.2.2.2 ⟨Nat.le_trans hroom.1 r1, Nat.le_trans hroom.2 r2⟩, hts _ hi, hts _ hs⟩ ⟨blind, va_recv hF.1 hH.1 (ci := kd k) (q0 := k) k4 (by rw [wl_at k1, ce_obj rfl k3]), m_pre C0 hH⟩ rfl hn hl.1 rfl (lv_room hcat) hd ⟨r3, r4⟩) hH.2 kk
theorem m_cS {M2 : Md} {Q : Option Value → Mm → Prop} {idx n : Nat} {As : List Value} (h : Rn E M2 0 (lv_args 0 As) [] σ Q) (C0 : Cx E M p R s m args c cells slots) (hH : Hd E σ s H locs) (hl : lv_has ls (mLoc M) lv) (hc : Cal M2 n) (hi : Cond.static (mNm M2) ∈ TB)
    (hw : Cond.methodLink (mOwn M) idx (mNm M2) ∈ TB) (hn : As.length = n) (hsl : (lg_sl As).length ≤ mLoc M2) (hcat : (rest.map fun v => v.category).sum ≤ 8) (hroom : mFr M2 + 1 ≤ mFr M ∧ 8 + (mLoc M2 + 11) + mRm M2 ≤ mRm M) (hd : decode (mCode M) pc = .ok (.invokestatic idx, 3)) {st0 : List Value} (hst : st0 = As.reverse ++ rest)
    (kk : ∀ (r : Option Value) (τ : Mm) (H : Heap) (locs : List Loc), Q r τ → Hd E τ s H locs → W p (eL E) e R s m args below meth c H locs cells slots Z (F0 m (pc + 3) ls (r.toList ++ rest))) : W p (eL E) e R s m args below meth c H locs cells slots Z (F0 m pc ls st0) := by
  have C1 := C0
  obtain ⟨hx, hb, hml, hown, hts, hF, r1, r2, r3, r4⟩ := C1
  subst hst
  refine m_after (va_runS (g := F0 m pc ls (As.reverse ++ rest)) ⟨hx, hb, hml, hown, hts⟩ (h.met hc.1 hc.2.1 hsl) ⟨callB_of n hts (gd_TB (mWs_in hc)) rfl rfl rfl (hts _ hc.2.2.2.1) (hts _ hw) hc.2.2.2.2 ⟨Nat.le_trans hroom.1 r1, Nat.le_trans hroom.2 r2⟩, hts _ hi⟩ ⟨blind, m_pre C0 hH⟩ rfl hn hl.1 rfl (lv_room hcat) hd ⟨r3, r4⟩) hH.2 kk
theorem m_cN {M2 : Md} {Q : Option Value → Mm → Prop} {idx n : Nat} {host : String} {As : List Value} (h : Rn E M2 0 (lv_args 0 As) [] σ Q) (C0 : Cx E M p R s m args c cells slots) (hH : Hd E σ s H locs) (hl : lv_has ls (mLoc M) lv) (hc : Cal M2 n) (hi : Cond.static (mNm M2) ∈ TB)
    (hw : (mOwn M, idx, mNm M2, host) ∈ NS) (hn : As.length = n) (hsl : (lg_sl As).length ≤ mLoc M2) (hcat : (rest.map fun v => v.category).sum ≤ 8) (hroom : mFr M2 + 1 ≤ mFr M ∧ 8 + (mLoc M2 + 11) + mRm M2 ≤ mRm M) (hd : decode (mCode M) pc = .ok (.invokestatic idx, 3)) {st0 : List Value} (hst : st0 = As.reverse ++ rest)
    (kk : ∀ (r : Option Value) (τ : Mm) (H : Heap) (locs : List Loc), Q r τ → Hd E τ s H locs → W p (eL E) e R s m args below meth c H locs cells slots Z (F0 m (pc + 3) ls (r.toList ++ rest))) : W p (eL E) e R s m args below meth c H locs cells slots Z (F0 m pc ls st0) := by
  have C1 := C0
  obtain ⟨hx, hb, hml, hown, hts, hF, r1, r2, r3, r4⟩ := C1
  subst hst
  refine m_after (va_runSN (host := host) (g := F0 m pc ls (As.reverse ++ rest)) ⟨hx, hb, hml, hown, hts⟩ (h.met hc.1 hc.2.1 hsl) ⟨va_cnB n hts (gd_TB (mWs_in hc)) rfl rfl rfl (hF.2.1 _ hw) (hts _ hc.2.2.2.1) hc.2.2.2.2 ⟨Nat.le_trans hroom.1 r1, Nat.le_trans hroom.2 r2⟩, hts _ hi, trivial⟩ ⟨blind, m_pre C0 hH⟩ rfl hn hl.1 rfl (lv_room hcat) hd ⟨r3, r4⟩) hH.2 kk
theorem m_max (C0 : Cx E M p R s m args c cells slots) (hl : lv_has ls (mLoc M) lv) {idx : Nat} (hw : Cond.methodLink (mOwn M) idx Lib.Math.max.name ∈ TB) (hcat : (rest.map fun v => v.category).sum ≤ 8) (hroom : 1 ≤ mFr M ∧ 21 ≤ mRm M) (hd : decode (mCode M) pc = .ok (.invokestatic idx, 3)) {x y : Int32}
    (kk : W p (eL E) e R s m args below meth c H locs cells slots Z (F0 m (pc + 3) ls (.int (if x < y then y else x) :: rest))) : W p (eL E) e R s m args below meth c H locs cells slots Z (F0 m pc ls (.int y :: .int x :: rest)) := by
  obtain ⟨hx, hb, hml, hown, hts, hF, r1, r2, r3, r4⟩ := C0
  exact va_mmax hx hb (hml.trans hl.1.symm) hown (hts _ hw) (hts _ ks_max) (hts _ ki_Math) (hts _ kc_max) (by omega) (by omega) r3 r4 hd kk
theorem m_min (C0 : Cx E M p R s m args c cells slots) (hl : lv_has ls (mLoc M) lv) {idx : Nat} (hw : Cond.methodLink (mOwn M) idx Lib.Math.min.name ∈ TB) (hcat : (rest.map fun v => v.category).sum ≤ 8) (hroom : 1 ≤ mFr M ∧ 21 ≤ mRm M) (hd : decode (mCode M) pc = .ok (.invokestatic idx, 3)) {x y : Int32}
    (kk : W p (eL E) e R s m args below meth c H locs cells slots Z (F0 m (pc + 3) ls (.int (if y < x then y else x) :: rest))) : W p (eL E) e R s m args below meth c H locs cells slots Z (F0 m pc ls (.int y :: .int x :: rest)) := by
  obtain ⟨hx, hb, hml, hown, hts, hF, r1, r2, r3, r4⟩ := C0
  exact va_mmin hx hb (hml.trans hl.1.symm) hown (hts _ hw) (hts _ ks_min) (hts _ ki_Math) (hts _ kc_min) (by omega) (by omega) r3 r4 hd kk
/-- a switch over a table: by the value, or outside -/
theorem m_tin {dflt lo hi : Int} {offs : Array Int} {len : Nat} {x v : Int32} {off : Int} {tgt : Nat} (C0 : Cx E M p R s m args c cells slots) (hd : decode (mCode M) pc = .ok (.tableswitch dflt lo hi offs, len)) (hv : x = v) (h1 : ¬ v.toInt < lo) (h2 : ¬ hi < v.toInt) (ho : offs[(v.toInt - lo).toNat]? = some off) (ht : (pc : Int) + off = (tgt : Int))
    (k : W p (eL E) e R s m args below meth c H locs cells slots Z (F0 m tgt ls rest)) : W p (eL E) e R s m args below meth c H locs cells slots Z (F0 m pc ls (.int x :: rest)) := by
  subst hv
  exact lv_tableIn C0.1 C0.2.1 hd h1 h2 ho ht k
theorem m_tout {dflt lo hi : Int} {offs : Array Int} {len : Nat} {x : Int32} {tgt : Nat} (C0 : Cx E M p R s m args c cells slots) (hd : decode (mCode M) pc = .ok (.tableswitch dflt lo hi offs, len)) (h : ∀ v : Int, lo ≤ v → v ≤ hi → x ≠ Int32.ofInt v) (ht : (pc : Int) + dflt = (tgt : Int))
    (k : W p (eL E) e R s m args below meth c H locs cells slots Z (F0 m tgt ls rest)) : W p (eL E) e R s m args below meth c H locs cells slots Z (F0 m pc ls (.int x :: rest)) := by
  refine lv_tableOut C0.1 C0.2.1 hd ?_ ht k
  by_cases h1 : x.toInt < lo
  · exact Or.inl h1
  · by_cases h2 : hi < x.toInt
    · exact Or.inr h2
    · exact absurd (Int32.ofInt_toInt x).symm (h x.toInt (by omega) (by omega))
end MR
end
