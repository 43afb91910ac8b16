section
-- names: the printed tables' words (PART A of the skeleton), the printed names of classes and methods; what a word is among them
-- ===== PART A: goes FIRST, ahead of the names: the tables' words, and 'selects' of the private methods out of them =====
/-- a private method of a class that the tables say can be made, by its rows of tables_1 -/
def lw_okq (q : MethodName × Nat) : Prop := (q.1.cls ≠ "java/lang/invoke/MethodHandle" ∧ q.1.cls ≠ "java/lang/invoke/VarHandle") ∧ Cond.instantiable q.1.cls q.2 ∈ tables_1 ∧ Cond.privateMethod q.1 ∈ tables_1 ∧ Cond.instanceMethod q.1 ∈ tables_1
theorem lw_p0 : lw_okq (⟨"HeartPins$Letters", "readItem", "(LHeartPins$Family;)Z"⟩, 4) := ⟨⟨by decide +kernel, by decide +kernel⟩, List.mem_of_getElem? (i := 26) (by decide +kernel), List.mem_of_getElem? (i := 308) (by decide +kernel), List.mem_of_getElem? (i := 309) (by decide +kernel)⟩
theorem lw_p1 : lw_okq (⟨"HeartPins$Letters", "letterAt", "(I)C"⟩, 4) := ⟨⟨by decide +kernel, by decide +kernel⟩, List.mem_of_getElem? (i := 26) (by decide +kernel), List.mem_of_getElem? (i := 312) (by decide +kernel), List.mem_of_getElem? (i := 313) (by decide +kernel)⟩
theorem lw_p2 : lw_okq (⟨"HeartPins$Letters", "readNumbers", "(I)Z"⟩, 4) := ⟨⟨by decide +kernel, by decide +kernel⟩, List.mem_of_getElem? (i := 26) (by decide +kernel), List.mem_of_getElem? (i := 316) (by decide +kernel), List.mem_of_getElem? (i := 317) (by decide +kernel)⟩
theorem lw_p3 : lw_okq (⟨"HeartPins$Letters", "readNumber", "()I"⟩, 4) := ⟨⟨by decide +kernel, by decide +kernel⟩, List.mem_of_getElem? (i := 26) (by decide +kernel), List.mem_of_getElem? (i := 320) (by decide +kernel), List.mem_of_getElem? (i := 321) (by decide +kernel)⟩
theorem lw_p4 : lw_okq (⟨"HeartPins$Letters", "figureAt", "(I)I"⟩, 4) := ⟨⟨by decide +kernel, by decide +kernel⟩, List.mem_of_getElem? (i := 26) (by decide +kernel), List.mem_of_getElem? (i := 324) (by decide +kernel), List.mem_of_getElem? (i := 325) (by decide +kernel)⟩
theorem lw_p5 : lw_okq (⟨"HeartPins$Shelf", "dropOldest", "()V"⟩, 2) := ⟨⟨by decide +kernel, by decide +kernel⟩, List.mem_of_getElem? (i := 119) (by decide +kernel), List.mem_of_getElem? (i := 500) (by decide +kernel), List.mem_of_getElem? (i := 501) (by decide +kernel)⟩
theorem lw_p6 : lw_okq (⟨"HeartPins$Shelf", "rowAt", "(I)LHeartPins$Standing;"⟩, 2) := ⟨⟨by decide +kernel, by decide +kernel⟩, List.mem_of_getElem? (i := 119) (by decide +kernel), List.mem_of_getElem? (i := 504) (by decide +kernel), List.mem_of_getElem? (i := 505) (by decide +kernel)⟩
theorem lw_p7 : lw_okq (⟨"HeartPins$Standing", "changePin", "(IZ)V"⟩, 5) := ⟨⟨by decide +kernel, by decide +kernel⟩, List.mem_of_getElem? (i := 93) (by decide +kernel), List.mem_of_getElem? (i := 557) (by decide +kernel), List.mem_of_getElem? (i := 558) (by decide +kernel)⟩
theorem lw_p8 : lw_okq (⟨"HeartPins$Standing", "shakeOut", "()V"⟩, 5) := ⟨⟨by decide +kernel, by decide +kernel⟩, List.mem_of_getElem? (i := 93) (by decide +kernel), List.mem_of_getElem? (i := 570) (by decide +kernel), List.mem_of_getElem? (i := 571) (by decide +kernel)⟩
theorem lw_p9 : lw_okq (⟨"HeartPins", "lookBehind", "(I)V"⟩, 11) := ⟨⟨by decide +kernel, by decide +kernel⟩, List.mem_of_getElem? (i := 18) (by decide +kernel), List.mem_of_getElem? (i := 586) (by decide +kernel), List.mem_of_getElem? (i := 587) (by decide +kernel)⟩
theorem lw_p10 : lw_okq (⟨"HeartPins", "bestSet", "(I)I"⟩, 11) := ⟨⟨by decide +kernel, by decide +kernel⟩, List.mem_of_getElem? (i := 18) (by decide +kernel), List.mem_of_getElem? (i := 608) (by decide +kernel), List.mem_of_getElem? (i := 609) (by decide +kernel)⟩
theorem lw_p11 : lw_okq (⟨"HeartPins", "isCalmWith", "(II)Z"⟩, 11) := ⟨⟨by decide +kernel, by decide +kernel⟩, List.mem_of_getElem? (i := 18) (by decide +kernel), List.mem_of_getElem? (i := 622) (by decide +kernel), List.mem_of_getElem? (i := 623) (by decide +kernel)⟩
theorem lw_p12 : lw_okq (⟨"HeartPins$Sharing", "keepTried", "()V"⟩, 8) := ⟨⟨by decide +kernel, by decide +kernel⟩, List.mem_of_getElem? (i := 187) (by decide +kernel), List.mem_of_getElem? (i := 648) (by decide +kernel), List.mem_of_getElem? (i := 649) (by decide +kernel)⟩
theorem lw_p13 : lw_okq (⟨"HeartPins$Sharing", "isLikeEarlier", "(I)Z"⟩, 8) := ⟨⟨by decide +kernel, by decide +kernel⟩, List.mem_of_getElem? (i := 187) (by decide +kernel), List.mem_of_getElem? (i := 652) (by decide +kernel), List.mem_of_getElem? (i := 653) (by decide +kernel)⟩
theorem lw_p14 : lw_okq (⟨"HeartPins$Matching", "takeLowest", "(II)I"⟩, 4) := ⟨⟨by decide +kernel, by decide +kernel⟩, List.mem_of_getElem? (i := 167) (by decide +kernel), List.mem_of_getElem? (i := 732) (by decide +kernel), List.mem_of_getElem? (i := 733) (by decide +kernel)⟩
theorem lw_p15 : lw_okq (⟨"HeartPins$BadDays", "rung", "(I)LHeartPins$Standing;"⟩, 4) := ⟨⟨by decide +kernel, by decide +kernel⟩, List.mem_of_getElem? (i := 219) (by decide +kernel), List.mem_of_getElem? (i := 748) (by decide +kernel), List.mem_of_getElem? (i := 749) (by decide +kernel)⟩
def lw_privs_1 : List (MethodName × Nat) := [(⟨"HeartPins$Letters", "readItem", "(LHeartPins$Family;)Z"⟩, 4), (⟨"HeartPins$Letters", "letterAt", "(I)C"⟩, 4), (⟨"HeartPins$Letters", "readNumbers", "(I)Z"⟩, 4), (⟨"HeartPins$Letters", "readNumber", "()I"⟩, 4), (⟨"HeartPins$Letters", "figureAt", "(I)I"⟩, 4), (⟨"HeartPins$Shelf", "dropOldest", "()V"⟩, 2), (⟨"HeartPins$Shelf", "rowAt", "(I)LHeartPins$Standing;"⟩, 2), (⟨"HeartPins$Standing", "changePin", "(IZ)V"⟩, 5), (⟨"HeartPins$Standing", "shakeOut", "()V"⟩, 5), (⟨"HeartPins", "lookBehind", "(I)V"⟩, 11), (⟨"HeartPins", "bestSet", "(I)I"⟩, 11), (⟨"HeartPins", "isCalmWith", "(II)Z"⟩, 11), (⟨"HeartPins$Sharing", "keepTried", "()V"⟩, 8), (⟨"HeartPins$Sharing", "isLikeEarlier", "(I)Z"⟩, 8), (⟨"HeartPins$Matching", "takeLowest", "(II)I"⟩, 4), (⟨"HeartPins$BadDays", "rung", "(I)LHeartPins$Standing;"⟩, 4)]
theorem lw_r1 : ∀ q ∈ lw_privs_1, lw_okq q := List.forall_mem_cons.mpr ⟨lw_p0, List.forall_mem_cons.mpr ⟨lw_p1, List.forall_mem_cons.mpr ⟨lw_p2, List.forall_mem_cons.mpr ⟨lw_p3, List.forall_mem_cons.mpr ⟨lw_p4, List.forall_mem_cons.mpr ⟨lw_p5, List.forall_mem_cons.mpr ⟨lw_p6, List.forall_mem_cons.mpr ⟨lw_p7, List.forall_mem_cons.mpr ⟨lw_p8, List.forall_mem_cons.mpr ⟨lw_p9, List.forall_mem_cons.mpr ⟨lw_p10, List.forall_mem_cons.mpr ⟨lw_p11, List.forall_mem_cons.mpr ⟨lw_p12, List.forall_mem_cons.mpr ⟨lw_p13, List.forall_mem_cons.mpr ⟨lw_p14, List.forall_mem_cons.mpr ⟨lw_p15, fun _ h => absurd h List.not_mem_nil⟩⟩⟩⟩⟩⟩⟩⟩⟩⟩⟩⟩⟩⟩⟩⟩
theorem lw_p16 : lw_okq (⟨"HeartPins", "actByDraw", "(LHeartPins$Standing;I)V"⟩, 11) := ⟨⟨by decide +kernel, by decide +kernel⟩, List.mem_of_getElem? (i := 18) (by decide +kernel), List.mem_of_getElem? (i := 780) (by decide +kernel), List.mem_of_getElem? (i := 781) (by decide +kernel)⟩
theorem lw_p17 : lw_okq (⟨"HeartPinsModel", "first", "()V"⟩, 26) := ⟨⟨by decide +kernel, by decide +kernel⟩, List.mem_of_getElem? (i := 807) (by decide +kernel), List.mem_of_getElem? (i := 813) (by decide +kernel), List.mem_of_getElem? (i := 814) (by decide +kernel)⟩
theorem lw_p18 : lw_okq (⟨"HeartPinsModel", "begin", "()V"⟩, 26) := ⟨⟨by decide +kernel, by decide +kernel⟩, List.mem_of_getElem? (i := 807) (by decide +kernel), List.mem_of_getElem? (i := 817) (by decide +kernel), List.mem_of_getElem? (i := 818) (by decide +kernel)⟩
theorem lw_p19 : lw_okq (⟨"HeartPinsModel", "tellHeart", "(III)V"⟩, 26) := ⟨⟨by decide +kernel, by decide +kernel⟩, List.mem_of_getElem? (i := 807) (by decide +kernel), List.mem_of_getElem? (i := 821) (by decide +kernel), List.mem_of_getElem? (i := 822) (by decide +kernel)⟩
theorem lw_p20 : lw_okq (⟨"HeartPinsModel", "tellPerson", "(I)V"⟩, 26) := ⟨⟨by decide +kernel, by decide +kernel⟩, List.mem_of_getElem? (i := 807) (by decide +kernel), List.mem_of_getElem? (i := 825) (by decide +kernel), List.mem_of_getElem? (i := 826) (by decide +kernel)⟩
theorem lw_p21 : lw_okq (⟨"HeartPinsModel", "tellPin", "(III)V"⟩, 26) := ⟨⟨by decide +kernel, by decide +kernel⟩, List.mem_of_getElem? (i := 807) (by decide +kernel), List.mem_of_getElem? (i := 829) (by decide +kernel), List.mem_of_getElem? (i := 830) (by decide +kernel)⟩
theorem lw_p22 : lw_okq (⟨"HeartPinsModel", "takeDraft", "()V"⟩, 26) := ⟨⟨by decide +kernel, by decide +kernel⟩, List.mem_of_getElem? (i := 807) (by decide +kernel), List.mem_of_getElem? (i := 833) (by decide +kernel), List.mem_of_getElem? (i := 834) (by decide +kernel)⟩
theorem lw_p23 : lw_okq (⟨"HeartPinsModel", "read", "()I"⟩, 26) := ⟨⟨by decide +kernel, by decide +kernel⟩, List.mem_of_getElem? (i := 807) (by decide +kernel), List.mem_of_getElem? (i := 931) (by decide +kernel), List.mem_of_getElem? (i := 932) (by decide +kernel)⟩
theorem lw_p24 : lw_okq (⟨"HeartPinsModel", "readItem", "()V"⟩, 26) := ⟨⟨by decide +kernel, by decide +kernel⟩, List.mem_of_getElem? (i := 807) (by decide +kernel), List.mem_of_getElem? (i := 935) (by decide +kernel), List.mem_of_getElem? (i := 936) (by decide +kernel)⟩
theorem lw_p25 : lw_okq (⟨"HeartPinsModel", "here", "()I"⟩, 26) := ⟨⟨by decide +kernel, by decide +kernel⟩, List.mem_of_getElem? (i := 807) (by decide +kernel), List.mem_of_getElem? (i := 939) (by decide +kernel), List.mem_of_getElem? (i := 940) (by decide +kernel)⟩
theorem lw_p26 : lw_okq (⟨"HeartPinsModel", "readPerson", "()V"⟩, 26) := ⟨⟨by decide +kernel, by decide +kernel⟩, List.mem_of_getElem? (i := 807) (by decide +kernel), List.mem_of_getElem? (i := 943) (by decide +kernel), List.mem_of_getElem? (i := 944) (by decide +kernel)⟩
theorem lw_p27 : lw_okq (⟨"HeartPinsModel", "number", "(II)I"⟩, 26) := ⟨⟨by decide +kernel, by decide +kernel⟩, List.mem_of_getElem? (i := 807) (by decide +kernel), List.mem_of_getElem? (i := 947) (by decide +kernel), List.mem_of_getElem? (i := 948) (by decide +kernel)⟩
theorem lw_p28 : lw_okq (⟨"HeartPinsModel", "isFigure", "()Z"⟩, 26) := ⟨⟨by decide +kernel, by decide +kernel⟩, List.mem_of_getElem? (i := 807) (by decide +kernel), List.mem_of_getElem? (i := 951) (by decide +kernel), List.mem_of_getElem? (i := 952) (by decide +kernel)⟩
theorem lw_p29 : lw_okq (⟨"HeartPinsModel", "readPin", "()V"⟩, 26) := ⟨⟨by decide +kernel, by decide +kernel⟩, List.mem_of_getElem? (i := 807) (by decide +kernel), List.mem_of_getElem? (i := 955) (by decide +kernel), List.mem_of_getElem? (i := 956) (by decide +kernel)⟩
theorem lw_p30 : lw_okq (⟨"HeartPinsModel", "due", "(I)V"⟩, 26) := ⟨⟨by decide +kernel, by decide +kernel⟩, List.mem_of_getElem? (i := 807) (by decide +kernel), List.mem_of_getElem? (i := 959) (by decide +kernel), List.mem_of_getElem? (i := 960) (by decide +kernel)⟩
theorem lw_p31 : lw_okq (⟨"HeartPinsModel", "readHeart", "()V"⟩, 26) := ⟨⟨by decide +kernel, by decide +kernel⟩, List.mem_of_getElem? (i := 807) (by decide +kernel), List.mem_of_getElem? (i := 963) (by decide +kernel), List.mem_of_getElem? (i := 964) (by decide +kernel)⟩
def lw_privs_2 : List (MethodName × Nat) := [(⟨"HeartPins", "actByDraw", "(LHeartPins$Standing;I)V"⟩, 11), (⟨"HeartPinsModel", "first", "()V"⟩, 26), (⟨"HeartPinsModel", "begin", "()V"⟩, 26), (⟨"HeartPinsModel", "tellHeart", "(III)V"⟩, 26), (⟨"HeartPinsModel", "tellPerson", "(I)V"⟩, 26), (⟨"HeartPinsModel", "tellPin", "(III)V"⟩, 26), (⟨"HeartPinsModel", "takeDraft", "()V"⟩, 26), (⟨"HeartPinsModel", "read", "()I"⟩, 26), (⟨"HeartPinsModel", "readItem", "()V"⟩, 26), (⟨"HeartPinsModel", "here", "()I"⟩, 26), (⟨"HeartPinsModel", "readPerson", "()V"⟩, 26), (⟨"HeartPinsModel", "number", "(II)I"⟩, 26), (⟨"HeartPinsModel", "isFigure", "()Z"⟩, 26), (⟨"HeartPinsModel", "readPin", "()V"⟩, 26), (⟨"HeartPinsModel", "due", "(I)V"⟩, 26), (⟨"HeartPinsModel", "readHeart", "()V"⟩, 26)]
theorem lw_r2 : ∀ q ∈ lw_privs_2, lw_okq q := List.forall_mem_cons.mpr ⟨lw_p16, List.forall_mem_cons.mpr ⟨lw_p17, List.forall_mem_cons.mpr ⟨lw_p18, List.forall_mem_cons.mpr ⟨lw_p19, List.forall_mem_cons.mpr ⟨lw_p20, List.forall_mem_cons.mpr ⟨lw_p21, List.forall_mem_cons.mpr ⟨lw_p22, List.forall_mem_cons.mpr ⟨lw_p23, List.forall_mem_cons.mpr ⟨lw_p24, List.forall_mem_cons.mpr ⟨lw_p25, List.forall_mem_cons.mpr ⟨lw_p26, List.forall_mem_cons.mpr ⟨lw_p27, List.forall_mem_cons.mpr ⟨lw_p28, List.forall_mem_cons.mpr ⟨lw_p29, List.forall_mem_cons.mpr ⟨lw_p30, List.forall_mem_cons.mpr ⟨lw_p31, fun _ h => absurd h List.not_mem_nil⟩⟩⟩⟩⟩⟩⟩⟩⟩⟩⟩⟩⟩⟩⟩⟩
theorem lw_p32 : lw_okq (⟨"HeartPinsModel", "isPerson", "(I)Z"⟩, 26) := ⟨⟨by decide +kernel, by decide +kernel⟩, List.mem_of_getElem? (i := 807) (by decide +kernel), List.mem_of_getElem? (i := 975) (by decide +kernel), List.mem_of_getElem? (i := 976) (by decide +kernel)⟩
theorem lw_p33 : lw_okq (⟨"HeartPinsModel", "load", "([II)I"⟩, 26) := ⟨⟨by decide +kernel, by decide +kernel⟩, List.mem_of_getElem? (i := 807) (by decide +kernel), List.mem_of_getElem? (i := 979) (by decide +kernel), List.mem_of_getElem? (i := 980) (by decide +kernel)⟩
theorem lw_p34 : lw_okq (⟨"HeartPinsModel", "those", "([II)I"⟩, 26) := ⟨⟨by decide +kernel, by decide +kernel⟩, List.mem_of_getElem? (i := 807) (by decide +kernel), List.mem_of_getElem? (i := 983) (by decide +kernel), List.mem_of_getElem? (i := 984) (by decide +kernel)⟩
theorem lw_p35 : lw_okq (⟨"HeartPinsModel", "sizeOf", "([II)I"⟩, 26) := ⟨⟨by decide +kernel, by decide +kernel⟩, List.mem_of_getElem? (i := 807) (by decide +kernel), List.mem_of_getElem? (i := 987) (by decide +kernel), List.mem_of_getElem? (i := 988) (by decide +kernel)⟩
theorem lw_p36 : lw_okq (⟨"HeartPinsModel", "doesBreak", "([II)Z"⟩, 26) := ⟨⟨by decide +kernel, by decide +kernel⟩, List.mem_of_getElem? (i := 807) (by decide +kernel), List.mem_of_getElem? (i := 994) (by decide +kernel), List.mem_of_getElem? (i := 995) (by decide +kernel)⟩
theorem lw_p37 : lw_okq (⟨"HeartPinsModel", "isPin", "(I)Z"⟩, 26) := ⟨⟨by decide +kernel, by decide +kernel⟩, List.mem_of_getElem? (i := 807) (by decide +kernel), List.mem_of_getElem? (i := 1002) (by decide +kernel), List.mem_of_getElem? (i := 1003) (by decide +kernel)⟩
theorem lw_p38 : lw_okq (⟨"HeartPinsModel", "isFull", "([I)Z"⟩, 26) := ⟨⟨by decide +kernel, by decide +kernel⟩, List.mem_of_getElem? (i := 807) (by decide +kernel), List.mem_of_getElem? (i := 1013) (by decide +kernel), List.mem_of_getElem? (i := 1014) (by decide +kernel)⟩
theorem lw_p39 : lw_okq (⟨"HeartPinsModel", "isAtDoor", "([I)Z"⟩, 26) := ⟨⟨by decide +kernel, by decide +kernel⟩, List.mem_of_getElem? (i := 807) (by decide +kernel), List.mem_of_getElem? (i := 1017) (by decide +kernel), List.mem_of_getElem? (i := 1018) (by decide +kernel)⟩
theorem lw_p40 : lw_okq (⟨"HeartPinsModel", "know", "()V"⟩, 26) := ⟨⟨by decide +kernel, by decide +kernel⟩, List.mem_of_getElem? (i := 807) (by decide +kernel), List.mem_of_getElem? (i := 1025) (by decide +kernel), List.mem_of_getElem? (i := 1026) (by decide +kernel)⟩
theorem lw_p41 : lw_okq (⟨"HeartPinsModel", "passOn", "([I)V"⟩, 26) := ⟨⟨by decide +kernel, by decide +kernel⟩, List.mem_of_getElem? (i := 807) (by decide +kernel), List.mem_of_getElem? (i := 1041) (by decide +kernel), List.mem_of_getElem? (i := 1042) (by decide +kernel)⟩
theorem lw_p42 : lw_okq (⟨"HeartPinsModel", "goOn", "(I)V"⟩, 26) := ⟨⟨by decide +kernel, by decide +kernel⟩, List.mem_of_getElem? (i := 807) (by decide +kernel), List.mem_of_getElem? (i := 1056) (by decide +kernel), List.mem_of_getElem? (i := 1057) (by decide +kernel)⟩
theorem lw_p43 : lw_okq (⟨"HeartPinsModel", "take", "()V"⟩, 26) := ⟨⟨by decide +kernel, by decide +kernel⟩, List.mem_of_getElem? (i := 807) (by decide +kernel), List.mem_of_getElem? (i := 1060) (by decide +kernel), List.mem_of_getElem? (i := 1061) (by decide +kernel)⟩
theorem lw_p44 : lw_okq (⟨"HeartPinsModel", "borne", "([I)I"⟩, 26) := ⟨⟨by decide +kernel, by decide +kernel⟩, List.mem_of_getElem? (i := 807) (by decide +kernel), List.mem_of_getElem? (i := 1080) (by decide +kernel), List.mem_of_getElem? (i := 1081) (by decide +kernel)⟩
theorem lw_p45 : lw_okq (⟨"HeartPinsModel", "isWellBy", "(II)Z"⟩, 26) := ⟨⟨by decide +kernel, by decide +kernel⟩, List.mem_of_getElem? (i := 807) (by decide +kernel), List.mem_of_getElem? (i := 1087) (by decide +kernel), List.mem_of_getElem? (i := 1088) (by decide +kernel)⟩
theorem lw_p46 : lw_okq (⟨"HeartPinsModel", "broken", "([I)I"⟩, 26) := ⟨⟨by decide +kernel, by decide +kernel⟩, List.mem_of_getElem? (i := 807) (by decide +kernel), List.mem_of_getElem? (i := 1091) (by decide +kernel), List.mem_of_getElem? (i := 1092) (by decide +kernel)⟩
theorem lw_p47 : lw_okq (⟨"HeartPinsModel", "leastFor", "(I)I"⟩, 26) := ⟨⟨by decide +kernel, by decide +kernel⟩, List.mem_of_getElem? (i := 807) (by decide +kernel), List.mem_of_getElem? (i := 1099) (by decide +kernel), List.mem_of_getElem? (i := 1100) (by decide +kernel)⟩
def lw_privs_3 : List (MethodName × Nat) := [(⟨"HeartPinsModel", "isPerson", "(I)Z"⟩, 26), (⟨"HeartPinsModel", "load", "([II)I"⟩, 26), (⟨"HeartPinsModel", "those", "([II)I"⟩, 26), (⟨"HeartPinsModel", "sizeOf", "([II)I"⟩, 26), (⟨"HeartPinsModel", "doesBreak", "([II)Z"⟩, 26), (⟨"HeartPinsModel", "isPin", "(I)Z"⟩, 26), (⟨"HeartPinsModel", "isFull", "([I)Z"⟩, 26), (⟨"HeartPinsModel", "isAtDoor", "([I)Z"⟩, 26), (⟨"HeartPinsModel", "know", "()V"⟩, 26), (⟨"HeartPinsModel", "passOn", "([I)V"⟩, 26), (⟨"HeartPinsModel", "goOn", "(I)V"⟩, 26), (⟨"HeartPinsModel", "take", "()V"⟩, 26), (⟨"HeartPinsModel", "borne", "([I)I"⟩, 26), (⟨"HeartPinsModel", "isWellBy", "(II)Z"⟩, 26), (⟨"HeartPinsModel", "broken", "([I)I"⟩, 26), (⟨"HeartPinsModel", "leastFor", "(I)I"⟩, 26)]
theorem lw_r3 : ∀ q ∈ lw_privs_3, lw_okq q := List.forall_mem_cons.mpr ⟨lw_p32, List.forall_mem_cons.mpr ⟨lw_p33, List.forall_mem_cons.mpr ⟨lw_p34, List.forall_mem_cons.mpr ⟨lw_p35, List.forall_mem_cons.mpr ⟨lw_p36, List.forall_mem_cons.mpr ⟨lw_p37, List.forall_mem_cons.mpr ⟨lw_p38, List.forall_mem_cons.mpr ⟨lw_p39, List.forall_mem_cons.mpr ⟨lw_p40, List.forall_mem_cons.mpr ⟨lw_p41, List.forall_mem_cons.mpr ⟨lw_p42, List.forall_mem_cons.mpr ⟨lw_p43, List.forall_mem_cons.mpr ⟨lw_p44, List.forall_mem_cons.mpr ⟨lw_p45, List.forall_mem_cons.mpr ⟨lw_p46, List.forall_mem_cons.mpr ⟨lw_p47, fun _ h => absurd h List.not_mem_nil⟩⟩⟩⟩⟩⟩⟩⟩⟩⟩⟩⟩⟩⟩⟩⟩
theorem lw_p48 : lw_okq (⟨"HeartPinsModel", "brokenWithout", "(I)I"⟩, 26) := ⟨⟨by decide +kernel, by decide +kernel⟩, List.mem_of_getElem? (i := 807) (by decide +kernel), List.mem_of_getElem? (i := 1108) (by decide +kernel), List.mem_of_getElem? (i := 1109) (by decide +kernel)⟩
theorem lw_p49 : lw_okq (⟨"HeartPinsModel", "sizeBy", "(III)I"⟩, 26) := ⟨⟨by decide +kernel, by decide +kernel⟩, List.mem_of_getElem? (i := 807) (by decide +kernel), List.mem_of_getElem? (i := 1132) (by decide +kernel), List.mem_of_getElem? (i := 1133) (by decide +kernel)⟩
theorem lw_p50 : lw_okq (⟨"HeartPinsModel", "tellWays", "(II)V"⟩, 26) := ⟨⟨by decide +kernel, by decide +kernel⟩, List.mem_of_getElem? (i := 807) (by decide +kernel), List.mem_of_getElem? (i := 1140) (by decide +kernel), List.mem_of_getElem? (i := 1141) (by decide +kernel)⟩
theorem lw_p51 : lw_okq (⟨"HeartPinsModel", "breaksBy", "(III)Z"⟩, 26) := ⟨⟨by decide +kernel, by decide +kernel⟩, List.mem_of_getElem? (i := 807) (by decide +kernel), List.mem_of_getElem? (i := 1148) (by decide +kernel), List.mem_of_getElem? (i := 1149) (by decide +kernel)⟩
theorem lw_p52 : lw_okq (⟨"HeartPinsModel", "turn", "(I)V"⟩, 26) := ⟨⟨by decide +kernel, by decide +kernel⟩, List.mem_of_getElem? (i := 807) (by decide +kernel), List.mem_of_getElem? (i := 1159) (by decide +kernel), List.mem_of_getElem? (i := 1160) (by decide +kernel)⟩
def lw_privs_4 : List (MethodName × Nat) := [(⟨"HeartPinsModel", "brokenWithout", "(I)I"⟩, 26), (⟨"HeartPinsModel", "sizeBy", "(III)I"⟩, 26), (⟨"HeartPinsModel", "tellWays", "(II)V"⟩, 26), (⟨"HeartPinsModel", "breaksBy", "(III)Z"⟩, 26), (⟨"HeartPinsModel", "turn", "(I)V"⟩, 26)]
theorem lw_r4 : ∀ q ∈ lw_privs_4, lw_okq q := List.forall_mem_cons.mpr ⟨lw_p48, List.forall_mem_cons.mpr ⟨lw_p49, List.forall_mem_cons.mpr ⟨lw_p50, List.forall_mem_cons.mpr ⟨lw_p51, List.forall_mem_cons.mpr ⟨lw_p52, fun _ h => absurd h List.not_mem_nil⟩⟩⟩⟩⟩
def lw_privs : List (MethodName × Nat) := lw_privs_1 ++ (lw_privs_2 ++ (lw_privs_3 ++ (lw_privs_4)))
def lw_tbl : List Cond := k2_sels lw_privs ++ tables_1
theorem lw_privs_ok : ∀ q ∈ lw_privs, lw_okq q := by
  show ∀ q ∈ lw_privs_1 ++ (lw_privs_2 ++ (lw_privs_3 ++ (lw_privs_4))), lw_okq q
  exact List.forall_mem_append.mpr ⟨lw_r1, List.forall_mem_append.mpr ⟨lw_r2, List.forall_mem_append.mpr ⟨lw_r3, lw_r4⟩⟩⟩
-- ===== end of PART A
def RX0 : String := "HeartPins$BadDays"
def TX0 : u_T := fun k => match k with
  | 0 => ("HeartPins$BadDays", "ladder", "[LHeartPins$Standing;", true)
  | 1 => ("HeartPins$BadDays", "person", "I", false)
  | 2 => ("HeartPins$BadDays", "days", "I", false)
  | _ => ("HeartPins$BadDays", "tenths", "I", false)
def tyX0 : Nat → FieldType := fun k => match k with
  | 0 => .array (.object "HeartPins$Standing")
  | 1 => .int
  | 2 => .int
  | _ => .int
theorem nmX0 : ∀ a, a < 4 → ∀ b, b < 4 → a ≠ b → (TX0 a).2.1 ≠ (TX0 b).2.1 := by decide +kernel
theorem tyX0_ok : ∀ k, k < 4 → parseFieldDescriptor (TX0 k).2.2.1 = some (tyX0 k) := by decide +kernel
abbrev cX0_init : ByteArray := prog_2_method_1_code
def yX0_init : MethodName := ⟨RX0, "<init>", "(LHeartPins$Family;)V"⟩
abbrev cX0_breakingOf : ByteArray := prog_2_method_2_code
def yX0_breakingOf : MethodName := ⟨RX0, "breakingOf", "(LHeartPins$Standing;III)J"⟩
abbrev cX0_tenTo : ByteArray := prog_2_method_3_code
def yX0_tenTo : MethodName := ⟨RX0, "tenTo", "(I)J"⟩
abbrev cX0_rung : ByteArray := prog_2_method_4_code
def yX0_rung : MethodName := ⟨RX0, "rung", "(I)LHeartPins$Standing;"⟩
abbrev cX0_breakingFrom : ByteArray := prog_2_method_5_code
def yX0_breakingFrom : MethodName := ⟨RX0, "breakingFrom", "(LHeartPins$BadDays;IJ)J"⟩
def RX1 : String := "HeartPins$Family"
def TX1 : u_T := fun k => match k with
  | 0 => ("HeartPins$Family", "bearable", "[I", true)
  | 1 => ("HeartPins$Family", "owner", "[I", true)
  | 2 => ("HeartPins$Family", "kind", "[I", true)
  | 3 => ("HeartPins$Family", "told", "[I", true)
  | 4 => ("HeartPins$Family", "persons", "I", false)
  | 5 => ("HeartPins$Family", "pins", "I", false)
  | 6 => ("HeartPins$Family", "room", "I", false)
  | 7 => ("HeartPins$Family", "doorway", "I", false)
  | _ => ("HeartPins$Family", "rhythm", "I", false)
def tyX1 : Nat → FieldType := fun k => match k with
  | 0 => .array .int
  | 1 => .array .int
  | 2 => .array .int
  | 3 => .array .int
  | 4 => .int
  | 5 => .int
  | 6 => .int
  | 7 => .int
  | _ => .int
theorem nmX1 : ∀ a, a < 9 → ∀ b, b < 9 → a ≠ b → (TX1 a).2.1 ≠ (TX1 b).2.1 := by decide +kernel
theorem tyX1_ok : ∀ k, k < 9 → parseFieldDescriptor (TX1 k).2.2.1 = some (tyX1 k) := by decide +kernel
abbrev cX1_init : ByteArray := prog_3_method_1_code
def yX1_init : MethodName := ⟨RX1, "<init>", "()V"⟩
abbrev cX1_clear : ByteArray := prog_3_method_2_code
def yX1_clear : MethodName := ⟨RX1, "clear", "()V"⟩
abbrev cX1_copyFrom : ByteArray := prog_3_method_3_code
def yX1_copyFrom : MethodName := ⟨RX1, "copyFrom", "(LHeartPins$Family;)V"⟩
abbrev cX1_addPerson : ByteArray := prog_3_method_4_code
def yX1_addPerson : MethodName := ⟨RX1, "addPerson", "(I)Z"⟩
abbrev cX1_addPin : ByteArray := prog_3_method_5_code
def yX1_addPin : MethodName := ⟨RX1, "addPin", "(III)Z"⟩
abbrev cX1_setHeart : ByteArray := prog_3_method_6_code
def yX1_setHeart : MethodName := ⟨RX1, "setHeart", "(III)Z"⟩
abbrev cX1_hasPerson : ByteArray := prog_3_method_7_code
def yX1_hasPerson : MethodName := ⟨RX1, "hasPerson", "(I)Z"⟩
abbrev cX1_hasPin : ByteArray := prog_3_method_8_code
def yX1_hasPin : MethodName := ⟨RX1, "hasPin", "(I)Z"⟩
abbrev cX1_bearableBy : ByteArray := prog_3_method_9_code
def yX1_bearableBy : MethodName := ⟨RX1, "bearableBy", "(I)I"⟩
abbrev cX1_ownerOf : ByteArray := prog_3_method_10_code
def yX1_ownerOf : MethodName := ⟨RX1, "ownerOf", "(I)I"⟩
abbrev cX1_kindOf : ByteArray := prog_3_method_11_code
def yX1_kindOf : MethodName := ⟨RX1, "kindOf", "(I)I"⟩
def RX2 : String := "HeartPins$Letters"
def TX2 : u_T := fun k => match k with
  | 0 => ("HeartPins$Letters", "letters", "[C", true)
  | 1 => ("HeartPins$Letters", "numbers", "[I", true)
  | 2 => ("HeartPins$Letters", "length", "I", false)
  | _ => ("HeartPins$Letters", "at", "I", false)
def tyX2 : Nat → FieldType := fun k => match k with
  | 0 => .array .char
  | 1 => .array .int
  | 2 => .int
  | _ => .int
theorem nmX2 : ∀ a, a < 4 → ∀ b, b < 4 → a ≠ b → (TX2 a).2.1 ≠ (TX2 b).2.1 := by decide +kernel
theorem tyX2_ok : ∀ k, k < 4 → parseFieldDescriptor (TX2 k).2.2.1 = some (tyX2 k) := by decide +kernel
abbrev cX2_init : ByteArray := prog_4_method_1_code
def yX2_init : MethodName := ⟨RX2, "<init>", "()V"⟩
abbrev cX2_add : ByteArray := prog_4_method_2_code
def yX2_add : MethodName := ⟨RX2, "add", "(C)Z"⟩
abbrev cX2_clear : ByteArray := prog_4_method_3_code
def yX2_clear : MethodName := ⟨RX2, "clear", "()V"⟩
abbrev cX2_readInto : ByteArray := prog_4_method_4_code
def yX2_readInto : MethodName := ⟨RX2, "readInto", "(LHeartPins$Family;)I"⟩
abbrev cX2_readItem : ByteArray := prog_4_method_5_code
def yX2_readItem : MethodName := ⟨RX2, "readItem", "(LHeartPins$Family;)Z"⟩
abbrev cX2_readNumbers : ByteArray := prog_4_method_6_code
def yX2_readNumbers : MethodName := ⟨RX2, "readNumbers", "(I)Z"⟩
abbrev cX2_readNumber : ByteArray := prog_4_method_7_code
def yX2_readNumber : MethodName := ⟨RX2, "readNumber", "()I"⟩
abbrev cX2_figureAt : ByteArray := prog_4_method_8_code
def yX2_figureAt : MethodName := ⟨RX2, "figureAt", "(I)I"⟩
abbrev cX2_letterAt : ByteArray := prog_4_method_9_code
def yX2_letterAt : MethodName := ⟨RX2, "letterAt", "(I)C"⟩
def RX3 : String := "HeartPins$Matching"
def TX3 : u_T := fun k => match k with
  | 0 => ("HeartPins$Matching", "open", "[I", true)
  | 1 => ("HeartPins$Matching", "first", "[I", true)
  | 2 => ("HeartPins$Matching", "marked", "I", false)
  | _ => ("HeartPins$Matching", "ways", "I", false)
def tyX3 : Nat → FieldType := fun k => match k with
  | 0 => .array .int
  | 1 => .array .int
  | 2 => .int
  | _ => .int
theorem nmX3 : ∀ a, a < 4 → ∀ b, b < 4 → a ≠ b → (TX3 a).2.1 ≠ (TX3 b).2.1 := by decide +kernel
theorem tyX3_ok : ∀ k, k < 4 → parseFieldDescriptor (TX3 k).2.2.1 = some (tyX3 k) := by decide +kernel
abbrev cX3_init : ByteArray := prog_5_method_1_code
def yX3_init : MethodName := ⟨RX3, "<init>", "()V"⟩
abbrev cX3_find : ByteArray := prog_5_method_2_code
def yX3_find : MethodName := ⟨RX3, "find", "(LHeartPins$Standing;LHeartPins$Notes;I)V"⟩
abbrev cX3_takeLowest : ByteArray := prog_5_method_3_code
def yX3_takeLowest : MethodName := ⟨RX3, "takeLowest", "(II)I"⟩
abbrev cX3_pinMarked : ByteArray := prog_5_method_4_code
def yX3_pinMarked : MethodName := ⟨RX3, "pinMarked", "(I)I"⟩
def RX4 : String := "HeartPins$Notes"
def TX4 : u_T := fun k => match k with
  | 0 => ("HeartPins$Notes", "seenPin", "[I", true)
  | 1 => ("HeartPins$Notes", "seenDays", "[I", true)
  | 2 => ("HeartPins$Notes", "seenLarge", "[I", true)
  | 3 => ("HeartPins$Notes", "marks", "[I", true)
  | 4 => ("HeartPins$Notes", "seen", "I", false)
  | _ => ("HeartPins$Notes", "marked", "I", false)
def tyX4 : Nat → FieldType := fun k => match k with
  | 0 => .array .int
  | 1 => .array .int
  | 2 => .array .int
  | 3 => .array .int
  | 4 => .int
  | _ => .int
theorem nmX4 : ∀ a, a < 6 → ∀ b, b < 6 → a ≠ b → (TX4 a).2.1 ≠ (TX4 b).2.1 := by decide +kernel
theorem tyX4_ok : ∀ k, k < 6 → parseFieldDescriptor (TX4 k).2.2.1 = some (tyX4 k) := by decide +kernel
abbrev cX4_init : ByteArray := prog_6_method_1_code
def yX4_init : MethodName := ⟨RX4, "<init>", "()V"⟩
abbrev cX4_clear : ByteArray := prog_6_method_2_code
def yX4_clear : MethodName := ⟨RX4, "clear", "()V"⟩
abbrev cX4_addSeen : ByteArray := prog_6_method_3_code
def yX4_addSeen : MethodName := ⟨RX4, "addSeen", "(III)Z"⟩
abbrev cX4_addMark : ByteArray := prog_6_method_4_code
def yX4_addMark : MethodName := ⟨RX4, "addMark", "(I)Z"⟩
abbrev cX4_markAt : ByteArray := prog_6_method_5_code
def yX4_markAt : MethodName := ⟨RX4, "markAt", "(I)I"⟩
abbrev cX4_allSeenFit : ByteArray := prog_6_method_6_code
def yX4_allSeenFit : MethodName := ⟨RX4, "allSeenFit", "(IIII)Z"⟩
def RX5 : String := "HeartPins$Sharing"
def TX5 : u_T := fun k => match k with
  | 0 => ("HeartPins$Sharing", "pins", "[I", true)
  | 1 => ("HeartPins$Sharing", "sizes", "[I", true)
  | 2 => ("HeartPins$Sharing", "tried", "[I", true)
  | 3 => ("HeartPins$Sharing", "bearers", "[I", true)
  | 4 => ("HeartPins$Sharing", "loads", "[I", true)
  | 5 => ("HeartPins$Sharing", "borne", "I", false)
  | 6 => ("HeartPins$Sharing", "persons", "I", false)
  | _ => ("HeartPins$Sharing", "least", "I", false)
def tyX5 : Nat → FieldType := fun k => match k with
  | 0 => .array .int
  | 1 => .array .int
  | 2 => .array .int
  | 3 => .array .int
  | 4 => .array .int
  | 5 => .int
  | 6 => .int
  | _ => .int
theorem nmX5 : ∀ a, a < 8 → ∀ b, b < 8 → a ≠ b → (TX5 a).2.1 ≠ (TX5 b).2.1 := by decide +kernel
theorem tyX5_ok : ∀ k, k < 8 → parseFieldDescriptor (TX5 k).2.2.1 = some (tyX5 k) := by decide +kernel
abbrev cX5_init : ByteArray := prog_7_method_1_code
def yX5_init : MethodName := ⟨RX5, "<init>", "()V"⟩
abbrev cX5_find : ByteArray := prog_7_method_2_code
def yX5_find : MethodName := ⟨RX5, "find", "(LHeartPins$Standing;I)V"⟩
abbrev cX5_bearerOf : ByteArray := prog_7_method_3_code
def yX5_bearerOf : MethodName := ⟨RX5, "bearerOf", "(I)I"⟩
abbrev cX5_tryFrom : ByteArray := prog_7_method_4_code
def yX5_tryFrom : MethodName := ⟨RX5, "tryFrom", "(LHeartPins$Sharing;II)V"⟩
abbrev cX5_isLikeEarlier : ByteArray := prog_7_method_5_code
def yX5_isLikeEarlier : MethodName := ⟨RX5, "isLikeEarlier", "(I)Z"⟩
abbrev cX5_keepTried : ByteArray := prog_7_method_6_code
def yX5_keepTried : MethodName := ⟨RX5, "keepTried", "()V"⟩
def RX6 : String := "HeartPins$Shelf"
def TX6 : u_T := fun k => match k with
  | 0 => ("HeartPins$Shelf", "rows", "[LHeartPins$Standing;", true)
  | _ => ("HeartPins$Shelf", "filled", "I", false)
def tyX6 : Nat → FieldType := fun k => match k with
  | 0 => .array (.object "HeartPins$Standing")
  | _ => .int
theorem nmX6 : ∀ a, a < 2 → ∀ b, b < 2 → a ≠ b → (TX6 a).2.1 ≠ (TX6 b).2.1 := by decide +kernel
theorem tyX6_ok : ∀ k, k < 2 → parseFieldDescriptor (TX6 k).2.2.1 = some (tyX6 k) := by decide +kernel
abbrev cX6_init : ByteArray := prog_8_method_1_code
def yX6_init : MethodName := ⟨RX6, "<init>", "(LHeartPins$Family;I)V"⟩
abbrev cX6_clear : ByteArray := prog_8_method_2_code
def yX6_clear : MethodName := ⟨RX6, "clear", "()V"⟩
abbrev cX6_put : ByteArray := prog_8_method_3_code
def yX6_put : MethodName := ⟨RX6, "put", "(LHeartPins$Standing;)V"⟩
abbrev cX6_take : ByteArray := prog_8_method_4_code
def yX6_take : MethodName := ⟨RX6, "take", "(LHeartPins$Standing;)Z"⟩
abbrev cX6_rowAt : ByteArray := prog_8_method_5_code
def yX6_rowAt : MethodName := ⟨RX6, "rowAt", "(I)LHeartPins$Standing;"⟩
abbrev cX6_dropOldest : ByteArray := prog_8_method_6_code
def yX6_dropOldest : MethodName := ⟨RX6, "dropOldest", "()V"⟩
def RX7 : String := "HeartPins$Standing"
def TX7 : u_T := fun k => match k with
  | 0 => ("HeartPins$Standing", "family", "LHeartPins$Family;", true)
  | 1 => ("HeartPins$Standing", "large", "[I", true)
  | 2 => ("HeartPins$Standing", "where", "[I", true)
  | 3 => ("HeartPins$Standing", "steps", "I", false)
  | _ => ("HeartPins$Standing", "day", "I", false)
def tyX7 : Nat → FieldType := fun k => match k with
  | 0 => .object "HeartPins$Family"
  | 1 => .array .int
  | 2 => .array .int
  | 3 => .int
  | _ => .int
theorem nmX7 : ∀ a, a < 5 → ∀ b, b < 5 → a ≠ b → (TX7 a).2.1 ≠ (TX7 b).2.1 := by decide +kernel
theorem tyX7_ok : ∀ k, k < 5 → parseFieldDescriptor (TX7 k).2.2.1 = some (tyX7 k) := by decide +kernel
abbrev cX7_init : ByteArray := prog_9_method_1_code
def yX7_init : MethodName := ⟨RX7, "<init>", "(LHeartPins$Family;)V"⟩
abbrev cX7_begin : ByteArray := prog_9_method_2_code
def yX7_begin : MethodName := ⟨RX7, "begin", "()V"⟩
abbrev cX7_copyFrom : ByteArray := prog_9_method_3_code
def yX7_copyFrom : MethodName := ⟨RX7, "copyFrom", "(LHeartPins$Standing;)V"⟩
abbrev cX7_largeOf : ByteArray := prog_9_method_4_code
def yX7_largeOf : MethodName := ⟨RX7, "largeOf", "(I)I"⟩
abbrev cX7_whereIs : ByteArray := prog_9_method_5_code
def yX7_whereIs : MethodName := ⟨RX7, "whereIs", "(I)I"⟩
abbrev cX7_isAbout : ByteArray := prog_9_method_6_code
def yX7_isAbout : MethodName := ⟨RX7, "isAbout", "(I)Z"⟩
abbrev cX7_sumAt : ByteArray := prog_9_method_7_code
def yX7_sumAt : MethodName := ⟨RX7, "sumAt", "(I)I"⟩
abbrev cX7_loadOf : ByteArray := prog_9_method_8_code
def yX7_loadOf : MethodName := ⟨RX7, "loadOf", "(I)I"⟩
abbrev cX7_heartSum : ByteArray := prog_9_method_9_code
def yX7_heartSum : MethodName := ⟨RX7, "heartSum", "()I"⟩
abbrev cX7_borneSum : ByteArray := prog_9_method_10_code
def yX7_borneSum : MethodName := ⟨RX7, "borneSum", "()I"⟩
abbrev cX7_pinsWith : ByteArray := prog_9_method_11_code
def yX7_pinsWith : MethodName := ⟨RX7, "pinsWith", "(I)I"⟩
abbrev cX7_borneBits : ByteArray := prog_9_method_12_code
def yX7_borneBits : MethodName := ⟨RX7, "borneBits", "()I"⟩
abbrev cX7_howManyBorne : ByteArray := prog_9_method_13_code
def yX7_howManyBorne : MethodName := ⟨RX7, "howManyBorne", "()I"⟩
abbrev cX7_howManyAt : ByteArray := prog_9_method_14_code
def yX7_howManyAt : MethodName := ⟨RX7, "howManyAt", "(I)I"⟩
abbrev cX7_isBroken : ByteArray := prog_9_method_15_code
def yX7_isBroken : MethodName := ⟨RX7, "isBroken", "(I)Z"⟩
abbrev cX7_howManyBreak : ByteArray := prog_9_method_16_code
def yX7_howManyBreak : MethodName := ⟨RX7, "howManyBreak", "()I"⟩
abbrev cX7_breakingWithout : ByteArray := prog_9_method_17_code
def yX7_breakingWithout : MethodName := ⟨RX7, "breakingWithout", "(I)I"⟩
abbrev cX7_isFull : ByteArray := prog_9_method_18_code
def yX7_isFull : MethodName := ⟨RX7, "isFull", "()Z"⟩
abbrev cX7_isAtDoor : ByteArray := prog_9_method_19_code
def yX7_isAtDoor : MethodName := ⟨RX7, "isAtDoor", "()Z"⟩
abbrev cX7_isCalm : ByteArray := prog_9_method_20_code
def yX7_isCalm : MethodName := ⟨RX7, "isCalm", "()Z"⟩
abbrev cX7_canStick : ByteArray := prog_9_method_21_code
def yX7_canStick : MethodName := ⟨RX7, "canStick", "(I)Z"⟩
abbrev cX7_canFeel : ByteArray := prog_9_method_22_code
def yX7_canFeel : MethodName := ⟨RX7, "canFeel", "(I)Z"⟩
abbrev cX7_canGive : ByteArray := prog_9_method_23_code
def yX7_canGive : MethodName := ⟨RX7, "canGive", "(II)Z"⟩
abbrev cX7_stickIn : ByteArray := prog_9_method_24_code
def yX7_stickIn : MethodName := ⟨RX7, "stickIn", "(I)V"⟩
abbrev cX7_feelFor : ByteArray := prog_9_method_25_code
def yX7_feelFor : MethodName := ⟨RX7, "feelFor", "(II)V"⟩
abbrev cX7_giveTo : ByteArray := prog_9_method_26_code
def yX7_giveTo : MethodName := ⟨RX7, "giveTo", "(II)V"⟩
abbrev cX7_growBorne : ByteArray := prog_9_method_27_code
def yX7_growBorne : MethodName := ⟨RX7, "growBorne", "()V"⟩
abbrev cX7_goDays : ByteArray := prog_9_method_28_code
def yX7_goDays : MethodName := ⟨RX7, "goDays", "(I)V"⟩
abbrev cX7_goDay : ByteArray := prog_9_method_29_code
def yX7_goDay : MethodName := ⟨RX7, "goDay", "()V"⟩
abbrev cX7_changePin : ByteArray := prog_9_method_30_code
def yX7_changePin : MethodName := ⟨RX7, "changePin", "(IZ)V"⟩
abbrev cX7_shakeOut : ByteArray := prog_9_method_31_code
def yX7_shakeOut : MethodName := ⟨RX7, "shakeOut", "()V"⟩
def RX8 : String := "HeartPins"
def TX8 : u_T := fun k => match k with
  | 0 => ("HeartPins", "text", "LHeartPins$Letters;", true)
  | 1 => ("HeartPins", "family", "LHeartPins$Family;", true)
  | 2 => ("HeartPins", "draft", "LHeartPins$Family;", true)
  | 3 => ("HeartPins", "now", "LHeartPins$Standing;", true)
  | 4 => ("HeartPins", "later", "LHeartPins$Standing;", true)
  | 5 => ("HeartPins", "past", "LHeartPins$Shelf;", true)
  | 6 => ("HeartPins", "kept", "LHeartPins$Shelf;", true)
  | 7 => ("HeartPins", "notes", "LHeartPins$Notes;", true)
  | 8 => ("HeartPins", "matching", "LHeartPins$Matching;", true)
  | 9 => ("HeartPins", "sharing", "LHeartPins$Sharing;", true)
  | _ => ("HeartPins", "badDays", "LHeartPins$BadDays;", true)
def tyX8 : Nat → FieldType := fun k => match k with
  | 0 => .object "HeartPins$Letters"
  | 1 => .object "HeartPins$Family"
  | 2 => .object "HeartPins$Family"
  | 3 => .object "HeartPins$Standing"
  | 4 => .object "HeartPins$Standing"
  | 5 => .object "HeartPins$Shelf"
  | 6 => .object "HeartPins$Shelf"
  | 7 => .object "HeartPins$Notes"
  | 8 => .object "HeartPins$Matching"
  | 9 => .object "HeartPins$Sharing"
  | _ => .object "HeartPins$BadDays"
theorem nmX8 : ∀ a, a < 11 → ∀ b, b < 11 → a ≠ b → (TX8 a).2.1 ≠ (TX8 b).2.1 := by decide +kernel
theorem tyX8_ok : ∀ k, k < 11 → parseFieldDescriptor (TX8 k).2.2.1 = some (tyX8 k) := by decide +kernel
abbrev cX8_init : ByteArray := prog_1_method_1_code
def yX8_init : MethodName := ⟨RX8, "<init>", "()V"⟩
abbrev cX8_write : ByteArray := prog_1_method_2_code
def yX8_write : MethodName := ⟨RX8, "write", "(I)I"⟩
abbrev cX8_wipe : ByteArray := prog_1_method_3_code
def yX8_wipe : MethodName := ⟨RX8, "wipe", "()I"⟩
abbrev cX8_fault : ByteArray := prog_1_method_4_code
def yX8_fault : MethodName := ⟨RX8, "fault", "()I"⟩
abbrev cX8_lay : ByteArray := prog_1_method_5_code
def yX8_lay : MethodName := ⟨RX8, "lay", "()I"⟩
abbrev cX8_person : ByteArray := prog_1_method_6_code
def yX8_person : MethodName := ⟨RX8, "person", "(II)I"⟩
abbrev cX8_pin : ByteArray := prog_1_method_7_code
def yX8_pin : MethodName := ⟨RX8, "pin", "(II)I"⟩
abbrev cX8_heart : ByteArray := prog_1_method_8_code
def yX8_heart : MethodName := ⟨RX8, "heart", "(I)I"⟩
abbrev cX8_stick : ByteArray := prog_1_method_9_code
def yX8_stick : MethodName := ⟨RX8, "stick", "(I)I"⟩
abbrev cX8_feel : ByteArray := prog_1_method_10_code
def yX8_feel : MethodName := ⟨RX8, "feel", "(II)I"⟩
abbrev cX8_bear : ByteArray := prog_1_method_11_code
def yX8_bear : MethodName := ⟨RX8, "bear", "(II)I"⟩
abbrev cX8_pass : ByteArray := prog_1_method_12_code
def yX8_pass : MethodName := ⟨RX8, "pass", "(I)I"⟩
abbrev cX8_undo : ByteArray := prog_1_method_13_code
def yX8_undo : MethodName := ⟨RX8, "undo", "()I"⟩
abbrev cX8_behind : ByteArray := prog_1_method_14_code
def yX8_behind : MethodName := ⟨RX8, "behind", "(II)I"⟩
abbrev cX8_walked : ByteArray := prog_1_method_15_code
def yX8_walked : MethodName := ⟨RX8, "walked", "(I)I"⟩
abbrev cX8_breaks : ByteArray := prog_1_method_16_code
def yX8_breaks : MethodName := ⟨RX8, "breaks", "(I)I"⟩
abbrev cX8_door : ByteArray := prog_1_method_17_code
def yX8_door : MethodName := ⟨RX8, "door", "()I"⟩
abbrev cX8_best : ByteArray := prog_1_method_18_code
def yX8_best : MethodName := ⟨RX8, "best", "(II)I"⟩
abbrev cX8_share : ByteArray := prog_1_method_19_code
def yX8_share : MethodName := ⟨RX8, "share", "(I)I"⟩
abbrev cX8_relief : ByteArray := prog_1_method_20_code
def yX8_relief : MethodName := ⟨RX8, "relief", "(I)I"⟩
abbrev cX8_pair : ByteArray := prog_1_method_21_code
def yX8_pair : MethodName := ⟨RX8, "pair", "(I)I"⟩
abbrev cX8_see : ByteArray := prog_1_method_22_code
def yX8_see : MethodName := ⟨RX8, "see", "(III)I"⟩
abbrev cX8_mark : ByteArray := prog_1_method_23_code
def yX8_mark : MethodName := ⟨RX8, "mark", "(I)I"⟩
abbrev cX8_forget : ByteArray := prog_1_method_24_code
def yX8_forget : MethodName := ⟨RX8, "forget", "()I"⟩
abbrev cX8_kinds : ByteArray := prog_1_method_25_code
def yX8_kinds : MethodName := ⟨RX8, "kinds", "(I)I"⟩
abbrev cX8_which : ByteArray := prog_1_method_26_code
def yX8_which : MethodName := ⟨RX8, "which", "(II)I"⟩
abbrev cX8_bad : ByteArray := prog_1_method_27_code
def yX8_bad : MethodName := ⟨RX8, "bad", "(IIII)I"⟩
abbrev cX8_month : ByteArray := prog_1_method_28_code
def yX8_month : MethodName := ⟨RX8, "month", "(III)I"⟩
abbrev cX8_keep : ByteArray := prog_1_method_29_code
def yX8_keep : MethodName := ⟨RX8, "keep", "()I"⟩
abbrev cX8_back : ByteArray := prog_1_method_30_code
def yX8_back : MethodName := ⟨RX8, "back", "()I"⟩
abbrev cX8_count : ByteArray := prog_1_method_31_code
def yX8_count : MethodName := ⟨RX8, "count", "(I)I"⟩
abbrev cX8_isWithin : ByteArray := prog_1_method_32_code
def yX8_isWithin : MethodName := ⟨RX8, "isWithin", "(III)Z"⟩
abbrev cX8_placeNumber : ByteArray := prog_1_method_33_code
def yX8_placeNumber : MethodName := ⟨RX8, "placeNumber", "(I)I"⟩
abbrev cX8_lookBehind : ByteArray := prog_1_method_34_code
def yX8_lookBehind : MethodName := ⟨RX8, "lookBehind", "(I)V"⟩
abbrev cX8_bestSet : ByteArray := prog_1_method_35_code
def yX8_bestSet : MethodName := ⟨RX8, "bestSet", "(I)I"⟩
abbrev cX8_isCalmWith : ByteArray := prog_1_method_36_code
def yX8_isCalmWith : MethodName := ⟨RX8, "isCalmWith", "(II)Z"⟩
abbrev cX8_drawOf : ByteArray := prog_1_method_37_code
def yX8_drawOf : MethodName := ⟨RX8, "drawOf", "(II)I"⟩
abbrev cX8_actByDraw : ByteArray := prog_1_method_38_code
def yX8_actByDraw : MethodName := ⟨RX8, "actByDraw", "(LHeartPins$Standing;I)V"⟩
abbrev cX8_greatestDivisor : ByteArray := prog_1_method_39_code
def yX8_greatestDivisor : MethodName := ⟨RX8, "greatestDivisor", "(JJ)J"⟩
abbrev cX8_largeBehindDay : ByteArray := prog_1_method_40_code
def yX8_largeBehindDay : MethodName := ⟨RX8, "largeBehindDay", "(III)I"⟩
abbrev cX8_largeBehind : ByteArray := prog_1_method_41_code
def yX8_largeBehind : MethodName := ⟨RX8, "largeBehind", "(IIII)I"⟩
def RX9 : String := "HeartPinsModel"
def TX9 : u_T := fun k => match k with
  | 0 => ("HeartPinsModel", "text", "[B", true)
  | 1 => ("HeartPinsModel", "typed", "I", false)
  | 2 => ("HeartPinsModel", "people", "[I", true)
  | 3 => ("HeartPinsModel", "pins", "[I", true)
  | 4 => ("HeartPinsModel", "heart", "[I", true)
  | 5 => ("HeartPinsModel", "can", "[I", true)
  | 6 => ("HeartPinsModel", "whose", "[I", true)
  | 7 => ("HeartPinsModel", "kind", "[I", true)
  | 8 => ("HeartPinsModel", "large", "[I", true)
  | 9 => ("HeartPinsModel", "at", "I", false)
  | 10 => ("HeartPinsModel", "isWrong", "Z", false)
  | 11 => ("HeartPinsModel", "now", "[I", true)
  | 12 => ("HeartPinsModel", "before", "[I", true)
  | 13 => ("HeartPinsModel", "many", "I", false)
  | 14 => ("HeartPinsModel", "store", "[I", true)
  | 15 => ("HeartPinsModel", "kept", "I", false)
  | 16 => ("HeartPinsModel", "tried", "[I", true)
  | 17 => ("HeartPinsModel", "borne", "[I", true)
  | 18 => ("HeartPinsModel", "least", "[I", true)
  | 19 => ("HeartPinsModel", "sightOf", "[I", true)
  | 20 => ("HeartPinsModel", "sightBy", "[I", true)
  | 21 => ("HeartPinsModel", "sightIs", "[I", true)
  | 22 => ("HeartPinsModel", "sights", "I", false)
  | 23 => ("HeartPinsModel", "marked", "[I", true)
  | 24 => ("HeartPinsModel", "marks", "I", false)
  | _ => ("HeartPinsModel", "waysBy", "[I", true)
def tyX9 : Nat → FieldType := fun k => match k with
  | 0 => .array .byte
  | 1 => .int
  | 2 => .array .int
  | 3 => .array .int
  | 4 => .array .int
  | 5 => .array .int
  | 6 => .array .int
  | 7 => .array .int
  | 8 => .array .int
  | 9 => .int
  | 10 => .boolean
  | 11 => .array .int
  | 12 => .array .int
  | 13 => .int
  | 14 => .array .int
  | 15 => .int
  | 16 => .array .int
  | 17 => .array .int
  | 18 => .array .int
  | 19 => .array .int
  | 20 => .array .int
  | 21 => .array .int
  | 22 => .int
  | 23 => .array .int
  | 24 => .int
  | _ => .array .int
theorem nmX9 : ∀ a, a < 26 → ∀ b, b < 26 → a ≠ b → (TX9 a).2.1 ≠ (TX9 b).2.1 := by decide +kernel
theorem tyX9_ok : ∀ k, k < 26 → parseFieldDescriptor (TX9 k).2.2.1 = some (tyX9 k) := by decide +kernel
abbrev cX9_init : ByteArray := prog_11_method_1_code
def yX9_init : MethodName := ⟨RX9, "<init>", "()V"⟩
abbrev cX9_in : ByteArray := prog_11_method_3_code
def yX9_in : MethodName := ⟨RX9, "in", "(III)Z"⟩
abbrev cX9_has : ByteArray := prog_11_method_4_code
def yX9_has : MethodName := ⟨RX9, "has", "(II)Z"⟩
abbrev cX9_bitsOf : ByteArray := prog_11_method_5_code
def yX9_bitsOf : MethodName := ⟨RX9, "bitsOf", "(I)I"⟩
abbrev cX9_write : ByteArray := prog_11_method_6_code
def yX9_write : MethodName := ⟨RX9, "write", "(I)I"⟩
abbrev cX9_wipe : ByteArray := prog_11_method_7_code
def yX9_wipe : MethodName := ⟨RX9, "wipe", "()I"⟩
abbrev cX9_here : ByteArray := prog_11_method_8_code
def yX9_here : MethodName := ⟨RX9, "here", "()I"⟩
abbrev cX9_isFigure : ByteArray := prog_11_method_9_code
def yX9_isFigure : MethodName := ⟨RX9, "isFigure", "()Z"⟩
abbrev cX9_due : ByteArray := prog_11_method_10_code
def yX9_due : MethodName := ⟨RX9, "due", "(I)V"⟩
abbrev cX9_number : ByteArray := prog_11_method_11_code
def yX9_number : MethodName := ⟨RX9, "number", "(II)I"⟩
abbrev cX9_readPerson : ByteArray := prog_11_method_12_code
def yX9_readPerson : MethodName := ⟨RX9, "readPerson", "()V"⟩
abbrev cX9_readPin : ByteArray := prog_11_method_13_code
def yX9_readPin : MethodName := ⟨RX9, "readPin", "()V"⟩
abbrev cX9_readHeart : ByteArray := prog_11_method_14_code
def yX9_readHeart : MethodName := ⟨RX9, "readHeart", "()V"⟩
abbrev cX9_tellHeart : ByteArray := prog_11_method_15_code
def yX9_tellHeart : MethodName := ⟨RX9, "tellHeart", "(III)V"⟩
abbrev cX9_readItem : ByteArray := prog_11_method_16_code
def yX9_readItem : MethodName := ⟨RX9, "readItem", "()V"⟩
abbrev cX9_begin : ByteArray := prog_11_method_17_code
def yX9_begin : MethodName := ⟨RX9, "begin", "()V"⟩
abbrev cX9_read : ByteArray := prog_11_method_18_code
def yX9_read : MethodName := ⟨RX9, "read", "()I"⟩
abbrev cX9_fault : ByteArray := prog_11_method_19_code
def yX9_fault : MethodName := ⟨RX9, "fault", "()I"⟩
abbrev cX9_tellPerson : ByteArray := prog_11_method_20_code
def yX9_tellPerson : MethodName := ⟨RX9, "tellPerson", "(I)V"⟩
abbrev cX9_tellPin : ByteArray := prog_11_method_21_code
def yX9_tellPin : MethodName := ⟨RX9, "tellPin", "(III)V"⟩
abbrev cX9_first : ByteArray := prog_11_method_22_code
def yX9_first : MethodName := ⟨RX9, "first", "()V"⟩
abbrev cX9_takeDraft : ByteArray := prog_11_method_23_code
def yX9_takeDraft : MethodName := ⟨RX9, "takeDraft", "()V"⟩
abbrev cX9_lay : ByteArray := prog_11_method_24_code
def yX9_lay : MethodName := ⟨RX9, "lay", "()I"⟩
abbrev cX9_take : ByteArray := prog_11_method_25_code
def yX9_take : MethodName := ⟨RX9, "take", "()V"⟩
abbrev cX9_isPerson : ByteArray := prog_11_method_26_code
def yX9_isPerson : MethodName := ⟨RX9, "isPerson", "(I)Z"⟩
abbrev cX9_isPin : ByteArray := prog_11_method_27_code
def yX9_isPin : MethodName := ⟨RX9, "isPin", "(I)Z"⟩
abbrev cX9_isBorne : ByteArray := prog_11_method_28_code
def yX9_isBorne : MethodName := ⟨RX9, "isBorne", "([II)Z"⟩
abbrev cX9_those : ByteArray := prog_11_method_29_code
def yX9_those : MethodName := ⟨RX9, "those", "([II)I"⟩
abbrev cX9_borne : ByteArray := prog_11_method_30_code
def yX9_borne : MethodName := ⟨RX9, "borne", "([I)I"⟩
abbrev cX9_sizeOf : ByteArray := prog_11_method_31_code
def yX9_sizeOf : MethodName := ⟨RX9, "sizeOf", "([II)I"⟩
abbrev cX9_load : ByteArray := prog_11_method_32_code
def yX9_load : MethodName := ⟨RX9, "load", "([II)I"⟩
abbrev cX9_doesBreak : ByteArray := prog_11_method_33_code
def yX9_doesBreak : MethodName := ⟨RX9, "doesBreak", "([II)Z"⟩
abbrev cX9_broken : ByteArray := prog_11_method_34_code
def yX9_broken : MethodName := ⟨RX9, "broken", "([I)I"⟩
abbrev cX9_isFull : ByteArray := prog_11_method_35_code
def yX9_isFull : MethodName := ⟨RX9, "isFull", "([I)Z"⟩
abbrev cX9_isAtDoor : ByteArray := prog_11_method_36_code
def yX9_isAtDoor : MethodName := ⟨RX9, "isAtDoor", "([I)Z"⟩
abbrev cX9_grown : ByteArray := prog_11_method_37_code
def yX9_grown : MethodName := ⟨RX9, "grown", "(III)I"⟩
abbrev cX9_passOn : ByteArray := prog_11_method_38_code
def yX9_passOn : MethodName := ⟨RX9, "passOn", "([I)V"⟩
abbrev cX9_person : ByteArray := prog_11_method_39_code
def yX9_person : MethodName := ⟨RX9, "person", "(II)I"⟩
abbrev cX9_pin : ByteArray := prog_11_method_40_code
def yX9_pin : MethodName := ⟨RX9, "pin", "(II)I"⟩
abbrev cX9_heart : ByteArray := prog_11_method_41_code
def yX9_heart : MethodName := ⟨RX9, "heart", "(I)I"⟩
abbrev cX9_know : ByteArray := prog_11_method_42_code
def yX9_know : MethodName := ⟨RX9, "know", "()V"⟩
abbrev cX9_stick : ByteArray := prog_11_method_43_code
def yX9_stick : MethodName := ⟨RX9, "stick", "(I)I"⟩
abbrev cX9_feel : ByteArray := prog_11_method_44_code
def yX9_feel : MethodName := ⟨RX9, "feel", "(II)I"⟩
abbrev cX9_bear : ByteArray := prog_11_method_45_code
def yX9_bear : MethodName := ⟨RX9, "bear", "(II)I"⟩
abbrev cX9_pass : ByteArray := prog_11_method_46_code
def yX9_pass : MethodName := ⟨RX9, "pass", "(I)I"⟩
abbrev cX9_undo : ByteArray := prog_11_method_47_code
def yX9_undo : MethodName := ⟨RX9, "undo", "()I"⟩
abbrev cX9_goOn : ByteArray := prog_11_method_48_code
def yX9_goOn : MethodName := ⟨RX9, "goOn", "(I)V"⟩
abbrev cX9_behind : ByteArray := prog_11_method_49_code
def yX9_behind : MethodName := ⟨RX9, "behind", "(II)I"⟩
abbrev cX9_walked : ByteArray := prog_11_method_50_code
def yX9_walked : MethodName := ⟨RX9, "walked", "(I)I"⟩
abbrev cX9_breaks : ByteArray := prog_11_method_51_code
def yX9_breaks : MethodName := ⟨RX9, "breaks", "(I)I"⟩
abbrev cX9_door : ByteArray := prog_11_method_52_code
def yX9_door : MethodName := ⟨RX9, "door", "()I"⟩
abbrev cX9_isWellBy : ByteArray := prog_11_method_53_code
def yX9_isWellBy : MethodName := ⟨RX9, "isWellBy", "(II)Z"⟩
abbrev cX9_best : ByteArray := prog_11_method_54_code
def yX9_best : MethodName := ⟨RX9, "best", "(II)I"⟩
abbrev cX9_leastFor : ByteArray := prog_11_method_55_code
def yX9_leastFor : MethodName := ⟨RX9, "leastFor", "(I)I"⟩
abbrev cX9_share : ByteArray := prog_11_method_56_code
def yX9_share : MethodName := ⟨RX9, "share", "(I)I"⟩
abbrev cX9_brokenWithout : ByteArray := prog_11_method_57_code
def yX9_brokenWithout : MethodName := ⟨RX9, "brokenWithout", "(I)I"⟩
abbrev cX9_relief : ByteArray := prog_11_method_58_code
def yX9_relief : MethodName := ⟨RX9, "relief", "(I)I"⟩
abbrev cX9_pair : ByteArray := prog_11_method_59_code
def yX9_pair : MethodName := ⟨RX9, "pair", "(I)I"⟩
abbrev cX9_see : ByteArray := prog_11_method_60_code
def yX9_see : MethodName := ⟨RX9, "see", "(III)I"⟩
abbrev cX9_mark : ByteArray := prog_11_method_61_code
def yX9_mark : MethodName := ⟨RX9, "mark", "(I)I"⟩
abbrev cX9_forget : ByteArray := prog_11_method_62_code
def yX9_forget : MethodName := ⟨RX9, "forget", "()I"⟩
abbrev cX9_sizeBy : ByteArray := prog_11_method_63_code
def yX9_sizeBy : MethodName := ⟨RX9, "sizeBy", "(III)I"⟩
abbrev cX9_kinds : ByteArray := prog_11_method_64_code
def yX9_kinds : MethodName := ⟨RX9, "kinds", "(I)I"⟩
abbrev cX9_tellWays : ByteArray := prog_11_method_65_code
def yX9_tellWays : MethodName := ⟨RX9, "tellWays", "(II)V"⟩
abbrev cX9_which : ByteArray := prog_11_method_66_code
def yX9_which : MethodName := ⟨RX9, "which", "(II)I"⟩
abbrev cX9_breaksBy : ByteArray := prog_11_method_67_code
def yX9_breaksBy : MethodName := ⟨RX9, "breaksBy", "(III)Z"⟩
abbrev cX9_bad : ByteArray := prog_11_method_68_code
def yX9_bad : MethodName := ⟨RX9, "bad", "(IIII)I"⟩
abbrev cX9_turn : ByteArray := prog_11_method_69_code
def yX9_turn : MethodName := ⟨RX9, "turn", "(I)V"⟩
abbrev cX9_month : ByteArray := prog_11_method_70_code
def yX9_month : MethodName := ⟨RX9, "month", "(III)I"⟩
abbrev cX9_keep : ByteArray := prog_11_method_71_code
def yX9_keep : MethodName := ⟨RX9, "keep", "()I"⟩
abbrev cX9_back : ByteArray := prog_11_method_72_code
def yX9_back : MethodName := ⟨RX9, "back", "()I"⟩
abbrev cX9_count : ByteArray := prog_11_method_73_code
def yX9_count : MethodName := ⟨RX9, "count", "(I)I"⟩
def RJ6 : String := "java/lang/Integer"
abbrev cJ6_bitCount_0f7a4 : ByteArray := prog_12_method_49_code
def yJ6_bitCount_0f7a4 : MethodName := ⟨RJ6, "bitCount", "(I)I"⟩
def RJ9 : String := "java/lang/Math"
abbrev cJ9_max_7cf53 : ByteArray := prog_13_method_65_code
def yJ9_max_7cf53 : MethodName := ⟨RJ9, "max", "(II)I"⟩
abbrev cJ9_min_7cf53 : ByteArray := prog_13_method_69_code
def yJ9_min_7cf53 : MethodName := ⟨RJ9, "min", "(II)I"⟩
def RJ0 : String := "java/lang/String"
abbrev cJ0_length_8abf5 : ByteArray := prog_14_method_54_code
def yJ0_length_8abf5 : MethodName := ⟨RJ0, "length", "()I"⟩
abbrev cJ0_charAt_5068e : ByteArray := prog_14_method_56_code
def yJ0_charAt_5068e : MethodName := ⟨RJ0, "charAt", "(I)C"⟩
abbrev cJ0_coder_7d493 : ByteArray := prog_14_method_152_code
def yJ0_coder_7d493 : MethodName := ⟨RJ0, "coder", "()B"⟩
abbrev cJ0_isLatin1_aae02 : ByteArray := prog_14_method_154_code
def yJ0_isLatin1_aae02 : MethodName := ⟨RJ0, "isLatin1", "()Z"⟩
abbrev cJ0_checkIndex_df160 : ByteArray := prog_14_method_155_code
def yJ0_checkIndex_df160 : MethodName := ⟨RJ0, "checkIndex", "(II)V"⟩
def RJ1 : String := "java/lang/StringLatin1"
abbrev cJ1_charAt_3b067 : ByteArray := prog_15_method_2_code
def yJ1_charAt_3b067 : MethodName := ⟨RJ1, "charAt", "([BI)C"⟩
def RJ2 : String := "java/lang/StringUTF16"
abbrev cJ2_getChar_3b067 : ByteArray := prog_16_method_5_code
def yJ2_getChar_3b067 : MethodName := ⟨RJ2, "getChar", "([BI)C"⟩
abbrev cJ2_length_9d52b : ByteArray := prog_16_method_6_code
def yJ2_length_9d52b : MethodName := ⟨RJ2, "length", "([B)I"⟩
abbrev cJ2_charAt_3b067 : ByteArray := prog_16_method_83_code
def yJ2_charAt_3b067 : MethodName := ⟨RJ2, "charAt", "([BI)C"⟩
abbrev cJ2_checkIndex_2214a : ByteArray := prog_16_method_91_code
def yJ2_checkIndex_2214a : MethodName := ⟨RJ2, "checkIndex", "(I[B)V"⟩
def RJ3 : String := "jdk/internal/util/Preconditions"
abbrev cJ3_checkIndex_8e157 : ByteArray := prog_17_method_11_code
def yJ3_checkIndex_8e157 : MethodName := ⟨RJ3, "checkIndex", "(IILjava/util/function/BiFunction;)I"⟩
def RL : String := "HeartPinsLaw"
abbrev cL_law : ByteArray := code
def yL_law : MethodName := ⟨RL, "law", "([I)Z"⟩
abbrev vwCl : List vw_C := [(RX0, TX0, 4), (RX1, TX1, 9), (RX2, TX2, 4), (RX3, TX3, 4), (RX4, TX4, 6), (RX5, TX5, 8), (RX6, TX6, 2), (RX7, TX7, 5), (RX8, TX8, 11), (RX9, TX9, 26)]
/-- the tables' words that go along with a call -/
def wT : List Cond := lw_tbl.filter goodWord
theorem mT {w : Cond} (i : Nat) (h : lw_tbl[i]? = some w) (hg : goodWord w = true) : w ∈ wT := List.mem_filter.mpr ⟨List.mem_of_getElem? h, hg⟩
theorem mTs {ws : List Cond} (ps : List Nat) (h : ws = ps.filterMap (fun i => lw_tbl[i]?)) (hg : ws.all goodWord = true) : ∀ w ∈ ws, w ∈ wT := by
  intro w hw
  have h1 := List.all_eq_true.mp hg w hw
  rw [h] at hw
  obtain ⟨i, -, hi⟩ := List.mem_filterMap.mp hw
  exact mT i hi h1
theorem wIn0 : ∀ w ∈ u_ws RX0 TX0 4, w ∈ wT := mTs [283, 285, 287, 289] (by decide +kernel) (by decide +kernel)
theorem wIn1 : ∀ w ∈ u_ws RX1 TX1 9, w ∈ wT := mTs [126, 128, 130, 132, 134, 136, 138, 140, 142] (by decide +kernel) (by decide +kernel)
theorem wIn2 : ∀ w ∈ u_ws RX2 TX2 4, w ∈ wT := mTs [89, 91, 93, 95] (by decide +kernel) (by decide +kernel)
theorem wIn3 : ∀ w ∈ u_ws RX3 TX3 4, w ∈ wT := mTs [230, 232, 234, 236] (by decide +kernel) (by decide +kernel)
theorem wIn4 : ∀ w ∈ u_ws RX4 TX4 6, w ∈ wT := mTs [206, 208, 210, 212, 214, 216] (by decide +kernel) (by decide +kernel)
theorem wIn5 : ∀ w ∈ u_ws RX5 TX5 8, w ∈ wT := mTs [254, 256, 258, 260, 262, 264, 266, 268] (by decide +kernel) (by decide +kernel)
theorem wIn6 : ∀ w ∈ u_ws RX6 TX6 2, w ∈ wT := mTs [186, 188] (by decide +kernel) (by decide +kernel)
theorem wIn7 : ∀ w ∈ u_ws RX7 TX7 5, w ∈ wT := mTs [160, 162, 164, 166, 168] (by decide +kernel) (by decide +kernel)
theorem wIn8 : ∀ w ∈ u_ws RX8 TX8 11, w ∈ wT := mTs [432, 434, 436, 438, 440, 442, 444, 446, 448, 450, 452] (by decide +kernel) (by decide +kernel)
theorem wIn9 : ∀ w ∈ u_ws RX9 TX9 26, w ∈ wT := mTs [915, 917, 919, 921, 923, 925, 927, 929, 931, 933, 935, 937, 939, 941, 943, 945, 947, 949, 951, 953, 955, 957, 959, 961, 963, 965] (by decide +kernel) (by decide +kernel)
end
section
/-! THE HEAP AS FUNCTIONS: cells by their place in the order of making; ints and references apart; what an instruction does to them -/
abbrev Dt : Type := Nat → Nat → Int32
abbrev Ft : Type := Nat → Nat → Option Nat
abbrev Cx : Type := va_G × (ClassId × ClassId × ClassId × ClassId) × Nat
def SHl : List Nat := [8, 2, 20200, 30003, 1, 30005, 30008, 30008, 30008, 1, 30005, 30008, 30008, 30008, 7, 30008, 30008, 7, 30008, 30008, 6, 40008, 7, 30008, 30008, 7, 30008, 30008, 7, 30008, 30008, 7, 30008, 30008, 7, 30008, 30008, 7, 30008, 30008, 7, 30008, 30008, 7, 30008, 30008, 6, 40002, 7, 30008, 30008, 7, 30008, 30008, 4, 30008, 30008, 30008, 30008, 3, 30008, 30008, 5, 30008, 30008, 30008, 30008, 30005, 0, 40009, 7, 30008, 30008, 7, 30008, 30008, 7, 30008, 30008, 7, 30008, 30008, 7, 30008, 30008, 7, 30008, 30008, 7, 30008, 30008, 7, 30008, 30008, 7, 30008, 30008, 9, 10200, 30002, 30002, 30006, 30010, 30016, 30016, 30016, 30018, 30144, 30036, 30018, 30005, 31536, 30008, 30008, 30008, 30008, 30256]
def SH (a : Nat) : Nat := SHl.getD a 999999
def kd (nx a : Nat) : Nat := if a < nx then SH a else 999999
def FIl : List (List Bool) := [[false, true, true, true], [false, false, false, false, true, true, true, true, true], [false, false, true, true], [false, false, true, true], [false, false, false, false, true, true], [false, false, false, false, false, true, true, true], [false, true], [false, false, false, true, true], [false, false, false, false, false, false, false, false, false, false, false], [false, true, false, false, false, false, false, false, false, true, true, false, false, true, false, true, false, false, false, false, false, false, true, false, true, false]]
def isI (ci j : Nat) : Bool := (FIl.getD ci []).getD j false
def nfs (ci : Nat) : Nat := (FIl.getD ci []).length
def rv (cx : Cx) (r : Option Nat) : Value := va_rf (r.map fun q => cx.2.2 + q)
def fld (cx : Cx) (ci : Nat) (d : Nat → Int32) (r : Nat → Option Nat) (j : Nat) : Value := if isI ci j = true then .int (d j) else rv cx (r j)
def flds (cx : Cx) (ci : Nat) (d : Nat → Int32) (r : Nat → Option Nat) : List Value := (List.range (nfs ci)).map (fld cx ci d r)
def cellE (cx : Cx) (k : Nat) (d : Nat → Int32) (r : Nat → Option Nat) : va_E := match k / 10000 with
  | 0 => .inr (k, flds cx k d r)
  | 1 => .inl (cx.2.1.1, k % 10000, .inl d)
  | 2 => .inl (cx.2.1.2.1, k % 10000, .inl d)
  | 3 => .inl (cx.2.1.2.2.1, k % 10000, .inl d)
  | _ => .inl (cx.2.1.2.2.2, k % 10000, .inr (.inr (.inr (.inr fun j => (r j).map fun q => cx.2.2 + q))))
def upd2 (D : Dt) (a k : Nat) (v : Int32) : Dt := fun q => if q = a then upd (D a) k v else D q
def updF (P : Ft) (a k : Nat) (v : Option Nat) : Ft := fun q => if q = a then va_up (P a) k v else P q
theorem upd2_s {D : Dt} {a k : Nat} {v : Int32} : upd2 D a k v a = upd (D a) k v := if_pos rfl
theorem upd2_n {D : Dt} {a k q : Nat} {v : Int32} (h : q ≠ a) : upd2 D a k v q = D q := if_neg h
theorem updF_s {P : Ft} {a k : Nat} {v : Option Nat} : updF P a k v a = va_up (P a) k v := if_pos rfl
theorem updF_n {P : Ft} {a k q : Nat} {v : Option Nat} (h : q ≠ a) : updF P a k v q = P q := if_neg h
def tysOf (cx : Cx) : List (ClassId × FieldType) := [(cx.2.1.1, .byte), (cx.2.1.2.1, .char), (cx.2.1.2.2.1, .int), (cx.2.1.2.2.2, .object "HeartPins$Standing")]
def nestW : List Cond := [.methodLinkNest "HeartPins" 11 ⟨"HeartPins$Letters", "<init>", "()V"⟩ "HeartPins", .methodLinkNest "HeartPins" 18 ⟨"HeartPins$Family", "<init>", "()V"⟩ "HeartPins", .methodLinkNest "HeartPins" 52 ⟨"HeartPins$Notes", "<init>", "()V"⟩ "HeartPins", .methodLinkNest "HeartPins" 59 ⟨"HeartPins$Matching", "<init>", "()V"⟩ "HeartPins", .methodLinkNest "HeartPins" 66 ⟨"HeartPins$Sharing", "<init>", "()V"⟩ "HeartPins", .methodLinkNest "HeartPins$Letters" 23 ⟨"HeartPins", "isWithin", "(III)Z"⟩ "HeartPins", .methodLinkNest "HeartPins$Family" 40 ⟨"HeartPins", "isWithin", "(III)Z"⟩ "HeartPins", .methodLinkNest "HeartPins$Standing" 129 ⟨"HeartPins", "largeBehindDay", "(III)I"⟩ "HeartPins", .methodLinkNest "HeartPins$Notes" 31 ⟨"HeartPins", "isWithin", "(III)Z"⟩ "HeartPins", .methodLinkNest "HeartPins$Notes" 35 ⟨"HeartPins", "largeBehind", "(IIII)I"⟩ "HeartPins", .methodLinkNest "HeartPins$Matching" 40 ⟨"HeartPins", "largeBehind", "(IIII)I"⟩ "HeartPins"]
def Rep (cx : Cx) (D : Dt) (P : Ft) (nx : Nat) (H : Heap) : Prop := H.size = cx.2.2 + nx ∧ ∀ a, a < nx → va_at cx.1 vwCl (cx.2.2 + a, cellE cx (SH a) (D a) (P a)) H
def KK (cx : Cx) (U : State) : Prop := va_K cx.1 vwCl (tysOf cx) U ∧ ∀ w ∈ nestW, va_Nw w U
def Wd (cx : Cx) (D : Dt) (P : Ft) (nx : Nat) (U : State) : Prop := Rep cx D P nx U.heap ∧ KK cx U
def AA (cx : Cx) : Nat → Prop := fun q => cx.2.2 ≤ q
def ab (nx a t : Nat) (i : Int32) : Bool := decide (kd nx a / 10000 = t) && !(decide (i < 0) || decide (kd nx a % 10000 ≤ i.toNatClampNeg))
theorem kd_lt {nx a : Nat} (h : kd nx a < 50000) : a < nx ∧ SH a = kd nx a := by
  unfold kd at h ⊢
  by_cases q : a < nx
  · rw [if_pos q]; exact ⟨q, rfl⟩
  · rw [if_neg q] at h; omega
theorem ab_sp {nx a t : Nat} {i : Int32} (h : ab nx a t i = true) (ht : t < 5) : a < nx ∧ SH a / 10000 = t ∧ vp_in i (SH a % 10000) := by
  unfold ab at h
  simp only [Bool.and_eq_true, Bool.not_eq_true', Bool.or_eq_false_iff, decide_eq_true_eq, decide_eq_false_iff_not] at h
  obtain ⟨h1, h2, h3⟩ := h
  obtain ⟨k1, k2⟩ := kd_lt (nx := nx) (a := a) (by omega)
  rw [k2]
  exact ⟨k1, h1, fun q => q.elim h2 h3⟩
theorem cls_all {ci n : Nat} {C : String} {T : u_T} (hc : vwCl[ci]? = some (C, T, n)) : (∀ w ∈ u_ws C T n, w ∈ wT) ∧ (∃ ty0 : Nat → FieldType, (∀ k, k < n → parseFieldDescriptor (T k).2.2.1 = some (ty0 k)) ∧ (∀ a, a < n → ∀ b, b < n → a ≠ b → (T a).2.1 ≠ (T b).2.1)) := by
  suffices h : (∀ w ∈ u_ws C T n, w ∈ wT) ∧ (∀ a, a < n → ∀ b, b < n → a ≠ b → (T a).2.1 ≠ (T b).2.1) ∧ ∃ ty0 : Nat → FieldType, (∀ k, k < n → parseFieldDescriptor (T k).2.2.1 = some (ty0 k)) from ⟨h.1, h.2.2.choose, h.2.2.choose_spec, h.2.1⟩
  have key : ∀ (ci : Nat), vwCl[ci]? = some (C, T, n) → (∀ w ∈ u_ws C T n, w ∈ wT) ∧ (∀ a, a < n → ∀ b, b < n → a ≠ b → (T a).2.1 ≠ (T b).2.1) ∧ ∃ ty0 : Nat → FieldType, (∀ k, k < n → parseFieldDescriptor (T k).2.2.1 = some (ty0 k)) := by
    intro ci hc
    match ci, hc with
    | 0, hc => cases (Option.some.inj (show some (RX0, TX0, 4) = some (C, T, n) from hc)); exact ⟨wIn0, nmX0, tyX0, tyX0_ok⟩
    | 1, hc => cases (Option.some.inj (show some (RX1, TX1, 9) = some (C, T, n) from hc)); exact ⟨wIn1, nmX1, tyX1, tyX1_ok⟩
    | 2, hc => cases (Option.some.inj (show some (RX2, TX2, 4) = some (C, T, n) from hc)); exact ⟨wIn2, nmX2, tyX2, tyX2_ok⟩
    | 3, hc => cases (Option.some.inj (show some (RX3, TX3, 4) = some (C, T, n) from hc)); exact ⟨wIn3, nmX3, tyX3, tyX3_ok⟩
    | 4, hc => cases (Option.some.inj (show some (RX4, TX4, 6) = some (C, T, n) from hc)); exact ⟨wIn4, nmX4, tyX4, tyX4_ok⟩
    | 5, hc => cases (Option.some.inj (show some (RX5, TX5, 8) = some (C, T, n) from hc)); exact ⟨wIn5, nmX5, tyX5, tyX5_ok⟩
    | 6, hc => cases (Option.some.inj (show some (RX6, TX6, 2) = some (C, T, n) from hc)); exact ⟨wIn6, nmX6, tyX6, tyX6_ok⟩
    | 7, hc => cases (Option.some.inj (show some (RX7, TX7, 5) = some (C, T, n) from hc)); exact ⟨wIn7, nmX7, tyX7, tyX7_ok⟩
    | 8, hc => cases (Option.some.inj (show some (RX8, TX8, 11) = some (C, T, n) from hc)); exact ⟨wIn8, nmX8, tyX8, tyX8_ok⟩
    | 9, hc => cases (Option.some.inj (show some (RX9, TX9, 26) = some (C, T, n) from hc)); exact ⟨wIn9, nmX9, tyX9, tyX9_ok⟩
    | k + 10, hc => exact absurd (List.getElem?_eq_some_iff.mp hc).1 (by show ¬ k + 10 < 10; omega)
  exact key ci hc
theorem cls_lt {ci n : Nat} {C : String} {T : u_T} (hc : vwCl[ci]? = some (C, T, n)) : ci < 10 := (List.getElem?_eq_some_iff.mp hc).1
theorem cls_nfs {ci n : Nat} {C : String} {T : u_T} (hc : vwCl[ci]? = some (C, T, n)) : nfs ci = n := by
  have key : ∀ (ci : Nat), vwCl[ci]? = some (C, T, n) → nfs ci = n := by
    intro ci hc
    match ci, hc with
    | 0, hc => cases (Option.some.inj (show some (RX0, TX0, 4) = some (C, T, n) from hc)); rfl
    | 1, hc => cases (Option.some.inj (show some (RX1, TX1, 9) = some (C, T, n) from hc)); rfl
    | 2, hc => cases (Option.some.inj (show some (RX2, TX2, 4) = some (C, T, n) from hc)); rfl
    | 3, hc => cases (Option.some.inj (show some (RX3, TX3, 4) = some (C, T, n) from hc)); rfl
    | 4, hc => cases (Option.some.inj (show some (RX4, TX4, 6) = some (C, T, n) from hc)); rfl
    | 5, hc => cases (Option.some.inj (show some (RX5, TX5, 8) = some (C, T, n) from hc)); rfl
    | 6, hc => cases (Option.some.inj (show some (RX6, TX6, 2) = some (C, T, n) from hc)); rfl
    | 7, hc => cases (Option.some.inj (show some (RX7, TX7, 5) = some (C, T, n) from hc)); rfl
    | 8, hc => cases (Option.some.inj (show some (RX8, TX8, 11) = some (C, T, n) from hc)); rfl
    | 9, hc => cases (Option.some.inj (show some (RX9, TX9, 26) = some (C, T, n) from hc)); rfl
    | k + 10, hc => exact absurd (List.getElem?_eq_some_iff.mp hc).1 (by show ¬ k + 10 < 10; omega)
  exact key ci hc
theorem flds_len {cx : Cx} {ci : Nat} {d : Nat → Int32} {r : Nat → Option Nat} : (flds cx ci d r).length = nfs ci := by simp [flds]
theorem flds_setI {cx : Cx} {ci k : Nat} {d : Nat → Int32} {r : Nat → Option Nat} {x : Int32} (h : isI ci k = true) : flds cx ci (upd d k x) r = (flds cx ci d r).set k (.int x) := by
  apply List.ext_getElem
  · simp [flds]
  · intro i h1 h2
    rw [List.getElem_set]
    simp only [flds, List.getElem_map, List.getElem_range, fld]
    by_cases q : k = i
    · subst q; rw [if_pos rfl, if_pos h]; simp [upd]
    · rw [if_neg q]
      by_cases z : isI ci i = true
      · rw [if_pos z, if_pos z]; simp [upd, Ne.symm q]
      · rw [if_neg z, if_neg z]
theorem flds_setR {cx : Cx} {ci k : Nat} {d : Nat → Int32} {r : Nat → Option Nat} {x : Option Nat} (h : isI ci k = false) : flds cx ci d (va_up r k x) = (flds cx ci d r).set k (rv cx x) := by
  apply List.ext_getElem
  · simp [flds]
  · intro i h1 h2
    rw [List.getElem_set]
    simp only [flds, List.getElem_map, List.getElem_range, fld]
    by_cases q : k = i
    · subst q; rw [if_pos rfl, if_neg (by rw [h]; decide)]; simp [va_up]
    · rw [if_neg q]
      by_cases z : isI ci i = true
      · rw [if_pos z, if_pos z]
      · rw [if_neg z, if_neg z]; simp [va_up, Ne.symm q]
theorem cellE_obj {cx : Cx} {k : Nat} {d : Nat → Int32} {r : Nat → Option Nat} (h : k < 10) : cellE cx k d r = .inr (k, flds cx k d r) := by
  unfold cellE; rw [show k / 10000 = 0 by omega]; rfl
theorem cellE_1 {cx : Cx} {k : Nat} {d : Nat → Int32} {r : Nat → Option Nat} (h : k / 10000 = 1) : cellE cx k d r = .inl (cx.2.1.1, k % 10000, .inl d) := by unfold cellE; rw [h]; rfl
theorem cellE_2 {cx : Cx} {k : Nat} {d : Nat → Int32} {r : Nat → Option Nat} (h : k / 10000 = 2) : cellE cx k d r = .inl (cx.2.1.2.1, k % 10000, .inl d) := by unfold cellE; rw [h]; rfl
theorem cellE_3 {cx : Cx} {k : Nat} {d : Nat → Int32} {r : Nat → Option Nat} (h : k / 10000 = 3) : cellE cx k d r = .inl (cx.2.1.2.2.1, k % 10000, .inl d) := by unfold cellE; rw [h]; rfl
theorem cellE_4 {cx : Cx} {k : Nat} {d : Nat → Int32} {r : Nat → Option Nat} (h : k / 10000 = 4) : cellE cx k d r = .inl (cx.2.1.2.2.2, k % 10000, .inr (.inr (.inr (.inr fun j => (r j).map fun q => cx.2.2 + q)))) := by unfold cellE; rw [h]; rfl
theorem va_P1 {D : va_G} {cl : List vw_C} {q : Nat × va_E} {H : Heap} (h : va_at D cl q H) : va_P D cl [q] H := by
  intro k x hk
  match k, hk with
  | 0, hk => cases hk; exact h
  | k + 1, hk => simp at hk
theorem Rep.upd {cx : Cx} {D D' : Dt} {P P' : Ft} {nx a : Nat} {H H1 : Heap} (h : Rep cx D P nx H) (z : H1.size = H.size) (oq : ∀ q : Nat, q ≠ cx.2.2 + a → H1[q]? = H[q]?) (hn : va_at cx.1 vwCl (cx.2.2 + a, cellE cx (SH a) (D' a) (P' a)) H1) (hD : ∀ q, q ≠ a → D' q = D q) (hP : ∀ q, q ≠ a → P' q = P q) : Rep cx D' P' nx H1 := by
  refine ⟨z.trans h.1, fun q hq => ?_⟩
  by_cases e : q = a
  · subst e; exact hn
  · rw [hD q e, hP q e]
    exact (h.2 q hq).kept (oq _ (by show cx.2.2 + q ≠ cx.2.2 + a; omega))
theorem Rep.grow {cx : Cx} {D D' : Dt} {P P' : Ft} {nx : Nat} {H H1 : Heap} (h : Rep cx D P nx H) (z : H1.size = H.size + 1) (oq : ∀ q : Nat, q < H.size → H1[q]? = H[q]?) (hn : va_at cx.1 vwCl (cx.2.2 + nx, cellE cx (SH nx) (D' nx) (P' nx)) H1) (hD : ∀ q, q < nx → D' q = D q) (hP : ∀ q, q < nx → P' q = P q) : Rep cx D' P' (nx + 1) H1 := by
  refine ⟨by rw [z, h.1]; rfl, fun q hq => ?_⟩
  by_cases e : q = nx
  · subst e; exact hn
  · have hl : q < nx := by omega
    rw [hD q hl, hP q hl]
    exact (h.2 q hl).kept (oq _ (by show cx.2.2 + q < H.size; rw [h.1]; omega))
theorem nest_warm {s U : State} (hW : s.WarmedH U.vm) (h : ∀ w ∈ nestW, va_Nw w s) : ∀ w ∈ nestW, va_Nw w U := by
  intro w hw
  have h1 := h w hw
  have h2 : ∃ a i x b, w = .methodLinkNest a i x b := by
    simp only [nestW, List.mem_cons, List.not_mem_nil, or_false] at hw
    rcases hw with q | q | q | q | q | q | q | q | q | q | q <;> exact ⟨_, _, _, _, q⟩
  obtain ⟨a, i, x, b, rfl⟩ := h2
  exact va_Nw.warmM hW h1
theorem nest_alike {u U : State} (h : u.vm = U.vm) (hz : ∀ w ∈ nestW, va_Nw w u) : ∀ w ∈ nestW, va_Nw w U := by
  intro w hw
  have h2 : ∃ a i x b, w = .methodLinkNest a i x b := by
    simp only [nestW, List.mem_cons, List.not_mem_nil, or_false] at hw
    rcases hw with q | q | q | q | q | q | q | q | q | q | q <;> exact ⟨_, _, _, _, q⟩
  have h1 := hz w hw
  obtain ⟨a, i, x, b, rfl⟩ := h2
  exact va_Nw.same rfl h h1
theorem KK.warm {cx : Cx} {s U : State} (hW : s.WarmedH U.vm) (h : KK cx s) : KK cx U := ⟨va_K.moved hW.alike h.1, nest_warm hW h.2⟩
theorem Wd.blind {cx : Cx} {D : Dt} {P : Ft} {nx : Nat} {av : List Value} : FrameBlind (va_Pc av (Wd cx D P nx)) := by
  intro a U g mk q
  obtain ⟨h0, h1, h2, h3⟩ := q
  exact ⟨h0, h1, va_K.moved (u := U) (U := U.calling g mk a) (Vm.Alike.refl U.vm) h2, nest_alike (u := U) (U := U.calling g mk a) rfl h3⟩
theorem AA_add {cx : Cx} {a : Nat} : AA cx (cx.2.2 + a) := Nat.le_add_right _ _
/-- what a method's start gives; what a walk stands on -/
def XC (p : Program) (s : State) (m : MethodId) (args : Array Value) (meth : Method) (c : Code) (cx : Cx) (b : ByteArray) (nL : Nat) (rt : Option FieldType) (own : String) (mn : String) : Prop :=
  p.tables.exec = Jvm.exec ∧ c.code = b ∧ c.maxLocals = nL ∧ meth.sig.returnType = rt ∧ s.vm.findClass own = some m.cls ∧ (∀ w ∈ wT, w.before args s = true) ∧ KK cx s ∧ meth.locks = false ∧ meth.name = mn
def XW (p : Program) (l : Launch) (e : Env) (R : Room) (s : State) (m : MethodId) (args : Array Value) (below : List Frame) (meth : Method) (c : Code) (Q : State → Prop) (cx : Cx) (nL : Nat) (D : Dt) (P : Ft) (nx cells slots pc : Nat) (lv : List (Nat × Value)) (st : List Value) : Prop :=
  ∀ (H : Heap) (locs : List Loc) (ls : Array Slot), Rep cx D P nx H → va_S (AA cx) s.heap H locs → lv_has ls nL lv → W p l e R s m args below meth c H locs cells slots Q (F0 m pc ls st)
def rmk (k : Nat) : Room := { frames := k, cells := 0, slots := 0, locals := 60 * k }
def rmc (k mc ms : Nat) : Room := { frames := k, cells := mc, slots := ms, locals := 60 * k }
/-- the end of a method: its answer, the heap then, and that nothing older has changed -/
def Qx (cx : Cx) (ov : Option Value) (D : Dt) (P : Ft) (nx : Nat) : Array Value → State → Outcome → State → Prop := fun _ st oc t => oc = .returned ov ∧ Wd cx D P nx t ∧ va_F (AA cx) st t
abbrev Ct (l : Launch) (cx : Cx) (y : MethodName) (b : ByteArray) (nL : Nat) (rt : Option FieldType) (lvl : Nat) (As : List Value) (D : Dt) (P : Ft) (nx : Nat) (ov : Option Value) (D' : Dt) (P' : Ft) : Prop :=
  Met l y (.code y b nL rt :: wT) (rmk lvl) (va_Pc As (Wd cx D P nx)) (Qx cx ov D' P' nx) 0 0 (AA cx)
abbrev Cc (l : Launch) (cx : Cx) (y : MethodName) (b : ByteArray) (nL : Nat) (lvl mc ms : Nat) (As : List Value) (D : Dt) (P : Ft) (nx : Nat) (D' : Dt) (P' : Ft) (nx' : Nat) : Prop :=
  Met l y (.code y b nL none :: wT) (rmc lvl mc ms) (va_Pc As (Wd cx D P nx)) (Qx cx none D' P' nx') mc ms (AA cx)
theorem x_met0 {l : Launch} {cx : Cx} {y : MethodName} {b : ByteArray} {nL : Nat} {rt : Option FieldType} {rm : Room} {As : List Value} {D : Dt} {P : Ft} {nx mc ms : Nat} {ov : Option Value} {D' : Dt} {P' : Ft} {nx' : Nat}
    (hy : plainName y.cls = true) (hlen : (lg_sl As).length ≤ nL)
    (body : ∀ (p : Program) (e : Env) (s : State) (m : MethodId) (args : Array Value) (below : List Frame) (meth : Method) (c : Code), XC p s m args meth c cx b nL rt y.cls y.name →
      XW p l e rm s m args below meth c (MQ below (Qx cx ov D' P' nx') args s mc ms (AA cx)) cx nL D P nx 0 0 0 (lv_args 0 As) []) :
    Met l y (.code y b nL rt :: wT) rm (va_Pc As (Wd cx D P nx)) (Qx cx ov D' P' nx') mc ms (AA cx) := by
  refine Met.ofW (cc := b) (maxL := nL) (ret := rt) hy rfl ?_
  intro p e s m args below meth c s₁ B hml hv
  obtain ⟨rfl, hR, hK⟩ := hv
  have hts := atoms_spec (ws := .code y b nL rt :: wT) B.pre
  have X : XC p s m As.toArray meth c cx b nL rt y.cls y.name := ⟨B.exec, B.bytes, hml, B.returns, findClass_of_methodNamed B.named, fun w hw => hts w (List.mem_cons_of_mem _ hw), hK, B.notSynchronized, (name_of_methodNamed B.named B.method).1⟩
  have hl := lv_entry As (n := nL) hlen
  rw [lg_entry_eq]
  exact body p e s m _ below meth c X _ _ _ hR va_S.rf hl
section XR
variable {p : Program} {l : Launch} {e : Env} {R : Room} {s : State} {m : MethodId} {args : Array Value} {below : List Frame} {meth : Method} {c : Code} {Q : State → Prop} {cx : Cx} {b : ByteArray} {nL : Nat} {rt : Option FieldType} {own mn : String} {D : Dt} {P : Ft} {nx cells slots pc : Nat} {lv : List (Nat × Value)} {st : List Value}
theorem XW.sub {lv' : List (Nat × Value)} (ks : List Nat) (h : lv_pick lv ks = lv') (kk : XW p l e R s m args below meth c Q cx nL D P nx cells slots pc lv' st) : XW p l e R s m args below meth c Q cx nL D P nx cells slots pc lv st :=
  fun H locs ls hR hS hl => kk H locs ls hR hS (lv_sub hl ks h)
theorem XW.wid {k n : Nat} (h1 : cells ≤ k) (h2 : slots ≤ n) (kk : XW p l e R s m args below meth c Q cx nL D P nx k n pc lv st) : XW p l e R s m args below meth c Q cx nL D P nx cells slots pc lv st :=
  fun H locs ls hR hS hl => W.widen h1 h2 (kk H locs ls hR hS hl)
theorem x_iconst (X : XC p s m args meth c cx b nL rt own mn) {n : Int} {v : Int32} (hd : decode b pc = .ok (.iconst n, 1)) (hv : Int32.ofInt n = v) (kk : XW p l e R s m args below meth c Q cx nL D P nx cells slots (pc + 1) lv (.int v :: st)) : XW p l e R s m args below meth c Q cx nL D P nx cells slots pc lv st :=
  fun H locs ls hR hS hl => lv_iconst X.1 X.2.1 hd hv (kk H locs ls hR hS hl)
theorem x_bipush (X : XC p s m args meth c cx b nL rt own mn) {n : Int} {v : Int32} (hd : decode b pc = .ok (.bipush n, 2)) (hv : (Int8.ofInt n).toInt32 = v) (kk : XW p l e R s m args below meth c Q cx nL D P nx cells slots (pc + 2) lv (.int v :: st)) : XW p l e R s m args below meth c Q cx nL D P nx cells slots pc lv st :=
  fun H locs ls hR hS hl => lv_bipush X.1 X.2.1 hd hv (kk H locs ls hR hS hl)
theorem x_sipush (X : XC p s m args meth c cx b nL rt own mn) {n : Int} {v : Int32} (hd : decode b pc = .ok (.sipush n, 3)) (hv : (Int16.ofInt n).toInt32 = v) (kk : XW p l e R s m args below meth c Q cx nL D P nx cells slots (pc + 3) lv (.int v :: st)) : XW p l e R s m args below meth c Q cx nL D P nx cells slots pc lv st :=
  fun H locs ls hR hS hl => lv_sipush X.1 X.2.1 hd hv (kk H locs ls hR hS hl)
theorem x_lconst (X : XC p s m args meth c cx b nL rt own mn) {n : Fin 2} {v : Int64} (hd : decode b pc = .ok (.lconst n, 1)) (hv : Int64.ofNat (n : Nat) = v) (kk : XW p l e R s m args below meth c Q cx nL D P nx cells slots (pc + 1) lv (.long v :: st)) : XW p l e R s m args below meth c Q cx nL D P nx cells slots pc lv st :=
  fun H locs ls hR hS hl => lv_lconst X.1 X.2.1 hd hv (kk H locs ls hR hS hl)
theorem x_ldc (X : XC p s m args meth c cx b nL rt own mn) {i : Nat} {v : Int32} (hd : decode b pc = .ok (.ldc i, 2)) (hw : Cond.constant own i v ∈ wT) (kk : XW p l e R s m args below meth c Q cx nL D P nx cells slots (pc + 2) lv (.int v :: st)) : XW p l e R s m args below meth c Q cx nL D P nx cells slots pc lv st :=
  fun H locs ls hR hS hl => lv_ldc X.1 X.2.1 X.2.2.2.2.1 (X.2.2.2.2.2.1 _ hw) hd (kk H locs ls hR hS hl)
theorem x_ldcw (X : XC p s m args meth c cx b nL rt own mn) {i : Nat} {v : Int32} (hd : decode b pc = .ok (.ldc_w i, 3)) (hw : Cond.constant own i v ∈ wT) (kk : XW p l e R s m args below meth c Q cx nL D P nx cells slots (pc + 3) lv (.int v :: st)) : XW p l e R s m args below meth c Q cx nL D P nx cells slots pc lv st :=
  fun H locs ls hR hS hl => lv_ldcw X.1 X.2.1 X.2.2.2.2.1 (X.2.2.2.2.2.1 _ hw) hd (kk H locs ls hR hS hl)
theorem x_ldc2 (X : XC p s m args meth c cx b nL rt own mn) {i : Nat} {v : Int64} (hd : decode b pc = .ok (.ldc2_w i, 3)) (hw : Cond.constantLong own i v ∈ wT) (kk : XW p l e R s m args below meth c Q cx nL D P nx cells slots (pc + 3) lv (.long v :: st)) : XW p l e R s m args below meth c Q cx nL D P nx cells slots pc lv st :=
  fun H locs ls hR hS hl => lv_ldc2 X.1 X.2.1 X.2.2.2.2.1 (X.2.2.2.2.2.1 _ hw) hd (kk H locs ls hR hS hl)
theorem x_null (X : XC p s m args meth c cx b nL rt own mn) (hd : decode b pc = .ok (.aconst_null, 1)) (kk : XW p l e R s m args below meth c Q cx nL D P nx cells slots (pc + 1) lv (.null :: st)) : XW p l e R s m args below meth c Q cx nL D P nx cells slots pc lv st :=
  fun H locs ls hR hS hl => lv_null X.1 X.2.1 hd (kk H locs ls hR hS hl)
theorem x_iload_n (X : XC p s m args meth c cx b nL rt own mn) {k : Fin 4} {i : Nat} {x : Int32} (hd : decode b pc = .ok (.iload_n k, 1)) (hi : (k : Nat) = i) (j : Nat) (hj : lv[j]? = some (i, .int x)) (kk : XW p l e R s m args below meth c Q cx nL D P nx cells slots (pc + 1) lv (.int x :: st)) : XW p l e R s m args below meth c Q cx nL D P nx cells slots pc lv st :=
  fun H locs ls hR hS hl => lv_iload_n X.1 X.2.1 hd hi (lv_at hl j hj) (kk H locs ls hR hS hl)
theorem x_iload (X : XC p s m args meth c cx b nL rt own mn) {i : Nat} {x : Int32} (hd : decode b pc = .ok (.iload i, 2)) (j : Nat) (hj : lv[j]? = some (i, .int x)) (kk : XW p l e R s m args below meth c Q cx nL D P nx cells slots (pc + 2) lv (.int x :: st)) : XW p l e R s m args below meth c Q cx nL D P nx cells slots pc lv st :=
  fun H locs ls hR hS hl => lv_iload X.1 X.2.1 hd (lv_at hl j hj) (kk H locs ls hR hS hl)
theorem x_lload_n (X : XC p s m args meth c cx b nL rt own mn) {k : Fin 4} {i : Nat} {x : Int64} (hd : decode b pc = .ok (.lload_n k, 1)) (hi : (k : Nat) = i) (j : Nat) (hj : lv[j]? = some (i, .long x)) (kk : XW p l e R s m args below meth c Q cx nL D P nx cells slots (pc + 1) lv (.long x :: st)) : XW p l e R s m args below meth c Q cx nL D P nx cells slots pc lv st :=
  fun H locs ls hR hS hl => lv_lload_n X.1 X.2.1 hd hi (lv_at hl j hj) (kk H locs ls hR hS hl)
theorem x_lload (X : XC p s m args meth c cx b nL rt own mn) {i : Nat} {x : Int64} (hd : decode b pc = .ok (.lload i, 2)) (j : Nat) (hj : lv[j]? = some (i, .long x)) (kk : XW p l e R s m args below meth c Q cx nL D P nx cells slots (pc + 2) lv (.long x :: st)) : XW p l e R s m args below meth c Q cx nL D P nx cells slots pc lv st :=
  fun H locs ls hR hS hl => lv_lload X.1 X.2.1 hd (lv_at hl j hj) (kk H locs ls hR hS hl)
theorem x_aload_n (X : XC p s m args meth c cx b nL rt own mn) {k : Fin 4} {i : Nat} {x : Nat} (hd : decode b pc = .ok (.aload_n k, 1)) (hi : (k : Nat) = i) (j : Nat) (hj : lv[j]? = some (i, .ref x)) (kk : XW p l e R s m args below meth c Q cx nL D P nx cells slots (pc + 1) lv (.ref x :: st)) : XW p l e R s m args below meth c Q cx nL D P nx cells slots pc lv st :=
  fun H locs ls hR hS hl => lv_aload_n X.1 X.2.1 hd hi (lv_at hl j hj) (kk H locs ls hR hS hl)
theorem x_aload (X : XC p s m args meth c cx b nL rt own mn) {i : Nat} {x : Nat} (hd : decode b pc = .ok (.aload i, 2)) (j : Nat) (hj : lv[j]? = some (i, .ref x)) (kk : XW p l e R s m args below meth c Q cx nL D P nx cells slots (pc + 2) lv (.ref x :: st)) : XW p l e R s m args below meth c Q cx nL D P nx cells slots pc lv st :=
  fun H locs ls hR hS hl => lv_aload X.1 X.2.1 hd (lv_at hl j hj) (kk H locs ls hR hS hl)
theorem x_aload_nN (X : XC p s m args meth c cx b nL rt own mn) {k : Fin 4} {i : Nat} (hd : decode b pc = .ok (.aload_n k, 1)) (hi : (k : Nat) = i) (j : Nat) (hj : lv[j]? = some (i, .null)) (kk : XW p l e R s m args below meth c Q cx nL D P nx cells slots (pc + 1) lv (.null :: st)) : XW p l e R s m args below meth c Q cx nL D P nx cells slots pc lv st :=
  fun H locs ls hR hS hl => lv_aload_nN X.1 X.2.1 hd hi (lv_at hl j hj) (kk H locs ls hR hS hl)
theorem x_aloadN (X : XC p s m args meth c cx b nL rt own mn) {i : Nat} (hd : decode b pc = .ok (.aload i, 2)) (j : Nat) (hj : lv[j]? = some (i, .null)) (kk : XW p l e R s m args below meth c Q cx nL D P nx cells slots (pc + 2) lv (.null :: st)) : XW p l e R s m args below meth c Q cx nL D P nx cells slots pc lv st :=
  fun H locs ls hR hS hl => lv_aloadN X.1 X.2.1 hd (lv_at hl j hj) (kk H locs ls hR hS hl)
theorem x_istore_n (X : XC p s m args meth c cx b nL rt own mn) {k : Fin 4} {i : Nat} {x : Int32} {lv' : List (Nat × Value)} (hd : decode b pc = .ok (.istore_n k, 1)) (hi : (k : Nat) = i) (hn : i < nL) (hl' : (i, Value.int x) :: lv.filter (fun q => !(q.1 == i) && !(q.1 + 1 == i && q.2.category == 2)) = lv') (kk : XW p l e R s m args below meth c Q cx nL D P nx cells slots (pc + 1) lv' st) : XW p l e R s m args below meth c Q cx nL D P nx cells slots pc lv (.int x :: st) :=
  fun H locs ls hR hS hl => lv_istore_n X.1 X.2.1 hd hi hl hn hl' fun ls' h => kk H locs ls' hR hS h
theorem x_istore (X : XC p s m args meth c cx b nL rt own mn) {i : Nat} {x : Int32} {lv' : List (Nat × Value)} (hd : decode b pc = .ok (.istore i, 2)) (hn : i < nL) (hl' : (i, Value.int x) :: lv.filter (fun q => !(q.1 == i) && !(q.1 + 1 == i && q.2.category == 2)) = lv') (kk : XW p l e R s m args below meth c Q cx nL D P nx cells slots (pc + 2) lv' st) : XW p l e R s m args below meth c Q cx nL D P nx cells slots pc lv (.int x :: st) :=
  fun H locs ls hR hS hl => lv_istore X.1 X.2.1 hd hl hn hl' fun ls' h => kk H locs ls' hR hS h
theorem x_lstore_n (X : XC p s m args meth c cx b nL rt own mn) {k : Fin 4} {i : Nat} {x : Int64} {lv' : List (Nat × Value)} (hd : decode b pc = .ok (.lstore_n k, 1)) (hi : (k : Nat) = i) (hn : i + 1 < nL) (hl' : (i, Value.long x) :: lv.filter (fun q => !(q.1 == i) && (!(q.1 == i + 1) && !(q.1 + 1 == i && q.2.category == 2))) = lv') (kk : XW p l e R s m args below meth c Q cx nL D P nx cells slots (pc + 1) lv' st) : XW p l e R s m args below meth c Q cx nL D P nx cells slots pc lv (.long x :: st) :=
  fun H locs ls hR hS hl => lv_lstore_n X.1 X.2.1 hd hi hl hn hl' fun ls' h => kk H locs ls' hR hS h
theorem x_lstore (X : XC p s m args meth c cx b nL rt own mn) {i : Nat} {x : Int64} {lv' : List (Nat × Value)} (hd : decode b pc = .ok (.lstore i, 2)) (hn : i + 1 < nL) (hl' : (i, Value.long x) :: lv.filter (fun q => !(q.1 == i) && (!(q.1 == i + 1) && !(q.1 + 1 == i && q.2.category == 2))) = lv') (kk : XW p l e R s m args below meth c Q cx nL D P nx cells slots (pc + 2) lv' st) : XW p l e R s m args below meth c Q cx nL D P nx cells slots pc lv (.long x :: st) :=
  fun H locs ls hR hS hl => lv_lstore X.1 X.2.1 hd hl hn hl' fun ls' h => kk H locs ls' hR hS h
theorem x_astore_n (X : XC p s m args meth c cx b nL rt own mn) {k : Fin 4} {i : Nat} {x : Nat} {lv' : List (Nat × Value)} (hd : decode b pc = .ok (.astore_n k, 1)) (hi : (k : Nat) = i) (hn : i < nL) (hl' : (i, Value.ref x) :: lv.filter (fun q => !(q.1 == i) && !(q.1 + 1 == i && q.2.category == 2)) = lv') (kk : XW p l e R s m args below meth c Q cx nL D P nx cells slots (pc + 1) lv' st) : XW p l e R s m args below meth c Q cx nL D P nx cells slots pc lv (.ref x :: st) :=
  fun H locs ls hR hS hl => lv_astore_n X.1 X.2.1 hd hi hl hn hl' fun ls' h => kk H locs ls' hR hS h
theorem x_astore (X : XC p s m args meth c cx b nL rt own mn) {i : Nat} {x : Nat} {lv' : List (Nat × Value)} (hd : decode b pc = .ok (.astore i, 2)) (hn : i < nL) (hl' : (i, Value.ref x) :: lv.filter (fun q => !(q.1 == i) && !(q.1 + 1 == i && q.2.category == 2)) = lv') (kk : XW p l e R s m args below meth c Q cx nL D P nx cells slots (pc + 2) lv' st) : XW p l e R s m args below meth c Q cx nL D P nx cells slots pc lv (.ref x :: st) :=
  fun H locs ls hR hS hl => lv_astore X.1 X.2.1 hd hl hn hl' fun ls' h => kk H locs ls' hR hS h
theorem x_astore_nN (X : XC p s m args meth c cx b nL rt own mn) {k : Fin 4} {i : Nat} {lv' : List (Nat × Value)} (hd : decode b pc = .ok (.astore_n k, 1)) (hi : (k : Nat) = i) (hn : i < nL) (hl' : (i, Value.null) :: lv.filter (fun q => !(q.1 == i) && !(q.1 + 1 == i && q.2.category == 2)) = lv') (kk : XW p l e R s m args below meth c Q cx nL D P nx cells slots (pc + 1) lv' st) : XW p l e R s m args below meth c Q cx nL D P nx cells slots pc lv (.null :: st) :=
  fun H locs ls hR hS hl => lv_astore_nN X.1 X.2.1 hd hi hl hn hl' fun ls' h => kk H locs ls' hR hS h
theorem x_astoreN (X : XC p s m args meth c cx b nL rt own mn) {i : Nat} {lv' : List (Nat × Value)} (hd : decode b pc = .ok (.astore i, 2)) (hn : i < nL) (hl' : (i, Value.null) :: lv.filter (fun q => !(q.1 == i) && !(q.1 + 1 == i && q.2.category == 2)) = lv') (kk : XW p l e R s m args below meth c Q cx nL D P nx cells slots (pc + 2) lv' st) : XW p l e R s m args below meth c Q cx nL D P nx cells slots pc lv (.null :: st) :=
  fun H locs ls hR hS hl => lv_astoreN X.1 X.2.1 hd hl hn hl' fun ls' h => kk H locs ls' hR hS h
theorem x_iinc (X : XC p s m args meth c cx b nL rt own mn) {i : Nat} {n : Int} {x v : Int32} {lv' : List (Nat × Value)} (hd : decode b pc = .ok (.iinc i n, 3)) (j : Nat) (hj : lv[j]? = some (i, .int x)) (hv : x + Int32.ofInt n = v) (hn : i < nL) (hl' : (i, Value.int v) :: lv.filter (fun q => !(q.1 == i) && !(q.1 + 1 == i && q.2.category == 2)) = lv') (kk : XW p l e R s m args below meth c Q cx nL D P nx cells slots (pc + 3) lv' st) : XW p l e R s m args below meth c Q cx nL D P nx cells slots pc lv st :=
  fun H locs ls hR hS hl => lv_iinc X.1 X.2.1 hd hl hj hv hn hl' fun ls' h => kk H locs ls' hR hS h
theorem x_dup (X : XC p s m args meth c cx b nL rt own mn) {v : Value} (hd : decode b pc = .ok (.dup, 1)) (hv : v.category = 1) (kk : XW p l e R s m args below meth c Q cx nL D P nx cells slots (pc + 1) lv (v :: v :: st)) : XW p l e R s m args below meth c Q cx nL D P nx cells slots pc lv (v :: st) :=
  fun H locs ls hR hS hl => lv_dup X.1 X.2.1 hd hv (kk H locs ls hR hS hl)
theorem x_pop (X : XC p s m args meth c cx b nL rt own mn) {v : Value} (hd : decode b pc = .ok (.pop, 1)) (hv : v.category = 1) (kk : XW p l e R s m args below meth c Q cx nL D P nx cells slots (pc + 1) lv st) : XW p l e R s m args below meth c Q cx nL D P nx cells slots pc lv (v :: st) :=
  fun H locs ls hR hS hl => lv_pop X.1 X.2.1 hd hv (kk H locs ls hR hS hl)
theorem x_goto (X : XC p s m args meth c cx b nL rt own mn) {off : Int} {tgt : Nat} (hd : decode b pc = .ok (.goto off, 3)) (ht : (pc : Int) + off = (tgt : Int)) (kk : XW p l e R s m args below meth c Q cx nL D P nx cells slots tgt lv st) : XW p l e R s m args below meth c Q cx nL D P nx cells slots pc lv st :=
  fun H locs ls hR hS hl => lv_goto X.1 X.2.1 hd ht (kk H locs ls hR hS hl)
theorem x_iadd (X : XC p s m args meth c cx b nL rt own mn) {x y : Int32} (hd : decode b pc = .ok (.iadd, 1)) (kk : XW p l e R s m args below meth c Q cx nL D P nx cells slots (pc + 1) lv (.int (x + y) :: st)) : XW p l e R s m args below meth c Q cx nL D P nx cells slots pc lv (.int y :: .int x :: st) :=
  fun H locs ls hR hS hl => lv_iadd X.1 X.2.1 hd (kk H locs ls hR hS hl)
theorem x_isub (X : XC p s m args meth c cx b nL rt own mn) {x y : Int32} (hd : decode b pc = .ok (.isub, 1)) (kk : XW p l e R s m args below meth c Q cx nL D P nx cells slots (pc + 1) lv (.int (x - y) :: st)) : XW p l e R s m args below meth c Q cx nL D P nx cells slots pc lv (.int y :: .int x :: st) :=
  fun H locs ls hR hS hl => lv_isub X.1 X.2.1 hd (kk H locs ls hR hS hl)
theorem x_imul (X : XC p s m args meth c cx b nL rt own mn) {x y : Int32} (hd : decode b pc = .ok (.imul, 1)) (kk : XW p l e R s m args below meth c Q cx nL D P nx cells slots (pc + 1) lv (.int (x * y) :: st)) : XW p l e R s m args below meth c Q cx nL D P nx cells slots pc lv (.int y :: .int x :: st) :=
  fun H locs ls hR hS hl => lv_imul X.1 X.2.1 hd (kk H locs ls hR hS hl)
theorem x_iand (X : XC p s m args meth c cx b nL rt own mn) {x y : Int32} (hd : decode b pc = .ok (.iand, 1)) (kk : XW p l e R s m args below meth c Q cx nL D P nx cells slots (pc + 1) lv (.int (x &&& y) :: st)) : XW p l e R s m args below meth c Q cx nL D P nx cells slots pc lv (.int y :: .int x :: st) :=
  fun H locs ls hR hS hl => lv_iand X.1 X.2.1 hd (kk H locs ls hR hS hl)
theorem x_ior (X : XC p s m args meth c cx b nL rt own mn) {x y : Int32} (hd : decode b pc = .ok (.ior, 1)) (kk : XW p l e R s m args below meth c Q cx nL D P nx cells slots (pc + 1) lv (.int (x ||| y) :: st)) : XW p l e R s m args below meth c Q cx nL D P nx cells slots pc lv (.int y :: .int x :: st) :=
  fun H locs ls hR hS hl => lv_ior X.1 X.2.1 hd (kk H locs ls hR hS hl)
theorem x_ixor (X : XC p s m args meth c cx b nL rt own mn) {x y : Int32} (hd : decode b pc = .ok (.ixor, 1)) (kk : XW p l e R s m args below meth c Q cx nL D P nx cells slots (pc + 1) lv (.int (x ^^^ y) :: st)) : XW p l e R s m args below meth c Q cx nL D P nx cells slots pc lv (.int y :: .int x :: st) :=
  fun H locs ls hR hS hl => lv_ixor X.1 X.2.1 hd (kk H locs ls hR hS hl)
theorem x_ishl (X : XC p s m args meth c cx b nL rt own mn) {x y : Int32} (hd : decode b pc = .ok (.ishl, 1)) (kk : XW p l e R s m args below meth c Q cx nL D P nx cells slots (pc + 1) lv (.int (x <<< (y &&& 31)) :: st)) : XW p l e R s m args below meth c Q cx nL D P nx cells slots pc lv (.int y :: .int x :: st) :=
  fun H locs ls hR hS hl => lv_ishl X.1 X.2.1 hd (kk H locs ls hR hS hl)
theorem x_ishr (X : XC p s m args meth c cx b nL rt own mn) {x y : Int32} (hd : decode b pc = .ok (.ishr, 1)) (kk : XW p l e R s m args below meth c Q cx nL D P nx cells slots (pc + 1) lv (.int (x >>> (y &&& 31)) :: st)) : XW p l e R s m args below meth c Q cx nL D P nx cells slots pc lv (.int y :: .int x :: st) :=
  fun H locs ls hR hS hl => lv_ishr X.1 X.2.1 hd (kk H locs ls hR hS hl)
theorem x_iushr (X : XC p s m args meth c cx b nL rt own mn) {x y : Int32} (hd : decode b pc = .ok (.iushr, 1)) (kk : XW p l e R s m args below meth c Q cx nL D P nx cells slots (pc + 1) lv (.int (x.toUInt32 >>> (y.toUInt32 &&& Int32.toUInt32 31)).toInt32 :: st)) : XW p l e R s m args below meth c Q cx nL D P nx cells slots pc lv (.int y :: .int x :: st) :=
  fun H locs ls hR hS hl => lv_iushr X.1 X.2.1 hd rfl (kk H locs ls hR hS hl)
theorem x_ladd (X : XC p s m args meth c cx b nL rt own mn) {x y : Int64} (hd : decode b pc = .ok (.ladd, 1)) (kk : XW p l e R s m args below meth c Q cx nL D P nx cells slots (pc + 1) lv (.long (x + y) :: st)) : XW p l e R s m args below meth c Q cx nL D P nx cells slots pc lv (.long y :: .long x :: st) :=
  fun H locs ls hR hS hl => lv_ladd X.1 X.2.1 hd (kk H locs ls hR hS hl)
theorem x_lsub (X : XC p s m args meth c cx b nL rt own mn) {x y : Int64} (hd : decode b pc = .ok (.lsub, 1)) (kk : XW p l e R s m args below meth c Q cx nL D P nx cells slots (pc + 1) lv (.long (x - y) :: st)) : XW p l e R s m args below meth c Q cx nL D P nx cells slots pc lv (.long y :: .long x :: st) :=
  fun H locs ls hR hS hl => lv_lsub X.1 X.2.1 hd (kk H locs ls hR hS hl)
theorem x_lmul (X : XC p s m args meth c cx b nL rt own mn) {x y : Int64} (hd : decode b pc = .ok (.lmul, 1)) (kk : XW p l e R s m args below meth c Q cx nL D P nx cells slots (pc + 1) lv (.long (x * y) :: st)) : XW p l e R s m args below meth c Q cx nL D P nx cells slots pc lv (.long y :: .long x :: st) :=
  fun H locs ls hR hS hl => lv_lmul X.1 X.2.1 hd (kk H locs ls hR hS hl)
theorem x_idiv (X : XC p s m args meth c cx b nL rt own mn) {x y : Int32} (hd : decode b pc = .ok (.idiv, 1)) (hne : ¬ y = 0) (kk : XW p l e R s m args below meth c Q cx nL D P nx cells slots (pc + 1) lv (.int (x / y) :: st)) : XW p l e R s m args below meth c Q cx nL D P nx cells slots pc lv (.int y :: .int x :: st) :=
  fun H locs ls hR hS hl => lv_idiv X.1 X.2.1 hd hne (kk H locs ls hR hS hl)
theorem x_irem (X : XC p s m args meth c cx b nL rt own mn) {x y : Int32} (hd : decode b pc = .ok (.irem, 1)) (hne : ¬ y = 0) (kk : XW p l e R s m args below meth c Q cx nL D P nx cells slots (pc + 1) lv (.int (x - x / y * y) :: st)) : XW p l e R s m args below meth c Q cx nL D P nx cells slots pc lv (.int y :: .int x :: st) :=
  fun H locs ls hR hS hl => lv_irem X.1 X.2.1 hd hne (kk H locs ls hR hS hl)
theorem x_ldiv (X : XC p s m args meth c cx b nL rt own mn) {x y : Int64} (hd : decode b pc = .ok (.ldiv, 1)) (hne : ¬ y = 0) (kk : XW p l e R s m args below meth c Q cx nL D P nx cells slots (pc + 1) lv (.long (x / y) :: st)) : XW p l e R s m args below meth c Q cx nL D P nx cells slots pc lv (.long y :: .long x :: st) :=
  fun H locs ls hR hS hl => lv_ldiv X.1 X.2.1 hd hne (kk H locs ls hR hS hl)
theorem x_lrem (X : XC p s m args meth c cx b nL rt own mn) {x y : Int64} (hd : decode b pc = .ok (.lrem, 1)) (hne : ¬ y = 0) (kk : XW p l e R s m args below meth c Q cx nL D P nx cells slots (pc + 1) lv (.long (x - x / y * y) :: st)) : XW p l e R s m args below meth c Q cx nL D P nx cells slots pc lv (.long y :: .long x :: st) :=
  fun H locs ls hR hS hl => lv_lrem X.1 X.2.1 hd hne (kk H locs ls hR hS hl)
theorem x_i2l (X : XC p s m args meth c cx b nL rt own mn) {x : Int32} (hd : decode b pc = .ok (.i2l, 1)) (kk : XW p l e R s m args below meth c Q cx nL D P nx cells slots (pc + 1) lv (.long x.toInt64 :: st)) : XW p l e R s m args below meth c Q cx nL D P nx cells slots pc lv (.int x :: st) :=
  fun H locs ls hR hS hl => lv_i2l X.1 X.2.1 hd rfl (kk H locs ls hR hS hl)
theorem x_l2i (X : XC p s m args meth c cx b nL rt own mn) {x : Int64} (hd : decode b pc = .ok (.l2i, 1)) (kk : XW p l e R s m args below meth c Q cx nL D P nx cells slots (pc + 1) lv (.int x.toInt32 :: st)) : XW p l e R s m args below meth c Q cx nL D P nx cells slots pc lv (.long x :: st) :=
  fun H locs ls hR hS hl => lv_l2i X.1 X.2.1 hd rfl (kk H locs ls hR hS hl)
theorem x_i2b (X : XC p s m args meth c cx b nL rt own mn) {x : Int32} (hd : decode b pc = .ok (.i2b, 1)) (kk : XW p l e R s m args below meth c Q cx nL D P nx cells slots (pc + 1) lv (.int x.toInt8.toInt32 :: st)) : XW p l e R s m args below meth c Q cx nL D P nx cells slots pc lv (.int x :: st) :=
  fun H locs ls hR hS hl => lv_i2b X.1 X.2.1 hd rfl (kk H locs ls hR hS hl)
theorem x_i2c (X : XC p s m args meth c cx b nL rt own mn) {x : Int32} (hd : decode b pc = .ok (.i2c, 1)) (kk : XW p l e R s m args below meth c Q cx nL D P nx cells slots (pc + 1) lv (.int (x.toUInt32 % 65536).toInt32 :: st)) : XW p l e R s m args below meth c Q cx nL D P nx cells slots pc lv (.int x :: st) :=
  fun H locs ls hR hS hl => lv_i2c X.1 X.2.1 hd rfl (kk H locs ls hR hS hl)
theorem x_lcmp (X : XC p s m args meth c cx b nL rt own mn) {x y : Int64} (hd : decode b pc = .ok (.lcmp, 1)) (kk : XW p l e R s m args below meth c Q cx nL D P nx cells slots (pc + 1) lv (.int (lg_cmp x y) :: st)) : XW p l e R s m args below meth c Q cx nL D P nx cells slots pc lv (.long y :: .long x :: st) :=
  fun H locs ls hR hS hl => W.lcmp X.1 X.2.1 hd (kk H locs ls hR hS hl)
theorem x_dup2 (X : XC p s m args meth c cx b nL rt own mn) {v w : Value} (hd : decode b pc = .ok (.dup2, 1)) (hv : v.category = 1) (hw : w.category = 1) (kk : XW p l e R s m args below meth c Q cx nL D P nx cells slots (pc + 1) lv (v :: w :: v :: w :: st)) : XW p l e R s m args below meth c Q cx nL D P nx cells slots pc lv (v :: w :: st) :=
  fun H locs ls hR hS hl => lv_dup2_11 X.1 X.2.1 hd hv hw (kk H locs ls hR hS hl)
theorem x_if_eq (X : XC p s m args meth c cx b nL rt own mn) {x : Int32} {off : Int} {tgt : Nat} (hd : decode b pc = .ok (.ifCond .eq off, 3)) (ht : (pc : Int) + off = (tgt : Int)) (kt : x = 0 → XW p l e R s m args below meth c Q cx nL D P nx cells slots tgt lv st) (kf : ¬ x = 0 → XW p l e R s m args below meth c Q cx nL D P nx cells slots (pc + 3) lv st) : XW p l e R s m args below meth c Q cx nL D P nx cells slots pc lv (.int x :: st) :=
  fun H locs ls hR hS hl => lv_if_eq X.1 X.2.1 hd ht (fun q => kt q H locs ls hR hS hl) (fun q => kf q H locs ls hR hS hl)
theorem x_icmp_eq (X : XC p s m args meth c cx b nL rt own mn) {x y : Int32} {off : Int} {tgt : Nat} (hd : decode b pc = .ok (.if_icmp .eq off, 3)) (ht : (pc : Int) + off = (tgt : Int)) (kt : x = y → XW p l e R s m args below meth c Q cx nL D P nx cells slots tgt lv st) (kf : ¬ x = y → XW p l e R s m args below meth c Q cx nL D P nx cells slots (pc + 3) lv st) : XW p l e R s m args below meth c Q cx nL D P nx cells slots pc lv (.int y :: .int x :: st) :=
  fun H locs ls hR hS hl => lv_icmp_eq X.1 X.2.1 hd ht (fun q => kt q H locs ls hR hS hl) (fun q => kf q H locs ls hR hS hl)
theorem x_if_ne (X : XC p s m args meth c cx b nL rt own mn) {x : Int32} {off : Int} {tgt : Nat} (hd : decode b pc = .ok (.ifCond .ne off, 3)) (ht : (pc : Int) + off = (tgt : Int)) (kt : ¬ x = 0 → XW p l e R s m args below meth c Q cx nL D P nx cells slots tgt lv st) (kf : x = 0 → XW p l e R s m args below meth c Q cx nL D P nx cells slots (pc + 3) lv st) : XW p l e R s m args below meth c Q cx nL D P nx cells slots pc lv (.int x :: st) :=
  fun H locs ls hR hS hl => lv_if_ne X.1 X.2.1 hd ht (fun q => kt q H locs ls hR hS hl) (fun q => kf q H locs ls hR hS hl)
theorem x_icmp_ne (X : XC p s m args meth c cx b nL rt own mn) {x y : Int32} {off : Int} {tgt : Nat} (hd : decode b pc = .ok (.if_icmp .ne off, 3)) (ht : (pc : Int) + off = (tgt : Int)) (kt : ¬ x = y → XW p l e R s m args below meth c Q cx nL D P nx cells slots tgt lv st) (kf : x = y → XW p l e R s m args below meth c Q cx nL D P nx cells slots (pc + 3) lv st) : XW p l e R s m args below meth c Q cx nL D P nx cells slots pc lv (.int y :: .int x :: st) :=
  fun H locs ls hR hS hl => lv_icmp_ne X.1 X.2.1 hd ht (fun q => kt q H locs ls hR hS hl) (fun q => kf q H locs ls hR hS hl)
theorem x_if_lt (X : XC p s m args meth c cx b nL rt own mn) {x : Int32} {off : Int} {tgt : Nat} (hd : decode b pc = .ok (.ifCond .lt off, 3)) (ht : (pc : Int) + off = (tgt : Int)) (kt : x < 0 → XW p l e R s m args below meth c Q cx nL D P nx cells slots tgt lv st) (kf : ¬ x < 0 → XW p l e R s m args below meth c Q cx nL D P nx cells slots (pc + 3) lv st) : XW p l e R s m args below meth c Q cx nL D P nx cells slots pc lv (.int x :: st) :=
  fun H locs ls hR hS hl => lv_if_lt X.1 X.2.1 hd ht (fun q => kt q H locs ls hR hS hl) (fun q => kf q H locs ls hR hS hl)
theorem x_icmp_lt (X : XC p s m args meth c cx b nL rt own mn) {x y : Int32} {off : Int} {tgt : Nat} (hd : decode b pc = .ok (.if_icmp .lt off, 3)) (ht : (pc : Int) + off = (tgt : Int)) (kt : x < y → XW p l e R s m args below meth c Q cx nL D P nx cells slots tgt lv st) (kf : ¬ x < y → XW p l e R s m args below meth c Q cx nL D P nx cells slots (pc + 3) lv st) : XW p l e R s m args below meth c Q cx nL D P nx cells slots pc lv (.int y :: .int x :: st) :=
  fun H locs ls hR hS hl => lv_icmp_lt X.1 X.2.1 hd ht (fun q => kt q H locs ls hR hS hl) (fun q => kf q H locs ls hR hS hl)
theorem x_if_ge (X : XC p s m args meth c cx b nL rt own mn) {x : Int32} {off : Int} {tgt : Nat} (hd : decode b pc = .ok (.ifCond .ge off, 3)) (ht : (pc : Int) + off = (tgt : Int)) (kt : 0 ≤ x → XW p l e R s m args below meth c Q cx nL D P nx cells slots tgt lv st) (kf : ¬ 0 ≤ x → XW p l e R s m args below meth c Q cx nL D P nx cells slots (pc + 3) lv st) : XW p l e R s m args below meth c Q cx nL D P nx cells slots pc lv (.int x :: st) :=
  fun H locs ls hR hS hl => lv_if_ge X.1 X.2.1 hd ht (fun q => kt q H locs ls hR hS hl) (fun q => kf q H locs ls hR hS hl)
theorem x_icmp_ge (X : XC p s m args meth c cx b nL rt own mn) {x y : Int32} {off : Int} {tgt : Nat} (hd : decode b pc = .ok (.if_icmp .ge off, 3)) (ht : (pc : Int) + off = (tgt : Int)) (kt : y ≤ x → XW p l e R s m args below meth c Q cx nL D P nx cells slots tgt lv st) (kf : ¬ y ≤ x → XW p l e R s m args below meth c Q cx nL D P nx cells slots (pc + 3) lv st) : XW p l e R s m args below meth c Q cx nL D P nx cells slots pc lv (.int y :: .int x :: st) :=
  fun H locs ls hR hS hl => lv_icmp_ge X.1 X.2.1 hd ht (fun q => kt q H locs ls hR hS hl) (fun q => kf q H locs ls hR hS hl)
theorem x_if_gt (X : XC p s m args meth c cx b nL rt own mn) {x : Int32} {off : Int} {tgt : Nat} (hd : decode b pc = .ok (.ifCond .gt off, 3)) (ht : (pc : Int) + off = (tgt : Int)) (kt : 0 < x → XW p l e R s m args below meth c Q cx nL D P nx cells slots tgt lv st) (kf : ¬ 0 < x → XW p l e R s m args below meth c Q cx nL D P nx cells slots (pc + 3) lv st) : XW p l e R s m args below meth c Q cx nL D P nx cells slots pc lv (.int x :: st) :=
  fun H locs ls hR hS hl => lv_if_gt X.1 X.2.1 hd ht (fun q => kt q H locs ls hR hS hl) (fun q => kf q H locs ls hR hS hl)
theorem x_icmp_gt (X : XC p s m args meth c cx b nL rt own mn) {x y : Int32} {off : Int} {tgt : Nat} (hd : decode b pc = .ok (.if_icmp .gt off, 3)) (ht : (pc : Int) + off = (tgt : Int)) (kt : y < x → XW p l e R s m args below meth c Q cx nL D P nx cells slots tgt lv st) (kf : ¬ y < x → XW p l e R s m args below meth c Q cx nL D P nx cells slots (pc + 3) lv st) : XW p l e R s m args below meth c Q cx nL D P nx cells slots pc lv (.int y :: .int x :: st) :=
  fun H locs ls hR hS hl => lv_icmp_gt X.1 X.2.1 hd ht (fun q => kt q H locs ls hR hS hl) (fun q => kf q H locs ls hR hS hl)
theorem x_if_le (X : XC p s m args meth c cx b nL rt own mn) {x : Int32} {off : Int} {tgt : Nat} (hd : decode b pc = .ok (.ifCond .le off, 3)) (ht : (pc : Int) + off = (tgt : Int)) (kt : x ≤ 0 → XW p l e R s m args below meth c Q cx nL D P nx cells slots tgt lv st) (kf : ¬ x ≤ 0 → XW p l e R s m args below meth c Q cx nL D P nx cells slots (pc + 3) lv st) : XW p l e R s m args below meth c Q cx nL D P nx cells slots pc lv (.int x :: st) :=
  fun H locs ls hR hS hl => lv_if_le X.1 X.2.1 hd ht (fun q => kt q H locs ls hR hS hl) (fun q => kf q H locs ls hR hS hl)
theorem x_icmp_le (X : XC p s m args meth c cx b nL rt own mn) {x y : Int32} {off : Int} {tgt : Nat} (hd : decode b pc = .ok (.if_icmp .le off, 3)) (ht : (pc : Int) + off = (tgt : Int)) (kt : x ≤ y → XW p l e R s m args below meth c Q cx nL D P nx cells slots tgt lv st) (kf : ¬ x ≤ y → XW p l e R s m args below meth c Q cx nL D P nx cells slots (pc + 3) lv st) : XW p l e R s m args below meth c Q cx nL D P nx cells slots pc lv (.int y :: .int x :: st) :=
  fun H locs ls hR hS hl => lv_icmp_le X.1 X.2.1 hd ht (fun q => kt q H locs ls hR hS hl) (fun q => kf q H locs ls hR hS hl)
theorem x_ifnull (X : XC p s m args meth c cx b nL rt own mn) {x : Nat} {off : Int} (hd : decode b pc = .ok (.ifnull off, 3)) (kk : XW p l e R s m args below meth c Q cx nL D P nx cells slots (pc + 3) lv st) : XW p l e R s m args below meth c Q cx nL D P nx cells slots pc lv (.ref x :: st) :=
  fun H locs ls hR hS hl => lv_ifnull X.1 X.2.1 hd (kk H locs ls hR hS hl)
theorem x_ifnullN (X : XC p s m args meth c cx b nL rt own mn) {off : Int} {tgt : Nat} (hd : decode b pc = .ok (.ifnull off, 3)) (ht : (pc : Int) + off = (tgt : Int)) (kk : XW p l e R s m args below meth c Q cx nL D P nx cells slots tgt lv st) : XW p l e R s m args below meth c Q cx nL D P nx cells slots pc lv (.null :: st) :=
  fun H locs ls hR hS hl => lv_ifnullN X.1 X.2.1 hd ht (kk H locs ls hR hS hl)
theorem x_ifnonnull (X : XC p s m args meth c cx b nL rt own mn) {x : Nat} {off : Int} {tgt : Nat} (hd : decode b pc = .ok (.ifnonnull off, 3)) (ht : (pc : Int) + off = (tgt : Int)) (kk : XW p l e R s m args below meth c Q cx nL D P nx cells slots tgt lv st) : XW p l e R s m args below meth c Q cx nL D P nx cells slots pc lv (.ref x :: st) :=
  fun H locs ls hR hS hl => lv_ifnonnull X.1 X.2.1 hd ht (kk H locs ls hR hS hl)
theorem x_ifnonnullN (X : XC p s m args meth c cx b nL rt own mn) {off : Int} (hd : decode b pc = .ok (.ifnonnull off, 3)) (kk : XW p l e R s m args below meth c Q cx nL D P nx cells slots (pc + 3) lv st) : XW p l e R s m args below meth c Q cx nL D P nx cells slots pc lv (.null :: st) :=
  fun H locs ls hR hS hl => lv_ifnonnullN X.1 X.2.1 hd (kk H locs ls hR hS hl)
theorem x_tsw (X : XC p s m args meth c cx b nL rt own mn) {dflt lo hi : Int} {offs : Array Int} {len : Nat} {x : Int32} {off : Int} {tgt : Nat} (v : Int32) (hd : decode b pc = .ok (.tableswitch dflt lo hi offs, len)) (hx : x = v) (h1 : ¬ v.toInt < lo) (h2 : ¬ hi < v.toInt) (ho : offs[(v.toInt - lo).toNat]? = some off) (ht : (pc : Int) + off = (tgt : Int)) (kk : XW p l e R s m args below meth c Q cx nL D P nx cells slots tgt lv st) : XW p l e R s m args below meth c Q cx nL D P nx cells slots pc lv (.int x :: st) := by
  subst hx
  exact fun H locs ls hR hS hl => lv_tableIn X.1 X.2.1 hd h1 h2 ho ht (kk H locs ls hR hS hl)
theorem x_tswd (X : XC p s m args meth c cx b nL rt own mn) {dflt lo hi : Int} {offs : Array Int} {len : Nat} {x : Int32} {tgt : Nat} (hd : decode b pc = .ok (.tableswitch dflt lo hi offs, len)) (h : x.toInt < lo ∨ hi < x.toInt) (ht : (pc : Int) + dflt = (tgt : Int)) (kk : XW p l e R s m args below meth c Q cx nL D P nx cells slots tgt lv st) : XW p l e R s m args below meth c Q cx nL D P nx cells slots pc lv (.int x :: st) :=
  fun H locs ls hR hS hl => lv_tableOut X.1 X.2.1 hd h ht (kk H locs ls hR hS hl)
theorem x_lsw (X : XC p s m args meth c cx b nL rt own mn) {dflt : Int} {ps : Array (Int × Int)} {len : Nat} {x : Int32} {off : Int} {tgt : Nat} (v : Int32) (hd : decode b pc = .ok (.lookupswitch dflt ps, len)) (hp : (ps.toList.zip (ps.toList.drop 1)).all (fun (a, next) => a.1 < next.1) = true) (hx : x = v) (ho : Op.lookupswitch.offset ps.toList dflt v.toInt = off) (ht : (pc : Int) + off = (tgt : Int)) (kk : XW p l e R s m args below meth c Q cx nL D P nx cells slots tgt lv st) : XW p l e R s m args below meth c Q cx nL D P nx cells slots pc lv (.int x :: st) := by
  subst hx
  exact fun H locs ls hR hS hl => lv_lookup X.1 X.2.1 hd hp ho ht (kk H locs ls hR hS hl)
theorem x_lswd (X : XC p s m args meth c cx b nL rt own mn) {dflt : Int} {ps : Array (Int × Int)} {len : Nat} {x : Int32} {off : Int} {tgt : Nat} (hd : decode b pc = .ok (.lookupswitch dflt ps, len)) (hp : (ps.toList.zip (ps.toList.drop 1)).all (fun (a, next) => a.1 < next.1) = true) (ho : Op.lookupswitch.offset ps.toList dflt x.toInt = off) (ht : (pc : Int) + off = (tgt : Int)) (kk : XW p l e R s m args below meth c Q cx nL D P nx cells slots tgt lv st) : XW p l e R s m args below meth c Q cx nL D P nx cells slots pc lv (.int x :: st) :=
  fun H locs ls hR hS hl => lv_lookup X.1 X.2.1 hd hp ho ht (kk H locs ls hR hS hl)
theorem sw_out {x : Int32} {n : Nat} (hn : n < 1000) (h : ∀ k, k < n → ¬ x = nI k) : x.toInt < 0 ∨ (n : Int) - 1 < x.toInt := by
  by_cases q : x.toInt < 0
  · exact Or.inl q
  · right
    apply Classical.byContradiction
    intro z
    refine h x.toInt.toNat (by omega) ?_
    apply Int32.toInt_inj.mp
    rw [nI_toInt (by omega)]
    omega
end XR
end
section
/-! what an instruction does to the heap; calls; ends -/
abbrev MV (y : MethodName) (b : ByteArray) (nL : Nat) (rt : Option FieldType) (n : Nat) : Prop :=
  Cond.code y b nL rt ∈ wT ∧ Cond.instanceMethod y ∈ wT ∧ Cond.selects y.cls y y ∈ wT ∧ Cond.initialized y.cls ∈ wT ∧ y.cls ≠ "java/lang/invoke/MethodHandle" ∧ y.cls ≠ "java/lang/invoke/VarHandle" ∧ (parseMethodDescriptor y.desc).map (fun d => d.parameters.length) = some n
abbrev MS (y : MethodName) (b : ByteArray) (nL : Nat) (rt : Option FieldType) (n : Nat) : Prop :=
  Cond.code y b nL rt ∈ wT ∧ Cond.static y ∈ wT ∧ Cond.initialized y.cls ∈ wT ∧ y.cls ≠ "java/lang/invoke/MethodHandle" ∧ y.cls ≠ "java/lang/invoke/VarHandle" ∧ (parseMethodDescriptor y.desc).map (fun d => d.parameters.length) = some n
abbrev MI (y : MethodName) (b : ByteArray) (nL : Nat) (n : Nat) : Prop :=
  Cond.code y b nL none ∈ wT ∧ Cond.instanceMethod y ∈ wT ∧ y.name = "<init>" ∧ Cond.initialized y.cls ∈ wT ∧ y.cls ≠ "java/lang/invoke/MethodHandle" ∧ y.cls ≠ "java/lang/invoke/VarHandle" ∧ (parseMethodDescriptor y.desc).map (fun d => d.parameters.length) = some n
theorem wT_good {w : Cond} (h : w ∈ wT) : goodWord w = true := (List.mem_filter.mp h).2
theorem good_wT {y : MethodName} {b : ByteArray} {nL : Nat} {rt : Option FieldType} (h : Cond.code y b nL rt ∈ wT) : GoodIn wT (.code y b nL rt :: wT) := by
  intro w hw
  rcases List.mem_cons.mp hw with rfl | q
  · exact ⟨h, good_of_word (wT_good h)⟩
  · exact ⟨q, good_of_word (wT_good q)⟩
theorem rep_obj {cx : Cx} {D : Dt} {P : Ft} {nx a ci n : Nat} {C : String} {T : u_T} {H : Heap} (hR : Rep cx D P nx H) (hk : kd nx a = ci) (hc : vwCl[ci]? = some (C, T, n)) : va_at cx.1 vwCl (cx.2.2 + a, .inr (ci, flds cx ci (D a) (P a))) H := by
  have hlt := cls_lt hc
  obtain ⟨h1, h2⟩ := kd_lt (nx := nx) (a := a) (by omega)
  have h3 := hR.2 a h1
  rw [h2, hk, cellE_obj hlt] at h3
  exact h3
section XH
variable {p : Program} {l : Launch} {e : Env} {R : Room} {s : State} {m : MethodId} {args : Array Value} {below : List Frame} {meth : Method} {c : Code} {Q : State → Prop} {cx : Cx} {b : ByteArray} {nL : Nat} {rt : Option FieldType} {own mn : String} {D : Dt} {P : Ft} {nx cells slots pc : Nat} {lv : List (Nat × Value)} {st : List Value}
theorem x_get (X : XC p s m args meth c cx b nL rt own mn) {idx ci k n a : Nat} {C : String} {T : u_T} {v : Value} (hd : decode b pc = .ok (.getfield idx, 3)) (hk : kd nx a = ci) (hc : vwCl[ci]? = some (C, T, n)) (hkn : k < n) (hw : Cond.fieldLink own idx (T k).1 (T k).2.1 (T k).2.2.1 ∈ wT) (hv : (flds cx ci (D a) (P a))[k]? = some v) (kk : XW p l e R s m args below meth c Q cx nL D P nx cells slots (pc + 3) lv (v :: st)) : XW p l e R s m args below meth c Q cx nL D P nx cells slots pc lv (.ref (cx.2.2 + a) :: st) := by
  intro H locs ls hR hS hl
  obtain ⟨hx, hb, hml, hr, hown, hts, hK, hlk, hmn⟩ := X
  exact va_get (D := cx.1) (cl := vwCl) (tys := tysOf cx) hx hb hts (cls_all hc).1 hown hK.1 (va_P1 (rep_obj hR hk hc)) 0 rfl hc k hkn (hts _ hw) (fun x h => h) hv hd (kk H locs ls hR hS hl)
/-- an int of an object -/
theorem x_geti (X : XC p s m args meth c cx b nL rt own mn) {idx ci k n a : Nat} {C : String} {T : u_T} (hd : decode b pc = .ok (.getfield idx, 3)) (hk : kd nx a = ci) (hc : vwCl[ci]? = some (C, T, n)) (hkn : k < n) (hw : Cond.fieldLink own idx (T k).1 (T k).2.1 (T k).2.2.1 ∈ wT) (hi : isI ci k = true) (kk : XW p l e R s m args below meth c Q cx nL D P nx cells slots (pc + 3) lv (.int (D a k) :: st)) : XW p l e R s m args below meth c Q cx nL D P nx cells slots pc lv (.ref (cx.2.2 + a) :: st) := by
  refine x_get X hd hk hc hkn hw ?_ kk
  have hn := cls_nfs hc
  simp [flds, hn, hkn, fld, hi]
/-- a reference of an object, known -/
theorem x_getr (X : XC p s m args meth c cx b nL rt own mn) {idx ci k n a q : Nat} {C : String} {T : u_T} (hd : decode b pc = .ok (.getfield idx, 3)) (hk : kd nx a = ci) (hc : vwCl[ci]? = some (C, T, n)) (hkn : k < n) (hw : Cond.fieldLink own idx (T k).1 (T k).2.1 (T k).2.2.1 ∈ wT) (hi : isI ci k = false) (hq : P a k = some q) (kk : XW p l e R s m args below meth c Q cx nL D P nx cells slots (pc + 3) lv (.ref (cx.2.2 + q) :: st)) : XW p l e R s m args below meth c Q cx nL D P nx cells slots pc lv (.ref (cx.2.2 + a) :: st) := by
  refine x_get X hd hk hc hkn hw ?_ kk
  have hn := cls_nfs hc
  simp [flds, hn, hkn, fld, hi, hq, rv, va_rf]
theorem x_put0 (X : XC p s m args meth c cx b nL rt own mn) {idx ci k n a : Nat} {C : String} {T : u_T} {ty : FieldType} {v : Value} {D' : Dt} {P' : Ft} (hd : decode b pc = .ok (.putfield idx, 3)) (hk : kd nx a = ci) (hc : vwCl[ci]? = some (C, T, n)) (hkn : k < n) (hw : Cond.fieldLink own idx (T k).1 (T k).2.1 (T k).2.2.1 ∈ wT) (hfin : (T k).2.2.2 = false ∨ (mn = "<init>" ∧ (T k).1 = own)) (hty : parseFieldDescriptor (T k).2.2.1 = some ty) (hn : narrow ty v = v) (hfit : fits ty v = true) (hD : ∀ q, q ≠ a → D' q = D q) (hP : ∀ q, q ≠ a → P' q = P q) (hf : flds cx ci (D' a) (P' a) = (flds cx ci (D a) (P a)).set k v) (kk : XW p l e R s m args below meth c Q cx nL D' P' nx cells slots (pc + 3) lv st) : XW p l e R s m args below meth c Q cx nL D P nx cells slots pc lv (v :: .ref (cx.2.2 + a) :: st) := by
  intro H locs ls hR hS hl
  obtain ⟨hx, hb, hml, hr, hown, hts, hK, hlk, hmn⟩ := X
  obtain ⟨hin, ty0, hty0, hnm⟩ := cls_all hc
  have hlt10 := cls_lt hc
  have hkd2 := (kd_lt (nx := nx) (a := a) (by omega)).2
  have hap := va_apart (own := own) hts hin ty0 hty0 hnm hK.1 hc
  obtain ⟨r, h1, cell, q1, q2, q3, q4⟩ := rep_obj hR hk hc
  have hr' : r = (C, T, n) := Option.some.inj (h1.symm.trans hc)
  subst hr'
  obtain ⟨hSl, hfc, kC, hkC, hkind⟩ := hK.1.1 ci _ hc
  obtain ⟨cf, kf, fi, f, hi, hsl⟩ := hSl k hkn
  have hlay := hts _ (hin _ (u_in_lay hkn))
  have hst := (u_facts hfc hkC (u_lays hts hin hkn) hi).1
  have hl2 : k < (flds cx ci (D a) (P a)).length := by rw [flds_len, cls_nfs hc]; exact hkn
  have fin : ∀ H' : Heap, H'[cx.2.2 + a]? = some (cell.setSlot f.slot v) → H'.size = H.size → (∀ q : Nat, q ≠ cx.2.2 + a → H'[q]? = H[q]?) → ∀ locs1, locs1 = locs ++ [(⟨cx.2.2 + a, f.slot⟩ : Loc)] → W p l e R s m args below meth c H' locs1 cells slots Q (F0 m (pc + 3) ls st) := by
    intro H' e1 e2 e3 locs1 hlo
    subst hlo
    rw [hsl] at e1
    refine kk H' _ ls (hR.upd e2 e3 ?_ hD hP) (hS.put e2 e3 AA_add) hl
    rw [hkd2, hk, cellE_obj hlt10, hf]
    exact ⟨_, hc, t_OB.to (V := updV (vp_V (flds cx ci (D a) (P a))) k v) ⟨_, e1, q2, q3, t_set q4 hap hkn v⟩ (fun j _ => vp_updV_set hl2 v j)⟩
  by_cases hff : (T k).2.2.2 = false
  · unfold u_lay at hlay
    rw [if_neg (by rw [hff]; decide)] at hlay
    have h6 := u_store hfc hkC hkind hlay hi hty hn hfit
    exact W.putK hx hb (f := f) ⟨hown, hts _ hw, ⟨_, _, _, hi⟩, hst⟩ (by rw [q2]; exact h6) q1 q3 (by rw [hsl]; exact k2_hasslot (q4 k hkn)) rfl rfl hd fun H' e1 e2 e3 => fin H' e1 e2 e3 _ rfl
  · have hft : (T k).2.2.2 = true := by revert hff; cases (T k).2.2.2 <;> simp
    obtain ⟨hin2, hdecl⟩ : mn = "<init>" ∧ (T k).1 = own := hfin.resolve_left hff
    unfold u_lay at hlay
    rw [if_pos hft] at hlay
    have hcf : m.cls = cf := by
      obtain ⟨_, _, c', _, _, _, -, -, hf', -, -, -, hown2, -⟩ := Cond.laysFinal_spec hlay
      have e1 : c' = cf := by have := hi.symm.trans hf'; simp at this; exact this.1.symm
      rw [hdecl] at hown2
      rw [← e1]; exact Option.some.inj (hown.symm.trans hown2)
    have h6 := u_fits hfc hkC hkind (Or.inr hlay) hi hty hn hfit
    exact W.putFinK hx hb hown (hts _ hw) hi hst hcf (hmn.trans hin2) (by rw [q2]; exact h6) q1 q3 (by rw [hsl]; exact k2_hasslot (q4 k hkn)) rfl rfl hd fun H' e1 e2 e3 => fin H' e1 e2 e3 _ rfl
theorem x_puti (X : XC p s m args meth c cx b nL rt own mn) {idx ci k n a : Nat} {C : String} {T : u_T} {x : Int32} {D' : Dt} (hd : decode b pc = .ok (.putfield idx, 3)) (hk : kd nx a = ci) (hc : vwCl[ci]? = some (C, T, n)) (hkn : k < n) (hw : Cond.fieldLink own idx (T k).1 (T k).2.1 (T k).2.2.1 ∈ wT) (hfin : (T k).2.2.2 = false) (hty : parseFieldDescriptor (T k).2.2.1 = some .int) (hi : isI ci k = true) (hD : D' = upd2 D a k x) (kk : XW p l e R s m args below meth c Q cx nL D' P nx cells slots (pc + 3) lv st) : XW p l e R s m args below meth c Q cx nL D P nx cells slots pc lv (.int x :: .ref (cx.2.2 + a) :: st) := by
  subst hD
  exact x_put0 X hd hk hc hkn hw (Or.inl hfin) hty rfl rfl (fun q h => upd2_n h) (fun q h => rfl) (by rw [upd2_s, flds_setI hi]) kk
theorem x_putz (X : XC p s m args meth c cx b nL rt own mn) {idx ci k n a : Nat} {C : String} {T : u_T} {x : Int32} {D' : Dt} (hd : decode b pc = .ok (.putfield idx, 3)) (hk : kd nx a = ci) (hc : vwCl[ci]? = some (C, T, n)) (hkn : k < n) (hw : Cond.fieldLink own idx (T k).1 (T k).2.1 (T k).2.2.1 ∈ wT) (hfin : (T k).2.2.2 = false) (hty : parseFieldDescriptor (T k).2.2.1 = some .boolean) (hi : isI ci k = true) (hx : x = 0 ∨ x = 1) (hD : D' = upd2 D a k x) (kk : XW p l e R s m args below meth c Q cx nL D' P nx cells slots (pc + 3) lv st) : XW p l e R s m args below meth c Q cx nL D P nx cells slots pc lv (.int x :: .ref (cx.2.2 + a) :: st) := by
  subst hD
  exact x_put0 X hd hk hc hkn hw (Or.inl hfin) hty (by rcases hx with rfl | rfl <;> rfl) (by rcases hx with rfl | rfl <;> rfl) (fun q h => upd2_n h) (fun q h => rfl) (by rw [upd2_s, flds_setI hi]) kk
/-- a final reference, in a constructor -/
theorem x_putr (X : XC p s m args meth c cx b nL rt own "<init>") {idx ci k n a q : Nat} {C : String} {T : u_T} {ty : FieldType} {P' : Ft} (hd : decode b pc = .ok (.putfield idx, 3)) (hk : kd nx a = ci) (hc : vwCl[ci]? = some (C, T, n)) (hkn : k < n) (hw : Cond.fieldLink own idx (T k).1 (T k).2.1 (T k).2.2.1 ∈ wT) (hdecl : (T k).1 = own) (hty : parseFieldDescriptor (T k).2.2.1 = some ty) (hrty : (∃ C, ty = .object C) ∨ ∃ t, ty = .array t) (hi : isI ci k = false) (hP : P' = updF P a k (some q)) (kk : XW p l e R s m args below meth c Q cx nL D P' nx cells slots (pc + 3) lv st) : XW p l e R s m args below meth c Q cx nL D P nx cells slots pc lv (.ref (cx.2.2 + q) :: .ref (cx.2.2 + a) :: st) := by
  subst hP
  refine x_put0 X hd hk hc hkn hw (Or.inr ⟨rfl, hdecl⟩) hty (by rcases hrty with ⟨C, rfl⟩ | ⟨t, rfl⟩ <;> rfl) (by rcases hrty with ⟨C, rfl⟩ | ⟨t, rfl⟩ <;> rfl) (fun q h => rfl) (fun q h => updF_n h) ?_ kk
  rw [updF_s, flds_setR hi]
  rfl
theorem x_iald (X : XC p s m args meth c cx b nL rt own mn) {i : Int32} {a : Nat} (hd : decode b pc = .ok (.iaload, 1)) (hg : ab nx a 3 i = true) (kk : XW p l e R s m args below meth c Q cx nL D P nx cells slots (pc + 1) lv (.int (D a i.toNatClampNeg) :: st)) : XW p l e R s m args below meth c Q cx nL D P nx cells slots pc lv (.int i :: .ref (cx.2.2 + a) :: st) := by
  intro H locs ls hR hS hl
  obtain ⟨h1, h2, h3⟩ := ab_sp hg (by decide)
  have h4 := hR.2 a h1
  rw [cellE_3 h2] at h4
  exact va_iald (D := cx.1) (cl := vwCl) (tys := tysOf cx) X.1 X.2.1 X.2.2.2.2.2.2.1.1 (va_P1 h4) 0 2 rfl rfl h3 hd (kk H locs ls hR hS hl)
theorem x_bald (X : XC p s m args meth c cx b nL rt own mn) {i : Int32} {a : Nat} (hd : decode b pc = .ok (.baload, 1)) (hg : ab nx a 1 i = true) (kk : XW p l e R s m args below meth c Q cx nL D P nx cells slots (pc + 1) lv (.int (D a i.toNatClampNeg) :: st)) : XW p l e R s m args below meth c Q cx nL D P nx cells slots pc lv (.int i :: .ref (cx.2.2 + a) :: st) := by
  intro H locs ls hR hS hl
  obtain ⟨h1, h2, h3⟩ := ab_sp hg (by decide)
  have h4 := hR.2 a h1
  rw [cellE_1 h2] at h4
  exact va_bald (D := cx.1) (cl := vwCl) (tys := tysOf cx) X.1 X.2.1 X.2.2.2.2.2.2.1.1 (va_P1 h4) 0 0 rfl rfl h3 hd (kk H locs ls hR hS hl)
theorem x_cald (X : XC p s m args meth c cx b nL rt own mn) {i : Int32} {a : Nat} (hd : decode b pc = .ok (.caload, 1)) (hg : ab nx a 2 i = true) (kk : XW p l e R s m args below meth c Q cx nL D P nx cells slots (pc + 1) lv (.int (D a i.toNatClampNeg) :: st)) : XW p l e R s m args below meth c Q cx nL D P nx cells slots pc lv (.int i :: .ref (cx.2.2 + a) :: st) := by
  intro H locs ls hR hS hl
  obtain ⟨h1, h2, h3⟩ := ab_sp hg (by decide)
  have h4 := hR.2 a h1
  rw [cellE_2 h2] at h4
  exact va_cald (D := cx.1) (cl := vwCl) (tys := tysOf cx) X.1 X.2.1 X.2.2.2.2.2.2.1.1 (va_P1 h4) 0 1 rfl rfl h3 hd (kk H locs ls hR hS hl)
theorem x_aald (X : XC p s m args meth c cx b nL rt own mn) {i : Int32} {a q : Nat} (hd : decode b pc = .ok (.aaload, 1)) (hg : ab nx a 4 i = true) (hq : P a i.toNatClampNeg = some q) (kk : XW p l e R s m args below meth c Q cx nL D P nx cells slots (pc + 1) lv (.ref (cx.2.2 + q) :: st)) : XW p l e R s m args below meth c Q cx nL D P nx cells slots pc lv (.int i :: .ref (cx.2.2 + a) :: st) := by
  intro H locs ls hR hS hl
  obtain ⟨h1, h2, h3⟩ := ab_sp hg (by decide)
  have h4 := hR.2 a h1
  rw [cellE_4 h2] at h4
  refine va_aldq (D := cx.1) (cl := vwCl) (tys := tysOf cx) X.1 X.2.1 X.2.2.2.2.2.2.1.1 (va_P1 h4) 0 3 rfl rfl h3 hd ?_
  show W p l e R s m args below meth c H locs cells slots Q (F0 m (pc + 1) ls (va_rf ((P a i.toNatClampNeg).map fun q => cx.2.2 + q) :: st))
  rw [hq]
  exact kk H locs ls hR hS hl
theorem x_alen (X : XC p s m args meth c cx b nL rt own mn) {a t k : Nat} {v : Int32} (hd : decode b pc = .ok (.arraylength, 1)) (hk : kd nx a = k) (ht : k / 10000 = 3 ∨ k / 10000 = 4) (hv : Int32.ofNat (k % 10000) = v) (kk : XW p l e R s m args below meth c Q cx nL D P nx cells slots (pc + 1) lv (.int v :: st)) : XW p l e R s m args below meth c Q cx nL D P nx cells slots pc lv (.ref (cx.2.2 + a) :: st) := by
  intro H locs ls hR hS hl
  obtain ⟨h1, h2⟩ := kd_lt (nx := nx) (a := a) (by omega)
  have h4 := hR.2 a h1
  rw [h2, hk] at h4
  rcases ht with h3 | h3
  · rw [cellE_3 h3] at h4
    exact va_alen (D := cx.1) (cl := vwCl) (tys := tysOf cx) X.1 X.2.1 X.2.2.2.2.2.2.1.1 (va_P1 h4) 0 2 rfl rfl hv hd (kk H locs ls hR hS hl)
  · rw [cellE_4 h3] at h4
    exact va_alen (D := cx.1) (cl := vwCl) (tys := tysOf cx) X.1 X.2.1 X.2.2.2.2.2.2.1.1 (va_P1 h4) 0 3 rfl rfl hv hd (kk H locs ls hR hS hl)
theorem x_iast (X : XC p s m args meth c cx b nL rt own mn) {i x : Int32} {a : Nat} {D' : Dt} (hd : decode b pc = .ok (.iastore, 1)) (hg : ab nx a 3 i = true) (hD : D' = upd2 D a i.toNatClampNeg x) (kk : XW p l e R s m args below meth c Q cx nL D' P nx cells slots (pc + 1) lv st) : XW p l e R s m args below meth c Q cx nL D P nx cells slots pc lv (.int x :: .int i :: .ref (cx.2.2 + a) :: st) := by
  subst hD
  intro H locs ls hR hS hl
  obtain ⟨h1, h2, hin⟩ := ab_sp hg (by decide)
  have h4 := hR.2 a h1
  rw [cellE_3 h2] at h4
  have hArr := (X.2.2.2.2.2.2.1.1.2 2 _ rfl).1
  refine W.iast X.1 X.2.1 h4 (hArr (SH a % 10000) (fun j => .int (D a j))) (fun q => by cases q) (by show ¬ (i < 0 ∨ (arrV _ _ _).slots.size ≤ _); rw [arrV_size]; exact hin) rfl rfl hd fun H1 e z oq => ?_
  refine kk H1 _ ls (hR.upd z oq ?_ (fun q h => upd2_n h) (fun q h => rfl)) (hS.put z oq AA_add) hl
  rw [cellE_3 h2]
  show H1[cx.2.2 + a]? = some (vp_cell _ _)
  rw [e]
  rw [vp_cell_i, vp_cell_i, arrV_store]
  congr 2
  funext q
  rw [upd2_s]
  by_cases hq : q = i.toNatClampNeg
  · subst hq
    simp [updV, upd]
  · simp [updV, upd, hq]
theorem x_bast (X : XC p s m args meth c cx b nL rt own mn) {i x : Int32} {a : Nat} {D' : Dt} (hd : decode b pc = .ok (.bastore, 1)) (hg : ab nx a 1 i = true) (hD : D' = upd2 D a i.toNatClampNeg (vp_nar .byte x)) (kk : XW p l e R s m args below meth c Q cx nL D' P nx cells slots (pc + 1) lv st) : XW p l e R s m args below meth c Q cx nL D P nx cells slots pc lv (.int x :: .int i :: .ref (cx.2.2 + a) :: st) := by
  subst hD
  intro H locs ls hR hS hl
  obtain ⟨h1, h2, hin⟩ := ab_sp hg (by decide)
  have h4 := hR.2 a h1
  rw [cellE_1 h2] at h4
  have hArr := (X.2.2.2.2.2.2.1.1.2 0 _ rfl).1
  refine W.bast X.1 X.2.1 h4 (hArr (SH a % 10000) (fun j => .int (D a j))) (fun q => by cases q) (by show ¬ (i < 0 ∨ (arrV _ _ _).slots.size ≤ _); rw [arrV_size]; exact hin) rfl rfl hd fun H1 e z oq => ?_
  refine kk H1 _ ls (hR.upd z oq ?_ (fun q h => upd2_n h) (fun q h => rfl)) (hS.put z oq AA_add) hl
  rw [cellE_1 h2]
  show H1[cx.2.2 + a]? = some (vp_cell _ _)
  rw [e]
  rw [vp_cell_i, vp_cell_i, arrV_store]
  congr 2
  funext q
  rw [upd2_s]
  by_cases hq : q = i.toNatClampNeg
  · subst hq
    simp [updV, upd, vp_nar, narrow]
  · simp [updV, upd, hq]
theorem x_cast (X : XC p s m args meth c cx b nL rt own mn) {i x : Int32} {a : Nat} {D' : Dt} (hd : decode b pc = .ok (.castore, 1)) (hg : ab nx a 2 i = true) (hD : D' = upd2 D a i.toNatClampNeg (vp_nar .char x)) (kk : XW p l e R s m args below meth c Q cx nL D' P nx cells slots (pc + 1) lv st) : XW p l e R s m args below meth c Q cx nL D P nx cells slots pc lv (.int x :: .int i :: .ref (cx.2.2 + a) :: st) := by
  subst hD
  intro H locs ls hR hS hl
  obtain ⟨h1, h2, hin⟩ := ab_sp hg (by decide)
  have h4 := hR.2 a h1
  rw [cellE_2 h2] at h4
  have hArr := (X.2.2.2.2.2.2.1.1.2 1 _ rfl).1
  refine W.cast X.1 X.2.1 h4 (hArr (SH a % 10000) (fun j => .int (D a j))) (fun q => by cases q) (by show ¬ (i < 0 ∨ (arrV _ _ _).slots.size ≤ _); rw [arrV_size]; exact hin) rfl rfl hd fun H1 e z oq => ?_
  refine kk H1 _ ls (hR.upd z oq ?_ (fun q h => upd2_n h) (fun q h => rfl)) (hS.put z oq AA_add) hl
  rw [cellE_2 h2]
  show H1[cx.2.2 + a]? = some (vp_cell _ _)
  rw [e]
  rw [vp_cell_i, vp_cell_i, arrV_store]
  congr 2
  funext q
  rw [upd2_s]
  by_cases hq : q = i.toNatClampNeg
  · subst hq
    simp [updV, upd, vp_nar, narrow]
  · simp [updV, upd, hq]
theorem x_aast (X : XC p s m args meth c cx b nL rt own mn) {i : Int32} {a v : Nat} {P' : Ft} (hd : decode b pc = .ok (.aastore, 1)) (hg : ab nx a 4 i = true) (hv : kd nx v = 7) (hP : P' = updF P a i.toNatClampNeg (some v)) (kk : XW p l e R s m args below meth c Q cx nL D P' nx cells slots (pc + 1) lv st) : XW p l e R s m args below meth c Q cx nL D P nx cells slots pc lv (.ref (cx.2.2 + v) :: .int i :: .ref (cx.2.2 + a) :: st) := by
  subst hP
  intro H locs ls hR hS hl
  obtain ⟨h1, h2, hin⟩ := ab_sp hg (by decide)
  have h4 := hR.2 a h1
  rw [cellE_4 h2] at h4
  have hc : vwCl[7]? = some (RX7, TX7, 5) := rfl
  have hlt : i.toNatClampNeg < SH a % 10000 := Nat.not_le.mp fun q => hin (Or.inr q)
  have h0 : ¬ i < 0 := fun q => hin (Or.inl q)
  obtain ⟨r', hr', cellV, g1, g2, g3, -⟩ := rep_obj hR hv hc
  have hcls := (X.2.2.2.2.2.2.1.1.1 7 _ hc).2
  obtain ⟨kA, comp, k1, k2, k3, -⟩ := (X.2.2.2.2.2.2.1.1.2 3 _ rfl).2
  have hcomp : comp = cx.1.1 7 := Option.some.inj (k3.symm.trans hcls.1)
  subst hcomp
  obtain ⟨kC, hkC, -⟩ := hcls.2
  refine W.aast X.1 X.2.1 h4 (fun q h => by cases h) (fun h => by cases h) k1 k2 rfl hkC ⟨h0, by show _ < (arrV _ _ _).slots.size; rw [arrV_size]; exact hlt⟩ g1 (fun q h => by rw [g3] at h; cases h) (by rw [g2]; exact hkC) (by rw [g2]; exact va_assign hcls) rfl rfl hd fun H1 e z oq => ?_
  refine kk H1 _ ls (hR.upd z oq ?_ (fun q h => rfl) (fun q h => updF_n h)) (hS.put z oq AA_add) hl
  rw [cellE_4 h2]
  show H1[cx.2.2 + a]? = some (vp_cell _ _)
  rw [e]
  rw [vp_cell_q, vp_cell_q, arrV_store]
  congr 2
  funext q
  rw [updF_s]
  by_cases hq : q = i.toNatClampNeg
  · subst hq
    simp [updV, va_up, va_rf]
  · simp [updV, va_up, hq]
/-- a call's way back -/
theorem x_back {mc ms : Nat} {st' st0 : List Value} {ov : Option Value} {D' : Dt} {P' : Ft} {nx' : Nat} {a : Array Value} {H : Heap} {locs : List Loc} {ls : Array Slot}
    (hr : va_Run p l e R s m args below meth c H locs cells slots mc ms (F0 m pc ls st0) st (Qx cx ov D' P' nx' a) (AA cx)) (hS : va_S (AA cx) s.heap H locs) (hl : lv_has ls nL lv) (hst : ov.toList ++ st = st')
    (kk : XW p l e R s m args below meth c Q cx nL D' P' nx' (cells + mc) (slots + ms) (pc + 3) lv st') : W p l e R s m args below meth c H locs cells slots Q (F0 m pc ls st0) := by
  subst hst
  intro T hT X
  obtain ⟨v, st₀, t, T', L, h0, X', hL, e1, e2, ⟨hv, hW, hz, hk⟩, stp⟩ := hr T hT X
  cases hv
  rw [h0] at hz hk
  obtain ⟨t2, a1, b1⟩ := kk T'.heap (locs ++ L) ls (by rw [e1]; exact hW.1) ⟨Nat.le_trans hS.1 (by rw [e1]; exact hz), fun q h1 h2 => by rw [e1, hk q (Nat.lt_of_lt_of_le h1 hS.1) h2]; exact hS.2.1 q h1 h2, fun q hq => by
      rcases List.mem_append.mp hq with h | h
      · exact hS.2.2 q h
      · exact hL q h⟩ hl T' rfl X'
  exact ⟨t2, stp t2 a1, b1⟩
theorem Wd.pre {H : Heap} {U : State} (hR : Rep cx D P nx H) (hK : KK cx s) (hU : U.heap = H) (hW : s.WarmedH U.vm) : Wd cx D P nx U := ⟨by rw [hU]; exact hR, hK.warm hW⟩
theorem x_callV (X : XC p s m args meth c cx b nL rt own mn) {idx ci n a lvl nL' nA : Nat} {C : String} {T : u_T} {y : MethodName} {b' : ByteArray} {rt' : Option FieldType} {As : List Value} {st0 st' : List Value} {ov : Option Value} {D' : Dt} {P' : Ft}
    (hM : Ct l cx y b' nL' rt' lvl (.ref (cx.2.2 + a) :: As) D P nx ov D' P') (hd : decode b pc = .ok (.invokevirtual idx, 3)) (hw : Cond.methodLink own idx y ∈ wT) (hm : MV y b' nL' rt' nA) (hn : As.length = nA) (hk : kd nx a = ci) (hc : vwCl[ci]? = some (C, T, n)) (hC : y.cls = C) (hR : lvl + 1 ≤ R.frames ∧ 8 + (nL' + 11) + 60 * lvl ≤ R.locals) (hf : cells ≤ R.cells ∧ slots ≤ R.slots) (hs0 : As.reverse ++ .ref (cx.2.2 + a) :: st = st0) (hcat : (st.map fun v => v.category).sum ≤ 8) (hst : ov.toList ++ st = st')
    (kk : XW p l e R s m args below meth c Q cx nL D' P' nx cells slots (pc + 3) lv st') : XW p l e R s m args below meth c Q cx nL D P nx cells slots pc lv st0 := by
  subst hs0
  intro H locs ls hRp hS hl
  obtain ⟨hx, hb, hml, hr, hown, hts, hK, hlk, hmn⟩ := X
  obtain ⟨m1, m2, m3, m4, m5, m6, m7⟩ := hm
  obtain ⟨r', hr', cellB, g1, g2, g3, -⟩ := rep_obj hRp hk hc
  refine x_back (mc := 0) (ms := 0) (va_runV (C := C) (As := As) (rest := st) (nL := nL) ⟨hx, hb, hml, hown, hts⟩ hM ⟨callB_of nA hts (good_wT m1) rfl rfl rfl (hts _ m4) (hts _ hw) ⟨m5, m6, m7⟩ hR, hts _ m2, ?_⟩ ⟨Wd.blind, ⟨cellB, g1, by rw [g3]; rfl, ?_⟩, fun U hU hW => ⟨rfl, Wd.pre hRp hK hU hW⟩⟩ rfl hn hl.1 rfl (lv_room hcat) hd ⟨hf.1, hf.2⟩) hS hl hst kk
  · rw [← hC]; exact hts _ m3
  · rw [g2]; exact (hK.1.1 ci _ hc).2.1
theorem x_callS (X : XC p s m args meth c cx b nL rt own mn) {idx lvl nL' nA : Nat} {y : MethodName} {b' : ByteArray} {rt' : Option FieldType} {As : List Value} {st0 st' : List Value} {ov : Option Value} {D' : Dt} {P' : Ft}
    (hM : Ct l cx y b' nL' rt' lvl As D P nx ov D' P') (hd : decode b pc = .ok (.invokestatic idx, 3)) (hw : Cond.methodLink own idx y ∈ wT) (hm : MS y b' nL' rt' nA) (hn : As.length = nA) (hR : lvl + 1 ≤ R.frames ∧ 8 + (nL' + 11) + 60 * lvl ≤ R.locals) (hf : cells ≤ R.cells ∧ slots ≤ R.slots) (hs0 : As.reverse ++ st = st0) (hcat : (st.map fun v => v.category).sum ≤ 8) (hst : ov.toList ++ st = st')
    (kk : XW p l e R s m args below meth c Q cx nL D' P' nx cells slots (pc + 3) lv st') : XW p l e R s m args below meth c Q cx nL D P nx cells slots pc lv st0 := by
  subst hs0
  intro H locs ls hRp hS hl
  obtain ⟨hx, hb, hml, hr, hown, hts, hK, hlk, hmn⟩ := X
  obtain ⟨m1, m2, m4, m5, m6, m7⟩ := hm
  exact x_back (mc := 0) (ms := 0) (va_runS (As := As) (rest := st) (nL := nL) ⟨hx, hb, hml, hown, hts⟩ hM ⟨callB_of nA hts (good_wT m1) rfl rfl rfl (hts _ m4) (hts _ hw) ⟨m5, m6, m7⟩ hR, hts _ m2⟩ ⟨Wd.blind, fun U hU hW => ⟨rfl, Wd.pre hRp hK hU hW⟩⟩ rfl hn hl.1 rfl (lv_room hcat) hd ⟨hf.1, hf.2⟩) hS hl hst kk
theorem x_callSN (X : XC p s m args meth c cx b nL rt own mn) {idx lvl nL' nA : Nat} {host : String} {y : MethodName} {b' : ByteArray} {rt' : Option FieldType} {As : List Value} {st0 st' : List Value} {ov : Option Value} {D' : Dt} {P' : Ft}
    (hM : Ct l cx y b' nL' rt' lvl As D P nx ov D' P') (hd : decode b pc = .ok (.invokestatic idx, 3)) (hw : Cond.methodLinkNest own idx y host ∈ nestW) (hm : MS y b' nL' rt' nA) (hn : As.length = nA) (hR : lvl + 1 ≤ R.frames ∧ 8 + (nL' + 11) + 60 * lvl ≤ R.locals) (hf : cells ≤ R.cells ∧ slots ≤ R.slots) (hs0 : As.reverse ++ st = st0) (hcat : (st.map fun v => v.category).sum ≤ 8) (hst : ov.toList ++ st = st')
    (kk : XW p l e R s m args below meth c Q cx nL D' P' nx cells slots (pc + 3) lv st') : XW p l e R s m args below meth c Q cx nL D P nx cells slots pc lv st0 := by
  subst hs0
  intro H locs ls hRp hS hl
  obtain ⟨hx, hb, hml, hr, hown, hts, hK, hlk, hmn⟩ := X
  obtain ⟨m1, m2, m4, m5, m6, m7⟩ := hm
  exact x_back (mc := 0) (ms := 0) (va_runSN (As := As) (rest := st) (nL := nL) ⟨hx, hb, hml, hown, hts⟩ hM ⟨va_cnB nA hts (good_wT m1) rfl rfl rfl (hK.2 _ hw) (hts _ m4) ⟨m5, m6, m7⟩ hR, hts _ m2, trivial⟩ ⟨Wd.blind, fun U hU hW => ⟨rfl, Wd.pre hRp hK hU hW⟩⟩ rfl hn hl.1 rfl (lv_room hcat) hd ⟨hf.1, hf.2⟩) hS hl hst kk
theorem x_callI (X : XC p s m args meth c cx b nL rt own mn) {idx a lvl nL' nA mc ms nx' : Nat} {y : MethodName} {b' : ByteArray} {As : List Value} {st0 : List Value} {D' : Dt} {P' : Ft}
    (hM : Cc l cx y b' nL' lvl mc ms (.ref (cx.2.2 + a) :: As) D P nx D' P' nx') (hd : decode b pc = .ok (.invokespecial idx, 3)) (hw : Cond.methodLink own idx y ∈ wT) (hm : MI y b' nL' nA) (hn : As.length = nA) (hR : lvl + 1 ≤ R.frames ∧ 8 + (nL' + 11) + 60 * lvl ≤ R.locals) (hf : cells + mc ≤ R.cells ∧ slots + ms ≤ R.slots) (hs0 : As.reverse ++ .ref (cx.2.2 + a) :: st = st0) (hcat : (st.map fun v => v.category).sum ≤ 8)
    (kk : XW p l e R s m args below meth c Q cx nL D' P' nx' (cells + mc) (slots + ms) (pc + 3) lv st) : XW p l e R s m args below meth c Q cx nL D P nx cells slots pc lv st0 := by
  subst hs0
  intro H locs ls hRp hS hl
  obtain ⟨hx, hb, hml, hr, hown, hts, hK, hlk, hmn⟩ := X
  obtain ⟨m1, m2, m3, m4, m5, m6, m7⟩ := hm
  exact x_back (mc := mc) (ms := ms) (va_runI (As := As) (rest := st) (nL := nL) ⟨hx, hb, hml, hown, hts⟩ hM ⟨callB_of nA hts (good_wT m1) rfl rfl rfl (hts _ m4) (hts _ hw) ⟨m5, m6, m7⟩ hR, m3, hts _ m2⟩ ⟨Wd.blind, fun U hU hW => ⟨rfl, Wd.pre hRp hK hU hW⟩⟩ rfl hn hl.1 rfl (lv_room hcat) hd hf) hS hl rfl kk
theorem x_callIN (X : XC p s m args meth c cx b nL rt own mn) {idx a lvl nL' nA mc ms nx' : Nat} {host : String} {y : MethodName} {b' : ByteArray} {As : List Value} {st0 : List Value} {D' : Dt} {P' : Ft}
    (hM : Cc l cx y b' nL' lvl mc ms (.ref (cx.2.2 + a) :: As) D P nx D' P' nx') (hd : decode b pc = .ok (.invokespecial idx, 3)) (hw : Cond.methodLinkNest own idx y host ∈ nestW) (hm : MI y b' nL' nA) (hn : As.length = nA) (hR : lvl + 1 ≤ R.frames ∧ 8 + (nL' + 11) + 60 * lvl ≤ R.locals) (hf : cells + mc ≤ R.cells ∧ slots + ms ≤ R.slots) (hs0 : As.reverse ++ .ref (cx.2.2 + a) :: st = st0) (hcat : (st.map fun v => v.category).sum ≤ 8)
    (kk : XW p l e R s m args below meth c Q cx nL D' P' nx' (cells + mc) (slots + ms) (pc + 3) lv st) : XW p l e R s m args below meth c Q cx nL D P nx cells slots pc lv st0 := by
  subst hs0
  intro H locs ls hRp hS hl
  obtain ⟨hx, hb, hml, hr, hown, hts, hK, hlk, hmn⟩ := X
  obtain ⟨m1, m2, m3, m4, m5, m6, m7⟩ := hm
  exact x_back (mc := mc) (ms := ms) (va_runIN (As := As) (rest := st) (nL := nL) ⟨hx, hb, hml, hown, hts⟩ hM ⟨va_cnB nA hts (good_wT m1) rfl rfl rfl (hK.2 _ hw) (hts _ m4) ⟨m5, m6, m7⟩ hR, m3, hts _ m2⟩ ⟨Wd.blind, fun U hU hW => ⟨rfl, Wd.pre hRp hK hU hW⟩⟩ rfl hn hl.1 rfl (lv_room hcat) hd hf) hS hl rfl kk
theorem x_objInit (X : XC p s m args meth c cx b nL rt own mn) {idx : Nat} {a : Addr} (hd : decode b pc = .ok (.invokespecial idx, 3)) (hw : Cond.methodLink own idx Lib.objectInit ∈ wT) (h2 : Cond.instanceMethod Lib.objectInit ∈ wT) (h3 : Cond.code Lib.objectInit ⟨#[0xb1]⟩ 1 none ∈ wT) (hR : 1 ≤ R.frames ∧ 20 ≤ R.locals) (hcat : (st.map fun v => v.category).sum ≤ 8)
    (kk : XW p l e R s m args below meth c Q cx nL D P nx cells slots (pc + 3) lv st) : XW p l e R s m args below meth c Q cx nL D P nx cells slots pc lv (.ref a :: st) := by
  intro H locs ls hRp hS hl
  obtain ⟨hx, hb, hml, hr, hown, hts, hK, hlk, hmn⟩ := X
  exact W.objInit hx hb hown (hts _ hw) (hts _ h2) (hts _ h3) rfl (by rw [hml]; exact hl.1) rfl hd hR.1 (by show 2 * 0 + _ + 12 ≤ _; omega) (kk H locs ls hRp hS hl)
theorem x_mmax (X : XC p s m args meth c cx b nL rt own mn) {idx : Nat} {x y : Int32} (hd : decode b pc = .ok (.invokestatic idx, 3)) (hw : Cond.methodLink own idx Lib.Math.max.name ∈ wT) (hR : 1 ≤ R.frames ∧ 21 ≤ R.locals) (hf : cells ≤ R.cells ∧ slots ≤ R.slots) (hcat : (st.map fun v => v.category).sum ≤ 8) (kk : XW p l e R s m args below meth c Q cx nL D P nx cells slots (pc + 3) lv (.int (if x < y then y else x) :: st)) : XW p l e R s m args below meth c Q cx nL D P nx cells slots pc lv (.int y :: .int x :: st) := by
  intro H locs ls hRp hS hl
  obtain ⟨hx, hb, hml, hr, hown, hts, hK, hlk, hmn⟩ := X
  exact va_mmax hx hb (by rw [hml]; exact hl.1.symm) hown (hts _ hw) (hts _ (mT 178 (by decide +kernel) rfl)) (hts _ (mT 59 (by decide +kernel) rfl)) (hts _ (mT 179 (by decide +kernel) rfl)) hR.1 (by omega) hf.1 hf.2 hd (kk H locs ls hRp hS hl)
theorem x_mmin (X : XC p s m args meth c cx b nL rt own mn) {idx : Nat} {x y : Int32} (hd : decode b pc = .ok (.invokestatic idx, 3)) (hw : Cond.methodLink own idx Lib.Math.min.name ∈ wT) (hR : 1 ≤ R.frames ∧ 21 ≤ R.locals) (hf : cells ≤ R.cells ∧ slots ≤ R.slots) (hcat : (st.map fun v => v.category).sum ≤ 8) (kk : XW p l e R s m args below meth c Q cx nL D P nx cells slots (pc + 3) lv (.int (if y < x then y else x) :: st)) : XW p l e R s m args below meth c Q cx nL D P nx cells slots pc lv (.int y :: .int x :: st) := by
  intro H locs ls hRp hS hl
  obtain ⟨hx, hb, hml, hr, hown, hts, hK, hlk, hmn⟩ := X
  exact va_mmin hx hb (by rw [hml]; exact hl.1.symm) hown (hts _ hw) (hts _ (mT 618 (by decide +kernel) rfl)) (hts _ (mT 59 (by decide +kernel) rfl)) (hts _ (mT 619 (by decide +kernel) rfl)) hR.1 (by omega) hf.1 hf.2 hd (kk H locs ls hRp hS hl)
theorem x_vret (X : XC p s m args meth c cx b nL none own mn) (hd : decode b pc = .ok (.return_, 1)) : XW p l e R s m args below meth c (MQ below (Qx cx none D P nx) args s cells slots (AA cx)) cx nL D P nx cells slots pc lv [] := by
  intro H locs ls hR hS hl
  obtain ⟨hx, hb, hml, hr, hown, hts, hK, hlk, hmn⟩ := X
  exact W.vret hx hb hr (fun t ht hW => ⟨rfl, Wd.pre hR hK ht hW, hS.F ht⟩) hS.2.2 hd
theorem x_iret (X : XC p s m args meth c cx b nL (some .int) own mn) {v : Int32} (hd : decode b pc = .ok (.ireturn, 1)) : XW p l e R s m args below meth c (MQ below (Qx cx (some (.int v)) D P nx) args s cells slots (AA cx)) cx nL D P nx cells slots pc lv [.int v] := by
  intro H locs ls hR hS hl
  obtain ⟨hx, hb, hml, hr, hown, hts, hK, hlk, hmn⟩ := X
  exact W.iret hx hb hr (fun t ht hW => ⟨rfl, Wd.pre hR hK ht hW, hS.F ht⟩) hS.2.2 hd
theorem x_zret (X : XC p s m args meth c cx b nL (some .boolean) own mn) {v : Int32} (hd : decode b pc = .ok (.ireturn, 1)) (hv : v = 0 ∨ v = 1) : XW p l e R s m args below meth c (MQ below (Qx cx (some (.int v)) D P nx) args s cells slots (AA cx)) cx nL D P nx cells slots pc lv [.int v] := by
  intro H locs ls hR hS hl
  obtain ⟨hx, hb, hml, hr, hown, hts, hK, hlk, hmn⟩ := X
  exact W.zret hx hb hr (by rcases hv with rfl | rfl <;> rfl) (fun t ht hW => ⟨rfl, Wd.pre hR hK ht hW, hS.F ht⟩) hS.2.2 hd
theorem x_cret (X : XC p s m args meth c cx b nL (some .char) own mn) {v : Int32} (hd : decode b pc = .ok (.ireturn, 1)) (hv : (v.toUInt32 % 65536).toInt32 = v) : XW p l e R s m args below meth c (MQ below (Qx cx (some (.int v)) D P nx) args s cells slots (AA cx)) cx nL D P nx cells slots pc lv [.int v] := by
  intro H locs ls hR hS hl
  obtain ⟨hx, hb, hml, hr, hown, hts, hK, hlk, hmn⟩ := X
  exact W.zret hx hb hr (by rw [← hv]; exact pk_nc v) (fun t ht hW => ⟨rfl, Wd.pre hR hK ht hW, hS.F ht⟩) hS.2.2 hd
theorem x_lret (X : XC p s m args meth c cx b nL (some .long) own mn) {v : Int64} (hd : decode b pc = .ok (.lreturn, 1)) : XW p l e R s m args below meth c (MQ below (Qx cx (some (.long v)) D P nx) args s cells slots (AA cx)) cx nL D P nx cells slots pc lv [.long v] := by
  intro H locs ls hR hS hl
  obtain ⟨hx, hb, hml, hr, hown, hts, hK, hlk, hmn⟩ := X
  exact W.lret hx hb hr (fun t ht hW => ⟨rfl, Wd.pre hR hK ht hW, hS.F ht⟩) hS.2.2 hd
theorem x_aret (X : XC p s m args meth c cx b nL rt own mn) {v : Option Nat} {ty : FieldType} (hrt : rt = some ty) (hty : ∃ n, ty = .object n) (hd : decode b pc = .ok (.areturn, 1)) : XW p l e R s m args below meth c (MQ below (Qx cx (some (rv cx v)) D P nx) args s cells slots (AA cx)) cx nL D P nx cells slots pc lv [rv cx v] := by
  intro H locs ls hR hS hl
  obtain ⟨hx, hb, hml, hr, hown, hts, hK, hlk, hmn⟩ := X
  exact W.aret hx hb (hr.trans hrt) (Or.inl hty) (va_rf_or _) (fun t ht hW => ⟨rfl, Wd.pre hR hK ht hW, hS.F ht⟩) hS.2.2 hd
theorem x_new (X : XC p s m args meth c cx b nL rt own mn) {idx ci n : Nat} {C : String} {T : u_T} {D' : Dt} {P' : Ft} (hd : decode b pc = .ok (.new idx, 3)) (hk : SH nx = ci) (hc : vwCl[ci]? = some (C, T, n)) (h1 : Cond.classLink own idx C ∈ wT) (h2 : Cond.instantiable C n ∈ wT) (h3 : Cond.initialized C ∈ wT) (hD : D' = fun q => if q = nx then fun _ => 0 else D q) (hP : P' = fun q => if q = nx then fun _ => none else P q) (hdf : ∀ k, k < n → ∀ ty, parseFieldDescriptor (T k).2.2.1 = some ty → defaultValue ty = if isI ci k = true then .int 0 else .null) (hf : cells + 1 ≤ R.cells ∧ slots + n ≤ R.slots)
    (kk : XW p l e R s m args below meth c Q cx nL D' P' (nx + 1) (cells + 1) (slots + n) (pc + 3) lv (.ref (cx.2.2 + nx) :: st)) : XW p l e R s m args below meth c Q cx nL D P nx cells slots pc lv st := by
  intro H locs ls hR hS hl
  obtain ⟨hx, hb, hml, hr, hown, hts, hK, hlk, hmn⟩ := X
  obtain ⟨hin, ty0, hty0, hnm⟩ := cls_all hc
  have hKn := hK.1.1 ci _ hc
  refine W.newcK hx hb hown (hts _ h1) (hts _ h2) (hts _ h3) rfl hd hf.1 hf.2 hKn.2.1 hR.1 fun H1 kC hkC e1 z1 o1 => ?_
  refine kk H1 _ ls (hR.grow (by rw [z1, hR.1]) (fun q hq => o1 q (by rw [← hR.1]; exact hq)) ?_ ?_ ?_) ⟨Nat.le_trans hS.1 (by rw [hR.1, z1]; omega), fun q g1 g2 => (o1 q (by have := hS.1; rw [hR.1] at this; omega)).trans (hS.2.1 q g1 g2), hS.2.2⟩ hl
  · rw [hk, cellE_obj (cls_lt hc)]
    refine ⟨_, hc, (u_born ty0 hts hin hKn hkC e1 hty0).to fun j hj => ?_⟩
    have hj' : j < nfs ci := by rw [cls_nfs hc]; exact hj
    rw [hdf j hj (ty0 j) (hty0 j hj), hD, hP]
    simp only [vp_V, List.getD_eq_getElem?_getD, flds, List.getElem?_map, List.getElem?_range hj', Option.map_some, Option.getD_some, fld, if_true, rv, Option.map_none, va_rf]
  · intro q hq; rw [hD]; exact if_neg (Nat.ne_of_lt hq)
  · intro q hq; rw [hP]; exact if_neg (Nat.ne_of_lt hq)
theorem arr_default {cA : ClassId} {N : Nat} : arrV cA N (fun _ => (.int 0 : Value)) = vp_cell cA (N, .inl (fun _ => 0)) := rfl
theorem x_newarr (X : XC p s m args meth c cx b nL rt own mn) {atype : ArrayType} {t N : Nat} {x : Int32} {D' : Dt} {P' : Ft} {ty : FieldType} (hd : decode b pc = .ok (.newarray atype, 2)) (hk : SH nx = t * 10000 + N) (hN : N < 10000) (hx0 : ¬ x < 0) (hxN : x.toNatClampNeg = N) (hw : Cond.arrayClass ty ∈ wT) (hD : D' = fun q => if q = nx then fun _ => 0 else D q) (hP : P' = fun q => if q = nx then fun _ => none else P q) (hat : (t = 1 ∧ atype = .byte ∧ ty = .byte) ∨ (t = 2 ∧ atype = .char ∧ ty = .char) ∨ (t = 3 ∧ atype = .int ∧ ty = .int)) (hf : cells + 1 ≤ R.cells ∧ slots + N ≤ R.slots)
    (kk : XW p l e R s m args below meth c Q cx nL D' P' (nx + 1) (cells + 1) (slots + N) (pc + 2) lv (.ref (cx.2.2 + nx) :: st)) : XW p l e R s m args below meth c Q cx nL D P nx cells slots pc lv (.int x :: st) := by
  intro H locs ls hR hS hl
  obtain ⟨hx, hb, hml, hr, hown, hts, hK, hlk, hmn⟩ := X
  have hm : (SH nx) % 10000 = N := by rw [hk]; omega
  have hz : D' nx = fun _ => 0 := by rw [hD]; exact if_pos rfl
  rcases hat with ⟨rfl, rfl, rfl⟩ | ⟨rfl, rfl, rfl⟩ | ⟨rfl, rfl, rfl⟩
  · refine va_newaK (atype := .byte) hx hb (hts _ hw) rfl hd rfl hx0 hxN (by simp [newarray.typeOf, componentBytes]; omega) hf.1 hf.2 hR.1 fun H1 cA e1 z1 o1 hAr hNm => ?_
    have hca : cA = cx.2.1.1 := Option.some.inj (hNm.symm.trans (hK.1.2 0 _ rfl).2)
    subst hca
    refine kk H1 _ ls (hR.grow (by rw [z1, hR.1]) (fun q hq => o1 q (by rw [← hR.1]; exact hq)) ?_ ?_ ?_) ⟨Nat.le_trans hS.1 (by rw [hR.1, z1]; omega), fun q g1 g2 => (o1 q (by have := hS.1; rw [hR.1] at this; omega)).trans (hS.2.1 q g1 g2), hS.2.2⟩ hl
    · rw [cellE_1 (by rw [hk]; omega), hm, hz]
      show H1[_]? = some (vp_cell _ _)
      rw [e1]
      rfl
    · intro q hq; rw [hD]; exact if_neg (Nat.ne_of_lt hq)
    · intro q hq; rw [hP]; exact if_neg (Nat.ne_of_lt hq)
  · refine va_newaK (atype := .char) hx hb (hts _ hw) rfl hd rfl hx0 hxN (by simp [newarray.typeOf, componentBytes]; omega) hf.1 hf.2 hR.1 fun H1 cA e1 z1 o1 hAr hNm => ?_
    have hca : cA = cx.2.1.2.1 := Option.some.inj (hNm.symm.trans (hK.1.2 1 _ rfl).2)
    subst hca
    refine kk H1 _ ls (hR.grow (by rw [z1, hR.1]) (fun q hq => o1 q (by rw [← hR.1]; exact hq)) ?_ ?_ ?_) ⟨Nat.le_trans hS.1 (by rw [hR.1, z1]; omega), fun q g1 g2 => (o1 q (by have := hS.1; rw [hR.1] at this; omega)).trans (hS.2.1 q g1 g2), hS.2.2⟩ hl
    · rw [cellE_2 (by rw [hk]; omega), hm, hz]
      show H1[_]? = some (vp_cell _ _)
      rw [e1]
      rfl
    · intro q hq; rw [hD]; exact if_neg (Nat.ne_of_lt hq)
    · intro q hq; rw [hP]; exact if_neg (Nat.ne_of_lt hq)
  · refine va_newaK (atype := .int) hx hb (hts _ hw) rfl hd rfl hx0 hxN (by simp [newarray.typeOf, componentBytes]; omega) hf.1 hf.2 hR.1 fun H1 cA e1 z1 o1 hAr hNm => ?_
    have hca : cA = cx.2.1.2.2.1 := Option.some.inj (hNm.symm.trans (hK.1.2 2 _ rfl).2)
    subst hca
    refine kk H1 _ ls (hR.grow (by rw [z1, hR.1]) (fun q hq => o1 q (by rw [← hR.1]; exact hq)) ?_ ?_ ?_) ⟨Nat.le_trans hS.1 (by rw [hR.1, z1]; omega), fun q g1 g2 => (o1 q (by have := hS.1; rw [hR.1] at this; omega)).trans (hS.2.1 q g1 g2), hS.2.2⟩ hl
    · rw [cellE_3 (by rw [hk]; omega), hm, hz]
      show H1[_]? = some (vp_cell _ _)
      rw [e1]
      rfl
    · intro q hq; rw [hD]; exact if_neg (Nat.ne_of_lt hq)
    · intro q hq; rw [hP]; exact if_neg (Nat.ne_of_lt hq)
theorem x_anewarr (X : XC p s m args meth c cx b nL rt own mn) {idx N : Nat} {x : Int32} {D' : Dt} {P' : Ft} (hd : decode b pc = .ok (.anewarray idx, 3)) (hk : SH nx = 40000 + N) (hN : N < 10000) (hx0 : ¬ x < 0) (hxN : x.toNatClampNeg = N) (hw : Cond.classLink own idx "HeartPins$Standing" ∈ wT) (hw2 : Cond.arrayOver (.object "HeartPins$Standing") ∈ wT) (hD : D' = fun q => if q = nx then fun _ => 0 else D q) (hP : P' = fun q => if q = nx then fun _ => none else P q) (hf : cells + 1 ≤ R.cells ∧ slots + N ≤ R.slots)
    (kk : XW p l e R s m args below meth c Q cx nL D' P' (nx + 1) (cells + 1) (slots + N) (pc + 3) lv (.ref (cx.2.2 + nx) :: st)) : XW p l e R s m args below meth c Q cx nL D P nx cells slots pc lv (.int x :: st) := by
  intro H locs ls hR hS hl
  obtain ⟨hx, hb, hml, hr, hown, hts, hK, hlk, hmn⟩ := X
  have hm : (SH nx) % 10000 = N := by rw [hk]; omega
  subst hxN
  refine W.anew hx hb hown (hts _ hw) (hts _ hw2) rfl hd rfl hx0 (by omega) hf.1 hf.2 fun cA kA comp f1 f2 f3 f4 => ?_
  obtain ⟨kA', comp', g1, g2, g3, g4⟩ := (hK.1.2 3 _ rfl).2
  have hca : cA = cx.2.1.2.2.2 := by
    first
      | exact Option.some.inj (f1.symm.trans g4)
      | exact Option.some.inj (f4.symm.trans g4)
  subst hca
  generalize hH1 : H.push ({ cls := cx.2.1.2.2.2, slots := Array.replicate x.toNatClampNeg .null, vm := .none } : Cell) = H1
  have z1 : H1.size = H.size + 1 := by rw [← hH1, Array.size_push]
  have e1 : H1[H.size]? = some (arrV cx.2.1.2.2.2 x.toNatClampNeg (fun _ => .null)) := by rw [← hH1, Array.getElem?_push_size, ← arrV_new]
  have o1 : ∀ q : Nat, q < H.size → H1[q]? = H[q]? := fun q hq => by rw [← hH1, Array.getElem?_push, if_neg (Nat.ne_of_lt hq)]
  rw [hR.1] at e1
  have := kk H1 locs ls (hR.grow z1 o1 ?_ ?_ ?_) ⟨Nat.le_trans hS.1 (by rw [z1]; omega), fun q g1 g2 => (o1 q (by have := hS.1; omega)).trans (hS.2.1 q g1 g2), hS.2.2⟩ hl
  · rw [← hR.1] at this
    exact this
  · rw [cellE_4 (by rw [hk]; omega), hm]
    show H1[_]? = some (vp_cell _ _)
    rw [e1, vp_cell_q, hP]
    simp [va_rf]
  · intro q hq; rw [hD]; exact if_neg (Nat.ne_of_lt hq)
  · intro q hq; rw [hP]; exact if_neg (Nat.ne_of_lt hq)
end XH
end
