-- names: the printed tables' words (PART A of the skeleton), the printed names of classes and methods; what a word is among them
-- ===== PART A: goes FIRST, ahead of the names: the tables' words, and 'selects' of the private methods out of them =====
/-- a private method of a class that the tables say can be made, by its rows of tables_1 -/
def lw_okq (q : MethodName × Nat) : Prop := (q.1.cls ≠ "java/lang/invoke/MethodHandle" ∧ q.1.cls ≠ "java/lang/invoke/VarHandle") ∧ Cond.instantiable q.1.cls q.2 ∈ tables_1 ∧ Cond.privateMethod q.1 ∈ tables_1 ∧ Cond.instanceMethod q.1 ∈ tables_1
theorem lw_p0 : lw_okq (⟨"HeartPins$Letters", "readItem", "(LHeartPins$Family;)Z"⟩, 4) := ⟨⟨by decide +kernel, by decide +kernel⟩, List.mem_of_getElem? (i := 26) (by decide +kernel), List.mem_of_getElem? (i := 308) (by decide +kernel), List.mem_of_getElem? (i := 309) (by decide +kernel)⟩
theorem lw_p1 : lw_okq (⟨"HeartPins$Letters", "letterAt", "(I)C"⟩, 4) := ⟨⟨by decide +kernel, by decide +kernel⟩, List.mem_of_getElem? (i := 26) (by decide +kernel), List.mem_of_getElem? (i := 312) (by decide +kernel), List.mem_of_getElem? (i := 313) (by decide +kernel)⟩
theorem lw_p2 : lw_okq (⟨"HeartPins$Letters", "readNumbers", "(I)Z"⟩, 4) := ⟨⟨by decide +kernel, by decide +kernel⟩, List.mem_of_getElem? (i := 26) (by decide +kernel), List.mem_of_getElem? (i := 316) (by decide +kernel), List.mem_of_getElem? (i := 317) (by decide +kernel)⟩
theorem lw_p3 : lw_okq (⟨"HeartPins$Letters", "readNumber", "()I"⟩, 4) := ⟨⟨by decide +kernel, by decide +kernel⟩, List.mem_of_getElem? (i := 26) (by decide +kernel), List.mem_of_getElem? (i := 320) (by decide +kernel), List.mem_of_getElem? (i := 321) (by decide +kernel)⟩
theorem lw_p4 : lw_okq (⟨"HeartPins$Letters", "figureAt", "(I)I"⟩, 4) := ⟨⟨by decide +kernel, by decide +kernel⟩, List.mem_of_getElem? (i := 26) (by decide +kernel), List.mem_of_getElem? (i := 324) (by decide +kernel), List.mem_of_getElem? (i := 325) (by decide +kernel)⟩
theorem lw_p5 : lw_okq (⟨"HeartPins$Shelf", "dropOldest", "()V"⟩, 2) := ⟨⟨by decide +kernel, by decide +kernel⟩, List.mem_of_getElem? (i := 119) (by decide +kernel), List.mem_of_getElem? (i := 500) (by decide +kernel), List.mem_of_getElem? (i := 501) (by decide +kernel)⟩
theorem lw_p6 : lw_okq (⟨"HeartPins$Shelf", "rowAt", "(I)LHeartPins$Standing;"⟩, 2) := ⟨⟨by decide +kernel, by decide +kernel⟩, List.mem_of_getElem? (i := 119) (by decide +kernel), List.mem_of_getElem? (i := 504) (by decide +kernel), List.mem_of_getElem? (i := 505) (by decide +kernel)⟩
theorem lw_p7 : lw_okq (⟨"HeartPins$Standing", "changePin", "(IZ)V"⟩, 5) := ⟨⟨by decide +kernel, by decide +kernel⟩, List.mem_of_getElem? (i := 93) (by decide +kernel), List.mem_of_getElem? (i := 557) (by decide +kernel), List.mem_of_getElem? (i := 558) (by decide +kernel)⟩
theorem lw_p8 : lw_okq (⟨"HeartPins$Standing", "shakeOut", "()V"⟩, 5) := ⟨⟨by decide +kernel, by decide +kernel⟩, List.mem_of_getElem? (i := 93) (by decide +kernel), List.mem_of_getElem? (i := 570) (by decide +kernel), List.mem_of_getElem? (i := 571) (by decide +kernel)⟩
theorem lw_p9 : lw_okq (⟨"HeartPins", "lookBehind", "(I)V"⟩, 11) := ⟨⟨by decide +kernel, by decide +kernel⟩, List.mem_of_getElem? (i := 18) (by decide +kernel), List.mem_of_getElem? (i := 586) (by decide +kernel), List.mem_of_getElem? (i := 587) (by decide +kernel)⟩
theorem lw_p10 : lw_okq (⟨"HeartPins", "bestSet", "(I)I"⟩, 11) := ⟨⟨by decide +kernel, by decide +kernel⟩, List.mem_of_getElem? (i := 18) (by decide +kernel), List.mem_of_getElem? (i := 608) (by decide +kernel), List.mem_of_getElem? (i := 609) (by decide +kernel)⟩
theorem lw_p11 : lw_okq (⟨"HeartPins", "isCalmWith", "(II)Z"⟩, 11) := ⟨⟨by decide +kernel, by decide +kernel⟩, List.mem_of_getElem? (i := 18) (by decide +kernel), List.mem_of_getElem? (i := 622) (by decide +kernel), List.mem_of_getElem? (i := 623) (by decide +kernel)⟩
theorem lw_p12 : lw_okq (⟨"HeartPins$Sharing", "keepTried", "()V"⟩, 8) := ⟨⟨by decide +kernel, by decide +kernel⟩, List.mem_of_getElem? (i := 187) (by decide +kernel), List.mem_of_getElem? (i := 648) (by decide +kernel), List.mem_of_getElem? (i := 649) (by decide +kernel)⟩
theorem lw_p13 : lw_okq (⟨"HeartPins$Sharing", "isLikeEarlier", "(I)Z"⟩, 8) := ⟨⟨by decide +kernel, by decide +kernel⟩, List.mem_of_getElem? (i := 187) (by decide +kernel), List.mem_of_getElem? (i := 652) (by decide +kernel), List.mem_of_getElem? (i := 653) (by decide +kernel)⟩
theorem lw_p14 : lw_okq (⟨"HeartPins$Matching", "takeLowest", "(II)I"⟩, 4) := ⟨⟨by decide +kernel, by decide +kernel⟩, List.mem_of_getElem? (i := 167) (by decide +kernel), List.mem_of_getElem? (i := 732) (by decide +kernel), List.mem_of_getElem? (i := 733) (by decide +kernel)⟩
theorem lw_p15 : lw_okq (⟨"HeartPins$BadDays", "rung", "(I)LHeartPins$Standing;"⟩, 4) := ⟨⟨by decide +kernel, by decide +kernel⟩, List.mem_of_getElem? (i := 219) (by decide +kernel), List.mem_of_getElem? (i := 748) (by decide +kernel), List.mem_of_getElem? (i := 749) (by decide +kernel)⟩
def lw_privs_1 : List (MethodName × Nat) := [(⟨"HeartPins$Letters", "readItem", "(LHeartPins$Family;)Z"⟩, 4), (⟨"HeartPins$Letters", "letterAt", "(I)C"⟩, 4), (⟨"HeartPins$Letters", "readNumbers", "(I)Z"⟩, 4), (⟨"HeartPins$Letters", "readNumber", "()I"⟩, 4), (⟨"HeartPins$Letters", "figureAt", "(I)I"⟩, 4), (⟨"HeartPins$Shelf", "dropOldest", "()V"⟩, 2), (⟨"HeartPins$Shelf", "rowAt", "(I)LHeartPins$Standing;"⟩, 2), (⟨"HeartPins$Standing", "changePin", "(IZ)V"⟩, 5), (⟨"HeartPins$Standing", "shakeOut", "()V"⟩, 5), (⟨"HeartPins", "lookBehind", "(I)V"⟩, 11), (⟨"HeartPins", "bestSet", "(I)I"⟩, 11), (⟨"HeartPins", "isCalmWith", "(II)Z"⟩, 11), (⟨"HeartPins$Sharing", "keepTried", "()V"⟩, 8), (⟨"HeartPins$Sharing", "isLikeEarlier", "(I)Z"⟩, 8), (⟨"HeartPins$Matching", "takeLowest", "(II)I"⟩, 4), (⟨"HeartPins$BadDays", "rung", "(I)LHeartPins$Standing;"⟩, 4)]
theorem lw_r1 : ∀ q ∈ lw_privs_1, lw_okq q := List.forall_mem_cons.mpr ⟨lw_p0, List.forall_mem_cons.mpr ⟨lw_p1, List.forall_mem_cons.mpr ⟨lw_p2, List.forall_mem_cons.mpr ⟨lw_p3, List.forall_mem_cons.mpr ⟨lw_p4, List.forall_mem_cons.mpr ⟨lw_p5, List.forall_mem_cons.mpr ⟨lw_p6, List.forall_mem_cons.mpr ⟨lw_p7, List.forall_mem_cons.mpr ⟨lw_p8, List.forall_mem_cons.mpr ⟨lw_p9, List.forall_mem_cons.mpr ⟨lw_p10, List.forall_mem_cons.mpr ⟨lw_p11, List.forall_mem_cons.mpr ⟨lw_p12, List.forall_mem_cons.mpr ⟨lw_p13, List.forall_mem_cons.mpr ⟨lw_p14, List.forall_mem_cons.mpr ⟨lw_p15, fun _ h => absurd h List.not_mem_nil⟩⟩⟩⟩⟩⟩⟩⟩⟩⟩⟩⟩⟩⟩⟩⟩
theorem lw_p16 : lw_okq (⟨"HeartPins", "actByDraw", "(LHeartPins$Standing;I)V"⟩, 11) := ⟨⟨by decide +kernel, by decide +kernel⟩, List.mem_of_getElem? (i := 18) (by decide +kernel), List.mem_of_getElem? (i := 780) (by decide +kernel), List.mem_of_getElem? (i := 781) (by decide +kernel)⟩
theorem lw_p17 : lw_okq (⟨"HeartPinsModel", "first", "()V"⟩, 26) := ⟨⟨by decide +kernel, by decide +kernel⟩, List.mem_of_getElem? (i := 807) (by decide +kernel), List.mem_of_getElem? (i := 813) (by decide +kernel), List.mem_of_getElem? (i := 814) (by decide +kernel)⟩
theorem lw_p18 : lw_okq (⟨"HeartPinsModel", "begin", "()V"⟩, 26) := ⟨⟨by decide +kernel, by decide +kernel⟩, List.mem_of_getElem? (i := 807) (by decide +kernel), List.mem_of_getElem? (i := 817) (by decide +kernel), List.mem_of_getElem? (i := 818) (by decide +kernel)⟩
theorem lw_p19 : lw_okq (⟨"HeartPinsModel", "tellHeart", "(III)V"⟩, 26) := ⟨⟨by decide +kernel, by decide +kernel⟩, List.mem_of_getElem? (i := 807) (by decide +kernel), List.mem_of_getElem? (i := 821) (by decide +kernel), List.mem_of_getElem? (i := 822) (by decide +kernel)⟩
theorem lw_p20 : lw_okq (⟨"HeartPinsModel", "tellPerson", "(I)V"⟩, 26) := ⟨⟨by decide +kernel, by decide +kernel⟩, List.mem_of_getElem? (i := 807) (by decide +kernel), List.mem_of_getElem? (i := 825) (by decide +kernel), List.mem_of_getElem? (i := 826) (by decide +kernel)⟩
theorem lw_p21 : lw_okq (⟨"HeartPinsModel", "tellPin", "(III)V"⟩, 26) := ⟨⟨by decide +kernel, by decide +kernel⟩, List.mem_of_getElem? (i := 807) (by decide +kernel), List.mem_of_getElem? (i := 829) (by decide +kernel), List.mem_of_getElem? (i := 830) (by decide +kernel)⟩
theorem lw_p22 : lw_okq (⟨"HeartPinsModel", "takeDraft", "()V"⟩, 26) := ⟨⟨by decide +kernel, by decide +kernel⟩, List.mem_of_getElem? (i := 807) (by decide +kernel), List.mem_of_getElem? (i := 833) (by decide +kernel), List.mem_of_getElem? (i := 834) (by decide +kernel)⟩
theorem lw_p23 : lw_okq (⟨"HeartPinsModel", "read", "()I"⟩, 26) := ⟨⟨by decide +kernel, by decide +kernel⟩, List.mem_of_getElem? (i := 807) (by decide +kernel), List.mem_of_getElem? (i := 931) (by decide +kernel), List.mem_of_getElem? (i := 932) (by decide +kernel)⟩
theorem lw_p24 : lw_okq (⟨"HeartPinsModel", "readItem", "()V"⟩, 26) := ⟨⟨by decide +kernel, by decide +kernel⟩, List.mem_of_getElem? (i := 807) (by decide +kernel), List.mem_of_getElem? (i := 935) (by decide +kernel), List.mem_of_getElem? (i := 936) (by decide +kernel)⟩
theorem lw_p25 : lw_okq (⟨"HeartPinsModel", "here", "()I"⟩, 26) := ⟨⟨by decide +kernel, by decide +kernel⟩, List.mem_of_getElem? (i := 807) (by decide +kernel), List.mem_of_getElem? (i := 939) (by decide +kernel), List.mem_of_getElem? (i := 940) (by decide +kernel)⟩
theorem lw_p26 : lw_okq (⟨"HeartPinsModel", "readPerson", "()V"⟩, 26) := ⟨⟨by decide +kernel, by decide +kernel⟩, List.mem_of_getElem? (i := 807) (by decide +kernel), List.mem_of_getElem? (i := 943) (by decide +kernel), List.mem_of_getElem? (i := 944) (by decide +kernel)⟩
theorem lw_p27 : lw_okq (⟨"HeartPinsModel", "number", "(II)I"⟩, 26) := ⟨⟨by decide +kernel, by decide +kernel⟩, List.mem_of_getElem? (i := 807) (by decide +kernel), List.mem_of_getElem? (i := 947) (by decide +kernel), List.mem_of_getElem? (i := 948) (by decide +kernel)⟩
theorem lw_p28 : lw_okq (⟨"HeartPinsModel", "isFigure", "()Z"⟩, 26) := ⟨⟨by decide +kernel, by decide +kernel⟩, List.mem_of_getElem? (i := 807) (by decide +kernel), List.mem_of_getElem? (i := 951) (by decide +kernel), List.mem_of_getElem? (i := 952) (by decide +kernel)⟩
theorem lw_p29 : lw_okq (⟨"HeartPinsModel", "readPin", "()V"⟩, 26) := ⟨⟨by decide +kernel, by decide +kernel⟩, List.mem_of_getElem? (i := 807) (by decide +kernel), List.mem_of_getElem? (i := 955) (by decide +kernel), List.mem_of_getElem? (i := 956) (by decide +kernel)⟩
theorem lw_p30 : lw_okq (⟨"HeartPinsModel", "due", "(I)V"⟩, 26) := ⟨⟨by decide +kernel, by decide +kernel⟩, List.mem_of_getElem? (i := 807) (by decide +kernel), List.mem_of_getElem? (i := 959) (by decide +kernel), List.mem_of_getElem? (i := 960) (by decide +kernel)⟩
theorem lw_p31 : lw_okq (⟨"HeartPinsModel", "readHeart", "()V"⟩, 26) := ⟨⟨by decide +kernel, by decide +kernel⟩, List.mem_of_getElem? (i := 807) (by decide +kernel), List.mem_of_getElem? (i := 963) (by decide +kernel), List.mem_of_getElem? (i := 964) (by decide +kernel)⟩
def lw_privs_2 : List (MethodName × Nat) := [(⟨"HeartPins", "actByDraw", "(LHeartPins$Standing;I)V"⟩, 11), (⟨"HeartPinsModel", "first", "()V"⟩, 26), (⟨"HeartPinsModel", "begin", "()V"⟩, 26), (⟨"HeartPinsModel", "tellHeart", "(III)V"⟩, 26), (⟨"HeartPinsModel", "tellPerson", "(I)V"⟩, 26), (⟨"HeartPinsModel", "tellPin", "(III)V"⟩, 26), (⟨"HeartPinsModel", "takeDraft", "()V"⟩, 26), (⟨"HeartPinsModel", "read", "()I"⟩, 26), (⟨"HeartPinsModel", "readItem", "()V"⟩, 26), (⟨"HeartPinsModel", "here", "()I"⟩, 26), (⟨"HeartPinsModel", "readPerson", "()V"⟩, 26), (⟨"HeartPinsModel", "number", "(II)I"⟩, 26), (⟨"HeartPinsModel", "isFigure", "()Z"⟩, 26), (⟨"HeartPinsModel", "readPin", "()V"⟩, 26), (⟨"HeartPinsModel", "due", "(I)V"⟩, 26), (⟨"HeartPinsModel", "readHeart", "()V"⟩, 26)]
theorem lw_r2 : ∀ q ∈ lw_privs_2, lw_okq q := List.forall_mem_cons.mpr ⟨lw_p16, List.forall_mem_cons.mpr ⟨lw_p17, List.forall_mem_cons.mpr ⟨lw_p18, List.forall_mem_cons.mpr ⟨lw_p19, List.forall_mem_cons.mpr ⟨lw_p20, List.forall_mem_cons.mpr ⟨lw_p21, List.forall_mem_cons.mpr ⟨lw_p22, List.forall_mem_cons.mpr ⟨lw_p23, List.forall_mem_cons.mpr ⟨lw_p24, List.forall_mem_cons.mpr ⟨lw_p25, List.forall_mem_cons.mpr ⟨lw_p26, List.forall_mem_cons.mpr ⟨lw_p27, List.forall_mem_cons.mpr ⟨lw_p28, List.forall_mem_cons.mpr ⟨lw_p29, List.forall_mem_cons.mpr ⟨lw_p30, List.forall_mem_cons.mpr ⟨lw_p31, fun _ h => absurd h List.not_mem_nil⟩⟩⟩⟩⟩⟩⟩⟩⟩⟩⟩⟩⟩⟩⟩⟩
theorem lw_p32 : lw_okq (⟨"HeartPinsModel", "isPerson", "(I)Z"⟩, 26) := ⟨⟨by decide +kernel, by decide +kernel⟩, List.mem_of_getElem? (i := 807) (by decide +kernel), List.mem_of_getElem? (i := 975) (by decide +kernel), List.mem_of_getElem? (i := 976) (by decide +kernel)⟩
theorem lw_p33 : lw_okq (⟨"HeartPinsModel", "load", "([II)I"⟩, 26) := ⟨⟨by decide +kernel, by decide +kernel⟩, List.mem_of_getElem? (i := 807) (by decide +kernel), List.mem_of_getElem? (i := 979) (by decide +kernel), List.mem_of_getElem? (i := 980) (by decide +kernel)⟩
theorem lw_p34 : lw_okq (⟨"HeartPinsModel", "those", "([II)I"⟩, 26) := ⟨⟨by decide +kernel, by decide +kernel⟩, List.mem_of_getElem? (i := 807) (by decide +kernel), List.mem_of_getElem? (i := 983) (by decide +kernel), List.mem_of_getElem? (i := 984) (by decide +kernel)⟩
theorem lw_p35 : lw_okq (⟨"HeartPinsModel", "sizeOf", "([II)I"⟩, 26) := ⟨⟨by decide +kernel, by decide +kernel⟩, List.mem_of_getElem? (i := 807) (by decide +kernel), List.mem_of_getElem? (i := 987) (by decide +kernel), List.mem_of_getElem? (i := 988) (by decide +kernel)⟩
theorem lw_p36 : lw_okq (⟨"HeartPinsModel", "doesBreak", "([II)Z"⟩, 26) := ⟨⟨by decide +kernel, by decide +kernel⟩, List.mem_of_getElem? (i := 807) (by decide +kernel), List.mem_of_getElem? (i := 994) (by decide +kernel), List.mem_of_getElem? (i := 995) (by decide +kernel)⟩
theorem lw_p37 : lw_okq (⟨"HeartPinsModel", "isPin", "(I)Z"⟩, 26) := ⟨⟨by decide +kernel, by decide +kernel⟩, List.mem_of_getElem? (i := 807) (by decide +kernel), List.mem_of_getElem? (i := 1002) (by decide +kernel), List.mem_of_getElem? (i := 1003) (by decide +kernel)⟩
theorem lw_p38 : lw_okq (⟨"HeartPinsModel", "isFull", "([I)Z"⟩, 26) := ⟨⟨by decide +kernel, by decide +kernel⟩, List.mem_of_getElem? (i := 807) (by decide +kernel), List.mem_of_getElem? (i := 1013) (by decide +kernel), List.mem_of_getElem? (i := 1014) (by decide +kernel)⟩
theorem lw_p39 : lw_okq (⟨"HeartPinsModel", "isAtDoor", "([I)Z"⟩, 26) := ⟨⟨by decide +kernel, by decide +kernel⟩, List.mem_of_getElem? (i := 807) (by decide +kernel), List.mem_of_getElem? (i := 1017) (by decide +kernel), List.mem_of_getElem? (i := 1018) (by decide +kernel)⟩
theorem lw_p40 : lw_okq (⟨"HeartPinsModel", "know", "()V"⟩, 26) := ⟨⟨by decide +kernel, by decide +kernel⟩, List.mem_of_getElem? (i := 807) (by decide +kernel), List.mem_of_getElem? (i := 1025) (by decide +kernel), List.mem_of_getElem? (i := 1026) (by decide +kernel)⟩
theorem lw_p41 : lw_okq (⟨"HeartPinsModel", "passOn", "([I)V"⟩, 26) := ⟨⟨by decide +kernel, by decide +kernel⟩, List.mem_of_getElem? (i := 807) (by decide +kernel), List.mem_of_getElem? (i := 1041) (by decide +kernel), List.mem_of_getElem? (i := 1042) (by decide +kernel)⟩
theorem lw_p42 : lw_okq (⟨"HeartPinsModel", "goOn", "(I)V"⟩, 26) := ⟨⟨by decide +kernel, by decide +kernel⟩, List.mem_of_getElem? (i := 807) (by decide +kernel), List.mem_of_getElem? (i := 1056) (by decide +kernel), List.mem_of_getElem? (i := 1057) (by decide +kernel)⟩
theorem lw_p43 : lw_okq (⟨"HeartPinsModel", "take", "()V"⟩, 26) := ⟨⟨by decide +kernel, by decide +kernel⟩, List.mem_of_getElem? (i := 807) (by decide +kernel), List.mem_of_getElem? (i := 1060) (by decide +kernel), List.mem_of_getElem? (i := 1061) (by decide +kernel)⟩
theorem lw_p44 : lw_okq (⟨"HeartPinsModel", "borne", "([I)I"⟩, 26) := ⟨⟨by decide +kernel, by decide +kernel⟩, List.mem_of_getElem? (i := 807) (by decide +kernel), List.mem_of_getElem? (i := 1080) (by decide +kernel), List.mem_of_getElem? (i := 1081) (by decide +kernel)⟩
theorem lw_p45 : lw_okq (⟨"HeartPinsModel", "isWellBy", "(II)Z"⟩, 26) := ⟨⟨by decide +kernel, by decide +kernel⟩, List.mem_of_getElem? (i := 807) (by decide +kernel), List.mem_of_getElem? (i := 1087) (by decide +kernel), List.mem_of_getElem? (i := 1088) (by decide +kernel)⟩
theorem lw_p46 : lw_okq (⟨"HeartPinsModel", "broken", "([I)I"⟩, 26) := ⟨⟨by decide +kernel, by decide +kernel⟩, List.mem_of_getElem? (i := 807) (by decide +kernel), List.mem_of_getElem? (i := 1091) (by decide +kernel), List.mem_of_getElem? (i := 1092) (by decide +kernel)⟩
theorem lw_p47 : lw_okq (⟨"HeartPinsModel", "leastFor", "(I)I"⟩, 26) := ⟨⟨by decide +kernel, by decide +kernel⟩, List.mem_of_getElem? (i := 807) (by decide +kernel), List.mem_of_getElem? (i := 1099) (by decide +kernel), List.mem_of_getElem? (i := 1100) (by decide +kernel)⟩
def lw_privs_3 : List (MethodName × Nat) := [(⟨"HeartPinsModel", "isPerson", "(I)Z"⟩, 26), (⟨"HeartPinsModel", "load", "([II)I"⟩, 26), (⟨"HeartPinsModel", "those", "([II)I"⟩, 26), (⟨"HeartPinsModel", "sizeOf", "([II)I"⟩, 26), (⟨"HeartPinsModel", "doesBreak", "([II)Z"⟩, 26), (⟨"HeartPinsModel", "isPin", "(I)Z"⟩, 26), (⟨"HeartPinsModel", "isFull", "([I)Z"⟩, 26), (⟨"HeartPinsModel", "isAtDoor", "([I)Z"⟩, 26), (⟨"HeartPinsModel", "know", "()V"⟩, 26), (⟨"HeartPinsModel", "passOn", "([I)V"⟩, 26), (⟨"HeartPinsModel", "goOn", "(I)V"⟩, 26), (⟨"HeartPinsModel", "take", "()V"⟩, 26), (⟨"HeartPinsModel", "borne", "([I)I"⟩, 26), (⟨"HeartPinsModel", "isWellBy", "(II)Z"⟩, 26), (⟨"HeartPinsModel", "broken", "([I)I"⟩, 26), (⟨"HeartPinsModel", "leastFor", "(I)I"⟩, 26)]
theorem lw_r3 : ∀ q ∈ lw_privs_3, lw_okq q := List.forall_mem_cons.mpr ⟨lw_p32, List.forall_mem_cons.mpr ⟨lw_p33, List.forall_mem_cons.mpr ⟨lw_p34, List.forall_mem_cons.mpr ⟨lw_p35, List.forall_mem_cons.mpr ⟨lw_p36, List.forall_mem_cons.mpr ⟨lw_p37, List.forall_mem_cons.mpr ⟨lw_p38, List.forall_mem_cons.mpr ⟨lw_p39, List.forall_mem_cons.mpr ⟨lw_p40, List.forall_mem_cons.mpr ⟨lw_p41, List.forall_mem_cons.mpr ⟨lw_p42, List.forall_mem_cons.mpr ⟨lw_p43, List.forall_mem_cons.mpr ⟨lw_p44, List.forall_mem_cons.mpr ⟨lw_p45, List.forall_mem_cons.mpr ⟨lw_p46, List.forall_mem_cons.mpr ⟨lw_p47, fun _ h => absurd h List.not_mem_nil⟩⟩⟩⟩⟩⟩⟩⟩⟩⟩⟩⟩⟩⟩⟩⟩
theorem lw_p48 : lw_okq (⟨"HeartPinsModel", "brokenWithout", "(I)I"⟩, 26) := ⟨⟨by decide +kernel, by decide +kernel⟩, List.mem_of_getElem? (i := 807) (by decide +kernel), List.mem_of_getElem? (i := 1108) (by decide +kernel), List.mem_of_getElem? (i := 1109) (by decide +kernel)⟩
theorem lw_p49 : lw_okq (⟨"HeartPinsModel", "sizeBy", "(III)I"⟩, 26) := ⟨⟨by decide +kernel, by decide +kernel⟩, List.mem_of_getElem? (i := 807) (by decide +kernel), List.mem_of_getElem? (i := 1132) (by decide +kernel), List.mem_of_getElem? (i := 1133) (by decide +kernel)⟩
theorem lw_p50 : lw_okq (⟨"HeartPinsModel", "tellWays", "(II)V"⟩, 26) := ⟨⟨by decide +kernel, by decide +kernel⟩, List.mem_of_getElem? (i := 807) (by decide +kernel), List.mem_of_getElem? (i := 1140) (by decide +kernel), List.mem_of_getElem? (i := 1141) (by decide +kernel)⟩
theorem lw_p51 : lw_okq (⟨"HeartPinsModel", "breaksBy", "(III)Z"⟩, 26) := ⟨⟨by decide +kernel, by decide +kernel⟩, List.mem_of_getElem? (i := 807) (by decide +kernel), List.mem_of_getElem? (i := 1148) (by decide +kernel), List.mem_of_getElem? (i := 1149) (by decide +kernel)⟩
theorem lw_p52 : lw_okq (⟨"HeartPinsModel", "turn", "(I)V"⟩, 26) := ⟨⟨by decide +kernel, by decide +kernel⟩, List.mem_of_getElem? (i := 807) (by decide +kernel), List.mem_of_getElem? (i := 1159) (by decide +kernel), List.mem_of_getElem? (i := 1160) (by decide +kernel)⟩
def lw_privs_4 : List (MethodName × Nat) := [(⟨"HeartPinsModel", "brokenWithout", "(I)I"⟩, 26), (⟨"HeartPinsModel", "sizeBy", "(III)I"⟩, 26), (⟨"HeartPinsModel", "tellWays", "(II)V"⟩, 26), (⟨"HeartPinsModel", "breaksBy", "(III)Z"⟩, 26), (⟨"HeartPinsModel", "turn", "(I)V"⟩, 26)]
theorem lw_r4 : ∀ q ∈ lw_privs_4, lw_okq q := List.forall_mem_cons.mpr ⟨lw_p48, List.forall_mem_cons.mpr ⟨lw_p49, List.forall_mem_cons.mpr ⟨lw_p50, List.forall_mem_cons.mpr ⟨lw_p51, List.forall_mem_cons.mpr ⟨lw_p52, fun _ h => absurd h List.not_mem_nil⟩⟩⟩⟩⟩
def lw_privs : List (MethodName × Nat) := lw_privs_1 ++ (lw_privs_2 ++ (lw_privs_3 ++ (lw_privs_4)))
def lw_tbl : List Cond := k2_sels lw_privs ++ tables_1
theorem lw_privs_ok : ∀ q ∈ lw_privs, lw_okq q := by
  show ∀ q ∈ lw_privs_1 ++ (lw_privs_2 ++ (lw_privs_3 ++ (lw_privs_4))), lw_okq q
  exact List.forall_mem_append.mpr ⟨lw_r1, List.forall_mem_append.mpr ⟨lw_r2, List.forall_mem_append.mpr ⟨lw_r3, lw_r4⟩⟩⟩
-- ===== end of PART A
def RX0 : String := "HeartPins$BadDays"
def TX0 : u_T := fun k => match k with
  | 0 => ("HeartPins$BadDays", "ladder", "[LHeartPins$Standing;", true)
  | 1 => ("HeartPins$BadDays", "person", "I", false)
  | 2 => ("HeartPins$BadDays", "days", "I", false)
  | _ => ("HeartPins$BadDays", "tenths", "I", false)
def tyX0 : Nat → FieldType := fun k => match k with
  | 0 => .array (.object "HeartPins$Standing")
  | 1 => .int
  | 2 => .int
  | _ => .int
theorem nmX0 : ∀ a, a < 4 → ∀ b, b < 4 → a ≠ b → (TX0 a).2.1 ≠ (TX0 b).2.1 := by decide +kernel
theorem tyX0_ok : ∀ k, k < 4 → parseFieldDescriptor (TX0 k).2.2.1 = some (tyX0 k) := by decide +kernel
abbrev cX0_init : ByteArray := prog_2_method_1_code
def yX0_init : MethodName := ⟨RX0, "<init>", "(LHeartPins$Family;)V"⟩
abbrev cX0_breakingOf : ByteArray := prog_2_method_2_code
def yX0_breakingOf : MethodName := ⟨RX0, "breakingOf", "(LHeartPins$Standing;III)J"⟩
abbrev cX0_tenTo : ByteArray := prog_2_method_3_code
def yX0_tenTo : MethodName := ⟨RX0, "tenTo", "(I)J"⟩
abbrev cX0_rung : ByteArray := prog_2_method_4_code
def yX0_rung : MethodName := ⟨RX0, "rung", "(I)LHeartPins$Standing;"⟩
abbrev cX0_breakingFrom : ByteArray := prog_2_method_5_code
def yX0_breakingFrom : MethodName := ⟨RX0, "breakingFrom", "(LHeartPins$BadDays;IJ)J"⟩
def RX1 : String := "HeartPins$Family"
def TX1 : u_T := fun k => match k with
  | 0 => ("HeartPins$Family", "bearable", "[I", true)
  | 1 => ("HeartPins$Family", "owner", "[I", true)
  | 2 => ("HeartPins$Family", "kind", "[I", true)
  | 3 => ("HeartPins$Family", "told", "[I", true)
  | 4 => ("HeartPins$Family", "persons", "I", false)
  | 5 => ("HeartPins$Family", "pins", "I", false)
  | 6 => ("HeartPins$Family", "room", "I", false)
  | 7 => ("HeartPins$Family", "doorway", "I", false)
  | _ => ("HeartPins$Family", "rhythm", "I", false)
def tyX1 : Nat → FieldType := fun k => match k with
  | 0 => .array .int
  | 1 => .array .int
  | 2 => .array .int
  | 3 => .array .int
  | 4 => .int
  | 5 => .int
  | 6 => .int
  | 7 => .int
  | _ => .int
theorem nmX1 : ∀ a, a < 9 → ∀ b, b < 9 → a ≠ b → (TX1 a).2.1 ≠ (TX1 b).2.1 := by decide +kernel
theorem tyX1_ok : ∀ k, k < 9 → parseFieldDescriptor (TX1 k).2.2.1 = some (tyX1 k) := by decide +kernel
abbrev cX1_init : ByteArray := prog_3_method_1_code
def yX1_init : MethodName := ⟨RX1, "<init>", "()V"⟩
abbrev cX1_clear : ByteArray := prog_3_method_2_code
def yX1_clear : MethodName := ⟨RX1, "clear", "()V"⟩
abbrev cX1_copyFrom : ByteArray := prog_3_method_3_code
def yX1_copyFrom : MethodName := ⟨RX1, "copyFrom", "(LHeartPins$Family;)V"⟩
abbrev cX1_addPerson : ByteArray := prog_3_method_4_code
def yX1_addPerson : MethodName := ⟨RX1, "addPerson", "(I)Z"⟩
abbrev cX1_addPin : ByteArray := prog_3_method_5_code
def yX1_addPin : MethodName := ⟨RX1, "addPin", "(III)Z"⟩
abbrev cX1_setHeart : ByteArray := prog_3_method_6_code
def yX1_setHeart : MethodName := ⟨RX1, "setHeart", "(III)Z"⟩
abbrev cX1_hasPerson : ByteArray := prog_3_method_7_code
def yX1_hasPerson : MethodName := ⟨RX1, "hasPerson", "(I)Z"⟩
abbrev cX1_hasPin : ByteArray := prog_3_method_8_code
def yX1_hasPin : MethodName := ⟨RX1, "hasPin", "(I)Z"⟩
abbrev cX1_bearableBy : ByteArray := prog_3_method_9_code
def yX1_bearableBy : MethodName := ⟨RX1, "bearableBy", "(I)I"⟩
abbrev cX1_ownerOf : ByteArray := prog_3_method_10_code
def yX1_ownerOf : MethodName := ⟨RX1, "ownerOf", "(I)I"⟩
abbrev cX1_kindOf : ByteArray := prog_3_method_11_code
def yX1_kindOf : MethodName := ⟨RX1, "kindOf", "(I)I"⟩
def RX2 : String := "HeartPins$Letters"
def TX2 : u_T := fun k => match k with
  | 0 => ("HeartPins$Letters", "letters", "[C", true)
  | 1 => ("HeartPins$Letters", "numbers", "[I", true)
  | 2 => ("HeartPins$Letters", "length", "I", false)
  | _ => ("HeartPins$Letters", "at", "I", false)
def tyX2 : Nat → FieldType := fun k => match k with
  | 0 => .array .char
  | 1 => .array .int
  | 2 => .int
  | _ => .int
theorem nmX2 : ∀ a, a < 4 → ∀ b, b < 4 → a ≠ b → (TX2 a).2.1 ≠ (TX2 b).2.1 := by decide +kernel
theorem tyX2_ok : ∀ k, k < 4 → parseFieldDescriptor (TX2 k).2.2.1 = some (tyX2 k) := by decide +kernel
abbrev cX2_init : ByteArray := prog_4_method_1_code
def yX2_init : MethodName := ⟨RX2, "<init>", "()V"⟩
abbrev cX2_add : ByteArray := prog_4_method_2_code
def yX2_add : MethodName := ⟨RX2, "add", "(C)Z"⟩
abbrev cX2_clear : ByteArray := prog_4_method_3_code
def yX2_clear : MethodName := ⟨RX2, "clear", "()V"⟩
abbrev cX2_readInto : ByteArray := prog_4_method_4_code
def yX2_readInto : MethodName := ⟨RX2, "readInto", "(LHeartPins$Family;)I"⟩
abbrev cX2_readItem : ByteArray := prog_4_method_5_code
def yX2_readItem : MethodName := ⟨RX2, "readItem", "(LHeartPins$Family;)Z"⟩
abbrev cX2_readNumbers : ByteArray := prog_4_method_6_code
def yX2_readNumbers : MethodName := ⟨RX2, "readNumbers", "(I)Z"⟩
abbrev cX2_readNumber : ByteArray := prog_4_method_7_code
def yX2_readNumber : MethodName := ⟨RX2, "readNumber", "()I"⟩
abbrev cX2_figureAt : ByteArray := prog_4_method_8_code
def yX2_figureAt : MethodName := ⟨RX2, "figureAt", "(I)I"⟩
abbrev cX2_letterAt : ByteArray := prog_4_method_9_code
def yX2_letterAt : MethodName := ⟨RX2, "letterAt", "(I)C"⟩
def RX3 : String := "HeartPins$Matching"
def TX3 : u_T := fun k => match k with
  | 0 => ("HeartPins$Matching", "open", "[I", true)
  | 1 => ("HeartPins$Matching", "first", "[I", true)
  | 2 => ("HeartPins$Matching", "marked", "I", false)
  | _ => ("HeartPins$Matching", "ways", "I", false)
def tyX3 : Nat → FieldType := fun k => match k with
  | 0 => .array .int
  | 1 => .array .int
  | 2 => .int
  | _ => .int
theorem nmX3 : ∀ a, a < 4 → ∀ b, b < 4 → a ≠ b → (TX3 a).2.1 ≠ (TX3 b).2.1 := by decide +kernel
theorem tyX3_ok : ∀ k, k < 4 → parseFieldDescriptor (TX3 k).2.2.1 = some (tyX3 k) := by decide +kernel
abbrev cX3_init : ByteArray := prog_5_method_1_code
def yX3_init : MethodName := ⟨RX3, "<init>", "()V"⟩
abbrev cX3_find : ByteArray := prog_5_method_2_code
def yX3_find : MethodName := ⟨RX3, "find", "(LHeartPins$Standing;LHeartPins$Notes;I)V"⟩
abbrev cX3_takeLowest : ByteArray := prog_5_method_3_code
def yX3_takeLowest : MethodName := ⟨RX3, "takeLowest", "(II)I"⟩
abbrev cX3_pinMarked : ByteArray := prog_5_method_4_code
def yX3_pinMarked : MethodName := ⟨RX3, "pinMarked", "(I)I"⟩
def RX4 : String := "HeartPins$Notes"
def TX4 : u_T := fun k => match k with
  | 0 => ("HeartPins$Notes", "seenPin", "[I", true)
  | 1 => ("HeartPins$Notes", "seenDays", "[I", true)
  | 2 => ("HeartPins$Notes", "seenLarge", "[I", true)
  | 3 => ("HeartPins$Notes", "marks", "[I", true)
  | 4 => ("HeartPins$Notes", "seen", "I", false)
  | _ => ("HeartPins$Notes", "marked", "I", false)
def tyX4 : Nat → FieldType := fun k => match k with
  | 0 => .array .int
  | 1 => .array .int
  | 2 => .array .int
  | 3 => .array .int
  | 4 => .int
  | _ => .int
theorem nmX4 : ∀ a, a < 6 → ∀ b, b < 6 → a ≠ b → (TX4 a).2.1 ≠ (TX4 b).2.1 := by decide +kernel
theorem tyX4_ok : ∀ k, k < 6 → parseFieldDescriptor (TX4 k).2.2.1 = some (tyX4 k) := by decide +kernel
abbrev cX4_init : ByteArray := prog_6_method_1_code
def yX4_init : MethodName := ⟨RX4, "<init>", "()V"⟩
abbrev cX4_clear : ByteArray := prog_6_method_2_code
def yX4_clear : MethodName := ⟨RX4, "clear", "()V"⟩
abbrev cX4_addSeen : ByteArray := prog_6_method_3_code
def yX4_addSeen : MethodName := ⟨RX4, "addSeen", "(III)Z"⟩
abbrev cX4_addMark : ByteArray := prog_6_method_4_code
def yX4_addMark : MethodName := ⟨RX4, "addMark", "(I)Z"⟩
abbrev cX4_markAt : ByteArray := prog_6_method_5_code
def yX4_markAt : MethodName := ⟨RX4, "markAt", "(I)I"⟩
abbrev cX4_allSeenFit : ByteArray := prog_6_method_6_code
def yX4_allSeenFit : MethodName := ⟨RX4, "allSeenFit", "(IIII)Z"⟩
def RX5 : String := "HeartPins$Sharing"
def TX5 : u_T := fun k => match k with
  | 0 => ("HeartPins$Sharing", "pins", "[I", true)
  | 1 => ("HeartPins$Sharing", "sizes", "[I", true)
  | 2 => ("HeartPins$Sharing", "tried", "[I", true)
  | 3 => ("HeartPins$Sharing", "bearers", "[I", true)
  | 4 => ("HeartPins$Sharing", "loads", "[I", true)
  | 5 => ("HeartPins$Sharing", "borne", "I", false)
  | 6 => ("HeartPins$Sharing", "persons", "I", false)
  | _ => ("HeartPins$Sharing", "least", "I", false)
def tyX5 : Nat → FieldType := fun k => match k with
  | 0 => .array .int
  | 1 => .array .int
  | 2 => .array .int
  | 3 => .array .int
  | 4 => .array .int
  | 5 => .int
  | 6 => .int
  | _ => .int
theorem nmX5 : ∀ a, a < 8 → ∀ b, b < 8 → a ≠ b → (TX5 a).2.1 ≠ (TX5 b).2.1 := by decide +kernel
theorem tyX5_ok : ∀ k, k < 8 → parseFieldDescriptor (TX5 k).2.2.1 = some (tyX5 k) := by decide +kernel
abbrev cX5_init : ByteArray := prog_7_method_1_code
def yX5_init : MethodName := ⟨RX5, "<init>", "()V"⟩
abbrev cX5_find : ByteArray := prog_7_method_2_code
def yX5_find : MethodName := ⟨RX5, "find", "(LHeartPins$Standing;I)V"⟩
abbrev cX5_bearerOf : ByteArray := prog_7_method_3_code
def yX5_bearerOf : MethodName := ⟨RX5, "bearerOf", "(I)I"⟩
abbrev cX5_tryFrom : ByteArray := prog_7_method_4_code
def yX5_tryFrom : MethodName := ⟨RX5, "tryFrom", "(LHeartPins$Sharing;II)V"⟩
abbrev cX5_isLikeEarlier : ByteArray := prog_7_method_5_code
def yX5_isLikeEarlier : MethodName := ⟨RX5, "isLikeEarlier", "(I)Z"⟩
abbrev cX5_keepTried : ByteArray := prog_7_method_6_code
def yX5_keepTried : MethodName := ⟨RX5, "keepTried", "()V"⟩
def RX6 : String := "HeartPins$Shelf"
def TX6 : u_T := fun k => match k with
  | 0 => ("HeartPins$Shelf", "rows", "[LHeartPins$Standing;", true)
  | _ => ("HeartPins$Shelf", "filled", "I", false)
def tyX6 : Nat → FieldType := fun k => match k with
  | 0 => .array (.object "HeartPins$Standing")
  | _ => .int
theorem nmX6 : ∀ a, a < 2 → ∀ b, b < 2 → a ≠ b → (TX6 a).2.1 ≠ (TX6 b).2.1 := by decide +kernel
theorem tyX6_ok : ∀ k, k < 2 → parseFieldDescriptor (TX6 k).2.2.1 = some (tyX6 k) := by decide +kernel
abbrev cX6_init : ByteArray := prog_8_method_1_code
def yX6_init : MethodName := ⟨RX6, "<init>", "(LHeartPins$Family;I)V"⟩
abbrev cX6_clear : ByteArray := prog_8_method_2_code
def yX6_clear : MethodName := ⟨RX6, "clear", "()V"⟩
abbrev cX6_put : ByteArray := prog_8_method_3_code
def yX6_put : MethodName := ⟨RX6, "put", "(LHeartPins$Standing;)V"⟩
abbrev cX6_take : ByteArray := prog_8_method_4_code
def yX6_take : MethodName := ⟨RX6, "take", "(LHeartPins$Standing;)Z"⟩
abbrev cX6_rowAt : ByteArray := prog_8_method_5_code
def yX6_rowAt : MethodName := ⟨RX6, "rowAt", "(I)LHeartPins$Standing;"⟩
abbrev cX6_dropOldest : ByteArray := prog_8_method_6_code
def yX6_dropOldest : MethodName := ⟨RX6, "dropOldest", "()V"⟩
def RX7 : String := "HeartPins$Standing"
def TX7 : u_T := fun k => match k with
  | 0 => ("HeartPins$Standing", "family", "LHeartPins$Family;", true)
  | 1 => ("HeartPins$Standing", "large", "[I", true)
  | 2 => ("HeartPins$Standing", "where", "[I", true)
  | 3 => ("HeartPins$Standing", "steps", "I", false)
  | _ => ("HeartPins$Standing", "day", "I", false)
def tyX7 : Nat → FieldType := fun k => match k with
  | 0 => .object "HeartPins$Family"
  | 1 => .array .int
  | 2 => .array .int
  | 3 => .int
  | _ => .int
theorem nmX7 : ∀ a, a < 5 → ∀ b, b < 5 → a ≠ b → (TX7 a).2.1 ≠ (TX7 b).2.1 := by decide +kernel
theorem tyX7_ok : ∀ k, k < 5 → parseFieldDescriptor (TX7 k).2.2.1 = some (tyX7 k) := by decide +kernel
abbrev cX7_init : ByteArray := prog_9_method_1_code
def yX7_init : MethodName := ⟨RX7, "<init>", "(LHeartPins$Family;)V"⟩
abbrev cX7_begin : ByteArray := prog_9_method_2_code
def yX7_begin : MethodName := ⟨RX7, "begin", "()V"⟩
abbrev cX7_copyFrom : ByteArray := prog_9_method_3_code
def yX7_copyFrom : MethodName := ⟨RX7, "copyFrom", "(LHeartPins$Standing;)V"⟩
abbrev cX7_largeOf : ByteArray := prog_9_method_4_code
def yX7_largeOf : MethodName := ⟨RX7, "largeOf", "(I)I"⟩
abbrev cX7_whereIs : ByteArray := prog_9_method_5_code
def yX7_whereIs : MethodName := ⟨RX7, "whereIs", "(I)I"⟩
abbrev cX7_isAbout : ByteArray := prog_9_method_6_code
def yX7_isAbout : MethodName := ⟨RX7, "isAbout", "(I)Z"⟩
abbrev cX7_sumAt : ByteArray := prog_9_method_7_code
def yX7_sumAt : MethodName := ⟨RX7, "sumAt", "(I)I"⟩
abbrev cX7_loadOf : ByteArray := prog_9_method_8_code
def yX7_loadOf : MethodName := ⟨RX7, "loadOf", "(I)I"⟩
abbrev cX7_heartSum : ByteArray := prog_9_method_9_code
def yX7_heartSum : MethodName := ⟨RX7, "heartSum", "()I"⟩
abbrev cX7_borneSum : ByteArray := prog_9_method_10_code
def yX7_borneSum : MethodName := ⟨RX7, "borneSum", "()I"⟩
abbrev cX7_pinsWith : ByteArray := prog_9_method_11_code
def yX7_pinsWith : MethodName := ⟨RX7, "pinsWith", "(I)I"⟩
abbrev cX7_borneBits : ByteArray := prog_9_method_12_code
def yX7_borneBits : MethodName := ⟨RX7, "borneBits", "()I"⟩
abbrev cX7_howManyBorne : ByteArray := prog_9_method_13_code
def yX7_howManyBorne : MethodName := ⟨RX7, "howManyBorne", "()I"⟩
abbrev cX7_howManyAt : ByteArray := prog_9_method_14_code
def yX7_howManyAt : MethodName := ⟨RX7, "howManyAt", "(I)I"⟩
abbrev cX7_isBroken : ByteArray := prog_9_method_15_code
def yX7_isBroken : MethodName := ⟨RX7, "isBroken", "(I)Z"⟩
abbrev cX7_howManyBreak : ByteArray := prog_9_method_16_code
def yX7_howManyBreak : MethodName := ⟨RX7, "howManyBreak", "()I"⟩
abbrev cX7_breakingWithout : ByteArray := prog_9_method_17_code
def yX7_breakingWithout : MethodName := ⟨RX7, "breakingWithout", "(I)I"⟩
abbrev cX7_isFull : ByteArray := prog_9_method_18_code
def yX7_isFull : MethodName := ⟨RX7, "isFull", "()Z"⟩
abbrev cX7_isAtDoor : ByteArray := prog_9_method_19_code
def yX7_isAtDoor : MethodName := ⟨RX7, "isAtDoor", "()Z"⟩
abbrev cX7_isCalm : ByteArray := prog_9_method_20_code
def yX7_isCalm : MethodName := ⟨RX7, "isCalm", "()Z"⟩
abbrev cX7_canStick : ByteArray := prog_9_method_21_code
def yX7_canStick : MethodName := ⟨RX7, "canStick", "(I)Z"⟩
abbrev cX7_canFeel : ByteArray := prog_9_method_22_code
def yX7_canFeel : MethodName := ⟨RX7, "canFeel", "(I)Z"⟩
abbrev cX7_canGive : ByteArray := prog_9_method_23_code
def yX7_canGive : MethodName := ⟨RX7, "canGive", "(II)Z"⟩
abbrev cX7_stickIn : ByteArray := prog_9_method_24_code
def yX7_stickIn : MethodName := ⟨RX7, "stickIn", "(I)V"⟩
abbrev cX7_feelFor : ByteArray := prog_9_method_25_code
def yX7_feelFor : MethodName := ⟨RX7, "feelFor", "(II)V"⟩
abbrev cX7_giveTo : ByteArray := prog_9_method_26_code
def yX7_giveTo : MethodName := ⟨RX7, "giveTo", "(II)V"⟩
abbrev cX7_growBorne : ByteArray := prog_9_method_27_code
def yX7_growBorne : MethodName := ⟨RX7, "growBorne", "()V"⟩
abbrev cX7_goDays : ByteArray := prog_9_method_28_code
def yX7_goDays : MethodName := ⟨RX7, "goDays", "(I)V"⟩
abbrev cX7_goDay : ByteArray := prog_9_method_29_code
def yX7_goDay : MethodName := ⟨RX7, "goDay", "()V"⟩
abbrev cX7_changePin : ByteArray := prog_9_method_30_code
def yX7_changePin : MethodName := ⟨RX7, "changePin", "(IZ)V"⟩
abbrev cX7_shakeOut : ByteArray := prog_9_method_31_code
def yX7_shakeOut : MethodName := ⟨RX7, "shakeOut", "()V"⟩
def RX8 : String := "HeartPins"
def TX8 : u_T := fun k => match k with
  | 0 => ("HeartPins", "text", "LHeartPins$Letters;", true)
  | 1 => ("HeartPins", "family", "LHeartPins$Family;", true)
  | 2 => ("HeartPins", "draft", "LHeartPins$Family;", true)
  | 3 => ("HeartPins", "now", "LHeartPins$Standing;", true)
  | 4 => ("HeartPins", "later", "LHeartPins$Standing;", true)
  | 5 => ("HeartPins", "past", "LHeartPins$Shelf;", true)
  | 6 => ("HeartPins", "kept", "LHeartPins$Shelf;", true)
  | 7 => ("HeartPins", "notes", "LHeartPins$Notes;", true)
  | 8 => ("HeartPins", "matching", "LHeartPins$Matching;", true)
  | 9 => ("HeartPins", "sharing", "LHeartPins$Sharing;", true)
  | _ => ("HeartPins", "badDays", "LHeartPins$BadDays;", true)
def tyX8 : Nat → FieldType := fun k => match k with
  | 0 => .object "HeartPins$Letters"
  | 1 => .object "HeartPins$Family"
  | 2 => .object "HeartPins$Family"
  | 3 => .object "HeartPins$Standing"
  | 4 => .object "HeartPins$Standing"
  | 5 => .object "HeartPins$Shelf"
  | 6 => .object "HeartPins$Shelf"
  | 7 => .object "HeartPins$Notes"
  | 8 => .object "HeartPins$Matching"
  | 9 => .object "HeartPins$Sharing"
  | _ => .object "HeartPins$BadDays"
theorem nmX8 : ∀ a, a < 11 → ∀ b, b < 11 → a ≠ b → (TX8 a).2.1 ≠ (TX8 b).2.1 := by decide +kernel
theorem tyX8_ok : ∀ k, k < 11 → parseFieldDescriptor (TX8 k).2.2.1 = some (tyX8 k) := by decide +kernel
abbrev cX8_init : ByteArray := prog_1_method_1_code
def yX8_init : MethodName := ⟨RX8, "<init>", "()V"⟩
abbrev cX8_write : ByteArray := prog_1_method_2_code
def yX8_write : MethodName := ⟨RX8, "write", "(I)I"⟩
abbrev cX8_wipe : ByteArray := prog_1_method_3_code
def yX8_wipe : MethodName := ⟨RX8, "wipe", "()I"⟩
abbrev cX8_fault : ByteArray := prog_1_method_4_code
def yX8_fault : MethodName := ⟨RX8, "fault", "()I"⟩
abbrev cX8_lay : ByteArray := prog_1_method_5_code
def yX8_lay : MethodName := ⟨RX8, "lay", "()I"⟩
abbrev cX8_person : ByteArray := prog_1_method_6_code
def yX8_person : MethodName := ⟨RX8, "person", "(II)I"⟩
abbrev cX8_pin : ByteArray := prog_1_method_7_code
def yX8_pin : MethodName := ⟨RX8, "pin", "(II)I"⟩
abbrev cX8_heart : ByteArray := prog_1_method_8_code
def yX8_heart : MethodName := ⟨RX8, "heart", "(I)I"⟩
abbrev cX8_stick : ByteArray := prog_1_method_9_code
def yX8_stick : MethodName := ⟨RX8, "stick", "(I)I"⟩
abbrev cX8_feel : ByteArray := prog_1_method_10_code
def yX8_feel : MethodName := ⟨RX8, "feel", "(II)I"⟩
abbrev cX8_bear : ByteArray := prog_1_method_11_code
def yX8_bear : MethodName := ⟨RX8, "bear", "(II)I"⟩
abbrev cX8_pass : ByteArray := prog_1_method_12_code
def yX8_pass : MethodName := ⟨RX8, "pass", "(I)I"⟩
abbrev cX8_undo : ByteArray := prog_1_method_13_code
def yX8_undo : MethodName := ⟨RX8, "undo", "()I"⟩
abbrev cX8_behind : ByteArray := prog_1_method_14_code
def yX8_behind : MethodName := ⟨RX8, "behind", "(II)I"⟩
abbrev cX8_walked : ByteArray := prog_1_method_15_code
def yX8_walked : MethodName := ⟨RX8, "walked", "(I)I"⟩
abbrev cX8_breaks : ByteArray := prog_1_method_16_code
def yX8_breaks : MethodName := ⟨RX8, "breaks", "(I)I"⟩
abbrev cX8_door : ByteArray := prog_1_method_17_code
def yX8_door : MethodName := ⟨RX8, "door", "()I"⟩
abbrev cX8_best : ByteArray := prog_1_method_18_code
def yX8_best : MethodName := ⟨RX8, "best", "(II)I"⟩
abbrev cX8_share : ByteArray := prog_1_method_19_code
def yX8_share : MethodName := ⟨RX8, "share", "(I)I"⟩
abbrev cX8_relief : ByteArray := prog_1_method_20_code
def yX8_relief : MethodName := ⟨RX8, "relief", "(I)I"⟩
abbrev cX8_pair : ByteArray := prog_1_method_21_code
def yX8_pair : MethodName := ⟨RX8, "pair", "(I)I"⟩
abbrev cX8_see : ByteArray := prog_1_method_22_code
def yX8_see : MethodName := ⟨RX8, "see", "(III)I"⟩
abbrev cX8_mark : ByteArray := prog_1_method_23_code
def yX8_mark : MethodName := ⟨RX8, "mark", "(I)I"⟩
abbrev cX8_forget : ByteArray := prog_1_method_24_code
def yX8_forget : MethodName := ⟨RX8, "forget", "()I"⟩
abbrev cX8_kinds : ByteArray := prog_1_method_25_code
def yX8_kinds : MethodName := ⟨RX8, "kinds", "(I)I"⟩
abbrev cX8_which : ByteArray := prog_1_method_26_code
def yX8_which : MethodName := ⟨RX8, "which", "(II)I"⟩
abbrev cX8_bad : ByteArray := prog_1_method_27_code
def yX8_bad : MethodName := ⟨RX8, "bad", "(IIII)I"⟩
abbrev cX8_month : ByteArray := prog_1_method_28_code
def yX8_month : MethodName := ⟨RX8, "month", "(III)I"⟩
abbrev cX8_keep : ByteArray := prog_1_method_29_code
def yX8_keep : MethodName := ⟨RX8, "keep", "()I"⟩
abbrev cX8_back : ByteArray := prog_1_method_30_code
def yX8_back : MethodName := ⟨RX8, "back", "()I"⟩
abbrev cX8_count : ByteArray := prog_1_method_31_code
def yX8_count : MethodName := ⟨RX8, "count", "(I)I"⟩
abbrev cX8_isWithin : ByteArray := prog_1_method_32_code
def yX8_isWithin : MethodName := ⟨RX8, "isWithin", "(III)Z"⟩
abbrev cX8_placeNumber : ByteArray := prog_1_method_33_code
def yX8_placeNumber : MethodName := ⟨RX8, "placeNumber", "(I)I"⟩
abbrev cX8_lookBehind : ByteArray := prog_1_method_34_code
def yX8_lookBehind : MethodName := ⟨RX8, "lookBehind", "(I)V"⟩
abbrev cX8_bestSet : ByteArray := prog_1_method_35_code
def yX8_bestSet : MethodName := ⟨RX8, "bestSet", "(I)I"⟩
abbrev cX8_isCalmWith : ByteArray := prog_1_method_36_code
def yX8_isCalmWith : MethodName := ⟨RX8, "isCalmWith", "(II)Z"⟩
abbrev cX8_drawOf : ByteArray := prog_1_method_37_code
def yX8_drawOf : MethodName := ⟨RX8, "drawOf", "(II)I"⟩
abbrev cX8_actByDraw : ByteArray := prog_1_method_38_code
def yX8_actByDraw : MethodName := ⟨RX8, "actByDraw", "(LHeartPins$Standing;I)V"⟩
abbrev cX8_greatestDivisor : ByteArray := prog_1_method_39_code
def yX8_greatestDivisor : MethodName := ⟨RX8, "greatestDivisor", "(JJ)J"⟩
abbrev cX8_largeBehindDay : ByteArray := prog_1_method_40_code
def yX8_largeBehindDay : MethodName := ⟨RX8, "largeBehindDay", "(III)I"⟩
abbrev cX8_largeBehind : ByteArray := prog_1_method_41_code
def yX8_largeBehind : MethodName := ⟨RX8, "largeBehind", "(IIII)I"⟩
def RX9 : String := "HeartPinsModel"
def TX9 : u_T := fun k => match k with
  | 0 => ("HeartPinsModel", "text", "[B", true)
  | 1 => ("HeartPinsModel", "typed", "I", false)
  | 2 => ("HeartPinsModel", "people", "[I", true)
  | 3 => ("HeartPinsModel", "pins", "[I", true)
  | 4 => ("HeartPinsModel", "heart", "[I", true)
  | 5 => ("HeartPinsModel", "can", "[I", true)
  | 6 => ("HeartPinsModel", "whose", "[I", true)
  | 7 => ("HeartPinsModel", "kind", "[I", true)
  | 8 => ("HeartPinsModel", "large", "[I", true)
  | 9 => ("HeartPinsModel", "at", "I", false)
  | 10 => ("HeartPinsModel", "isWrong", "Z", false)
  | 11 => ("HeartPinsModel", "now", "[I", true)
  | 12 => ("HeartPinsModel", "before", "[I", true)
  | 13 => ("HeartPinsModel", "many", "I", false)
  | 14 => ("HeartPinsModel", "store", "[I", true)
  | 15 => ("HeartPinsModel", "kept", "I", false)
  | 16 => ("HeartPinsModel", "tried", "[I", true)
  | 17 => ("HeartPinsModel", "borne", "[I", true)
  | 18 => ("HeartPinsModel", "least", "[I", true)
  | 19 => ("HeartPinsModel", "sightOf", "[I", true)
  | 20 => ("HeartPinsModel", "sightBy", "[I", true)
  | 21 => ("HeartPinsModel", "sightIs", "[I", true)
  | 22 => ("HeartPinsModel", "sights", "I", false)
  | 23 => ("HeartPinsModel", "marked", "[I", true)
  | 24 => ("HeartPinsModel", "marks", "I", false)
  | _ => ("HeartPinsModel", "waysBy", "[I", true)
def tyX9 : Nat → FieldType := fun k => match k with
  | 0 => .array .byte
  | 1 => .int
  | 2 => .array .int
  | 3 => .array .int
  | 4 => .array .int
  | 5 => .array .int
  | 6 => .array .int
  | 7 => .array .int
  | 8 => .array .int
  | 9 => .int
  | 10 => .boolean
  | 11 => .array .int
  | 12 => .array .int
  | 13 => .int
  | 14 => .array .int
  | 15 => .int
  | 16 => .array .int
  | 17 => .array .int
  | 18 => .array .int
  | 19 => .array .int
  | 20 => .array .int
  | 21 => .array .int
  | 22 => .int
  | 23 => .array .int
  | 24 => .int
  | _ => .array .int
theorem nmX9 : ∀ a, a < 26 → ∀ b, b < 26 → a ≠ b → (TX9 a).2.1 ≠ (TX9 b).2.1 := by decide +kernel
theorem tyX9_ok : ∀ k, k < 26 → parseFieldDescriptor (TX9 k).2.2.1 = some (tyX9 k) := by decide +kernel
abbrev cX9_init : ByteArray := prog_11_method_1_code
def yX9_init : MethodName := ⟨RX9, "<init>", "()V"⟩
abbrev cX9_in : ByteArray := prog_11_method_3_code
def yX9_in : MethodName := ⟨RX9, "in", "(III)Z"⟩
abbrev cX9_has : ByteArray := prog_11_method_4_code
def yX9_has : MethodName := ⟨RX9, "has", "(II)Z"⟩
abbrev cX9_bitsOf : ByteArray := prog_11_method_5_code
def yX9_bitsOf : MethodName := ⟨RX9, "bitsOf", "(I)I"⟩
abbrev cX9_write : ByteArray := prog_11_method_6_code
def yX9_write : MethodName := ⟨RX9, "write", "(I)I"⟩
abbrev cX9_wipe : ByteArray := prog_11_method_7_code
def yX9_wipe : MethodName := ⟨RX9, "wipe", "()I"⟩
abbrev cX9_here : ByteArray := prog_11_method_8_code
def yX9_here : MethodName := ⟨RX9, "here", "()I"⟩
abbrev cX9_isFigure : ByteArray := prog_11_method_9_code
def yX9_isFigure : MethodName := ⟨RX9, "isFigure", "()Z"⟩
abbrev cX9_due : ByteArray := prog_11_method_10_code
def yX9_due : MethodName := ⟨RX9, "due", "(I)V"⟩
abbrev cX9_number : ByteArray := prog_11_method_11_code
def yX9_number : MethodName := ⟨RX9, "number", "(II)I"⟩
abbrev cX9_readPerson : ByteArray := prog_11_method_12_code
def yX9_readPerson : MethodName := ⟨RX9, "readPerson", "()V"⟩
abbrev cX9_readPin : ByteArray := prog_11_method_13_code
def yX9_readPin : MethodName := ⟨RX9, "readPin", "()V"⟩
abbrev cX9_readHeart : ByteArray := prog_11_method_14_code
def yX9_readHeart : MethodName := ⟨RX9, "readHeart", "()V"⟩
abbrev cX9_tellHeart : ByteArray := prog_11_method_15_code
def yX9_tellHeart : MethodName := ⟨RX9, "tellHeart", "(III)V"⟩
abbrev cX9_readItem : ByteArray := prog_11_method_16_code
def yX9_readItem : MethodName := ⟨RX9, "readItem", "()V"⟩
abbrev cX9_begin : ByteArray := prog_11_method_17_code
def yX9_begin : MethodName := ⟨RX9, "begin", "()V"⟩
abbrev cX9_read : ByteArray := prog_11_method_18_code
def yX9_read : MethodName := ⟨RX9, "read", "()I"⟩
abbrev cX9_fault : ByteArray := prog_11_method_19_code
def yX9_fault : MethodName := ⟨RX9, "fault", "()I"⟩
abbrev cX9_tellPerson : ByteArray := prog_11_method_20_code
def yX9_tellPerson : MethodName := ⟨RX9, "tellPerson", "(I)V"⟩
abbrev cX9_tellPin : ByteArray := prog_11_method_21_code
def yX9_tellPin : MethodName := ⟨RX9, "tellPin", "(III)V"⟩
abbrev cX9_first : ByteArray := prog_11_method_22_code
def yX9_first : MethodName := ⟨RX9, "first", "()V"⟩
abbrev cX9_takeDraft : ByteArray := prog_11_method_23_code
def yX9_takeDraft : MethodName := ⟨RX9, "takeDraft", "()V"⟩
abbrev cX9_lay : ByteArray := prog_11_method_24_code
def yX9_lay : MethodName := ⟨RX9, "lay", "()I"⟩
abbrev cX9_take : ByteArray := prog_11_method_25_code
def yX9_take : MethodName := ⟨RX9, "take", "()V"⟩
abbrev cX9_isPerson : ByteArray := prog_11_method_26_code
def yX9_isPerson : MethodName := ⟨RX9, "isPerson", "(I)Z"⟩
abbrev cX9_isPin : ByteArray := prog_11_method_27_code
def yX9_isPin : MethodName := ⟨RX9, "isPin", "(I)Z"⟩
abbrev cX9_isBorne : ByteArray := prog_11_method_28_code
def yX9_isBorne : MethodName := ⟨RX9, "isBorne", "([II)Z"⟩
abbrev cX9_those : ByteArray := prog_11_method_29_code
def yX9_those : MethodName := ⟨RX9, "those", "([II)I"⟩
abbrev cX9_borne : ByteArray := prog_11_method_30_code
def yX9_borne : MethodName := ⟨RX9, "borne", "([I)I"⟩
abbrev cX9_sizeOf : ByteArray := prog_11_method_31_code
def yX9_sizeOf : MethodName := ⟨RX9, "sizeOf", "([II)I"⟩
abbrev cX9_load : ByteArray := prog_11_method_32_code
def yX9_load : MethodName := ⟨RX9, "load", "([II)I"⟩
abbrev cX9_doesBreak : ByteArray := prog_11_method_33_code
def yX9_doesBreak : MethodName := ⟨RX9, "doesBreak", "([II)Z"⟩
abbrev cX9_broken : ByteArray := prog_11_method_34_code
def yX9_broken : MethodName := ⟨RX9, "broken", "([I)I"⟩
abbrev cX9_isFull : ByteArray := prog_11_method_35_code
def yX9_isFull : MethodName := ⟨RX9, "isFull", "([I)Z"⟩
abbrev cX9_isAtDoor : ByteArray := prog_11_method_36_code
def yX9_isAtDoor : MethodName := ⟨RX9, "isAtDoor", "([I)Z"⟩
abbrev cX9_grown : ByteArray := prog_11_method_37_code
def yX9_grown : MethodName := ⟨RX9, "grown", "(III)I"⟩
abbrev cX9_passOn : ByteArray := prog_11_method_38_code
def yX9_passOn : MethodName := ⟨RX9, "passOn", "([I)V"⟩
abbrev cX9_person : ByteArray := prog_11_method_39_code
def yX9_person : MethodName := ⟨RX9, "person", "(II)I"⟩
abbrev cX9_pin : ByteArray := prog_11_method_40_code
def yX9_pin : MethodName := ⟨RX9, "pin", "(II)I"⟩
abbrev cX9_heart : ByteArray := prog_11_method_41_code
def yX9_heart : MethodName := ⟨RX9, "heart", "(I)I"⟩
abbrev cX9_know : ByteArray := prog_11_method_42_code
def yX9_know : MethodName := ⟨RX9, "know", "()V"⟩
abbrev cX9_stick : ByteArray := prog_11_method_43_code
def yX9_stick : MethodName := ⟨RX9, "stick", "(I)I"⟩
abbrev cX9_feel : ByteArray := prog_11_method_44_code
def yX9_feel : MethodName := ⟨RX9, "feel", "(II)I"⟩
abbrev cX9_bear : ByteArray := prog_11_method_45_code
def yX9_bear : MethodName := ⟨RX9, "bear", "(II)I"⟩
abbrev cX9_pass : ByteArray := prog_11_method_46_code
def yX9_pass : MethodName := ⟨RX9, "pass", "(I)I"⟩
abbrev cX9_undo : ByteArray := prog_11_method_47_code
def yX9_undo : MethodName := ⟨RX9, "undo", "()I"⟩
abbrev cX9_goOn : ByteArray := prog_11_method_48_code
def yX9_goOn : MethodName := ⟨RX9, "goOn", "(I)V"⟩
abbrev cX9_behind : ByteArray := prog_11_method_49_code
def yX9_behind : MethodName := ⟨RX9, "behind", "(II)I"⟩
abbrev cX9_walked : ByteArray := prog_11_method_50_code
def yX9_walked : MethodName := ⟨RX9, "walked", "(I)I"⟩
abbrev cX9_breaks : ByteArray := prog_11_method_51_code
def yX9_breaks : MethodName := ⟨RX9, "breaks", "(I)I"⟩
abbrev cX9_door : ByteArray := prog_11_method_52_code
def yX9_door : MethodName := ⟨RX9, "door", "()I"⟩
abbrev cX9_isWellBy : ByteArray := prog_11_method_53_code
def yX9_isWellBy : MethodName := ⟨RX9, "isWellBy", "(II)Z"⟩
abbrev cX9_best : ByteArray := prog_11_method_54_code
def yX9_best : MethodName := ⟨RX9, "best", "(II)I"⟩
abbrev cX9_leastFor : ByteArray := prog_11_method_55_code
def yX9_leastFor : MethodName := ⟨RX9, "leastFor", "(I)I"⟩
abbrev cX9_share : ByteArray := prog_11_method_56_code
def yX9_share : MethodName := ⟨RX9, "share", "(I)I"⟩
abbrev cX9_brokenWithout : ByteArray := prog_11_method_57_code
def yX9_brokenWithout : MethodName := ⟨RX9, "brokenWithout", "(I)I"⟩
abbrev cX9_relief : ByteArray := prog_11_method_58_code
def yX9_relief : MethodName := ⟨RX9, "relief", "(I)I"⟩
abbrev cX9_pair : ByteArray := prog_11_method_59_code
def yX9_pair : MethodName := ⟨RX9, "pair", "(I)I"⟩
abbrev cX9_see : ByteArray := prog_11_method_60_code
def yX9_see : MethodName := ⟨RX9, "see", "(III)I"⟩
abbrev cX9_mark : ByteArray := prog_11_method_61_code
def yX9_mark : MethodName := ⟨RX9, "mark", "(I)I"⟩
abbrev cX9_forget : ByteArray := prog_11_method_62_code
def yX9_forget : MethodName := ⟨RX9, "forget", "()I"⟩
abbrev cX9_sizeBy : ByteArray := prog_11_method_63_code
def yX9_sizeBy : MethodName := ⟨RX9, "sizeBy", "(III)I"⟩
abbrev cX9_kinds : ByteArray := prog_11_method_64_code
def yX9_kinds : MethodName := ⟨RX9, "kinds", "(I)I"⟩
abbrev cX9_tellWays : ByteArray := prog_11_method_65_code
def yX9_tellWays : MethodName := ⟨RX9, "tellWays", "(II)V"⟩
abbrev cX9_which : ByteArray := prog_11_method_66_code
def yX9_which : MethodName := ⟨RX9, "which", "(II)I"⟩
abbrev cX9_breaksBy : ByteArray := prog_11_method_67_code
def yX9_breaksBy : MethodName := ⟨RX9, "breaksBy", "(III)Z"⟩
abbrev cX9_bad : ByteArray := prog_11_method_68_code
def yX9_bad : MethodName := ⟨RX9, "bad", "(IIII)I"⟩
abbrev cX9_turn : ByteArray := prog_11_method_69_code
def yX9_turn : MethodName := ⟨RX9, "turn", "(I)V"⟩
abbrev cX9_month : ByteArray := prog_11_method_70_code
def yX9_month : MethodName := ⟨RX9, "month", "(III)I"⟩
abbrev cX9_keep : ByteArray := prog_11_method_71_code
def yX9_keep : MethodName := ⟨RX9, "keep", "()I"⟩
abbrev cX9_back : ByteArray := prog_11_method_72_code
def yX9_back : MethodName := ⟨RX9, "back", "()I"⟩
abbrev cX9_count : ByteArray := prog_11_method_73_code
def yX9_count : MethodName := ⟨RX9, "count", "(I)I"⟩
def RJ6 : String := "java/lang/Integer"
abbrev cJ6_bitCount_0f7a4 : ByteArray := prog_12_method_49_code
def yJ6_bitCount_0f7a4 : MethodName := ⟨RJ6, "bitCount", "(I)I"⟩
def RJ9 : String := "java/lang/Math"
abbrev cJ9_max_7cf53 : ByteArray := prog_13_method_65_code
def yJ9_max_7cf53 : MethodName := ⟨RJ9, "max", "(II)I"⟩
abbrev cJ9_min_7cf53 : ByteArray := prog_13_method_69_code
def yJ9_min_7cf53 : MethodName := ⟨RJ9, "min", "(II)I"⟩
def RJ0 : String := "java/lang/String"
abbrev cJ0_length_8abf5 : ByteArray := prog_14_method_54_code
def yJ0_length_8abf5 : MethodName := ⟨RJ0, "length", "()I"⟩
abbrev cJ0_charAt_5068e : ByteArray := prog_14_method_56_code
def yJ0_charAt_5068e : MethodName := ⟨RJ0, "charAt", "(I)C"⟩
abbrev cJ0_coder_7d493 : ByteArray := prog_14_method_152_code
def yJ0_coder_7d493 : MethodName := ⟨RJ0, "coder", "()B"⟩
abbrev cJ0_isLatin1_aae02 : ByteArray := prog_14_method_154_code
def yJ0_isLatin1_aae02 : MethodName := ⟨RJ0, "isLatin1", "()Z"⟩
abbrev cJ0_checkIndex_df160 : ByteArray := prog_14_method_155_code
def yJ0_checkIndex_df160 : MethodName := ⟨RJ0, "checkIndex", "(II)V"⟩
def RJ1 : String := "java/lang/StringLatin1"
abbrev cJ1_charAt_3b067 : ByteArray := prog_15_method_2_code
def yJ1_charAt_3b067 : MethodName := ⟨RJ1, "charAt", "([BI)C"⟩
def RJ2 : String := "java/lang/StringUTF16"
abbrev cJ2_getChar_3b067 : ByteArray := prog_16_method_5_code
def yJ2_getChar_3b067 : MethodName := ⟨RJ2, "getChar", "([BI)C"⟩
abbrev cJ2_length_9d52b : ByteArray := prog_16_method_6_code
def yJ2_length_9d52b : MethodName := ⟨RJ2, "length", "([B)I"⟩
abbrev cJ2_charAt_3b067 : ByteArray := prog_16_method_83_code
def yJ2_charAt_3b067 : MethodName := ⟨RJ2, "charAt", "([BI)C"⟩
abbrev cJ2_checkIndex_2214a : ByteArray := prog_16_method_91_code
def yJ2_checkIndex_2214a : MethodName := ⟨RJ2, "checkIndex", "(I[B)V"⟩
def RJ3 : String := "jdk/internal/util/Preconditions"
abbrev cJ3_checkIndex_8e157 : ByteArray := prog_17_method_11_code
def yJ3_checkIndex_8e157 : MethodName := ⟨RJ3, "checkIndex", "(IILjava/util/function/BiFunction;)I"⟩
def RL : String := "HeartPinsLaw"
abbrev cL_law : ByteArray := code
def yL_law : MethodName := ⟨RL, "law", "([I)Z"⟩
abbrev vwCl : List vw_C := [(RX0, TX0, 4), (RX1, TX1, 9), (RX2, TX2, 4), (RX3, TX3, 4), (RX4, TX4, 6), (RX5, TX5, 8), (RX6, TX6, 2), (RX7, TX7, 5), (RX8, TX8, 11), (RX9, TX9, 26)]
/-- the tables' words that go along with a call -/
def wT : List Cond := lw_tbl.filter goodWord
theorem mT {w : Cond} (i : Nat) (h : lw_tbl[i]? = some w) (hg : goodWord w = true) : w ∈ wT := List.mem_filter.mpr ⟨List.mem_of_getElem? h, hg⟩
theorem mTs {ws : List Cond} (ps : List Nat) (h : ws = ps.filterMap (fun i => lw_tbl[i]?)) (hg : ws.all goodWord = true) : ∀ w ∈ ws, w ∈ wT := by
  intro w hw
  have h1 := List.all_eq_true.mp hg w hw
  rw [h] at hw
  obtain ⟨i, -, hi⟩ := List.mem_filterMap.mp hw
  exact mT i hi h1
theorem wIn0 : ∀ w ∈ u_ws RX0 TX0 4, w ∈ wT := mTs [283, 285, 287, 289] (by decide +kernel) (by decide +kernel)
theorem wIn1 : ∀ w ∈ u_ws RX1 TX1 9, w ∈ wT := mTs [126, 128, 130, 132, 134, 136, 138, 140, 142] (by decide +kernel) (by decide +kernel)
theorem wIn2 : ∀ w ∈ u_ws RX2 TX2 4, w ∈ wT := mTs [89, 91, 93, 95] (by decide +kernel) (by decide +kernel)
theorem wIn3 : ∀ w ∈ u_ws RX3 TX3 4, w ∈ wT := mTs [230, 232, 234, 236] (by decide +kernel) (by decide +kernel)
theorem wIn4 : ∀ w ∈ u_ws RX4 TX4 6, w ∈ wT := mTs [206, 208, 210, 212, 214, 216] (by decide +kernel) (by decide +kernel)
theorem wIn5 : ∀ w ∈ u_ws RX5 TX5 8, w ∈ wT := mTs [254, 256, 258, 260, 262, 264, 266, 268] (by decide +kernel) (by decide +kernel)
theorem wIn6 : ∀ w ∈ u_ws RX6 TX6 2, w ∈ wT := mTs [186, 188] (by decide +kernel) (by decide +kernel)
theorem wIn7 : ∀ w ∈ u_ws RX7 TX7 5, w ∈ wT := mTs [160, 162, 164, 166, 168] (by decide +kernel) (by decide +kernel)
theorem wIn8 : ∀ w ∈ u_ws RX8 TX8 11, w ∈ wT := mTs [432, 434, 436, 438, 440, 442, 444, 446, 448, 450, 452] (by decide +kernel) (by decide +kernel)
theorem wIn9 : ∀ w ∈ u_ws RX9 TX9 26, w ∈ wT := mTs [915, 917, 919, 921, 923, 925, 927, 929, 931, 933, 935, 937, 939, 941, 943, 945, 947, 949, 951, 953, 955, 957, 959, 961, 963, 965] (by decide +kernel) (by decide +kernel)
