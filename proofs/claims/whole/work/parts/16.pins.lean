theorem w_87 : Cond.fieldLink "HeartPins" 104 "HeartPins$Letters" "length" "I" ∈ wT := mT 87 (by decide +kernel) rfl
theorem w_113 : Cond.fieldLink "HeartPins" 111 "HeartPins$Family" "persons" "I" ∈ wT := mT 113 (by decide +kernel) rfl
theorem w_116 : Cond.fieldLink "HeartPins" 296 "HeartPins$Family" "pins" "I" ∈ wT := mT 116 (by decide +kernel) rfl
theorem w_118 : Cond.fieldLink "HeartPins" 157 "HeartPins$Family" "room" "I" ∈ wT := mT 118 (by decide +kernel) rfl
theorem w_121 : Cond.fieldLink "HeartPins" 160 "HeartPins$Family" "doorway" "I" ∈ wT := mT 121 (by decide +kernel) rfl
theorem w_124 : Cond.fieldLink "HeartPins" 163 "HeartPins$Family" "rhythm" "I" ∈ wT := mT 124 (by decide +kernel) rfl
theorem w_156 : Cond.fieldLink "HeartPins" 166 "HeartPins$Standing" "steps" "I" ∈ wT := mT 156 (by decide +kernel) rfl
theorem w_159 : Cond.fieldLink "HeartPins" 207 "HeartPins$Standing" "day" "I" ∈ wT := mT 159 (by decide +kernel) rfl
theorem w_185 : Cond.fieldLink "HeartPins" 214 "HeartPins$Shelf" "filled" "I" ∈ wT := mT 185 (by decide +kernel) rfl
theorem w_202 : Cond.fieldLink "HeartPins" 252 "HeartPins$Notes" "seen" "I" ∈ wT := mT 202 (by decide +kernel) rfl
theorem w_205 : Cond.fieldLink "HeartPins" 258 "HeartPins$Notes" "marked" "I" ∈ wT := mT 205 (by decide +kernel) rfl
theorem w_229 : Cond.fieldLink "HeartPins" 268 "HeartPins$Matching" "ways" "I" ∈ wT := mT 229 (by decide +kernel) rfl
theorem w_253 : Cond.fieldLink "HeartPins" 237 "HeartPins$Sharing" "least" "I" ∈ wT := mT 253 (by decide +kernel) rfl
theorem w_341 : Cond.methodLink "HeartPins" 90 ⟨"HeartPins$Letters", "add", "(C)Z"⟩ ∈ wT := mT 341 (by decide +kernel) rfl
theorem w_352 : Cond.methodLink "HeartPins" 107 ⟨"HeartPins$Letters", "readInto", "(LHeartPins$Family;)I"⟩ ∈ wT := mT 352 (by decide +kernel) rfl
theorem w_397 : Cond.methodLink "HeartPins" 114 ⟨"HeartPins$Family", "copyFrom", "(LHeartPins$Family;)V"⟩ ∈ wT := mT 397 (by decide +kernel) rfl
theorem w_401 : Cond.methodLink "HeartPins" 117 ⟨"HeartPins$Standing", "begin", "()V"⟩ ∈ wT := mT 401 (by decide +kernel) rfl
theorem w_409 : Cond.methodLink "HeartPins" 120 ⟨"HeartPins$Shelf", "clear", "()V"⟩ ∈ wT := mT 409 (by decide +kernel) rfl
theorem w_413 : Cond.methodLink "HeartPins" 121 ⟨"HeartPins$Notes", "clear", "()V"⟩ ∈ wT := mT 413 (by decide +kernel) rfl
theorem w_417 : Cond.methodLink "HeartPins" 97 ⟨"HeartPins$Letters", "clear", "()V"⟩ ∈ wT := mT 417 (by decide +kernel) rfl
theorem w_421 : Cond.fieldLink "HeartPins" 12 "HeartPins" "text" "LHeartPins$Letters;" ∈ wT := mT 421 (by decide +kernel) rfl
theorem w_422 : Cond.fieldLink "HeartPins" 19 "HeartPins" "family" "LHeartPins$Family;" ∈ wT := mT 422 (by decide +kernel) rfl
theorem w_423 : Cond.fieldLink "HeartPins" 23 "HeartPins" "draft" "LHeartPins$Family;" ∈ wT := mT 423 (by decide +kernel) rfl
theorem w_424 : Cond.fieldLink "HeartPins" 31 "HeartPins" "now" "LHeartPins$Standing;" ∈ wT := mT 424 (by decide +kernel) rfl
theorem w_425 : Cond.fieldLink "HeartPins" 35 "HeartPins" "later" "LHeartPins$Standing;" ∈ wT := mT 425 (by decide +kernel) rfl
theorem w_426 : Cond.fieldLink "HeartPins" 43 "HeartPins" "past" "LHeartPins$Shelf;" ∈ wT := mT 426 (by decide +kernel) rfl
theorem w_427 : Cond.fieldLink "HeartPins" 47 "HeartPins" "kept" "LHeartPins$Shelf;" ∈ wT := mT 427 (by decide +kernel) rfl
theorem w_428 : Cond.fieldLink "HeartPins" 53 "HeartPins" "notes" "LHeartPins$Notes;" ∈ wT := mT 428 (by decide +kernel) rfl
theorem w_429 : Cond.fieldLink "HeartPins" 60 "HeartPins" "matching" "LHeartPins$Matching;" ∈ wT := mT 429 (by decide +kernel) rfl
theorem w_430 : Cond.fieldLink "HeartPins" 67 "HeartPins" "sharing" "LHeartPins$Sharing;" ∈ wT := mT 430 (by decide +kernel) rfl
theorem w_431 : Cond.fieldLink "HeartPins" 74 "HeartPins" "badDays" "LHeartPins$BadDays;" ∈ wT := mT 431 (by decide +kernel) rfl
theorem w_460 : Cond.methodLink "HeartPins" 100 ⟨"HeartPins", "isWithin", "(III)Z"⟩ ∈ wT := mT 460 (by decide +kernel) rfl
theorem w_474 : Cond.methodLink "HeartPins" 122 ⟨"HeartPins$Family", "hasPerson", "(I)Z"⟩ ∈ wT := mT 474 (by decide +kernel) rfl
theorem w_475 : Cond.methodLink "HeartPins" 126 ⟨"HeartPins$Family", "bearableBy", "(I)I"⟩ ∈ wT := mT 475 (by decide +kernel) rfl
theorem w_479 : Cond.methodLink "HeartPins" 130 ⟨"HeartPins$Standing", "loadOf", "(I)I"⟩ ∈ wT := mT 479 (by decide +kernel) rfl
theorem w_487 : Cond.methodLink "HeartPins" 133 ⟨"HeartPins$Standing", "pinsWith", "(I)I"⟩ ∈ wT := mT 487 (by decide +kernel) rfl
theorem w_491 : Cond.methodLink "HeartPins" 136 ⟨"HeartPins$Standing", "isBroken", "(I)Z"⟩ ∈ wT := mT 491 (by decide +kernel) rfl
theorem w_501 : Cond.methodLink "HeartPins" 139 ⟨"HeartPins$Family", "hasPin", "(I)Z"⟩ ∈ wT := mT 501 (by decide +kernel) rfl
theorem w_502 : Cond.methodLink "HeartPins" 142 ⟨"HeartPins$Family", "ownerOf", "(I)I"⟩ ∈ wT := mT 502 (by decide +kernel) rfl
theorem w_506 : Cond.methodLink "HeartPins" 145 ⟨"HeartPins$Family", "kindOf", "(I)I"⟩ ∈ wT := mT 506 (by decide +kernel) rfl
theorem w_510 : Cond.methodLink "HeartPins" 148 ⟨"HeartPins$Standing", "largeOf", "(I)I"⟩ ∈ wT := mT 510 (by decide +kernel) rfl
theorem w_514 : Cond.methodLink "HeartPins" 151 ⟨"HeartPins$Standing", "whereIs", "(I)I"⟩ ∈ wT := mT 514 (by decide +kernel) rfl
theorem w_518 : Cond.methodLink "HeartPins" 154 ⟨"HeartPins", "placeNumber", "(I)I"⟩ ∈ wT := mT 518 (by decide +kernel) rfl
theorem w_525 : Cond.methodLink "HeartPins" 169 ⟨"HeartPins$Standing", "heartSum", "()I"⟩ ∈ wT := mT 525 (by decide +kernel) rfl
theorem w_529 : Cond.methodLink "HeartPins" 172 ⟨"HeartPins$Standing", "isFull", "()Z"⟩ ∈ wT := mT 529 (by decide +kernel) rfl
theorem w_534 : Cond.methodLink "HeartPins" 176 ⟨"HeartPins$Standing", "isAtDoor", "()Z"⟩ ∈ wT := mT 534 (by decide +kernel) rfl
theorem w_542 : Cond.methodLink "HeartPins" 179 ⟨"HeartPins$Standing", "canStick", "(I)Z"⟩ ∈ wT := mT 542 (by decide +kernel) rfl
theorem w_548 : Cond.methodLink "HeartPins" 182 ⟨"HeartPins$Shelf", "put", "(LHeartPins$Standing;)V"⟩ ∈ wT := mT 548 (by decide +kernel) rfl
theorem w_564 : Cond.methodLink "HeartPins" 186 ⟨"HeartPins$Standing", "stickIn", "(I)V"⟩ ∈ wT := mT 564 (by decide +kernel) rfl
theorem w_573 : Cond.methodLink "HeartPins" 190 ⟨"HeartPins$Standing", "canFeel", "(I)Z"⟩ ∈ wT := mT 573 (by decide +kernel) rfl
theorem w_577 : Cond.methodLink "HeartPins" 193 ⟨"HeartPins$Standing", "feelFor", "(II)V"⟩ ∈ wT := mT 577 (by decide +kernel) rfl
theorem w_587 : Cond.methodLink "HeartPins" 197 ⟨"HeartPins$Standing", "canGive", "(II)Z"⟩ ∈ wT := mT 587 (by decide +kernel) rfl
theorem w_591 : Cond.methodLink "HeartPins" 201 ⟨"HeartPins$Standing", "giveTo", "(II)V"⟩ ∈ wT := mT 591 (by decide +kernel) rfl
theorem w_600 : Cond.methodLink "HeartPins" 204 ⟨"HeartPins$Standing", "goDays", "(I)V"⟩ ∈ wT := mT 600 (by decide +kernel) rfl
theorem w_630 : Cond.methodLink "HeartPins" 210 ⟨"HeartPins$Shelf", "take", "(LHeartPins$Standing;)Z"⟩ ∈ wT := mT 630 (by decide +kernel) rfl
theorem w_638 : Cond.methodLink "HeartPins" 217 ⟨"HeartPins", "lookBehind", "(I)V"⟩ ∈ wT := mT 638 (by decide +kernel) rfl
theorem w_642 : Cond.methodLink "HeartPins" 220 ⟨"HeartPins$Standing", "copyFrom", "(LHeartPins$Standing;)V"⟩ ∈ wT := mT 642 (by decide +kernel) rfl
theorem w_651 : Cond.methodLink "HeartPins" 222 ⟨"HeartPins$Standing", "goDay", "()V"⟩ ∈ wT := mT 651 (by decide +kernel) rfl
theorem w_660 : Cond.methodLink "HeartPins" 225 ⟨"HeartPins", "bestSet", "(I)I"⟩ ∈ wT := mT 660 (by decide +kernel) rfl
theorem w_664 : Cond.methodLink "HeartPins" 308 ⟨"HeartPins$Standing", "borneBits", "()I"⟩ ∈ wT := mT 664 (by decide +kernel) rfl
theorem w_668 : Cond.methodLink "HeartPins" 228 ⟨"java/lang/Integer", "bitCount", "(I)I"⟩ ∈ wT := mT 668 (by decide +kernel) rfl
theorem w_674 : Cond.methodLink "HeartPins" 311 ⟨"HeartPins", "isCalmWith", "(II)Z"⟩ ∈ wT := mT 674 (by decide +kernel) rfl
theorem w_678 : Cond.methodLink "HeartPins" 314 ⟨"HeartPins$Standing", "isCalm", "()Z"⟩ ∈ wT := mT 678 (by decide +kernel) rfl
theorem w_691 : Cond.methodLink "HeartPins" 233 ⟨"HeartPins$Sharing", "find", "(LHeartPins$Standing;I)V"⟩ ∈ wT := mT 691 (by decide +kernel) rfl
theorem w_709 : Cond.methodLink "HeartPins" 240 ⟨"HeartPins$Sharing", "bearerOf", "(I)I"⟩ ∈ wT := mT 709 (by decide +kernel) rfl
theorem w_717 : Cond.methodLink "HeartPins" 243 ⟨"HeartPins$Standing", "breakingWithout", "(I)I"⟩ ∈ wT := mT 717 (by decide +kernel) rfl
theorem w_725 : Cond.methodLink "HeartPins" 246 ⟨"HeartPins$Standing", "isAbout", "(I)Z"⟩ ∈ wT := mT 725 (by decide +kernel) rfl
theorem w_733 : Cond.methodLink "HeartPins" 249 ⟨"HeartPins$Notes", "addSeen", "(III)Z"⟩ ∈ wT := mT 733 (by decide +kernel) rfl
theorem w_742 : Cond.methodLink "HeartPins" 255 ⟨"HeartPins$Notes", "addMark", "(I)Z"⟩ ∈ wT := mT 742 (by decide +kernel) rfl
theorem w_754 : Cond.methodLink "HeartPins" 261 ⟨"HeartPins$Notes", "allSeenFit", "(IIII)Z"⟩ ∈ wT := mT 754 (by decide +kernel) rfl
theorem w_766 : Cond.methodLink "HeartPins" 265 ⟨"HeartPins$Matching", "find", "(LHeartPins$Standing;LHeartPins$Notes;I)V"⟩ ∈ wT := mT 766 (by decide +kernel) rfl
theorem w_788 : Cond.methodLink "HeartPins" 271 ⟨"HeartPins$Matching", "pinMarked", "(I)I"⟩ ∈ wT := mT 788 (by decide +kernel) rfl
theorem w_796 : Cond.methodLink "HeartPins" 274 ⟨"HeartPins$BadDays", "breakingOf", "(LHeartPins$Standing;III)J"⟩ ∈ wT := mT 796 (by decide +kernel) rfl
theorem w_818 : Cond.methodLink "HeartPins" 278 ⟨"HeartPins$BadDays", "tenTo", "(I)J"⟩ ∈ wT := mT 818 (by decide +kernel) rfl
theorem w_819 : Cond.methodLink "HeartPins" 282 ⟨"HeartPins", "greatestDivisor", "(JJ)J"⟩ ∈ wT := mT 819 (by decide +kernel) rfl
theorem w_826 : Cond.methodLink "HeartPins" 286 ⟨"HeartPins", "drawOf", "(II)I"⟩ ∈ wT := mT 826 (by decide +kernel) rfl
theorem w_832 : Cond.methodLink "HeartPins" 290 ⟨"HeartPins", "actByDraw", "(LHeartPins$Standing;I)V"⟩ ∈ wT := mT 832 (by decide +kernel) rfl
theorem w_836 : Cond.methodLink "HeartPins" 293 ⟨"HeartPins$Standing", "borneSum", "()I"⟩ ∈ wT := mT 836 (by decide +kernel) rfl
theorem w_852 : Cond.methodLink "HeartPins" 299 ⟨"HeartPins$Standing", "howManyBorne", "()I"⟩ ∈ wT := mT 852 (by decide +kernel) rfl
theorem w_853 : Cond.methodLink "HeartPins" 302 ⟨"HeartPins$Standing", "howManyAt", "(I)I"⟩ ∈ wT := mT 853 (by decide +kernel) rfl
theorem w_858 : Cond.methodLink "HeartPins" 305 ⟨"HeartPins$Standing", "howManyBreak", "()I"⟩ ∈ wT := mT 858 (by decide +kernel) rfl
theorem dX8_write_0 : decode cX8_write 0 = .ok (.iload_n 1, 1) := by decide +kernel
theorem dX8_write_1 : decode cX8_write 1 = .ok (.bipush 32, 2) := by decide +kernel
theorem dX8_write_3 : decode cX8_write 3 = .ok (.bipush 126, 2) := by decide +kernel
theorem dX8_write_5 : decode cX8_write 5 = .ok (.invokestatic 100, 3) := by decide +kernel
theorem dX8_write_8 : decode cX8_write 8 = .ok (.ifCond .ne 5, 3) := by decide +kernel
theorem dX8_write_11 : decode cX8_write 11 = .ok (.iconst (-1), 1) := by decide +kernel
theorem dX8_write_12 : decode cX8_write 12 = .ok (.ireturn, 1) := by decide +kernel
theorem dX8_write_13 : decode cX8_write 13 = .ok (.aload_n 0, 1) := by decide +kernel
theorem dX8_write_14 : decode cX8_write 14 = .ok (.getfield 12, 3) := by decide +kernel
theorem dX8_write_17 : decode cX8_write 17 = .ok (.iload_n 1, 1) := by decide +kernel
theorem dX8_write_18 : decode cX8_write 18 = .ok (.i2c, 1) := by decide +kernel
theorem dX8_write_19 : decode cX8_write 19 = .ok (.invokevirtual 90, 3) := by decide +kernel
theorem dX8_write_22 : decode cX8_write 22 = .ok (.ifCond .eq 13, 3) := by decide +kernel
theorem dX8_write_25 : decode cX8_write 25 = .ok (.aload_n 0, 1) := by decide +kernel
theorem dX8_write_26 : decode cX8_write 26 = .ok (.getfield 12, 3) := by decide +kernel
theorem dX8_write_29 : decode cX8_write 29 = .ok (.getfield 104, 3) := by decide +kernel
theorem dX8_write_32 : decode cX8_write 32 = .ok (.goto 5, 3) := by decide +kernel
theorem dX8_write_35 : decode cX8_write 35 = .ok (.bipush (-3), 2) := by decide +kernel
theorem dX8_write_37 : decode cX8_write 37 = .ok (.ireturn, 1) := by decide +kernel
def f_H_write (N nx : Nat) (D : Dt) (P : Ft) (a0 : Nat) (i1 : Int32) : Option (Int32 × Dt) :=
  if kd nx a0 = 8 then
  (f_H_isWithin N nx D P i1 32 126).bind fun z1 =>
  if z1 = 0 then
    some ((-1), D)
  else
    nn (P a0 0) fun q2 =>
    if kd nx q2 = 2 then
    (f_T_add N nx D P q2 ((Int32.toUInt32 i1 % 65536).toInt32)).bind fun z3 =>
    if z3.1 = 0 then
      some ((-3), z3.2)
    else
      some (z3.2 q2 2, z3.2)
    else none
  else none
theorem m_H_write : MV yX8_write cX8_write 2 (some .int) 1 := ⟨mT 459 (by decide +kernel) rfl, mT 457 (by decide +kernel) rfl, mT 458 (by decide +kernel) rfl, mT 54 (by decide +kernel) rfl, by decide +kernel, by decide +kernel, by decide +kernel⟩
set_option maxHeartbeats 4000000 in
set_option maxRecDepth 100000 in
theorem c_H_write (l : Launch) (cx : Cx) (nx N : Nat) (D : Dt) (P : Ft) (a0 : Nat) (i1 : Int32) (z : Int32 × Dt) (h : f_H_write N nx D P a0 i1 = some z) : Ct l cx yX8_write cX8_write 2 (some .int) 2 [.ref (cx.2.2 + a0), .int i1] D P nx (some (.int z.1)) z.2 P := by
  refine x_met0 (by decide) (Nat.le_of_ble_eq_true rfl) ?_
  intro p e s m args below meth c X
  have X : XC p s m args meth c cx cX8_write 2 (some .int) "HeartPins" "write" := X
  refine XW.sub (lv' := [(0, .ref (cx.2.2 + a0)), (1, .int i1)]) [0, 1] rfl ?_
  unfold f_H_write at h
  obtain ⟨hk0, h⟩ := grd h
  refine x_iload_n (pc := 0) X dX8_write_0 (i := 1) rfl 1 rfl ?_
  refine x_bipush (v := 32) (pc := 1) X dX8_write_1 (by decide) ?_
  refine x_bipush (v := 126) (pc := 3) X dX8_write_3 (by decide) ?_
  obtain ⟨z1, e1, h⟩ := bnds h
  refine x_callS (pc := 5) (As := [.int i1, .int 32, .int 126]) (st := []) (st' := [.int z1]) X (c_H_isWithin l cx nx N D P _ _ _ z1 e1) dX8_write_5 w_460 m_H_isWithin rfl ⟨by decide, by decide⟩ ⟨Nat.zero_le _, Nat.zero_le _⟩ rfl (Nat.le_of_ble_eq_true rfl) rfl ?_
  refine x_if_ne (tgt := 13) (pc := 8) X dX8_write_8 (by decide) (fun c6 => ?_) (fun c6 => ?_)
  · have h := ite_f c6 h
    refine x_aload_n (pc := 13) X dX8_write_13 (i := 0) rfl 0 rfl ?_
    obtain ⟨q2, e2, h⟩ := nns h
    refine x_getr (ci := 8) (k := 0) (n := 11) (C := RX8) (T := TX8) (pc := 14) X dX8_write_14 hk0 rfl (by decide) w_421 rfl e2 ?_
    refine x_iload_n (pc := 17) X dX8_write_17 (i := 1) rfl 1 rfl ?_
    refine x_i2c (pc := 18) X dX8_write_18 ?_
    obtain ⟨k4, h⟩ := grd h
    obtain ⟨z3, e3, h⟩ := bnds h
    refine x_callV (pc := 19) (As := [.int ((Int32.toUInt32 i1 % 65536).toInt32)]) (st := []) (st' := [.int z3.1]) X (c_T_add l cx nx N D P _ _ z3 e3) dX8_write_19 w_341 m_T_add rfl k4 (ci := 2) rfl rfl ⟨by decide, by decide⟩ ⟨Nat.zero_le _, Nat.zero_le _⟩ rfl (Nat.le_of_ble_eq_true rfl) rfl ?_
    refine x_if_eq (tgt := 35) (pc := 22) X dX8_write_22 (by decide) (fun c5 => ?_) (fun c5 => ?_)
    · have h := ite_t c5 h
      refine x_bipush (v := (-3)) (pc := 35) X dX8_write_35 (by decide) ?_
      obtain rfl := Option.some.inj h
      exact x_iret (pc := 37) X dX8_write_37
    · have h := ite_f c5 h
      refine x_aload_n (pc := 25) X dX8_write_25 (i := 0) rfl 0 rfl ?_
      refine x_getr (ci := 8) (k := 0) (n := 11) (C := RX8) (T := TX8) (pc := 26) X dX8_write_26 hk0 rfl (by decide) w_421 rfl e2 ?_
      refine x_geti (ci := 2) (k := 2) (n := 4) (C := RX2) (T := TX2) (pc := 29) X dX8_write_29 k4 rfl (by decide) w_87 rfl ?_
      refine x_goto (tgt := 37) (pc := 32) X dX8_write_32 (by decide) ?_
      obtain rfl := Option.some.inj h
      exact x_iret (pc := 37) X dX8_write_37
  · have h := ite_t c6 h
    refine x_iconst (v := (-1)) (pc := 11) X dX8_write_11 (by decide) ?_
    obtain rfl := Option.some.inj h
    exact x_iret (pc := 12) X dX8_write_12
theorem dX8_wipe_0 : decode cX8_wipe 0 = .ok (.aload_n 0, 1) := by decide +kernel
theorem dX8_wipe_1 : decode cX8_wipe 1 = .ok (.getfield 12, 3) := by decide +kernel
theorem dX8_wipe_4 : decode cX8_wipe 4 = .ok (.getfield 104, 3) := by decide +kernel
theorem dX8_wipe_7 : decode cX8_wipe 7 = .ok (.istore_n 1, 1) := by decide +kernel
theorem dX8_wipe_8 : decode cX8_wipe 8 = .ok (.aload_n 0, 1) := by decide +kernel
theorem dX8_wipe_9 : decode cX8_wipe 9 = .ok (.getfield 12, 3) := by decide +kernel
theorem dX8_wipe_12 : decode cX8_wipe 12 = .ok (.invokevirtual 97, 3) := by decide +kernel
theorem dX8_wipe_15 : decode cX8_wipe 15 = .ok (.iload_n 1, 1) := by decide +kernel
theorem dX8_wipe_16 : decode cX8_wipe 16 = .ok (.ireturn, 1) := by decide +kernel
def f_H_wipe (N nx : Nat) (D : Dt) (P : Ft) (a0 : Nat) : Option (Int32 × Dt) :=
  if kd nx a0 = 8 then
  nn (P a0 0) fun q1 =>
  if kd nx q1 = 2 then
  (f_T_clear N nx D P q1).bind fun z3 =>
  some (D q1 2, z3)
  else none
  else none
theorem m_H_wipe : MV yX8_wipe cX8_wipe 2 (some .int) 0 := ⟨mT 464 (by decide +kernel) rfl, mT 462 (by decide +kernel) rfl, mT 463 (by decide +kernel) rfl, mT 54 (by decide +kernel) rfl, by decide +kernel, by decide +kernel, by decide +kernel⟩
set_option maxHeartbeats 4000000 in
set_option maxRecDepth 100000 in
theorem c_H_wipe (l : Launch) (cx : Cx) (nx N : Nat) (D : Dt) (P : Ft) (a0 : Nat) (z : Int32 × Dt) (h : f_H_wipe N nx D P a0 = some z) : Ct l cx yX8_wipe cX8_wipe 2 (some .int) 1 [.ref (cx.2.2 + a0)] D P nx (some (.int z.1)) z.2 P := by
  refine x_met0 (by decide) (Nat.le_of_ble_eq_true rfl) ?_
  intro p e s m args below meth c X
  have X : XC p s m args meth c cx cX8_wipe 2 (some .int) "HeartPins" "wipe" := X
  refine XW.sub (lv' := [(0, .ref (cx.2.2 + a0))]) [0] rfl ?_
  unfold f_H_wipe at h
  obtain ⟨hk0, h⟩ := grd h
  refine x_aload_n (pc := 0) X dX8_wipe_0 (i := 0) rfl 0 rfl ?_
  obtain ⟨q1, e1, h⟩ := nns h
  refine x_getr (ci := 8) (k := 0) (n := 11) (C := RX8) (T := TX8) (pc := 1) X dX8_wipe_1 hk0 rfl (by decide) w_421 rfl e1 ?_
  obtain ⟨k2, h⟩ := grd h
  refine x_geti (ci := 2) (k := 2) (n := 4) (C := RX2) (T := TX2) (pc := 4) X dX8_wipe_4 k2 rfl (by decide) w_87 rfl ?_
  refine x_istore_n (lv' := [(1, .int (D q1 2)), (0, .ref (cx.2.2 + a0))]) (pc := 7) X dX8_wipe_7 (i := 1) rfl (by decide) rfl ?_
  refine x_aload_n (pc := 8) X dX8_wipe_8 (i := 0) rfl 1 rfl ?_
  refine x_getr (ci := 8) (k := 0) (n := 11) (C := RX8) (T := TX8) (pc := 9) X dX8_wipe_9 hk0 rfl (by decide) w_421 rfl e1 ?_
  obtain ⟨z3, e3, h⟩ := bnds h
  refine x_callV (pc := 12) (As := []) (st := []) (st' := []) X (c_T_clear l cx nx N D P _ z3 e3) dX8_wipe_12 w_417 m_T_clear rfl k2 (ci := 2) rfl rfl ⟨by decide, by decide⟩ ⟨Nat.zero_le _, Nat.zero_le _⟩ rfl (Nat.le_of_ble_eq_true rfl) rfl ?_
  refine x_iload_n (pc := 15) X dX8_wipe_15 (i := 1) rfl 0 rfl ?_
  obtain rfl := Option.some.inj h
  exact x_iret (pc := 16) X dX8_wipe_16
theorem dX8_fault_0 : decode cX8_fault 0 = .ok (.aload_n 0, 1) := by decide +kernel
theorem dX8_fault_1 : decode cX8_fault 1 = .ok (.getfield 12, 3) := by decide +kernel
theorem dX8_fault_4 : decode cX8_fault 4 = .ok (.aload_n 0, 1) := by decide +kernel
theorem dX8_fault_5 : decode cX8_fault 5 = .ok (.getfield 23, 3) := by decide +kernel
theorem dX8_fault_8 : decode cX8_fault 8 = .ok (.invokevirtual 107, 3) := by decide +kernel
theorem dX8_fault_11 : decode cX8_fault 11 = .ok (.ireturn, 1) := by decide +kernel
def f_H_fault (N nx : Nat) (D : Dt) (P : Ft) (a0 : Nat) : Option (Int32 × Dt) :=
  if kd nx a0 = 8 then
  nn (P a0 0) fun q1 =>
  nn (P a0 2) fun q2 =>
  if kd nx q1 = 2 then
  (f_T_readInto N nx D P q1 q2).bind fun z3 =>
  some (z3.1, z3.2)
  else none
  else none
theorem m_H_fault : MV yX8_fault cX8_fault 1 (some .int) 0 := ⟨mT 468 (by decide +kernel) rfl, mT 466 (by decide +kernel) rfl, mT 467 (by decide +kernel) rfl, mT 54 (by decide +kernel) rfl, by decide +kernel, by decide +kernel, by decide +kernel⟩
set_option maxHeartbeats 4000000 in
set_option maxRecDepth 100000 in
theorem c_H_fault (l : Launch) (cx : Cx) (nx N : Nat) (D : Dt) (P : Ft) (a0 : Nat) (z : Int32 × Dt) (h : f_H_fault N nx D P a0 = some z) : Ct l cx yX8_fault cX8_fault 1 (some .int) 6 [.ref (cx.2.2 + a0)] D P nx (some (.int z.1)) z.2 P := by
  refine x_met0 (by decide) (Nat.le_of_ble_eq_true rfl) ?_
  intro p e s m args below meth c X
  have X : XC p s m args meth c cx cX8_fault 1 (some .int) "HeartPins" "fault" := X
  refine XW.sub (lv' := [(0, .ref (cx.2.2 + a0))]) [0] rfl ?_
  unfold f_H_fault at h
  obtain ⟨hk0, h⟩ := grd h
  refine x_aload_n (pc := 0) X dX8_fault_0 (i := 0) rfl 0 rfl ?_
  obtain ⟨q1, e1, h⟩ := nns h
  refine x_getr (ci := 8) (k := 0) (n := 11) (C := RX8) (T := TX8) (pc := 1) X dX8_fault_1 hk0 rfl (by decide) w_421 rfl e1 ?_
  refine x_aload_n (pc := 4) X dX8_fault_4 (i := 0) rfl 0 rfl ?_
  obtain ⟨q2, e2, h⟩ := nns h
  refine x_getr (ci := 8) (k := 2) (n := 11) (C := RX8) (T := TX8) (pc := 5) X dX8_fault_5 hk0 rfl (by decide) w_423 rfl e2 ?_
  obtain ⟨k4, h⟩ := grd h
  obtain ⟨z3, e3, h⟩ := bnds h
  refine x_callV (pc := 8) (As := [.ref (cx.2.2 + q2)]) (st := []) (st' := [.int z3.1]) X (c_T_readInto l cx nx N D P _ _ z3 e3) dX8_fault_8 w_352 m_T_readInto rfl k4 (ci := 2) rfl rfl ⟨by decide, by decide⟩ ⟨Nat.zero_le _, Nat.zero_le _⟩ rfl (Nat.le_of_ble_eq_true rfl) rfl ?_
  obtain rfl := Option.some.inj h
  exact x_iret (pc := 11) X dX8_fault_11
theorem dX8_lay_0 : decode cX8_lay 0 = .ok (.aload_n 0, 1) := by decide +kernel
theorem dX8_lay_1 : decode cX8_lay 1 = .ok (.getfield 12, 3) := by decide +kernel
theorem dX8_lay_4 : decode cX8_lay 4 = .ok (.aload_n 0, 1) := by decide +kernel
theorem dX8_lay_5 : decode cX8_lay 5 = .ok (.getfield 23, 3) := by decide +kernel
theorem dX8_lay_8 : decode cX8_lay 8 = .ok (.invokevirtual 107, 3) := by decide +kernel
theorem dX8_lay_11 : decode cX8_lay 11 = .ok (.bipush (-4), 2) := by decide +kernel
theorem dX8_lay_13 : decode cX8_lay 13 = .ok (.if_icmp .ne 14, 3) := by decide +kernel
theorem dX8_lay_16 : decode cX8_lay 16 = .ok (.aload_n 0, 1) := by decide +kernel
theorem dX8_lay_17 : decode cX8_lay 17 = .ok (.getfield 23, 3) := by decide +kernel
theorem dX8_lay_20 : decode cX8_lay 20 = .ok (.getfield 111, 3) := by decide +kernel
theorem dX8_lay_23 : decode cX8_lay 23 = .ok (.iconst 1, 1) := by decide +kernel
theorem dX8_lay_24 : decode cX8_lay 24 = .ok (.if_icmp .ge 6, 3) := by decide +kernel
theorem dX8_lay_27 : decode cX8_lay 27 = .ok (.bipush (-2), 2) := by decide +kernel
theorem dX8_lay_29 : decode cX8_lay 29 = .ok (.ireturn, 1) := by decide +kernel
theorem dX8_lay_30 : decode cX8_lay 30 = .ok (.aload_n 0, 1) := by decide +kernel
theorem dX8_lay_31 : decode cX8_lay 31 = .ok (.getfield 19, 3) := by decide +kernel
theorem dX8_lay_34 : decode cX8_lay 34 = .ok (.aload_n 0, 1) := by decide +kernel
theorem dX8_lay_35 : decode cX8_lay 35 = .ok (.getfield 23, 3) := by decide +kernel
theorem dX8_lay_38 : decode cX8_lay 38 = .ok (.invokevirtual 114, 3) := by decide +kernel
theorem dX8_lay_41 : decode cX8_lay 41 = .ok (.aload_n 0, 1) := by decide +kernel
theorem dX8_lay_42 : decode cX8_lay 42 = .ok (.getfield 31, 3) := by decide +kernel
theorem dX8_lay_45 : decode cX8_lay 45 = .ok (.invokevirtual 117, 3) := by decide +kernel
theorem dX8_lay_48 : decode cX8_lay 48 = .ok (.aload_n 0, 1) := by decide +kernel
theorem dX8_lay_49 : decode cX8_lay 49 = .ok (.getfield 43, 3) := by decide +kernel
theorem dX8_lay_52 : decode cX8_lay 52 = .ok (.invokevirtual 120, 3) := by decide +kernel
theorem dX8_lay_55 : decode cX8_lay 55 = .ok (.aload_n 0, 1) := by decide +kernel
theorem dX8_lay_56 : decode cX8_lay 56 = .ok (.getfield 47, 3) := by decide +kernel
theorem dX8_lay_59 : decode cX8_lay 59 = .ok (.invokevirtual 120, 3) := by decide +kernel
theorem dX8_lay_62 : decode cX8_lay 62 = .ok (.aload_n 0, 1) := by decide +kernel
theorem dX8_lay_63 : decode cX8_lay 63 = .ok (.getfield 53, 3) := by decide +kernel
theorem dX8_lay_66 : decode cX8_lay 66 = .ok (.invokevirtual 121, 3) := by decide +kernel
theorem dX8_lay_69 : decode cX8_lay 69 = .ok (.aload_n 0, 1) := by decide +kernel
theorem dX8_lay_70 : decode cX8_lay 70 = .ok (.getfield 19, 3) := by decide +kernel
theorem dX8_lay_73 : decode cX8_lay 73 = .ok (.getfield 111, 3) := by decide +kernel
theorem dX8_lay_76 : decode cX8_lay 76 = .ok (.ireturn, 1) := by decide +kernel
def f_H_lay (N nx : Nat) (D : Dt) (P : Ft) (a0 : Nat) : Option (Int32 × Dt) :=
  if kd nx a0 = 8 then
  nn (P a0 0) fun q1 =>
  nn (P a0 2) fun q2 =>
  if kd nx q1 = 2 then
  (f_T_readInto N nx D P q1 q2).bind fun z3 =>
  if z3.1 = (-4) then
    if kd nx q2 = 1 then
    if 1 ≤ z3.2 q2 4 then
      nn (P a0 1) fun q6 =>
      if kd nx q6 = 1 then
      (f_F_copyFrom N nx z3.2 P q6 q2).bind fun z7 =>
      nn (P a0 3) fun q9 =>
      if kd nx q9 = 7 then
      (f_C_begin N nx z7 P q9).bind fun z10 =>
      nn (P a0 5) fun q12 =>
      if kd nx q12 = 6 then
      (f_S_clear N nx z10 P q12).bind fun z13 =>
      nn (P a0 6) fun q15 =>
      if kd nx q15 = 6 then
      (f_S_clear N nx z13 P q15).bind fun z16 =>
      nn (P a0 7) fun q18 =>
      if kd nx q18 = 4 then
      (f_N_clear N nx z16 P q18).bind fun z19 =>
      some (z19 q6 4, z19)
      else none
      else none
      else none
      else none
      else none
    else
      some ((-2), z3.2)
    else none
  else
    some ((-2), z3.2)
  else none
  else none
theorem m_H_lay : MV yX8_lay cX8_lay 1 (some .int) 0 := ⟨mT 351 (by decide +kernel) rfl, mT 349 (by decide +kernel) rfl, mT 350 (by decide +kernel) rfl, mT 54 (by decide +kernel) rfl, by decide +kernel, by decide +kernel, by decide +kernel⟩
set_option maxHeartbeats 4000000 in
set_option maxRecDepth 100000 in
theorem c_H_lay (l : Launch) (cx : Cx) (nx N : Nat) (D : Dt) (P : Ft) (a0 : Nat) (z : Int32 × Dt) (h : f_H_lay N nx D P a0 = some z) : Ct l cx yX8_lay cX8_lay 1 (some .int) 6 [.ref (cx.2.2 + a0)] D P nx (some (.int z.1)) z.2 P := by
  refine x_met0 (by decide) (Nat.le_of_ble_eq_true rfl) ?_
  intro p e s m args below meth c X
  have X : XC p s m args meth c cx cX8_lay 1 (some .int) "HeartPins" "lay" := X
  refine XW.sub (lv' := [(0, .ref (cx.2.2 + a0))]) [0] rfl ?_
  unfold f_H_lay at h
  obtain ⟨hk0, h⟩ := grd h
  refine x_aload_n (pc := 0) X dX8_lay_0 (i := 0) rfl 0 rfl ?_
  obtain ⟨q1, e1, h⟩ := nns h
  refine x_getr (ci := 8) (k := 0) (n := 11) (C := RX8) (T := TX8) (pc := 1) X dX8_lay_1 hk0 rfl (by decide) w_421 rfl e1 ?_
  refine x_aload_n (pc := 4) X dX8_lay_4 (i := 0) rfl 0 rfl ?_
  obtain ⟨q2, e2, h⟩ := nns h
  refine x_getr (ci := 8) (k := 2) (n := 11) (C := RX8) (T := TX8) (pc := 5) X dX8_lay_5 hk0 rfl (by decide) w_423 rfl e2 ?_
  obtain ⟨k4, h⟩ := grd h
  obtain ⟨z3, e3, h⟩ := bnds h
  refine x_callV (pc := 8) (As := [.ref (cx.2.2 + q2)]) (st := []) (st' := [.int z3.1]) X (c_T_readInto l cx nx N D P _ _ z3 e3) dX8_lay_8 w_352 m_T_readInto rfl k4 (ci := 2) rfl rfl ⟨by decide, by decide⟩ ⟨Nat.zero_le _, Nat.zero_le _⟩ rfl (Nat.le_of_ble_eq_true rfl) rfl ?_
  refine x_bipush (v := (-4)) (pc := 11) X dX8_lay_11 (by decide) ?_
  refine x_icmp_ne (tgt := 27) (pc := 13) X dX8_lay_13 (by decide) (fun c22 => ?_) (fun c22 => ?_)
  · have h := ite_f c22 h
    refine x_bipush (v := (-2)) (pc := 27) X dX8_lay_27 (by decide) ?_
    obtain rfl := Option.some.inj h
    exact x_iret (pc := 29) X dX8_lay_29
  · have h := ite_t c22 h
    refine x_aload_n (pc := 16) X dX8_lay_16 (i := 0) rfl 0 rfl ?_
    refine x_getr (ci := 8) (k := 2) (n := 11) (C := RX8) (T := TX8) (pc := 17) X dX8_lay_17 hk0 rfl (by decide) w_423 rfl e2 ?_
    obtain ⟨k5, h⟩ := grd h
    refine x_geti (ci := 1) (k := 4) (n := 9) (C := RX1) (T := TX1) (pc := 20) X dX8_lay_20 k5 rfl (by decide) w_113 rfl ?_
    refine x_iconst (v := 1) (pc := 23) X dX8_lay_23 (by decide) ?_
    refine x_icmp_ge (tgt := 30) (pc := 24) X dX8_lay_24 (by decide) (fun c21 => ?_) (fun c21 => ?_)
    · have h := ite_t c21 h
      refine x_aload_n (pc := 30) X dX8_lay_30 (i := 0) rfl 0 rfl ?_
      obtain ⟨q6, e6, h⟩ := nns h
      refine x_getr (ci := 8) (k := 1) (n := 11) (C := RX8) (T := TX8) (pc := 31) X dX8_lay_31 hk0 rfl (by decide) w_422 rfl e6 ?_
      refine x_aload_n (pc := 34) X dX8_lay_34 (i := 0) rfl 0 rfl ?_
      refine x_getr (ci := 8) (k := 2) (n := 11) (C := RX8) (T := TX8) (pc := 35) X dX8_lay_35 hk0 rfl (by decide) w_423 rfl e2 ?_
      obtain ⟨k8, h⟩ := grd h
      obtain ⟨z7, e7, h⟩ := bnds h
      refine x_callV (pc := 38) (As := [.ref (cx.2.2 + q2)]) (st := []) (st' := []) X (c_F_copyFrom l cx nx N z3.2 P _ _ z7 e7) dX8_lay_38 w_397 m_F_copyFrom rfl k8 (ci := 1) rfl rfl ⟨by decide, by decide⟩ ⟨Nat.zero_le _, Nat.zero_le _⟩ rfl (Nat.le_of_ble_eq_true rfl) rfl ?_
      refine x_aload_n (pc := 41) X dX8_lay_41 (i := 0) rfl 0 rfl ?_
      obtain ⟨q9, e9, h⟩ := nns h
      refine x_getr (ci := 8) (k := 3) (n := 11) (C := RX8) (T := TX8) (pc := 42) X dX8_lay_42 hk0 rfl (by decide) w_424 rfl e9 ?_
      obtain ⟨k11, h⟩ := grd h
      obtain ⟨z10, e10, h⟩ := bnds h
      refine x_callV (pc := 45) (As := []) (st := []) (st' := []) X (c_C_begin l cx nx N z7 P _ z10 e10) dX8_lay_45 w_401 m_C_begin rfl k11 (ci := 7) rfl rfl ⟨by decide, by decide⟩ ⟨Nat.zero_le _, Nat.zero_le _⟩ rfl (Nat.le_of_ble_eq_true rfl) rfl ?_
      refine x_aload_n (pc := 48) X dX8_lay_48 (i := 0) rfl 0 rfl ?_
      obtain ⟨q12, e12, h⟩ := nns h
      refine x_getr (ci := 8) (k := 5) (n := 11) (C := RX8) (T := TX8) (pc := 49) X dX8_lay_49 hk0 rfl (by decide) w_426 rfl e12 ?_
      obtain ⟨k14, h⟩ := grd h
      obtain ⟨z13, e13, h⟩ := bnds h
      refine x_callV (pc := 52) (As := []) (st := []) (st' := []) X (c_S_clear l cx nx N z10 P _ z13 e13) dX8_lay_52 w_409 m_S_clear rfl k14 (ci := 6) rfl rfl ⟨by decide, by decide⟩ ⟨Nat.zero_le _, Nat.zero_le _⟩ rfl (Nat.le_of_ble_eq_true rfl) rfl ?_
      refine x_aload_n (pc := 55) X dX8_lay_55 (i := 0) rfl 0 rfl ?_
      obtain ⟨q15, e15, h⟩ := nns h
      refine x_getr (ci := 8) (k := 6) (n := 11) (C := RX8) (T := TX8) (pc := 56) X dX8_lay_56 hk0 rfl (by decide) w_427 rfl e15 ?_
      obtain ⟨k17, h⟩ := grd h
      obtain ⟨z16, e16, h⟩ := bnds h
      refine x_callV (pc := 59) (As := []) (st := []) (st' := []) X (c_S_clear l cx nx N z13 P _ z16 e16) dX8_lay_59 w_409 m_S_clear rfl k17 (ci := 6) rfl rfl ⟨by decide, by decide⟩ ⟨Nat.zero_le _, Nat.zero_le _⟩ rfl (Nat.le_of_ble_eq_true rfl) rfl ?_
      refine x_aload_n (pc := 62) X dX8_lay_62 (i := 0) rfl 0 rfl ?_
      obtain ⟨q18, e18, h⟩ := nns h
      refine x_getr (ci := 8) (k := 7) (n := 11) (C := RX8) (T := TX8) (pc := 63) X dX8_lay_63 hk0 rfl (by decide) w_428 rfl e18 ?_
      obtain ⟨k20, h⟩ := grd h
      obtain ⟨z19, e19, h⟩ := bnds h
      refine x_callV (pc := 66) (As := []) (st := []) (st' := []) X (c_N_clear l cx nx N z16 P _ z19 e19) dX8_lay_66 w_413 m_N_clear rfl k20 (ci := 4) rfl rfl ⟨by decide, by decide⟩ ⟨Nat.zero_le _, Nat.zero_le _⟩ rfl (Nat.le_of_ble_eq_true rfl) rfl ?_
      refine x_aload_n (pc := 69) X dX8_lay_69 (i := 0) rfl 0 rfl ?_
      refine x_getr (ci := 8) (k := 1) (n := 11) (C := RX8) (T := TX8) (pc := 70) X dX8_lay_70 hk0 rfl (by decide) w_422 rfl e6 ?_
      refine x_geti (ci := 1) (k := 4) (n := 9) (C := RX1) (T := TX1) (pc := 73) X dX8_lay_73 k8 rfl (by decide) w_113 rfl ?_
      obtain rfl := Option.some.inj h
      exact x_iret (pc := 76) X dX8_lay_76
    · have h := ite_f c21 h
      refine x_bipush (v := (-2)) (pc := 27) X dX8_lay_27 (by decide) ?_
      obtain rfl := Option.some.inj h
      exact x_iret (pc := 29) X dX8_lay_29
theorem dX8_person_0 : decode cX8_person 0 = .ok (.aload_n 0, 1) := by decide +kernel
theorem dX8_person_1 : decode cX8_person 1 = .ok (.getfield 19, 3) := by decide +kernel
theorem dX8_person_4 : decode cX8_person 4 = .ok (.iload_n 1, 1) := by decide +kernel
theorem dX8_person_5 : decode cX8_person 5 = .ok (.invokevirtual 122, 3) := by decide +kernel
theorem dX8_person_8 : decode cX8_person 8 = .ok (.ifCond .ne 5, 3) := by decide +kernel
theorem dX8_person_11 : decode cX8_person 11 = .ok (.iconst (-1), 1) := by decide +kernel
theorem dX8_person_12 : decode cX8_person 12 = .ok (.ireturn, 1) := by decide +kernel
theorem dX8_person_13 : decode cX8_person 13 = .ok (.iload_n 2, 1) := by decide +kernel
theorem dX8_person_14 : decode cX8_person 14 = .ok (.tableswitch 74 0 3 #[30, 39, 48, 57], 30) := by decide +kernel
theorem dX8_person_44 : decode cX8_person 44 = .ok (.aload_n 0, 1) := by decide +kernel
theorem dX8_person_45 : decode cX8_person 45 = .ok (.getfield 19, 3) := by decide +kernel
theorem dX8_person_48 : decode cX8_person 48 = .ok (.iload_n 1, 1) := by decide +kernel
theorem dX8_person_49 : decode cX8_person 49 = .ok (.invokevirtual 126, 3) := by decide +kernel
theorem dX8_person_52 : decode cX8_person 52 = .ok (.ireturn, 1) := by decide +kernel
theorem dX8_person_53 : decode cX8_person 53 = .ok (.aload_n 0, 1) := by decide +kernel
theorem dX8_person_54 : decode cX8_person 54 = .ok (.getfield 31, 3) := by decide +kernel
theorem dX8_person_57 : decode cX8_person 57 = .ok (.iload_n 1, 1) := by decide +kernel
theorem dX8_person_58 : decode cX8_person 58 = .ok (.invokevirtual 130, 3) := by decide +kernel
theorem dX8_person_61 : decode cX8_person 61 = .ok (.ireturn, 1) := by decide +kernel
theorem dX8_person_62 : decode cX8_person 62 = .ok (.aload_n 0, 1) := by decide +kernel
theorem dX8_person_63 : decode cX8_person 63 = .ok (.getfield 31, 3) := by decide +kernel
theorem dX8_person_66 : decode cX8_person 66 = .ok (.iload_n 1, 1) := by decide +kernel
theorem dX8_person_67 : decode cX8_person 67 = .ok (.invokevirtual 133, 3) := by decide +kernel
theorem dX8_person_70 : decode cX8_person 70 = .ok (.ireturn, 1) := by decide +kernel
theorem dX8_person_71 : decode cX8_person 71 = .ok (.aload_n 0, 1) := by decide +kernel
theorem dX8_person_72 : decode cX8_person 72 = .ok (.getfield 31, 3) := by decide +kernel
theorem dX8_person_75 : decode cX8_person 75 = .ok (.iload_n 1, 1) := by decide +kernel
theorem dX8_person_76 : decode cX8_person 76 = .ok (.invokevirtual 136, 3) := by decide +kernel
theorem dX8_person_79 : decode cX8_person 79 = .ok (.ifCond .eq 7, 3) := by decide +kernel
theorem dX8_person_82 : decode cX8_person 82 = .ok (.iconst 1, 1) := by decide +kernel
theorem dX8_person_83 : decode cX8_person 83 = .ok (.goto 4, 3) := by decide +kernel
theorem dX8_person_86 : decode cX8_person 86 = .ok (.iconst 0, 1) := by decide +kernel
theorem dX8_person_87 : decode cX8_person 87 = .ok (.ireturn, 1) := by decide +kernel
theorem dX8_person_88 : decode cX8_person 88 = .ok (.iconst (-1), 1) := by decide +kernel
theorem dX8_person_89 : decode cX8_person 89 = .ok (.ireturn, 1) := by decide +kernel
def f_H_person (N nx : Nat) (D : Dt) (P : Ft) (a0 : Nat) (i1 : Int32) (i2 : Int32) : Option Int32 :=
  if kd nx a0 = 8 then
  nn (P a0 1) fun q1 =>
  if kd nx q1 = 1 then
  (f_F_hasPerson N nx D P q1 i1).bind fun z2 =>
  if z2 = 0 then
    some (-1)
  else
    if i2 = 0 then
      (f_F_bearableBy N nx D P q1 i1).bind fun z4 =>
      some z4
    else
      if i2 = 1 then
        nn (P a0 3) fun q5 =>
        if kd nx q5 = 7 then
        (f_C_loadOf N nx D P q5 i1).bind fun z6 =>
        some z6
        else none
      else
        if i2 = 2 then
          nn (P a0 3) fun q8 =>
          if kd nx q8 = 7 then
          (f_C_pinsWith N nx D P q8 i1).bind fun z9 =>
          some z9
          else none
        else
          if i2 = 3 then
            nn (P a0 3) fun q11 =>
            if kd nx q11 = 7 then
            (f_C_isBroken N nx D P q11 i1).bind fun z12 =>
            if z12 = 0 then
              some 0
            else
              some 1
            else none
          else
            some (-1)
  else none
  else none
theorem m_H_person : MV yX8_person cX8_person 3 (some .int) 2 := ⟨mT 473 (by decide +kernel) rfl, mT 471 (by decide +kernel) rfl, mT 472 (by decide +kernel) rfl, mT 54 (by decide +kernel) rfl, by decide +kernel, by decide +kernel, by decide +kernel⟩
set_option maxHeartbeats 4000000 in
set_option maxRecDepth 100000 in
theorem c_H_person (l : Launch) (cx : Cx) (nx N : Nat) (D : Dt) (P : Ft) (a0 : Nat) (i1 : Int32) (i2 : Int32) (z : Int32) (h : f_H_person N nx D P a0 i1 i2 = some z) : Ct l cx yX8_person cX8_person 3 (some .int) 3 [.ref (cx.2.2 + a0), .int i1, .int i2] D P nx (some (.int z)) D P := by
  refine x_met0 (by decide) (Nat.le_of_ble_eq_true rfl) ?_
  intro p e s m args below meth c X
  have X : XC p s m args meth c cx cX8_person 3 (some .int) "HeartPins" "person" := X
  refine XW.sub (lv' := [(0, .ref (cx.2.2 + a0)), (1, .int i1), (2, .int i2)]) [0, 1, 2] rfl ?_
  unfold f_H_person at h
  obtain ⟨hk0, h⟩ := grd h
  refine x_aload_n (pc := 0) X dX8_person_0 (i := 0) rfl 0 rfl ?_
  obtain ⟨q1, e1, h⟩ := nns h
  refine x_getr (ci := 8) (k := 1) (n := 11) (C := RX8) (T := TX8) (pc := 1) X dX8_person_1 hk0 rfl (by decide) w_422 rfl e1 ?_
  refine x_iload_n (pc := 4) X dX8_person_4 (i := 1) rfl 1 rfl ?_
  obtain ⟨k3, h⟩ := grd h
  obtain ⟨z2, e2, h⟩ := bnds h
  refine x_callV (pc := 5) (As := [.int i1]) (st := []) (st' := [.int z2]) X (c_F_hasPerson l cx nx N D P _ _ z2 e2) dX8_person_5 w_474 m_F_hasPerson rfl k3 (ci := 1) rfl rfl ⟨by decide, by decide⟩ ⟨Nat.zero_le _, Nat.zero_le _⟩ rfl (Nat.le_of_ble_eq_true rfl) rfl ?_
  refine x_if_ne (tgt := 13) (pc := 8) X dX8_person_8 (by decide) (fun c16 => ?_) (fun c16 => ?_)
  · have h := ite_f c16 h
    refine x_iload_n (pc := 13) X dX8_person_13 (i := 2) rfl 2 rfl ?_
    by_cases cs14_0 : i2 = 0
    · have h := ite_t cs14_0 h
      refine x_tsw (off := 30) (tgt := 44) (pc := 14) X 0 dX8_person_14 cs14_0 (by decide) (by decide) (by decide) (by decide) ?_
      refine x_aload_n (pc := 44) X dX8_person_44 (i := 0) rfl 0 rfl ?_
      refine x_getr (ci := 8) (k := 1) (n := 11) (C := RX8) (T := TX8) (pc := 45) X dX8_person_45 hk0 rfl (by decide) w_422 rfl e1 ?_
      refine x_iload_n (pc := 48) X dX8_person_48 (i := 1) rfl 1 rfl ?_
      obtain ⟨z4, e4, h⟩ := bnds h
      refine x_callV (pc := 49) (As := [.int i1]) (st := []) (st' := [.int z4]) X (c_F_bearableBy l cx nx N D P _ _ z4 e4) dX8_person_49 w_475 m_F_bearableBy rfl k3 (ci := 1) rfl rfl ⟨by decide, by decide⟩ ⟨Nat.zero_le _, Nat.zero_le _⟩ rfl (Nat.le_of_ble_eq_true rfl) rfl ?_
      obtain rfl := Option.some.inj h
      exact x_iret (pc := 52) X dX8_person_52
    · have h := ite_f cs14_0 h
      by_cases cs14_1 : i2 = 1
      · have h := ite_t cs14_1 h
        refine x_tsw (off := 39) (tgt := 53) (pc := 14) X 1 dX8_person_14 cs14_1 (by decide) (by decide) (by decide) (by decide) ?_
        refine x_aload_n (pc := 53) X dX8_person_53 (i := 0) rfl 0 rfl ?_
        obtain ⟨q5, e5, h⟩ := nns h
        refine x_getr (ci := 8) (k := 3) (n := 11) (C := RX8) (T := TX8) (pc := 54) X dX8_person_54 hk0 rfl (by decide) w_424 rfl e5 ?_
        refine x_iload_n (pc := 57) X dX8_person_57 (i := 1) rfl 1 rfl ?_
        obtain ⟨k7, h⟩ := grd h
        obtain ⟨z6, e6, h⟩ := bnds h
        refine x_callV (pc := 58) (As := [.int i1]) (st := []) (st' := [.int z6]) X (c_C_loadOf l cx nx N D P _ _ z6 e6) dX8_person_58 w_479 m_C_loadOf rfl k7 (ci := 7) rfl rfl ⟨by decide, by decide⟩ ⟨Nat.zero_le _, Nat.zero_le _⟩ rfl (Nat.le_of_ble_eq_true rfl) rfl ?_
        obtain rfl := Option.some.inj h
        exact x_iret (pc := 61) X dX8_person_61
      · have h := ite_f cs14_1 h
        by_cases cs14_2 : i2 = 2
        · have h := ite_t cs14_2 h
          refine x_tsw (off := 48) (tgt := 62) (pc := 14) X 2 dX8_person_14 cs14_2 (by decide) (by decide) (by decide) (by decide) ?_
          refine x_aload_n (pc := 62) X dX8_person_62 (i := 0) rfl 0 rfl ?_
          obtain ⟨q8, e8, h⟩ := nns h
          refine x_getr (ci := 8) (k := 3) (n := 11) (C := RX8) (T := TX8) (pc := 63) X dX8_person_63 hk0 rfl (by decide) w_424 rfl e8 ?_
          refine x_iload_n (pc := 66) X dX8_person_66 (i := 1) rfl 1 rfl ?_
          obtain ⟨k10, h⟩ := grd h
          obtain ⟨z9, e9, h⟩ := bnds h
          refine x_callV (pc := 67) (As := [.int i1]) (st := []) (st' := [.int z9]) X (c_C_pinsWith l cx nx N D P _ _ z9 e9) dX8_person_67 w_487 m_C_pinsWith rfl k10 (ci := 7) rfl rfl ⟨by decide, by decide⟩ ⟨Nat.zero_le _, Nat.zero_le _⟩ rfl (Nat.le_of_ble_eq_true rfl) rfl ?_
          obtain rfl := Option.some.inj h
          exact x_iret (pc := 70) X dX8_person_70
        · have h := ite_f cs14_2 h
          by_cases cs14_3 : i2 = 3
          · have h := ite_t cs14_3 h
            refine x_tsw (off := 57) (tgt := 71) (pc := 14) X 3 dX8_person_14 cs14_3 (by decide) (by decide) (by decide) (by decide) ?_
            refine x_aload_n (pc := 71) X dX8_person_71 (i := 0) rfl 0 rfl ?_
            obtain ⟨q11, e11, h⟩ := nns h
            refine x_getr (ci := 8) (k := 3) (n := 11) (C := RX8) (T := TX8) (pc := 72) X dX8_person_72 hk0 rfl (by decide) w_424 rfl e11 ?_
            refine x_iload_n (pc := 75) X dX8_person_75 (i := 1) rfl 1 rfl ?_
            obtain ⟨k13, h⟩ := grd h
            obtain ⟨z12, e12, h⟩ := bnds h
            refine x_callV (pc := 76) (As := [.int i1]) (st := []) (st' := [.int z12]) X (c_C_isBroken l cx nx N D P _ _ z12 e12) dX8_person_76 w_491 m_C_isBroken rfl k13 (ci := 7) rfl rfl ⟨by decide, by decide⟩ ⟨Nat.zero_le _, Nat.zero_le _⟩ rfl (Nat.le_of_ble_eq_true rfl) rfl ?_
            refine x_if_eq (tgt := 86) (pc := 79) X dX8_person_79 (by decide) (fun c14 => ?_) (fun c14 => ?_)
            · have h := ite_t c14 h
              refine x_iconst (v := 0) (pc := 86) X dX8_person_86 (by decide) ?_
              obtain rfl := Option.some.inj h
              exact x_iret (pc := 87) X dX8_person_87
            · have h := ite_f c14 h
              refine x_iconst (v := 1) (pc := 82) X dX8_person_82 (by decide) ?_
              refine x_goto (tgt := 87) (pc := 83) X dX8_person_83 (by decide) ?_
              obtain rfl := Option.some.inj h
              exact x_iret (pc := 87) X dX8_person_87
          · have h := ite_f cs14_3 h
            refine x_tswd (tgt := 88) (pc := 14) X dX8_person_14 (sw_outg (lo := 0) (n := 4) (by decide) (by decide) rfl (fun k hk => ?_)) (by decide) ?_
            · rcases (show k = 0 ∨ k = 1 ∨ k = 2 ∨ k = 3 by omega) with rfl | rfl | rfl | rfl
              · exact fun y => cs14_0 (y.trans (by decide))
              · exact fun y => cs14_1 (y.trans (by decide))
              · exact fun y => cs14_2 (y.trans (by decide))
              · exact fun y => cs14_3 (y.trans (by decide))
            · refine x_iconst (v := (-1)) (pc := 88) X dX8_person_88 (by decide) ?_
              obtain rfl := Option.some.inj h
              exact x_iret (pc := 89) X dX8_person_89
  · have h := ite_t c16 h
    refine x_iconst (v := (-1)) (pc := 11) X dX8_person_11 (by decide) ?_
    obtain rfl := Option.some.inj h
    exact x_iret (pc := 12) X dX8_person_12
theorem dX8_pin_0 : decode cX8_pin 0 = .ok (.aload_n 0, 1) := by decide +kernel
theorem dX8_pin_1 : decode cX8_pin 1 = .ok (.getfield 19, 3) := by decide +kernel
theorem dX8_pin_4 : decode cX8_pin 4 = .ok (.iload_n 1, 1) := by decide +kernel
theorem dX8_pin_5 : decode cX8_pin 5 = .ok (.invokevirtual 139, 3) := by decide +kernel
theorem dX8_pin_8 : decode cX8_pin 8 = .ok (.ifCond .ne 5, 3) := by decide +kernel
theorem dX8_pin_11 : decode cX8_pin 11 = .ok (.iconst (-1), 1) := by decide +kernel
theorem dX8_pin_12 : decode cX8_pin 12 = .ok (.ireturn, 1) := by decide +kernel
theorem dX8_pin_13 : decode cX8_pin 13 = .ok (.iload_n 2, 1) := by decide +kernel
theorem dX8_pin_14 : decode cX8_pin 14 = .ok (.tableswitch 98 0 4 #[34, 43, 52, 61, 73], 34) := by decide +kernel
theorem dX8_pin_48 : decode cX8_pin 48 = .ok (.aload_n 0, 1) := by decide +kernel
theorem dX8_pin_49 : decode cX8_pin 49 = .ok (.getfield 19, 3) := by decide +kernel
theorem dX8_pin_52 : decode cX8_pin 52 = .ok (.iload_n 1, 1) := by decide +kernel
theorem dX8_pin_53 : decode cX8_pin 53 = .ok (.invokevirtual 142, 3) := by decide +kernel
theorem dX8_pin_56 : decode cX8_pin 56 = .ok (.ireturn, 1) := by decide +kernel
theorem dX8_pin_57 : decode cX8_pin 57 = .ok (.aload_n 0, 1) := by decide +kernel
theorem dX8_pin_58 : decode cX8_pin 58 = .ok (.getfield 19, 3) := by decide +kernel
theorem dX8_pin_61 : decode cX8_pin 61 = .ok (.iload_n 1, 1) := by decide +kernel
theorem dX8_pin_62 : decode cX8_pin 62 = .ok (.invokevirtual 145, 3) := by decide +kernel
theorem dX8_pin_65 : decode cX8_pin 65 = .ok (.ireturn, 1) := by decide +kernel
theorem dX8_pin_66 : decode cX8_pin 66 = .ok (.aload_n 0, 1) := by decide +kernel
theorem dX8_pin_67 : decode cX8_pin 67 = .ok (.getfield 31, 3) := by decide +kernel
theorem dX8_pin_70 : decode cX8_pin 70 = .ok (.iload_n 1, 1) := by decide +kernel
theorem dX8_pin_71 : decode cX8_pin 71 = .ok (.invokevirtual 148, 3) := by decide +kernel
theorem dX8_pin_74 : decode cX8_pin 74 = .ok (.ireturn, 1) := by decide +kernel
theorem dX8_pin_75 : decode cX8_pin 75 = .ok (.aload_n 0, 1) := by decide +kernel
theorem dX8_pin_76 : decode cX8_pin 76 = .ok (.getfield 31, 3) := by decide +kernel
theorem dX8_pin_79 : decode cX8_pin 79 = .ok (.iload_n 1, 1) := by decide +kernel
theorem dX8_pin_80 : decode cX8_pin 80 = .ok (.invokevirtual 151, 3) := by decide +kernel
theorem dX8_pin_83 : decode cX8_pin 83 = .ok (.invokestatic 154, 3) := by decide +kernel
theorem dX8_pin_86 : decode cX8_pin 86 = .ok (.ireturn, 1) := by decide +kernel
theorem dX8_pin_87 : decode cX8_pin 87 = .ok (.aload_n 0, 1) := by decide +kernel
theorem dX8_pin_88 : decode cX8_pin 88 = .ok (.getfield 31, 3) := by decide +kernel
theorem dX8_pin_91 : decode cX8_pin 91 = .ok (.iload_n 1, 1) := by decide +kernel
theorem dX8_pin_92 : decode cX8_pin 92 = .ok (.invokevirtual 151, 3) := by decide +kernel
theorem dX8_pin_95 : decode cX8_pin 95 = .ok (.ifCond .lt 14, 3) := by decide +kernel
theorem dX8_pin_98 : decode cX8_pin 98 = .ok (.aload_n 0, 1) := by decide +kernel
theorem dX8_pin_99 : decode cX8_pin 99 = .ok (.getfield 31, 3) := by decide +kernel
theorem dX8_pin_102 : decode cX8_pin 102 = .ok (.iload_n 1, 1) := by decide +kernel
theorem dX8_pin_103 : decode cX8_pin 103 = .ok (.invokevirtual 151, 3) := by decide +kernel
theorem dX8_pin_106 : decode cX8_pin 106 = .ok (.goto 5, 3) := by decide +kernel
theorem dX8_pin_109 : decode cX8_pin 109 = .ok (.bipush (-4), 2) := by decide +kernel
theorem dX8_pin_111 : decode cX8_pin 111 = .ok (.ireturn, 1) := by decide +kernel
theorem dX8_pin_112 : decode cX8_pin 112 = .ok (.iconst (-1), 1) := by decide +kernel
theorem dX8_pin_113 : decode cX8_pin 113 = .ok (.ireturn, 1) := by decide +kernel
def f_H_pin (N nx : Nat) (D : Dt) (P : Ft) (a0 : Nat) (i1 : Int32) (i2 : Int32) : Option Int32 :=
  if kd nx a0 = 8 then
  nn (P a0 1) fun q1 =>
  if kd nx q1 = 1 then
  (f_F_hasPin N nx D P q1 i1).bind fun z2 =>
  if z2 = 0 then
    some (-1)
  else
    if i2 = 0 then
      (f_F_ownerOf N nx D P q1 i1).bind fun z4 =>
      some z4
    else
      if i2 = 1 then
        (f_F_kindOf N nx D P q1 i1).bind fun z5 =>
        some z5
      else
        if i2 = 2 then
          nn (P a0 3) fun q6 =>
          if kd nx q6 = 7 then
          (f_C_largeOf N nx D P q6 i1).bind fun z7 =>
          some z7
          else none
        else
          if i2 = 3 then
            nn (P a0 3) fun q9 =>
            if kd nx q9 = 7 then
            (f_C_whereIs N nx D P q9 i1).bind fun z10 =>
            (f_H_placeNumber N nx D P z10).bind fun z12 =>
            some z12
            else none
          else
            if i2 = 4 then
              nn (P a0 3) fun q13 =>
              if kd nx q13 = 7 then
              (f_C_whereIs N nx D P q13 i1).bind fun z14 =>
              if z14 < 0 then
                some (-4)
              else
                (f_C_whereIs N nx D P q13 i1).bind fun z16 =>
                some z16
              else none
            else
              some (-1)
  else none
  else none
theorem m_H_pin : MV yX8_pin cX8_pin 3 (some .int) 2 := ⟨mT 500 (by decide +kernel) rfl, mT 498 (by decide +kernel) rfl, mT 499 (by decide +kernel) rfl, mT 54 (by decide +kernel) rfl, by decide +kernel, by decide +kernel, by decide +kernel⟩
set_option maxHeartbeats 4000000 in
set_option maxRecDepth 100000 in
theorem c_H_pin (l : Launch) (cx : Cx) (nx N : Nat) (D : Dt) (P : Ft) (a0 : Nat) (i1 : Int32) (i2 : Int32) (z : Int32) (h : f_H_pin N nx D P a0 i1 i2 = some z) : Ct l cx yX8_pin cX8_pin 3 (some .int) 1 [.ref (cx.2.2 + a0), .int i1, .int i2] D P nx (some (.int z)) D P := by
  refine x_met0 (by decide) (Nat.le_of_ble_eq_true rfl) ?_
  intro p e s m args below meth c X
  have X : XC p s m args meth c cx cX8_pin 3 (some .int) "HeartPins" "pin" := X
  refine XW.sub (lv' := [(0, .ref (cx.2.2 + a0)), (1, .int i1), (2, .int i2)]) [0, 1, 2] rfl ?_
  unfold f_H_pin at h
  obtain ⟨hk0, h⟩ := grd h
  refine x_aload_n (pc := 0) X dX8_pin_0 (i := 0) rfl 0 rfl ?_
  obtain ⟨q1, e1, h⟩ := nns h
  refine x_getr (ci := 8) (k := 1) (n := 11) (C := RX8) (T := TX8) (pc := 1) X dX8_pin_1 hk0 rfl (by decide) w_422 rfl e1 ?_
  refine x_iload_n (pc := 4) X dX8_pin_4 (i := 1) rfl 1 rfl ?_
  obtain ⟨k3, h⟩ := grd h
  obtain ⟨z2, e2, h⟩ := bnds h
  refine x_callV (pc := 5) (As := [.int i1]) (st := []) (st' := [.int z2]) X (c_F_hasPin l cx nx N D P _ _ z2 e2) dX8_pin_5 w_501 m_F_hasPin rfl k3 (ci := 1) rfl rfl ⟨by decide, by decide⟩ ⟨Nat.zero_le _, Nat.zero_le _⟩ rfl (Nat.le_of_ble_eq_true rfl) rfl ?_
  refine x_if_ne (tgt := 13) (pc := 8) X dX8_pin_8 (by decide) (fun c19 => ?_) (fun c19 => ?_)
  · have h := ite_f c19 h
    refine x_iload_n (pc := 13) X dX8_pin_13 (i := 2) rfl 2 rfl ?_
    by_cases cs14_0 : i2 = 0
    · have h := ite_t cs14_0 h
      refine x_tsw (off := 34) (tgt := 48) (pc := 14) X 0 dX8_pin_14 cs14_0 (by decide) (by decide) (by decide) (by decide) ?_
      refine x_aload_n (pc := 48) X dX8_pin_48 (i := 0) rfl 0 rfl ?_
      refine x_getr (ci := 8) (k := 1) (n := 11) (C := RX8) (T := TX8) (pc := 49) X dX8_pin_49 hk0 rfl (by decide) w_422 rfl e1 ?_
      refine x_iload_n (pc := 52) X dX8_pin_52 (i := 1) rfl 1 rfl ?_
      obtain ⟨z4, e4, h⟩ := bnds h
      refine x_callV (pc := 53) (As := [.int i1]) (st := []) (st' := [.int z4]) X (c_F_ownerOf l cx nx N D P _ _ z4 e4) dX8_pin_53 w_502 m_F_ownerOf rfl k3 (ci := 1) rfl rfl ⟨by decide, by decide⟩ ⟨Nat.zero_le _, Nat.zero_le _⟩ rfl (Nat.le_of_ble_eq_true rfl) rfl ?_
      obtain rfl := Option.some.inj h
      exact x_iret (pc := 56) X dX8_pin_56
    · have h := ite_f cs14_0 h
      by_cases cs14_1 : i2 = 1
      · have h := ite_t cs14_1 h
        refine x_tsw (off := 43) (tgt := 57) (pc := 14) X 1 dX8_pin_14 cs14_1 (by decide) (by decide) (by decide) (by decide) ?_
        refine x_aload_n (pc := 57) X dX8_pin_57 (i := 0) rfl 0 rfl ?_
        refine x_getr (ci := 8) (k := 1) (n := 11) (C := RX8) (T := TX8) (pc := 58) X dX8_pin_58 hk0 rfl (by decide) w_422 rfl e1 ?_
        refine x_iload_n (pc := 61) X dX8_pin_61 (i := 1) rfl 1 rfl ?_
        obtain ⟨z5, e5, h⟩ := bnds h
        refine x_callV (pc := 62) (As := [.int i1]) (st := []) (st' := [.int z5]) X (c_F_kindOf l cx nx N D P _ _ z5 e5) dX8_pin_62 w_506 m_F_kindOf rfl k3 (ci := 1) rfl rfl ⟨by decide, by decide⟩ ⟨Nat.zero_le _, Nat.zero_le _⟩ rfl (Nat.le_of_ble_eq_true rfl) rfl ?_
        obtain rfl := Option.some.inj h
        exact x_iret (pc := 65) X dX8_pin_65
      · have h := ite_f cs14_1 h
        by_cases cs14_2 : i2 = 2
        · have h := ite_t cs14_2 h
          refine x_tsw (off := 52) (tgt := 66) (pc := 14) X 2 dX8_pin_14 cs14_2 (by decide) (by decide) (by decide) (by decide) ?_
          refine x_aload_n (pc := 66) X dX8_pin_66 (i := 0) rfl 0 rfl ?_
          obtain ⟨q6, e6, h⟩ := nns h
          refine x_getr (ci := 8) (k := 3) (n := 11) (C := RX8) (T := TX8) (pc := 67) X dX8_pin_67 hk0 rfl (by decide) w_424 rfl e6 ?_
          refine x_iload_n (pc := 70) X dX8_pin_70 (i := 1) rfl 1 rfl ?_
          obtain ⟨k8, h⟩ := grd h
          obtain ⟨z7, e7, h⟩ := bnds h
          refine x_callV (pc := 71) (As := [.int i1]) (st := []) (st' := [.int z7]) X (c_C_largeOf l cx nx N D P _ _ z7 e7) dX8_pin_71 w_510 m_C_largeOf rfl k8 (ci := 7) rfl rfl ⟨by decide, by decide⟩ ⟨Nat.zero_le _, Nat.zero_le _⟩ rfl (Nat.le_of_ble_eq_true rfl) rfl ?_
          obtain rfl := Option.some.inj h
          exact x_iret (pc := 74) X dX8_pin_74
        · have h := ite_f cs14_2 h
          by_cases cs14_3 : i2 = 3
          · have h := ite_t cs14_3 h
            refine x_tsw (off := 61) (tgt := 75) (pc := 14) X 3 dX8_pin_14 cs14_3 (by decide) (by decide) (by decide) (by decide) ?_
            refine x_aload_n (pc := 75) X dX8_pin_75 (i := 0) rfl 0 rfl ?_
            obtain ⟨q9, e9, h⟩ := nns h
            refine x_getr (ci := 8) (k := 3) (n := 11) (C := RX8) (T := TX8) (pc := 76) X dX8_pin_76 hk0 rfl (by decide) w_424 rfl e9 ?_
            refine x_iload_n (pc := 79) X dX8_pin_79 (i := 1) rfl 1 rfl ?_
            obtain ⟨k11, h⟩ := grd h
            obtain ⟨z10, e10, h⟩ := bnds h
            refine x_callV (pc := 80) (As := [.int i1]) (st := []) (st' := [.int z10]) X (c_C_whereIs l cx nx N D P _ _ z10 e10) dX8_pin_80 w_514 m_C_whereIs rfl k11 (ci := 7) rfl rfl ⟨by decide, by decide⟩ ⟨Nat.zero_le _, Nat.zero_le _⟩ rfl (Nat.le_of_ble_eq_true rfl) rfl ?_
            obtain ⟨z12, e12, h⟩ := bnds h
            refine x_callS (pc := 83) (As := [.int z10]) (st := []) (st' := [.int z12]) X (c_H_placeNumber l cx nx N D P _ z12 e12) dX8_pin_83 w_518 m_H_placeNumber rfl ⟨by decide, by decide⟩ ⟨Nat.zero_le _, Nat.zero_le _⟩ rfl (Nat.le_of_ble_eq_true rfl) rfl ?_
            obtain rfl := Option.some.inj h
            exact x_iret (pc := 86) X dX8_pin_86
          · have h := ite_f cs14_3 h
            by_cases cs14_4 : i2 = 4
            · have h := ite_t cs14_4 h
              refine x_tsw (off := 73) (tgt := 87) (pc := 14) X 4 dX8_pin_14 cs14_4 (by decide) (by decide) (by decide) (by decide) ?_
              refine x_aload_n (pc := 87) X dX8_pin_87 (i := 0) rfl 0 rfl ?_
              obtain ⟨q13, e13, h⟩ := nns h
              refine x_getr (ci := 8) (k := 3) (n := 11) (C := RX8) (T := TX8) (pc := 88) X dX8_pin_88 hk0 rfl (by decide) w_424 rfl e13 ?_
              refine x_iload_n (pc := 91) X dX8_pin_91 (i := 1) rfl 1 rfl ?_
              obtain ⟨k15, h⟩ := grd h
              obtain ⟨z14, e14, h⟩ := bnds h
              refine x_callV (pc := 92) (As := [.int i1]) (st := []) (st' := [.int z14]) X (c_C_whereIs l cx nx N D P _ _ z14 e14) dX8_pin_92 w_514 m_C_whereIs rfl k15 (ci := 7) rfl rfl ⟨by decide, by decide⟩ ⟨Nat.zero_le _, Nat.zero_le _⟩ rfl (Nat.le_of_ble_eq_true rfl) rfl ?_
              refine x_if_lt (tgt := 109) (pc := 95) X dX8_pin_95 (by decide) (fun c17 => ?_) (fun c17 => ?_)
              · have h := ite_t c17 h
                refine x_bipush (v := (-4)) (pc := 109) X dX8_pin_109 (by decide) ?_
                obtain rfl := Option.some.inj h
                exact x_iret (pc := 111) X dX8_pin_111
              · have h := ite_f c17 h
                refine x_aload_n (pc := 98) X dX8_pin_98 (i := 0) rfl 0 rfl ?_
                refine x_getr (ci := 8) (k := 3) (n := 11) (C := RX8) (T := TX8) (pc := 99) X dX8_pin_99 hk0 rfl (by decide) w_424 rfl e13 ?_
                refine x_iload_n (pc := 102) X dX8_pin_102 (i := 1) rfl 1 rfl ?_
                obtain ⟨z16, e16, h⟩ := bnds h
                refine x_callV (pc := 103) (As := [.int i1]) (st := []) (st' := [.int z16]) X (c_C_whereIs l cx nx N D P _ _ z16 e16) dX8_pin_103 w_514 m_C_whereIs rfl k15 (ci := 7) rfl rfl ⟨by decide, by decide⟩ ⟨Nat.zero_le _, Nat.zero_le _⟩ rfl (Nat.le_of_ble_eq_true rfl) rfl ?_
                refine x_goto (tgt := 111) (pc := 106) X dX8_pin_106 (by decide) ?_
                obtain rfl := Option.some.inj h
                exact x_iret (pc := 111) X dX8_pin_111
            · have h := ite_f cs14_4 h
              refine x_tswd (tgt := 112) (pc := 14) X dX8_pin_14 (sw_outg (lo := 0) (n := 5) (by decide) (by decide) rfl (fun k hk => ?_)) (by decide) ?_
              · rcases (show k = 0 ∨ k = 1 ∨ k = 2 ∨ k = 3 ∨ k = 4 by omega) with rfl | rfl | rfl | rfl | rfl
                · exact fun y => cs14_0 (y.trans (by decide))
                · exact fun y => cs14_1 (y.trans (by decide))
                · exact fun y => cs14_2 (y.trans (by decide))
                · exact fun y => cs14_3 (y.trans (by decide))
                · exact fun y => cs14_4 (y.trans (by decide))
              · refine x_iconst (v := (-1)) (pc := 112) X dX8_pin_112 (by decide) ?_
                obtain rfl := Option.some.inj h
                exact x_iret (pc := 113) X dX8_pin_113
  · have h := ite_t c19 h
    refine x_iconst (v := (-1)) (pc := 11) X dX8_pin_11 (by decide) ?_
    obtain rfl := Option.some.inj h
    exact x_iret (pc := 12) X dX8_pin_12
theorem dX8_heart_0 : decode cX8_heart 0 = .ok (.iload_n 1, 1) := by decide +kernel
theorem dX8_heart_1 : decode cX8_heart 1 = .ok (.tableswitch 115 0 6 #[43, 51, 59, 67, 75, 83, 99], 43) := by decide +kernel
theorem dX8_heart_44 : decode cX8_heart 44 = .ok (.aload_n 0, 1) := by decide +kernel
theorem dX8_heart_45 : decode cX8_heart 45 = .ok (.getfield 19, 3) := by decide +kernel
theorem dX8_heart_48 : decode cX8_heart 48 = .ok (.getfield 157, 3) := by decide +kernel
theorem dX8_heart_51 : decode cX8_heart 51 = .ok (.ireturn, 1) := by decide +kernel
theorem dX8_heart_52 : decode cX8_heart 52 = .ok (.aload_n 0, 1) := by decide +kernel
theorem dX8_heart_53 : decode cX8_heart 53 = .ok (.getfield 19, 3) := by decide +kernel
theorem dX8_heart_56 : decode cX8_heart 56 = .ok (.getfield 160, 3) := by decide +kernel
theorem dX8_heart_59 : decode cX8_heart 59 = .ok (.ireturn, 1) := by decide +kernel
theorem dX8_heart_60 : decode cX8_heart 60 = .ok (.aload_n 0, 1) := by decide +kernel
theorem dX8_heart_61 : decode cX8_heart 61 = .ok (.getfield 19, 3) := by decide +kernel
theorem dX8_heart_64 : decode cX8_heart 64 = .ok (.getfield 163, 3) := by decide +kernel
theorem dX8_heart_67 : decode cX8_heart 67 = .ok (.ireturn, 1) := by decide +kernel
theorem dX8_heart_68 : decode cX8_heart 68 = .ok (.aload_n 0, 1) := by decide +kernel
theorem dX8_heart_69 : decode cX8_heart 69 = .ok (.getfield 31, 3) := by decide +kernel
theorem dX8_heart_72 : decode cX8_heart 72 = .ok (.getfield 166, 3) := by decide +kernel
theorem dX8_heart_75 : decode cX8_heart 75 = .ok (.ireturn, 1) := by decide +kernel
theorem dX8_heart_76 : decode cX8_heart 76 = .ok (.aload_n 0, 1) := by decide +kernel
theorem dX8_heart_77 : decode cX8_heart 77 = .ok (.getfield 31, 3) := by decide +kernel
theorem dX8_heart_80 : decode cX8_heart 80 = .ok (.invokevirtual 169, 3) := by decide +kernel
theorem dX8_heart_83 : decode cX8_heart 83 = .ok (.ireturn, 1) := by decide +kernel
theorem dX8_heart_84 : decode cX8_heart 84 = .ok (.aload_n 0, 1) := by decide +kernel
theorem dX8_heart_85 : decode cX8_heart 85 = .ok (.getfield 31, 3) := by decide +kernel
theorem dX8_heart_88 : decode cX8_heart 88 = .ok (.invokevirtual 172, 3) := by decide +kernel
theorem dX8_heart_91 : decode cX8_heart 91 = .ok (.ifCond .eq 7, 3) := by decide +kernel
theorem dX8_heart_94 : decode cX8_heart 94 = .ok (.iconst 1, 1) := by decide +kernel
theorem dX8_heart_95 : decode cX8_heart 95 = .ok (.goto 4, 3) := by decide +kernel
theorem dX8_heart_98 : decode cX8_heart 98 = .ok (.iconst 0, 1) := by decide +kernel
theorem dX8_heart_99 : decode cX8_heart 99 = .ok (.ireturn, 1) := by decide +kernel
theorem dX8_heart_100 : decode cX8_heart 100 = .ok (.aload_n 0, 1) := by decide +kernel
theorem dX8_heart_101 : decode cX8_heart 101 = .ok (.getfield 31, 3) := by decide +kernel
theorem dX8_heart_104 : decode cX8_heart 104 = .ok (.invokevirtual 176, 3) := by decide +kernel
theorem dX8_heart_107 : decode cX8_heart 107 = .ok (.ifCond .eq 7, 3) := by decide +kernel
theorem dX8_heart_110 : decode cX8_heart 110 = .ok (.iconst 1, 1) := by decide +kernel
theorem dX8_heart_111 : decode cX8_heart 111 = .ok (.goto 4, 3) := by decide +kernel
theorem dX8_heart_114 : decode cX8_heart 114 = .ok (.iconst 0, 1) := by decide +kernel
theorem dX8_heart_115 : decode cX8_heart 115 = .ok (.ireturn, 1) := by decide +kernel
theorem dX8_heart_116 : decode cX8_heart 116 = .ok (.iconst (-1), 1) := by decide +kernel
theorem dX8_heart_117 : decode cX8_heart 117 = .ok (.ireturn, 1) := by decide +kernel
def f_H_heart (N nx : Nat) (D : Dt) (P : Ft) (a0 : Nat) (i1 : Int32) : Option Int32 :=
  if kd nx a0 = 8 then
  if i1 = 0 then
    nn (P a0 1) fun q1 =>
    if kd nx q1 = 1 then
    some (D q1 6)
    else none
  else
    if i1 = 1 then
      nn (P a0 1) fun q3 =>
      if kd nx q3 = 1 then
      some (D q3 7)
      else none
    else
      if i1 = 2 then
        nn (P a0 1) fun q5 =>
        if kd nx q5 = 1 then
        some (D q5 8)
        else none
      else
        if i1 = 3 then
          nn (P a0 3) fun q7 =>
          if kd nx q7 = 7 then
          some (D q7 3)
          else none
        else
          if i1 = 4 then
            nn (P a0 3) fun q9 =>
            if kd nx q9 = 7 then
            (f_C_heartSum N nx D P q9).bind fun z10 =>
            some z10
            else none
          else
            if i1 = 5 then
              nn (P a0 3) fun q12 =>
              if kd nx q12 = 7 then
              (f_C_isFull N nx D P q12).bind fun z13 =>
              if z13 = 0 then
                some 0
              else
                some 1
              else none
            else
              if i1 = 6 then
                nn (P a0 3) fun q16 =>
                if kd nx q16 = 7 then
                (f_C_isAtDoor N nx D P q16).bind fun z17 =>
                if z17 = 0 then
                  some 0
                else
                  some 1
                else none
              else
                some (-1)
  else none
theorem m_H_heart : MV yX8_heart cX8_heart 2 (some .int) 1 := ⟨mT 524 (by decide +kernel) rfl, mT 522 (by decide +kernel) rfl, mT 523 (by decide +kernel) rfl, mT 54 (by decide +kernel) rfl, by decide +kernel, by decide +kernel, by decide +kernel⟩
set_option maxHeartbeats 4000000 in
set_option maxRecDepth 100000 in
theorem c_H_heart (l : Launch) (cx : Cx) (nx N : Nat) (D : Dt) (P : Ft) (a0 : Nat) (i1 : Int32) (z : Int32) (h : f_H_heart N nx D P a0 i1 = some z) : Ct l cx yX8_heart cX8_heart 2 (some .int) 3 [.ref (cx.2.2 + a0), .int i1] D P nx (some (.int z)) D P := by
  refine x_met0 (by decide) (Nat.le_of_ble_eq_true rfl) ?_
  intro p e s m args below meth c X
  have X : XC p s m args meth c cx cX8_heart 2 (some .int) "HeartPins" "heart" := X
  refine XW.sub (lv' := [(0, .ref (cx.2.2 + a0)), (1, .int i1)]) [0, 1] rfl ?_
  unfold f_H_heart at h
  obtain ⟨hk0, h⟩ := grd h
  refine x_iload_n (pc := 0) X dX8_heart_0 (i := 1) rfl 1 rfl ?_
  by_cases cs1_0 : i1 = 0
  · have h := ite_t cs1_0 h
    refine x_tsw (off := 43) (tgt := 44) (pc := 1) X 0 dX8_heart_1 cs1_0 (by decide) (by decide) (by decide) (by decide) ?_
    refine x_aload_n (pc := 44) X dX8_heart_44 (i := 0) rfl 0 rfl ?_
    obtain ⟨q1, e1, h⟩ := nns h
    refine x_getr (ci := 8) (k := 1) (n := 11) (C := RX8) (T := TX8) (pc := 45) X dX8_heart_45 hk0 rfl (by decide) w_422 rfl e1 ?_
    obtain ⟨k2, h⟩ := grd h
    refine x_geti (ci := 1) (k := 6) (n := 9) (C := RX1) (T := TX1) (pc := 48) X dX8_heart_48 k2 rfl (by decide) w_118 rfl ?_
    obtain rfl := Option.some.inj h
    exact x_iret (pc := 51) X dX8_heart_51
  · have h := ite_f cs1_0 h
    by_cases cs1_1 : i1 = 1
    · have h := ite_t cs1_1 h
      refine x_tsw (off := 51) (tgt := 52) (pc := 1) X 1 dX8_heart_1 cs1_1 (by decide) (by decide) (by decide) (by decide) ?_
      refine x_aload_n (pc := 52) X dX8_heart_52 (i := 0) rfl 0 rfl ?_
      obtain ⟨q3, e3, h⟩ := nns h
      refine x_getr (ci := 8) (k := 1) (n := 11) (C := RX8) (T := TX8) (pc := 53) X dX8_heart_53 hk0 rfl (by decide) w_422 rfl e3 ?_
      obtain ⟨k4, h⟩ := grd h
      refine x_geti (ci := 1) (k := 7) (n := 9) (C := RX1) (T := TX1) (pc := 56) X dX8_heart_56 k4 rfl (by decide) w_121 rfl ?_
      obtain rfl := Option.some.inj h
      exact x_iret (pc := 59) X dX8_heart_59
    · have h := ite_f cs1_1 h
      by_cases cs1_2 : i1 = 2
      · have h := ite_t cs1_2 h
        refine x_tsw (off := 59) (tgt := 60) (pc := 1) X 2 dX8_heart_1 cs1_2 (by decide) (by decide) (by decide) (by decide) ?_
        refine x_aload_n (pc := 60) X dX8_heart_60 (i := 0) rfl 0 rfl ?_
        obtain ⟨q5, e5, h⟩ := nns h
        refine x_getr (ci := 8) (k := 1) (n := 11) (C := RX8) (T := TX8) (pc := 61) X dX8_heart_61 hk0 rfl (by decide) w_422 rfl e5 ?_
        obtain ⟨k6, h⟩ := grd h
        refine x_geti (ci := 1) (k := 8) (n := 9) (C := RX1) (T := TX1) (pc := 64) X dX8_heart_64 k6 rfl (by decide) w_124 rfl ?_
        obtain rfl := Option.some.inj h
        exact x_iret (pc := 67) X dX8_heart_67
      · have h := ite_f cs1_2 h
        by_cases cs1_3 : i1 = 3
        · have h := ite_t cs1_3 h
          refine x_tsw (off := 67) (tgt := 68) (pc := 1) X 3 dX8_heart_1 cs1_3 (by decide) (by decide) (by decide) (by decide) ?_
          refine x_aload_n (pc := 68) X dX8_heart_68 (i := 0) rfl 0 rfl ?_
          obtain ⟨q7, e7, h⟩ := nns h
          refine x_getr (ci := 8) (k := 3) (n := 11) (C := RX8) (T := TX8) (pc := 69) X dX8_heart_69 hk0 rfl (by decide) w_424 rfl e7 ?_
          obtain ⟨k8, h⟩ := grd h
          refine x_geti (ci := 7) (k := 3) (n := 5) (C := RX7) (T := TX7) (pc := 72) X dX8_heart_72 k8 rfl (by decide) w_156 rfl ?_
          obtain rfl := Option.some.inj h
          exact x_iret (pc := 75) X dX8_heart_75
        · have h := ite_f cs1_3 h
          by_cases cs1_4 : i1 = 4
          · have h := ite_t cs1_4 h
            refine x_tsw (off := 75) (tgt := 76) (pc := 1) X 4 dX8_heart_1 cs1_4 (by decide) (by decide) (by decide) (by decide) ?_
            refine x_aload_n (pc := 76) X dX8_heart_76 (i := 0) rfl 0 rfl ?_
            obtain ⟨q9, e9, h⟩ := nns h
            refine x_getr (ci := 8) (k := 3) (n := 11) (C := RX8) (T := TX8) (pc := 77) X dX8_heart_77 hk0 rfl (by decide) w_424 rfl e9 ?_
            obtain ⟨k11, h⟩ := grd h
            obtain ⟨z10, e10, h⟩ := bnds h
            refine x_callV (pc := 80) (As := []) (st := []) (st' := [.int z10]) X (c_C_heartSum l cx nx N D P _ z10 e10) dX8_heart_80 w_525 m_C_heartSum rfl k11 (ci := 7) rfl rfl ⟨by decide, by decide⟩ ⟨Nat.zero_le _, Nat.zero_le _⟩ rfl (Nat.le_of_ble_eq_true rfl) rfl ?_
            obtain rfl := Option.some.inj h
            exact x_iret (pc := 83) X dX8_heart_83
          · have h := ite_f cs1_4 h
            by_cases cs1_5 : i1 = 5
            · have h := ite_t cs1_5 h
              refine x_tsw (off := 83) (tgt := 84) (pc := 1) X 5 dX8_heart_1 cs1_5 (by decide) (by decide) (by decide) (by decide) ?_
              refine x_aload_n (pc := 84) X dX8_heart_84 (i := 0) rfl 0 rfl ?_
              obtain ⟨q12, e12, h⟩ := nns h
              refine x_getr (ci := 8) (k := 3) (n := 11) (C := RX8) (T := TX8) (pc := 85) X dX8_heart_85 hk0 rfl (by decide) w_424 rfl e12 ?_
              obtain ⟨k14, h⟩ := grd h
              obtain ⟨z13, e13, h⟩ := bnds h
              refine x_callV (pc := 88) (As := []) (st := []) (st' := [.int z13]) X (c_C_isFull l cx nx N D P _ z13 e13) dX8_heart_88 w_529 m_C_isFull rfl k14 (ci := 7) rfl rfl ⟨by decide, by decide⟩ ⟨Nat.zero_le _, Nat.zero_le _⟩ rfl (Nat.le_of_ble_eq_true rfl) rfl ?_
              refine x_if_eq (tgt := 98) (pc := 91) X dX8_heart_91 (by decide) (fun c15 => ?_) (fun c15 => ?_)
              · have h := ite_t c15 h
                refine x_iconst (v := 0) (pc := 98) X dX8_heart_98 (by decide) ?_
                obtain rfl := Option.some.inj h
                exact x_iret (pc := 99) X dX8_heart_99
              · have h := ite_f c15 h
                refine x_iconst (v := 1) (pc := 94) X dX8_heart_94 (by decide) ?_
                refine x_goto (tgt := 99) (pc := 95) X dX8_heart_95 (by decide) ?_
                obtain rfl := Option.some.inj h
                exact x_iret (pc := 99) X dX8_heart_99
            · have h := ite_f cs1_5 h
              by_cases cs1_6 : i1 = 6
              · have h := ite_t cs1_6 h
                refine x_tsw (off := 99) (tgt := 100) (pc := 1) X 6 dX8_heart_1 cs1_6 (by decide) (by decide) (by decide) (by decide) ?_
                refine x_aload_n (pc := 100) X dX8_heart_100 (i := 0) rfl 0 rfl ?_
                obtain ⟨q16, e16, h⟩ := nns h
                refine x_getr (ci := 8) (k := 3) (n := 11) (C := RX8) (T := TX8) (pc := 101) X dX8_heart_101 hk0 rfl (by decide) w_424 rfl e16 ?_
                obtain ⟨k18, h⟩ := grd h
                obtain ⟨z17, e17, h⟩ := bnds h
                refine x_callV (pc := 104) (As := []) (st := []) (st' := [.int z17]) X (c_C_isAtDoor l cx nx N D P _ z17 e17) dX8_heart_104 w_534 m_C_isAtDoor rfl k18 (ci := 7) rfl rfl ⟨by decide, by decide⟩ ⟨Nat.zero_le _, Nat.zero_le _⟩ rfl (Nat.le_of_ble_eq_true rfl) rfl ?_
                refine x_if_eq (tgt := 114) (pc := 107) X dX8_heart_107 (by decide) (fun c19 => ?_) (fun c19 => ?_)
                · have h := ite_t c19 h
                  refine x_iconst (v := 0) (pc := 114) X dX8_heart_114 (by decide) ?_
                  obtain rfl := Option.some.inj h
                  exact x_iret (pc := 115) X dX8_heart_115
                · have h := ite_f c19 h
                  refine x_iconst (v := 1) (pc := 110) X dX8_heart_110 (by decide) ?_
                  refine x_goto (tgt := 115) (pc := 111) X dX8_heart_111 (by decide) ?_
                  obtain rfl := Option.some.inj h
                  exact x_iret (pc := 115) X dX8_heart_115
              · have h := ite_f cs1_6 h
                refine x_tswd (tgt := 116) (pc := 1) X dX8_heart_1 (sw_outg (lo := 0) (n := 7) (by decide) (by decide) rfl (fun k hk => ?_)) (by decide) ?_
                · rcases (show k = 0 ∨ k = 1 ∨ k = 2 ∨ k = 3 ∨ k = 4 ∨ k = 5 ∨ k = 6 by omega) with rfl | rfl | rfl | rfl | rfl | rfl | rfl
                  · exact fun y => cs1_0 (y.trans (by decide))
                  · exact fun y => cs1_1 (y.trans (by decide))
                  · exact fun y => cs1_2 (y.trans (by decide))
                  · exact fun y => cs1_3 (y.trans (by decide))
                  · exact fun y => cs1_4 (y.trans (by decide))
                  · exact fun y => cs1_5 (y.trans (by decide))
                  · exact fun y => cs1_6 (y.trans (by decide))
                · refine x_iconst (v := (-1)) (pc := 116) X dX8_heart_116 (by decide) ?_
                  obtain rfl := Option.some.inj h
                  exact x_iret (pc := 117) X dX8_heart_117
theorem dX8_stick_0 : decode cX8_stick 0 = .ok (.aload_n 0, 1) := by decide +kernel
theorem dX8_stick_1 : decode cX8_stick 1 = .ok (.getfield 19, 3) := by decide +kernel
theorem dX8_stick_4 : decode cX8_stick 4 = .ok (.iload_n 1, 1) := by decide +kernel
theorem dX8_stick_5 : decode cX8_stick 5 = .ok (.invokevirtual 139, 3) := by decide +kernel
theorem dX8_stick_8 : decode cX8_stick 8 = .ok (.ifCond .ne 5, 3) := by decide +kernel
theorem dX8_stick_11 : decode cX8_stick 11 = .ok (.iconst (-1), 1) := by decide +kernel
theorem dX8_stick_12 : decode cX8_stick 12 = .ok (.ireturn, 1) := by decide +kernel
theorem dX8_stick_13 : decode cX8_stick 13 = .ok (.aload_n 0, 1) := by decide +kernel
theorem dX8_stick_14 : decode cX8_stick 14 = .ok (.getfield 31, 3) := by decide +kernel
theorem dX8_stick_17 : decode cX8_stick 17 = .ok (.iload_n 1, 1) := by decide +kernel
theorem dX8_stick_18 : decode cX8_stick 18 = .ok (.invokevirtual 179, 3) := by decide +kernel
theorem dX8_stick_21 : decode cX8_stick 21 = .ok (.ifCond .ne 6, 3) := by decide +kernel
theorem dX8_stick_24 : decode cX8_stick 24 = .ok (.bipush (-2), 2) := by decide +kernel
theorem dX8_stick_26 : decode cX8_stick 26 = .ok (.ireturn, 1) := by decide +kernel
theorem dX8_stick_27 : decode cX8_stick 27 = .ok (.aload_n 0, 1) := by decide +kernel
theorem dX8_stick_28 : decode cX8_stick 28 = .ok (.getfield 43, 3) := by decide +kernel
theorem dX8_stick_31 : decode cX8_stick 31 = .ok (.aload_n 0, 1) := by decide +kernel
theorem dX8_stick_32 : decode cX8_stick 32 = .ok (.getfield 31, 3) := by decide +kernel
theorem dX8_stick_35 : decode cX8_stick 35 = .ok (.invokevirtual 182, 3) := by decide +kernel
theorem dX8_stick_38 : decode cX8_stick 38 = .ok (.aload_n 0, 1) := by decide +kernel
theorem dX8_stick_39 : decode cX8_stick 39 = .ok (.getfield 31, 3) := by decide +kernel
theorem dX8_stick_42 : decode cX8_stick 42 = .ok (.iload_n 1, 1) := by decide +kernel
theorem dX8_stick_43 : decode cX8_stick 43 = .ok (.invokevirtual 186, 3) := by decide +kernel
theorem dX8_stick_46 : decode cX8_stick 46 = .ok (.aload_n 0, 1) := by decide +kernel
theorem dX8_stick_47 : decode cX8_stick 47 = .ok (.getfield 31, 3) := by decide +kernel
theorem dX8_stick_50 : decode cX8_stick 50 = .ok (.invokevirtual 169, 3) := by decide +kernel
theorem dX8_stick_53 : decode cX8_stick 53 = .ok (.ireturn, 1) := by decide +kernel
def f_H_stick (N nx : Nat) (D : Dt) (P : Ft) (a0 : Nat) (i1 : Int32) : Option (Int32 × Dt × Ft) :=
  if kd nx a0 = 8 then
  nn (P a0 1) fun q1 =>
  if kd nx q1 = 1 then
  (f_F_hasPin N nx D P q1 i1).bind fun z2 =>
  if z2 = 0 then
    some ((-1), D, P)
  else
    nn (P a0 3) fun q4 =>
    if kd nx q4 = 7 then
    (f_C_canStick N nx D P q4 i1).bind fun z5 =>
    if z5 = 0 then
      some ((-2), D, P)
    else
      nn (P a0 5) fun q7 =>
      if kd nx q7 = 6 then
      (f_S_put N nx D P q7 q4).bind fun z8 =>
      nn (z8.2 a0 3) fun q10 =>
      if kd nx q10 = 7 then
      (f_C_stickIn N nx z8.1 z8.2 q10 i1).bind fun z11 =>
      (f_C_heartSum N nx z11 z8.2 q10).bind fun z13 =>
      some (z13, z11, z8.2)
      else none
      else none
    else none
  else none
  else none
theorem m_H_stick : MV yX8_stick cX8_stick 2 (some .int) 1 := ⟨mT 541 (by decide +kernel) rfl, mT 539 (by decide +kernel) rfl, mT 540 (by decide +kernel) rfl, mT 54 (by decide +kernel) rfl, by decide +kernel, by decide +kernel, by decide +kernel⟩
set_option maxHeartbeats 4000000 in
set_option maxRecDepth 100000 in
theorem c_H_stick (l : Launch) (cx : Cx) (nx N : Nat) (D : Dt) (P : Ft) (a0 : Nat) (i1 : Int32) (z : Int32 × Dt × Ft) (h : f_H_stick N nx D P a0 i1 = some z) : Ct l cx yX8_stick cX8_stick 2 (some .int) 3 [.ref (cx.2.2 + a0), .int i1] D P nx (some (.int z.1)) z.2.1 z.2.2 := by
  refine x_met0 (by decide) (Nat.le_of_ble_eq_true rfl) ?_
  intro p e s m args below meth c X
  have X : XC p s m args meth c cx cX8_stick 2 (some .int) "HeartPins" "stick" := X
  refine XW.sub (lv' := [(0, .ref (cx.2.2 + a0)), (1, .int i1)]) [0, 1] rfl ?_
  unfold f_H_stick at h
  obtain ⟨hk0, h⟩ := grd h
  refine x_aload_n (pc := 0) X dX8_stick_0 (i := 0) rfl 0 rfl ?_
  obtain ⟨q1, e1, h⟩ := nns h
  refine x_getr (ci := 8) (k := 1) (n := 11) (C := RX8) (T := TX8) (pc := 1) X dX8_stick_1 hk0 rfl (by decide) w_422 rfl e1 ?_
  refine x_iload_n (pc := 4) X dX8_stick_4 (i := 1) rfl 1 rfl ?_
  obtain ⟨k3, h⟩ := grd h
  obtain ⟨z2, e2, h⟩ := bnds h
  refine x_callV (pc := 5) (As := [.int i1]) (st := []) (st' := [.int z2]) X (c_F_hasPin l cx nx N D P _ _ z2 e2) dX8_stick_5 w_501 m_F_hasPin rfl k3 (ci := 1) rfl rfl ⟨by decide, by decide⟩ ⟨Nat.zero_le _, Nat.zero_le _⟩ rfl (Nat.le_of_ble_eq_true rfl) rfl ?_
  refine x_if_ne (tgt := 13) (pc := 8) X dX8_stick_8 (by decide) (fun c15 => ?_) (fun c15 => ?_)
  · have h := ite_f c15 h
    refine x_aload_n (pc := 13) X dX8_stick_13 (i := 0) rfl 0 rfl ?_
    obtain ⟨q4, e4, h⟩ := nns h
    refine x_getr (ci := 8) (k := 3) (n := 11) (C := RX8) (T := TX8) (pc := 14) X dX8_stick_14 hk0 rfl (by decide) w_424 rfl e4 ?_
    refine x_iload_n (pc := 17) X dX8_stick_17 (i := 1) rfl 1 rfl ?_
    obtain ⟨k6, h⟩ := grd h
    obtain ⟨z5, e5, h⟩ := bnds h
    refine x_callV (pc := 18) (As := [.int i1]) (st := []) (st' := [.int z5]) X (c_C_canStick l cx nx N D P _ _ z5 e5) dX8_stick_18 w_542 m_C_canStick rfl k6 (ci := 7) rfl rfl ⟨by decide, by decide⟩ ⟨Nat.zero_le _, Nat.zero_le _⟩ rfl (Nat.le_of_ble_eq_true rfl) rfl ?_
    refine x_if_ne (tgt := 27) (pc := 21) X dX8_stick_21 (by decide) (fun c14 => ?_) (fun c14 => ?_)
    · have h := ite_f c14 h
      refine x_aload_n (pc := 27) X dX8_stick_27 (i := 0) rfl 0 rfl ?_
      obtain ⟨q7, e7, h⟩ := nns h
      refine x_getr (ci := 8) (k := 5) (n := 11) (C := RX8) (T := TX8) (pc := 28) X dX8_stick_28 hk0 rfl (by decide) w_426 rfl e7 ?_
      refine x_aload_n (pc := 31) X dX8_stick_31 (i := 0) rfl 0 rfl ?_
      refine x_getr (ci := 8) (k := 3) (n := 11) (C := RX8) (T := TX8) (pc := 32) X dX8_stick_32 hk0 rfl (by decide) w_424 rfl e4 ?_
      obtain ⟨k9, h⟩ := grd h
      obtain ⟨z8, e8, h⟩ := bnds h
      refine x_callV (pc := 35) (As := [.ref (cx.2.2 + q4)]) (st := []) (st' := []) X (c_S_put l cx nx N D P _ _ z8 e8) dX8_stick_35 w_548 m_S_put rfl k9 (ci := 6) rfl rfl ⟨by decide, by decide⟩ ⟨Nat.zero_le _, Nat.zero_le _⟩ rfl (Nat.le_of_ble_eq_true rfl) rfl ?_
      refine x_aload_n (pc := 38) X dX8_stick_38 (i := 0) rfl 0 rfl ?_
      obtain ⟨q10, e10, h⟩ := nns h
      refine x_getr (ci := 8) (k := 3) (n := 11) (C := RX8) (T := TX8) (pc := 39) X dX8_stick_39 hk0 rfl (by decide) w_424 rfl e10 ?_
      refine x_iload_n (pc := 42) X dX8_stick_42 (i := 1) rfl 1 rfl ?_
      obtain ⟨k12, h⟩ := grd h
      obtain ⟨z11, e11, h⟩ := bnds h
      refine x_callV (pc := 43) (As := [.int i1]) (st := []) (st' := []) X (c_C_stickIn l cx nx N z8.1 z8.2 _ _ z11 e11) dX8_stick_43 w_564 m_C_stickIn rfl k12 (ci := 7) rfl rfl ⟨by decide, by decide⟩ ⟨Nat.zero_le _, Nat.zero_le _⟩ rfl (Nat.le_of_ble_eq_true rfl) rfl ?_
      refine x_aload_n (pc := 46) X dX8_stick_46 (i := 0) rfl 0 rfl ?_
      refine x_getr (ci := 8) (k := 3) (n := 11) (C := RX8) (T := TX8) (pc := 47) X dX8_stick_47 hk0 rfl (by decide) w_424 rfl e10 ?_
      obtain ⟨z13, e13, h⟩ := bnds h
      refine x_callV (pc := 50) (As := []) (st := []) (st' := [.int z13]) X (c_C_heartSum l cx nx N z11 z8.2 _ z13 e13) dX8_stick_50 w_525 m_C_heartSum rfl k12 (ci := 7) rfl rfl ⟨by decide, by decide⟩ ⟨Nat.zero_le _, Nat.zero_le _⟩ rfl (Nat.le_of_ble_eq_true rfl) rfl ?_
      obtain rfl := Option.some.inj h
      exact x_iret (pc := 53) X dX8_stick_53
    · have h := ite_t c14 h
      refine x_bipush (v := (-2)) (pc := 24) X dX8_stick_24 (by decide) ?_
      obtain rfl := Option.some.inj h
      exact x_iret (pc := 26) X dX8_stick_26
  · have h := ite_t c15 h
    refine x_iconst (v := (-1)) (pc := 11) X dX8_stick_11 (by decide) ?_
    obtain rfl := Option.some.inj h
    exact x_iret (pc := 12) X dX8_stick_12
theorem dX8_feel_0 : decode cX8_feel 0 = .ok (.aload_n 0, 1) := by decide +kernel
theorem dX8_feel_1 : decode cX8_feel 1 = .ok (.getfield 19, 3) := by decide +kernel
theorem dX8_feel_4 : decode cX8_feel 4 = .ok (.iload_n 1, 1) := by decide +kernel
theorem dX8_feel_5 : decode cX8_feel 5 = .ok (.invokevirtual 139, 3) := by decide +kernel
theorem dX8_feel_8 : decode cX8_feel 8 = .ok (.ifCond .eq 14, 3) := by decide +kernel
theorem dX8_feel_11 : decode cX8_feel 11 = .ok (.aload_n 0, 1) := by decide +kernel
theorem dX8_feel_12 : decode cX8_feel 12 = .ok (.getfield 19, 3) := by decide +kernel
theorem dX8_feel_15 : decode cX8_feel 15 = .ok (.iload_n 2, 1) := by decide +kernel
theorem dX8_feel_16 : decode cX8_feel 16 = .ok (.invokevirtual 122, 3) := by decide +kernel
theorem dX8_feel_19 : decode cX8_feel 19 = .ok (.ifCond .ne 5, 3) := by decide +kernel
theorem dX8_feel_22 : decode cX8_feel 22 = .ok (.iconst (-1), 1) := by decide +kernel
theorem dX8_feel_23 : decode cX8_feel 23 = .ok (.ireturn, 1) := by decide +kernel
theorem dX8_feel_24 : decode cX8_feel 24 = .ok (.aload_n 0, 1) := by decide +kernel
theorem dX8_feel_25 : decode cX8_feel 25 = .ok (.getfield 31, 3) := by decide +kernel
theorem dX8_feel_28 : decode cX8_feel 28 = .ok (.iload_n 1, 1) := by decide +kernel
theorem dX8_feel_29 : decode cX8_feel 29 = .ok (.invokevirtual 190, 3) := by decide +kernel
theorem dX8_feel_32 : decode cX8_feel 32 = .ok (.ifCond .ne 6, 3) := by decide +kernel
theorem dX8_feel_35 : decode cX8_feel 35 = .ok (.bipush (-2), 2) := by decide +kernel
theorem dX8_feel_37 : decode cX8_feel 37 = .ok (.ireturn, 1) := by decide +kernel
theorem dX8_feel_38 : decode cX8_feel 38 = .ok (.aload_n 0, 1) := by decide +kernel
theorem dX8_feel_39 : decode cX8_feel 39 = .ok (.getfield 43, 3) := by decide +kernel
theorem dX8_feel_42 : decode cX8_feel 42 = .ok (.aload_n 0, 1) := by decide +kernel
theorem dX8_feel_43 : decode cX8_feel 43 = .ok (.getfield 31, 3) := by decide +kernel
theorem dX8_feel_46 : decode cX8_feel 46 = .ok (.invokevirtual 182, 3) := by decide +kernel
theorem dX8_feel_49 : decode cX8_feel 49 = .ok (.aload_n 0, 1) := by decide +kernel
theorem dX8_feel_50 : decode cX8_feel 50 = .ok (.getfield 31, 3) := by decide +kernel
theorem dX8_feel_53 : decode cX8_feel 53 = .ok (.iload_n 1, 1) := by decide +kernel
theorem dX8_feel_54 : decode cX8_feel 54 = .ok (.iload_n 2, 1) := by decide +kernel
theorem dX8_feel_55 : decode cX8_feel 55 = .ok (.invokevirtual 193, 3) := by decide +kernel
theorem dX8_feel_58 : decode cX8_feel 58 = .ok (.aload_n 0, 1) := by decide +kernel
theorem dX8_feel_59 : decode cX8_feel 59 = .ok (.getfield 31, 3) := by decide +kernel
theorem dX8_feel_62 : decode cX8_feel 62 = .ok (.iload_n 2, 1) := by decide +kernel
theorem dX8_feel_63 : decode cX8_feel 63 = .ok (.invokevirtual 130, 3) := by decide +kernel
theorem dX8_feel_66 : decode cX8_feel 66 = .ok (.ireturn, 1) := by decide +kernel
def f_H_feel (N nx : Nat) (D : Dt) (P : Ft) (a0 : Nat) (i1 : Int32) (i2 : Int32) : Option (Int32 × Dt × Ft) :=
  if kd nx a0 = 8 then
  nn (P a0 1) fun q1 =>
  if kd nx q1 = 1 then
  (f_F_hasPin N nx D P q1 i1).bind fun z2 =>
  if z2 = 0 then
    some ((-1), D, P)
  else
    (f_F_hasPerson N nx D P q1 i2).bind fun z4 =>
    if z4 = 0 then
      some ((-1), D, P)
    else
      nn (P a0 3) fun q5 =>
      if kd nx q5 = 7 then
      (f_C_canFeel N nx D P q5 i1).bind fun z6 =>
      if z6 = 0 then
        some ((-2), D, P)
      else
        nn (P a0 5) fun q8 =>
        if kd nx q8 = 6 then
        (f_S_put N nx D P q8 q5).bind fun z9 =>
        nn (z9.2 a0 3) fun q11 =>
        if kd nx q11 = 7 then
        (f_C_feelFor N nx z9.1 z9.2 q11 i1 i2).bind fun z12 =>
        (f_C_loadOf N nx z12 z9.2 q11 i2).bind fun z14 =>
        some (z14, z12, z9.2)
        else none
        else none
      else none
  else none
  else none
theorem m_H_feel : MV yX8_feel cX8_feel 3 (some .int) 2 := ⟨mT 572 (by decide +kernel) rfl, mT 570 (by decide +kernel) rfl, mT 571 (by decide +kernel) rfl, mT 54 (by decide +kernel) rfl, by decide +kernel, by decide +kernel, by decide +kernel⟩
set_option maxHeartbeats 4000000 in
set_option maxRecDepth 100000 in
theorem c_H_feel (l : Launch) (cx : Cx) (nx N : Nat) (D : Dt) (P : Ft) (a0 : Nat) (i1 : Int32) (i2 : Int32) (z : Int32 × Dt × Ft) (h : f_H_feel N nx D P a0 i1 i2 = some z) : Ct l cx yX8_feel cX8_feel 3 (some .int) 3 [.ref (cx.2.2 + a0), .int i1, .int i2] D P nx (some (.int z.1)) z.2.1 z.2.2 := by
  refine x_met0 (by decide) (Nat.le_of_ble_eq_true rfl) ?_
  intro p e s m args below meth c X
  have X : XC p s m args meth c cx cX8_feel 3 (some .int) "HeartPins" "feel" := X
  refine XW.sub (lv' := [(0, .ref (cx.2.2 + a0)), (1, .int i1), (2, .int i2)]) [0, 1, 2] rfl ?_
  unfold f_H_feel at h
  obtain ⟨hk0, h⟩ := grd h
  refine x_aload_n (pc := 0) X dX8_feel_0 (i := 0) rfl 0 rfl ?_
  obtain ⟨q1, e1, h⟩ := nns h
  refine x_getr (ci := 8) (k := 1) (n := 11) (C := RX8) (T := TX8) (pc := 1) X dX8_feel_1 hk0 rfl (by decide) w_422 rfl e1 ?_
  refine x_iload_n (pc := 4) X dX8_feel_4 (i := 1) rfl 1 rfl ?_
  obtain ⟨k3, h⟩ := grd h
  obtain ⟨z2, e2, h⟩ := bnds h
  refine x_callV (pc := 5) (As := [.int i1]) (st := []) (st' := [.int z2]) X (c_F_hasPin l cx nx N D P _ _ z2 e2) dX8_feel_5 w_501 m_F_hasPin rfl k3 (ci := 1) rfl rfl ⟨by decide, by decide⟩ ⟨Nat.zero_le _, Nat.zero_le _⟩ rfl (Nat.le_of_ble_eq_true rfl) rfl ?_
  refine x_if_eq (tgt := 22) (pc := 8) X dX8_feel_8 (by decide) (fun c17 => ?_) (fun c17 => ?_)
  · have h := ite_t c17 h
    refine x_iconst (v := (-1)) (pc := 22) X dX8_feel_22 (by decide) ?_
    obtain rfl := Option.some.inj h
    exact x_iret (pc := 23) X dX8_feel_23
  · have h := ite_f c17 h
    refine x_aload_n (pc := 11) X dX8_feel_11 (i := 0) rfl 0 rfl ?_
    refine x_getr (ci := 8) (k := 1) (n := 11) (C := RX8) (T := TX8) (pc := 12) X dX8_feel_12 hk0 rfl (by decide) w_422 rfl e1 ?_
    refine x_iload_n (pc := 15) X dX8_feel_15 (i := 2) rfl 2 rfl ?_
    obtain ⟨z4, e4, h⟩ := bnds h
    refine x_callV (pc := 16) (As := [.int i2]) (st := []) (st' := [.int z4]) X (c_F_hasPerson l cx nx N D P _ _ z4 e4) dX8_feel_16 w_474 m_F_hasPerson rfl k3 (ci := 1) rfl rfl ⟨by decide, by decide⟩ ⟨Nat.zero_le _, Nat.zero_le _⟩ rfl (Nat.le_of_ble_eq_true rfl) rfl ?_
    refine x_if_ne (tgt := 24) (pc := 19) X dX8_feel_19 (by decide) (fun c16 => ?_) (fun c16 => ?_)
    · have h := ite_f c16 h
      refine x_aload_n (pc := 24) X dX8_feel_24 (i := 0) rfl 0 rfl ?_
      obtain ⟨q5, e5, h⟩ := nns h
      refine x_getr (ci := 8) (k := 3) (n := 11) (C := RX8) (T := TX8) (pc := 25) X dX8_feel_25 hk0 rfl (by decide) w_424 rfl e5 ?_
      refine x_iload_n (pc := 28) X dX8_feel_28 (i := 1) rfl 1 rfl ?_
      obtain ⟨k7, h⟩ := grd h
      obtain ⟨z6, e6, h⟩ := bnds h
      refine x_callV (pc := 29) (As := [.int i1]) (st := []) (st' := [.int z6]) X (c_C_canFeel l cx nx N D P _ _ z6 e6) dX8_feel_29 w_573 m_C_canFeel rfl k7 (ci := 7) rfl rfl ⟨by decide, by decide⟩ ⟨Nat.zero_le _, Nat.zero_le _⟩ rfl (Nat.le_of_ble_eq_true rfl) rfl ?_
      refine x_if_ne (tgt := 38) (pc := 32) X dX8_feel_32 (by decide) (fun c15 => ?_) (fun c15 => ?_)
      · have h := ite_f c15 h
        refine x_aload_n (pc := 38) X dX8_feel_38 (i := 0) rfl 0 rfl ?_
        obtain ⟨q8, e8, h⟩ := nns h
        refine x_getr (ci := 8) (k := 5) (n := 11) (C := RX8) (T := TX8) (pc := 39) X dX8_feel_39 hk0 rfl (by decide) w_426 rfl e8 ?_
        refine x_aload_n (pc := 42) X dX8_feel_42 (i := 0) rfl 0 rfl ?_
        refine x_getr (ci := 8) (k := 3) (n := 11) (C := RX8) (T := TX8) (pc := 43) X dX8_feel_43 hk0 rfl (by decide) w_424 rfl e5 ?_
        obtain ⟨k10, h⟩ := grd h
        obtain ⟨z9, e9, h⟩ := bnds h
        refine x_callV (pc := 46) (As := [.ref (cx.2.2 + q5)]) (st := []) (st' := []) X (c_S_put l cx nx N D P _ _ z9 e9) dX8_feel_46 w_548 m_S_put rfl k10 (ci := 6) rfl rfl ⟨by decide, by decide⟩ ⟨Nat.zero_le _, Nat.zero_le _⟩ rfl (Nat.le_of_ble_eq_true rfl) rfl ?_
        refine x_aload_n (pc := 49) X dX8_feel_49 (i := 0) rfl 0 rfl ?_
        obtain ⟨q11, e11, h⟩ := nns h
        refine x_getr (ci := 8) (k := 3) (n := 11) (C := RX8) (T := TX8) (pc := 50) X dX8_feel_50 hk0 rfl (by decide) w_424 rfl e11 ?_
        refine x_iload_n (pc := 53) X dX8_feel_53 (i := 1) rfl 1 rfl ?_
        refine x_iload_n (pc := 54) X dX8_feel_54 (i := 2) rfl 2 rfl ?_
        obtain ⟨k13, h⟩ := grd h
        obtain ⟨z12, e12, h⟩ := bnds h
        refine x_callV (pc := 55) (As := [.int i1, .int i2]) (st := []) (st' := []) X (c_C_feelFor l cx nx N z9.1 z9.2 _ _ _ z12 e12) dX8_feel_55 w_577 m_C_feelFor rfl k13 (ci := 7) rfl rfl ⟨by decide, by decide⟩ ⟨Nat.zero_le _, Nat.zero_le _⟩ rfl (Nat.le_of_ble_eq_true rfl) rfl ?_
        refine x_aload_n (pc := 58) X dX8_feel_58 (i := 0) rfl 0 rfl ?_
        refine x_getr (ci := 8) (k := 3) (n := 11) (C := RX8) (T := TX8) (pc := 59) X dX8_feel_59 hk0 rfl (by decide) w_424 rfl e11 ?_
        refine x_iload_n (pc := 62) X dX8_feel_62 (i := 2) rfl 2 rfl ?_
        obtain ⟨z14, e14, h⟩ := bnds h
        refine x_callV (pc := 63) (As := [.int i2]) (st := []) (st' := [.int z14]) X (c_C_loadOf l cx nx N z12 z9.2 _ _ z14 e14) dX8_feel_63 w_479 m_C_loadOf rfl k13 (ci := 7) rfl rfl ⟨by decide, by decide⟩ ⟨Nat.zero_le _, Nat.zero_le _⟩ rfl (Nat.le_of_ble_eq_true rfl) rfl ?_
        obtain rfl := Option.some.inj h
        exact x_iret (pc := 66) X dX8_feel_66
      · have h := ite_t c15 h
        refine x_bipush (v := (-2)) (pc := 35) X dX8_feel_35 (by decide) ?_
        obtain rfl := Option.some.inj h
        exact x_iret (pc := 37) X dX8_feel_37
    · have h := ite_t c16 h
      refine x_iconst (v := (-1)) (pc := 22) X dX8_feel_22 (by decide) ?_
      obtain rfl := Option.some.inj h
      exact x_iret (pc := 23) X dX8_feel_23
theorem dX8_bear_0 : decode cX8_bear 0 = .ok (.aload_n 0, 1) := by decide +kernel
theorem dX8_bear_1 : decode cX8_bear 1 = .ok (.getfield 19, 3) := by decide +kernel
theorem dX8_bear_4 : decode cX8_bear 4 = .ok (.iload_n 1, 1) := by decide +kernel
theorem dX8_bear_5 : decode cX8_bear 5 = .ok (.invokevirtual 139, 3) := by decide +kernel
theorem dX8_bear_8 : decode cX8_bear 8 = .ok (.ifCond .eq 14, 3) := by decide +kernel
theorem dX8_bear_11 : decode cX8_bear 11 = .ok (.aload_n 0, 1) := by decide +kernel
theorem dX8_bear_12 : decode cX8_bear 12 = .ok (.getfield 19, 3) := by decide +kernel
theorem dX8_bear_15 : decode cX8_bear 15 = .ok (.iload_n 2, 1) := by decide +kernel
theorem dX8_bear_16 : decode cX8_bear 16 = .ok (.invokevirtual 122, 3) := by decide +kernel
theorem dX8_bear_19 : decode cX8_bear 19 = .ok (.ifCond .ne 5, 3) := by decide +kernel
theorem dX8_bear_22 : decode cX8_bear 22 = .ok (.iconst (-1), 1) := by decide +kernel
theorem dX8_bear_23 : decode cX8_bear 23 = .ok (.ireturn, 1) := by decide +kernel
theorem dX8_bear_24 : decode cX8_bear 24 = .ok (.aload_n 0, 1) := by decide +kernel
theorem dX8_bear_25 : decode cX8_bear 25 = .ok (.getfield 31, 3) := by decide +kernel
theorem dX8_bear_28 : decode cX8_bear 28 = .ok (.iload_n 1, 1) := by decide +kernel
theorem dX8_bear_29 : decode cX8_bear 29 = .ok (.iload_n 2, 1) := by decide +kernel
theorem dX8_bear_30 : decode cX8_bear 30 = .ok (.invokevirtual 197, 3) := by decide +kernel
theorem dX8_bear_33 : decode cX8_bear 33 = .ok (.ifCond .ne 6, 3) := by decide +kernel
theorem dX8_bear_36 : decode cX8_bear 36 = .ok (.bipush (-2), 2) := by decide +kernel
theorem dX8_bear_38 : decode cX8_bear 38 = .ok (.ireturn, 1) := by decide +kernel
theorem dX8_bear_39 : decode cX8_bear 39 = .ok (.aload_n 0, 1) := by decide +kernel
theorem dX8_bear_40 : decode cX8_bear 40 = .ok (.getfield 31, 3) := by decide +kernel
theorem dX8_bear_43 : decode cX8_bear 43 = .ok (.iload_n 1, 1) := by decide +kernel
theorem dX8_bear_44 : decode cX8_bear 44 = .ok (.invokevirtual 151, 3) := by decide +kernel
theorem dX8_bear_47 : decode cX8_bear 47 = .ok (.istore_n 3, 1) := by decide +kernel
theorem dX8_bear_48 : decode cX8_bear 48 = .ok (.aload_n 0, 1) := by decide +kernel
theorem dX8_bear_49 : decode cX8_bear 49 = .ok (.getfield 43, 3) := by decide +kernel
theorem dX8_bear_52 : decode cX8_bear 52 = .ok (.aload_n 0, 1) := by decide +kernel
theorem dX8_bear_53 : decode cX8_bear 53 = .ok (.getfield 31, 3) := by decide +kernel
theorem dX8_bear_56 : decode cX8_bear 56 = .ok (.invokevirtual 182, 3) := by decide +kernel
theorem dX8_bear_59 : decode cX8_bear 59 = .ok (.aload_n 0, 1) := by decide +kernel
theorem dX8_bear_60 : decode cX8_bear 60 = .ok (.getfield 31, 3) := by decide +kernel
theorem dX8_bear_63 : decode cX8_bear 63 = .ok (.iload_n 1, 1) := by decide +kernel
theorem dX8_bear_64 : decode cX8_bear 64 = .ok (.iload_n 2, 1) := by decide +kernel
theorem dX8_bear_65 : decode cX8_bear 65 = .ok (.invokevirtual 201, 3) := by decide +kernel
theorem dX8_bear_68 : decode cX8_bear 68 = .ok (.iload_n 3, 1) := by decide +kernel
theorem dX8_bear_69 : decode cX8_bear 69 = .ok (.ireturn, 1) := by decide +kernel
def f_H_bear (N nx : Nat) (D : Dt) (P : Ft) (a0 : Nat) (i1 : Int32) (i2 : Int32) : Option (Int32 × Dt × Ft) :=
  if kd nx a0 = 8 then
  nn (P a0 1) fun q1 =>
  if kd nx q1 = 1 then
  (f_F_hasPin N nx D P q1 i1).bind fun z2 =>
  if z2 = 0 then
    some ((-1), D, P)
  else
    (f_F_hasPerson N nx D P q1 i2).bind fun z4 =>
    if z4 = 0 then
      some ((-1), D, P)
    else
      nn (P a0 3) fun q5 =>
      if kd nx q5 = 7 then
      (f_C_canGive N nx D P q5 i1 i2).bind fun z6 =>
      if z6 = 0 then
        some ((-2), D, P)
      else
        (f_C_whereIs N nx D P q5 i1).bind fun z8 =>
        nn (P a0 5) fun q9 =>
        if kd nx q9 = 6 then
        (f_S_put N nx D P q9 q5).bind fun z10 =>
        nn (z10.2 a0 3) fun q12 =>
        if kd nx q12 = 7 then
        (f_C_giveTo N nx z10.1 z10.2 q12 i1 i2).bind fun z13 =>
        some (z8, z13, z10.2)
        else none
        else none
      else none
  else none
  else none
theorem m_H_bear : MV yX8_bear cX8_bear 4 (some .int) 2 := ⟨mT 586 (by decide +kernel) rfl, mT 584 (by decide +kernel) rfl, mT 585 (by decide +kernel) rfl, mT 54 (by decide +kernel) rfl, by decide +kernel, by decide +kernel, by decide +kernel⟩
set_option maxHeartbeats 4000000 in
set_option maxRecDepth 100000 in
theorem c_H_bear (l : Launch) (cx : Cx) (nx N : Nat) (D : Dt) (P : Ft) (a0 : Nat) (i1 : Int32) (i2 : Int32) (z : Int32 × Dt × Ft) (h : f_H_bear N nx D P a0 i1 i2 = some z) : Ct l cx yX8_bear cX8_bear 4 (some .int) 3 [.ref (cx.2.2 + a0), .int i1, .int i2] D P nx (some (.int z.1)) z.2.1 z.2.2 := by
  refine x_met0 (by decide) (Nat.le_of_ble_eq_true rfl) ?_
  intro p e s m args below meth c X
  have X : XC p s m args meth c cx cX8_bear 4 (some .int) "HeartPins" "bear" := X
  refine XW.sub (lv' := [(0, .ref (cx.2.2 + a0)), (1, .int i1), (2, .int i2)]) [0, 1, 2] rfl ?_
  unfold f_H_bear at h
  obtain ⟨hk0, h⟩ := grd h
  refine x_aload_n (pc := 0) X dX8_bear_0 (i := 0) rfl 0 rfl ?_
  obtain ⟨q1, e1, h⟩ := nns h
  refine x_getr (ci := 8) (k := 1) (n := 11) (C := RX8) (T := TX8) (pc := 1) X dX8_bear_1 hk0 rfl (by decide) w_422 rfl e1 ?_
  refine x_iload_n (pc := 4) X dX8_bear_4 (i := 1) rfl 1 rfl ?_
  obtain ⟨k3, h⟩ := grd h
  obtain ⟨z2, e2, h⟩ := bnds h
  refine x_callV (pc := 5) (As := [.int i1]) (st := []) (st' := [.int z2]) X (c_F_hasPin l cx nx N D P _ _ z2 e2) dX8_bear_5 w_501 m_F_hasPin rfl k3 (ci := 1) rfl rfl ⟨by decide, by decide⟩ ⟨Nat.zero_le _, Nat.zero_le _⟩ rfl (Nat.le_of_ble_eq_true rfl) rfl ?_
  refine x_if_eq (tgt := 22) (pc := 8) X dX8_bear_8 (by decide) (fun c17 => ?_) (fun c17 => ?_)
  · have h := ite_t c17 h
    refine x_iconst (v := (-1)) (pc := 22) X dX8_bear_22 (by decide) ?_
    obtain rfl := Option.some.inj h
    exact x_iret (pc := 23) X dX8_bear_23
  · have h := ite_f c17 h
    refine x_aload_n (pc := 11) X dX8_bear_11 (i := 0) rfl 0 rfl ?_
    refine x_getr (ci := 8) (k := 1) (n := 11) (C := RX8) (T := TX8) (pc := 12) X dX8_bear_12 hk0 rfl (by decide) w_422 rfl e1 ?_
    refine x_iload_n (pc := 15) X dX8_bear_15 (i := 2) rfl 2 rfl ?_
    obtain ⟨z4, e4, h⟩ := bnds h
    refine x_callV (pc := 16) (As := [.int i2]) (st := []) (st' := [.int z4]) X (c_F_hasPerson l cx nx N D P _ _ z4 e4) dX8_bear_16 w_474 m_F_hasPerson rfl k3 (ci := 1) rfl rfl ⟨by decide, by decide⟩ ⟨Nat.zero_le _, Nat.zero_le _⟩ rfl (Nat.le_of_ble_eq_true rfl) rfl ?_
    refine x_if_ne (tgt := 24) (pc := 19) X dX8_bear_19 (by decide) (fun c16 => ?_) (fun c16 => ?_)
    · have h := ite_f c16 h
      refine x_aload_n (pc := 24) X dX8_bear_24 (i := 0) rfl 0 rfl ?_
      obtain ⟨q5, e5, h⟩ := nns h
      refine x_getr (ci := 8) (k := 3) (n := 11) (C := RX8) (T := TX8) (pc := 25) X dX8_bear_25 hk0 rfl (by decide) w_424 rfl e5 ?_
      refine x_iload_n (pc := 28) X dX8_bear_28 (i := 1) rfl 1 rfl ?_
      refine x_iload_n (pc := 29) X dX8_bear_29 (i := 2) rfl 2 rfl ?_
      obtain ⟨k7, h⟩ := grd h
      obtain ⟨z6, e6, h⟩ := bnds h
      refine x_callV (pc := 30) (As := [.int i1, .int i2]) (st := []) (st' := [.int z6]) X (c_C_canGive l cx nx N D P _ _ _ z6 e6) dX8_bear_30 w_587 m_C_canGive rfl k7 (ci := 7) rfl rfl ⟨by decide, by decide⟩ ⟨Nat.zero_le _, Nat.zero_le _⟩ rfl (Nat.le_of_ble_eq_true rfl) rfl ?_
      refine x_if_ne (tgt := 39) (pc := 33) X dX8_bear_33 (by decide) (fun c15 => ?_) (fun c15 => ?_)
      · have h := ite_f c15 h
        refine x_aload_n (pc := 39) X dX8_bear_39 (i := 0) rfl 0 rfl ?_
        refine x_getr (ci := 8) (k := 3) (n := 11) (C := RX8) (T := TX8) (pc := 40) X dX8_bear_40 hk0 rfl (by decide) w_424 rfl e5 ?_
        refine x_iload_n (pc := 43) X dX8_bear_43 (i := 1) rfl 1 rfl ?_
        obtain ⟨z8, e8, h⟩ := bnds h
        refine x_callV (pc := 44) (As := [.int i1]) (st := []) (st' := [.int z8]) X (c_C_whereIs l cx nx N D P _ _ z8 e8) dX8_bear_44 w_514 m_C_whereIs rfl k7 (ci := 7) rfl rfl ⟨by decide, by decide⟩ ⟨Nat.zero_le _, Nat.zero_le _⟩ rfl (Nat.le_of_ble_eq_true rfl) rfl ?_
        refine x_istore_n (lv' := [(3, .int z8), (0, .ref (cx.2.2 + a0)), (1, .int i1), (2, .int i2)]) (pc := 47) X dX8_bear_47 (i := 3) rfl (by decide) rfl ?_
        refine x_aload_n (pc := 48) X dX8_bear_48 (i := 0) rfl 1 rfl ?_
        obtain ⟨q9, e9, h⟩ := nns h
        refine x_getr (ci := 8) (k := 5) (n := 11) (C := RX8) (T := TX8) (pc := 49) X dX8_bear_49 hk0 rfl (by decide) w_426 rfl e9 ?_
        refine x_aload_n (pc := 52) X dX8_bear_52 (i := 0) rfl 1 rfl ?_
        refine x_getr (ci := 8) (k := 3) (n := 11) (C := RX8) (T := TX8) (pc := 53) X dX8_bear_53 hk0 rfl (by decide) w_424 rfl e5 ?_
        obtain ⟨k11, h⟩ := grd h
        obtain ⟨z10, e10, h⟩ := bnds h
        refine x_callV (pc := 56) (As := [.ref (cx.2.2 + q5)]) (st := []) (st' := []) X (c_S_put l cx nx N D P _ _ z10 e10) dX8_bear_56 w_548 m_S_put rfl k11 (ci := 6) rfl rfl ⟨by decide, by decide⟩ ⟨Nat.zero_le _, Nat.zero_le _⟩ rfl (Nat.le_of_ble_eq_true rfl) rfl ?_
        refine x_aload_n (pc := 59) X dX8_bear_59 (i := 0) rfl 1 rfl ?_
        obtain ⟨q12, e12, h⟩ := nns h
        refine x_getr (ci := 8) (k := 3) (n := 11) (C := RX8) (T := TX8) (pc := 60) X dX8_bear_60 hk0 rfl (by decide) w_424 rfl e12 ?_
        refine x_iload_n (pc := 63) X dX8_bear_63 (i := 1) rfl 2 rfl ?_
        refine x_iload_n (pc := 64) X dX8_bear_64 (i := 2) rfl 3 rfl ?_
        obtain ⟨k14, h⟩ := grd h
        obtain ⟨z13, e13, h⟩ := bnds h
        refine x_callV (pc := 65) (As := [.int i1, .int i2]) (st := []) (st' := []) X (c_C_giveTo l cx nx N z10.1 z10.2 _ _ _ z13 e13) dX8_bear_65 w_591 m_C_giveTo rfl k14 (ci := 7) rfl rfl ⟨by decide, by decide⟩ ⟨Nat.zero_le _, Nat.zero_le _⟩ rfl (Nat.le_of_ble_eq_true rfl) rfl ?_
        refine x_iload_n (pc := 68) X dX8_bear_68 (i := 3) rfl 0 rfl ?_
        obtain rfl := Option.some.inj h
        exact x_iret (pc := 69) X dX8_bear_69
      · have h := ite_t c15 h
        refine x_bipush (v := (-2)) (pc := 36) X dX8_bear_36 (by decide) ?_
        obtain rfl := Option.some.inj h
        exact x_iret (pc := 38) X dX8_bear_38
    · have h := ite_t c16 h
      refine x_iconst (v := (-1)) (pc := 22) X dX8_bear_22 (by decide) ?_
      obtain rfl := Option.some.inj h
      exact x_iret (pc := 23) X dX8_bear_23
theorem dX8_pass_0 : decode cX8_pass 0 = .ok (.iload_n 1, 1) := by decide +kernel
theorem dX8_pass_1 : decode cX8_pass 1 = .ok (.iconst 1, 1) := by decide +kernel
theorem dX8_pass_2 : decode cX8_pass 2 = .ok (.bipush 24, 2) := by decide +kernel
theorem dX8_pass_4 : decode cX8_pass 4 = .ok (.invokestatic 100, 3) := by decide +kernel
theorem dX8_pass_7 : decode cX8_pass 7 = .ok (.ifCond .ne 5, 3) := by decide +kernel
theorem dX8_pass_10 : decode cX8_pass 10 = .ok (.iconst (-1), 1) := by decide +kernel
theorem dX8_pass_11 : decode cX8_pass 11 = .ok (.ireturn, 1) := by decide +kernel
theorem dX8_pass_12 : decode cX8_pass 12 = .ok (.aload_n 0, 1) := by decide +kernel
theorem dX8_pass_13 : decode cX8_pass 13 = .ok (.getfield 43, 3) := by decide +kernel
theorem dX8_pass_16 : decode cX8_pass 16 = .ok (.aload_n 0, 1) := by decide +kernel
theorem dX8_pass_17 : decode cX8_pass 17 = .ok (.getfield 31, 3) := by decide +kernel
theorem dX8_pass_20 : decode cX8_pass 20 = .ok (.invokevirtual 182, 3) := by decide +kernel
theorem dX8_pass_23 : decode cX8_pass 23 = .ok (.aload_n 0, 1) := by decide +kernel
theorem dX8_pass_24 : decode cX8_pass 24 = .ok (.getfield 31, 3) := by decide +kernel
theorem dX8_pass_27 : decode cX8_pass 27 = .ok (.iload_n 1, 1) := by decide +kernel
theorem dX8_pass_28 : decode cX8_pass 28 = .ok (.invokevirtual 204, 3) := by decide +kernel
theorem dX8_pass_31 : decode cX8_pass 31 = .ok (.aload_n 0, 1) := by decide +kernel
theorem dX8_pass_32 : decode cX8_pass 32 = .ok (.getfield 31, 3) := by decide +kernel
theorem dX8_pass_35 : decode cX8_pass 35 = .ok (.getfield 207, 3) := by decide +kernel
theorem dX8_pass_38 : decode cX8_pass 38 = .ok (.ireturn, 1) := by decide +kernel
def f_H_pass (N nx : Nat) (D : Dt) (P : Ft) (a0 : Nat) (i1 : Int32) : Option (Int32 × Dt × Ft) :=
  if kd nx a0 = 8 then
  (f_H_isWithin N nx D P i1 1 24).bind fun z1 =>
  if z1 = 0 then
    some ((-1), D, P)
  else
    nn (P a0 5) fun q2 =>
    nn (P a0 3) fun q3 =>
    if kd nx q2 = 6 then
    (f_S_put N nx D P q2 q3).bind fun z4 =>
    nn (z4.2 a0 3) fun q6 =>
    if kd nx q6 = 7 then
    (f_C_goDays N nx z4.1 z4.2 q6 i1).bind fun z7 =>
    some (z7 q6 4, z7, z4.2)
    else none
    else none
  else none
theorem m_H_pass : MV yX8_pass cX8_pass 2 (some .int) 1 := ⟨mT 599 (by decide +kernel) rfl, mT 597 (by decide +kernel) rfl, mT 598 (by decide +kernel) rfl, mT 54 (by decide +kernel) rfl, by decide +kernel, by decide +kernel, by decide +kernel⟩
set_option maxHeartbeats 4000000 in
set_option maxRecDepth 100000 in
theorem c_H_pass (l : Launch) (cx : Cx) (nx N : Nat) (D : Dt) (P : Ft) (a0 : Nat) (i1 : Int32) (z : Int32 × Dt × Ft) (h : f_H_pass N nx D P a0 i1 = some z) : Ct l cx yX8_pass cX8_pass 2 (some .int) 5 [.ref (cx.2.2 + a0), .int i1] D P nx (some (.int z.1)) z.2.1 z.2.2 := by
  refine x_met0 (by decide) (Nat.le_of_ble_eq_true rfl) ?_
  intro p e s m args below meth c X
  have X : XC p s m args meth c cx cX8_pass 2 (some .int) "HeartPins" "pass" := X
  refine XW.sub (lv' := [(0, .ref (cx.2.2 + a0)), (1, .int i1)]) [0, 1] rfl ?_
  unfold f_H_pass at h
  obtain ⟨hk0, h⟩ := grd h
  refine x_iload_n (pc := 0) X dX8_pass_0 (i := 1) rfl 1 rfl ?_
  refine x_iconst (v := 1) (pc := 1) X dX8_pass_1 (by decide) ?_
  refine x_bipush (v := 24) (pc := 2) X dX8_pass_2 (by decide) ?_
  obtain ⟨z1, e1, h⟩ := bnds h
  refine x_callS (pc := 4) (As := [.int i1, .int 1, .int 24]) (st := []) (st' := [.int z1]) X (c_H_isWithin l cx nx N D P _ _ _ z1 e1) dX8_pass_4 w_460 m_H_isWithin rfl ⟨by decide, by decide⟩ ⟨Nat.zero_le _, Nat.zero_le _⟩ rfl (Nat.le_of_ble_eq_true rfl) rfl ?_
  refine x_if_ne (tgt := 12) (pc := 7) X dX8_pass_7 (by decide) (fun c9 => ?_) (fun c9 => ?_)
  · have h := ite_f c9 h
    refine x_aload_n (pc := 12) X dX8_pass_12 (i := 0) rfl 0 rfl ?_
    obtain ⟨q2, e2, h⟩ := nns h
    refine x_getr (ci := 8) (k := 5) (n := 11) (C := RX8) (T := TX8) (pc := 13) X dX8_pass_13 hk0 rfl (by decide) w_426 rfl e2 ?_
    refine x_aload_n (pc := 16) X dX8_pass_16 (i := 0) rfl 0 rfl ?_
    obtain ⟨q3, e3, h⟩ := nns h
    refine x_getr (ci := 8) (k := 3) (n := 11) (C := RX8) (T := TX8) (pc := 17) X dX8_pass_17 hk0 rfl (by decide) w_424 rfl e3 ?_
    obtain ⟨k5, h⟩ := grd h
    obtain ⟨z4, e4, h⟩ := bnds h
    refine x_callV (pc := 20) (As := [.ref (cx.2.2 + q3)]) (st := []) (st' := []) X (c_S_put l cx nx N D P _ _ z4 e4) dX8_pass_20 w_548 m_S_put rfl k5 (ci := 6) rfl rfl ⟨by decide, by decide⟩ ⟨Nat.zero_le _, Nat.zero_le _⟩ rfl (Nat.le_of_ble_eq_true rfl) rfl ?_
    refine x_aload_n (pc := 23) X dX8_pass_23 (i := 0) rfl 0 rfl ?_
    obtain ⟨q6, e6, h⟩ := nns h
    refine x_getr (ci := 8) (k := 3) (n := 11) (C := RX8) (T := TX8) (pc := 24) X dX8_pass_24 hk0 rfl (by decide) w_424 rfl e6 ?_
    refine x_iload_n (pc := 27) X dX8_pass_27 (i := 1) rfl 1 rfl ?_
    obtain ⟨k8, h⟩ := grd h
    obtain ⟨z7, e7, h⟩ := bnds h
    refine x_callV (pc := 28) (As := [.int i1]) (st := []) (st' := []) X (c_C_goDays l cx nx N z4.1 z4.2 _ _ z7 e7) dX8_pass_28 w_600 m_C_goDays rfl k8 (ci := 7) rfl rfl ⟨by decide, by decide⟩ ⟨Nat.zero_le _, Nat.zero_le _⟩ rfl (Nat.le_of_ble_eq_true rfl) rfl ?_
    refine x_aload_n (pc := 31) X dX8_pass_31 (i := 0) rfl 0 rfl ?_
    refine x_getr (ci := 8) (k := 3) (n := 11) (C := RX8) (T := TX8) (pc := 32) X dX8_pass_32 hk0 rfl (by decide) w_424 rfl e6 ?_
    refine x_geti (ci := 7) (k := 4) (n := 5) (C := RX7) (T := TX7) (pc := 35) X dX8_pass_35 k8 rfl (by decide) w_159 rfl ?_
    obtain rfl := Option.some.inj h
    exact x_iret (pc := 38) X dX8_pass_38
  · have h := ite_t c9 h
    refine x_iconst (v := (-1)) (pc := 10) X dX8_pass_10 (by decide) ?_
    obtain rfl := Option.some.inj h
    exact x_iret (pc := 11) X dX8_pass_11
theorem dX8_undo_0 : decode cX8_undo 0 = .ok (.aload_n 0, 1) := by decide +kernel
theorem dX8_undo_1 : decode cX8_undo 1 = .ok (.getfield 43, 3) := by decide +kernel
theorem dX8_undo_4 : decode cX8_undo 4 = .ok (.aload_n 0, 1) := by decide +kernel
theorem dX8_undo_5 : decode cX8_undo 5 = .ok (.getfield 31, 3) := by decide +kernel
theorem dX8_undo_8 : decode cX8_undo 8 = .ok (.invokevirtual 210, 3) := by decide +kernel
theorem dX8_undo_11 : decode cX8_undo 11 = .ok (.ifCond .eq 13, 3) := by decide +kernel
theorem dX8_undo_14 : decode cX8_undo 14 = .ok (.aload_n 0, 1) := by decide +kernel
theorem dX8_undo_15 : decode cX8_undo 15 = .ok (.getfield 43, 3) := by decide +kernel
theorem dX8_undo_18 : decode cX8_undo 18 = .ok (.getfield 214, 3) := by decide +kernel
theorem dX8_undo_21 : decode cX8_undo 21 = .ok (.goto 5, 3) := by decide +kernel
theorem dX8_undo_24 : decode cX8_undo 24 = .ok (.bipush (-2), 2) := by decide +kernel
theorem dX8_undo_26 : decode cX8_undo 26 = .ok (.ireturn, 1) := by decide +kernel
def f_H_undo (N nx : Nat) (D : Dt) (P : Ft) (a0 : Nat) : Option (Int32 × Dt) :=
  if kd nx a0 = 8 then
  nn (P a0 5) fun q1 =>
  nn (P a0 3) fun q2 =>
  if kd nx q1 = 6 then
  (f_S_take N nx D P q1 q2).bind fun z3 =>
  if z3.1 = 0 then
    some ((-2), z3.2)
  else
    some (z3.2 q1 1, z3.2)
  else none
  else none
theorem m_H_undo : MV yX8_undo cX8_undo 1 (some .int) 0 := ⟨mT 629 (by decide +kernel) rfl, mT 627 (by decide +kernel) rfl, mT 628 (by decide +kernel) rfl, mT 54 (by decide +kernel) rfl, by decide +kernel, by decide +kernel, by decide +kernel⟩
set_option maxHeartbeats 4000000 in
set_option maxRecDepth 100000 in
theorem c_H_undo (l : Launch) (cx : Cx) (nx N : Nat) (D : Dt) (P : Ft) (a0 : Nat) (z : Int32 × Dt) (h : f_H_undo N nx D P a0 = some z) : Ct l cx yX8_undo cX8_undo 1 (some .int) 2 [.ref (cx.2.2 + a0)] D P nx (some (.int z.1)) z.2 P := by
  refine x_met0 (by decide) (Nat.le_of_ble_eq_true rfl) ?_
  intro p e s m args below meth c X
  have X : XC p s m args meth c cx cX8_undo 1 (some .int) "HeartPins" "undo" := X
  refine XW.sub (lv' := [(0, .ref (cx.2.2 + a0))]) [0] rfl ?_
  unfold f_H_undo at h
  obtain ⟨hk0, h⟩ := grd h
  refine x_aload_n (pc := 0) X dX8_undo_0 (i := 0) rfl 0 rfl ?_
  obtain ⟨q1, e1, h⟩ := nns h
  refine x_getr (ci := 8) (k := 5) (n := 11) (C := RX8) (T := TX8) (pc := 1) X dX8_undo_1 hk0 rfl (by decide) w_426 rfl e1 ?_
  refine x_aload_n (pc := 4) X dX8_undo_4 (i := 0) rfl 0 rfl ?_
  obtain ⟨q2, e2, h⟩ := nns h
  refine x_getr (ci := 8) (k := 3) (n := 11) (C := RX8) (T := TX8) (pc := 5) X dX8_undo_5 hk0 rfl (by decide) w_424 rfl e2 ?_
  obtain ⟨k4, h⟩ := grd h
  obtain ⟨z3, e3, h⟩ := bnds h
  refine x_callV (pc := 8) (As := [.ref (cx.2.2 + q2)]) (st := []) (st' := [.int z3.1]) X (c_S_take l cx nx N D P _ _ z3 e3) dX8_undo_8 w_630 m_S_take rfl k4 (ci := 6) rfl rfl ⟨by decide, by decide⟩ ⟨Nat.zero_le _, Nat.zero_le _⟩ rfl (Nat.le_of_ble_eq_true rfl) rfl ?_
  refine x_if_eq (tgt := 24) (pc := 11) X dX8_undo_11 (by decide) (fun c5 => ?_) (fun c5 => ?_)
  · have h := ite_t c5 h
    refine x_bipush (v := (-2)) (pc := 24) X dX8_undo_24 (by decide) ?_
    obtain rfl := Option.some.inj h
    exact x_iret (pc := 26) X dX8_undo_26
  · have h := ite_f c5 h
    refine x_aload_n (pc := 14) X dX8_undo_14 (i := 0) rfl 0 rfl ?_
    refine x_getr (ci := 8) (k := 5) (n := 11) (C := RX8) (T := TX8) (pc := 15) X dX8_undo_15 hk0 rfl (by decide) w_426 rfl e1 ?_
    refine x_geti (ci := 6) (k := 1) (n := 2) (C := RX6) (T := TX6) (pc := 18) X dX8_undo_18 k4 rfl (by decide) w_185 rfl ?_
    refine x_goto (tgt := 26) (pc := 21) X dX8_undo_21 (by decide) ?_
    obtain rfl := Option.some.inj h
    exact x_iret (pc := 26) X dX8_undo_26
theorem dX8_lookBehind_0 : decode cX8_lookBehind 0 = .ok (.aload_n 0, 1) := by decide +kernel
theorem dX8_lookBehind_1 : decode cX8_lookBehind 1 = .ok (.getfield 35, 3) := by decide +kernel
theorem dX8_lookBehind_4 : decode cX8_lookBehind 4 = .ok (.aload_n 0, 1) := by decide +kernel
theorem dX8_lookBehind_5 : decode cX8_lookBehind 5 = .ok (.getfield 31, 3) := by decide +kernel
theorem dX8_lookBehind_8 : decode cX8_lookBehind 8 = .ok (.invokevirtual 220, 3) := by decide +kernel
theorem dX8_lookBehind_11 : decode cX8_lookBehind 11 = .ok (.aload_n 0, 1) := by decide +kernel
theorem dX8_lookBehind_12 : decode cX8_lookBehind 12 = .ok (.getfield 35, 3) := by decide +kernel
theorem dX8_lookBehind_15 : decode cX8_lookBehind 15 = .ok (.iload_n 1, 1) := by decide +kernel
theorem dX8_lookBehind_16 : decode cX8_lookBehind 16 = .ok (.invokevirtual 204, 3) := by decide +kernel
theorem dX8_lookBehind_19 : decode cX8_lookBehind 19 = .ok (.return_, 1) := by decide +kernel
def f_H_lookBehind (N nx : Nat) (D : Dt) (P : Ft) (a0 : Nat) (i1 : Int32) : Option Dt :=
  if kd nx a0 = 8 then
  nn (P a0 4) fun q1 =>
  nn (P a0 3) fun q2 =>
  if kd nx q1 = 7 then
  (f_C_copyFrom N nx D P q1 q2).bind fun z3 =>
  (f_C_goDays N nx z3 P q1 i1).bind fun z5 =>
  some z5
  else none
  else none
theorem m_H_lookBehind : MV yX8_lookBehind cX8_lookBehind 2 none 1 := ⟨mT 641 (by decide +kernel) rfl, mT 640 (by decide +kernel) rfl, mT 9 (by decide +kernel) rfl, mT 54 (by decide +kernel) rfl, by decide +kernel, by decide +kernel, by decide +kernel⟩
set_option maxHeartbeats 4000000 in
set_option maxRecDepth 100000 in
theorem c_H_lookBehind (l : Launch) (cx : Cx) (nx N : Nat) (D : Dt) (P : Ft) (a0 : Nat) (i1 : Int32) (z : Dt) (h : f_H_lookBehind N nx D P a0 i1 = some z) : Ct l cx yX8_lookBehind cX8_lookBehind 2 none 5 [.ref (cx.2.2 + a0), .int i1] D P nx none z P := by
  refine x_met0 (by decide) (Nat.le_of_ble_eq_true rfl) ?_
  intro p e s m args below meth c X
  have X : XC p s m args meth c cx cX8_lookBehind 2 none "HeartPins" "lookBehind" := X
  refine XW.sub (lv' := [(0, .ref (cx.2.2 + a0)), (1, .int i1)]) [0, 1] rfl ?_
  unfold f_H_lookBehind at h
  obtain ⟨hk0, h⟩ := grd h
  refine x_aload_n (pc := 0) X dX8_lookBehind_0 (i := 0) rfl 0 rfl ?_
  obtain ⟨q1, e1, h⟩ := nns h
  refine x_getr (ci := 8) (k := 4) (n := 11) (C := RX8) (T := TX8) (pc := 1) X dX8_lookBehind_1 hk0 rfl (by decide) w_425 rfl e1 ?_
  refine x_aload_n (pc := 4) X dX8_lookBehind_4 (i := 0) rfl 0 rfl ?_
  obtain ⟨q2, e2, h⟩ := nns h
  refine x_getr (ci := 8) (k := 3) (n := 11) (C := RX8) (T := TX8) (pc := 5) X dX8_lookBehind_5 hk0 rfl (by decide) w_424 rfl e2 ?_
  obtain ⟨k4, h⟩ := grd h
  obtain ⟨z3, e3, h⟩ := bnds h
  refine x_callV (pc := 8) (As := [.ref (cx.2.2 + q2)]) (st := []) (st' := []) X (c_C_copyFrom l cx nx N D P _ _ z3 e3) dX8_lookBehind_8 w_642 m_C_copyFrom rfl k4 (ci := 7) rfl rfl ⟨by decide, by decide⟩ ⟨Nat.zero_le _, Nat.zero_le _⟩ rfl (Nat.le_of_ble_eq_true rfl) rfl ?_
  refine x_aload_n (pc := 11) X dX8_lookBehind_11 (i := 0) rfl 0 rfl ?_
  refine x_getr (ci := 8) (k := 4) (n := 11) (C := RX8) (T := TX8) (pc := 12) X dX8_lookBehind_12 hk0 rfl (by decide) w_425 rfl e1 ?_
  refine x_iload_n (pc := 15) X dX8_lookBehind_15 (i := 1) rfl 1 rfl ?_
  obtain ⟨z5, e5, h⟩ := bnds h
  refine x_callV (pc := 16) (As := [.int i1]) (st := []) (st' := []) X (c_C_goDays l cx nx N z3 P _ _ z5 e5) dX8_lookBehind_16 w_600 m_C_goDays rfl k4 (ci := 7) rfl rfl ⟨by decide, by decide⟩ ⟨Nat.zero_le _, Nat.zero_le _⟩ rfl (Nat.le_of_ble_eq_true rfl) rfl ?_
  obtain rfl := Option.some.inj h
  exact x_vret (pc := 19) X dX8_lookBehind_19
theorem dX8_behind_0 : decode cX8_behind 0 = .ok (.iload_n 1, 1) := by decide +kernel
theorem dX8_behind_1 : decode cX8_behind 1 = .ok (.iconst 0, 1) := by decide +kernel
theorem dX8_behind_2 : decode cX8_behind 2 = .ok (.bipush 60, 2) := by decide +kernel
theorem dX8_behind_4 : decode cX8_behind 4 = .ok (.invokestatic 100, 3) := by decide +kernel
theorem dX8_behind_7 : decode cX8_behind 7 = .ok (.ifCond .eq 14, 3) := by decide +kernel
theorem dX8_behind_10 : decode cX8_behind 10 = .ok (.aload_n 0, 1) := by decide +kernel
theorem dX8_behind_11 : decode cX8_behind 11 = .ok (.getfield 19, 3) := by decide +kernel
theorem dX8_behind_14 : decode cX8_behind 14 = .ok (.iload_n 2, 1) := by decide +kernel
theorem dX8_behind_15 : decode cX8_behind 15 = .ok (.invokevirtual 122, 3) := by decide +kernel
theorem dX8_behind_18 : decode cX8_behind 18 = .ok (.ifCond .ne 5, 3) := by decide +kernel
theorem dX8_behind_21 : decode cX8_behind 21 = .ok (.iconst (-1), 1) := by decide +kernel
theorem dX8_behind_22 : decode cX8_behind 22 = .ok (.ireturn, 1) := by decide +kernel
theorem dX8_behind_23 : decode cX8_behind 23 = .ok (.aload_n 0, 1) := by decide +kernel
theorem dX8_behind_24 : decode cX8_behind 24 = .ok (.iload_n 1, 1) := by decide +kernel
theorem dX8_behind_25 : decode cX8_behind 25 = .ok (.invokevirtual 217, 3) := by decide +kernel
theorem dX8_behind_28 : decode cX8_behind 28 = .ok (.aload_n 0, 1) := by decide +kernel
theorem dX8_behind_29 : decode cX8_behind 29 = .ok (.getfield 35, 3) := by decide +kernel
theorem dX8_behind_32 : decode cX8_behind 32 = .ok (.iload_n 2, 1) := by decide +kernel
theorem dX8_behind_33 : decode cX8_behind 33 = .ok (.invokevirtual 130, 3) := by decide +kernel
theorem dX8_behind_36 : decode cX8_behind 36 = .ok (.ireturn, 1) := by decide +kernel
def f_H_behind (N nx : Nat) (D : Dt) (P : Ft) (a0 : Nat) (i1 : Int32) (i2 : Int32) : Option (Int32 × Dt) :=
  if kd nx a0 = 8 then
  (f_H_isWithin N nx D P i1 0 60).bind fun z1 =>
  if z1 = 0 then
    some ((-1), D)
  else
    nn (P a0 1) fun q2 =>
    if kd nx q2 = 1 then
    (f_F_hasPerson N nx D P q2 i2).bind fun z3 =>
    if z3 = 0 then
      some ((-1), D)
    else
      (f_H_lookBehind N nx D P a0 i1).bind fun z5 =>
      nn (P a0 4) fun q6 =>
      if kd nx q6 = 7 then
      (f_C_loadOf N nx z5 P q6 i2).bind fun z7 =>
      some (z7, z5)
      else none
    else none
  else none
theorem m_H_behind : MV yX8_behind cX8_behind 3 (some .int) 2 := ⟨mT 637 (by decide +kernel) rfl, mT 635 (by decide +kernel) rfl, mT 636 (by decide +kernel) rfl, mT 54 (by decide +kernel) rfl, by decide +kernel, by decide +kernel, by decide +kernel⟩
set_option maxHeartbeats 4000000 in
set_option maxRecDepth 100000 in
theorem c_H_behind (l : Launch) (cx : Cx) (nx N : Nat) (D : Dt) (P : Ft) (a0 : Nat) (i1 : Int32) (i2 : Int32) (z : Int32 × Dt) (h : f_H_behind N nx D P a0 i1 i2 = some z) : Ct l cx yX8_behind cX8_behind 3 (some .int) 6 [.ref (cx.2.2 + a0), .int i1, .int i2] D P nx (some (.int z.1)) z.2 P := by
  refine x_met0 (by decide) (Nat.le_of_ble_eq_true rfl) ?_
  intro p e s m args below meth c X
  have X : XC p s m args meth c cx cX8_behind 3 (some .int) "HeartPins" "behind" := X
  refine XW.sub (lv' := [(0, .ref (cx.2.2 + a0)), (1, .int i1), (2, .int i2)]) [0, 1, 2] rfl ?_
  unfold f_H_behind at h
  obtain ⟨hk0, h⟩ := grd h
  refine x_iload_n (pc := 0) X dX8_behind_0 (i := 1) rfl 1 rfl ?_
  refine x_iconst (v := 0) (pc := 1) X dX8_behind_1 (by decide) ?_
  refine x_bipush (v := 60) (pc := 2) X dX8_behind_2 (by decide) ?_
  obtain ⟨z1, e1, h⟩ := bnds h
  refine x_callS (pc := 4) (As := [.int i1, .int 0, .int 60]) (st := []) (st' := [.int z1]) X (c_H_isWithin l cx nx N D P _ _ _ z1 e1) dX8_behind_4 w_460 m_H_isWithin rfl ⟨by decide, by decide⟩ ⟨Nat.zero_le _, Nat.zero_le _⟩ rfl (Nat.le_of_ble_eq_true rfl) rfl ?_
  refine x_if_eq (tgt := 21) (pc := 7) X dX8_behind_7 (by decide) (fun c10 => ?_) (fun c10 => ?_)
  · have h := ite_t c10 h
    refine x_iconst (v := (-1)) (pc := 21) X dX8_behind_21 (by decide) ?_
    obtain rfl := Option.some.inj h
    exact x_iret (pc := 22) X dX8_behind_22
  · have h := ite_f c10 h
    refine x_aload_n (pc := 10) X dX8_behind_10 (i := 0) rfl 0 rfl ?_
    obtain ⟨q2, e2, h⟩ := nns h
    refine x_getr (ci := 8) (k := 1) (n := 11) (C := RX8) (T := TX8) (pc := 11) X dX8_behind_11 hk0 rfl (by decide) w_422 rfl e2 ?_
    refine x_iload_n (pc := 14) X dX8_behind_14 (i := 2) rfl 2 rfl ?_
    obtain ⟨k4, h⟩ := grd h
    obtain ⟨z3, e3, h⟩ := bnds h
    refine x_callV (pc := 15) (As := [.int i2]) (st := []) (st' := [.int z3]) X (c_F_hasPerson l cx nx N D P _ _ z3 e3) dX8_behind_15 w_474 m_F_hasPerson rfl k4 (ci := 1) rfl rfl ⟨by decide, by decide⟩ ⟨Nat.zero_le _, Nat.zero_le _⟩ rfl (Nat.le_of_ble_eq_true rfl) rfl ?_
    refine x_if_ne (tgt := 23) (pc := 18) X dX8_behind_18 (by decide) (fun c9 => ?_) (fun c9 => ?_)
    · have h := ite_f c9 h
      refine x_aload_n (pc := 23) X dX8_behind_23 (i := 0) rfl 0 rfl ?_
      refine x_iload_n (pc := 24) X dX8_behind_24 (i := 1) rfl 1 rfl ?_
      obtain ⟨z5, e5, h⟩ := bnds h
      refine x_callV (pc := 25) (As := [.int i1]) (st := []) (st' := []) X (c_H_lookBehind l cx nx N D P _ _ z5 e5) dX8_behind_25 w_638 m_H_lookBehind rfl hk0 (ci := 8) rfl rfl ⟨by decide, by decide⟩ ⟨Nat.zero_le _, Nat.zero_le _⟩ rfl (Nat.le_of_ble_eq_true rfl) rfl ?_
      refine x_aload_n (pc := 28) X dX8_behind_28 (i := 0) rfl 0 rfl ?_
      obtain ⟨q6, e6, h⟩ := nns h
      refine x_getr (ci := 8) (k := 4) (n := 11) (C := RX8) (T := TX8) (pc := 29) X dX8_behind_29 hk0 rfl (by decide) w_425 rfl e6 ?_
      refine x_iload_n (pc := 32) X dX8_behind_32 (i := 2) rfl 2 rfl ?_
      obtain ⟨k8, h⟩ := grd h
      obtain ⟨z7, e7, h⟩ := bnds h
      refine x_callV (pc := 33) (As := [.int i2]) (st := []) (st' := [.int z7]) X (c_C_loadOf l cx nx N z5 P _ _ z7 e7) dX8_behind_33 w_479 m_C_loadOf rfl k8 (ci := 7) rfl rfl ⟨by decide, by decide⟩ ⟨Nat.zero_le _, Nat.zero_le _⟩ rfl (Nat.le_of_ble_eq_true rfl) rfl ?_
      obtain rfl := Option.some.inj h
      exact x_iret (pc := 36) X dX8_behind_36
    · have h := ite_t c9 h
      refine x_iconst (v := (-1)) (pc := 21) X dX8_behind_21 (by decide) ?_
      obtain rfl := Option.some.inj h
      exact x_iret (pc := 22) X dX8_behind_22
theorem dX8_walked_0 : decode cX8_walked 0 = .ok (.iload_n 1, 1) := by decide +kernel
theorem dX8_walked_1 : decode cX8_walked 1 = .ok (.iconst 0, 1) := by decide +kernel
theorem dX8_walked_2 : decode cX8_walked 2 = .ok (.bipush 60, 2) := by decide +kernel
theorem dX8_walked_4 : decode cX8_walked 4 = .ok (.invokestatic 100, 3) := by decide +kernel
theorem dX8_walked_7 : decode cX8_walked 7 = .ok (.ifCond .ne 5, 3) := by decide +kernel
theorem dX8_walked_10 : decode cX8_walked 10 = .ok (.iconst (-1), 1) := by decide +kernel
theorem dX8_walked_11 : decode cX8_walked 11 = .ok (.ireturn, 1) := by decide +kernel
theorem dX8_walked_12 : decode cX8_walked 12 = .ok (.aload_n 0, 1) := by decide +kernel
theorem dX8_walked_13 : decode cX8_walked 13 = .ok (.iload_n 1, 1) := by decide +kernel
theorem dX8_walked_14 : decode cX8_walked 14 = .ok (.invokevirtual 217, 3) := by decide +kernel
theorem dX8_walked_17 : decode cX8_walked 17 = .ok (.aload_n 0, 1) := by decide +kernel
theorem dX8_walked_18 : decode cX8_walked 18 = .ok (.getfield 35, 3) := by decide +kernel
theorem dX8_walked_21 : decode cX8_walked 21 = .ok (.getfield 166, 3) := by decide +kernel
theorem dX8_walked_24 : decode cX8_walked 24 = .ok (.ireturn, 1) := by decide +kernel
def f_H_walked (N nx : Nat) (D : Dt) (P : Ft) (a0 : Nat) (i1 : Int32) : Option (Int32 × Dt) :=
  if kd nx a0 = 8 then
  (f_H_isWithin N nx D P i1 0 60).bind fun z1 =>
  if z1 = 0 then
    some ((-1), D)
  else
    (f_H_lookBehind N nx D P a0 i1).bind fun z2 =>
    nn (P a0 4) fun q3 =>
    if kd nx q3 = 7 then
    some (z2 q3 3, z2)
    else none
  else none
theorem m_H_walked : MV yX8_walked cX8_walked 2 (some .int) 1 := ⟨mT 646 (by decide +kernel) rfl, mT 644 (by decide +kernel) rfl, mT 645 (by decide +kernel) rfl, mT 54 (by decide +kernel) rfl, by decide +kernel, by decide +kernel, by decide +kernel⟩
set_option maxHeartbeats 4000000 in
set_option maxRecDepth 100000 in
theorem c_H_walked (l : Launch) (cx : Cx) (nx N : Nat) (D : Dt) (P : Ft) (a0 : Nat) (i1 : Int32) (z : Int32 × Dt) (h : f_H_walked N nx D P a0 i1 = some z) : Ct l cx yX8_walked cX8_walked 2 (some .int) 6 [.ref (cx.2.2 + a0), .int i1] D P nx (some (.int z.1)) z.2 P := by
  refine x_met0 (by decide) (Nat.le_of_ble_eq_true rfl) ?_
  intro p e s m args below meth c X
  have X : XC p s m args meth c cx cX8_walked 2 (some .int) "HeartPins" "walked" := X
  refine XW.sub (lv' := [(0, .ref (cx.2.2 + a0)), (1, .int i1)]) [0, 1] rfl ?_
  unfold f_H_walked at h
  obtain ⟨hk0, h⟩ := grd h
  refine x_iload_n (pc := 0) X dX8_walked_0 (i := 1) rfl 1 rfl ?_
  refine x_iconst (v := 0) (pc := 1) X dX8_walked_1 (by decide) ?_
  refine x_bipush (v := 60) (pc := 2) X dX8_walked_2 (by decide) ?_
  obtain ⟨z1, e1, h⟩ := bnds h
  refine x_callS (pc := 4) (As := [.int i1, .int 0, .int 60]) (st := []) (st' := [.int z1]) X (c_H_isWithin l cx nx N D P _ _ _ z1 e1) dX8_walked_4 w_460 m_H_isWithin rfl ⟨by decide, by decide⟩ ⟨Nat.zero_le _, Nat.zero_le _⟩ rfl (Nat.le_of_ble_eq_true rfl) rfl ?_
  refine x_if_ne (tgt := 12) (pc := 7) X dX8_walked_7 (by decide) (fun c5 => ?_) (fun c5 => ?_)
  · have h := ite_f c5 h
    refine x_aload_n (pc := 12) X dX8_walked_12 (i := 0) rfl 0 rfl ?_
    refine x_iload_n (pc := 13) X dX8_walked_13 (i := 1) rfl 1 rfl ?_
    obtain ⟨z2, e2, h⟩ := bnds h
    refine x_callV (pc := 14) (As := [.int i1]) (st := []) (st' := []) X (c_H_lookBehind l cx nx N D P _ _ z2 e2) dX8_walked_14 w_638 m_H_lookBehind rfl hk0 (ci := 8) rfl rfl ⟨by decide, by decide⟩ ⟨Nat.zero_le _, Nat.zero_le _⟩ rfl (Nat.le_of_ble_eq_true rfl) rfl ?_
    refine x_aload_n (pc := 17) X dX8_walked_17 (i := 0) rfl 0 rfl ?_
    obtain ⟨q3, e3, h⟩ := nns h
    refine x_getr (ci := 8) (k := 4) (n := 11) (C := RX8) (T := TX8) (pc := 18) X dX8_walked_18 hk0 rfl (by decide) w_425 rfl e3 ?_
    obtain ⟨k4, h⟩ := grd h
    refine x_geti (ci := 7) (k := 3) (n := 5) (C := RX7) (T := TX7) (pc := 21) X dX8_walked_21 k4 rfl (by decide) w_156 rfl ?_
    obtain rfl := Option.some.inj h
    exact x_iret (pc := 24) X dX8_walked_24
  · have h := ite_t c5 h
    refine x_iconst (v := (-1)) (pc := 10) X dX8_walked_10 (by decide) ?_
    obtain rfl := Option.some.inj h
    exact x_iret (pc := 11) X dX8_walked_11
theorem dX8_breaks_0 : decode cX8_breaks 0 = .ok (.aload_n 0, 1) := by decide +kernel
theorem dX8_breaks_1 : decode cX8_breaks 1 = .ok (.getfield 19, 3) := by decide +kernel
theorem dX8_breaks_4 : decode cX8_breaks 4 = .ok (.iload_n 1, 1) := by decide +kernel
theorem dX8_breaks_5 : decode cX8_breaks 5 = .ok (.invokevirtual 122, 3) := by decide +kernel
theorem dX8_breaks_8 : decode cX8_breaks 8 = .ok (.ifCond .ne 5, 3) := by decide +kernel
theorem dX8_breaks_11 : decode cX8_breaks 11 = .ok (.iconst (-1), 1) := by decide +kernel
theorem dX8_breaks_12 : decode cX8_breaks 12 = .ok (.ireturn, 1) := by decide +kernel
theorem dX8_breaks_13 : decode cX8_breaks 13 = .ok (.aload_n 0, 1) := by decide +kernel
theorem dX8_breaks_14 : decode cX8_breaks 14 = .ok (.getfield 35, 3) := by decide +kernel
theorem dX8_breaks_17 : decode cX8_breaks 17 = .ok (.aload_n 0, 1) := by decide +kernel
theorem dX8_breaks_18 : decode cX8_breaks 18 = .ok (.getfield 31, 3) := by decide +kernel
theorem dX8_breaks_21 : decode cX8_breaks 21 = .ok (.invokevirtual 220, 3) := by decide +kernel
theorem dX8_breaks_24 : decode cX8_breaks 24 = .ok (.iconst 0, 1) := by decide +kernel
theorem dX8_breaks_25 : decode cX8_breaks 25 = .ok (.istore_n 2, 1) := by decide +kernel
theorem dX8_breaks_26 : decode cX8_breaks 26 = .ok (.iload_n 2, 1) := by decide +kernel
theorem dX8_breaks_27 : decode cX8_breaks 27 = .ok (.bipush 60, 2) := by decide +kernel
theorem dX8_breaks_29 : decode cX8_breaks 29 = .ok (.if_icmp .gt 29, 3) := by decide +kernel
theorem dX8_breaks_32 : decode cX8_breaks 32 = .ok (.aload_n 0, 1) := by decide +kernel
theorem dX8_breaks_33 : decode cX8_breaks 33 = .ok (.getfield 35, 3) := by decide +kernel
theorem dX8_breaks_36 : decode cX8_breaks 36 = .ok (.iload_n 1, 1) := by decide +kernel
theorem dX8_breaks_37 : decode cX8_breaks 37 = .ok (.invokevirtual 136, 3) := by decide +kernel
theorem dX8_breaks_40 : decode cX8_breaks 40 = .ok (.ifCond .eq 5, 3) := by decide +kernel
theorem dX8_breaks_43 : decode cX8_breaks 43 = .ok (.iload_n 2, 1) := by decide +kernel
theorem dX8_breaks_44 : decode cX8_breaks 44 = .ok (.ireturn, 1) := by decide +kernel
theorem dX8_breaks_45 : decode cX8_breaks 45 = .ok (.aload_n 0, 1) := by decide +kernel
theorem dX8_breaks_46 : decode cX8_breaks 46 = .ok (.getfield 35, 3) := by decide +kernel
theorem dX8_breaks_49 : decode cX8_breaks 49 = .ok (.invokevirtual 222, 3) := by decide +kernel
theorem dX8_breaks_52 : decode cX8_breaks 52 = .ok (.iinc 2 1, 3) := by decide +kernel
theorem dX8_breaks_55 : decode cX8_breaks 55 = .ok (.goto (-29), 3) := by decide +kernel
theorem dX8_breaks_58 : decode cX8_breaks 58 = .ok (.bipush (-4), 2) := by decide +kernel
theorem dX8_breaks_60 : decode cX8_breaks 60 = .ok (.ireturn, 1) := by decide +kernel
def f_H_breaks_26 (N nx : Nat) (P : Ft) (a0 : Nat) (i1 : Int32) (rec26 : Dt → Int32 → Option (Int32 × Dt)) (D : Dt) (i2 : Int32) : Option (Int32 × Dt) :=
  if 60 < i2 then
    some ((-4), D)
  else
    nn (P a0 4) fun q8 =>
    if kd nx q8 = 7 then
    (f_C_isBroken N nx D P q8 i1).bind fun z9 =>
    if z9 = 0 then
      (f_C_goDay N nx D P q8).bind fun z11 =>
      rec26 z11 (i2 + 1)
    else
      some (i2, D)
    else none
def f_H_breaks (N nx : Nat) (D : Dt) (P : Ft) (a0 : Nat) (i1 : Int32) : Option (Int32 × Dt) :=
  if kd nx a0 = 8 then
  nn (P a0 1) fun q1 =>
  if kd nx q1 = 1 then
  (f_F_hasPerson N nx D P q1 i1).bind fun z2 =>
  if z2 = 0 then
    some ((-1), D)
  else
    nn (P a0 4) fun q4 =>
    nn (P a0 3) fun q5 =>
    if kd nx q4 = 7 then
    (f_C_copyFrom N nx D P q4 q5).bind fun z6 =>
    wk2 N (f_H_breaks_26 N nx P a0 i1) z6 0
    else none
  else none
  else none
theorem m_H_breaks : MV yX8_breaks cX8_breaks 3 (some .int) 1 := ⟨mT 650 (by decide +kernel) rfl, mT 648 (by decide +kernel) rfl, mT 649 (by decide +kernel) rfl, mT 54 (by decide +kernel) rfl, by decide +kernel, by decide +kernel, by decide +kernel⟩
set_option maxHeartbeats 4000000 in
set_option maxRecDepth 100000 in
theorem c_H_breaks (l : Launch) (cx : Cx) (nx N : Nat) (D : Dt) (P : Ft) (a0 : Nat) (i1 : Int32) (z : Int32 × Dt) (h : f_H_breaks N nx D P a0 i1 = some z) : Ct l cx yX8_breaks cX8_breaks 3 (some .int) 4 [.ref (cx.2.2 + a0), .int i1] D P nx (some (.int z.1)) z.2 P := by
  refine x_met0 (by decide) (Nat.le_of_ble_eq_true rfl) ?_
  intro p e s m args below meth c X
  have X : XC p s m args meth c cx cX8_breaks 3 (some .int) "HeartPins" "breaks" := X
  refine XW.sub (lv' := [(0, .ref (cx.2.2 + a0)), (1, .int i1)]) [0, 1] rfl ?_
  unfold f_H_breaks at h
  obtain ⟨hk0, h⟩ := grd h
  have hL26 : ∀ (n : Nat) (D : Dt) (i2 : Int32), wk2 n (f_H_breaks_26 N nx P a0 i1) D i2 = some z → XW p l e (rmk 4) s m args below meth c (MQ below (Qx cx (some (.int z.1)) z.2 P nx) args s 0 0 (AA cx)) cx 3 D P nx 0 0 26 [(0, .ref (cx.2.2 + a0)), (1, .int i1), (2, .int i2)] [] := by
    intro n
    induction n with
    | zero => intro D i2 h; exact (nonz h).elim
    | succ n ih26 =>
      intro D i2 h
      have h : f_H_breaks_26 N nx P a0 i1 (wk2 n (f_H_breaks_26 N nx P a0 i1)) D i2 = some z := h
      generalize wk2 n (f_H_breaks_26 N nx P a0 i1) = rec26 at ih26 h
      unfold f_H_breaks_26 at h
      refine x_iload_n (pc := 26) X dX8_breaks_26 (i := 2) rfl 2 rfl ?_
      refine x_bipush (v := 60) (pc := 27) X dX8_breaks_27 (by decide) ?_
      refine x_icmp_gt (tgt := 58) (pc := 29) X dX8_breaks_29 (by decide) (fun c13 => ?_) (fun c13 => ?_)
      · have h := ite_t c13 h
        refine x_bipush (v := (-4)) (pc := 58) X dX8_breaks_58 (by decide) ?_
        obtain rfl := Option.some.inj h
        exact x_iret (pc := 60) X dX8_breaks_60
      · have h := ite_f c13 h
        refine x_aload_n (pc := 32) X dX8_breaks_32 (i := 0) rfl 0 rfl ?_
        obtain ⟨q8, e8, h⟩ := nns h
        refine x_getr (ci := 8) (k := 4) (n := 11) (C := RX8) (T := TX8) (pc := 33) X dX8_breaks_33 hk0 rfl (by decide) w_425 rfl e8 ?_
        refine x_iload_n (pc := 36) X dX8_breaks_36 (i := 1) rfl 1 rfl ?_
        obtain ⟨k10, h⟩ := grd h
        obtain ⟨z9, e9, h⟩ := bnds h
        refine x_callV (pc := 37) (As := [.int i1]) (st := []) (st' := [.int z9]) X (c_C_isBroken l cx nx N D P _ _ z9 e9) dX8_breaks_37 w_491 m_C_isBroken rfl k10 (ci := 7) rfl rfl ⟨by decide, by decide⟩ ⟨Nat.zero_le _, Nat.zero_le _⟩ rfl (Nat.le_of_ble_eq_true rfl) rfl ?_
        refine x_if_eq (tgt := 45) (pc := 40) X dX8_breaks_40 (by decide) (fun c12 => ?_) (fun c12 => ?_)
        · have h := ite_t c12 h
          refine x_aload_n (pc := 45) X dX8_breaks_45 (i := 0) rfl 0 rfl ?_
          refine x_getr (ci := 8) (k := 4) (n := 11) (C := RX8) (T := TX8) (pc := 46) X dX8_breaks_46 hk0 rfl (by decide) w_425 rfl e8 ?_
          obtain ⟨z11, e11, h⟩ := bnds h
          refine x_callV (pc := 49) (As := []) (st := []) (st' := []) X (c_C_goDay l cx nx N D P _ z11 e11) dX8_breaks_49 w_651 m_C_goDay rfl k10 (ci := 7) rfl rfl ⟨by decide, by decide⟩ ⟨Nat.zero_le _, Nat.zero_le _⟩ rfl (Nat.le_of_ble_eq_true rfl) rfl ?_
          refine x_iinc (v := i2 + 1) (lv' := [(2, .int (i2 + 1)), (0, .ref (cx.2.2 + a0)), (1, .int i1)]) (pc := 52) X dX8_breaks_52 2 rfl rfl (by decide) rfl ?_
          refine x_goto (tgt := 26) (pc := 55) X dX8_breaks_55 (by decide) ?_
          exact XW.sub [1, 2, 0] rfl (ih26 _ _ h)
        · have h := ite_f c12 h
          refine x_iload_n (pc := 43) X dX8_breaks_43 (i := 2) rfl 2 rfl ?_
          obtain rfl := Option.some.inj h
          exact x_iret (pc := 44) X dX8_breaks_44
  refine x_aload_n (pc := 0) X dX8_breaks_0 (i := 0) rfl 0 rfl ?_
  obtain ⟨q1, e1, h⟩ := nns h
  refine x_getr (ci := 8) (k := 1) (n := 11) (C := RX8) (T := TX8) (pc := 1) X dX8_breaks_1 hk0 rfl (by decide) w_422 rfl e1 ?_
  refine x_iload_n (pc := 4) X dX8_breaks_4 (i := 1) rfl 1 rfl ?_
  obtain ⟨k3, h⟩ := grd h
  obtain ⟨z2, e2, h⟩ := bnds h
  refine x_callV (pc := 5) (As := [.int i1]) (st := []) (st' := [.int z2]) X (c_F_hasPerson l cx nx N D P _ _ z2 e2) dX8_breaks_5 w_474 m_F_hasPerson rfl k3 (ci := 1) rfl rfl ⟨by decide, by decide⟩ ⟨Nat.zero_le _, Nat.zero_le _⟩ rfl (Nat.le_of_ble_eq_true rfl) rfl ?_
  refine x_if_ne (tgt := 13) (pc := 8) X dX8_breaks_8 (by decide) (fun c14 => ?_) (fun c14 => ?_)
  · have h := ite_f c14 h
    refine x_aload_n (pc := 13) X dX8_breaks_13 (i := 0) rfl 0 rfl ?_
    obtain ⟨q4, e4, h⟩ := nns h
    refine x_getr (ci := 8) (k := 4) (n := 11) (C := RX8) (T := TX8) (pc := 14) X dX8_breaks_14 hk0 rfl (by decide) w_425 rfl e4 ?_
    refine x_aload_n (pc := 17) X dX8_breaks_17 (i := 0) rfl 0 rfl ?_
    obtain ⟨q5, e5, h⟩ := nns h
    refine x_getr (ci := 8) (k := 3) (n := 11) (C := RX8) (T := TX8) (pc := 18) X dX8_breaks_18 hk0 rfl (by decide) w_424 rfl e5 ?_
    obtain ⟨k7, h⟩ := grd h
    obtain ⟨z6, e6, h⟩ := bnds h
    refine x_callV (pc := 21) (As := [.ref (cx.2.2 + q5)]) (st := []) (st' := []) X (c_C_copyFrom l cx nx N D P _ _ z6 e6) dX8_breaks_21 w_642 m_C_copyFrom rfl k7 (ci := 7) rfl rfl ⟨by decide, by decide⟩ ⟨Nat.zero_le _, Nat.zero_le _⟩ rfl (Nat.le_of_ble_eq_true rfl) rfl ?_
    refine x_iconst (v := 0) (pc := 24) X dX8_breaks_24 (by decide) ?_
    refine x_istore_n (lv' := [(2, .int 0), (0, .ref (cx.2.2 + a0)), (1, .int i1)]) (pc := 25) X dX8_breaks_25 (i := 2) rfl (by decide) rfl ?_
    exact XW.sub [1, 2, 0] rfl (hL26 _ _ _ h)
  · have h := ite_t c14 h
    refine x_iconst (v := (-1)) (pc := 11) X dX8_breaks_11 (by decide) ?_
    obtain rfl := Option.some.inj h
    exact x_iret (pc := 12) X dX8_breaks_12
theorem dX8_door_0 : decode cX8_door 0 = .ok (.aload_n 0, 1) := by decide +kernel
theorem dX8_door_1 : decode cX8_door 1 = .ok (.getfield 35, 3) := by decide +kernel
theorem dX8_door_4 : decode cX8_door 4 = .ok (.aload_n 0, 1) := by decide +kernel
theorem dX8_door_5 : decode cX8_door 5 = .ok (.getfield 31, 3) := by decide +kernel
theorem dX8_door_8 : decode cX8_door 8 = .ok (.invokevirtual 220, 3) := by decide +kernel
theorem dX8_door_11 : decode cX8_door 11 = .ok (.iconst 0, 1) := by decide +kernel
theorem dX8_door_12 : decode cX8_door 12 = .ok (.istore_n 1, 1) := by decide +kernel
theorem dX8_door_13 : decode cX8_door 13 = .ok (.iload_n 1, 1) := by decide +kernel
theorem dX8_door_14 : decode cX8_door 14 = .ok (.bipush 60, 2) := by decide +kernel
theorem dX8_door_16 : decode cX8_door 16 = .ok (.if_icmp .gt 28, 3) := by decide +kernel
theorem dX8_door_19 : decode cX8_door 19 = .ok (.aload_n 0, 1) := by decide +kernel
theorem dX8_door_20 : decode cX8_door 20 = .ok (.getfield 35, 3) := by decide +kernel
theorem dX8_door_23 : decode cX8_door 23 = .ok (.invokevirtual 176, 3) := by decide +kernel
theorem dX8_door_26 : decode cX8_door 26 = .ok (.ifCond .eq 5, 3) := by decide +kernel
theorem dX8_door_29 : decode cX8_door 29 = .ok (.iload_n 1, 1) := by decide +kernel
theorem dX8_door_30 : decode cX8_door 30 = .ok (.ireturn, 1) := by decide +kernel
theorem dX8_door_31 : decode cX8_door 31 = .ok (.aload_n 0, 1) := by decide +kernel
theorem dX8_door_32 : decode cX8_door 32 = .ok (.getfield 35, 3) := by decide +kernel
theorem dX8_door_35 : decode cX8_door 35 = .ok (.invokevirtual 222, 3) := by decide +kernel
theorem dX8_door_38 : decode cX8_door 38 = .ok (.iinc 1 1, 3) := by decide +kernel
theorem dX8_door_41 : decode cX8_door 41 = .ok (.goto (-28), 3) := by decide +kernel
theorem dX8_door_44 : decode cX8_door 44 = .ok (.bipush (-4), 2) := by decide +kernel
theorem dX8_door_46 : decode cX8_door 46 = .ok (.ireturn, 1) := by decide +kernel
def f_H_door_13 (N nx : Nat) (P : Ft) (a0 : Nat) (rec13 : Dt → Int32 → Option (Int32 × Dt)) (D : Dt) (i1 : Int32) : Option (Int32 × Dt) :=
  if 60 < i1 then
    some ((-4), D)
  else
    nn (P a0 4) fun q5 =>
    if kd nx q5 = 7 then
    (f_C_isAtDoor N nx D P q5).bind fun z6 =>
    if z6 = 0 then
      (f_C_goDay N nx D P q5).bind fun z8 =>
      rec13 z8 (i1 + 1)
    else
      some (i1, D)
    else none
def f_H_door (N nx : Nat) (D : Dt) (P : Ft) (a0 : Nat) : Option (Int32 × Dt) :=
  if kd nx a0 = 8 then
  nn (P a0 4) fun q1 =>
  nn (P a0 3) fun q2 =>
  if kd nx q1 = 7 then
  (f_C_copyFrom N nx D P q1 q2).bind fun z3 =>
  wk2 N (f_H_door_13 N nx P a0) z3 0
  else none
  else none
theorem m_H_door : MV yX8_door cX8_door 2 (some .int) 0 := ⟨mT 655 (by decide +kernel) rfl, mT 653 (by decide +kernel) rfl, mT 654 (by decide +kernel) rfl, mT 54 (by decide +kernel) rfl, by decide +kernel, by decide +kernel, by decide +kernel⟩
set_option maxHeartbeats 4000000 in
set_option maxRecDepth 100000 in
theorem c_H_door (l : Launch) (cx : Cx) (nx N : Nat) (D : Dt) (P : Ft) (a0 : Nat) (z : Int32 × Dt) (h : f_H_door N nx D P a0 = some z) : Ct l cx yX8_door cX8_door 2 (some .int) 4 [.ref (cx.2.2 + a0)] D P nx (some (.int z.1)) z.2 P := by
  refine x_met0 (by decide) (Nat.le_of_ble_eq_true rfl) ?_
  intro p e s m args below meth c X
  have X : XC p s m args meth c cx cX8_door 2 (some .int) "HeartPins" "door" := X
  refine XW.sub (lv' := [(0, .ref (cx.2.2 + a0))]) [0] rfl ?_
  unfold f_H_door at h
  obtain ⟨hk0, h⟩ := grd h
  have hL13 : ∀ (n : Nat) (D : Dt) (i1 : Int32), wk2 n (f_H_door_13 N nx P a0) D i1 = some z → XW p l e (rmk 4) s m args below meth c (MQ below (Qx cx (some (.int z.1)) z.2 P nx) args s 0 0 (AA cx)) cx 2 D P nx 0 0 13 [(0, .ref (cx.2.2 + a0)), (1, .int i1)] [] := by
    intro n
    induction n with
    | zero => intro D i1 h; exact (nonz h).elim
    | succ n ih13 =>
      intro D i1 h
      have h : f_H_door_13 N nx P a0 (wk2 n (f_H_door_13 N nx P a0)) D i1 = some z := h
      generalize wk2 n (f_H_door_13 N nx P a0) = rec13 at ih13 h
      unfold f_H_door_13 at h
      refine x_iload_n (pc := 13) X dX8_door_13 (i := 1) rfl 1 rfl ?_
      refine x_bipush (v := 60) (pc := 14) X dX8_door_14 (by decide) ?_
      refine x_icmp_gt (tgt := 44) (pc := 16) X dX8_door_16 (by decide) (fun c10 => ?_) (fun c10 => ?_)
      · have h := ite_t c10 h
        refine x_bipush (v := (-4)) (pc := 44) X dX8_door_44 (by decide) ?_
        obtain rfl := Option.some.inj h
        exact x_iret (pc := 46) X dX8_door_46
      · have h := ite_f c10 h
        refine x_aload_n (pc := 19) X dX8_door_19 (i := 0) rfl 0 rfl ?_
        obtain ⟨q5, e5, h⟩ := nns h
        refine x_getr (ci := 8) (k := 4) (n := 11) (C := RX8) (T := TX8) (pc := 20) X dX8_door_20 hk0 rfl (by decide) w_425 rfl e5 ?_
        obtain ⟨k7, h⟩ := grd h
        obtain ⟨z6, e6, h⟩ := bnds h
        refine x_callV (pc := 23) (As := []) (st := []) (st' := [.int z6]) X (c_C_isAtDoor l cx nx N D P _ z6 e6) dX8_door_23 w_534 m_C_isAtDoor rfl k7 (ci := 7) rfl rfl ⟨by decide, by decide⟩ ⟨Nat.zero_le _, Nat.zero_le _⟩ rfl (Nat.le_of_ble_eq_true rfl) rfl ?_
        refine x_if_eq (tgt := 31) (pc := 26) X dX8_door_26 (by decide) (fun c9 => ?_) (fun c9 => ?_)
        · have h := ite_t c9 h
          refine x_aload_n (pc := 31) X dX8_door_31 (i := 0) rfl 0 rfl ?_
          refine x_getr (ci := 8) (k := 4) (n := 11) (C := RX8) (T := TX8) (pc := 32) X dX8_door_32 hk0 rfl (by decide) w_425 rfl e5 ?_
          obtain ⟨z8, e8, h⟩ := bnds h
          refine x_callV (pc := 35) (As := []) (st := []) (st' := []) X (c_C_goDay l cx nx N D P _ z8 e8) dX8_door_35 w_651 m_C_goDay rfl k7 (ci := 7) rfl rfl ⟨by decide, by decide⟩ ⟨Nat.zero_le _, Nat.zero_le _⟩ rfl (Nat.le_of_ble_eq_true rfl) rfl ?_
          refine x_iinc (v := i1 + 1) (lv' := [(1, .int (i1 + 1)), (0, .ref (cx.2.2 + a0))]) (pc := 38) X dX8_door_38 1 rfl rfl (by decide) rfl ?_
          refine x_goto (tgt := 13) (pc := 41) X dX8_door_41 (by decide) ?_
          exact XW.sub [1, 0] rfl (ih13 _ _ h)
        · have h := ite_f c9 h
          refine x_iload_n (pc := 29) X dX8_door_29 (i := 1) rfl 1 rfl ?_
          obtain rfl := Option.some.inj h
          exact x_iret (pc := 30) X dX8_door_30
  refine x_aload_n (pc := 0) X dX8_door_0 (i := 0) rfl 0 rfl ?_
  obtain ⟨q1, e1, h⟩ := nns h
  refine x_getr (ci := 8) (k := 4) (n := 11) (C := RX8) (T := TX8) (pc := 1) X dX8_door_1 hk0 rfl (by decide) w_425 rfl e1 ?_
  refine x_aload_n (pc := 4) X dX8_door_4 (i := 0) rfl 0 rfl ?_
  obtain ⟨q2, e2, h⟩ := nns h
  refine x_getr (ci := 8) (k := 3) (n := 11) (C := RX8) (T := TX8) (pc := 5) X dX8_door_5 hk0 rfl (by decide) w_424 rfl e2 ?_
  obtain ⟨k4, h⟩ := grd h
  obtain ⟨z3, e3, h⟩ := bnds h
  refine x_callV (pc := 8) (As := [.ref (cx.2.2 + q2)]) (st := []) (st' := []) X (c_C_copyFrom l cx nx N D P _ _ z3 e3) dX8_door_8 w_642 m_C_copyFrom rfl k4 (ci := 7) rfl rfl ⟨by decide, by decide⟩ ⟨Nat.zero_le _, Nat.zero_le _⟩ rfl (Nat.le_of_ble_eq_true rfl) rfl ?_
  refine x_iconst (v := 0) (pc := 11) X dX8_door_11 (by decide) ?_
  refine x_istore_n (lv' := [(1, .int 0), (0, .ref (cx.2.2 + a0))]) (pc := 12) X dX8_door_12 (i := 1) rfl (by decide) rfl ?_
  exact XW.sub [1, 0] rfl (hL13 _ _ _ h)
theorem dX8_isCalmWith_0 : decode cX8_isCalmWith 0 = .ok (.aload_n 0, 1) := by decide +kernel
theorem dX8_isCalmWith_1 : decode cX8_isCalmWith 1 = .ok (.getfield 35, 3) := by decide +kernel
theorem dX8_isCalmWith_4 : decode cX8_isCalmWith 4 = .ok (.aload_n 0, 1) := by decide +kernel
theorem dX8_isCalmWith_5 : decode cX8_isCalmWith 5 = .ok (.getfield 31, 3) := by decide +kernel
theorem dX8_isCalmWith_8 : decode cX8_isCalmWith 8 = .ok (.invokevirtual 220, 3) := by decide +kernel
theorem dX8_isCalmWith_11 : decode cX8_isCalmWith 11 = .ok (.iconst 0, 1) := by decide +kernel
theorem dX8_isCalmWith_12 : decode cX8_isCalmWith 12 = .ok (.istore_n 3, 1) := by decide +kernel
theorem dX8_isCalmWith_13 : decode cX8_isCalmWith 13 = .ok (.iload_n 3, 1) := by decide +kernel
theorem dX8_isCalmWith_14 : decode cX8_isCalmWith 14 = .ok (.bipush 8, 2) := by decide +kernel
theorem dX8_isCalmWith_16 : decode cX8_isCalmWith 16 = .ok (.if_icmp .ge 26, 3) := by decide +kernel
theorem dX8_isCalmWith_19 : decode cX8_isCalmWith 19 = .ok (.iload_n 1, 1) := by decide +kernel
theorem dX8_isCalmWith_20 : decode cX8_isCalmWith 20 = .ok (.iload_n 3, 1) := by decide +kernel
theorem dX8_isCalmWith_21 : decode cX8_isCalmWith 21 = .ok (.ishr, 1) := by decide +kernel
theorem dX8_isCalmWith_22 : decode cX8_isCalmWith 22 = .ok (.iconst 1, 1) := by decide +kernel
theorem dX8_isCalmWith_23 : decode cX8_isCalmWith 23 = .ok (.iand, 1) := by decide +kernel
theorem dX8_isCalmWith_24 : decode cX8_isCalmWith 24 = .ok (.iconst 1, 1) := by decide +kernel
theorem dX8_isCalmWith_25 : decode cX8_isCalmWith 25 = .ok (.if_icmp .ne 11, 3) := by decide +kernel
theorem dX8_isCalmWith_28 : decode cX8_isCalmWith 28 = .ok (.aload_n 0, 1) := by decide +kernel
theorem dX8_isCalmWith_29 : decode cX8_isCalmWith 29 = .ok (.getfield 35, 3) := by decide +kernel
theorem dX8_isCalmWith_32 : decode cX8_isCalmWith 32 = .ok (.iload_n 3, 1) := by decide +kernel
theorem dX8_isCalmWith_33 : decode cX8_isCalmWith 33 = .ok (.invokevirtual 186, 3) := by decide +kernel
theorem dX8_isCalmWith_36 : decode cX8_isCalmWith 36 = .ok (.iinc 3 1, 3) := by decide +kernel
theorem dX8_isCalmWith_39 : decode cX8_isCalmWith 39 = .ok (.goto (-26), 3) := by decide +kernel
theorem dX8_isCalmWith_42 : decode cX8_isCalmWith 42 = .ok (.iconst 0, 1) := by decide +kernel
theorem dX8_isCalmWith_43 : decode cX8_isCalmWith 43 = .ok (.istore_n 3, 1) := by decide +kernel
theorem dX8_isCalmWith_44 : decode cX8_isCalmWith 44 = .ok (.iload_n 3, 1) := by decide +kernel
theorem dX8_isCalmWith_45 : decode cX8_isCalmWith 45 = .ok (.iload_n 2, 1) := by decide +kernel
theorem dX8_isCalmWith_46 : decode cX8_isCalmWith 46 = .ok (.if_icmp .ge 28, 3) := by decide +kernel
theorem dX8_isCalmWith_49 : decode cX8_isCalmWith 49 = .ok (.aload_n 0, 1) := by decide +kernel
theorem dX8_isCalmWith_50 : decode cX8_isCalmWith 50 = .ok (.getfield 35, 3) := by decide +kernel
theorem dX8_isCalmWith_53 : decode cX8_isCalmWith 53 = .ok (.invokevirtual 314, 3) := by decide +kernel
theorem dX8_isCalmWith_56 : decode cX8_isCalmWith 56 = .ok (.ifCond .ne 5, 3) := by decide +kernel
theorem dX8_isCalmWith_59 : decode cX8_isCalmWith 59 = .ok (.iconst 0, 1) := by decide +kernel
theorem dX8_isCalmWith_60 : decode cX8_isCalmWith 60 = .ok (.ireturn, 1) := by decide +kernel
theorem dX8_isCalmWith_61 : decode cX8_isCalmWith 61 = .ok (.aload_n 0, 1) := by decide +kernel
theorem dX8_isCalmWith_62 : decode cX8_isCalmWith 62 = .ok (.getfield 35, 3) := by decide +kernel
theorem dX8_isCalmWith_65 : decode cX8_isCalmWith 65 = .ok (.invokevirtual 222, 3) := by decide +kernel
theorem dX8_isCalmWith_68 : decode cX8_isCalmWith 68 = .ok (.iinc 3 1, 3) := by decide +kernel
theorem dX8_isCalmWith_71 : decode cX8_isCalmWith 71 = .ok (.goto (-27), 3) := by decide +kernel
theorem dX8_isCalmWith_74 : decode cX8_isCalmWith 74 = .ok (.aload_n 0, 1) := by decide +kernel
theorem dX8_isCalmWith_75 : decode cX8_isCalmWith 75 = .ok (.getfield 35, 3) := by decide +kernel
theorem dX8_isCalmWith_78 : decode cX8_isCalmWith 78 = .ok (.invokevirtual 314, 3) := by decide +kernel
theorem dX8_isCalmWith_81 : decode cX8_isCalmWith 81 = .ok (.ireturn, 1) := by decide +kernel
def f_H_isCalmWith_44 (N nx : Nat) (P : Ft) (a0 : Nat) (i2 : Int32) (rec44 : Dt → Int32 → Option (Int32 × Dt)) (D : Dt) (i3 : Int32) : Option (Int32 × Dt) :=
  if i2 ≤ i3 then
    nn (P a0 4) fun q5 =>
    if kd nx q5 = 7 then
    (f_C_isCalm N nx D P q5).bind fun z6 =>
    if z6 = 0 ∨ z6 = 1 then
    some (z6, D)
    else none
    else none
  else
    nn (P a0 4) fun q9 =>
    if kd nx q9 = 7 then
    (f_C_isCalm N nx D P q9).bind fun z10 =>
    if z10 = 0 then
      some (0, D)
    else
      (f_C_goDay N nx D P q9).bind fun z12 =>
      rec44 z12 (i3 + 1)
    else none
def f_H_isCalmWith_13 (N nx : Nat) (P : Ft) (a0 : Nat) (i1 : Int32) (i2 : Int32) (rec13 : Dt → Int32 → Option (Int32 × Dt)) (D : Dt) (i3 : Int32) : Option (Int32 × Dt) :=
  if 8 ≤ i3 then
    wk2 N (f_H_isCalmWith_44 N nx P a0 i2) D 0
  else
    if (i1 >>> (i3 &&& 31)) &&& 1 = 1 then
      nn (P a0 4) fun q15 =>
      if kd nx q15 = 7 then
      (f_C_stickIn N nx D P q15 i3).bind fun z16 =>
      rec13 z16 (i3 + 1)
      else none
    else
      rec13 D (i3 + 1)
def f_H_isCalmWith (N nx : Nat) (D : Dt) (P : Ft) (a0 : Nat) (i1 : Int32) (i2 : Int32) : Option (Int32 × Dt) :=
  if kd nx a0 = 8 then
  nn (P a0 4) fun q1 =>
  nn (P a0 3) fun q2 =>
  if kd nx q1 = 7 then
  (f_C_copyFrom N nx D P q1 q2).bind fun z3 =>
  wk2 N (f_H_isCalmWith_13 N nx P a0 i1 i2) z3 0
  else none
  else none
theorem m_H_isCalmWith : MV yX8_isCalmWith cX8_isCalmWith 4 (some .boolean) 2 := ⟨mT 677 (by decide +kernel) rfl, mT 676 (by decide +kernel) rfl, mT 11 (by decide +kernel) rfl, mT 54 (by decide +kernel) rfl, by decide +kernel, by decide +kernel, by decide +kernel⟩
set_option maxHeartbeats 4000000 in
set_option maxRecDepth 100000 in
theorem c_H_isCalmWith (l : Launch) (cx : Cx) (nx N : Nat) (D : Dt) (P : Ft) (a0 : Nat) (i1 : Int32) (i2 : Int32) (z : Int32 × Dt) (h : f_H_isCalmWith N nx D P a0 i1 i2 = some z) : Ct l cx yX8_isCalmWith cX8_isCalmWith 4 (some .boolean) 5 [.ref (cx.2.2 + a0), .int i1, .int i2] D P nx (some (.int z.1)) z.2 P := by
  refine x_met0 (by decide) (Nat.le_of_ble_eq_true rfl) ?_
  intro p e s m args below meth c X
  have X : XC p s m args meth c cx cX8_isCalmWith 4 (some .boolean) "HeartPins" "isCalmWith" := X
  refine XW.sub (lv' := [(0, .ref (cx.2.2 + a0)), (1, .int i1), (2, .int i2)]) [0, 1, 2] rfl ?_
  unfold f_H_isCalmWith at h
  obtain ⟨hk0, h⟩ := grd h
  have hL44 : ∀ (n : Nat) (D : Dt) (i3 : Int32), wk2 n (f_H_isCalmWith_44 N nx P a0 i2) D i3 = some z → XW p l e (rmk 5) s m args below meth c (MQ below (Qx cx (some (.int z.1)) z.2 P nx) args s 0 0 (AA cx)) cx 4 D P nx 0 0 44 [(0, .ref (cx.2.2 + a0)), (2, .int i2), (3, .int i3)] [] := by
    intro n
    induction n with
    | zero => intro D i3 h; exact (nonz h).elim
    | succ n ih44 =>
      intro D i3 h
      have h : f_H_isCalmWith_44 N nx P a0 i2 (wk2 n (f_H_isCalmWith_44 N nx P a0 i2)) D i3 = some z := h
      generalize wk2 n (f_H_isCalmWith_44 N nx P a0 i2) = rec44 at ih44 h
      unfold f_H_isCalmWith_44 at h
      refine x_iload_n (pc := 44) X dX8_isCalmWith_44 (i := 3) rfl 2 rfl ?_
      refine x_iload_n (pc := 45) X dX8_isCalmWith_45 (i := 2) rfl 1 rfl ?_
      refine x_icmp_ge (tgt := 74) (pc := 46) X dX8_isCalmWith_46 (by decide) (fun c14 => ?_) (fun c14 => ?_)
      · have h := ite_t c14 h
        refine x_aload_n (pc := 74) X dX8_isCalmWith_74 (i := 0) rfl 0 rfl ?_
        obtain ⟨q5, e5, h⟩ := nns h
        refine x_getr (ci := 8) (k := 4) (n := 11) (C := RX8) (T := TX8) (pc := 75) X dX8_isCalmWith_75 hk0 rfl (by decide) w_425 rfl e5 ?_
        obtain ⟨k7, h⟩ := grd h
        obtain ⟨z6, e6, h⟩ := bnds h
        refine x_callV (pc := 78) (As := []) (st := []) (st' := [.int z6]) X (c_C_isCalm l cx nx N D P _ z6 e6) dX8_isCalmWith_78 w_678 m_C_isCalm rfl k7 (ci := 7) rfl rfl ⟨by decide, by decide⟩ ⟨Nat.zero_le _, Nat.zero_le _⟩ rfl (Nat.le_of_ble_eq_true rfl) rfl ?_
        obtain ⟨b8, h⟩ := grd h
        obtain rfl := Option.some.inj h
        exact x_zret (pc := 81) X dX8_isCalmWith_81 b8
      · have h := ite_f c14 h
        refine x_aload_n (pc := 49) X dX8_isCalmWith_49 (i := 0) rfl 0 rfl ?_
        obtain ⟨q9, e9, h⟩ := nns h
        refine x_getr (ci := 8) (k := 4) (n := 11) (C := RX8) (T := TX8) (pc := 50) X dX8_isCalmWith_50 hk0 rfl (by decide) w_425 rfl e9 ?_
        obtain ⟨k11, h⟩ := grd h
        obtain ⟨z10, e10, h⟩ := bnds h
        refine x_callV (pc := 53) (As := []) (st := []) (st' := [.int z10]) X (c_C_isCalm l cx nx N D P _ z10 e10) dX8_isCalmWith_53 w_678 m_C_isCalm rfl k11 (ci := 7) rfl rfl ⟨by decide, by decide⟩ ⟨Nat.zero_le _, Nat.zero_le _⟩ rfl (Nat.le_of_ble_eq_true rfl) rfl ?_
        refine x_if_ne (tgt := 61) (pc := 56) X dX8_isCalmWith_56 (by decide) (fun c13 => ?_) (fun c13 => ?_)
        · have h := ite_f c13 h
          refine x_aload_n (pc := 61) X dX8_isCalmWith_61 (i := 0) rfl 0 rfl ?_
          refine x_getr (ci := 8) (k := 4) (n := 11) (C := RX8) (T := TX8) (pc := 62) X dX8_isCalmWith_62 hk0 rfl (by decide) w_425 rfl e9 ?_
          obtain ⟨z12, e12, h⟩ := bnds h
          refine x_callV (pc := 65) (As := []) (st := []) (st' := []) X (c_C_goDay l cx nx N D P _ z12 e12) dX8_isCalmWith_65 w_651 m_C_goDay rfl k11 (ci := 7) rfl rfl ⟨by decide, by decide⟩ ⟨Nat.zero_le _, Nat.zero_le _⟩ rfl (Nat.le_of_ble_eq_true rfl) rfl ?_
          refine x_iinc (v := i3 + 1) (lv' := [(3, .int (i3 + 1)), (0, .ref (cx.2.2 + a0)), (2, .int i2)]) (pc := 68) X dX8_isCalmWith_68 2 rfl rfl (by decide) rfl ?_
          refine x_goto (tgt := 44) (pc := 71) X dX8_isCalmWith_71 (by decide) ?_
          exact XW.sub [1, 2, 0] rfl (ih44 _ _ h)
        · have h := ite_t c13 h
          refine x_iconst (v := 0) (pc := 59) X dX8_isCalmWith_59 (by decide) ?_
          obtain rfl := Option.some.inj h
          exact x_zret (pc := 60) X dX8_isCalmWith_60 (Or.inl rfl)
  have hL13 : ∀ (n : Nat) (D : Dt) (i3 : Int32), wk2 n (f_H_isCalmWith_13 N nx P a0 i1 i2) D i3 = some z → XW p l e (rmk 5) s m args below meth c (MQ below (Qx cx (some (.int z.1)) z.2 P nx) args s 0 0 (AA cx)) cx 4 D P nx 0 0 13 [(0, .ref (cx.2.2 + a0)), (1, .int i1), (2, .int i2), (3, .int i3)] [] := by
    intro n
    induction n with
    | zero => intro D i3 h; exact (nonz h).elim
    | succ n ih13 =>
      intro D i3 h
      have h : f_H_isCalmWith_13 N nx P a0 i1 i2 (wk2 n (f_H_isCalmWith_13 N nx P a0 i1 i2)) D i3 = some z := h
      generalize wk2 n (f_H_isCalmWith_13 N nx P a0 i1 i2) = rec13 at ih13 h
      unfold f_H_isCalmWith_13 at h
      refine x_iload_n (pc := 13) X dX8_isCalmWith_13 (i := 3) rfl 3 rfl ?_
      refine x_bipush (v := 8) (pc := 14) X dX8_isCalmWith_14 (by decide) ?_
      refine x_icmp_ge (tgt := 42) (pc := 16) X dX8_isCalmWith_16 (by decide) (fun c19 => ?_) (fun c19 => ?_)
      · have h := ite_t c19 h
        refine x_iconst (v := 0) (pc := 42) X dX8_isCalmWith_42 (by decide) ?_
        refine x_istore_n (lv' := [(3, .int 0), (0, .ref (cx.2.2 + a0)), (1, .int i1), (2, .int i2)]) (pc := 43) X dX8_isCalmWith_43 (i := 3) rfl (by decide) rfl ?_
        exact XW.sub [1, 3, 0] rfl (hL44 _ _ _ h)
      · have h := ite_f c19 h
        refine x_iload_n (pc := 19) X dX8_isCalmWith_19 (i := 1) rfl 1 rfl ?_
        refine x_iload_n (pc := 20) X dX8_isCalmWith_20 (i := 3) rfl 3 rfl ?_
        refine x_ishr (pc := 21) X dX8_isCalmWith_21 ?_
        refine x_iconst (v := 1) (pc := 22) X dX8_isCalmWith_22 (by decide) ?_
        refine x_iand (pc := 23) X dX8_isCalmWith_23 ?_
        refine x_iconst (v := 1) (pc := 24) X dX8_isCalmWith_24 (by decide) ?_
        refine x_icmp_ne (tgt := 36) (pc := 25) X dX8_isCalmWith_25 (by decide) (fun c18 => ?_) (fun c18 => ?_)
        · have h := ite_f c18 h
          refine x_iinc (v := i3 + 1) (lv' := [(3, .int (i3 + 1)), (0, .ref (cx.2.2 + a0)), (1, .int i1), (2, .int i2)]) (pc := 36) X dX8_isCalmWith_36 3 rfl rfl (by decide) rfl ?_
          refine x_goto (tgt := 13) (pc := 39) X dX8_isCalmWith_39 (by decide) ?_
          exact XW.sub [1, 2, 3, 0] rfl (ih13 _ _ h)
        · have h := ite_t c18 h
          refine x_aload_n (pc := 28) X dX8_isCalmWith_28 (i := 0) rfl 0 rfl ?_
          obtain ⟨q15, e15, h⟩ := nns h
          refine x_getr (ci := 8) (k := 4) (n := 11) (C := RX8) (T := TX8) (pc := 29) X dX8_isCalmWith_29 hk0 rfl (by decide) w_425 rfl e15 ?_
          refine x_iload_n (pc := 32) X dX8_isCalmWith_32 (i := 3) rfl 3 rfl ?_
          obtain ⟨k17, h⟩ := grd h
          obtain ⟨z16, e16, h⟩ := bnds h
          refine x_callV (pc := 33) (As := [.int i3]) (st := []) (st' := []) X (c_C_stickIn l cx nx N D P _ _ z16 e16) dX8_isCalmWith_33 w_564 m_C_stickIn rfl k17 (ci := 7) rfl rfl ⟨by decide, by decide⟩ ⟨Nat.zero_le _, Nat.zero_le _⟩ rfl (Nat.le_of_ble_eq_true rfl) rfl ?_
          refine x_iinc (v := i3 + 1) (lv' := [(3, .int (i3 + 1)), (0, .ref (cx.2.2 + a0)), (1, .int i1), (2, .int i2)]) (pc := 36) X dX8_isCalmWith_36 3 rfl rfl (by decide) rfl ?_
          refine x_goto (tgt := 13) (pc := 39) X dX8_isCalmWith_39 (by decide) ?_
          exact XW.sub [1, 2, 3, 0] rfl (ih13 _ _ h)
  refine x_aload_n (pc := 0) X dX8_isCalmWith_0 (i := 0) rfl 0 rfl ?_
  obtain ⟨q1, e1, h⟩ := nns h
  refine x_getr (ci := 8) (k := 4) (n := 11) (C := RX8) (T := TX8) (pc := 1) X dX8_isCalmWith_1 hk0 rfl (by decide) w_425 rfl e1 ?_
  refine x_aload_n (pc := 4) X dX8_isCalmWith_4 (i := 0) rfl 0 rfl ?_
  obtain ⟨q2, e2, h⟩ := nns h
  refine x_getr (ci := 8) (k := 3) (n := 11) (C := RX8) (T := TX8) (pc := 5) X dX8_isCalmWith_5 hk0 rfl (by decide) w_424 rfl e2 ?_
  obtain ⟨k4, h⟩ := grd h
  obtain ⟨z3, e3, h⟩ := bnds h
  refine x_callV (pc := 8) (As := [.ref (cx.2.2 + q2)]) (st := []) (st' := []) X (c_C_copyFrom l cx nx N D P _ _ z3 e3) dX8_isCalmWith_8 w_642 m_C_copyFrom rfl k4 (ci := 7) rfl rfl ⟨by decide, by decide⟩ ⟨Nat.zero_le _, Nat.zero_le _⟩ rfl (Nat.le_of_ble_eq_true rfl) rfl ?_
  refine x_iconst (v := 0) (pc := 11) X dX8_isCalmWith_11 (by decide) ?_
  refine x_istore_n (lv' := [(3, .int 0), (0, .ref (cx.2.2 + a0)), (1, .int i1), (2, .int i2)]) (pc := 12) X dX8_isCalmWith_12 (i := 3) rfl (by decide) rfl ?_
  exact XW.sub [1, 2, 3, 0] rfl (hL13 _ _ _ h)
theorem dX8_bestSet_0 : decode cX8_bestSet 0 = .ok (.bipush (-4), 2) := by decide +kernel
theorem dX8_bestSet_2 : decode cX8_bestSet 2 = .ok (.istore_n 2, 1) := by decide +kernel
theorem dX8_bestSet_3 : decode cX8_bestSet 3 = .ok (.bipush 9, 2) := by decide +kernel
theorem dX8_bestSet_5 : decode cX8_bestSet 5 = .ok (.istore_n 3, 1) := by decide +kernel
theorem dX8_bestSet_6 : decode cX8_bestSet 6 = .ok (.aload_n 0, 1) := by decide +kernel
theorem dX8_bestSet_7 : decode cX8_bestSet 7 = .ok (.getfield 31, 3) := by decide +kernel
theorem dX8_bestSet_10 : decode cX8_bestSet 10 = .ok (.invokevirtual 308, 3) := by decide +kernel
theorem dX8_bestSet_13 : decode cX8_bestSet 13 = .ok (.istore 4, 2) := by decide +kernel
theorem dX8_bestSet_15 : decode cX8_bestSet 15 = .ok (.iconst 0, 1) := by decide +kernel
theorem dX8_bestSet_16 : decode cX8_bestSet 16 = .ok (.istore 5, 2) := by decide +kernel
theorem dX8_bestSet_18 : decode cX8_bestSet 18 = .ok (.iload 5, 2) := by decide +kernel
theorem dX8_bestSet_20 : decode cX8_bestSet 20 = .ok (.sipush 256, 3) := by decide +kernel
theorem dX8_bestSet_23 : decode cX8_bestSet 23 = .ok (.if_icmp .ge 48, 3) := by decide +kernel
theorem dX8_bestSet_26 : decode cX8_bestSet 26 = .ok (.iload 5, 2) := by decide +kernel
theorem dX8_bestSet_28 : decode cX8_bestSet 28 = .ok (.invokestatic 228, 3) := by decide +kernel
theorem dX8_bestSet_31 : decode cX8_bestSet 31 = .ok (.istore 6, 2) := by decide +kernel
theorem dX8_bestSet_33 : decode cX8_bestSet 33 = .ok (.iload 5, 2) := by decide +kernel
theorem dX8_bestSet_35 : decode cX8_bestSet 35 = .ok (.iload 4, 2) := by decide +kernel
theorem dX8_bestSet_37 : decode cX8_bestSet 37 = .ok (.iconst (-1), 1) := by decide +kernel
theorem dX8_bestSet_38 : decode cX8_bestSet 38 = .ok (.ixor, 1) := by decide +kernel
theorem dX8_bestSet_39 : decode cX8_bestSet 39 = .ok (.iand, 1) := by decide +kernel
theorem dX8_bestSet_40 : decode cX8_bestSet 40 = .ok (.ifCond .ne 25, 3) := by decide +kernel
theorem dX8_bestSet_43 : decode cX8_bestSet 43 = .ok (.iload 6, 2) := by decide +kernel
theorem dX8_bestSet_45 : decode cX8_bestSet 45 = .ok (.iload_n 3, 1) := by decide +kernel
theorem dX8_bestSet_46 : decode cX8_bestSet 46 = .ok (.if_icmp .ge 19, 3) := by decide +kernel
theorem dX8_bestSet_49 : decode cX8_bestSet 49 = .ok (.aload_n 0, 1) := by decide +kernel
theorem dX8_bestSet_50 : decode cX8_bestSet 50 = .ok (.iload 5, 2) := by decide +kernel
theorem dX8_bestSet_52 : decode cX8_bestSet 52 = .ok (.iload_n 1, 1) := by decide +kernel
theorem dX8_bestSet_53 : decode cX8_bestSet 53 = .ok (.invokevirtual 311, 3) := by decide +kernel
theorem dX8_bestSet_56 : decode cX8_bestSet 56 = .ok (.ifCond .eq 9, 3) := by decide +kernel
theorem dX8_bestSet_59 : decode cX8_bestSet 59 = .ok (.iload 5, 2) := by decide +kernel
theorem dX8_bestSet_61 : decode cX8_bestSet 61 = .ok (.istore_n 2, 1) := by decide +kernel
theorem dX8_bestSet_62 : decode cX8_bestSet 62 = .ok (.iload 6, 2) := by decide +kernel
theorem dX8_bestSet_64 : decode cX8_bestSet 64 = .ok (.istore_n 3, 1) := by decide +kernel
theorem dX8_bestSet_65 : decode cX8_bestSet 65 = .ok (.iinc 5 1, 3) := by decide +kernel
theorem dX8_bestSet_68 : decode cX8_bestSet 68 = .ok (.goto (-50), 3) := by decide +kernel
theorem dX8_bestSet_71 : decode cX8_bestSet 71 = .ok (.iload_n 2, 1) := by decide +kernel
theorem dX8_bestSet_72 : decode cX8_bestSet 72 = .ok (.ireturn, 1) := by decide +kernel
def f_H_bestSet_18 (N nx : Nat) (P : Ft) (a0 : Nat) (i1 : Int32) (i4 : Int32) (rec18 : Dt → Int32 → Int32 → Int32 → Option (Int32 × Dt)) (D : Dt) (i2 : Int32) (i3 : Int32) (i5 : Int32) : Option (Int32 × Dt) :=
  if 256 ≤ i5 then
    some (i2, D)
  else
    (f_J_bitCount N nx D P i5).bind fun z4 =>
    if i5 &&& (i4 ^^^ (-1)) = 0 then
      if i3 ≤ z4 then
        rec18 D i2 i3 (i5 + 1)
      else
        (f_H_isCalmWith N nx D P a0 i5 i1).bind fun z5 =>
        if z5.1 = 0 then
          rec18 z5.2 i2 i3 (i5 + 1)
        else
          rec18 z5.2 i5 z4 (i5 + 1)
    else
      rec18 D i2 i3 (i5 + 1)
def f_H_bestSet (N nx : Nat) (D : Dt) (P : Ft) (a0 : Nat) (i1 : Int32) : Option (Int32 × Dt) :=
  if kd nx a0 = 8 then
  nn (P a0 3) fun q1 =>
  if kd nx q1 = 7 then
  (f_C_borneBits N nx D P q1).bind fun z2 =>
  wk4 N (f_H_bestSet_18 N nx P a0 i1 z2) D (-4) 9 0
  else none
  else none
theorem m_H_bestSet : MV yX8_bestSet cX8_bestSet 7 (some .int) 1 := ⟨mT 663 (by decide +kernel) rfl, mT 662 (by decide +kernel) rfl, mT 10 (by decide +kernel) rfl, mT 54 (by decide +kernel) rfl, by decide +kernel, by decide +kernel, by decide +kernel⟩
set_option maxHeartbeats 4000000 in
set_option maxRecDepth 100000 in
theorem c_H_bestSet (l : Launch) (cx : Cx) (nx N : Nat) (D : Dt) (P : Ft) (a0 : Nat) (i1 : Int32) (z : Int32 × Dt) (h : f_H_bestSet N nx D P a0 i1 = some z) : Ct l cx yX8_bestSet cX8_bestSet 7 (some .int) 6 [.ref (cx.2.2 + a0), .int i1] D P nx (some (.int z.1)) z.2 P := by
  refine x_met0 (by decide) (Nat.le_of_ble_eq_true rfl) ?_
  intro p e s m args below meth c X
  have X : XC p s m args meth c cx cX8_bestSet 7 (some .int) "HeartPins" "bestSet" := X
  refine XW.sub (lv' := [(0, .ref (cx.2.2 + a0)), (1, .int i1)]) [0, 1] rfl ?_
  unfold f_H_bestSet at h
  obtain ⟨hk0, h⟩ := grd h
  have hL18 : ∀ (i4 : Int32) (n : Nat) (D : Dt) (i2 : Int32) (i3 : Int32) (i5 : Int32), wk4 n (f_H_bestSet_18 N nx P a0 i1 i4) D i2 i3 i5 = some z → XW p l e (rmk 6) s m args below meth c (MQ below (Qx cx (some (.int z.1)) z.2 P nx) args s 0 0 (AA cx)) cx 7 D P nx 0 0 18 [(0, .ref (cx.2.2 + a0)), (1, .int i1), (2, .int i2), (3, .int i3), (4, .int i4), (5, .int i5)] [] := by
    intro i4 n
    induction n with
    | zero => intro D i2 i3 i5 h; exact (nonz h).elim
    | succ n ih18 =>
      intro D i2 i3 i5 h
      have h : f_H_bestSet_18 N nx P a0 i1 i4 (wk4 n (f_H_bestSet_18 N nx P a0 i1 i4)) D i2 i3 i5 = some z := h
      generalize wk4 n (f_H_bestSet_18 N nx P a0 i1 i4) = rec18 at ih18 h
      unfold f_H_bestSet_18 at h
      refine x_iload (pc := 18) X dX8_bestSet_18 5 rfl ?_
      refine x_sipush (v := 256) (pc := 20) X dX8_bestSet_20 (by decide) ?_
      refine x_icmp_ge (tgt := 71) (pc := 23) X dX8_bestSet_23 (by decide) (fun c9 => ?_) (fun c9 => ?_)
      · have h := ite_t c9 h
        refine x_iload_n (pc := 71) X dX8_bestSet_71 (i := 2) rfl 2 rfl ?_
        obtain rfl := Option.some.inj h
        exact x_iret (pc := 72) X dX8_bestSet_72
      · have h := ite_f c9 h
        refine x_iload (pc := 26) X dX8_bestSet_26 5 rfl ?_
        obtain ⟨z4, e4, h⟩ := bnds h
        refine x_callS (pc := 28) (As := [.int i5]) (st := []) (st' := [.int z4]) X (c_J_bitCount l cx nx N D P _ z4 e4) dX8_bestSet_28 w_668 m_J_bitCount rfl ⟨by decide, by decide⟩ ⟨Nat.zero_le _, Nat.zero_le _⟩ rfl (Nat.le_of_ble_eq_true rfl) rfl ?_
        refine x_istore (lv' := [(6, .int z4), (0, .ref (cx.2.2 + a0)), (1, .int i1), (2, .int i2), (3, .int i3), (4, .int i4), (5, .int i5)]) (pc := 31) X dX8_bestSet_31 (by decide) rfl ?_
        refine x_iload (pc := 33) X dX8_bestSet_33 6 rfl ?_
        refine x_iload (pc := 35) X dX8_bestSet_35 5 rfl ?_
        refine x_iconst (v := (-1)) (pc := 37) X dX8_bestSet_37 (by decide) ?_
        refine x_ixor (pc := 38) X dX8_bestSet_38 ?_
        refine x_iand (pc := 39) X dX8_bestSet_39 ?_
        refine x_if_ne (tgt := 65) (pc := 40) X dX8_bestSet_40 (by decide) (fun c8 => ?_) (fun c8 => ?_)
        · have h := ite_f c8 h
          refine x_iinc (v := i5 + 1) (lv' := [(5, .int (i5 + 1)), (6, .int z4), (0, .ref (cx.2.2 + a0)), (1, .int i1), (2, .int i2), (3, .int i3), (4, .int i4)]) (pc := 65) X dX8_bestSet_65 6 rfl rfl (by decide) rfl ?_
          refine x_goto (tgt := 18) (pc := 68) X dX8_bestSet_68 (by decide) ?_
          exact XW.sub [2, 3, 4, 5, 6, 0] rfl (ih18 _ _ _ _ h)
        · have h := ite_t c8 h
          refine x_iload (pc := 43) X dX8_bestSet_43 0 rfl ?_
          refine x_iload_n (pc := 45) X dX8_bestSet_45 (i := 3) rfl 4 rfl ?_
          refine x_icmp_ge (tgt := 65) (pc := 46) X dX8_bestSet_46 (by decide) (fun c7 => ?_) (fun c7 => ?_)
          · have h := ite_t c7 h
            refine x_iinc (v := i5 + 1) (lv' := [(5, .int (i5 + 1)), (6, .int z4), (0, .ref (cx.2.2 + a0)), (1, .int i1), (2, .int i2), (3, .int i3), (4, .int i4)]) (pc := 65) X dX8_bestSet_65 6 rfl rfl (by decide) rfl ?_
            refine x_goto (tgt := 18) (pc := 68) X dX8_bestSet_68 (by decide) ?_
            exact XW.sub [2, 3, 4, 5, 6, 0] rfl (ih18 _ _ _ _ h)
          · have h := ite_f c7 h
            refine x_aload_n (pc := 49) X dX8_bestSet_49 (i := 0) rfl 1 rfl ?_
            refine x_iload (pc := 50) X dX8_bestSet_50 6 rfl ?_
            refine x_iload_n (pc := 52) X dX8_bestSet_52 (i := 1) rfl 2 rfl ?_
            obtain ⟨z5, e5, h⟩ := bnds h
            refine x_callV (pc := 53) (As := [.int i5, .int i1]) (st := []) (st' := [.int z5.1]) X (c_H_isCalmWith l cx nx N D P _ _ _ z5 e5) dX8_bestSet_53 w_674 m_H_isCalmWith rfl hk0 (ci := 8) rfl rfl ⟨by decide, by decide⟩ ⟨Nat.zero_le _, Nat.zero_le _⟩ rfl (Nat.le_of_ble_eq_true rfl) rfl ?_
            refine x_if_eq (tgt := 65) (pc := 56) X dX8_bestSet_56 (by decide) (fun c6 => ?_) (fun c6 => ?_)
            · have h := ite_t c6 h
              refine x_iinc (v := i5 + 1) (lv' := [(5, .int (i5 + 1)), (6, .int z4), (0, .ref (cx.2.2 + a0)), (1, .int i1), (2, .int i2), (3, .int i3), (4, .int i4)]) (pc := 65) X dX8_bestSet_65 6 rfl rfl (by decide) rfl ?_
              refine x_goto (tgt := 18) (pc := 68) X dX8_bestSet_68 (by decide) ?_
              exact XW.sub [2, 3, 4, 5, 6, 0] rfl (ih18 _ _ _ _ h)
            · have h := ite_f c6 h
              refine x_iload (pc := 59) X dX8_bestSet_59 6 rfl ?_
              refine x_istore_n (lv' := [(2, .int i5), (6, .int z4), (0, .ref (cx.2.2 + a0)), (1, .int i1), (3, .int i3), (4, .int i4), (5, .int i5)]) (pc := 61) X dX8_bestSet_61 (i := 2) rfl (by decide) rfl ?_
              refine x_iload (pc := 62) X dX8_bestSet_62 1 rfl ?_
              refine x_istore_n (lv' := [(3, .int z4), (2, .int i5), (6, .int z4), (0, .ref (cx.2.2 + a0)), (1, .int i1), (4, .int i4), (5, .int i5)]) (pc := 64) X dX8_bestSet_64 (i := 3) rfl (by decide) rfl ?_
              refine x_iinc (v := i5 + 1) (lv' := [(5, .int (i5 + 1)), (3, .int z4), (2, .int i5), (6, .int z4), (0, .ref (cx.2.2 + a0)), (1, .int i1), (4, .int i4)]) (pc := 65) X dX8_bestSet_65 6 rfl rfl (by decide) rfl ?_
              refine x_goto (tgt := 18) (pc := 68) X dX8_bestSet_68 (by decide) ?_
              exact XW.sub [4, 5, 2, 1, 6, 0] rfl (ih18 _ _ _ _ h)
  refine x_bipush (v := (-4)) (pc := 0) X dX8_bestSet_0 (by decide) ?_
  refine x_istore_n (lv' := [(2, .int (-4)), (0, .ref (cx.2.2 + a0)), (1, .int i1)]) (pc := 2) X dX8_bestSet_2 (i := 2) rfl (by decide) rfl ?_
  refine x_bipush (v := 9) (pc := 3) X dX8_bestSet_3 (by decide) ?_
  refine x_istore_n (lv' := [(3, .int 9), (2, .int (-4)), (0, .ref (cx.2.2 + a0)), (1, .int i1)]) (pc := 5) X dX8_bestSet_5 (i := 3) rfl (by decide) rfl ?_
  refine x_aload_n (pc := 6) X dX8_bestSet_6 (i := 0) rfl 2 rfl ?_
  obtain ⟨q1, e1, h⟩ := nns h
  refine x_getr (ci := 8) (k := 3) (n := 11) (C := RX8) (T := TX8) (pc := 7) X dX8_bestSet_7 hk0 rfl (by decide) w_424 rfl e1 ?_
  obtain ⟨k3, h⟩ := grd h
  obtain ⟨z2, e2, h⟩ := bnds h
  refine x_callV (pc := 10) (As := []) (st := []) (st' := [.int z2]) X (c_C_borneBits l cx nx N D P _ z2 e2) dX8_bestSet_10 w_664 m_C_borneBits rfl k3 (ci := 7) rfl rfl ⟨by decide, by decide⟩ ⟨Nat.zero_le _, Nat.zero_le _⟩ rfl (Nat.le_of_ble_eq_true rfl) rfl ?_
  refine x_istore (lv' := [(4, .int z2), (3, .int 9), (2, .int (-4)), (0, .ref (cx.2.2 + a0)), (1, .int i1)]) (pc := 13) X dX8_bestSet_13 (by decide) rfl ?_
  refine x_iconst (v := 0) (pc := 15) X dX8_bestSet_15 (by decide) ?_
  refine x_istore (lv' := [(5, .int 0), (4, .int z2), (3, .int 9), (2, .int (-4)), (0, .ref (cx.2.2 + a0)), (1, .int i1)]) (pc := 16) X dX8_bestSet_16 (by decide) rfl ?_
  exact XW.sub [4, 5, 3, 2, 1, 0] rfl (hL18 _ _ _ _ _ _ h)
theorem dX8_best_0 : decode cX8_best 0 = .ok (.iload_n 1, 1) := by decide +kernel
theorem dX8_best_1 : decode cX8_best 1 = .ok (.iconst 0, 1) := by decide +kernel
theorem dX8_best_2 : decode cX8_best 2 = .ok (.bipush 20, 2) := by decide +kernel
theorem dX8_best_4 : decode cX8_best 4 = .ok (.invokestatic 100, 3) := by decide +kernel
theorem dX8_best_7 : decode cX8_best 7 = .ok (.ifCond .eq 12, 3) := by decide +kernel
theorem dX8_best_10 : decode cX8_best 10 = .ok (.iload_n 2, 1) := by decide +kernel
theorem dX8_best_11 : decode cX8_best 11 = .ok (.iconst 0, 1) := by decide +kernel
theorem dX8_best_12 : decode cX8_best 12 = .ok (.iconst 1, 1) := by decide +kernel
theorem dX8_best_13 : decode cX8_best 13 = .ok (.invokestatic 100, 3) := by decide +kernel
theorem dX8_best_16 : decode cX8_best 16 = .ok (.ifCond .ne 5, 3) := by decide +kernel
theorem dX8_best_19 : decode cX8_best 19 = .ok (.iconst (-1), 1) := by decide +kernel
theorem dX8_best_20 : decode cX8_best 20 = .ok (.ireturn, 1) := by decide +kernel
theorem dX8_best_21 : decode cX8_best 21 = .ok (.aload_n 0, 1) := by decide +kernel
theorem dX8_best_22 : decode cX8_best 22 = .ok (.iload_n 1, 1) := by decide +kernel
theorem dX8_best_23 : decode cX8_best 23 = .ok (.invokevirtual 225, 3) := by decide +kernel
theorem dX8_best_26 : decode cX8_best 26 = .ok (.istore_n 3, 1) := by decide +kernel
theorem dX8_best_27 : decode cX8_best 27 = .ok (.iload_n 3, 1) := by decide +kernel
theorem dX8_best_28 : decode cX8_best 28 = .ok (.ifCond .ge 6, 3) := by decide +kernel
theorem dX8_best_31 : decode cX8_best 31 = .ok (.bipush (-4), 2) := by decide +kernel
theorem dX8_best_33 : decode cX8_best 33 = .ok (.ireturn, 1) := by decide +kernel
theorem dX8_best_34 : decode cX8_best 34 = .ok (.iload_n 2, 1) := by decide +kernel
theorem dX8_best_35 : decode cX8_best 35 = .ok (.ifCond .ne 10, 3) := by decide +kernel
theorem dX8_best_38 : decode cX8_best 38 = .ok (.iload_n 3, 1) := by decide +kernel
theorem dX8_best_39 : decode cX8_best 39 = .ok (.invokestatic 228, 3) := by decide +kernel
theorem dX8_best_42 : decode cX8_best 42 = .ok (.goto 4, 3) := by decide +kernel
theorem dX8_best_45 : decode cX8_best 45 = .ok (.iload_n 3, 1) := by decide +kernel
theorem dX8_best_46 : decode cX8_best 46 = .ok (.ireturn, 1) := by decide +kernel
def f_H_best (N nx : Nat) (D : Dt) (P : Ft) (a0 : Nat) (i1 : Int32) (i2 : Int32) : Option (Int32 × Dt) :=
  if kd nx a0 = 8 then
  (f_H_isWithin N nx D P i1 0 20).bind fun z1 =>
  if z1 = 0 then
    some ((-1), D)
  else
    (f_H_isWithin N nx D P i2 0 1).bind fun z2 =>
    if z2 = 0 then
      some ((-1), D)
    else
      (f_H_bestSet N nx D P a0 i1).bind fun z3 =>
      if 0 ≤ z3.1 then
        if i2 = 0 then
          (f_J_bitCount N nx z3.2 P z3.1).bind fun z4 =>
          some (z4, z3.2)
        else
          some (z3.1, z3.2)
      else
        some ((-4), z3.2)
  else none
theorem m_H_best : MV yX8_best cX8_best 4 (some .int) 2 := ⟨mT 659 (by decide +kernel) rfl, mT 657 (by decide +kernel) rfl, mT 658 (by decide +kernel) rfl, mT 54 (by decide +kernel) rfl, by decide +kernel, by decide +kernel, by decide +kernel⟩
set_option maxHeartbeats 4000000 in
set_option maxRecDepth 100000 in
theorem c_H_best (l : Launch) (cx : Cx) (nx N : Nat) (D : Dt) (P : Ft) (a0 : Nat) (i1 : Int32) (i2 : Int32) (z : Int32 × Dt) (h : f_H_best N nx D P a0 i1 i2 = some z) : Ct l cx yX8_best cX8_best 4 (some .int) 7 [.ref (cx.2.2 + a0), .int i1, .int i2] D P nx (some (.int z.1)) z.2 P := by
  refine x_met0 (by decide) (Nat.le_of_ble_eq_true rfl) ?_
  intro p e s m args below meth c X
  have X : XC p s m args meth c cx cX8_best 4 (some .int) "HeartPins" "best" := X
  refine XW.sub (lv' := [(0, .ref (cx.2.2 + a0)), (1, .int i1), (2, .int i2)]) [0, 1, 2] rfl ?_
  unfold f_H_best at h
  obtain ⟨hk0, h⟩ := grd h
  refine x_iload_n (pc := 0) X dX8_best_0 (i := 1) rfl 1 rfl ?_
  refine x_iconst (v := 0) (pc := 1) X dX8_best_1 (by decide) ?_
  refine x_bipush (v := 20) (pc := 2) X dX8_best_2 (by decide) ?_
  obtain ⟨z1, e1, h⟩ := bnds h
  refine x_callS (pc := 4) (As := [.int i1, .int 0, .int 20]) (st := []) (st' := [.int z1]) X (c_H_isWithin l cx nx N D P _ _ _ z1 e1) dX8_best_4 w_460 m_H_isWithin rfl ⟨by decide, by decide⟩ ⟨Nat.zero_le _, Nat.zero_le _⟩ rfl (Nat.le_of_ble_eq_true rfl) rfl ?_
  refine x_if_eq (tgt := 19) (pc := 7) X dX8_best_7 (by decide) (fun c8 => ?_) (fun c8 => ?_)
  · have h := ite_t c8 h
    refine x_iconst (v := (-1)) (pc := 19) X dX8_best_19 (by decide) ?_
    obtain rfl := Option.some.inj h
    exact x_iret (pc := 20) X dX8_best_20
  · have h := ite_f c8 h
    refine x_iload_n (pc := 10) X dX8_best_10 (i := 2) rfl 2 rfl ?_
    refine x_iconst (v := 0) (pc := 11) X dX8_best_11 (by decide) ?_
    refine x_iconst (v := 1) (pc := 12) X dX8_best_12 (by decide) ?_
    obtain ⟨z2, e2, h⟩ := bnds h
    refine x_callS (pc := 13) (As := [.int i2, .int 0, .int 1]) (st := []) (st' := [.int z2]) X (c_H_isWithin l cx nx N D P _ _ _ z2 e2) dX8_best_13 w_460 m_H_isWithin rfl ⟨by decide, by decide⟩ ⟨Nat.zero_le _, Nat.zero_le _⟩ rfl (Nat.le_of_ble_eq_true rfl) rfl ?_
    refine x_if_ne (tgt := 21) (pc := 16) X dX8_best_16 (by decide) (fun c7 => ?_) (fun c7 => ?_)
    · have h := ite_f c7 h
      refine x_aload_n (pc := 21) X dX8_best_21 (i := 0) rfl 0 rfl ?_
      refine x_iload_n (pc := 22) X dX8_best_22 (i := 1) rfl 1 rfl ?_
      obtain ⟨z3, e3, h⟩ := bnds h
      refine x_callV (pc := 23) (As := [.int i1]) (st := []) (st' := [.int z3.1]) X (c_H_bestSet l cx nx N D P _ _ z3 e3) dX8_best_23 w_660 m_H_bestSet rfl hk0 (ci := 8) rfl rfl ⟨by decide, by decide⟩ ⟨Nat.zero_le _, Nat.zero_le _⟩ rfl (Nat.le_of_ble_eq_true rfl) rfl ?_
      refine x_istore_n (lv' := [(3, .int z3.1), (0, .ref (cx.2.2 + a0)), (1, .int i1), (2, .int i2)]) (pc := 26) X dX8_best_26 (i := 3) rfl (by decide) rfl ?_
      refine x_iload_n (pc := 27) X dX8_best_27 (i := 3) rfl 0 rfl ?_
      refine x_if_ge (tgt := 34) (pc := 28) X dX8_best_28 (by decide) (fun c6 => ?_) (fun c6 => ?_)
      · have h := ite_t c6 h
        refine x_iload_n (pc := 34) X dX8_best_34 (i := 2) rfl 3 rfl ?_
        refine x_if_ne (tgt := 45) (pc := 35) X dX8_best_35 (by decide) (fun c5 => ?_) (fun c5 => ?_)
        · have h := ite_f c5 h
          refine x_iload_n (pc := 45) X dX8_best_45 (i := 3) rfl 0 rfl ?_
          obtain rfl := Option.some.inj h
          exact x_iret (pc := 46) X dX8_best_46
        · have h := ite_t c5 h
          refine x_iload_n (pc := 38) X dX8_best_38 (i := 3) rfl 0 rfl ?_
          obtain ⟨z4, e4, h⟩ := bnds h
          refine x_callS (pc := 39) (As := [.int z3.1]) (st := []) (st' := [.int z4]) X (c_J_bitCount l cx nx N z3.2 P _ z4 e4) dX8_best_39 w_668 m_J_bitCount rfl ⟨by decide, by decide⟩ ⟨Nat.zero_le _, Nat.zero_le _⟩ rfl (Nat.le_of_ble_eq_true rfl) rfl ?_
          refine x_goto (tgt := 46) (pc := 42) X dX8_best_42 (by decide) ?_
          obtain rfl := Option.some.inj h
          exact x_iret (pc := 46) X dX8_best_46
      · have h := ite_f c6 h
        refine x_bipush (v := (-4)) (pc := 31) X dX8_best_31 (by decide) ?_
        obtain rfl := Option.some.inj h
        exact x_iret (pc := 33) X dX8_best_33
    · have h := ite_t c7 h
      refine x_iconst (v := (-1)) (pc := 19) X dX8_best_19 (by decide) ?_
      obtain rfl := Option.some.inj h
      exact x_iret (pc := 20) X dX8_best_20
theorem dX8_share_0 : decode cX8_share 0 = .ok (.iload_n 1, 1) := by decide +kernel
theorem dX8_share_1 : decode cX8_share 1 = .ok (.iconst (-1), 1) := by decide +kernel
theorem dX8_share_2 : decode cX8_share 2 = .ok (.if_icmp .eq 16, 3) := by decide +kernel
theorem dX8_share_5 : decode cX8_share 5 = .ok (.aload_n 0, 1) := by decide +kernel
theorem dX8_share_6 : decode cX8_share 6 = .ok (.getfield 19, 3) := by decide +kernel
theorem dX8_share_9 : decode cX8_share 9 = .ok (.iload_n 1, 1) := by decide +kernel
theorem dX8_share_10 : decode cX8_share 10 = .ok (.invokevirtual 139, 3) := by decide +kernel
theorem dX8_share_13 : decode cX8_share 13 = .ok (.ifCond .ne 5, 3) := by decide +kernel
theorem dX8_share_16 : decode cX8_share 16 = .ok (.iconst (-1), 1) := by decide +kernel
theorem dX8_share_17 : decode cX8_share 17 = .ok (.ireturn, 1) := by decide +kernel
theorem dX8_share_18 : decode cX8_share 18 = .ok (.aload_n 0, 1) := by decide +kernel
theorem dX8_share_19 : decode cX8_share 19 = .ok (.getfield 67, 3) := by decide +kernel
theorem dX8_share_22 : decode cX8_share 22 = .ok (.aload_n 0, 1) := by decide +kernel
theorem dX8_share_23 : decode cX8_share 23 = .ok (.getfield 31, 3) := by decide +kernel
theorem dX8_share_26 : decode cX8_share 26 = .ok (.aload_n 0, 1) := by decide +kernel
theorem dX8_share_27 : decode cX8_share 27 = .ok (.getfield 19, 3) := by decide +kernel
theorem dX8_share_30 : decode cX8_share 30 = .ok (.getfield 111, 3) := by decide +kernel
theorem dX8_share_33 : decode cX8_share 33 = .ok (.invokevirtual 233, 3) := by decide +kernel
theorem dX8_share_36 : decode cX8_share 36 = .ok (.iload_n 1, 1) := by decide +kernel
theorem dX8_share_37 : decode cX8_share 37 = .ok (.iconst (-1), 1) := by decide +kernel
theorem dX8_share_38 : decode cX8_share 38 = .ok (.if_icmp .ne 13, 3) := by decide +kernel
theorem dX8_share_41 : decode cX8_share 41 = .ok (.aload_n 0, 1) := by decide +kernel
theorem dX8_share_42 : decode cX8_share 42 = .ok (.getfield 67, 3) := by decide +kernel
theorem dX8_share_45 : decode cX8_share 45 = .ok (.getfield 237, 3) := by decide +kernel
theorem dX8_share_48 : decode cX8_share 48 = .ok (.goto 11, 3) := by decide +kernel
theorem dX8_share_51 : decode cX8_share 51 = .ok (.aload_n 0, 1) := by decide +kernel
theorem dX8_share_52 : decode cX8_share 52 = .ok (.getfield 67, 3) := by decide +kernel
theorem dX8_share_55 : decode cX8_share 55 = .ok (.iload_n 1, 1) := by decide +kernel
theorem dX8_share_56 : decode cX8_share 56 = .ok (.invokevirtual 240, 3) := by decide +kernel
theorem dX8_share_59 : decode cX8_share 59 = .ok (.ireturn, 1) := by decide +kernel
def f_H_share_18 (N nx : Nat) (D : Dt) (P : Ft) (a0 : Nat) (i1 : Int32) : Option (Int32 × Dt) :=
  nn (P a0 9) fun q1 =>
  nn (P a0 3) fun q2 =>
  nn (P a0 1) fun q3 =>
  if kd nx q3 = 1 then
  if kd nx q1 = 5 then
  (f_Z_find N nx D P q1 q2 (D q3 4)).bind fun z5 =>
  if i1 = (-1) then
    some (z5 q1 7, z5)
  else
    (f_Z_bearerOf N nx z5 P q1 i1).bind fun z7 =>
    some (z7, z5)
  else none
  else none
def f_H_share (N nx : Nat) (D : Dt) (P : Ft) (a0 : Nat) (i1 : Int32) : Option (Int32 × Dt) :=
  if kd nx a0 = 8 then
  if i1 = (-1) then
    f_H_share_18 N nx D P a0 i1
  else
    nn (P a0 1) fun q9 =>
    if kd nx q9 = 1 then
    (f_F_hasPin N nx D P q9 i1).bind fun z10 =>
    if z10 = 0 then
      some ((-1), D)
    else
      f_H_share_18 N nx D P a0 i1
    else none
  else none
theorem m_H_share : MV yX8_share cX8_share 2 (some .int) 1 := ⟨mT 690 (by decide +kernel) rfl, mT 688 (by decide +kernel) rfl, mT 689 (by decide +kernel) rfl, mT 54 (by decide +kernel) rfl, by decide +kernel, by decide +kernel, by decide +kernel⟩
set_option maxHeartbeats 4000000 in
set_option maxRecDepth 100000 in
theorem c_H_share (l : Launch) (cx : Cx) (nx N : Nat) (D : Dt) (P : Ft) (a0 : Nat) (i1 : Int32) (z : Int32 × Dt) (h : f_H_share N nx D P a0 i1 = some z) : Ct l cx yX8_share cX8_share 2 (some .int) 33 [.ref (cx.2.2 + a0), .int i1] D P nx (some (.int z.1)) z.2 P := by
  refine x_met0 (by decide) (Nat.le_of_ble_eq_true rfl) ?_
  intro p e s m args below meth c X
  have X : XC p s m args meth c cx cX8_share 2 (some .int) "HeartPins" "share" := X
  refine XW.sub (lv' := [(0, .ref (cx.2.2 + a0)), (1, .int i1)]) [0, 1] rfl ?_
  unfold f_H_share at h
  obtain ⟨hk0, h⟩ := grd h
  have hJ18 : ∀ (D : Dt), f_H_share_18 N nx D P a0 i1 = some z → XW p l e (rmk 33) s m args below meth c (MQ below (Qx cx (some (.int z.1)) z.2 P nx) args s 0 0 (AA cx)) cx 2 D P nx 0 0 18 [(0, .ref (cx.2.2 + a0)), (1, .int i1)] [] := by
    intro D h
    unfold f_H_share_18 at h
    refine x_aload_n (pc := 18) X dX8_share_18 (i := 0) rfl 0 rfl ?_
    obtain ⟨q1, e1, h⟩ := nns h
    refine x_getr (ci := 8) (k := 9) (n := 11) (C := RX8) (T := TX8) (pc := 19) X dX8_share_19 hk0 rfl (by decide) w_430 rfl e1 ?_
    refine x_aload_n (pc := 22) X dX8_share_22 (i := 0) rfl 0 rfl ?_
    obtain ⟨q2, e2, h⟩ := nns h
    refine x_getr (ci := 8) (k := 3) (n := 11) (C := RX8) (T := TX8) (pc := 23) X dX8_share_23 hk0 rfl (by decide) w_424 rfl e2 ?_
    refine x_aload_n (pc := 26) X dX8_share_26 (i := 0) rfl 0 rfl ?_
    obtain ⟨q3, e3, h⟩ := nns h
    refine x_getr (ci := 8) (k := 1) (n := 11) (C := RX8) (T := TX8) (pc := 27) X dX8_share_27 hk0 rfl (by decide) w_422 rfl e3 ?_
    obtain ⟨k4, h⟩ := grd h
    refine x_geti (ci := 1) (k := 4) (n := 9) (C := RX1) (T := TX1) (pc := 30) X dX8_share_30 k4 rfl (by decide) w_113 rfl ?_
    obtain ⟨k6, h⟩ := grd h
    obtain ⟨z5, e5, h⟩ := bnds h
    refine x_callV (pc := 33) (As := [.ref (cx.2.2 + q2), .int (D q3 4)]) (st := []) (st' := []) X (c_Z_find l cx nx N D P _ _ _ z5 e5) dX8_share_33 w_691 m_Z_find rfl k6 (ci := 5) rfl rfl ⟨by decide, by decide⟩ ⟨Nat.zero_le _, Nat.zero_le _⟩ rfl (Nat.le_of_ble_eq_true rfl) rfl ?_
    refine x_iload_n (pc := 36) X dX8_share_36 (i := 1) rfl 1 rfl ?_
    refine x_iconst (v := (-1)) (pc := 37) X dX8_share_37 (by decide) ?_
    refine x_icmp_ne (tgt := 51) (pc := 38) X dX8_share_38 (by decide) (fun c8 => ?_) (fun c8 => ?_)
    · have h := ite_f c8 h
      refine x_aload_n (pc := 51) X dX8_share_51 (i := 0) rfl 0 rfl ?_
      refine x_getr (ci := 8) (k := 9) (n := 11) (C := RX8) (T := TX8) (pc := 52) X dX8_share_52 hk0 rfl (by decide) w_430 rfl e1 ?_
      refine x_iload_n (pc := 55) X dX8_share_55 (i := 1) rfl 1 rfl ?_
      obtain ⟨z7, e7, h⟩ := bnds h
      refine x_callV (pc := 56) (As := [.int i1]) (st := []) (st' := [.int z7]) X (c_Z_bearerOf l cx nx N z5 P _ _ z7 e7) dX8_share_56 w_709 m_Z_bearerOf rfl k6 (ci := 5) rfl rfl ⟨by decide, by decide⟩ ⟨Nat.zero_le _, Nat.zero_le _⟩ rfl (Nat.le_of_ble_eq_true rfl) rfl ?_
      obtain rfl := Option.some.inj h
      exact x_iret (pc := 59) X dX8_share_59
    · have h := ite_t c8 h
      refine x_aload_n (pc := 41) X dX8_share_41 (i := 0) rfl 0 rfl ?_
      refine x_getr (ci := 8) (k := 9) (n := 11) (C := RX8) (T := TX8) (pc := 42) X dX8_share_42 hk0 rfl (by decide) w_430 rfl e1 ?_
      refine x_geti (ci := 5) (k := 7) (n := 8) (C := RX5) (T := TX5) (pc := 45) X dX8_share_45 k6 rfl (by decide) w_253 rfl ?_
      refine x_goto (tgt := 59) (pc := 48) X dX8_share_48 (by decide) ?_
      obtain rfl := Option.some.inj h
      exact x_iret (pc := 59) X dX8_share_59
  refine x_iload_n (pc := 0) X dX8_share_0 (i := 1) rfl 1 rfl ?_
  refine x_iconst (v := (-1)) (pc := 1) X dX8_share_1 (by decide) ?_
  refine x_icmp_eq (tgt := 18) (pc := 2) X dX8_share_2 (by decide) (fun c13 => ?_) (fun c13 => ?_)
  · have h := ite_t c13 h
    exact XW.sub [0, 1] rfl (hJ18 _ h)
  · have h := ite_f c13 h
    refine x_aload_n (pc := 5) X dX8_share_5 (i := 0) rfl 0 rfl ?_
    obtain ⟨q9, e9, h⟩ := nns h
    refine x_getr (ci := 8) (k := 1) (n := 11) (C := RX8) (T := TX8) (pc := 6) X dX8_share_6 hk0 rfl (by decide) w_422 rfl e9 ?_
    refine x_iload_n (pc := 9) X dX8_share_9 (i := 1) rfl 1 rfl ?_
    obtain ⟨k11, h⟩ := grd h
    obtain ⟨z10, e10, h⟩ := bnds h
    refine x_callV (pc := 10) (As := [.int i1]) (st := []) (st' := [.int z10]) X (c_F_hasPin l cx nx N D P _ _ z10 e10) dX8_share_10 w_501 m_F_hasPin rfl k11 (ci := 1) rfl rfl ⟨by decide, by decide⟩ ⟨Nat.zero_le _, Nat.zero_le _⟩ rfl (Nat.le_of_ble_eq_true rfl) rfl ?_
    refine x_if_ne (tgt := 18) (pc := 13) X dX8_share_13 (by decide) (fun c12 => ?_) (fun c12 => ?_)
    · have h := ite_f c12 h
      exact XW.sub [0, 1] rfl (hJ18 _ h)
    · have h := ite_t c12 h
      refine x_iconst (v := (-1)) (pc := 16) X dX8_share_16 (by decide) ?_
      obtain rfl := Option.some.inj h
      exact x_iret (pc := 17) X dX8_share_17
theorem dX8_relief_0 : decode cX8_relief 0 = .ok (.iload_n 1, 1) := by decide +kernel
theorem dX8_relief_1 : decode cX8_relief 1 = .ok (.iconst 0, 1) := by decide +kernel
theorem dX8_relief_2 : decode cX8_relief 2 = .ok (.iconst 1, 1) := by decide +kernel
theorem dX8_relief_3 : decode cX8_relief 3 = .ok (.invokestatic 100, 3) := by decide +kernel
theorem dX8_relief_6 : decode cX8_relief 6 = .ok (.ifCond .ne 5, 3) := by decide +kernel
theorem dX8_relief_9 : decode cX8_relief 9 = .ok (.iconst (-1), 1) := by decide +kernel
theorem dX8_relief_10 : decode cX8_relief 10 = .ok (.ireturn, 1) := by decide +kernel
theorem dX8_relief_11 : decode cX8_relief 11 = .ok (.bipush (-4), 2) := by decide +kernel
theorem dX8_relief_13 : decode cX8_relief 13 = .ok (.istore_n 2, 1) := by decide +kernel
theorem dX8_relief_14 : decode cX8_relief 14 = .ok (.iconst 0, 1) := by decide +kernel
theorem dX8_relief_15 : decode cX8_relief 15 = .ok (.istore_n 3, 1) := by decide +kernel
theorem dX8_relief_16 : decode cX8_relief 16 = .ok (.iconst 0, 1) := by decide +kernel
theorem dX8_relief_17 : decode cX8_relief 17 = .ok (.istore 4, 2) := by decide +kernel
theorem dX8_relief_19 : decode cX8_relief 19 = .ok (.iload 4, 2) := by decide +kernel
theorem dX8_relief_21 : decode cX8_relief 21 = .ok (.bipush 8, 2) := by decide +kernel
theorem dX8_relief_23 : decode cX8_relief 23 = .ok (.if_icmp .ge 74, 3) := by decide +kernel
theorem dX8_relief_26 : decode cX8_relief 26 = .ok (.aload_n 0, 1) := by decide +kernel
theorem dX8_relief_27 : decode cX8_relief 27 = .ok (.getfield 31, 3) := by decide +kernel
theorem dX8_relief_30 : decode cX8_relief 30 = .ok (.iload 4, 2) := by decide +kernel
theorem dX8_relief_32 : decode cX8_relief 32 = .ok (.invokevirtual 151, 3) := by decide +kernel
theorem dX8_relief_35 : decode cX8_relief 35 = .ok (.ifCond .lt 56, 3) := by decide +kernel
theorem dX8_relief_38 : decode cX8_relief 38 = .ok (.aload_n 0, 1) := by decide +kernel
theorem dX8_relief_39 : decode cX8_relief 39 = .ok (.getfield 31, 3) := by decide +kernel
theorem dX8_relief_42 : decode cX8_relief 42 = .ok (.iload 4, 2) := by decide +kernel
theorem dX8_relief_44 : decode cX8_relief 44 = .ok (.invokevirtual 243, 3) := by decide +kernel
theorem dX8_relief_47 : decode cX8_relief 47 = .ok (.istore 5, 2) := by decide +kernel
theorem dX8_relief_49 : decode cX8_relief 49 = .ok (.iload_n 2, 1) := by decide +kernel
theorem dX8_relief_50 : decode cX8_relief 50 = .ok (.ifCond .lt 35, 3) := by decide +kernel
theorem dX8_relief_53 : decode cX8_relief 53 = .ok (.iload 5, 2) := by decide +kernel
theorem dX8_relief_55 : decode cX8_relief 55 = .ok (.iload_n 3, 1) := by decide +kernel
theorem dX8_relief_56 : decode cX8_relief 56 = .ok (.if_icmp .lt 29, 3) := by decide +kernel
theorem dX8_relief_59 : decode cX8_relief 59 = .ok (.iload 5, 2) := by decide +kernel
theorem dX8_relief_61 : decode cX8_relief 61 = .ok (.iload_n 3, 1) := by decide +kernel
theorem dX8_relief_62 : decode cX8_relief 62 = .ok (.if_icmp .ne 29, 3) := by decide +kernel
theorem dX8_relief_65 : decode cX8_relief 65 = .ok (.aload_n 0, 1) := by decide +kernel
theorem dX8_relief_66 : decode cX8_relief 66 = .ok (.getfield 31, 3) := by decide +kernel
theorem dX8_relief_69 : decode cX8_relief 69 = .ok (.iload 4, 2) := by decide +kernel
theorem dX8_relief_71 : decode cX8_relief 71 = .ok (.invokevirtual 148, 3) := by decide +kernel
theorem dX8_relief_74 : decode cX8_relief 74 = .ok (.aload_n 0, 1) := by decide +kernel
theorem dX8_relief_75 : decode cX8_relief 75 = .ok (.getfield 31, 3) := by decide +kernel
theorem dX8_relief_78 : decode cX8_relief 78 = .ok (.iload_n 2, 1) := by decide +kernel
theorem dX8_relief_79 : decode cX8_relief 79 = .ok (.invokevirtual 148, 3) := by decide +kernel
theorem dX8_relief_82 : decode cX8_relief 82 = .ok (.if_icmp .le 9, 3) := by decide +kernel
theorem dX8_relief_85 : decode cX8_relief 85 = .ok (.iload 4, 2) := by decide +kernel
theorem dX8_relief_87 : decode cX8_relief 87 = .ok (.istore_n 2, 1) := by decide +kernel
theorem dX8_relief_88 : decode cX8_relief 88 = .ok (.iload 5, 2) := by decide +kernel
theorem dX8_relief_90 : decode cX8_relief 90 = .ok (.istore_n 3, 1) := by decide +kernel
theorem dX8_relief_91 : decode cX8_relief 91 = .ok (.iinc 4 1, 3) := by decide +kernel
theorem dX8_relief_94 : decode cX8_relief 94 = .ok (.goto (-75), 3) := by decide +kernel
theorem dX8_relief_97 : decode cX8_relief 97 = .ok (.iload_n 2, 1) := by decide +kernel
theorem dX8_relief_98 : decode cX8_relief 98 = .ok (.ifCond .lt 7, 3) := by decide +kernel
theorem dX8_relief_101 : decode cX8_relief 101 = .ok (.iload_n 1, 1) := by decide +kernel
theorem dX8_relief_102 : decode cX8_relief 102 = .ok (.ifCond .ne 7, 3) := by decide +kernel
theorem dX8_relief_105 : decode cX8_relief 105 = .ok (.iload_n 2, 1) := by decide +kernel
theorem dX8_relief_106 : decode cX8_relief 106 = .ok (.goto 4, 3) := by decide +kernel
theorem dX8_relief_109 : decode cX8_relief 109 = .ok (.iload_n 3, 1) := by decide +kernel
theorem dX8_relief_110 : decode cX8_relief 110 = .ok (.ireturn, 1) := by decide +kernel
def f_H_relief_85 (N nx : Nat) (rec19 : Dt → Int32 → Int32 → Int32 → Option (Int32 × Dt)) (D : Dt) (P : Ft) (a0 : Nat) (i1 : Int32) (i4 : Int32) (i5 : Int32) : Option (Int32 × Dt) :=
  rec19 D i4 i5 (i4 + 1)
def f_H_relief_19 (N nx : Nat) (P : Ft) (a0 : Nat) (i1 : Int32) (rec19 : Dt → Int32 → Int32 → Int32 → Option (Int32 × Dt)) (D : Dt) (i2 : Int32) (i3 : Int32) (i4 : Int32) : Option (Int32 × Dt) :=
  if 8 ≤ i4 then
    if i2 < 0 then
      some (i2, D)
    else
      if i1 = 0 then
        some (i2, D)
      else
        some (i3, D)
  else
    nn (P a0 3) fun q4 =>
    if kd nx q4 = 7 then
    (f_C_whereIs N nx D P q4 i4).bind fun z5 =>
    if z5 < 0 then
      rec19 D i2 i3 (i4 + 1)
    else
      (f_C_breakingWithout N nx D P q4 i4).bind fun z7 =>
      if i2 < 0 then
        f_H_relief_85 N nx rec19 z7.2 P a0 i1 i4 z7.1
      else
        if z7.1 < i3 then
          f_H_relief_85 N nx rec19 z7.2 P a0 i1 i4 z7.1
        else
          if z7.1 = i3 then
            (f_C_largeOf N nx z7.2 P q4 i4).bind fun z8 =>
            (f_C_largeOf N nx z7.2 P q4 i2).bind fun z9 =>
            if z8 ≤ z9 then
              rec19 z7.2 i2 i3 (i4 + 1)
            else
              f_H_relief_85 N nx rec19 z7.2 P a0 i1 i4 z7.1
          else
            rec19 z7.2 i2 i3 (i4 + 1)
    else none
def f_H_relief (N nx : Nat) (D : Dt) (P : Ft) (a0 : Nat) (i1 : Int32) : Option (Int32 × Dt) :=
  if kd nx a0 = 8 then
  (f_H_isWithin N nx D P i1 0 1).bind fun z1 =>
  if z1 = 0 then
    some ((-1), D)
  else
    wk4 N (f_H_relief_19 N nx P a0 i1) D (-4) 0 0
  else none
theorem m_H_relief : MV yX8_relief cX8_relief 6 (some .int) 1 := ⟨mT 716 (by decide +kernel) rfl, mT 714 (by decide +kernel) rfl, mT 715 (by decide +kernel) rfl, mT 54 (by decide +kernel) rfl, by decide +kernel, by decide +kernel, by decide +kernel⟩
set_option maxHeartbeats 4000000 in
set_option maxRecDepth 100000 in
theorem c_H_relief (l : Launch) (cx : Cx) (nx N : Nat) (D : Dt) (P : Ft) (a0 : Nat) (i1 : Int32) (z : Int32 × Dt) (h : f_H_relief N nx D P a0 i1 = some z) : Ct l cx yX8_relief cX8_relief 6 (some .int) 5 [.ref (cx.2.2 + a0), .int i1] D P nx (some (.int z.1)) z.2 P := by
  refine x_met0 (by decide) (Nat.le_of_ble_eq_true rfl) ?_
  intro p e s m args below meth c X
  have X : XC p s m args meth c cx cX8_relief 6 (some .int) "HeartPins" "relief" := X
  refine XW.sub (lv' := [(0, .ref (cx.2.2 + a0)), (1, .int i1)]) [0, 1] rfl ?_
  unfold f_H_relief at h
  obtain ⟨hk0, h⟩ := grd h
  have hL19 : ∀ (n : Nat) (D : Dt) (i2 : Int32) (i3 : Int32) (i4 : Int32), wk4 n (f_H_relief_19 N nx P a0 i1) D i2 i3 i4 = some z → XW p l e (rmk 5) s m args below meth c (MQ below (Qx cx (some (.int z.1)) z.2 P nx) args s 0 0 (AA cx)) cx 6 D P nx 0 0 19 [(0, .ref (cx.2.2 + a0)), (1, .int i1), (2, .int i2), (3, .int i3), (4, .int i4)] [] := by
    intro n
    induction n with
    | zero => intro D i2 i3 i4 h; exact (nonz h).elim
    | succ n ih19 =>
      intro D i2 i3 i4 h
      have h : f_H_relief_19 N nx P a0 i1 (wk4 n (f_H_relief_19 N nx P a0 i1)) D i2 i3 i4 = some z := h
      generalize wk4 n (f_H_relief_19 N nx P a0 i1) = rec19 at ih19 h
      unfold f_H_relief_19 at h
      have hJ85 : ∀ (D : Dt) (i4 : Int32) (i5 : Int32), f_H_relief_85 N nx rec19 D P a0 i1 i4 i5 = some z → XW p l e (rmk 5) s m args below meth c (MQ below (Qx cx (some (.int z.1)) z.2 P nx) args s 0 0 (AA cx)) cx 6 D P nx 0 0 85 [(0, .ref (cx.2.2 + a0)), (1, .int i1), (4, .int i4), (5, .int i5)] [] := by
        intro D i4 i5 h
        unfold f_H_relief_85 at h
        refine x_iload (pc := 85) X dX8_relief_85 2 rfl ?_
        refine x_istore_n (lv' := [(2, .int i4), (0, .ref (cx.2.2 + a0)), (1, .int i1), (4, .int i4), (5, .int i5)]) (pc := 87) X dX8_relief_87 (i := 2) rfl (by decide) rfl ?_
        refine x_iload (pc := 88) X dX8_relief_88 4 rfl ?_
        refine x_istore_n (lv' := [(3, .int i5), (2, .int i4), (0, .ref (cx.2.2 + a0)), (1, .int i1), (4, .int i4), (5, .int i5)]) (pc := 90) X dX8_relief_90 (i := 3) rfl (by decide) rfl ?_
        refine x_iinc (v := i4 + 1) (lv' := [(4, .int (i4 + 1)), (3, .int i5), (2, .int i4), (0, .ref (cx.2.2 + a0)), (1, .int i1), (5, .int i5)]) (pc := 91) X dX8_relief_91 4 rfl rfl (by decide) rfl ?_
        refine x_goto (tgt := 19) (pc := 94) X dX8_relief_94 (by decide) ?_
        exact XW.sub [3, 4, 2, 1, 0] rfl (ih19 _ _ _ _ h)
      refine x_iload (pc := 19) X dX8_relief_19 4 rfl ?_
      refine x_bipush (v := 8) (pc := 21) X dX8_relief_21 (by decide) ?_
      refine x_icmp_ge (tgt := 97) (pc := 23) X dX8_relief_23 (by decide) (fun c15 => ?_) (fun c15 => ?_)
      · have h := ite_t c15 h
        refine x_iload_n (pc := 97) X dX8_relief_97 (i := 2) rfl 2 rfl ?_
        refine x_if_lt (tgt := 105) (pc := 98) X dX8_relief_98 (by decide) (fun c3 => ?_) (fun c3 => ?_)
        · have h := ite_t c3 h
          refine x_iload_n (pc := 105) X dX8_relief_105 (i := 2) rfl 2 rfl ?_
          refine x_goto (tgt := 110) (pc := 106) X dX8_relief_106 (by decide) ?_
          obtain rfl := Option.some.inj h
          exact x_iret (pc := 110) X dX8_relief_110
        · have h := ite_f c3 h
          refine x_iload_n (pc := 101) X dX8_relief_101 (i := 1) rfl 1 rfl ?_
          refine x_if_ne (tgt := 109) (pc := 102) X dX8_relief_102 (by decide) (fun c2 => ?_) (fun c2 => ?_)
          · have h := ite_f c2 h
            refine x_iload_n (pc := 109) X dX8_relief_109 (i := 3) rfl 3 rfl ?_
            obtain rfl := Option.some.inj h
            exact x_iret (pc := 110) X dX8_relief_110
          · have h := ite_t c2 h
            refine x_iload_n (pc := 105) X dX8_relief_105 (i := 2) rfl 2 rfl ?_
            refine x_goto (tgt := 110) (pc := 106) X dX8_relief_106 (by decide) ?_
            obtain rfl := Option.some.inj h
            exact x_iret (pc := 110) X dX8_relief_110
      · have h := ite_f c15 h
        refine x_aload_n (pc := 26) X dX8_relief_26 (i := 0) rfl 0 rfl ?_
        obtain ⟨q4, e4, h⟩ := nns h
        refine x_getr (ci := 8) (k := 3) (n := 11) (C := RX8) (T := TX8) (pc := 27) X dX8_relief_27 hk0 rfl (by decide) w_424 rfl e4 ?_
        refine x_iload (pc := 30) X dX8_relief_30 4 rfl ?_
        obtain ⟨k6, h⟩ := grd h
        obtain ⟨z5, e5, h⟩ := bnds h
        refine x_callV (pc := 32) (As := [.int i4]) (st := []) (st' := [.int z5]) X (c_C_whereIs l cx nx N D P _ _ z5 e5) dX8_relief_32 w_514 m_C_whereIs rfl k6 (ci := 7) rfl rfl ⟨by decide, by decide⟩ ⟨Nat.zero_le _, Nat.zero_le _⟩ rfl (Nat.le_of_ble_eq_true rfl) rfl ?_
        refine x_if_lt (tgt := 91) (pc := 35) X dX8_relief_35 (by decide) (fun c14 => ?_) (fun c14 => ?_)
        · have h := ite_t c14 h
          refine x_iinc (v := i4 + 1) (lv' := [(4, .int (i4 + 1)), (0, .ref (cx.2.2 + a0)), (1, .int i1), (2, .int i2), (3, .int i3)]) (pc := 91) X dX8_relief_91 4 rfl rfl (by decide) rfl ?_
          refine x_goto (tgt := 19) (pc := 94) X dX8_relief_94 (by decide) ?_
          exact XW.sub [1, 2, 3, 4, 0] rfl (ih19 _ _ _ _ h)
        · have h := ite_f c14 h
          refine x_aload_n (pc := 38) X dX8_relief_38 (i := 0) rfl 0 rfl ?_
          refine x_getr (ci := 8) (k := 3) (n := 11) (C := RX8) (T := TX8) (pc := 39) X dX8_relief_39 hk0 rfl (by decide) w_424 rfl e4 ?_
          refine x_iload (pc := 42) X dX8_relief_42 4 rfl ?_
          obtain ⟨z7, e7, h⟩ := bnds h
          refine x_callV (pc := 44) (As := [.int i4]) (st := []) (st' := [.int z7.1]) X (c_C_breakingWithout l cx nx N D P _ _ z7 e7) dX8_relief_44 w_717 m_C_breakingWithout rfl k6 (ci := 7) rfl rfl ⟨by decide, by decide⟩ ⟨Nat.zero_le _, Nat.zero_le _⟩ rfl (Nat.le_of_ble_eq_true rfl) rfl ?_
          refine x_istore (lv' := [(5, .int z7.1), (0, .ref (cx.2.2 + a0)), (1, .int i1), (2, .int i2), (3, .int i3), (4, .int i4)]) (pc := 47) X dX8_relief_47 (by decide) rfl ?_
          refine x_iload_n (pc := 49) X dX8_relief_49 (i := 2) rfl 3 rfl ?_
          refine x_if_lt (tgt := 85) (pc := 50) X dX8_relief_50 (by decide) (fun c13 => ?_) (fun c13 => ?_)
          · have h := ite_t c13 h
            exact XW.sub [1, 2, 5, 0] rfl (hJ85 _ _ _ h)
          · have h := ite_f c13 h
            refine x_iload (pc := 53) X dX8_relief_53 0 rfl ?_
            refine x_iload_n (pc := 55) X dX8_relief_55 (i := 3) rfl 4 rfl ?_
            refine x_icmp_lt (tgt := 85) (pc := 56) X dX8_relief_56 (by decide) (fun c12 => ?_) (fun c12 => ?_)
            · have h := ite_t c12 h
              exact XW.sub [1, 2, 5, 0] rfl (hJ85 _ _ _ h)
            · have h := ite_f c12 h
              refine x_iload (pc := 59) X dX8_relief_59 0 rfl ?_
              refine x_iload_n (pc := 61) X dX8_relief_61 (i := 3) rfl 4 rfl ?_
              refine x_icmp_ne (tgt := 91) (pc := 62) X dX8_relief_62 (by decide) (fun c11 => ?_) (fun c11 => ?_)
              · have h := ite_f c11 h
                refine x_iinc (v := i4 + 1) (lv' := [(4, .int (i4 + 1)), (5, .int z7.1), (0, .ref (cx.2.2 + a0)), (1, .int i1), (2, .int i2), (3, .int i3)]) (pc := 91) X dX8_relief_91 5 rfl rfl (by decide) rfl ?_
                refine x_goto (tgt := 19) (pc := 94) X dX8_relief_94 (by decide) ?_
                exact XW.sub [2, 3, 4, 5, 0] rfl (ih19 _ _ _ _ h)
              · have h := ite_t c11 h
                refine x_aload_n (pc := 65) X dX8_relief_65 (i := 0) rfl 1 rfl ?_
                refine x_getr (ci := 8) (k := 3) (n := 11) (C := RX8) (T := TX8) (pc := 66) X dX8_relief_66 hk0 rfl (by decide) w_424 rfl e4 ?_
                refine x_iload (pc := 69) X dX8_relief_69 5 rfl ?_
                obtain ⟨z8, e8, h⟩ := bnds h
                refine x_callV (pc := 71) (As := [.int i4]) (st := []) (st' := [.int z8]) X (c_C_largeOf l cx nx N z7.2 P _ _ z8 e8) dX8_relief_71 w_510 m_C_largeOf rfl k6 (ci := 7) rfl rfl ⟨by decide, by decide⟩ ⟨Nat.zero_le _, Nat.zero_le _⟩ rfl (Nat.le_of_ble_eq_true rfl) rfl ?_
                refine x_aload_n (pc := 74) X dX8_relief_74 (i := 0) rfl 1 rfl ?_
                refine x_getr (ci := 8) (k := 3) (n := 11) (C := RX8) (T := TX8) (pc := 75) X dX8_relief_75 hk0 rfl (by decide) w_424 rfl e4 ?_
                refine x_iload_n (pc := 78) X dX8_relief_78 (i := 2) rfl 3 rfl ?_
                obtain ⟨z9, e9, h⟩ := bnds h
                refine x_callV (pc := 79) (As := [.int i2]) (st := [.int z8]) (st' := [.int z9, .int z8]) X (c_C_largeOf l cx nx N z7.2 P _ _ z9 e9) dX8_relief_79 w_510 m_C_largeOf rfl k6 (ci := 7) rfl rfl ⟨by decide, by decide⟩ ⟨Nat.zero_le _, Nat.zero_le _⟩ rfl (Nat.le_of_ble_eq_true rfl) rfl ?_
                refine x_icmp_le (tgt := 91) (pc := 82) X dX8_relief_82 (by decide) (fun c10 => ?_) (fun c10 => ?_)
                · have h := ite_t c10 h
                  refine x_iinc (v := i4 + 1) (lv' := [(4, .int (i4 + 1)), (5, .int z7.1), (0, .ref (cx.2.2 + a0)), (1, .int i1), (2, .int i2), (3, .int i3)]) (pc := 91) X dX8_relief_91 5 rfl rfl (by decide) rfl ?_
                  refine x_goto (tgt := 19) (pc := 94) X dX8_relief_94 (by decide) ?_
                  exact XW.sub [2, 3, 4, 5, 0] rfl (ih19 _ _ _ _ h)
                · have h := ite_f c10 h
                  exact XW.sub [1, 2, 5, 0] rfl (hJ85 _ _ _ h)
  refine x_iload_n (pc := 0) X dX8_relief_0 (i := 1) rfl 1 rfl ?_
  refine x_iconst (v := 0) (pc := 1) X dX8_relief_1 (by decide) ?_
  refine x_iconst (v := 1) (pc := 2) X dX8_relief_2 (by decide) ?_
  obtain ⟨z1, e1, h⟩ := bnds h
  refine x_callS (pc := 3) (As := [.int i1, .int 0, .int 1]) (st := []) (st' := [.int z1]) X (c_H_isWithin l cx nx N D P _ _ _ z1 e1) dX8_relief_3 w_460 m_H_isWithin rfl ⟨by decide, by decide⟩ ⟨Nat.zero_le _, Nat.zero_le _⟩ rfl (Nat.le_of_ble_eq_true rfl) rfl ?_
  refine x_if_ne (tgt := 11) (pc := 6) X dX8_relief_6 (by decide) (fun c16 => ?_) (fun c16 => ?_)
  · have h := ite_f c16 h
    refine x_bipush (v := (-4)) (pc := 11) X dX8_relief_11 (by decide) ?_
    refine x_istore_n (lv' := [(2, .int (-4)), (0, .ref (cx.2.2 + a0)), (1, .int i1)]) (pc := 13) X dX8_relief_13 (i := 2) rfl (by decide) rfl ?_
    refine x_iconst (v := 0) (pc := 14) X dX8_relief_14 (by decide) ?_
    refine x_istore_n (lv' := [(3, .int 0), (2, .int (-4)), (0, .ref (cx.2.2 + a0)), (1, .int i1)]) (pc := 15) X dX8_relief_15 (i := 3) rfl (by decide) rfl ?_
    refine x_iconst (v := 0) (pc := 16) X dX8_relief_16 (by decide) ?_
    refine x_istore (lv' := [(4, .int 0), (3, .int 0), (2, .int (-4)), (0, .ref (cx.2.2 + a0)), (1, .int i1)]) (pc := 17) X dX8_relief_17 (by decide) rfl ?_
    exact XW.sub [3, 4, 2, 1, 0] rfl (hL19 _ _ _ _ _ h)
  · have h := ite_t c16 h
    refine x_iconst (v := (-1)) (pc := 9) X dX8_relief_9 (by decide) ?_
    obtain rfl := Option.some.inj h
    exact x_iret (pc := 10) X dX8_relief_10
theorem dX8_pair_0 : decode cX8_pair 0 = .ok (.iload_n 1, 1) := by decide +kernel
theorem dX8_pair_1 : decode cX8_pair 1 = .ok (.iconst 2, 1) := by decide +kernel
theorem dX8_pair_2 : decode cX8_pair 2 = .ok (.bipush 80, 2) := by decide +kernel
theorem dX8_pair_4 : decode cX8_pair 4 = .ok (.invokestatic 100, 3) := by decide +kernel
theorem dX8_pair_7 : decode cX8_pair 7 = .ok (.ifCond .ne 5, 3) := by decide +kernel
theorem dX8_pair_10 : decode cX8_pair 10 = .ok (.iconst (-1), 1) := by decide +kernel
theorem dX8_pair_11 : decode cX8_pair 11 = .ok (.ireturn, 1) := by decide +kernel
theorem dX8_pair_12 : decode cX8_pair 12 = .ok (.iconst 0, 1) := by decide +kernel
theorem dX8_pair_13 : decode cX8_pair 13 = .ok (.istore_n 2, 1) := by decide +kernel
theorem dX8_pair_14 : decode cX8_pair 14 = .ok (.iload_n 2, 1) := by decide +kernel
theorem dX8_pair_15 : decode cX8_pair 15 = .ok (.bipush 8, 2) := by decide +kernel
theorem dX8_pair_17 : decode cX8_pair 17 = .ok (.if_icmp .ge 75, 3) := by decide +kernel
theorem dX8_pair_20 : decode cX8_pair 20 = .ok (.iload_n 2, 1) := by decide +kernel
theorem dX8_pair_21 : decode cX8_pair 21 = .ok (.iconst 1, 1) := by decide +kernel
theorem dX8_pair_22 : decode cX8_pair 22 = .ok (.iadd, 1) := by decide +kernel
theorem dX8_pair_23 : decode cX8_pair 23 = .ok (.istore_n 3, 1) := by decide +kernel
theorem dX8_pair_24 : decode cX8_pair 24 = .ok (.iload_n 3, 1) := by decide +kernel
theorem dX8_pair_25 : decode cX8_pair 25 = .ok (.bipush 8, 2) := by decide +kernel
theorem dX8_pair_27 : decode cX8_pair 27 = .ok (.if_icmp .ge 59, 3) := by decide +kernel
theorem dX8_pair_30 : decode cX8_pair 30 = .ok (.aload_n 0, 1) := by decide +kernel
theorem dX8_pair_31 : decode cX8_pair 31 = .ok (.getfield 31, 3) := by decide +kernel
theorem dX8_pair_34 : decode cX8_pair 34 = .ok (.iload_n 2, 1) := by decide +kernel
theorem dX8_pair_35 : decode cX8_pair 35 = .ok (.invokevirtual 246, 3) := by decide +kernel
theorem dX8_pair_38 : decode cX8_pair 38 = .ok (.ifCond .eq 42, 3) := by decide +kernel
theorem dX8_pair_41 : decode cX8_pair 41 = .ok (.aload_n 0, 1) := by decide +kernel
theorem dX8_pair_42 : decode cX8_pair 42 = .ok (.getfield 31, 3) := by decide +kernel
theorem dX8_pair_45 : decode cX8_pair 45 = .ok (.iload_n 3, 1) := by decide +kernel
theorem dX8_pair_46 : decode cX8_pair 46 = .ok (.invokevirtual 246, 3) := by decide +kernel
theorem dX8_pair_49 : decode cX8_pair 49 = .ok (.ifCond .eq 31, 3) := by decide +kernel
theorem dX8_pair_52 : decode cX8_pair 52 = .ok (.aload_n 0, 1) := by decide +kernel
theorem dX8_pair_53 : decode cX8_pair 53 = .ok (.getfield 31, 3) := by decide +kernel
theorem dX8_pair_56 : decode cX8_pair 56 = .ok (.iload_n 2, 1) := by decide +kernel
theorem dX8_pair_57 : decode cX8_pair 57 = .ok (.invokevirtual 148, 3) := by decide +kernel
theorem dX8_pair_60 : decode cX8_pair 60 = .ok (.aload_n 0, 1) := by decide +kernel
theorem dX8_pair_61 : decode cX8_pair 61 = .ok (.getfield 31, 3) := by decide +kernel
theorem dX8_pair_64 : decode cX8_pair 64 = .ok (.iload_n 3, 1) := by decide +kernel
theorem dX8_pair_65 : decode cX8_pair 65 = .ok (.invokevirtual 148, 3) := by decide +kernel
theorem dX8_pair_68 : decode cX8_pair 68 = .ok (.iadd, 1) := by decide +kernel
theorem dX8_pair_69 : decode cX8_pair 69 = .ok (.iload_n 1, 1) := by decide +kernel
theorem dX8_pair_70 : decode cX8_pair 70 = .ok (.if_icmp .ne 10, 3) := by decide +kernel
theorem dX8_pair_73 : decode cX8_pair 73 = .ok (.bipush 10, 2) := by decide +kernel
theorem dX8_pair_75 : decode cX8_pair 75 = .ok (.iload_n 2, 1) := by decide +kernel
theorem dX8_pair_76 : decode cX8_pair 76 = .ok (.imul, 1) := by decide +kernel
theorem dX8_pair_77 : decode cX8_pair 77 = .ok (.iload_n 3, 1) := by decide +kernel
theorem dX8_pair_78 : decode cX8_pair 78 = .ok (.iadd, 1) := by decide +kernel
theorem dX8_pair_79 : decode cX8_pair 79 = .ok (.ireturn, 1) := by decide +kernel
theorem dX8_pair_80 : decode cX8_pair 80 = .ok (.iinc 3 1, 3) := by decide +kernel
theorem dX8_pair_83 : decode cX8_pair 83 = .ok (.goto (-59), 3) := by decide +kernel
theorem dX8_pair_86 : decode cX8_pair 86 = .ok (.iinc 2 1, 3) := by decide +kernel
theorem dX8_pair_89 : decode cX8_pair 89 = .ok (.goto (-75), 3) := by decide +kernel
theorem dX8_pair_92 : decode cX8_pair 92 = .ok (.bipush (-4), 2) := by decide +kernel
theorem dX8_pair_94 : decode cX8_pair 94 = .ok (.ireturn, 1) := by decide +kernel
def f_H_pair_24 (N nx : Nat) (rec14 : Int32 → Option Int32) (D : Dt) (P : Ft) (a0 : Nat) (i1 : Int32) (i2 : Int32) (rec24 : Int32 → Option Int32) (i3 : Int32) : Option Int32 :=
  if 8 ≤ i3 then
    rec14 (i2 + 1)
  else
    nn (P a0 3) fun q2 =>
    if kd nx q2 = 7 then
    (f_C_isAbout N nx D P q2 i2).bind fun z3 =>
    if z3 = 0 then
      rec24 (i3 + 1)
    else
      (f_C_isAbout N nx D P q2 i3).bind fun z5 =>
      if z5 = 0 then
        rec24 (i3 + 1)
      else
        (f_C_largeOf N nx D P q2 i2).bind fun z6 =>
        (f_C_largeOf N nx D P q2 i3).bind fun z7 =>
        if z6 + z7 = i1 then
          some ((10 * i2) + i3)
        else
          rec24 (i3 + 1)
    else none
def f_H_pair_14 (N nx : Nat) (D : Dt) (P : Ft) (a0 : Nat) (i1 : Int32) (rec14 : Int32 → Option Int32) (i2 : Int32) : Option Int32 :=
  if 8 ≤ i2 then
    some (-4)
  else
    wk1 N (f_H_pair_24 N nx rec14 D P a0 i1 i2) (i2 + 1)
def f_H_pair (N nx : Nat) (D : Dt) (P : Ft) (a0 : Nat) (i1 : Int32) : Option Int32 :=
  if kd nx a0 = 8 then
  (f_H_isWithin N nx D P i1 2 80).bind fun z1 =>
  if z1 = 0 then
    some (-1)
  else
    wk1 N (f_H_pair_14 N nx D P a0 i1) 0
  else none
theorem m_H_pair : MV yX8_pair cX8_pair 4 (some .int) 1 := ⟨mT 724 (by decide +kernel) rfl, mT 722 (by decide +kernel) rfl, mT 723 (by decide +kernel) rfl, mT 54 (by decide +kernel) rfl, by decide +kernel, by decide +kernel, by decide +kernel⟩
set_option maxHeartbeats 4000000 in
set_option maxRecDepth 100000 in
theorem c_H_pair (l : Launch) (cx : Cx) (nx N : Nat) (D : Dt) (P : Ft) (a0 : Nat) (i1 : Int32) (z : Int32) (h : f_H_pair N nx D P a0 i1 = some z) : Ct l cx yX8_pair cX8_pair 4 (some .int) 2 [.ref (cx.2.2 + a0), .int i1] D P nx (some (.int z)) D P := by
  refine x_met0 (by decide) (Nat.le_of_ble_eq_true rfl) ?_
  intro p e s m args below meth c X
  have X : XC p s m args meth c cx cX8_pair 4 (some .int) "HeartPins" "pair" := X
  refine XW.sub (lv' := [(0, .ref (cx.2.2 + a0)), (1, .int i1)]) [0, 1] rfl ?_
  unfold f_H_pair at h
  obtain ⟨hk0, h⟩ := grd h
  have hL14 : ∀ (n : Nat) (i2 : Int32), wk1 n (f_H_pair_14 N nx D P a0 i1) i2 = some z → XW p l e (rmk 2) s m args below meth c (MQ below (Qx cx (some (.int z)) D P nx) args s 0 0 (AA cx)) cx 4 D P nx 0 0 14 [(0, .ref (cx.2.2 + a0)), (1, .int i1), (2, .int i2)] [] := by
    intro n
    induction n with
    | zero => intro i2 h; exact (nonz h).elim
    | succ n ih14 =>
      intro i2 h
      have h : f_H_pair_14 N nx D P a0 i1 (wk1 n (f_H_pair_14 N nx D P a0 i1)) i2 = some z := h
      generalize wk1 n (f_H_pair_14 N nx D P a0 i1) = rec14 at ih14 h
      unfold f_H_pair_14 at h
      have hL24 : ∀ (i2 : Int32) (n : Nat) (i3 : Int32), wk1 n (f_H_pair_24 N nx rec14 D P a0 i1 i2) i3 = some z → XW p l e (rmk 2) s m args below meth c (MQ below (Qx cx (some (.int z)) D P nx) args s 0 0 (AA cx)) cx 4 D P nx 0 0 24 [(0, .ref (cx.2.2 + a0)), (1, .int i1), (2, .int i2), (3, .int i3)] [] := by
        intro i2 n
        induction n with
        | zero => intro i3 h; exact (nonz h).elim
        | succ n ih24 =>
          intro i3 h
          have h : f_H_pair_24 N nx rec14 D P a0 i1 i2 (wk1 n (f_H_pair_24 N nx rec14 D P a0 i1 i2)) i3 = some z := h
          generalize wk1 n (f_H_pair_24 N nx rec14 D P a0 i1 i2) = rec24 at ih24 h
          unfold f_H_pair_24 at h
          refine x_iload_n (pc := 24) X dX8_pair_24 (i := 3) rfl 3 rfl ?_
          refine x_bipush (v := 8) (pc := 25) X dX8_pair_25 (by decide) ?_
          refine x_icmp_ge (tgt := 86) (pc := 27) X dX8_pair_27 (by decide) (fun c11 => ?_) (fun c11 => ?_)
          · have h := ite_t c11 h
            refine x_iinc (v := i2 + 1) (lv' := [(2, .int (i2 + 1)), (0, .ref (cx.2.2 + a0)), (1, .int i1), (3, .int i3)]) (pc := 86) X dX8_pair_86 2 rfl rfl (by decide) rfl ?_
            refine x_goto (tgt := 14) (pc := 89) X dX8_pair_89 (by decide) ?_
            exact XW.sub [1, 2, 0] rfl (ih14 _ h)
          · have h := ite_f c11 h
            refine x_aload_n (pc := 30) X dX8_pair_30 (i := 0) rfl 0 rfl ?_
            obtain ⟨q2, e2, h⟩ := nns h
            refine x_getr (ci := 8) (k := 3) (n := 11) (C := RX8) (T := TX8) (pc := 31) X dX8_pair_31 hk0 rfl (by decide) w_424 rfl e2 ?_
            refine x_iload_n (pc := 34) X dX8_pair_34 (i := 2) rfl 2 rfl ?_
            obtain ⟨k4, h⟩ := grd h
            obtain ⟨z3, e3, h⟩ := bnds h
            refine x_callV (pc := 35) (As := [.int i2]) (st := []) (st' := [.int z3]) X (c_C_isAbout l cx nx N D P _ _ z3 e3) dX8_pair_35 w_725 m_C_isAbout rfl k4 (ci := 7) rfl rfl ⟨by decide, by decide⟩ ⟨Nat.zero_le _, Nat.zero_le _⟩ rfl (Nat.le_of_ble_eq_true rfl) rfl ?_
            refine x_if_eq (tgt := 80) (pc := 38) X dX8_pair_38 (by decide) (fun c10 => ?_) (fun c10 => ?_)
            · have h := ite_t c10 h
              refine x_iinc (v := i3 + 1) (lv' := [(3, .int (i3 + 1)), (0, .ref (cx.2.2 + a0)), (1, .int i1), (2, .int i2)]) (pc := 80) X dX8_pair_80 3 rfl rfl (by decide) rfl ?_
              refine x_goto (tgt := 24) (pc := 83) X dX8_pair_83 (by decide) ?_
              exact XW.sub [1, 2, 3, 0] rfl (ih24 _ h)
            · have h := ite_f c10 h
              refine x_aload_n (pc := 41) X dX8_pair_41 (i := 0) rfl 0 rfl ?_
              refine x_getr (ci := 8) (k := 3) (n := 11) (C := RX8) (T := TX8) (pc := 42) X dX8_pair_42 hk0 rfl (by decide) w_424 rfl e2 ?_
              refine x_iload_n (pc := 45) X dX8_pair_45 (i := 3) rfl 3 rfl ?_
              obtain ⟨z5, e5, h⟩ := bnds h
              refine x_callV (pc := 46) (As := [.int i3]) (st := []) (st' := [.int z5]) X (c_C_isAbout l cx nx N D P _ _ z5 e5) dX8_pair_46 w_725 m_C_isAbout rfl k4 (ci := 7) rfl rfl ⟨by decide, by decide⟩ ⟨Nat.zero_le _, Nat.zero_le _⟩ rfl (Nat.le_of_ble_eq_true rfl) rfl ?_
              refine x_if_eq (tgt := 80) (pc := 49) X dX8_pair_49 (by decide) (fun c9 => ?_) (fun c9 => ?_)
              · have h := ite_t c9 h
                refine x_iinc (v := i3 + 1) (lv' := [(3, .int (i3 + 1)), (0, .ref (cx.2.2 + a0)), (1, .int i1), (2, .int i2)]) (pc := 80) X dX8_pair_80 3 rfl rfl (by decide) rfl ?_
                refine x_goto (tgt := 24) (pc := 83) X dX8_pair_83 (by decide) ?_
                exact XW.sub [1, 2, 3, 0] rfl (ih24 _ h)
              · have h := ite_f c9 h
                refine x_aload_n (pc := 52) X dX8_pair_52 (i := 0) rfl 0 rfl ?_
                refine x_getr (ci := 8) (k := 3) (n := 11) (C := RX8) (T := TX8) (pc := 53) X dX8_pair_53 hk0 rfl (by decide) w_424 rfl e2 ?_
                refine x_iload_n (pc := 56) X dX8_pair_56 (i := 2) rfl 2 rfl ?_
                obtain ⟨z6, e6, h⟩ := bnds h
                refine x_callV (pc := 57) (As := [.int i2]) (st := []) (st' := [.int z6]) X (c_C_largeOf l cx nx N D P _ _ z6 e6) dX8_pair_57 w_510 m_C_largeOf rfl k4 (ci := 7) rfl rfl ⟨by decide, by decide⟩ ⟨Nat.zero_le _, Nat.zero_le _⟩ rfl (Nat.le_of_ble_eq_true rfl) rfl ?_
                refine x_aload_n (pc := 60) X dX8_pair_60 (i := 0) rfl 0 rfl ?_
                refine x_getr (ci := 8) (k := 3) (n := 11) (C := RX8) (T := TX8) (pc := 61) X dX8_pair_61 hk0 rfl (by decide) w_424 rfl e2 ?_
                refine x_iload_n (pc := 64) X dX8_pair_64 (i := 3) rfl 3 rfl ?_
                obtain ⟨z7, e7, h⟩ := bnds h
                refine x_callV (pc := 65) (As := [.int i3]) (st := [.int z6]) (st' := [.int z7, .int z6]) X (c_C_largeOf l cx nx N D P _ _ z7 e7) dX8_pair_65 w_510 m_C_largeOf rfl k4 (ci := 7) rfl rfl ⟨by decide, by decide⟩ ⟨Nat.zero_le _, Nat.zero_le _⟩ rfl (Nat.le_of_ble_eq_true rfl) rfl ?_
                refine x_iadd (pc := 68) X dX8_pair_68 ?_
                refine x_iload_n (pc := 69) X dX8_pair_69 (i := 1) rfl 1 rfl ?_
                refine x_icmp_ne (tgt := 80) (pc := 70) X dX8_pair_70 (by decide) (fun c8 => ?_) (fun c8 => ?_)
                · have h := ite_f c8 h
                  refine x_iinc (v := i3 + 1) (lv' := [(3, .int (i3 + 1)), (0, .ref (cx.2.2 + a0)), (1, .int i1), (2, .int i2)]) (pc := 80) X dX8_pair_80 3 rfl rfl (by decide) rfl ?_
                  refine x_goto (tgt := 24) (pc := 83) X dX8_pair_83 (by decide) ?_
                  exact XW.sub [1, 2, 3, 0] rfl (ih24 _ h)
                · have h := ite_t c8 h
                  refine x_bipush (v := 10) (pc := 73) X dX8_pair_73 (by decide) ?_
                  refine x_iload_n (pc := 75) X dX8_pair_75 (i := 2) rfl 2 rfl ?_
                  refine x_imul (pc := 76) X dX8_pair_76 ?_
                  refine x_iload_n (pc := 77) X dX8_pair_77 (i := 3) rfl 3 rfl ?_
                  refine x_iadd (pc := 78) X dX8_pair_78 ?_
                  obtain rfl := Option.some.inj h
                  exact x_iret (pc := 79) X dX8_pair_79
      refine x_iload_n (pc := 14) X dX8_pair_14 (i := 2) rfl 2 rfl ?_
      refine x_bipush (v := 8) (pc := 15) X dX8_pair_15 (by decide) ?_
      refine x_icmp_ge (tgt := 92) (pc := 17) X dX8_pair_17 (by decide) (fun c12 => ?_) (fun c12 => ?_)
      · have h := ite_t c12 h
        refine x_bipush (v := (-4)) (pc := 92) X dX8_pair_92 (by decide) ?_
        obtain rfl := Option.some.inj h
        exact x_iret (pc := 94) X dX8_pair_94
      · have h := ite_f c12 h
        refine x_iload_n (pc := 20) X dX8_pair_20 (i := 2) rfl 2 rfl ?_
        refine x_iconst (v := 1) (pc := 21) X dX8_pair_21 (by decide) ?_
        refine x_iadd (pc := 22) X dX8_pair_22 ?_
        refine x_istore_n (lv' := [(3, .int (i2 + 1)), (0, .ref (cx.2.2 + a0)), (1, .int i1), (2, .int i2)]) (pc := 23) X dX8_pair_23 (i := 3) rfl (by decide) rfl ?_
        exact XW.sub [1, 2, 3, 0] rfl (hL24 _ _ _ h)
  refine x_iload_n (pc := 0) X dX8_pair_0 (i := 1) rfl 1 rfl ?_
  refine x_iconst (v := 2) (pc := 1) X dX8_pair_1 (by decide) ?_
  refine x_bipush (v := 80) (pc := 2) X dX8_pair_2 (by decide) ?_
  obtain ⟨z1, e1, h⟩ := bnds h
  refine x_callS (pc := 4) (As := [.int i1, .int 2, .int 80]) (st := []) (st' := [.int z1]) X (c_H_isWithin l cx nx N D P _ _ _ z1 e1) dX8_pair_4 w_460 m_H_isWithin rfl ⟨by decide, by decide⟩ ⟨Nat.zero_le _, Nat.zero_le _⟩ rfl (Nat.le_of_ble_eq_true rfl) rfl ?_
  refine x_if_ne (tgt := 12) (pc := 7) X dX8_pair_7 (by decide) (fun c13 => ?_) (fun c13 => ?_)
  · have h := ite_f c13 h
    refine x_iconst (v := 0) (pc := 12) X dX8_pair_12 (by decide) ?_
    refine x_istore_n (lv' := [(2, .int 0), (0, .ref (cx.2.2 + a0)), (1, .int i1)]) (pc := 13) X dX8_pair_13 (i := 2) rfl (by decide) rfl ?_
    exact XW.sub [1, 2, 0] rfl (hL14 _ _ h)
  · have h := ite_t c13 h
    refine x_iconst (v := (-1)) (pc := 10) X dX8_pair_10 (by decide) ?_
    obtain rfl := Option.some.inj h
    exact x_iret (pc := 11) X dX8_pair_11
theorem dX8_see_0 : decode cX8_see 0 = .ok (.aload_n 0, 1) := by decide +kernel
theorem dX8_see_1 : decode cX8_see 1 = .ok (.getfield 19, 3) := by decide +kernel
theorem dX8_see_4 : decode cX8_see 4 = .ok (.iload_n 1, 1) := by decide +kernel
theorem dX8_see_5 : decode cX8_see 5 = .ok (.invokevirtual 139, 3) := by decide +kernel
theorem dX8_see_8 : decode cX8_see 8 = .ok (.ifCond .eq 23, 3) := by decide +kernel
theorem dX8_see_11 : decode cX8_see 11 = .ok (.iload_n 2, 1) := by decide +kernel
theorem dX8_see_12 : decode cX8_see 12 = .ok (.iconst 0, 1) := by decide +kernel
theorem dX8_see_13 : decode cX8_see 13 = .ok (.bipush 20, 2) := by decide +kernel
theorem dX8_see_15 : decode cX8_see 15 = .ok (.invokestatic 100, 3) := by decide +kernel
theorem dX8_see_18 : decode cX8_see 18 = .ok (.ifCond .eq 13, 3) := by decide +kernel
theorem dX8_see_21 : decode cX8_see 21 = .ok (.iload_n 3, 1) := by decide +kernel
theorem dX8_see_22 : decode cX8_see 22 = .ok (.iconst 0, 1) := by decide +kernel
theorem dX8_see_23 : decode cX8_see 23 = .ok (.bipush 40, 2) := by decide +kernel
theorem dX8_see_25 : decode cX8_see 25 = .ok (.invokestatic 100, 3) := by decide +kernel
theorem dX8_see_28 : decode cX8_see 28 = .ok (.ifCond .ne 5, 3) := by decide +kernel
theorem dX8_see_31 : decode cX8_see 31 = .ok (.iconst (-1), 1) := by decide +kernel
theorem dX8_see_32 : decode cX8_see 32 = .ok (.ireturn, 1) := by decide +kernel
theorem dX8_see_33 : decode cX8_see 33 = .ok (.aload_n 0, 1) := by decide +kernel
theorem dX8_see_34 : decode cX8_see 34 = .ok (.getfield 53, 3) := by decide +kernel
theorem dX8_see_37 : decode cX8_see 37 = .ok (.iload_n 1, 1) := by decide +kernel
theorem dX8_see_38 : decode cX8_see 38 = .ok (.iload_n 2, 1) := by decide +kernel
theorem dX8_see_39 : decode cX8_see 39 = .ok (.iload_n 3, 1) := by decide +kernel
theorem dX8_see_40 : decode cX8_see 40 = .ok (.invokevirtual 249, 3) := by decide +kernel
theorem dX8_see_43 : decode cX8_see 43 = .ok (.ifCond .eq 13, 3) := by decide +kernel
theorem dX8_see_46 : decode cX8_see 46 = .ok (.aload_n 0, 1) := by decide +kernel
theorem dX8_see_47 : decode cX8_see 47 = .ok (.getfield 53, 3) := by decide +kernel
theorem dX8_see_50 : decode cX8_see 50 = .ok (.getfield 252, 3) := by decide +kernel
theorem dX8_see_53 : decode cX8_see 53 = .ok (.goto 5, 3) := by decide +kernel
theorem dX8_see_56 : decode cX8_see 56 = .ok (.bipush (-3), 2) := by decide +kernel
theorem dX8_see_58 : decode cX8_see 58 = .ok (.ireturn, 1) := by decide +kernel
def f_H_see (N nx : Nat) (D : Dt) (P : Ft) (a0 : Nat) (i1 : Int32) (i2 : Int32) (i3 : Int32) : Option (Int32 × Dt) :=
  if kd nx a0 = 8 then
  nn (P a0 1) fun q1 =>
  if kd nx q1 = 1 then
  (f_F_hasPin N nx D P q1 i1).bind fun z2 =>
  if z2 = 0 then
    some ((-1), D)
  else
    (f_H_isWithin N nx D P i2 0 20).bind fun z4 =>
    if z4 = 0 then
      some ((-1), D)
    else
      (f_H_isWithin N nx D P i3 0 40).bind fun z5 =>
      if z5 = 0 then
        some ((-1), D)
      else
        nn (P a0 7) fun q6 =>
        if kd nx q6 = 4 then
        (f_N_addSeen N nx D P q6 i1 i2 i3).bind fun z7 =>
        if z7.1 = 0 then
          some ((-3), z7.2)
        else
          some (z7.2 q6 4, z7.2)
        else none
  else none
  else none
theorem m_H_see : MV yX8_see cX8_see 4 (some .int) 3 := ⟨mT 732 (by decide +kernel) rfl, mT 730 (by decide +kernel) rfl, mT 731 (by decide +kernel) rfl, mT 54 (by decide +kernel) rfl, by decide +kernel, by decide +kernel, by decide +kernel⟩
set_option maxHeartbeats 4000000 in
set_option maxRecDepth 100000 in
theorem c_H_see (l : Launch) (cx : Cx) (nx N : Nat) (D : Dt) (P : Ft) (a0 : Nat) (i1 : Int32) (i2 : Int32) (i3 : Int32) (z : Int32 × Dt) (h : f_H_see N nx D P a0 i1 i2 i3 = some z) : Ct l cx yX8_see cX8_see 4 (some .int) 2 [.ref (cx.2.2 + a0), .int i1, .int i2, .int i3] D P nx (some (.int z.1)) z.2 P := by
  refine x_met0 (by decide) (Nat.le_of_ble_eq_true rfl) ?_
  intro p e s m args below meth c X
  have X : XC p s m args meth c cx cX8_see 4 (some .int) "HeartPins" "see" := X
  refine XW.sub (lv' := [(0, .ref (cx.2.2 + a0)), (1, .int i1), (2, .int i2), (3, .int i3)]) [0, 1, 2, 3] rfl ?_
  unfold f_H_see at h
  obtain ⟨hk0, h⟩ := grd h
  refine x_aload_n (pc := 0) X dX8_see_0 (i := 0) rfl 0 rfl ?_
  obtain ⟨q1, e1, h⟩ := nns h
  refine x_getr (ci := 8) (k := 1) (n := 11) (C := RX8) (T := TX8) (pc := 1) X dX8_see_1 hk0 rfl (by decide) w_422 rfl e1 ?_
  refine x_iload_n (pc := 4) X dX8_see_4 (i := 1) rfl 1 rfl ?_
  obtain ⟨k3, h⟩ := grd h
  obtain ⟨z2, e2, h⟩ := bnds h
  refine x_callV (pc := 5) (As := [.int i1]) (st := []) (st' := [.int z2]) X (c_F_hasPin l cx nx N D P _ _ z2 e2) dX8_see_5 w_501 m_F_hasPin rfl k3 (ci := 1) rfl rfl ⟨by decide, by decide⟩ ⟨Nat.zero_le _, Nat.zero_le _⟩ rfl (Nat.le_of_ble_eq_true rfl) rfl ?_
  refine x_if_eq (tgt := 31) (pc := 8) X dX8_see_8 (by decide) (fun c12 => ?_) (fun c12 => ?_)
  · have h := ite_t c12 h
    refine x_iconst (v := (-1)) (pc := 31) X dX8_see_31 (by decide) ?_
    obtain rfl := Option.some.inj h
    exact x_iret (pc := 32) X dX8_see_32
  · have h := ite_f c12 h
    refine x_iload_n (pc := 11) X dX8_see_11 (i := 2) rfl 2 rfl ?_
    refine x_iconst (v := 0) (pc := 12) X dX8_see_12 (by decide) ?_
    refine x_bipush (v := 20) (pc := 13) X dX8_see_13 (by decide) ?_
    obtain ⟨z4, e4, h⟩ := bnds h
    refine x_callS (pc := 15) (As := [.int i2, .int 0, .int 20]) (st := []) (st' := [.int z4]) X (c_H_isWithin l cx nx N D P _ _ _ z4 e4) dX8_see_15 w_460 m_H_isWithin rfl ⟨by decide, by decide⟩ ⟨Nat.zero_le _, Nat.zero_le _⟩ rfl (Nat.le_of_ble_eq_true rfl) rfl ?_
    refine x_if_eq (tgt := 31) (pc := 18) X dX8_see_18 (by decide) (fun c11 => ?_) (fun c11 => ?_)
    · have h := ite_t c11 h
      refine x_iconst (v := (-1)) (pc := 31) X dX8_see_31 (by decide) ?_
      obtain rfl := Option.some.inj h
      exact x_iret (pc := 32) X dX8_see_32
    · have h := ite_f c11 h
      refine x_iload_n (pc := 21) X dX8_see_21 (i := 3) rfl 3 rfl ?_
      refine x_iconst (v := 0) (pc := 22) X dX8_see_22 (by decide) ?_
      refine x_bipush (v := 40) (pc := 23) X dX8_see_23 (by decide) ?_
      obtain ⟨z5, e5, h⟩ := bnds h
      refine x_callS (pc := 25) (As := [.int i3, .int 0, .int 40]) (st := []) (st' := [.int z5]) X (c_H_isWithin l cx nx N D P _ _ _ z5 e5) dX8_see_25 w_460 m_H_isWithin rfl ⟨by decide, by decide⟩ ⟨Nat.zero_le _, Nat.zero_le _⟩ rfl (Nat.le_of_ble_eq_true rfl) rfl ?_
      refine x_if_ne (tgt := 33) (pc := 28) X dX8_see_28 (by decide) (fun c10 => ?_) (fun c10 => ?_)
      · have h := ite_f c10 h
        refine x_aload_n (pc := 33) X dX8_see_33 (i := 0) rfl 0 rfl ?_
        obtain ⟨q6, e6, h⟩ := nns h
        refine x_getr (ci := 8) (k := 7) (n := 11) (C := RX8) (T := TX8) (pc := 34) X dX8_see_34 hk0 rfl (by decide) w_428 rfl e6 ?_
        refine x_iload_n (pc := 37) X dX8_see_37 (i := 1) rfl 1 rfl ?_
        refine x_iload_n (pc := 38) X dX8_see_38 (i := 2) rfl 2 rfl ?_
        refine x_iload_n (pc := 39) X dX8_see_39 (i := 3) rfl 3 rfl ?_
        obtain ⟨k8, h⟩ := grd h
        obtain ⟨z7, e7, h⟩ := bnds h
        refine x_callV (pc := 40) (As := [.int i1, .int i2, .int i3]) (st := []) (st' := [.int z7.1]) X (c_N_addSeen l cx nx N D P _ _ _ _ z7 e7) dX8_see_40 w_733 m_N_addSeen rfl k8 (ci := 4) rfl rfl ⟨by decide, by decide⟩ ⟨Nat.zero_le _, Nat.zero_le _⟩ rfl (Nat.le_of_ble_eq_true rfl) rfl ?_
        refine x_if_eq (tgt := 56) (pc := 43) X dX8_see_43 (by decide) (fun c9 => ?_) (fun c9 => ?_)
        · have h := ite_t c9 h
          refine x_bipush (v := (-3)) (pc := 56) X dX8_see_56 (by decide) ?_
          obtain rfl := Option.some.inj h
          exact x_iret (pc := 58) X dX8_see_58
        · have h := ite_f c9 h
          refine x_aload_n (pc := 46) X dX8_see_46 (i := 0) rfl 0 rfl ?_
          refine x_getr (ci := 8) (k := 7) (n := 11) (C := RX8) (T := TX8) (pc := 47) X dX8_see_47 hk0 rfl (by decide) w_428 rfl e6 ?_
          refine x_geti (ci := 4) (k := 4) (n := 6) (C := RX4) (T := TX4) (pc := 50) X dX8_see_50 k8 rfl (by decide) w_202 rfl ?_
          refine x_goto (tgt := 58) (pc := 53) X dX8_see_53 (by decide) ?_
          obtain rfl := Option.some.inj h
          exact x_iret (pc := 58) X dX8_see_58
      · have h := ite_t c10 h
        refine x_iconst (v := (-1)) (pc := 31) X dX8_see_31 (by decide) ?_
        obtain rfl := Option.some.inj h
        exact x_iret (pc := 32) X dX8_see_32
theorem dX8_mark_0 : decode cX8_mark 0 = .ok (.iload_n 1, 1) := by decide +kernel
theorem dX8_mark_1 : decode cX8_mark 1 = .ok (.iconst 0, 1) := by decide +kernel
theorem dX8_mark_2 : decode cX8_mark 2 = .ok (.bipush 40, 2) := by decide +kernel
theorem dX8_mark_4 : decode cX8_mark 4 = .ok (.invokestatic 100, 3) := by decide +kernel
theorem dX8_mark_7 : decode cX8_mark 7 = .ok (.ifCond .ne 5, 3) := by decide +kernel
theorem dX8_mark_10 : decode cX8_mark 10 = .ok (.iconst (-1), 1) := by decide +kernel
theorem dX8_mark_11 : decode cX8_mark 11 = .ok (.ireturn, 1) := by decide +kernel
theorem dX8_mark_12 : decode cX8_mark 12 = .ok (.aload_n 0, 1) := by decide +kernel
theorem dX8_mark_13 : decode cX8_mark 13 = .ok (.getfield 53, 3) := by decide +kernel
theorem dX8_mark_16 : decode cX8_mark 16 = .ok (.iload_n 1, 1) := by decide +kernel
theorem dX8_mark_17 : decode cX8_mark 17 = .ok (.invokevirtual 255, 3) := by decide +kernel
theorem dX8_mark_20 : decode cX8_mark 20 = .ok (.ifCond .eq 13, 3) := by decide +kernel
theorem dX8_mark_23 : decode cX8_mark 23 = .ok (.aload_n 0, 1) := by decide +kernel
theorem dX8_mark_24 : decode cX8_mark 24 = .ok (.getfield 53, 3) := by decide +kernel
theorem dX8_mark_27 : decode cX8_mark 27 = .ok (.getfield 258, 3) := by decide +kernel
theorem dX8_mark_30 : decode cX8_mark 30 = .ok (.goto 5, 3) := by decide +kernel
theorem dX8_mark_33 : decode cX8_mark 33 = .ok (.bipush (-3), 2) := by decide +kernel
theorem dX8_mark_35 : decode cX8_mark 35 = .ok (.ireturn, 1) := by decide +kernel
def f_H_mark (N nx : Nat) (D : Dt) (P : Ft) (a0 : Nat) (i1 : Int32) : Option (Int32 × Dt) :=
  if kd nx a0 = 8 then
  (f_H_isWithin N nx D P i1 0 40).bind fun z1 =>
  if z1 = 0 then
    some ((-1), D)
  else
    nn (P a0 7) fun q2 =>
    if kd nx q2 = 4 then
    (f_N_addMark N nx D P q2 i1).bind fun z3 =>
    if z3.1 = 0 then
      some ((-3), z3.2)
    else
      some (z3.2 q2 5, z3.2)
    else none
  else none
theorem m_H_mark : MV yX8_mark cX8_mark 2 (some .int) 1 := ⟨mT 741 (by decide +kernel) rfl, mT 739 (by decide +kernel) rfl, mT 740 (by decide +kernel) rfl, mT 54 (by decide +kernel) rfl, by decide +kernel, by decide +kernel, by decide +kernel⟩
set_option maxHeartbeats 4000000 in
set_option maxRecDepth 100000 in
theorem c_H_mark (l : Launch) (cx : Cx) (nx N : Nat) (D : Dt) (P : Ft) (a0 : Nat) (i1 : Int32) (z : Int32 × Dt) (h : f_H_mark N nx D P a0 i1 = some z) : Ct l cx yX8_mark cX8_mark 2 (some .int) 2 [.ref (cx.2.2 + a0), .int i1] D P nx (some (.int z.1)) z.2 P := by
  refine x_met0 (by decide) (Nat.le_of_ble_eq_true rfl) ?_
  intro p e s m args below meth c X
  have X : XC p s m args meth c cx cX8_mark 2 (some .int) "HeartPins" "mark" := X
  refine XW.sub (lv' := [(0, .ref (cx.2.2 + a0)), (1, .int i1)]) [0, 1] rfl ?_
  unfold f_H_mark at h
  obtain ⟨hk0, h⟩ := grd h
  refine x_iload_n (pc := 0) X dX8_mark_0 (i := 1) rfl 1 rfl ?_
  refine x_iconst (v := 0) (pc := 1) X dX8_mark_1 (by decide) ?_
  refine x_bipush (v := 40) (pc := 2) X dX8_mark_2 (by decide) ?_
  obtain ⟨z1, e1, h⟩ := bnds h
  refine x_callS (pc := 4) (As := [.int i1, .int 0, .int 40]) (st := []) (st' := [.int z1]) X (c_H_isWithin l cx nx N D P _ _ _ z1 e1) dX8_mark_4 w_460 m_H_isWithin rfl ⟨by decide, by decide⟩ ⟨Nat.zero_le _, Nat.zero_le _⟩ rfl (Nat.le_of_ble_eq_true rfl) rfl ?_
  refine x_if_ne (tgt := 12) (pc := 7) X dX8_mark_7 (by decide) (fun c6 => ?_) (fun c6 => ?_)
  · have h := ite_f c6 h
    refine x_aload_n (pc := 12) X dX8_mark_12 (i := 0) rfl 0 rfl ?_
    obtain ⟨q2, e2, h⟩ := nns h
    refine x_getr (ci := 8) (k := 7) (n := 11) (C := RX8) (T := TX8) (pc := 13) X dX8_mark_13 hk0 rfl (by decide) w_428 rfl e2 ?_
    refine x_iload_n (pc := 16) X dX8_mark_16 (i := 1) rfl 1 rfl ?_
    obtain ⟨k4, h⟩ := grd h
    obtain ⟨z3, e3, h⟩ := bnds h
    refine x_callV (pc := 17) (As := [.int i1]) (st := []) (st' := [.int z3.1]) X (c_N_addMark l cx nx N D P _ _ z3 e3) dX8_mark_17 w_742 m_N_addMark rfl k4 (ci := 4) rfl rfl ⟨by decide, by decide⟩ ⟨Nat.zero_le _, Nat.zero_le _⟩ rfl (Nat.le_of_ble_eq_true rfl) rfl ?_
    refine x_if_eq (tgt := 33) (pc := 20) X dX8_mark_20 (by decide) (fun c5 => ?_) (fun c5 => ?_)
    · have h := ite_t c5 h
      refine x_bipush (v := (-3)) (pc := 33) X dX8_mark_33 (by decide) ?_
      obtain rfl := Option.some.inj h
      exact x_iret (pc := 35) X dX8_mark_35
    · have h := ite_f c5 h
      refine x_aload_n (pc := 23) X dX8_mark_23 (i := 0) rfl 0 rfl ?_
      refine x_getr (ci := 8) (k := 7) (n := 11) (C := RX8) (T := TX8) (pc := 24) X dX8_mark_24 hk0 rfl (by decide) w_428 rfl e2 ?_
      refine x_geti (ci := 4) (k := 5) (n := 6) (C := RX4) (T := TX4) (pc := 27) X dX8_mark_27 k4 rfl (by decide) w_205 rfl ?_
      refine x_goto (tgt := 35) (pc := 30) X dX8_mark_30 (by decide) ?_
      obtain rfl := Option.some.inj h
      exact x_iret (pc := 35) X dX8_mark_35
  · have h := ite_t c6 h
    refine x_iconst (v := (-1)) (pc := 10) X dX8_mark_10 (by decide) ?_
    obtain rfl := Option.some.inj h
    exact x_iret (pc := 11) X dX8_mark_11
theorem dX8_forget_0 : decode cX8_forget 0 = .ok (.aload_n 0, 1) := by decide +kernel
theorem dX8_forget_1 : decode cX8_forget 1 = .ok (.getfield 53, 3) := by decide +kernel
theorem dX8_forget_4 : decode cX8_forget 4 = .ok (.getfield 252, 3) := by decide +kernel
theorem dX8_forget_7 : decode cX8_forget 7 = .ok (.aload_n 0, 1) := by decide +kernel
theorem dX8_forget_8 : decode cX8_forget 8 = .ok (.getfield 53, 3) := by decide +kernel
theorem dX8_forget_11 : decode cX8_forget 11 = .ok (.getfield 258, 3) := by decide +kernel
theorem dX8_forget_14 : decode cX8_forget 14 = .ok (.iadd, 1) := by decide +kernel
theorem dX8_forget_15 : decode cX8_forget 15 = .ok (.istore_n 1, 1) := by decide +kernel
theorem dX8_forget_16 : decode cX8_forget 16 = .ok (.aload_n 0, 1) := by decide +kernel
theorem dX8_forget_17 : decode cX8_forget 17 = .ok (.getfield 53, 3) := by decide +kernel
theorem dX8_forget_20 : decode cX8_forget 20 = .ok (.invokevirtual 121, 3) := by decide +kernel
theorem dX8_forget_23 : decode cX8_forget 23 = .ok (.iload_n 1, 1) := by decide +kernel
theorem dX8_forget_24 : decode cX8_forget 24 = .ok (.ireturn, 1) := by decide +kernel
def f_H_forget (N nx : Nat) (D : Dt) (P : Ft) (a0 : Nat) : Option (Int32 × Dt) :=
  if kd nx a0 = 8 then
  nn (P a0 7) fun q1 =>
  if kd nx q1 = 4 then
  (f_N_clear N nx D P q1).bind fun z3 =>
  some ((D q1 4) + (D q1 5), z3)
  else none
  else none
theorem m_H_forget : MV yX8_forget cX8_forget 2 (some .int) 0 := ⟨mT 749 (by decide +kernel) rfl, mT 747 (by decide +kernel) rfl, mT 748 (by decide +kernel) rfl, mT 54 (by decide +kernel) rfl, by decide +kernel, by decide +kernel, by decide +kernel⟩
set_option maxHeartbeats 4000000 in
set_option maxRecDepth 100000 in
theorem c_H_forget (l : Launch) (cx : Cx) (nx N : Nat) (D : Dt) (P : Ft) (a0 : Nat) (z : Int32 × Dt) (h : f_H_forget N nx D P a0 = some z) : Ct l cx yX8_forget cX8_forget 2 (some .int) 1 [.ref (cx.2.2 + a0)] D P nx (some (.int z.1)) z.2 P := by
  refine x_met0 (by decide) (Nat.le_of_ble_eq_true rfl) ?_
  intro p e s m args below meth c X
  have X : XC p s m args meth c cx cX8_forget 2 (some .int) "HeartPins" "forget" := X
  refine XW.sub (lv' := [(0, .ref (cx.2.2 + a0))]) [0] rfl ?_
  unfold f_H_forget at h
  obtain ⟨hk0, h⟩ := grd h
  refine x_aload_n (pc := 0) X dX8_forget_0 (i := 0) rfl 0 rfl ?_
  obtain ⟨q1, e1, h⟩ := nns h
  refine x_getr (ci := 8) (k := 7) (n := 11) (C := RX8) (T := TX8) (pc := 1) X dX8_forget_1 hk0 rfl (by decide) w_428 rfl e1 ?_
  obtain ⟨k2, h⟩ := grd h
  refine x_geti (ci := 4) (k := 4) (n := 6) (C := RX4) (T := TX4) (pc := 4) X dX8_forget_4 k2 rfl (by decide) w_202 rfl ?_
  refine x_aload_n (pc := 7) X dX8_forget_7 (i := 0) rfl 0 rfl ?_
  refine x_getr (ci := 8) (k := 7) (n := 11) (C := RX8) (T := TX8) (pc := 8) X dX8_forget_8 hk0 rfl (by decide) w_428 rfl e1 ?_
  refine x_geti (ci := 4) (k := 5) (n := 6) (C := RX4) (T := TX4) (pc := 11) X dX8_forget_11 k2 rfl (by decide) w_205 rfl ?_
  refine x_iadd (pc := 14) X dX8_forget_14 ?_
  refine x_istore_n (lv' := [(1, .int ((D q1 4) + (D q1 5))), (0, .ref (cx.2.2 + a0))]) (pc := 15) X dX8_forget_15 (i := 1) rfl (by decide) rfl ?_
  refine x_aload_n (pc := 16) X dX8_forget_16 (i := 0) rfl 1 rfl ?_
  refine x_getr (ci := 8) (k := 7) (n := 11) (C := RX8) (T := TX8) (pc := 17) X dX8_forget_17 hk0 rfl (by decide) w_428 rfl e1 ?_
  obtain ⟨z3, e3, h⟩ := bnds h
  refine x_callV (pc := 20) (As := []) (st := []) (st' := []) X (c_N_clear l cx nx N D P _ z3 e3) dX8_forget_20 w_413 m_N_clear rfl k2 (ci := 4) rfl rfl ⟨by decide, by decide⟩ ⟨Nat.zero_le _, Nat.zero_le _⟩ rfl (Nat.le_of_ble_eq_true rfl) rfl ?_
  refine x_iload_n (pc := 23) X dX8_forget_23 (i := 1) rfl 0 rfl ?_
  obtain rfl := Option.some.inj h
  exact x_iret (pc := 24) X dX8_forget_24
theorem dX8_kinds_0 : decode cX8_kinds 0 = .ok (.aload_n 0, 1) := by decide +kernel
theorem dX8_kinds_1 : decode cX8_kinds 1 = .ok (.getfield 19, 3) := by decide +kernel
theorem dX8_kinds_4 : decode cX8_kinds 4 = .ok (.iload_n 1, 1) := by decide +kernel
theorem dX8_kinds_5 : decode cX8_kinds 5 = .ok (.invokevirtual 139, 3) := by decide +kernel
theorem dX8_kinds_8 : decode cX8_kinds 8 = .ok (.ifCond .ne 5, 3) := by decide +kernel
theorem dX8_kinds_11 : decode cX8_kinds 11 = .ok (.iconst (-1), 1) := by decide +kernel
theorem dX8_kinds_12 : decode cX8_kinds 12 = .ok (.ireturn, 1) := by decide +kernel
theorem dX8_kinds_13 : decode cX8_kinds 13 = .ok (.iconst 0, 1) := by decide +kernel
theorem dX8_kinds_14 : decode cX8_kinds 14 = .ok (.istore_n 2, 1) := by decide +kernel
theorem dX8_kinds_15 : decode cX8_kinds 15 = .ok (.iconst 0, 1) := by decide +kernel
theorem dX8_kinds_16 : decode cX8_kinds 16 = .ok (.istore_n 3, 1) := by decide +kernel
theorem dX8_kinds_17 : decode cX8_kinds 17 = .ok (.iload_n 3, 1) := by decide +kernel
theorem dX8_kinds_18 : decode cX8_kinds 18 = .ok (.iconst 4, 1) := by decide +kernel
theorem dX8_kinds_19 : decode cX8_kinds 19 = .ok (.if_icmp .ge 42, 3) := by decide +kernel
theorem dX8_kinds_22 : decode cX8_kinds 22 = .ok (.aload_n 0, 1) := by decide +kernel
theorem dX8_kinds_23 : decode cX8_kinds 23 = .ok (.getfield 53, 3) := by decide +kernel
theorem dX8_kinds_26 : decode cX8_kinds 26 = .ok (.iload_n 1, 1) := by decide +kernel
theorem dX8_kinds_27 : decode cX8_kinds 27 = .ok (.iload_n 3, 1) := by decide +kernel
theorem dX8_kinds_28 : decode cX8_kinds 28 = .ok (.aload_n 0, 1) := by decide +kernel
theorem dX8_kinds_29 : decode cX8_kinds 29 = .ok (.getfield 31, 3) := by decide +kernel
theorem dX8_kinds_32 : decode cX8_kinds 32 = .ok (.iload_n 1, 1) := by decide +kernel
theorem dX8_kinds_33 : decode cX8_kinds 33 = .ok (.invokevirtual 148, 3) := by decide +kernel
theorem dX8_kinds_36 : decode cX8_kinds 36 = .ok (.aload_n 0, 1) := by decide +kernel
theorem dX8_kinds_37 : decode cX8_kinds 37 = .ok (.getfield 31, 3) := by decide +kernel
theorem dX8_kinds_40 : decode cX8_kinds 40 = .ok (.getfield 207, 3) := by decide +kernel
theorem dX8_kinds_43 : decode cX8_kinds 43 = .ok (.invokevirtual 261, 3) := by decide +kernel
theorem dX8_kinds_46 : decode cX8_kinds 46 = .ok (.ifCond .eq 9, 3) := by decide +kernel
theorem dX8_kinds_49 : decode cX8_kinds 49 = .ok (.iload_n 2, 1) := by decide +kernel
theorem dX8_kinds_50 : decode cX8_kinds 50 = .ok (.iconst 1, 1) := by decide +kernel
theorem dX8_kinds_51 : decode cX8_kinds 51 = .ok (.iload_n 3, 1) := by decide +kernel
theorem dX8_kinds_52 : decode cX8_kinds 52 = .ok (.ishl, 1) := by decide +kernel
theorem dX8_kinds_53 : decode cX8_kinds 53 = .ok (.ior, 1) := by decide +kernel
theorem dX8_kinds_54 : decode cX8_kinds 54 = .ok (.istore_n 2, 1) := by decide +kernel
theorem dX8_kinds_55 : decode cX8_kinds 55 = .ok (.iinc 3 1, 3) := by decide +kernel
theorem dX8_kinds_58 : decode cX8_kinds 58 = .ok (.goto (-41), 3) := by decide +kernel
theorem dX8_kinds_61 : decode cX8_kinds 61 = .ok (.iload_n 2, 1) := by decide +kernel
theorem dX8_kinds_62 : decode cX8_kinds 62 = .ok (.ireturn, 1) := by decide +kernel
def f_H_kinds_17 (N nx : Nat) (D : Dt) (P : Ft) (a0 : Nat) (i1 : Int32) (rec17 : Int32 → Int32 → Option Int32) (i2 : Int32) (i3 : Int32) : Option Int32 :=
  if 4 ≤ i3 then
    some i2
  else
    nn (P a0 7) fun q4 =>
    nn (P a0 3) fun q5 =>
    if kd nx q5 = 7 then
    (f_C_largeOf N nx D P q5 i1).bind fun z6 =>
    if kd nx q4 = 4 then
    (f_N_allSeenFit N nx D P q4 i1 i3 z6 (D q5 4)).bind fun z8 =>
    if z8 = 0 then
      rec17 i2 (i3 + 1)
    else
      rec17 (i2 ||| (1 <<< (i3 &&& 31))) (i3 + 1)
    else none
    else none
def f_H_kinds (N nx : Nat) (D : Dt) (P : Ft) (a0 : Nat) (i1 : Int32) : Option Int32 :=
  if kd nx a0 = 8 then
  nn (P a0 1) fun q1 =>
  if kd nx q1 = 1 then
  (f_F_hasPin N nx D P q1 i1).bind fun z2 =>
  if z2 = 0 then
    some (-1)
  else
    wk2 N (f_H_kinds_17 N nx D P a0 i1) 0 0
  else none
  else none
theorem m_H_kinds : MV yX8_kinds cX8_kinds 4 (some .int) 1 := ⟨mT 753 (by decide +kernel) rfl, mT 751 (by decide +kernel) rfl, mT 752 (by decide +kernel) rfl, mT 54 (by decide +kernel) rfl, by decide +kernel, by decide +kernel, by decide +kernel⟩
set_option maxHeartbeats 4000000 in
set_option maxRecDepth 100000 in
theorem c_H_kinds (l : Launch) (cx : Cx) (nx N : Nat) (D : Dt) (P : Ft) (a0 : Nat) (i1 : Int32) (z : Int32) (h : f_H_kinds N nx D P a0 i1 = some z) : Ct l cx yX8_kinds cX8_kinds 4 (some .int) 4 [.ref (cx.2.2 + a0), .int i1] D P nx (some (.int z)) D P := by
  refine x_met0 (by decide) (Nat.le_of_ble_eq_true rfl) ?_
  intro p e s m args below meth c X
  have X : XC p s m args meth c cx cX8_kinds 4 (some .int) "HeartPins" "kinds" := X
  refine XW.sub (lv' := [(0, .ref (cx.2.2 + a0)), (1, .int i1)]) [0, 1] rfl ?_
  unfold f_H_kinds at h
  obtain ⟨hk0, h⟩ := grd h
  have hL17 : ∀ (n : Nat) (i2 : Int32) (i3 : Int32), wk2 n (f_H_kinds_17 N nx D P a0 i1) i2 i3 = some z → XW p l e (rmk 4) s m args below meth c (MQ below (Qx cx (some (.int z)) D P nx) args s 0 0 (AA cx)) cx 4 D P nx 0 0 17 [(0, .ref (cx.2.2 + a0)), (1, .int i1), (2, .int i2), (3, .int i3)] [] := by
    intro n
    induction n with
    | zero => intro i2 i3 h; exact (nonz h).elim
    | succ n ih17 =>
      intro i2 i3 h
      have h : f_H_kinds_17 N nx D P a0 i1 (wk2 n (f_H_kinds_17 N nx D P a0 i1)) i2 i3 = some z := h
      generalize wk2 n (f_H_kinds_17 N nx D P a0 i1) = rec17 at ih17 h
      unfold f_H_kinds_17 at h
      refine x_iload_n (pc := 17) X dX8_kinds_17 (i := 3) rfl 3 rfl ?_
      refine x_iconst (v := 4) (pc := 18) X dX8_kinds_18 (by decide) ?_
      refine x_icmp_ge (tgt := 61) (pc := 19) X dX8_kinds_19 (by decide) (fun c11 => ?_) (fun c11 => ?_)
      · have h := ite_t c11 h
        refine x_iload_n (pc := 61) X dX8_kinds_61 (i := 2) rfl 2 rfl ?_
        obtain rfl := Option.some.inj h
        exact x_iret (pc := 62) X dX8_kinds_62
      · have h := ite_f c11 h
        refine x_aload_n (pc := 22) X dX8_kinds_22 (i := 0) rfl 0 rfl ?_
        obtain ⟨q4, e4, h⟩ := nns h
        refine x_getr (ci := 8) (k := 7) (n := 11) (C := RX8) (T := TX8) (pc := 23) X dX8_kinds_23 hk0 rfl (by decide) w_428 rfl e4 ?_
        refine x_iload_n (pc := 26) X dX8_kinds_26 (i := 1) rfl 1 rfl ?_
        refine x_iload_n (pc := 27) X dX8_kinds_27 (i := 3) rfl 3 rfl ?_
        refine x_aload_n (pc := 28) X dX8_kinds_28 (i := 0) rfl 0 rfl ?_
        obtain ⟨q5, e5, h⟩ := nns h
        refine x_getr (ci := 8) (k := 3) (n := 11) (C := RX8) (T := TX8) (pc := 29) X dX8_kinds_29 hk0 rfl (by decide) w_424 rfl e5 ?_
        refine x_iload_n (pc := 32) X dX8_kinds_32 (i := 1) rfl 1 rfl ?_
        obtain ⟨k7, h⟩ := grd h
        obtain ⟨z6, e6, h⟩ := bnds h
        refine x_callV (pc := 33) (As := [.int i1]) (st := [.int i3, .int i1, .ref (cx.2.2 + q4)]) (st' := [.int z6, .int i3, .int i1, .ref (cx.2.2 + q4)]) X (c_C_largeOf l cx nx N D P _ _ z6 e6) dX8_kinds_33 w_510 m_C_largeOf rfl k7 (ci := 7) rfl rfl ⟨by decide, by decide⟩ ⟨Nat.zero_le _, Nat.zero_le _⟩ rfl (Nat.le_of_ble_eq_true rfl) rfl ?_
        refine x_aload_n (pc := 36) X dX8_kinds_36 (i := 0) rfl 0 rfl ?_
        refine x_getr (ci := 8) (k := 3) (n := 11) (C := RX8) (T := TX8) (pc := 37) X dX8_kinds_37 hk0 rfl (by decide) w_424 rfl e5 ?_
        refine x_geti (ci := 7) (k := 4) (n := 5) (C := RX7) (T := TX7) (pc := 40) X dX8_kinds_40 k7 rfl (by decide) w_159 rfl ?_
        obtain ⟨k9, h⟩ := grd h
        obtain ⟨z8, e8, h⟩ := bnds h
        refine x_callV (pc := 43) (As := [.int i1, .int i3, .int z6, .int (D q5 4)]) (st := []) (st' := [.int z8]) X (c_N_allSeenFit l cx nx N D P _ _ _ _ _ z8 e8) dX8_kinds_43 w_754 m_N_allSeenFit rfl k9 (ci := 4) rfl rfl ⟨by decide, by decide⟩ ⟨Nat.zero_le _, Nat.zero_le _⟩ rfl (Nat.le_of_ble_eq_true rfl) rfl ?_
        refine x_if_eq (tgt := 55) (pc := 46) X dX8_kinds_46 (by decide) (fun c10 => ?_) (fun c10 => ?_)
        · have h := ite_t c10 h
          refine x_iinc (v := i3 + 1) (lv' := [(3, .int (i3 + 1)), (0, .ref (cx.2.2 + a0)), (1, .int i1), (2, .int i2)]) (pc := 55) X dX8_kinds_55 3 rfl rfl (by decide) rfl ?_
          refine x_goto (tgt := 17) (pc := 58) X dX8_kinds_58 (by decide) ?_
          exact XW.sub [1, 2, 3, 0] rfl (ih17 _ _ h)
        · have h := ite_f c10 h
          refine x_iload_n (pc := 49) X dX8_kinds_49 (i := 2) rfl 2 rfl ?_
          refine x_iconst (v := 1) (pc := 50) X dX8_kinds_50 (by decide) ?_
          refine x_iload_n (pc := 51) X dX8_kinds_51 (i := 3) rfl 3 rfl ?_
          refine x_ishl (pc := 52) X dX8_kinds_52 ?_
          refine x_ior (pc := 53) X dX8_kinds_53 ?_
          refine x_istore_n (lv' := [(2, .int (i2 ||| (1 <<< (i3 &&& 31)))), (0, .ref (cx.2.2 + a0)), (1, .int i1), (3, .int i3)]) (pc := 54) X dX8_kinds_54 (i := 2) rfl (by decide) rfl ?_
          refine x_iinc (v := i3 + 1) (lv' := [(3, .int (i3 + 1)), (2, .int (i2 ||| (1 <<< (i3 &&& 31)))), (0, .ref (cx.2.2 + a0)), (1, .int i1)]) (pc := 55) X dX8_kinds_55 3 rfl rfl (by decide) rfl ?_
          refine x_goto (tgt := 17) (pc := 58) X dX8_kinds_58 (by decide) ?_
          exact XW.sub [2, 3, 1, 0] rfl (ih17 _ _ h)
  refine x_aload_n (pc := 0) X dX8_kinds_0 (i := 0) rfl 0 rfl ?_
  obtain ⟨q1, e1, h⟩ := nns h
  refine x_getr (ci := 8) (k := 1) (n := 11) (C := RX8) (T := TX8) (pc := 1) X dX8_kinds_1 hk0 rfl (by decide) w_422 rfl e1 ?_
  refine x_iload_n (pc := 4) X dX8_kinds_4 (i := 1) rfl 1 rfl ?_
  obtain ⟨k3, h⟩ := grd h
  obtain ⟨z2, e2, h⟩ := bnds h
  refine x_callV (pc := 5) (As := [.int i1]) (st := []) (st' := [.int z2]) X (c_F_hasPin l cx nx N D P _ _ z2 e2) dX8_kinds_5 w_501 m_F_hasPin rfl k3 (ci := 1) rfl rfl ⟨by decide, by decide⟩ ⟨Nat.zero_le _, Nat.zero_le _⟩ rfl (Nat.le_of_ble_eq_true rfl) rfl ?_
  refine x_if_ne (tgt := 13) (pc := 8) X dX8_kinds_8 (by decide) (fun c12 => ?_) (fun c12 => ?_)
  · have h := ite_f c12 h
    refine x_iconst (v := 0) (pc := 13) X dX8_kinds_13 (by decide) ?_
    refine x_istore_n (lv' := [(2, .int 0), (0, .ref (cx.2.2 + a0)), (1, .int i1)]) (pc := 14) X dX8_kinds_14 (i := 2) rfl (by decide) rfl ?_
    refine x_iconst (v := 0) (pc := 15) X dX8_kinds_15 (by decide) ?_
    refine x_istore_n (lv' := [(3, .int 0), (2, .int 0), (0, .ref (cx.2.2 + a0)), (1, .int i1)]) (pc := 16) X dX8_kinds_16 (i := 3) rfl (by decide) rfl ?_
    exact XW.sub [2, 3, 1, 0] rfl (hL17 _ _ _ h)
  · have h := ite_t c12 h
    refine x_iconst (v := (-1)) (pc := 11) X dX8_kinds_11 (by decide) ?_
    obtain rfl := Option.some.inj h
    exact x_iret (pc := 12) X dX8_kinds_12
theorem dX8_which_0 : decode cX8_which 0 = .ok (.iload_n 1, 1) := by decide +kernel
theorem dX8_which_1 : decode cX8_which 1 = .ok (.iconst 0, 1) := by decide +kernel
theorem dX8_which_2 : decode cX8_which 2 = .ok (.bipush 20, 2) := by decide +kernel
theorem dX8_which_4 : decode cX8_which 4 = .ok (.invokestatic 100, 3) := by decide +kernel
theorem dX8_which_7 : decode cX8_which 7 = .ok (.ifCond .eq 13, 3) := by decide +kernel
theorem dX8_which_10 : decode cX8_which 10 = .ok (.iload_n 2, 1) := by decide +kernel
theorem dX8_which_11 : decode cX8_which 11 = .ok (.iconst (-1), 1) := by decide +kernel
theorem dX8_which_12 : decode cX8_which 12 = .ok (.bipush 7, 2) := by decide +kernel
theorem dX8_which_14 : decode cX8_which 14 = .ok (.invokestatic 100, 3) := by decide +kernel
theorem dX8_which_17 : decode cX8_which 17 = .ok (.ifCond .ne 5, 3) := by decide +kernel
theorem dX8_which_20 : decode cX8_which 20 = .ok (.iconst (-1), 1) := by decide +kernel
theorem dX8_which_21 : decode cX8_which 21 = .ok (.ireturn, 1) := by decide +kernel
theorem dX8_which_22 : decode cX8_which 22 = .ok (.aload_n 0, 1) := by decide +kernel
theorem dX8_which_23 : decode cX8_which 23 = .ok (.getfield 60, 3) := by decide +kernel
theorem dX8_which_26 : decode cX8_which 26 = .ok (.aload_n 0, 1) := by decide +kernel
theorem dX8_which_27 : decode cX8_which 27 = .ok (.getfield 31, 3) := by decide +kernel
theorem dX8_which_30 : decode cX8_which 30 = .ok (.aload_n 0, 1) := by decide +kernel
theorem dX8_which_31 : decode cX8_which 31 = .ok (.getfield 53, 3) := by decide +kernel
theorem dX8_which_34 : decode cX8_which 34 = .ok (.iload_n 1, 1) := by decide +kernel
theorem dX8_which_35 : decode cX8_which 35 = .ok (.invokevirtual 265, 3) := by decide +kernel
theorem dX8_which_38 : decode cX8_which 38 = .ok (.iload_n 2, 1) := by decide +kernel
theorem dX8_which_39 : decode cX8_which 39 = .ok (.iconst (-1), 1) := by decide +kernel
theorem dX8_which_40 : decode cX8_which 40 = .ok (.if_icmp .ne 13, 3) := by decide +kernel
theorem dX8_which_43 : decode cX8_which 43 = .ok (.aload_n 0, 1) := by decide +kernel
theorem dX8_which_44 : decode cX8_which 44 = .ok (.getfield 60, 3) := by decide +kernel
theorem dX8_which_47 : decode cX8_which 47 = .ok (.getfield 268, 3) := by decide +kernel
theorem dX8_which_50 : decode cX8_which 50 = .ok (.goto 11, 3) := by decide +kernel
theorem dX8_which_53 : decode cX8_which 53 = .ok (.aload_n 0, 1) := by decide +kernel
theorem dX8_which_54 : decode cX8_which 54 = .ok (.getfield 60, 3) := by decide +kernel
theorem dX8_which_57 : decode cX8_which 57 = .ok (.iload_n 2, 1) := by decide +kernel
theorem dX8_which_58 : decode cX8_which 58 = .ok (.invokevirtual 271, 3) := by decide +kernel
theorem dX8_which_61 : decode cX8_which 61 = .ok (.ireturn, 1) := by decide +kernel
def f_H_which (N nx : Nat) (D : Dt) (P : Ft) (a0 : Nat) (i1 : Int32) (i2 : Int32) : Option (Int32 × Dt) :=
  if kd nx a0 = 8 then
  (f_H_isWithin N nx D P i1 0 20).bind fun z1 =>
  if z1 = 0 then
    some ((-1), D)
  else
    (f_H_isWithin N nx D P i2 (-1) 7).bind fun z2 =>
    if z2 = 0 then
      some ((-1), D)
    else
      nn (P a0 8) fun q3 =>
      nn (P a0 3) fun q4 =>
      nn (P a0 7) fun q5 =>
      if kd nx q3 = 3 then
      (f_G_find N nx D P q3 q4 q5 i1).bind fun z6 =>
      if i2 = (-1) then
        some (z6 q3 3, z6)
      else
        (f_G_pinMarked N nx z6 P q3 i2).bind fun z8 =>
        some (z8, z6)
      else none
  else none
theorem m_H_which : MV yX8_which cX8_which 3 (some .int) 2 := ⟨mT 765 (by decide +kernel) rfl, mT 763 (by decide +kernel) rfl, mT 764 (by decide +kernel) rfl, mT 54 (by decide +kernel) rfl, by decide +kernel, by decide +kernel, by decide +kernel⟩
set_option maxHeartbeats 4000000 in
set_option maxRecDepth 100000 in
theorem c_H_which (l : Launch) (cx : Cx) (nx N : Nat) (D : Dt) (P : Ft) (a0 : Nat) (i1 : Int32) (i2 : Int32) (z : Int32 × Dt) (h : f_H_which N nx D P a0 i1 i2 = some z) : Ct l cx yX8_which cX8_which 3 (some .int) 4 [.ref (cx.2.2 + a0), .int i1, .int i2] D P nx (some (.int z.1)) z.2 P := by
  refine x_met0 (by decide) (Nat.le_of_ble_eq_true rfl) ?_
  intro p e s m args below meth c X
  have X : XC p s m args meth c cx cX8_which 3 (some .int) "HeartPins" "which" := X
  refine XW.sub (lv' := [(0, .ref (cx.2.2 + a0)), (1, .int i1), (2, .int i2)]) [0, 1, 2] rfl ?_
  unfold f_H_which at h
  obtain ⟨hk0, h⟩ := grd h
  refine x_iload_n (pc := 0) X dX8_which_0 (i := 1) rfl 1 rfl ?_
  refine x_iconst (v := 0) (pc := 1) X dX8_which_1 (by decide) ?_
  refine x_bipush (v := 20) (pc := 2) X dX8_which_2 (by decide) ?_
  obtain ⟨z1, e1, h⟩ := bnds h
  refine x_callS (pc := 4) (As := [.int i1, .int 0, .int 20]) (st := []) (st' := [.int z1]) X (c_H_isWithin l cx nx N D P _ _ _ z1 e1) dX8_which_4 w_460 m_H_isWithin rfl ⟨by decide, by decide⟩ ⟨Nat.zero_le _, Nat.zero_le _⟩ rfl (Nat.le_of_ble_eq_true rfl) rfl ?_
  refine x_if_eq (tgt := 20) (pc := 7) X dX8_which_7 (by decide) (fun c11 => ?_) (fun c11 => ?_)
  · have h := ite_t c11 h
    refine x_iconst (v := (-1)) (pc := 20) X dX8_which_20 (by decide) ?_
    obtain rfl := Option.some.inj h
    exact x_iret (pc := 21) X dX8_which_21
  · have h := ite_f c11 h
    refine x_iload_n (pc := 10) X dX8_which_10 (i := 2) rfl 2 rfl ?_
    refine x_iconst (v := (-1)) (pc := 11) X dX8_which_11 (by decide) ?_
    refine x_bipush (v := 7) (pc := 12) X dX8_which_12 (by decide) ?_
    obtain ⟨z2, e2, h⟩ := bnds h
    refine x_callS (pc := 14) (As := [.int i2, .int (-1), .int 7]) (st := []) (st' := [.int z2]) X (c_H_isWithin l cx nx N D P _ _ _ z2 e2) dX8_which_14 w_460 m_H_isWithin rfl ⟨by decide, by decide⟩ ⟨Nat.zero_le _, Nat.zero_le _⟩ rfl (Nat.le_of_ble_eq_true rfl) rfl ?_
    refine x_if_ne (tgt := 22) (pc := 17) X dX8_which_17 (by decide) (fun c10 => ?_) (fun c10 => ?_)
    · have h := ite_f c10 h
      refine x_aload_n (pc := 22) X dX8_which_22 (i := 0) rfl 0 rfl ?_
      obtain ⟨q3, e3, h⟩ := nns h
      refine x_getr (ci := 8) (k := 8) (n := 11) (C := RX8) (T := TX8) (pc := 23) X dX8_which_23 hk0 rfl (by decide) w_429 rfl e3 ?_
      refine x_aload_n (pc := 26) X dX8_which_26 (i := 0) rfl 0 rfl ?_
      obtain ⟨q4, e4, h⟩ := nns h
      refine x_getr (ci := 8) (k := 3) (n := 11) (C := RX8) (T := TX8) (pc := 27) X dX8_which_27 hk0 rfl (by decide) w_424 rfl e4 ?_
      refine x_aload_n (pc := 30) X dX8_which_30 (i := 0) rfl 0 rfl ?_
      obtain ⟨q5, e5, h⟩ := nns h
      refine x_getr (ci := 8) (k := 7) (n := 11) (C := RX8) (T := TX8) (pc := 31) X dX8_which_31 hk0 rfl (by decide) w_428 rfl e5 ?_
      refine x_iload_n (pc := 34) X dX8_which_34 (i := 1) rfl 1 rfl ?_
      obtain ⟨k7, h⟩ := grd h
      obtain ⟨z6, e6, h⟩ := bnds h
      refine x_callV (pc := 35) (As := [.ref (cx.2.2 + q4), .ref (cx.2.2 + q5), .int i1]) (st := []) (st' := []) X (c_G_find l cx nx N D P _ _ _ _ z6 e6) dX8_which_35 w_766 m_G_find rfl k7 (ci := 3) rfl rfl ⟨by decide, by decide⟩ ⟨Nat.zero_le _, Nat.zero_le _⟩ rfl (Nat.le_of_ble_eq_true rfl) rfl ?_
      refine x_iload_n (pc := 38) X dX8_which_38 (i := 2) rfl 2 rfl ?_
      refine x_iconst (v := (-1)) (pc := 39) X dX8_which_39 (by decide) ?_
      refine x_icmp_ne (tgt := 53) (pc := 40) X dX8_which_40 (by decide) (fun c9 => ?_) (fun c9 => ?_)
      · have h := ite_f c9 h
        refine x_aload_n (pc := 53) X dX8_which_53 (i := 0) rfl 0 rfl ?_
        refine x_getr (ci := 8) (k := 8) (n := 11) (C := RX8) (T := TX8) (pc := 54) X dX8_which_54 hk0 rfl (by decide) w_429 rfl e3 ?_
        refine x_iload_n (pc := 57) X dX8_which_57 (i := 2) rfl 2 rfl ?_
        obtain ⟨z8, e8, h⟩ := bnds h
        refine x_callV (pc := 58) (As := [.int i2]) (st := []) (st' := [.int z8]) X (c_G_pinMarked l cx nx N z6 P _ _ z8 e8) dX8_which_58 w_788 m_G_pinMarked rfl k7 (ci := 3) rfl rfl ⟨by decide, by decide⟩ ⟨Nat.zero_le _, Nat.zero_le _⟩ rfl (Nat.le_of_ble_eq_true rfl) rfl ?_
        obtain rfl := Option.some.inj h
        exact x_iret (pc := 61) X dX8_which_61
      · have h := ite_t c9 h
        refine x_aload_n (pc := 43) X dX8_which_43 (i := 0) rfl 0 rfl ?_
        refine x_getr (ci := 8) (k := 8) (n := 11) (C := RX8) (T := TX8) (pc := 44) X dX8_which_44 hk0 rfl (by decide) w_429 rfl e3 ?_
        refine x_geti (ci := 3) (k := 3) (n := 4) (C := RX3) (T := TX3) (pc := 47) X dX8_which_47 k7 rfl (by decide) w_229 rfl ?_
        refine x_goto (tgt := 61) (pc := 50) X dX8_which_50 (by decide) ?_
        obtain rfl := Option.some.inj h
        exact x_iret (pc := 61) X dX8_which_61
    · have h := ite_t c10 h
      refine x_iconst (v := (-1)) (pc := 20) X dX8_which_20 (by decide) ?_
      obtain rfl := Option.some.inj h
      exact x_iret (pc := 21) X dX8_which_21
theorem dX8_bad_0 : decode cX8_bad 0 = .ok (.aload_n 0, 1) := by decide +kernel
theorem dX8_bad_1 : decode cX8_bad 1 = .ok (.getfield 19, 3) := by decide +kernel
theorem dX8_bad_4 : decode cX8_bad 4 = .ok (.iload_n 1, 1) := by decide +kernel
theorem dX8_bad_5 : decode cX8_bad 5 = .ok (.invokevirtual 122, 3) := by decide +kernel
theorem dX8_bad_8 : decode cX8_bad 8 = .ok (.ifCond .eq 33, 3) := by decide +kernel
theorem dX8_bad_11 : decode cX8_bad 11 = .ok (.iload_n 2, 1) := by decide +kernel
theorem dX8_bad_12 : decode cX8_bad 12 = .ok (.iconst 0, 1) := by decide +kernel
theorem dX8_bad_13 : decode cX8_bad 13 = .ok (.bipush 8, 2) := by decide +kernel
theorem dX8_bad_15 : decode cX8_bad 15 = .ok (.invokestatic 100, 3) := by decide +kernel
theorem dX8_bad_18 : decode cX8_bad 18 = .ok (.ifCond .eq 23, 3) := by decide +kernel
theorem dX8_bad_21 : decode cX8_bad 21 = .ok (.iload_n 3, 1) := by decide +kernel
theorem dX8_bad_22 : decode cX8_bad 22 = .ok (.iconst 0, 1) := by decide +kernel
theorem dX8_bad_23 : decode cX8_bad 23 = .ok (.bipush 10, 2) := by decide +kernel
theorem dX8_bad_25 : decode cX8_bad 25 = .ok (.invokestatic 100, 3) := by decide +kernel
theorem dX8_bad_28 : decode cX8_bad 28 = .ok (.ifCond .eq 13, 3) := by decide +kernel
theorem dX8_bad_31 : decode cX8_bad 31 = .ok (.iload 4, 2) := by decide +kernel
theorem dX8_bad_33 : decode cX8_bad 33 = .ok (.iconst 0, 1) := by decide +kernel
theorem dX8_bad_34 : decode cX8_bad 34 = .ok (.iconst 1, 1) := by decide +kernel
theorem dX8_bad_35 : decode cX8_bad 35 = .ok (.invokestatic 100, 3) := by decide +kernel
theorem dX8_bad_38 : decode cX8_bad 38 = .ok (.ifCond .ne 5, 3) := by decide +kernel
theorem dX8_bad_41 : decode cX8_bad 41 = .ok (.iconst (-1), 1) := by decide +kernel
theorem dX8_bad_42 : decode cX8_bad 42 = .ok (.ireturn, 1) := by decide +kernel
theorem dX8_bad_43 : decode cX8_bad 43 = .ok (.aload_n 0, 1) := by decide +kernel
theorem dX8_bad_44 : decode cX8_bad 44 = .ok (.getfield 74, 3) := by decide +kernel
theorem dX8_bad_47 : decode cX8_bad 47 = .ok (.aload_n 0, 1) := by decide +kernel
theorem dX8_bad_48 : decode cX8_bad 48 = .ok (.getfield 31, 3) := by decide +kernel
theorem dX8_bad_51 : decode cX8_bad 51 = .ok (.iload_n 1, 1) := by decide +kernel
theorem dX8_bad_52 : decode cX8_bad 52 = .ok (.iload_n 2, 1) := by decide +kernel
theorem dX8_bad_53 : decode cX8_bad 53 = .ok (.iload_n 3, 1) := by decide +kernel
theorem dX8_bad_54 : decode cX8_bad 54 = .ok (.invokevirtual 274, 3) := by decide +kernel
theorem dX8_bad_57 : decode cX8_bad 57 = .ok (.lstore 5, 2) := by decide +kernel
theorem dX8_bad_59 : decode cX8_bad 59 = .ok (.iload_n 2, 1) := by decide +kernel
theorem dX8_bad_60 : decode cX8_bad 60 = .ok (.invokestatic 278, 3) := by decide +kernel
theorem dX8_bad_63 : decode cX8_bad 63 = .ok (.lstore 7, 2) := by decide +kernel
theorem dX8_bad_65 : decode cX8_bad 65 = .ok (.lload 5, 2) := by decide +kernel
theorem dX8_bad_67 : decode cX8_bad 67 = .ok (.lload 7, 2) := by decide +kernel
theorem dX8_bad_69 : decode cX8_bad 69 = .ok (.invokestatic 282, 3) := by decide +kernel
theorem dX8_bad_72 : decode cX8_bad 72 = .ok (.lstore 9, 2) := by decide +kernel
theorem dX8_bad_74 : decode cX8_bad 74 = .ok (.lload 9, 2) := by decide +kernel
theorem dX8_bad_76 : decode cX8_bad 76 = .ok (.lconst 1, 1) := by decide +kernel
theorem dX8_bad_77 : decode cX8_bad 77 = .ok (.lcmp, 1) := by decide +kernel
theorem dX8_bad_78 : decode cX8_bad 78 = .ok (.ifCond .ge 5, 3) := by decide +kernel
theorem dX8_bad_81 : decode cX8_bad 81 = .ok (.iconst (-1), 1) := by decide +kernel
theorem dX8_bad_82 : decode cX8_bad 82 = .ok (.ireturn, 1) := by decide +kernel
theorem dX8_bad_83 : decode cX8_bad 83 = .ok (.iload 4, 2) := by decide +kernel
theorem dX8_bad_85 : decode cX8_bad 85 = .ok (.ifCond .ne 8, 3) := by decide +kernel
theorem dX8_bad_88 : decode cX8_bad 88 = .ok (.lload 5, 2) := by decide +kernel
theorem dX8_bad_90 : decode cX8_bad 90 = .ok (.goto 5, 3) := by decide +kernel
theorem dX8_bad_93 : decode cX8_bad 93 = .ok (.lload 7, 2) := by decide +kernel
theorem dX8_bad_95 : decode cX8_bad 95 = .ok (.lload 9, 2) := by decide +kernel
theorem dX8_bad_97 : decode cX8_bad 97 = .ok (.ldiv, 1) := by decide +kernel
theorem dX8_bad_98 : decode cX8_bad 98 = .ok (.l2i, 1) := by decide +kernel
theorem dX8_bad_99 : decode cX8_bad 99 = .ok (.ireturn, 1) := by decide +kernel
def f_H_bad (N nx : Nat) (D : Dt) (P : Ft) (a0 : Nat) (i1 : Int32) (i2 : Int32) (i3 : Int32) (i4 : Int32) : Option (Int32 × Dt) :=
  if kd nx a0 = 8 then
  nn (P a0 1) fun q1 =>
  if kd nx q1 = 1 then
  (f_F_hasPerson N nx D P q1 i1).bind fun z2 =>
  if z2 = 0 then
    some ((-1), D)
  else
    (f_H_isWithin N nx D P i2 0 8).bind fun z4 =>
    if z4 = 0 then
      some ((-1), D)
    else
      (f_H_isWithin N nx D P i3 0 10).bind fun z5 =>
      if z5 = 0 then
        some ((-1), D)
      else
        (f_H_isWithin N nx D P i4 0 1).bind fun z6 =>
        if z6 = 0 then
          some ((-1), D)
        else
          nn (P a0 10) fun q7 =>
          nn (P a0 3) fun q8 =>
          if kd nx q7 = 0 then
          (f_B_breakingOf N nx D P q7 q8 i1 i2 i3).bind fun z9 =>
          (f_B_tenTo N nx z9.2 P i2).bind fun z11 =>
          (f_H_greatestDivisor N nx z9.2 P z9.1 z11).bind fun z12 =>
          if 0 ≤ lg_cmp z12 1 then
            if i4 = 0 then
              if z12 = 0 then none else
              some (Int64.toInt32 (z9.1 / z12), z9.2)
            else
              if z12 = 0 then none else
              some (Int64.toInt32 (z11 / z12), z9.2)
          else
            some ((-1), z9.2)
          else none
  else none
  else none
theorem m_H_bad : MV yX8_bad cX8_bad 11 (some .int) 4 := ⟨mT 795 (by decide +kernel) rfl, mT 793 (by decide +kernel) rfl, mT 794 (by decide +kernel) rfl, mT 54 (by decide +kernel) rfl, by decide +kernel, by decide +kernel, by decide +kernel⟩
set_option maxHeartbeats 4000000 in
set_option maxRecDepth 100000 in
theorem c_H_bad (l : Launch) (cx : Cx) (nx N : Nat) (D : Dt) (P : Ft) (a0 : Nat) (i1 : Int32) (i2 : Int32) (i3 : Int32) (i4 : Int32) (z : Int32 × Dt) (h : f_H_bad N nx D P a0 i1 i2 i3 i4 = some z) : Ct l cx yX8_bad cX8_bad 11 (some .int) 36 [.ref (cx.2.2 + a0), .int i1, .int i2, .int i3, .int i4] D P nx (some (.int z.1)) z.2 P := by
  refine x_met0 (by decide) (Nat.le_of_ble_eq_true rfl) ?_
  intro p e s m args below meth c X
  have X : XC p s m args meth c cx cX8_bad 11 (some .int) "HeartPins" "bad" := X
  refine XW.sub (lv' := [(0, .ref (cx.2.2 + a0)), (1, .int i1), (2, .int i2), (3, .int i3), (4, .int i4)]) [0, 1, 2, 3, 4] rfl ?_
  unfold f_H_bad at h
  obtain ⟨hk0, h⟩ := grd h
  refine x_aload_n (pc := 0) X dX8_bad_0 (i := 0) rfl 0 rfl ?_
  obtain ⟨q1, e1, h⟩ := nns h
  refine x_getr (ci := 8) (k := 1) (n := 11) (C := RX8) (T := TX8) (pc := 1) X dX8_bad_1 hk0 rfl (by decide) w_422 rfl e1 ?_
  refine x_iload_n (pc := 4) X dX8_bad_4 (i := 1) rfl 1 rfl ?_
  obtain ⟨k3, h⟩ := grd h
  obtain ⟨z2, e2, h⟩ := bnds h
  refine x_callV (pc := 5) (As := [.int i1]) (st := []) (st' := [.int z2]) X (c_F_hasPerson l cx nx N D P _ _ z2 e2) dX8_bad_5 w_474 m_F_hasPerson rfl k3 (ci := 1) rfl rfl ⟨by decide, by decide⟩ ⟨Nat.zero_le _, Nat.zero_le _⟩ rfl (Nat.le_of_ble_eq_true rfl) rfl ?_
  refine x_if_eq (tgt := 41) (pc := 8) X dX8_bad_8 (by decide) (fun c20 => ?_) (fun c20 => ?_)
  · have h := ite_t c20 h
    refine x_iconst (v := (-1)) (pc := 41) X dX8_bad_41 (by decide) ?_
    obtain rfl := Option.some.inj h
    exact x_iret (pc := 42) X dX8_bad_42
  · have h := ite_f c20 h
    refine x_iload_n (pc := 11) X dX8_bad_11 (i := 2) rfl 2 rfl ?_
    refine x_iconst (v := 0) (pc := 12) X dX8_bad_12 (by decide) ?_
    refine x_bipush (v := 8) (pc := 13) X dX8_bad_13 (by decide) ?_
    obtain ⟨z4, e4, h⟩ := bnds h
    refine x_callS (pc := 15) (As := [.int i2, .int 0, .int 8]) (st := []) (st' := [.int z4]) X (c_H_isWithin l cx nx N D P _ _ _ z4 e4) dX8_bad_15 w_460 m_H_isWithin rfl ⟨by decide, by decide⟩ ⟨Nat.zero_le _, Nat.zero_le _⟩ rfl (Nat.le_of_ble_eq_true rfl) rfl ?_
    refine x_if_eq (tgt := 41) (pc := 18) X dX8_bad_18 (by decide) (fun c19 => ?_) (fun c19 => ?_)
    · have h := ite_t c19 h
      refine x_iconst (v := (-1)) (pc := 41) X dX8_bad_41 (by decide) ?_
      obtain rfl := Option.some.inj h
      exact x_iret (pc := 42) X dX8_bad_42
    · have h := ite_f c19 h
      refine x_iload_n (pc := 21) X dX8_bad_21 (i := 3) rfl 3 rfl ?_
      refine x_iconst (v := 0) (pc := 22) X dX8_bad_22 (by decide) ?_
      refine x_bipush (v := 10) (pc := 23) X dX8_bad_23 (by decide) ?_
      obtain ⟨z5, e5, h⟩ := bnds h
      refine x_callS (pc := 25) (As := [.int i3, .int 0, .int 10]) (st := []) (st' := [.int z5]) X (c_H_isWithin l cx nx N D P _ _ _ z5 e5) dX8_bad_25 w_460 m_H_isWithin rfl ⟨by decide, by decide⟩ ⟨Nat.zero_le _, Nat.zero_le _⟩ rfl (Nat.le_of_ble_eq_true rfl) rfl ?_
      refine x_if_eq (tgt := 41) (pc := 28) X dX8_bad_28 (by decide) (fun c18 => ?_) (fun c18 => ?_)
      · have h := ite_t c18 h
        refine x_iconst (v := (-1)) (pc := 41) X dX8_bad_41 (by decide) ?_
        obtain rfl := Option.some.inj h
        exact x_iret (pc := 42) X dX8_bad_42
      · have h := ite_f c18 h
        refine x_iload (pc := 31) X dX8_bad_31 4 rfl ?_
        refine x_iconst (v := 0) (pc := 33) X dX8_bad_33 (by decide) ?_
        refine x_iconst (v := 1) (pc := 34) X dX8_bad_34 (by decide) ?_
        obtain ⟨z6, e6, h⟩ := bnds h
        refine x_callS (pc := 35) (As := [.int i4, .int 0, .int 1]) (st := []) (st' := [.int z6]) X (c_H_isWithin l cx nx N D P _ _ _ z6 e6) dX8_bad_35 w_460 m_H_isWithin rfl ⟨by decide, by decide⟩ ⟨Nat.zero_le _, Nat.zero_le _⟩ rfl (Nat.le_of_ble_eq_true rfl) rfl ?_
        refine x_if_ne (tgt := 43) (pc := 38) X dX8_bad_38 (by decide) (fun c17 => ?_) (fun c17 => ?_)
        · have h := ite_f c17 h
          refine x_aload_n (pc := 43) X dX8_bad_43 (i := 0) rfl 0 rfl ?_
          obtain ⟨q7, e7, h⟩ := nns h
          refine x_getr (ci := 8) (k := 10) (n := 11) (C := RX8) (T := TX8) (pc := 44) X dX8_bad_44 hk0 rfl (by decide) w_431 rfl e7 ?_
          refine x_aload_n (pc := 47) X dX8_bad_47 (i := 0) rfl 0 rfl ?_
          obtain ⟨q8, e8, h⟩ := nns h
          refine x_getr (ci := 8) (k := 3) (n := 11) (C := RX8) (T := TX8) (pc := 48) X dX8_bad_48 hk0 rfl (by decide) w_424 rfl e8 ?_
          refine x_iload_n (pc := 51) X dX8_bad_51 (i := 1) rfl 1 rfl ?_
          refine x_iload_n (pc := 52) X dX8_bad_52 (i := 2) rfl 2 rfl ?_
          refine x_iload_n (pc := 53) X dX8_bad_53 (i := 3) rfl 3 rfl ?_
          obtain ⟨k10, h⟩ := grd h
          obtain ⟨z9, e9, h⟩ := bnds h
          refine x_callV (pc := 54) (As := [.ref (cx.2.2 + q8), .int i1, .int i2, .int i3]) (st := []) (st' := [.long z9.1]) X (c_B_breakingOf l cx nx N D P _ _ _ _ _ z9 e9) dX8_bad_54 w_796 m_B_breakingOf rfl k10 (ci := 0) rfl rfl ⟨by decide, by decide⟩ ⟨Nat.zero_le _, Nat.zero_le _⟩ rfl (Nat.le_of_ble_eq_true rfl) rfl ?_
          refine x_lstore (lv' := [(5, .long z9.1), (0, .ref (cx.2.2 + a0)), (1, .int i1), (2, .int i2), (3, .int i3), (4, .int i4)]) (pc := 57) X dX8_bad_57 (by decide) rfl ?_
          refine x_iload_n (pc := 59) X dX8_bad_59 (i := 2) rfl 3 rfl ?_
          obtain ⟨z11, e11, h⟩ := bnds h
          refine x_callS (pc := 60) (As := [.int i2]) (st := []) (st' := [.long z11]) X (c_B_tenTo l cx nx N z9.2 P _ z11 e11) dX8_bad_60 w_818 m_B_tenTo rfl ⟨by decide, by decide⟩ ⟨Nat.zero_le _, Nat.zero_le _⟩ rfl (Nat.le_of_ble_eq_true rfl) rfl ?_
          refine x_lstore (lv' := [(7, .long z11), (5, .long z9.1), (0, .ref (cx.2.2 + a0)), (1, .int i1), (2, .int i2), (3, .int i3), (4, .int i4)]) (pc := 63) X dX8_bad_63 (by decide) rfl ?_
          refine x_lload (pc := 65) X dX8_bad_65 1 rfl ?_
          refine x_lload (pc := 67) X dX8_bad_67 0 rfl ?_
          obtain ⟨z12, e12, h⟩ := bnds h
          refine x_callS (pc := 69) (As := [.long z9.1, .long z11]) (st := []) (st' := [.long z12]) X (c_H_greatestDivisor l cx nx N z9.2 P _ _ z12 e12) dX8_bad_69 w_819 m_H_greatestDivisor rfl ⟨by decide, by decide⟩ ⟨Nat.zero_le _, Nat.zero_le _⟩ rfl (Nat.le_of_ble_eq_true rfl) rfl ?_
          refine x_lstore (lv' := [(9, .long z12), (7, .long z11), (5, .long z9.1), (0, .ref (cx.2.2 + a0)), (1, .int i1), (2, .int i2), (3, .int i3), (4, .int i4)]) (pc := 72) X dX8_bad_72 (by decide) rfl ?_
          refine x_lload (pc := 74) X dX8_bad_74 0 rfl ?_
          refine x_lconst (v := 1) (pc := 76) X dX8_bad_76 (by decide) ?_
          refine x_lcmp (pc := 77) X dX8_bad_77 ?_
          refine x_if_ge (tgt := 83) (pc := 78) X dX8_bad_78 (by decide) (fun c16 => ?_) (fun c16 => ?_)
          · have h := ite_t c16 h
            refine x_iload (pc := 83) X dX8_bad_83 7 rfl ?_
            refine x_if_ne (tgt := 93) (pc := 85) X dX8_bad_85 (by decide) (fun c15 => ?_) (fun c15 => ?_)
            · have h := ite_f c15 h
              refine x_lload (pc := 93) X dX8_bad_93 1 rfl ?_
              refine x_lload (pc := 95) X dX8_bad_95 0 rfl ?_
              obtain ⟨k13, h⟩ := grdn h
              refine x_ldiv (pc := 97) X dX8_bad_97 k13 ?_
              refine x_l2i (pc := 98) X dX8_bad_98 ?_
              obtain rfl := Option.some.inj h
              exact x_iret (pc := 99) X dX8_bad_99
            · have h := ite_t c15 h
              refine x_lload (pc := 88) X dX8_bad_88 2 rfl ?_
              refine x_goto (tgt := 95) (pc := 90) X dX8_bad_90 (by decide) ?_
              refine x_lload (pc := 95) X dX8_bad_95 0 rfl ?_
              obtain ⟨k14, h⟩ := grdn h
              refine x_ldiv (pc := 97) X dX8_bad_97 k14 ?_
              refine x_l2i (pc := 98) X dX8_bad_98 ?_
              obtain rfl := Option.some.inj h
              exact x_iret (pc := 99) X dX8_bad_99
          · have h := ite_f c16 h
            refine x_iconst (v := (-1)) (pc := 81) X dX8_bad_81 (by decide) ?_
            obtain rfl := Option.some.inj h
            exact x_iret (pc := 82) X dX8_bad_82
        · have h := ite_t c17 h
          refine x_iconst (v := (-1)) (pc := 41) X dX8_bad_41 (by decide) ?_
          obtain rfl := Option.some.inj h
          exact x_iret (pc := 42) X dX8_bad_42
theorem dX8_actByDraw_0 : decode cX8_actByDraw 0 = .ok (.aload_n 0, 1) := by decide +kernel
theorem dX8_actByDraw_1 : decode cX8_actByDraw 1 = .ok (.getfield 19, 3) := by decide +kernel
theorem dX8_actByDraw_4 : decode cX8_actByDraw 4 = .ok (.getfield 296, 3) := by decide +kernel
theorem dX8_actByDraw_7 : decode cX8_actByDraw 7 = .ok (.iconst 1, 1) := by decide +kernel
theorem dX8_actByDraw_8 : decode cX8_actByDraw 8 = .ok (.if_icmp .lt 14, 3) := by decide +kernel
theorem dX8_actByDraw_11 : decode cX8_actByDraw 11 = .ok (.aload_n 0, 1) := by decide +kernel
theorem dX8_actByDraw_12 : decode cX8_actByDraw 12 = .ok (.getfield 19, 3) := by decide +kernel
theorem dX8_actByDraw_15 : decode cX8_actByDraw 15 = .ok (.getfield 111, 3) := by decide +kernel
theorem dX8_actByDraw_18 : decode cX8_actByDraw 18 = .ok (.iconst 1, 1) := by decide +kernel
theorem dX8_actByDraw_19 : decode cX8_actByDraw 19 = .ok (.if_icmp .ge 4, 3) := by decide +kernel
theorem dX8_actByDraw_22 : decode cX8_actByDraw 22 = .ok (.return_, 1) := by decide +kernel
theorem dX8_actByDraw_23 : decode cX8_actByDraw 23 = .ok (.iload_n 2, 1) := by decide +kernel
theorem dX8_actByDraw_24 : decode cX8_actByDraw 24 = .ok (.bipush 8, 2) := by decide +kernel
theorem dX8_actByDraw_26 : decode cX8_actByDraw 26 = .ok (.idiv, 1) := by decide +kernel
theorem dX8_actByDraw_27 : decode cX8_actByDraw 27 = .ok (.aload_n 0, 1) := by decide +kernel
theorem dX8_actByDraw_28 : decode cX8_actByDraw 28 = .ok (.getfield 19, 3) := by decide +kernel
theorem dX8_actByDraw_31 : decode cX8_actByDraw 31 = .ok (.getfield 296, 3) := by decide +kernel
theorem dX8_actByDraw_34 : decode cX8_actByDraw 34 = .ok (.irem, 1) := by decide +kernel
theorem dX8_actByDraw_35 : decode cX8_actByDraw 35 = .ok (.istore_n 3, 1) := by decide +kernel
theorem dX8_actByDraw_36 : decode cX8_actByDraw 36 = .ok (.iload_n 2, 1) := by decide +kernel
theorem dX8_actByDraw_37 : decode cX8_actByDraw 37 = .ok (.bipush 64, 2) := by decide +kernel
theorem dX8_actByDraw_39 : decode cX8_actByDraw 39 = .ok (.idiv, 1) := by decide +kernel
theorem dX8_actByDraw_40 : decode cX8_actByDraw 40 = .ok (.aload_n 0, 1) := by decide +kernel
theorem dX8_actByDraw_41 : decode cX8_actByDraw 41 = .ok (.getfield 19, 3) := by decide +kernel
theorem dX8_actByDraw_44 : decode cX8_actByDraw 44 = .ok (.getfield 111, 3) := by decide +kernel
theorem dX8_actByDraw_47 : decode cX8_actByDraw 47 = .ok (.irem, 1) := by decide +kernel
theorem dX8_actByDraw_48 : decode cX8_actByDraw 48 = .ok (.istore 4, 2) := by decide +kernel
theorem dX8_actByDraw_50 : decode cX8_actByDraw 50 = .ok (.iload_n 2, 1) := by decide +kernel
theorem dX8_actByDraw_51 : decode cX8_actByDraw 51 = .ok (.bipush 8, 2) := by decide +kernel
theorem dX8_actByDraw_53 : decode cX8_actByDraw 53 = .ok (.irem, 1) := by decide +kernel
theorem dX8_actByDraw_54 : decode cX8_actByDraw 54 = .ok (.istore 5, 2) := by decide +kernel
theorem dX8_actByDraw_56 : decode cX8_actByDraw 56 = .ok (.iload 5, 2) := by decide +kernel
theorem dX8_actByDraw_58 : decode cX8_actByDraw 58 = .ok (.iconst 2, 1) := by decide +kernel
theorem dX8_actByDraw_59 : decode cX8_actByDraw 59 = .ok (.if_icmp .gt 11, 3) := by decide +kernel
theorem dX8_actByDraw_62 : decode cX8_actByDraw 62 = .ok (.aload_n 1, 1) := by decide +kernel
theorem dX8_actByDraw_63 : decode cX8_actByDraw 63 = .ok (.iload_n 3, 1) := by decide +kernel
theorem dX8_actByDraw_64 : decode cX8_actByDraw 64 = .ok (.invokevirtual 186, 3) := by decide +kernel
theorem dX8_actByDraw_67 : decode cX8_actByDraw 67 = .ok (.goto 32, 3) := by decide +kernel
theorem dX8_actByDraw_70 : decode cX8_actByDraw 70 = .ok (.iload 5, 2) := by decide +kernel
theorem dX8_actByDraw_72 : decode cX8_actByDraw 72 = .ok (.iconst 3, 1) := by decide +kernel
theorem dX8_actByDraw_73 : decode cX8_actByDraw 73 = .ok (.if_icmp .ne 13, 3) := by decide +kernel
theorem dX8_actByDraw_76 : decode cX8_actByDraw 76 = .ok (.aload_n 1, 1) := by decide +kernel
theorem dX8_actByDraw_77 : decode cX8_actByDraw 77 = .ok (.iload_n 3, 1) := by decide +kernel
theorem dX8_actByDraw_78 : decode cX8_actByDraw 78 = .ok (.iload 4, 2) := by decide +kernel
theorem dX8_actByDraw_80 : decode cX8_actByDraw 80 = .ok (.invokevirtual 193, 3) := by decide +kernel
theorem dX8_actByDraw_83 : decode cX8_actByDraw 83 = .ok (.goto 16, 3) := by decide +kernel
theorem dX8_actByDraw_86 : decode cX8_actByDraw 86 = .ok (.iload 5, 2) := by decide +kernel
theorem dX8_actByDraw_88 : decode cX8_actByDraw 88 = .ok (.iconst 4, 1) := by decide +kernel
theorem dX8_actByDraw_89 : decode cX8_actByDraw 89 = .ok (.if_icmp .ne 10, 3) := by decide +kernel
theorem dX8_actByDraw_92 : decode cX8_actByDraw 92 = .ok (.aload_n 1, 1) := by decide +kernel
theorem dX8_actByDraw_93 : decode cX8_actByDraw 93 = .ok (.iload_n 3, 1) := by decide +kernel
theorem dX8_actByDraw_94 : decode cX8_actByDraw 94 = .ok (.iload 4, 2) := by decide +kernel
theorem dX8_actByDraw_96 : decode cX8_actByDraw 96 = .ok (.invokevirtual 201, 3) := by decide +kernel
theorem dX8_actByDraw_99 : decode cX8_actByDraw 99 = .ok (.return_, 1) := by decide +kernel
def f_H_actByDraw (N nx : Nat) (D : Dt) (P : Ft) (a0 : Nat) (a1 : Nat) (i2 : Int32) : Option Dt :=
  if kd nx a0 = 8 then
  nn (P a0 1) fun q1 =>
  if kd nx q1 = 1 then
  if D q1 5 < 1 then
    some D
  else
    if 1 ≤ D q1 4 then
      if D q1 5 = 0 then none else
      if D q1 4 = 0 then none else
      if 2 < i2 - i2 / 8 * 8 then
        if i2 - i2 / 8 * 8 = 3 then
          if kd nx a1 = 7 then
          (f_C_feelFor N nx D P a1 ((i2 / 8) - (i2 / 8) / (D q1 5) * (D q1 5)) ((i2 / 64) - (i2 / 64) / (D q1 4) * (D q1 4))).bind fun z11 =>
          some z11
          else none
        else
          if i2 - i2 / 8 * 8 = 4 then
            if kd nx a1 = 7 then
            (f_C_giveTo N nx D P a1 ((i2 / 8) - (i2 / 8) / (D q1 5) * (D q1 5)) ((i2 / 64) - (i2 / 64) / (D q1 4) * (D q1 4))).bind fun z8 =>
            some z8
            else none
          else
            some D
      else
        if kd nx a1 = 7 then
        (f_C_stickIn N nx D P a1 ((i2 / 8) - (i2 / 8) / (D q1 5) * (D q1 5))).bind fun z14 =>
        some z14
        else none
    else
      some D
  else none
  else none
theorem m_H_actByDraw : MV yX8_actByDraw cX8_actByDraw 6 none 2 := ⟨mT 835 (by decide +kernel) rfl, mT 834 (by decide +kernel) rfl, mT 16 (by decide +kernel) rfl, mT 54 (by decide +kernel) rfl, by decide +kernel, by decide +kernel, by decide +kernel⟩
set_option maxHeartbeats 4000000 in
set_option maxRecDepth 100000 in
theorem c_H_actByDraw (l : Launch) (cx : Cx) (nx N : Nat) (D : Dt) (P : Ft) (a0 : Nat) (a1 : Nat) (i2 : Int32) (z : Dt) (h : f_H_actByDraw N nx D P a0 a1 i2 = some z) : Ct l cx yX8_actByDraw cX8_actByDraw 6 none 3 [.ref (cx.2.2 + a0), .ref (cx.2.2 + a1), .int i2] D P nx none z P := by
  refine x_met0 (by decide) (Nat.le_of_ble_eq_true rfl) ?_
  intro p e s m args below meth c X
  have X : XC p s m args meth c cx cX8_actByDraw 6 none "HeartPins" "actByDraw" := X
  refine XW.sub (lv' := [(0, .ref (cx.2.2 + a0)), (1, .ref (cx.2.2 + a1)), (2, .int i2)]) [0, 1, 2] rfl ?_
  unfold f_H_actByDraw at h
  obtain ⟨hk0, h⟩ := grd h
  refine x_aload_n (pc := 0) X dX8_actByDraw_0 (i := 0) rfl 0 rfl ?_
  obtain ⟨q1, e1, h⟩ := nns h
  refine x_getr (ci := 8) (k := 1) (n := 11) (C := RX8) (T := TX8) (pc := 1) X dX8_actByDraw_1 hk0 rfl (by decide) w_422 rfl e1 ?_
  obtain ⟨k2, h⟩ := grd h
  refine x_geti (ci := 1) (k := 5) (n := 9) (C := RX1) (T := TX1) (pc := 4) X dX8_actByDraw_4 k2 rfl (by decide) w_116 rfl ?_
  refine x_iconst (v := 1) (pc := 7) X dX8_actByDraw_7 (by decide) ?_
  refine x_icmp_lt (tgt := 22) (pc := 8) X dX8_actByDraw_8 (by decide) (fun c18 => ?_) (fun c18 => ?_)
  · have h := ite_t c18 h
    obtain rfl := Option.some.inj h
    exact x_vret (pc := 22) X dX8_actByDraw_22
  · have h := ite_f c18 h
    refine x_aload_n (pc := 11) X dX8_actByDraw_11 (i := 0) rfl 0 rfl ?_
    refine x_getr (ci := 8) (k := 1) (n := 11) (C := RX8) (T := TX8) (pc := 12) X dX8_actByDraw_12 hk0 rfl (by decide) w_422 rfl e1 ?_
    refine x_geti (ci := 1) (k := 4) (n := 9) (C := RX1) (T := TX1) (pc := 15) X dX8_actByDraw_15 k2 rfl (by decide) w_113 rfl ?_
    refine x_iconst (v := 1) (pc := 18) X dX8_actByDraw_18 (by decide) ?_
    refine x_icmp_ge (tgt := 23) (pc := 19) X dX8_actByDraw_19 (by decide) (fun c17 => ?_) (fun c17 => ?_)
    · have h := ite_t c17 h
      refine x_iload_n (pc := 23) X dX8_actByDraw_23 (i := 2) rfl 2 rfl ?_
      refine x_bipush (v := 8) (pc := 24) X dX8_actByDraw_24 (by decide) ?_
      refine x_idiv (pc := 26) X dX8_actByDraw_26 (by decide) ?_
      refine x_aload_n (pc := 27) X dX8_actByDraw_27 (i := 0) rfl 0 rfl ?_
      refine x_getr (ci := 8) (k := 1) (n := 11) (C := RX8) (T := TX8) (pc := 28) X dX8_actByDraw_28 hk0 rfl (by decide) w_422 rfl e1 ?_
      refine x_geti (ci := 1) (k := 5) (n := 9) (C := RX1) (T := TX1) (pc := 31) X dX8_actByDraw_31 k2 rfl (by decide) w_116 rfl ?_
      obtain ⟨k4, h⟩ := grdn h
      refine x_irem (pc := 34) X dX8_actByDraw_34 k4 ?_
      refine x_istore_n (lv' := [(3, .int ((i2 / 8) - (i2 / 8) / (D q1 5) * (D q1 5))), (0, .ref (cx.2.2 + a0)), (1, .ref (cx.2.2 + a1)), (2, .int i2)]) (pc := 35) X dX8_actByDraw_35 (i := 3) rfl (by decide) rfl ?_
      refine x_iload_n (pc := 36) X dX8_actByDraw_36 (i := 2) rfl 3 rfl ?_
      refine x_bipush (v := 64) (pc := 37) X dX8_actByDraw_37 (by decide) ?_
      refine x_idiv (pc := 39) X dX8_actByDraw_39 (by decide) ?_
      refine x_aload_n (pc := 40) X dX8_actByDraw_40 (i := 0) rfl 1 rfl ?_
      refine x_getr (ci := 8) (k := 1) (n := 11) (C := RX8) (T := TX8) (pc := 41) X dX8_actByDraw_41 hk0 rfl (by decide) w_422 rfl e1 ?_
      refine x_geti (ci := 1) (k := 4) (n := 9) (C := RX1) (T := TX1) (pc := 44) X dX8_actByDraw_44 k2 rfl (by decide) w_113 rfl ?_
      obtain ⟨k6, h⟩ := grdn h
      refine x_irem (pc := 47) X dX8_actByDraw_47 k6 ?_
      refine x_istore (lv' := [(4, .int ((i2 / 64) - (i2 / 64) / (D q1 4) * (D q1 4))), (3, .int ((i2 / 8) - (i2 / 8) / (D q1 5) * (D q1 5))), (0, .ref (cx.2.2 + a0)), (1, .ref (cx.2.2 + a1)), (2, .int i2)]) (pc := 48) X dX8_actByDraw_48 (by decide) rfl ?_
      refine x_iload_n (pc := 50) X dX8_actByDraw_50 (i := 2) rfl 4 rfl ?_
      refine x_bipush (v := 8) (pc := 51) X dX8_actByDraw_51 (by decide) ?_
      refine x_irem (pc := 53) X dX8_actByDraw_53 (by decide) ?_
      refine x_istore (lv' := [(5, .int (i2 - i2 / 8 * 8)), (4, .int ((i2 / 64) - (i2 / 64) / (D q1 4) * (D q1 4))), (3, .int ((i2 / 8) - (i2 / 8) / (D q1 5) * (D q1 5))), (0, .ref (cx.2.2 + a0)), (1, .ref (cx.2.2 + a1)), (2, .int i2)]) (pc := 54) X dX8_actByDraw_54 (by decide) rfl ?_
      refine x_iload (pc := 56) X dX8_actByDraw_56 0 rfl ?_
      refine x_iconst (v := 2) (pc := 58) X dX8_actByDraw_58 (by decide) ?_
      refine x_icmp_gt (tgt := 70) (pc := 59) X dX8_actByDraw_59 (by decide) (fun c16 => ?_) (fun c16 => ?_)
      · have h := ite_t c16 h
        refine x_iload (pc := 70) X dX8_actByDraw_70 0 rfl ?_
        refine x_iconst (v := 3) (pc := 72) X dX8_actByDraw_72 (by decide) ?_
        refine x_icmp_ne (tgt := 86) (pc := 73) X dX8_actByDraw_73 (by decide) (fun c13 => ?_) (fun c13 => ?_)
        · have h := ite_f c13 h
          refine x_iload (pc := 86) X dX8_actByDraw_86 0 rfl ?_
          refine x_iconst (v := 4) (pc := 88) X dX8_actByDraw_88 (by decide) ?_
          refine x_icmp_ne (tgt := 99) (pc := 89) X dX8_actByDraw_89 (by decide) (fun c10 => ?_) (fun c10 => ?_)
          · have h := ite_f c10 h
            obtain rfl := Option.some.inj h
            exact x_vret (pc := 99) X dX8_actByDraw_99
          · have h := ite_t c10 h
            refine x_aload_n (pc := 92) X dX8_actByDraw_92 (i := 1) rfl 4 rfl ?_
            refine x_iload_n (pc := 93) X dX8_actByDraw_93 (i := 3) rfl 2 rfl ?_
            refine x_iload (pc := 94) X dX8_actByDraw_94 1 rfl ?_
            obtain ⟨k9, h⟩ := grd h
            obtain ⟨z8, e8, h⟩ := bnds h
            refine x_callV (pc := 96) (As := [.int ((i2 / 8) - (i2 / 8) / (D q1 5) * (D q1 5)), .int ((i2 / 64) - (i2 / 64) / (D q1 4) * (D q1 4))]) (st := []) (st' := []) X (c_C_giveTo l cx nx N D P _ _ _ z8 e8) dX8_actByDraw_96 w_591 m_C_giveTo rfl k9 (ci := 7) rfl rfl ⟨by decide, by decide⟩ ⟨Nat.zero_le _, Nat.zero_le _⟩ rfl (Nat.le_of_ble_eq_true rfl) rfl ?_
            obtain rfl := Option.some.inj h
            exact x_vret (pc := 99) X dX8_actByDraw_99
        · have h := ite_t c13 h
          refine x_aload_n (pc := 76) X dX8_actByDraw_76 (i := 1) rfl 4 rfl ?_
          refine x_iload_n (pc := 77) X dX8_actByDraw_77 (i := 3) rfl 2 rfl ?_
          refine x_iload (pc := 78) X dX8_actByDraw_78 1 rfl ?_
          obtain ⟨k12, h⟩ := grd h
          obtain ⟨z11, e11, h⟩ := bnds h
          refine x_callV (pc := 80) (As := [.int ((i2 / 8) - (i2 / 8) / (D q1 5) * (D q1 5)), .int ((i2 / 64) - (i2 / 64) / (D q1 4) * (D q1 4))]) (st := []) (st' := []) X (c_C_feelFor l cx nx N D P _ _ _ z11 e11) dX8_actByDraw_80 w_577 m_C_feelFor rfl k12 (ci := 7) rfl rfl ⟨by decide, by decide⟩ ⟨Nat.zero_le _, Nat.zero_le _⟩ rfl (Nat.le_of_ble_eq_true rfl) rfl ?_
          refine x_goto (tgt := 99) (pc := 83) X dX8_actByDraw_83 (by decide) ?_
          obtain rfl := Option.some.inj h
          exact x_vret (pc := 99) X dX8_actByDraw_99
      · have h := ite_f c16 h
        refine x_aload_n (pc := 62) X dX8_actByDraw_62 (i := 1) rfl 4 rfl ?_
        refine x_iload_n (pc := 63) X dX8_actByDraw_63 (i := 3) rfl 2 rfl ?_
        obtain ⟨k15, h⟩ := grd h
        obtain ⟨z14, e14, h⟩ := bnds h
        refine x_callV (pc := 64) (As := [.int ((i2 / 8) - (i2 / 8) / (D q1 5) * (D q1 5))]) (st := []) (st' := []) X (c_C_stickIn l cx nx N D P _ _ z14 e14) dX8_actByDraw_64 w_564 m_C_stickIn rfl k15 (ci := 7) rfl rfl ⟨by decide, by decide⟩ ⟨Nat.zero_le _, Nat.zero_le _⟩ rfl (Nat.le_of_ble_eq_true rfl) rfl ?_
        refine x_goto (tgt := 99) (pc := 67) X dX8_actByDraw_67 (by decide) ?_
        obtain rfl := Option.some.inj h
        exact x_vret (pc := 99) X dX8_actByDraw_99
    · have h := ite_f c17 h
      obtain rfl := Option.some.inj h
      exact x_vret (pc := 22) X dX8_actByDraw_22
theorem dX8_month_0 : decode cX8_month 0 = .ok (.iload_n 1, 1) := by decide +kernel
theorem dX8_month_1 : decode cX8_month 1 = .ok (.iconst 0, 1) := by decide +kernel
theorem dX8_month_2 : decode cX8_month 2 = .ok (.sipush 9999, 3) := by decide +kernel
theorem dX8_month_5 : decode cX8_month 5 = .ok (.invokestatic 100, 3) := by decide +kernel
theorem dX8_month_8 : decode cX8_month 8 = .ok (.ifCond .eq 22, 3) := by decide +kernel
theorem dX8_month_11 : decode cX8_month 11 = .ok (.iload_n 2, 1) := by decide +kernel
theorem dX8_month_12 : decode cX8_month 12 = .ok (.iconst 1, 1) := by decide +kernel
theorem dX8_month_13 : decode cX8_month 13 = .ok (.bipush 60, 2) := by decide +kernel
theorem dX8_month_15 : decode cX8_month 15 = .ok (.invokestatic 100, 3) := by decide +kernel
theorem dX8_month_18 : decode cX8_month 18 = .ok (.ifCond .eq 12, 3) := by decide +kernel
theorem dX8_month_21 : decode cX8_month 21 = .ok (.iload_n 3, 1) := by decide +kernel
theorem dX8_month_22 : decode cX8_month 22 = .ok (.iconst 0, 1) := by decide +kernel
theorem dX8_month_23 : decode cX8_month 23 = .ok (.iconst 1, 1) := by decide +kernel
theorem dX8_month_24 : decode cX8_month 24 = .ok (.invokestatic 100, 3) := by decide +kernel
theorem dX8_month_27 : decode cX8_month 27 = .ok (.ifCond .ne 5, 3) := by decide +kernel
theorem dX8_month_30 : decode cX8_month 30 = .ok (.iconst (-1), 1) := by decide +kernel
theorem dX8_month_31 : decode cX8_month 31 = .ok (.ireturn, 1) := by decide +kernel
theorem dX8_month_32 : decode cX8_month 32 = .ok (.aload_n 0, 1) := by decide +kernel
theorem dX8_month_33 : decode cX8_month 33 = .ok (.getfield 35, 3) := by decide +kernel
theorem dX8_month_36 : decode cX8_month 36 = .ok (.aload_n 0, 1) := by decide +kernel
theorem dX8_month_37 : decode cX8_month 37 = .ok (.getfield 31, 3) := by decide +kernel
theorem dX8_month_40 : decode cX8_month 40 = .ok (.invokevirtual 220, 3) := by decide +kernel
theorem dX8_month_43 : decode cX8_month 43 = .ok (.iconst 0, 1) := by decide +kernel
theorem dX8_month_44 : decode cX8_month 44 = .ok (.istore 4, 2) := by decide +kernel
theorem dX8_month_46 : decode cX8_month 46 = .ok (.iload 4, 2) := by decide +kernel
theorem dX8_month_48 : decode cX8_month 48 = .ok (.iload_n 2, 1) := by decide +kernel
theorem dX8_month_49 : decode cX8_month 49 = .ok (.if_icmp .ge 30, 3) := by decide +kernel
theorem dX8_month_52 : decode cX8_month 52 = .ok (.aload_n 0, 1) := by decide +kernel
theorem dX8_month_53 : decode cX8_month 53 = .ok (.aload_n 0, 1) := by decide +kernel
theorem dX8_month_54 : decode cX8_month 54 = .ok (.getfield 35, 3) := by decide +kernel
theorem dX8_month_57 : decode cX8_month 57 = .ok (.iload_n 1, 1) := by decide +kernel
theorem dX8_month_58 : decode cX8_month 58 = .ok (.iload 4, 2) := by decide +kernel
theorem dX8_month_60 : decode cX8_month 60 = .ok (.invokestatic 286, 3) := by decide +kernel
theorem dX8_month_63 : decode cX8_month 63 = .ok (.invokevirtual 290, 3) := by decide +kernel
theorem dX8_month_66 : decode cX8_month 66 = .ok (.aload_n 0, 1) := by decide +kernel
theorem dX8_month_67 : decode cX8_month 67 = .ok (.getfield 35, 3) := by decide +kernel
theorem dX8_month_70 : decode cX8_month 70 = .ok (.invokevirtual 222, 3) := by decide +kernel
theorem dX8_month_73 : decode cX8_month 73 = .ok (.iinc 4 1, 3) := by decide +kernel
theorem dX8_month_76 : decode cX8_month 76 = .ok (.goto (-30), 3) := by decide +kernel
theorem dX8_month_79 : decode cX8_month 79 = .ok (.iload_n 3, 1) := by decide +kernel
theorem dX8_month_80 : decode cX8_month 80 = .ok (.ifCond .ne 13, 3) := by decide +kernel
theorem dX8_month_83 : decode cX8_month 83 = .ok (.aload_n 0, 1) := by decide +kernel
theorem dX8_month_84 : decode cX8_month 84 = .ok (.getfield 35, 3) := by decide +kernel
theorem dX8_month_87 : decode cX8_month 87 = .ok (.invokevirtual 293, 3) := by decide +kernel
theorem dX8_month_90 : decode cX8_month 90 = .ok (.goto 10, 3) := by decide +kernel
theorem dX8_month_93 : decode cX8_month 93 = .ok (.aload_n 0, 1) := by decide +kernel
theorem dX8_month_94 : decode cX8_month 94 = .ok (.getfield 35, 3) := by decide +kernel
theorem dX8_month_97 : decode cX8_month 97 = .ok (.getfield 166, 3) := by decide +kernel
theorem dX8_month_100 : decode cX8_month 100 = .ok (.ireturn, 1) := by decide +kernel
def f_H_month_46 (N nx : Nat) (P : Ft) (a0 : Nat) (i1 : Int32) (i2 : Int32) (i3 : Int32) (rec46 : Dt → Int32 → Option (Int32 × Dt)) (D : Dt) (i4 : Int32) : Option (Int32 × Dt) :=
  if i2 ≤ i4 then
    if i3 = 0 then
      nn (P a0 4) fun q10 =>
      if kd nx q10 = 7 then
      (f_C_borneSum N nx D P q10).bind fun z11 =>
      some (z11, D)
      else none
    else
      nn (P a0 4) fun q8 =>
      if kd nx q8 = 7 then
      some (D q8 3, D)
      else none
  else
    nn (P a0 4) fun q14 =>
    (f_H_drawOf N nx D P i1 i4).bind fun z15 =>
    (f_H_actByDraw N nx D P a0 q14 z15).bind fun z16 =>
    if kd nx q14 = 7 then
    (f_C_goDay N nx z16 P q14).bind fun z17 =>
    rec46 z17 (i4 + 1)
    else none
def f_H_month (N nx : Nat) (D : Dt) (P : Ft) (a0 : Nat) (i1 : Int32) (i2 : Int32) (i3 : Int32) : Option (Int32 × Dt) :=
  if kd nx a0 = 8 then
  (f_H_isWithin N nx D P i1 0 9999).bind fun z1 =>
  if z1 = 0 then
    some ((-1), D)
  else
    (f_H_isWithin N nx D P i2 1 60).bind fun z2 =>
    if z2 = 0 then
      some ((-1), D)
    else
      (f_H_isWithin N nx D P i3 0 1).bind fun z3 =>
      if z3 = 0 then
        some ((-1), D)
      else
        nn (P a0 4) fun q4 =>
        nn (P a0 3) fun q5 =>
        if kd nx q4 = 7 then
        (f_C_copyFrom N nx D P q4 q5).bind fun z6 =>
        wk2 N (f_H_month_46 N nx P a0 i1 i2 i3) z6 0
        else none
  else none
theorem m_H_month : MV yX8_month cX8_month 5 (some .int) 3 := ⟨mT 825 (by decide +kernel) rfl, mT 823 (by decide +kernel) rfl, mT 824 (by decide +kernel) rfl, mT 54 (by decide +kernel) rfl, by decide +kernel, by decide +kernel, by decide +kernel⟩
set_option maxHeartbeats 4000000 in
set_option maxRecDepth 100000 in
theorem c_H_month (l : Launch) (cx : Cx) (nx N : Nat) (D : Dt) (P : Ft) (a0 : Nat) (i1 : Int32) (i2 : Int32) (i3 : Int32) (z : Int32 × Dt) (h : f_H_month N nx D P a0 i1 i2 i3 = some z) : Ct l cx yX8_month cX8_month 5 (some .int) 4 [.ref (cx.2.2 + a0), .int i1, .int i2, .int i3] D P nx (some (.int z.1)) z.2 P := by
  refine x_met0 (by decide) (Nat.le_of_ble_eq_true rfl) ?_
  intro p e s m args below meth c X
  have X : XC p s m args meth c cx cX8_month 5 (some .int) "HeartPins" "month" := X
  refine XW.sub (lv' := [(0, .ref (cx.2.2 + a0)), (1, .int i1), (2, .int i2), (3, .int i3)]) [0, 1, 2, 3] rfl ?_
  unfold f_H_month at h
  obtain ⟨hk0, h⟩ := grd h
  have hL46 : ∀ (n : Nat) (D : Dt) (i4 : Int32), wk2 n (f_H_month_46 N nx P a0 i1 i2 i3) D i4 = some z → XW p l e (rmk 4) s m args below meth c (MQ below (Qx cx (some (.int z.1)) z.2 P nx) args s 0 0 (AA cx)) cx 5 D P nx 0 0 46 [(0, .ref (cx.2.2 + a0)), (1, .int i1), (2, .int i2), (3, .int i3), (4, .int i4)] [] := by
    intro n
    induction n with
    | zero => intro D i4 h; exact (nonz h).elim
    | succ n ih46 =>
      intro D i4 h
      have h : f_H_month_46 N nx P a0 i1 i2 i3 (wk2 n (f_H_month_46 N nx P a0 i1 i2 i3)) D i4 = some z := h
      generalize wk2 n (f_H_month_46 N nx P a0 i1 i2 i3) = rec46 at ih46 h
      unfold f_H_month_46 at h
      refine x_iload (pc := 46) X dX8_month_46 4 rfl ?_
      refine x_iload_n (pc := 48) X dX8_month_48 (i := 2) rfl 2 rfl ?_
      refine x_icmp_ge (tgt := 79) (pc := 49) X dX8_month_49 (by decide) (fun c19 => ?_) (fun c19 => ?_)
      · have h := ite_t c19 h
        refine x_iload_n (pc := 79) X dX8_month_79 (i := 3) rfl 3 rfl ?_
        refine x_if_ne (tgt := 93) (pc := 80) X dX8_month_80 (by decide) (fun c13 => ?_) (fun c13 => ?_)
        · have h := ite_f c13 h
          refine x_aload_n (pc := 93) X dX8_month_93 (i := 0) rfl 0 rfl ?_
          obtain ⟨q8, e8, h⟩ := nns h
          refine x_getr (ci := 8) (k := 4) (n := 11) (C := RX8) (T := TX8) (pc := 94) X dX8_month_94 hk0 rfl (by decide) w_425 rfl e8 ?_
          obtain ⟨k9, h⟩ := grd h
          refine x_geti (ci := 7) (k := 3) (n := 5) (C := RX7) (T := TX7) (pc := 97) X dX8_month_97 k9 rfl (by decide) w_156 rfl ?_
          obtain rfl := Option.some.inj h
          exact x_iret (pc := 100) X dX8_month_100
        · have h := ite_t c13 h
          refine x_aload_n (pc := 83) X dX8_month_83 (i := 0) rfl 0 rfl ?_
          obtain ⟨q10, e10, h⟩ := nns h
          refine x_getr (ci := 8) (k := 4) (n := 11) (C := RX8) (T := TX8) (pc := 84) X dX8_month_84 hk0 rfl (by decide) w_425 rfl e10 ?_
          obtain ⟨k12, h⟩ := grd h
          obtain ⟨z11, e11, h⟩ := bnds h
          refine x_callV (pc := 87) (As := []) (st := []) (st' := [.int z11]) X (c_C_borneSum l cx nx N D P _ z11 e11) dX8_month_87 w_836 m_C_borneSum rfl k12 (ci := 7) rfl rfl ⟨by decide, by decide⟩ ⟨Nat.zero_le _, Nat.zero_le _⟩ rfl (Nat.le_of_ble_eq_true rfl) rfl ?_
          refine x_goto (tgt := 100) (pc := 90) X dX8_month_90 (by decide) ?_
          obtain rfl := Option.some.inj h
          exact x_iret (pc := 100) X dX8_month_100
      · have h := ite_f c19 h
        refine x_aload_n (pc := 52) X dX8_month_52 (i := 0) rfl 0 rfl ?_
        refine x_aload_n (pc := 53) X dX8_month_53 (i := 0) rfl 0 rfl ?_
        obtain ⟨q14, e14, h⟩ := nns h
        refine x_getr (ci := 8) (k := 4) (n := 11) (C := RX8) (T := TX8) (pc := 54) X dX8_month_54 hk0 rfl (by decide) w_425 rfl e14 ?_
        refine x_iload_n (pc := 57) X dX8_month_57 (i := 1) rfl 1 rfl ?_
        refine x_iload (pc := 58) X dX8_month_58 4 rfl ?_
        obtain ⟨z15, e15, h⟩ := bnds h
        refine x_callS (pc := 60) (As := [.int i1, .int i4]) (st := [.ref (cx.2.2 + q14), .ref (cx.2.2 + a0)]) (st' := [.int z15, .ref (cx.2.2 + q14), .ref (cx.2.2 + a0)]) X (c_H_drawOf l cx nx N D P _ _ z15 e15) dX8_month_60 w_826 m_H_drawOf rfl ⟨by decide, by decide⟩ ⟨Nat.zero_le _, Nat.zero_le _⟩ rfl (Nat.le_of_ble_eq_true rfl) rfl ?_
        obtain ⟨z16, e16, h⟩ := bnds h
        refine x_callV (pc := 63) (As := [.ref (cx.2.2 + q14), .int z15]) (st := []) (st' := []) X (c_H_actByDraw l cx nx N D P _ _ _ z16 e16) dX8_month_63 w_832 m_H_actByDraw rfl hk0 (ci := 8) rfl rfl ⟨by decide, by decide⟩ ⟨Nat.zero_le _, Nat.zero_le _⟩ rfl (Nat.le_of_ble_eq_true rfl) rfl ?_
        refine x_aload_n (pc := 66) X dX8_month_66 (i := 0) rfl 0 rfl ?_
        refine x_getr (ci := 8) (k := 4) (n := 11) (C := RX8) (T := TX8) (pc := 67) X dX8_month_67 hk0 rfl (by decide) w_425 rfl e14 ?_
        obtain ⟨k18, h⟩ := grd h
        obtain ⟨z17, e17, h⟩ := bnds h
        refine x_callV (pc := 70) (As := []) (st := []) (st' := []) X (c_C_goDay l cx nx N z16 P _ z17 e17) dX8_month_70 w_651 m_C_goDay rfl k18 (ci := 7) rfl rfl ⟨by decide, by decide⟩ ⟨Nat.zero_le _, Nat.zero_le _⟩ rfl (Nat.le_of_ble_eq_true rfl) rfl ?_
        refine x_iinc (v := i4 + 1) (lv' := [(4, .int (i4 + 1)), (0, .ref (cx.2.2 + a0)), (1, .int i1), (2, .int i2), (3, .int i3)]) (pc := 73) X dX8_month_73 4 rfl rfl (by decide) rfl ?_
        refine x_goto (tgt := 46) (pc := 76) X dX8_month_76 (by decide) ?_
        exact XW.sub [1, 2, 3, 4, 0] rfl (ih46 _ _ h)
  refine x_iload_n (pc := 0) X dX8_month_0 (i := 1) rfl 1 rfl ?_
  refine x_iconst (v := 0) (pc := 1) X dX8_month_1 (by decide) ?_
  refine x_sipush (v := 9999) (pc := 2) X dX8_month_2 (by decide) ?_
  obtain ⟨z1, e1, h⟩ := bnds h
  refine x_callS (pc := 5) (As := [.int i1, .int 0, .int 9999]) (st := []) (st' := [.int z1]) X (c_H_isWithin l cx nx N D P _ _ _ z1 e1) dX8_month_5 w_460 m_H_isWithin rfl ⟨by decide, by decide⟩ ⟨Nat.zero_le _, Nat.zero_le _⟩ rfl (Nat.le_of_ble_eq_true rfl) rfl ?_
  refine x_if_eq (tgt := 30) (pc := 8) X dX8_month_8 (by decide) (fun c22 => ?_) (fun c22 => ?_)
  · have h := ite_t c22 h
    refine x_iconst (v := (-1)) (pc := 30) X dX8_month_30 (by decide) ?_
    obtain rfl := Option.some.inj h
    exact x_iret (pc := 31) X dX8_month_31
  · have h := ite_f c22 h
    refine x_iload_n (pc := 11) X dX8_month_11 (i := 2) rfl 2 rfl ?_
    refine x_iconst (v := 1) (pc := 12) X dX8_month_12 (by decide) ?_
    refine x_bipush (v := 60) (pc := 13) X dX8_month_13 (by decide) ?_
    obtain ⟨z2, e2, h⟩ := bnds h
    refine x_callS (pc := 15) (As := [.int i2, .int 1, .int 60]) (st := []) (st' := [.int z2]) X (c_H_isWithin l cx nx N D P _ _ _ z2 e2) dX8_month_15 w_460 m_H_isWithin rfl ⟨by decide, by decide⟩ ⟨Nat.zero_le _, Nat.zero_le _⟩ rfl (Nat.le_of_ble_eq_true rfl) rfl ?_
    refine x_if_eq (tgt := 30) (pc := 18) X dX8_month_18 (by decide) (fun c21 => ?_) (fun c21 => ?_)
    · have h := ite_t c21 h
      refine x_iconst (v := (-1)) (pc := 30) X dX8_month_30 (by decide) ?_
      obtain rfl := Option.some.inj h
      exact x_iret (pc := 31) X dX8_month_31
    · have h := ite_f c21 h
      refine x_iload_n (pc := 21) X dX8_month_21 (i := 3) rfl 3 rfl ?_
      refine x_iconst (v := 0) (pc := 22) X dX8_month_22 (by decide) ?_
      refine x_iconst (v := 1) (pc := 23) X dX8_month_23 (by decide) ?_
      obtain ⟨z3, e3, h⟩ := bnds h
      refine x_callS (pc := 24) (As := [.int i3, .int 0, .int 1]) (st := []) (st' := [.int z3]) X (c_H_isWithin l cx nx N D P _ _ _ z3 e3) dX8_month_24 w_460 m_H_isWithin rfl ⟨by decide, by decide⟩ ⟨Nat.zero_le _, Nat.zero_le _⟩ rfl (Nat.le_of_ble_eq_true rfl) rfl ?_
      refine x_if_ne (tgt := 32) (pc := 27) X dX8_month_27 (by decide) (fun c20 => ?_) (fun c20 => ?_)
      · have h := ite_f c20 h
        refine x_aload_n (pc := 32) X dX8_month_32 (i := 0) rfl 0 rfl ?_
        obtain ⟨q4, e4, h⟩ := nns h
        refine x_getr (ci := 8) (k := 4) (n := 11) (C := RX8) (T := TX8) (pc := 33) X dX8_month_33 hk0 rfl (by decide) w_425 rfl e4 ?_
        refine x_aload_n (pc := 36) X dX8_month_36 (i := 0) rfl 0 rfl ?_
        obtain ⟨q5, e5, h⟩ := nns h
        refine x_getr (ci := 8) (k := 3) (n := 11) (C := RX8) (T := TX8) (pc := 37) X dX8_month_37 hk0 rfl (by decide) w_424 rfl e5 ?_
        obtain ⟨k7, h⟩ := grd h
        obtain ⟨z6, e6, h⟩ := bnds h
        refine x_callV (pc := 40) (As := [.ref (cx.2.2 + q5)]) (st := []) (st' := []) X (c_C_copyFrom l cx nx N D P _ _ z6 e6) dX8_month_40 w_642 m_C_copyFrom rfl k7 (ci := 7) rfl rfl ⟨by decide, by decide⟩ ⟨Nat.zero_le _, Nat.zero_le _⟩ rfl (Nat.le_of_ble_eq_true rfl) rfl ?_
        refine x_iconst (v := 0) (pc := 43) X dX8_month_43 (by decide) ?_
        refine x_istore (lv' := [(4, .int 0), (0, .ref (cx.2.2 + a0)), (1, .int i1), (2, .int i2), (3, .int i3)]) (pc := 44) X dX8_month_44 (by decide) rfl ?_
        exact XW.sub [1, 2, 3, 4, 0] rfl (hL46 _ _ _ h)
      · have h := ite_t c20 h
        refine x_iconst (v := (-1)) (pc := 30) X dX8_month_30 (by decide) ?_
        obtain rfl := Option.some.inj h
        exact x_iret (pc := 31) X dX8_month_31
theorem dX8_keep_0 : decode cX8_keep 0 = .ok (.aload_n 0, 1) := by decide +kernel
theorem dX8_keep_1 : decode cX8_keep 1 = .ok (.getfield 47, 3) := by decide +kernel
theorem dX8_keep_4 : decode cX8_keep 4 = .ok (.getfield 214, 3) := by decide +kernel
theorem dX8_keep_7 : decode cX8_keep 7 = .ok (.iconst 2, 1) := by decide +kernel
theorem dX8_keep_8 : decode cX8_keep 8 = .ok (.if_icmp .lt 6, 3) := by decide +kernel
theorem dX8_keep_11 : decode cX8_keep 11 = .ok (.bipush (-3), 2) := by decide +kernel
theorem dX8_keep_13 : decode cX8_keep 13 = .ok (.ireturn, 1) := by decide +kernel
theorem dX8_keep_14 : decode cX8_keep 14 = .ok (.aload_n 0, 1) := by decide +kernel
theorem dX8_keep_15 : decode cX8_keep 15 = .ok (.getfield 47, 3) := by decide +kernel
theorem dX8_keep_18 : decode cX8_keep 18 = .ok (.aload_n 0, 1) := by decide +kernel
theorem dX8_keep_19 : decode cX8_keep 19 = .ok (.getfield 31, 3) := by decide +kernel
theorem dX8_keep_22 : decode cX8_keep 22 = .ok (.invokevirtual 182, 3) := by decide +kernel
theorem dX8_keep_25 : decode cX8_keep 25 = .ok (.aload_n 0, 1) := by decide +kernel
theorem dX8_keep_26 : decode cX8_keep 26 = .ok (.getfield 47, 3) := by decide +kernel
theorem dX8_keep_29 : decode cX8_keep 29 = .ok (.getfield 214, 3) := by decide +kernel
theorem dX8_keep_32 : decode cX8_keep 32 = .ok (.ireturn, 1) := by decide +kernel
def f_H_keep (N nx : Nat) (D : Dt) (P : Ft) (a0 : Nat) : Option (Int32 × Dt × Ft) :=
  if kd nx a0 = 8 then
  nn (P a0 6) fun q1 =>
  if kd nx q1 = 6 then
  if D q1 1 < 2 then
    nn (P a0 3) fun q3 =>
    (f_S_put N nx D P q1 q3).bind fun z4 =>
    nn (z4.2 a0 6) fun q5 =>
    if kd nx q5 = 6 then
    some (z4.1 q5 1, z4.1, z4.2)
    else none
  else
    some ((-3), D, P)
  else none
  else none
theorem m_H_keep : MV yX8_keep cX8_keep 1 (some .int) 0 := ⟨mT 843 (by decide +kernel) rfl, mT 841 (by decide +kernel) rfl, mT 842 (by decide +kernel) rfl, mT 54 (by decide +kernel) rfl, by decide +kernel, by decide +kernel, by decide +kernel⟩
set_option maxHeartbeats 4000000 in
set_option maxRecDepth 100000 in
theorem c_H_keep (l : Launch) (cx : Cx) (nx N : Nat) (D : Dt) (P : Ft) (a0 : Nat) (z : Int32 × Dt × Ft) (h : f_H_keep N nx D P a0 = some z) : Ct l cx yX8_keep cX8_keep 1 (some .int) 3 [.ref (cx.2.2 + a0)] D P nx (some (.int z.1)) z.2.1 z.2.2 := by
  refine x_met0 (by decide) (Nat.le_of_ble_eq_true rfl) ?_
  intro p e s m args below meth c X
  have X : XC p s m args meth c cx cX8_keep 1 (some .int) "HeartPins" "keep" := X
  refine XW.sub (lv' := [(0, .ref (cx.2.2 + a0))]) [0] rfl ?_
  unfold f_H_keep at h
  obtain ⟨hk0, h⟩ := grd h
  refine x_aload_n (pc := 0) X dX8_keep_0 (i := 0) rfl 0 rfl ?_
  obtain ⟨q1, e1, h⟩ := nns h
  refine x_getr (ci := 8) (k := 6) (n := 11) (C := RX8) (T := TX8) (pc := 1) X dX8_keep_1 hk0 rfl (by decide) w_427 rfl e1 ?_
  obtain ⟨k2, h⟩ := grd h
  refine x_geti (ci := 6) (k := 1) (n := 2) (C := RX6) (T := TX6) (pc := 4) X dX8_keep_4 k2 rfl (by decide) w_185 rfl ?_
  refine x_iconst (v := 2) (pc := 7) X dX8_keep_7 (by decide) ?_
  refine x_icmp_lt (tgt := 14) (pc := 8) X dX8_keep_8 (by decide) (fun c7 => ?_) (fun c7 => ?_)
  · have h := ite_t c7 h
    refine x_aload_n (pc := 14) X dX8_keep_14 (i := 0) rfl 0 rfl ?_
    refine x_getr (ci := 8) (k := 6) (n := 11) (C := RX8) (T := TX8) (pc := 15) X dX8_keep_15 hk0 rfl (by decide) w_427 rfl e1 ?_
    refine x_aload_n (pc := 18) X dX8_keep_18 (i := 0) rfl 0 rfl ?_
    obtain ⟨q3, e3, h⟩ := nns h
    refine x_getr (ci := 8) (k := 3) (n := 11) (C := RX8) (T := TX8) (pc := 19) X dX8_keep_19 hk0 rfl (by decide) w_424 rfl e3 ?_
    obtain ⟨z4, e4, h⟩ := bnds h
    refine x_callV (pc := 22) (As := [.ref (cx.2.2 + q3)]) (st := []) (st' := []) X (c_S_put l cx nx N D P _ _ z4 e4) dX8_keep_22 w_548 m_S_put rfl k2 (ci := 6) rfl rfl ⟨by decide, by decide⟩ ⟨Nat.zero_le _, Nat.zero_le _⟩ rfl (Nat.le_of_ble_eq_true rfl) rfl ?_
    refine x_aload_n (pc := 25) X dX8_keep_25 (i := 0) rfl 0 rfl ?_
    obtain ⟨q5, e5, h⟩ := nns h
    refine x_getr (ci := 8) (k := 6) (n := 11) (C := RX8) (T := TX8) (pc := 26) X dX8_keep_26 hk0 rfl (by decide) w_427 rfl e5 ?_
    obtain ⟨k6, h⟩ := grd h
    refine x_geti (ci := 6) (k := 1) (n := 2) (C := RX6) (T := TX6) (pc := 29) X dX8_keep_29 k6 rfl (by decide) w_185 rfl ?_
    obtain rfl := Option.some.inj h
    exact x_iret (pc := 32) X dX8_keep_32
  · have h := ite_f c7 h
    refine x_bipush (v := (-3)) (pc := 11) X dX8_keep_11 (by decide) ?_
    obtain rfl := Option.some.inj h
    exact x_iret (pc := 13) X dX8_keep_13
theorem dX8_back_0 : decode cX8_back 0 = .ok (.aload_n 0, 1) := by decide +kernel
theorem dX8_back_1 : decode cX8_back 1 = .ok (.getfield 47, 3) := by decide +kernel
theorem dX8_back_4 : decode cX8_back 4 = .ok (.aload_n 0, 1) := by decide +kernel
theorem dX8_back_5 : decode cX8_back 5 = .ok (.getfield 31, 3) := by decide +kernel
theorem dX8_back_8 : decode cX8_back 8 = .ok (.invokevirtual 210, 3) := by decide +kernel
theorem dX8_back_11 : decode cX8_back 11 = .ok (.ifCond .ne 6, 3) := by decide +kernel
theorem dX8_back_14 : decode cX8_back 14 = .ok (.bipush (-2), 2) := by decide +kernel
theorem dX8_back_16 : decode cX8_back 16 = .ok (.ireturn, 1) := by decide +kernel
theorem dX8_back_17 : decode cX8_back 17 = .ok (.aload_n 0, 1) := by decide +kernel
theorem dX8_back_18 : decode cX8_back 18 = .ok (.getfield 43, 3) := by decide +kernel
theorem dX8_back_21 : decode cX8_back 21 = .ok (.invokevirtual 120, 3) := by decide +kernel
theorem dX8_back_24 : decode cX8_back 24 = .ok (.aload_n 0, 1) := by decide +kernel
theorem dX8_back_25 : decode cX8_back 25 = .ok (.getfield 47, 3) := by decide +kernel
theorem dX8_back_28 : decode cX8_back 28 = .ok (.getfield 214, 3) := by decide +kernel
theorem dX8_back_31 : decode cX8_back 31 = .ok (.ireturn, 1) := by decide +kernel
def f_H_back (N nx : Nat) (D : Dt) (P : Ft) (a0 : Nat) : Option (Int32 × Dt) :=
  if kd nx a0 = 8 then
  nn (P a0 6) fun q1 =>
  nn (P a0 3) fun q2 =>
  if kd nx q1 = 6 then
  (f_S_take N nx D P q1 q2).bind fun z3 =>
  if z3.1 = 0 then
    some ((-2), z3.2)
  else
    nn (P a0 5) fun q5 =>
    if kd nx q5 = 6 then
    (f_S_clear N nx z3.2 P q5).bind fun z6 =>
    some (z6 q1 1, z6)
    else none
  else none
  else none
theorem m_H_back : MV yX8_back cX8_back 1 (some .int) 0 := ⟨mT 847 (by decide +kernel) rfl, mT 845 (by decide +kernel) rfl, mT 846 (by decide +kernel) rfl, mT 54 (by decide +kernel) rfl, by decide +kernel, by decide +kernel, by decide +kernel⟩
set_option maxHeartbeats 4000000 in
set_option maxRecDepth 100000 in
theorem c_H_back (l : Launch) (cx : Cx) (nx N : Nat) (D : Dt) (P : Ft) (a0 : Nat) (z : Int32 × Dt) (h : f_H_back N nx D P a0 = some z) : Ct l cx yX8_back cX8_back 1 (some .int) 2 [.ref (cx.2.2 + a0)] D P nx (some (.int z.1)) z.2 P := by
  refine x_met0 (by decide) (Nat.le_of_ble_eq_true rfl) ?_
  intro p e s m args below meth c X
  have X : XC p s m args meth c cx cX8_back 1 (some .int) "HeartPins" "back" := X
  refine XW.sub (lv' := [(0, .ref (cx.2.2 + a0))]) [0] rfl ?_
  unfold f_H_back at h
  obtain ⟨hk0, h⟩ := grd h
  refine x_aload_n (pc := 0) X dX8_back_0 (i := 0) rfl 0 rfl ?_
  obtain ⟨q1, e1, h⟩ := nns h
  refine x_getr (ci := 8) (k := 6) (n := 11) (C := RX8) (T := TX8) (pc := 1) X dX8_back_1 hk0 rfl (by decide) w_427 rfl e1 ?_
  refine x_aload_n (pc := 4) X dX8_back_4 (i := 0) rfl 0 rfl ?_
  obtain ⟨q2, e2, h⟩ := nns h
  refine x_getr (ci := 8) (k := 3) (n := 11) (C := RX8) (T := TX8) (pc := 5) X dX8_back_5 hk0 rfl (by decide) w_424 rfl e2 ?_
  obtain ⟨k4, h⟩ := grd h
  obtain ⟨z3, e3, h⟩ := bnds h
  refine x_callV (pc := 8) (As := [.ref (cx.2.2 + q2)]) (st := []) (st' := [.int z3.1]) X (c_S_take l cx nx N D P _ _ z3 e3) dX8_back_8 w_630 m_S_take rfl k4 (ci := 6) rfl rfl ⟨by decide, by decide⟩ ⟨Nat.zero_le _, Nat.zero_le _⟩ rfl (Nat.le_of_ble_eq_true rfl) rfl ?_
  refine x_if_ne (tgt := 17) (pc := 11) X dX8_back_11 (by decide) (fun c8 => ?_) (fun c8 => ?_)
  · have h := ite_f c8 h
    refine x_aload_n (pc := 17) X dX8_back_17 (i := 0) rfl 0 rfl ?_
    obtain ⟨q5, e5, h⟩ := nns h
    refine x_getr (ci := 8) (k := 5) (n := 11) (C := RX8) (T := TX8) (pc := 18) X dX8_back_18 hk0 rfl (by decide) w_426 rfl e5 ?_
    obtain ⟨k7, h⟩ := grd h
    obtain ⟨z6, e6, h⟩ := bnds h
    refine x_callV (pc := 21) (As := []) (st := []) (st' := []) X (c_S_clear l cx nx N z3.2 P _ z6 e6) dX8_back_21 w_409 m_S_clear rfl k7 (ci := 6) rfl rfl ⟨by decide, by decide⟩ ⟨Nat.zero_le _, Nat.zero_le _⟩ rfl (Nat.le_of_ble_eq_true rfl) rfl ?_
    refine x_aload_n (pc := 24) X dX8_back_24 (i := 0) rfl 0 rfl ?_
    refine x_getr (ci := 8) (k := 6) (n := 11) (C := RX8) (T := TX8) (pc := 25) X dX8_back_25 hk0 rfl (by decide) w_427 rfl e1 ?_
    refine x_geti (ci := 6) (k := 1) (n := 2) (C := RX6) (T := TX6) (pc := 28) X dX8_back_28 k4 rfl (by decide) w_185 rfl ?_
    obtain rfl := Option.some.inj h
    exact x_iret (pc := 31) X dX8_back_31
  · have h := ite_t c8 h
    refine x_bipush (v := (-2)) (pc := 14) X dX8_back_14 (by decide) ?_
    obtain rfl := Option.some.inj h
    exact x_iret (pc := 16) X dX8_back_16
theorem dX8_count_0 : decode cX8_count 0 = .ok (.iload_n 1, 1) := by decide +kernel
theorem dX8_count_1 : decode cX8_count 1 = .ok (.tableswitch 176 0 12 #[67, 75, 83, 91, 99, 108, 118, 128, 136, 144, 152, 160, 168], 67) := by decide +kernel
theorem dX8_count_68 : decode cX8_count 68 = .ok (.aload_n 0, 1) := by decide +kernel
theorem dX8_count_69 : decode cX8_count 69 = .ok (.getfield 19, 3) := by decide +kernel
theorem dX8_count_72 : decode cX8_count 72 = .ok (.getfield 111, 3) := by decide +kernel
theorem dX8_count_75 : decode cX8_count 75 = .ok (.ireturn, 1) := by decide +kernel
theorem dX8_count_76 : decode cX8_count 76 = .ok (.aload_n 0, 1) := by decide +kernel
theorem dX8_count_77 : decode cX8_count 77 = .ok (.getfield 19, 3) := by decide +kernel
theorem dX8_count_80 : decode cX8_count 80 = .ok (.getfield 296, 3) := by decide +kernel
theorem dX8_count_83 : decode cX8_count 83 = .ok (.ireturn, 1) := by decide +kernel
theorem dX8_count_84 : decode cX8_count 84 = .ok (.aload_n 0, 1) := by decide +kernel
theorem dX8_count_85 : decode cX8_count 85 = .ok (.getfield 31, 3) := by decide +kernel
theorem dX8_count_88 : decode cX8_count 88 = .ok (.getfield 207, 3) := by decide +kernel
theorem dX8_count_91 : decode cX8_count 91 = .ok (.ireturn, 1) := by decide +kernel
theorem dX8_count_92 : decode cX8_count 92 = .ok (.aload_n 0, 1) := by decide +kernel
theorem dX8_count_93 : decode cX8_count 93 = .ok (.getfield 31, 3) := by decide +kernel
theorem dX8_count_96 : decode cX8_count 96 = .ok (.invokevirtual 299, 3) := by decide +kernel
theorem dX8_count_99 : decode cX8_count 99 = .ok (.ireturn, 1) := by decide +kernel
theorem dX8_count_100 : decode cX8_count 100 = .ok (.aload_n 0, 1) := by decide +kernel
theorem dX8_count_101 : decode cX8_count 101 = .ok (.getfield 31, 3) := by decide +kernel
theorem dX8_count_104 : decode cX8_count 104 = .ok (.iconst (-1), 1) := by decide +kernel
theorem dX8_count_105 : decode cX8_count 105 = .ok (.invokevirtual 302, 3) := by decide +kernel
theorem dX8_count_108 : decode cX8_count 108 = .ok (.ireturn, 1) := by decide +kernel
theorem dX8_count_109 : decode cX8_count 109 = .ok (.aload_n 0, 1) := by decide +kernel
theorem dX8_count_110 : decode cX8_count 110 = .ok (.getfield 31, 3) := by decide +kernel
theorem dX8_count_113 : decode cX8_count 113 = .ok (.bipush (-2), 2) := by decide +kernel
theorem dX8_count_115 : decode cX8_count 115 = .ok (.invokevirtual 302, 3) := by decide +kernel
theorem dX8_count_118 : decode cX8_count 118 = .ok (.ireturn, 1) := by decide +kernel
theorem dX8_count_119 : decode cX8_count 119 = .ok (.aload_n 0, 1) := by decide +kernel
theorem dX8_count_120 : decode cX8_count 120 = .ok (.getfield 31, 3) := by decide +kernel
theorem dX8_count_123 : decode cX8_count 123 = .ok (.bipush (-3), 2) := by decide +kernel
theorem dX8_count_125 : decode cX8_count 125 = .ok (.invokevirtual 302, 3) := by decide +kernel
theorem dX8_count_128 : decode cX8_count 128 = .ok (.ireturn, 1) := by decide +kernel
theorem dX8_count_129 : decode cX8_count 129 = .ok (.aload_n 0, 1) := by decide +kernel
theorem dX8_count_130 : decode cX8_count 130 = .ok (.getfield 31, 3) := by decide +kernel
theorem dX8_count_133 : decode cX8_count 133 = .ok (.invokevirtual 305, 3) := by decide +kernel
theorem dX8_count_136 : decode cX8_count 136 = .ok (.ireturn, 1) := by decide +kernel
theorem dX8_count_137 : decode cX8_count 137 = .ok (.aload_n 0, 1) := by decide +kernel
theorem dX8_count_138 : decode cX8_count 138 = .ok (.getfield 53, 3) := by decide +kernel
theorem dX8_count_141 : decode cX8_count 141 = .ok (.getfield 252, 3) := by decide +kernel
theorem dX8_count_144 : decode cX8_count 144 = .ok (.ireturn, 1) := by decide +kernel
theorem dX8_count_145 : decode cX8_count 145 = .ok (.aload_n 0, 1) := by decide +kernel
theorem dX8_count_146 : decode cX8_count 146 = .ok (.getfield 53, 3) := by decide +kernel
theorem dX8_count_149 : decode cX8_count 149 = .ok (.getfield 258, 3) := by decide +kernel
theorem dX8_count_152 : decode cX8_count 152 = .ok (.ireturn, 1) := by decide +kernel
theorem dX8_count_153 : decode cX8_count 153 = .ok (.aload_n 0, 1) := by decide +kernel
theorem dX8_count_154 : decode cX8_count 154 = .ok (.getfield 43, 3) := by decide +kernel
theorem dX8_count_157 : decode cX8_count 157 = .ok (.getfield 214, 3) := by decide +kernel
theorem dX8_count_160 : decode cX8_count 160 = .ok (.ireturn, 1) := by decide +kernel
theorem dX8_count_161 : decode cX8_count 161 = .ok (.aload_n 0, 1) := by decide +kernel
theorem dX8_count_162 : decode cX8_count 162 = .ok (.getfield 47, 3) := by decide +kernel
theorem dX8_count_165 : decode cX8_count 165 = .ok (.getfield 214, 3) := by decide +kernel
theorem dX8_count_168 : decode cX8_count 168 = .ok (.ireturn, 1) := by decide +kernel
theorem dX8_count_169 : decode cX8_count 169 = .ok (.aload_n 0, 1) := by decide +kernel
theorem dX8_count_170 : decode cX8_count 170 = .ok (.getfield 12, 3) := by decide +kernel
theorem dX8_count_173 : decode cX8_count 173 = .ok (.getfield 104, 3) := by decide +kernel
theorem dX8_count_176 : decode cX8_count 176 = .ok (.ireturn, 1) := by decide +kernel
theorem dX8_count_177 : decode cX8_count 177 = .ok (.iconst (-1), 1) := by decide +kernel
theorem dX8_count_178 : decode cX8_count 178 = .ok (.ireturn, 1) := by decide +kernel
def f_H_count (N nx : Nat) (D : Dt) (P : Ft) (a0 : Nat) (i1 : Int32) : Option Int32 :=
  if kd nx a0 = 8 then
  if i1 = 0 then
    nn (P a0 1) fun q1 =>
    if kd nx q1 = 1 then
    some (D q1 4)
    else none
  else
    if i1 = 1 then
      nn (P a0 1) fun q3 =>
      if kd nx q3 = 1 then
      some (D q3 5)
      else none
    else
      if i1 = 2 then
        nn (P a0 3) fun q5 =>
        if kd nx q5 = 7 then
        some (D q5 4)
        else none
      else
        if i1 = 3 then
          nn (P a0 3) fun q7 =>
          if kd nx q7 = 7 then
          (f_C_howManyBorne N nx D P q7).bind fun z8 =>
          some z8
          else none
        else
          if i1 = 4 then
            nn (P a0 3) fun q10 =>
            if kd nx q10 = 7 then
            (f_C_howManyAt N nx D P q10 (-1)).bind fun z11 =>
            some z11
            else none
          else
            if i1 = 5 then
              nn (P a0 3) fun q13 =>
              if kd nx q13 = 7 then
              (f_C_howManyAt N nx D P q13 (-2)).bind fun z14 =>
              some z14
              else none
            else
              if i1 = 6 then
                nn (P a0 3) fun q16 =>
                if kd nx q16 = 7 then
                (f_C_howManyAt N nx D P q16 (-3)).bind fun z17 =>
                some z17
                else none
              else
                if i1 = 7 then
                  nn (P a0 3) fun q19 =>
                  if kd nx q19 = 7 then
                  (f_C_howManyBreak N nx D P q19).bind fun z20 =>
                  some z20
                  else none
                else
                  if i1 = 8 then
                    nn (P a0 7) fun q22 =>
                    if kd nx q22 = 4 then
                    some (D q22 4)
                    else none
                  else
                    if i1 = 9 then
                      nn (P a0 7) fun q24 =>
                      if kd nx q24 = 4 then
                      some (D q24 5)
                      else none
                    else
                      if i1 = 10 then
                        nn (P a0 5) fun q26 =>
                        if kd nx q26 = 6 then
                        some (D q26 1)
                        else none
                      else
                        if i1 = 11 then
                          nn (P a0 6) fun q28 =>
                          if kd nx q28 = 6 then
                          some (D q28 1)
                          else none
                        else
                          if i1 = 12 then
                            nn (P a0 0) fun q30 =>
                            if kd nx q30 = 2 then
                            some (D q30 2)
                            else none
                          else
                            some (-1)
  else none
theorem m_H_count : MV yX8_count cX8_count 2 (some .int) 1 := ⟨mT 851 (by decide +kernel) rfl, mT 849 (by decide +kernel) rfl, mT 850 (by decide +kernel) rfl, mT 54 (by decide +kernel) rfl, by decide +kernel, by decide +kernel, by decide +kernel⟩
set_option maxHeartbeats 4000000 in
set_option maxRecDepth 100000 in
theorem c_H_count (l : Launch) (cx : Cx) (nx N : Nat) (D : Dt) (P : Ft) (a0 : Nat) (i1 : Int32) (z : Int32) (h : f_H_count N nx D P a0 i1 = some z) : Ct l cx yX8_count cX8_count 2 (some .int) 4 [.ref (cx.2.2 + a0), .int i1] D P nx (some (.int z)) D P := by
  refine x_met0 (by decide) (Nat.le_of_ble_eq_true rfl) ?_
  intro p e s m args below meth c X
  have X : XC p s m args meth c cx cX8_count 2 (some .int) "HeartPins" "count" := X
  refine XW.sub (lv' := [(0, .ref (cx.2.2 + a0)), (1, .int i1)]) [0, 1] rfl ?_
  unfold f_H_count at h
  obtain ⟨hk0, h⟩ := grd h
  refine x_iload_n (pc := 0) X dX8_count_0 (i := 1) rfl 1 rfl ?_
  by_cases cs1_0 : i1 = 0
  · have h := ite_t cs1_0 h
    refine x_tsw (off := 67) (tgt := 68) (pc := 1) X 0 dX8_count_1 cs1_0 (by decide) (by decide) (by decide) (by decide) ?_
    refine x_aload_n (pc := 68) X dX8_count_68 (i := 0) rfl 0 rfl ?_
    obtain ⟨q1, e1, h⟩ := nns h
    refine x_getr (ci := 8) (k := 1) (n := 11) (C := RX8) (T := TX8) (pc := 69) X dX8_count_69 hk0 rfl (by decide) w_422 rfl e1 ?_
    obtain ⟨k2, h⟩ := grd h
    refine x_geti (ci := 1) (k := 4) (n := 9) (C := RX1) (T := TX1) (pc := 72) X dX8_count_72 k2 rfl (by decide) w_113 rfl ?_
    obtain rfl := Option.some.inj h
    exact x_iret (pc := 75) X dX8_count_75
  · have h := ite_f cs1_0 h
    by_cases cs1_1 : i1 = 1
    · have h := ite_t cs1_1 h
      refine x_tsw (off := 75) (tgt := 76) (pc := 1) X 1 dX8_count_1 cs1_1 (by decide) (by decide) (by decide) (by decide) ?_
      refine x_aload_n (pc := 76) X dX8_count_76 (i := 0) rfl 0 rfl ?_
      obtain ⟨q3, e3, h⟩ := nns h
      refine x_getr (ci := 8) (k := 1) (n := 11) (C := RX8) (T := TX8) (pc := 77) X dX8_count_77 hk0 rfl (by decide) w_422 rfl e3 ?_
      obtain ⟨k4, h⟩ := grd h
      refine x_geti (ci := 1) (k := 5) (n := 9) (C := RX1) (T := TX1) (pc := 80) X dX8_count_80 k4 rfl (by decide) w_116 rfl ?_
      obtain rfl := Option.some.inj h
      exact x_iret (pc := 83) X dX8_count_83
    · have h := ite_f cs1_1 h
      by_cases cs1_2 : i1 = 2
      · have h := ite_t cs1_2 h
        refine x_tsw (off := 83) (tgt := 84) (pc := 1) X 2 dX8_count_1 cs1_2 (by decide) (by decide) (by decide) (by decide) ?_
        refine x_aload_n (pc := 84) X dX8_count_84 (i := 0) rfl 0 rfl ?_
        obtain ⟨q5, e5, h⟩ := nns h
        refine x_getr (ci := 8) (k := 3) (n := 11) (C := RX8) (T := TX8) (pc := 85) X dX8_count_85 hk0 rfl (by decide) w_424 rfl e5 ?_
        obtain ⟨k6, h⟩ := grd h
        refine x_geti (ci := 7) (k := 4) (n := 5) (C := RX7) (T := TX7) (pc := 88) X dX8_count_88 k6 rfl (by decide) w_159 rfl ?_
        obtain rfl := Option.some.inj h
        exact x_iret (pc := 91) X dX8_count_91
      · have h := ite_f cs1_2 h
        by_cases cs1_3 : i1 = 3
        · have h := ite_t cs1_3 h
          refine x_tsw (off := 91) (tgt := 92) (pc := 1) X 3 dX8_count_1 cs1_3 (by decide) (by decide) (by decide) (by decide) ?_
          refine x_aload_n (pc := 92) X dX8_count_92 (i := 0) rfl 0 rfl ?_
          obtain ⟨q7, e7, h⟩ := nns h
          refine x_getr (ci := 8) (k := 3) (n := 11) (C := RX8) (T := TX8) (pc := 93) X dX8_count_93 hk0 rfl (by decide) w_424 rfl e7 ?_
          obtain ⟨k9, h⟩ := grd h
          obtain ⟨z8, e8, h⟩ := bnds h
          refine x_callV (pc := 96) (As := []) (st := []) (st' := [.int z8]) X (c_C_howManyBorne l cx nx N D P _ z8 e8) dX8_count_96 w_852 m_C_howManyBorne rfl k9 (ci := 7) rfl rfl ⟨by decide, by decide⟩ ⟨Nat.zero_le _, Nat.zero_le _⟩ rfl (Nat.le_of_ble_eq_true rfl) rfl ?_
          obtain rfl := Option.some.inj h
          exact x_iret (pc := 99) X dX8_count_99
        · have h := ite_f cs1_3 h
          by_cases cs1_4 : i1 = 4
          · have h := ite_t cs1_4 h
            refine x_tsw (off := 99) (tgt := 100) (pc := 1) X 4 dX8_count_1 cs1_4 (by decide) (by decide) (by decide) (by decide) ?_
            refine x_aload_n (pc := 100) X dX8_count_100 (i := 0) rfl 0 rfl ?_
            obtain ⟨q10, e10, h⟩ := nns h
            refine x_getr (ci := 8) (k := 3) (n := 11) (C := RX8) (T := TX8) (pc := 101) X dX8_count_101 hk0 rfl (by decide) w_424 rfl e10 ?_
            refine x_iconst (v := (-1)) (pc := 104) X dX8_count_104 (by decide) ?_
            obtain ⟨k12, h⟩ := grd h
            obtain ⟨z11, e11, h⟩ := bnds h
            refine x_callV (pc := 105) (As := [.int (-1)]) (st := []) (st' := [.int z11]) X (c_C_howManyAt l cx nx N D P _ _ z11 e11) dX8_count_105 w_853 m_C_howManyAt rfl k12 (ci := 7) rfl rfl ⟨by decide, by decide⟩ ⟨Nat.zero_le _, Nat.zero_le _⟩ rfl (Nat.le_of_ble_eq_true rfl) rfl ?_
            obtain rfl := Option.some.inj h
            exact x_iret (pc := 108) X dX8_count_108
          · have h := ite_f cs1_4 h
            by_cases cs1_5 : i1 = 5
            · have h := ite_t cs1_5 h
              refine x_tsw (off := 108) (tgt := 109) (pc := 1) X 5 dX8_count_1 cs1_5 (by decide) (by decide) (by decide) (by decide) ?_
              refine x_aload_n (pc := 109) X dX8_count_109 (i := 0) rfl 0 rfl ?_
              obtain ⟨q13, e13, h⟩ := nns h
              refine x_getr (ci := 8) (k := 3) (n := 11) (C := RX8) (T := TX8) (pc := 110) X dX8_count_110 hk0 rfl (by decide) w_424 rfl e13 ?_
              refine x_bipush (v := (-2)) (pc := 113) X dX8_count_113 (by decide) ?_
              obtain ⟨k15, h⟩ := grd h
              obtain ⟨z14, e14, h⟩ := bnds h
              refine x_callV (pc := 115) (As := [.int (-2)]) (st := []) (st' := [.int z14]) X (c_C_howManyAt l cx nx N D P _ _ z14 e14) dX8_count_115 w_853 m_C_howManyAt rfl k15 (ci := 7) rfl rfl ⟨by decide, by decide⟩ ⟨Nat.zero_le _, Nat.zero_le _⟩ rfl (Nat.le_of_ble_eq_true rfl) rfl ?_
              obtain rfl := Option.some.inj h
              exact x_iret (pc := 118) X dX8_count_118
            · have h := ite_f cs1_5 h
              by_cases cs1_6 : i1 = 6
              · have h := ite_t cs1_6 h
                refine x_tsw (off := 118) (tgt := 119) (pc := 1) X 6 dX8_count_1 cs1_6 (by decide) (by decide) (by decide) (by decide) ?_
                refine x_aload_n (pc := 119) X dX8_count_119 (i := 0) rfl 0 rfl ?_
                obtain ⟨q16, e16, h⟩ := nns h
                refine x_getr (ci := 8) (k := 3) (n := 11) (C := RX8) (T := TX8) (pc := 120) X dX8_count_120 hk0 rfl (by decide) w_424 rfl e16 ?_
                refine x_bipush (v := (-3)) (pc := 123) X dX8_count_123 (by decide) ?_
                obtain ⟨k18, h⟩ := grd h
                obtain ⟨z17, e17, h⟩ := bnds h
                refine x_callV (pc := 125) (As := [.int (-3)]) (st := []) (st' := [.int z17]) X (c_C_howManyAt l cx nx N D P _ _ z17 e17) dX8_count_125 w_853 m_C_howManyAt rfl k18 (ci := 7) rfl rfl ⟨by decide, by decide⟩ ⟨Nat.zero_le _, Nat.zero_le _⟩ rfl (Nat.le_of_ble_eq_true rfl) rfl ?_
                obtain rfl := Option.some.inj h
                exact x_iret (pc := 128) X dX8_count_128
              · have h := ite_f cs1_6 h
                by_cases cs1_7 : i1 = 7
                · have h := ite_t cs1_7 h
                  refine x_tsw (off := 128) (tgt := 129) (pc := 1) X 7 dX8_count_1 cs1_7 (by decide) (by decide) (by decide) (by decide) ?_
                  refine x_aload_n (pc := 129) X dX8_count_129 (i := 0) rfl 0 rfl ?_
                  obtain ⟨q19, e19, h⟩ := nns h
                  refine x_getr (ci := 8) (k := 3) (n := 11) (C := RX8) (T := TX8) (pc := 130) X dX8_count_130 hk0 rfl (by decide) w_424 rfl e19 ?_
                  obtain ⟨k21, h⟩ := grd h
                  obtain ⟨z20, e20, h⟩ := bnds h
                  refine x_callV (pc := 133) (As := []) (st := []) (st' := [.int z20]) X (c_C_howManyBreak l cx nx N D P _ z20 e20) dX8_count_133 w_858 m_C_howManyBreak rfl k21 (ci := 7) rfl rfl ⟨by decide, by decide⟩ ⟨Nat.zero_le _, Nat.zero_le _⟩ rfl (Nat.le_of_ble_eq_true rfl) rfl ?_
                  obtain rfl := Option.some.inj h
                  exact x_iret (pc := 136) X dX8_count_136
                · have h := ite_f cs1_7 h
                  by_cases cs1_8 : i1 = 8
                  · have h := ite_t cs1_8 h
                    refine x_tsw (off := 136) (tgt := 137) (pc := 1) X 8 dX8_count_1 cs1_8 (by decide) (by decide) (by decide) (by decide) ?_
                    refine x_aload_n (pc := 137) X dX8_count_137 (i := 0) rfl 0 rfl ?_
                    obtain ⟨q22, e22, h⟩ := nns h
                    refine x_getr (ci := 8) (k := 7) (n := 11) (C := RX8) (T := TX8) (pc := 138) X dX8_count_138 hk0 rfl (by decide) w_428 rfl e22 ?_
                    obtain ⟨k23, h⟩ := grd h
                    refine x_geti (ci := 4) (k := 4) (n := 6) (C := RX4) (T := TX4) (pc := 141) X dX8_count_141 k23 rfl (by decide) w_202 rfl ?_
                    obtain rfl := Option.some.inj h
                    exact x_iret (pc := 144) X dX8_count_144
                  · have h := ite_f cs1_8 h
                    by_cases cs1_9 : i1 = 9
                    · have h := ite_t cs1_9 h
                      refine x_tsw (off := 144) (tgt := 145) (pc := 1) X 9 dX8_count_1 cs1_9 (by decide) (by decide) (by decide) (by decide) ?_
                      refine x_aload_n (pc := 145) X dX8_count_145 (i := 0) rfl 0 rfl ?_
                      obtain ⟨q24, e24, h⟩ := nns h
                      refine x_getr (ci := 8) (k := 7) (n := 11) (C := RX8) (T := TX8) (pc := 146) X dX8_count_146 hk0 rfl (by decide) w_428 rfl e24 ?_
                      obtain ⟨k25, h⟩ := grd h
                      refine x_geti (ci := 4) (k := 5) (n := 6) (C := RX4) (T := TX4) (pc := 149) X dX8_count_149 k25 rfl (by decide) w_205 rfl ?_
                      obtain rfl := Option.some.inj h
                      exact x_iret (pc := 152) X dX8_count_152
                    · have h := ite_f cs1_9 h
                      by_cases cs1_10 : i1 = 10
                      · have h := ite_t cs1_10 h
                        refine x_tsw (off := 152) (tgt := 153) (pc := 1) X 10 dX8_count_1 cs1_10 (by decide) (by decide) (by decide) (by decide) ?_
                        refine x_aload_n (pc := 153) X dX8_count_153 (i := 0) rfl 0 rfl ?_
                        obtain ⟨q26, e26, h⟩ := nns h
                        refine x_getr (ci := 8) (k := 5) (n := 11) (C := RX8) (T := TX8) (pc := 154) X dX8_count_154 hk0 rfl (by decide) w_426 rfl e26 ?_
                        obtain ⟨k27, h⟩ := grd h
                        refine x_geti (ci := 6) (k := 1) (n := 2) (C := RX6) (T := TX6) (pc := 157) X dX8_count_157 k27 rfl (by decide) w_185 rfl ?_
                        obtain rfl := Option.some.inj h
                        exact x_iret (pc := 160) X dX8_count_160
                      · have h := ite_f cs1_10 h
                        by_cases cs1_11 : i1 = 11
                        · have h := ite_t cs1_11 h
                          refine x_tsw (off := 160) (tgt := 161) (pc := 1) X 11 dX8_count_1 cs1_11 (by decide) (by decide) (by decide) (by decide) ?_
                          refine x_aload_n (pc := 161) X dX8_count_161 (i := 0) rfl 0 rfl ?_
                          obtain ⟨q28, e28, h⟩ := nns h
                          refine x_getr (ci := 8) (k := 6) (n := 11) (C := RX8) (T := TX8) (pc := 162) X dX8_count_162 hk0 rfl (by decide) w_427 rfl e28 ?_
                          obtain ⟨k29, h⟩ := grd h
                          refine x_geti (ci := 6) (k := 1) (n := 2) (C := RX6) (T := TX6) (pc := 165) X dX8_count_165 k29 rfl (by decide) w_185 rfl ?_
                          obtain rfl := Option.some.inj h
                          exact x_iret (pc := 168) X dX8_count_168
                        · have h := ite_f cs1_11 h
                          by_cases cs1_12 : i1 = 12
                          · have h := ite_t cs1_12 h
                            refine x_tsw (off := 168) (tgt := 169) (pc := 1) X 12 dX8_count_1 cs1_12 (by decide) (by decide) (by decide) (by decide) ?_
                            refine x_aload_n (pc := 169) X dX8_count_169 (i := 0) rfl 0 rfl ?_
                            obtain ⟨q30, e30, h⟩ := nns h
                            refine x_getr (ci := 8) (k := 0) (n := 11) (C := RX8) (T := TX8) (pc := 170) X dX8_count_170 hk0 rfl (by decide) w_421 rfl e30 ?_
                            obtain ⟨k31, h⟩ := grd h
                            refine x_geti (ci := 2) (k := 2) (n := 4) (C := RX2) (T := TX2) (pc := 173) X dX8_count_173 k31 rfl (by decide) w_87 rfl ?_
                            obtain rfl := Option.some.inj h
                            exact x_iret (pc := 176) X dX8_count_176
                          · have h := ite_f cs1_12 h
                            refine x_tswd (tgt := 177) (pc := 1) X dX8_count_1 (sw_outg (lo := 0) (n := 13) (by decide) (by decide) rfl (fun k hk => ?_)) (by decide) ?_
                            · rcases (show k = 0 ∨ k = 1 ∨ k = 2 ∨ k = 3 ∨ k = 4 ∨ k = 5 ∨ k = 6 ∨ k = 7 ∨ k = 8 ∨ k = 9 ∨ k = 10 ∨ k = 11 ∨ k = 12 by omega) with rfl | rfl | rfl | rfl | rfl | rfl | rfl | rfl | rfl | rfl | rfl | rfl | rfl
                              · exact fun y => cs1_0 (y.trans (by decide))
                              · exact fun y => cs1_1 (y.trans (by decide))
                              · exact fun y => cs1_2 (y.trans (by decide))
                              · exact fun y => cs1_3 (y.trans (by decide))
                              · exact fun y => cs1_4 (y.trans (by decide))
                              · exact fun y => cs1_5 (y.trans (by decide))
                              · exact fun y => cs1_6 (y.trans (by decide))
                              · exact fun y => cs1_7 (y.trans (by decide))
                              · exact fun y => cs1_8 (y.trans (by decide))
                              · exact fun y => cs1_9 (y.trans (by decide))
                              · exact fun y => cs1_10 (y.trans (by decide))
                              · exact fun y => cs1_11 (y.trans (by decide))
                              · exact fun y => cs1_12 (y.trans (by decide))
                            · refine x_iconst (v := (-1)) (pc := 177) X dX8_count_177 (by decide) ?_
                              obtain rfl := Option.some.inj h
                              exact x_iret (pc := 178) X dX8_count_178
