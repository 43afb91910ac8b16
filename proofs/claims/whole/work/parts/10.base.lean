theorem w_617 : Cond.methodLink "HeartPins" 323 ⟨"java/lang/Math", "min", "(II)I"⟩ ∈ wT := mT 617 (by decide +kernel) rfl
theorem w_671 : Cond.constant "java/lang/Integer" 265 (1431655765 : Int32) ∈ wT := mT 671 (by decide +kernel) rfl
theorem w_672 : Cond.constant "java/lang/Integer" 266 (858993459 : Int32) ∈ wT := mT 672 (by decide +kernel) rfl
theorem w_673 : Cond.constant "java/lang/Integer" 267 (252645135 : Int32) ∈ wT := mT 673 (by decide +kernel) rfl
theorem w_761 : Cond.methodLink "HeartPins" 328 ⟨"HeartPins", "largeBehindDay", "(III)I"⟩ ∈ wT := mT 761 (by decide +kernel) rfl
theorem w_829 : Cond.constantLong "HeartPins" 317 (7919 : Int64) ∈ wT := mT 829 (by decide +kernel) rfl
theorem w_830 : Cond.constantLong "HeartPins" 319 (6151 : Int64) ∈ wT := mT 830 (by decide +kernel) rfl
theorem w_831 : Cond.constantLong "HeartPins" 321 (65521 : Int64) ∈ wT := mT 831 (by decide +kernel) rfl
theorem dJ6_bitCount_0f7a4_0 : decode cJ6_bitCount_0f7a4 0 = .ok (.iload_n 0, 1) := by decide +kernel
theorem dJ6_bitCount_0f7a4_1 : decode cJ6_bitCount_0f7a4 1 = .ok (.iload_n 0, 1) := by decide +kernel
theorem dJ6_bitCount_0f7a4_2 : decode cJ6_bitCount_0f7a4 2 = .ok (.iconst 1, 1) := by decide +kernel
theorem dJ6_bitCount_0f7a4_3 : decode cJ6_bitCount_0f7a4 3 = .ok (.iushr, 1) := by decide +kernel
theorem dJ6_bitCount_0f7a4_4 : decode cJ6_bitCount_0f7a4 4 = .ok (.ldc_w 265, 3) := by decide +kernel
theorem dJ6_bitCount_0f7a4_7 : decode cJ6_bitCount_0f7a4 7 = .ok (.iand, 1) := by decide +kernel
theorem dJ6_bitCount_0f7a4_8 : decode cJ6_bitCount_0f7a4 8 = .ok (.isub, 1) := by decide +kernel
theorem dJ6_bitCount_0f7a4_9 : decode cJ6_bitCount_0f7a4 9 = .ok (.istore_n 0, 1) := by decide +kernel
theorem dJ6_bitCount_0f7a4_10 : decode cJ6_bitCount_0f7a4 10 = .ok (.iload_n 0, 1) := by decide +kernel
theorem dJ6_bitCount_0f7a4_11 : decode cJ6_bitCount_0f7a4 11 = .ok (.ldc_w 266, 3) := by decide +kernel
theorem dJ6_bitCount_0f7a4_14 : decode cJ6_bitCount_0f7a4 14 = .ok (.iand, 1) := by decide +kernel
theorem dJ6_bitCount_0f7a4_15 : decode cJ6_bitCount_0f7a4 15 = .ok (.iload_n 0, 1) := by decide +kernel
theorem dJ6_bitCount_0f7a4_16 : decode cJ6_bitCount_0f7a4 16 = .ok (.iconst 2, 1) := by decide +kernel
theorem dJ6_bitCount_0f7a4_17 : decode cJ6_bitCount_0f7a4 17 = .ok (.iushr, 1) := by decide +kernel
theorem dJ6_bitCount_0f7a4_18 : decode cJ6_bitCount_0f7a4 18 = .ok (.ldc_w 266, 3) := by decide +kernel
theorem dJ6_bitCount_0f7a4_21 : decode cJ6_bitCount_0f7a4 21 = .ok (.iand, 1) := by decide +kernel
theorem dJ6_bitCount_0f7a4_22 : decode cJ6_bitCount_0f7a4 22 = .ok (.iadd, 1) := by decide +kernel
theorem dJ6_bitCount_0f7a4_23 : decode cJ6_bitCount_0f7a4 23 = .ok (.istore_n 0, 1) := by decide +kernel
theorem dJ6_bitCount_0f7a4_24 : decode cJ6_bitCount_0f7a4 24 = .ok (.iload_n 0, 1) := by decide +kernel
theorem dJ6_bitCount_0f7a4_25 : decode cJ6_bitCount_0f7a4 25 = .ok (.iload_n 0, 1) := by decide +kernel
theorem dJ6_bitCount_0f7a4_26 : decode cJ6_bitCount_0f7a4 26 = .ok (.iconst 4, 1) := by decide +kernel
theorem dJ6_bitCount_0f7a4_27 : decode cJ6_bitCount_0f7a4 27 = .ok (.iushr, 1) := by decide +kernel
theorem dJ6_bitCount_0f7a4_28 : decode cJ6_bitCount_0f7a4 28 = .ok (.iadd, 1) := by decide +kernel
theorem dJ6_bitCount_0f7a4_29 : decode cJ6_bitCount_0f7a4 29 = .ok (.ldc_w 267, 3) := by decide +kernel
theorem dJ6_bitCount_0f7a4_32 : decode cJ6_bitCount_0f7a4 32 = .ok (.iand, 1) := by decide +kernel
theorem dJ6_bitCount_0f7a4_33 : decode cJ6_bitCount_0f7a4 33 = .ok (.istore_n 0, 1) := by decide +kernel
theorem dJ6_bitCount_0f7a4_34 : decode cJ6_bitCount_0f7a4 34 = .ok (.iload_n 0, 1) := by decide +kernel
theorem dJ6_bitCount_0f7a4_35 : decode cJ6_bitCount_0f7a4 35 = .ok (.iload_n 0, 1) := by decide +kernel
theorem dJ6_bitCount_0f7a4_36 : decode cJ6_bitCount_0f7a4 36 = .ok (.bipush 8, 2) := by decide +kernel
theorem dJ6_bitCount_0f7a4_38 : decode cJ6_bitCount_0f7a4 38 = .ok (.iushr, 1) := by decide +kernel
theorem dJ6_bitCount_0f7a4_39 : decode cJ6_bitCount_0f7a4 39 = .ok (.iadd, 1) := by decide +kernel
theorem dJ6_bitCount_0f7a4_40 : decode cJ6_bitCount_0f7a4 40 = .ok (.istore_n 0, 1) := by decide +kernel
theorem dJ6_bitCount_0f7a4_41 : decode cJ6_bitCount_0f7a4 41 = .ok (.iload_n 0, 1) := by decide +kernel
theorem dJ6_bitCount_0f7a4_42 : decode cJ6_bitCount_0f7a4 42 = .ok (.iload_n 0, 1) := by decide +kernel
theorem dJ6_bitCount_0f7a4_43 : decode cJ6_bitCount_0f7a4 43 = .ok (.bipush 16, 2) := by decide +kernel
theorem dJ6_bitCount_0f7a4_45 : decode cJ6_bitCount_0f7a4 45 = .ok (.iushr, 1) := by decide +kernel
theorem dJ6_bitCount_0f7a4_46 : decode cJ6_bitCount_0f7a4 46 = .ok (.iadd, 1) := by decide +kernel
theorem dJ6_bitCount_0f7a4_47 : decode cJ6_bitCount_0f7a4 47 = .ok (.istore_n 0, 1) := by decide +kernel
theorem dJ6_bitCount_0f7a4_48 : decode cJ6_bitCount_0f7a4 48 = .ok (.iload_n 0, 1) := by decide +kernel
theorem dJ6_bitCount_0f7a4_49 : decode cJ6_bitCount_0f7a4 49 = .ok (.bipush 63, 2) := by decide +kernel
theorem dJ6_bitCount_0f7a4_51 : decode cJ6_bitCount_0f7a4 51 = .ok (.iand, 1) := by decide +kernel
theorem dJ6_bitCount_0f7a4_52 : decode cJ6_bitCount_0f7a4 52 = .ok (.ireturn, 1) := by decide +kernel
def f_J_bitCount (N nx : Nat) (D : Dt) (P : Ft) (i0 : Int32) : Option Int32 :=
  pas (i0 - (((Int32.toUInt32 i0 >>> (Int32.toUInt32 1 &&& Int32.toUInt32 31)).toInt32) &&& 1431655765)) fun v1 =>
  pas ((v1 &&& 858993459) + (((Int32.toUInt32 v1 >>> (Int32.toUInt32 2 &&& Int32.toUInt32 31)).toInt32) &&& 858993459)) fun v2 =>
  pas ((v2 + ((Int32.toUInt32 v2 >>> (Int32.toUInt32 4 &&& Int32.toUInt32 31)).toInt32)) &&& 252645135) fun v3 =>
  pas (v3 + ((Int32.toUInt32 v3 >>> (Int32.toUInt32 8 &&& Int32.toUInt32 31)).toInt32)) fun v4 =>
  pas (v4 + ((Int32.toUInt32 v4 >>> (Int32.toUInt32 16 &&& Int32.toUInt32 31)).toInt32)) fun v5 =>
  some (v5 &&& 63)
theorem m_J_bitCount : MS yJ6_bitCount_0f7a4 cJ6_bitCount_0f7a4 1 (some .int) 1 := ⟨mT 670 (by decide +kernel) rfl, mT 669 (by decide +kernel) rfl, mT 69 (by decide +kernel) rfl, by decide +kernel, by decide +kernel, by decide +kernel⟩
set_option maxHeartbeats 4000000 in
set_option maxRecDepth 100000 in
theorem c_J_bitCount (l : Launch) (cx : Cx) (nx N : Nat) (D : Dt) (P : Ft) (i0 : Int32) (z : Int32) (h : f_J_bitCount N nx D P i0 = some z) : Ct l cx yJ6_bitCount_0f7a4 cJ6_bitCount_0f7a4 1 (some .int) 0 [.int i0] D P nx (some (.int z)) D P := by
  refine x_met0 (by decide) (Nat.le_of_ble_eq_true rfl) ?_
  intro p e s m args below meth c X
  have X : XC p s m args meth c cx cJ6_bitCount_0f7a4 1 (some .int) "java/lang/Integer" "bitCount" := X
  refine XW.sub (lv' := [(0, .int i0)]) [0] rfl ?_
  unfold f_J_bitCount at h
  refine x_iload_n (pc := 0) X dJ6_bitCount_0f7a4_0 (i := 0) rfl 0 rfl ?_
  refine x_iload_n (pc := 1) X dJ6_bitCount_0f7a4_1 (i := 0) rfl 0 rfl ?_
  refine x_iconst (v := 1) (pc := 2) X dJ6_bitCount_0f7a4_2 (by decide) ?_
  refine x_iushr (pc := 3) X dJ6_bitCount_0f7a4_3 ?_
  refine x_ldcw (v := 1431655765) (pc := 4) X dJ6_bitCount_0f7a4_4 w_671 ?_
  refine x_iand (pc := 7) X dJ6_bitCount_0f7a4_7 ?_
  refine x_isub (pc := 8) X dJ6_bitCount_0f7a4_8 ?_
  obtain ⟨v1, w1, h⟩ := pass h
  refine x_nm w1 ?_
  refine x_istore_n (lv' := [(0, .int v1)]) (pc := 9) X dJ6_bitCount_0f7a4_9 (i := 0) rfl (by decide) rfl ?_
  refine x_iload_n (pc := 10) X dJ6_bitCount_0f7a4_10 (i := 0) rfl 0 rfl ?_
  refine x_ldcw (v := 858993459) (pc := 11) X dJ6_bitCount_0f7a4_11 w_672 ?_
  refine x_iand (pc := 14) X dJ6_bitCount_0f7a4_14 ?_
  refine x_iload_n (pc := 15) X dJ6_bitCount_0f7a4_15 (i := 0) rfl 0 rfl ?_
  refine x_iconst (v := 2) (pc := 16) X dJ6_bitCount_0f7a4_16 (by decide) ?_
  refine x_iushr (pc := 17) X dJ6_bitCount_0f7a4_17 ?_
  refine x_ldcw (v := 858993459) (pc := 18) X dJ6_bitCount_0f7a4_18 w_672 ?_
  refine x_iand (pc := 21) X dJ6_bitCount_0f7a4_21 ?_
  refine x_iadd (pc := 22) X dJ6_bitCount_0f7a4_22 ?_
  obtain ⟨v2, w2, h⟩ := pass h
  refine x_nm w2 ?_
  refine x_istore_n (lv' := [(0, .int v2)]) (pc := 23) X dJ6_bitCount_0f7a4_23 (i := 0) rfl (by decide) rfl ?_
  refine x_iload_n (pc := 24) X dJ6_bitCount_0f7a4_24 (i := 0) rfl 0 rfl ?_
  refine x_iload_n (pc := 25) X dJ6_bitCount_0f7a4_25 (i := 0) rfl 0 rfl ?_
  refine x_iconst (v := 4) (pc := 26) X dJ6_bitCount_0f7a4_26 (by decide) ?_
  refine x_iushr (pc := 27) X dJ6_bitCount_0f7a4_27 ?_
  refine x_iadd (pc := 28) X dJ6_bitCount_0f7a4_28 ?_
  refine x_ldcw (v := 252645135) (pc := 29) X dJ6_bitCount_0f7a4_29 w_673 ?_
  refine x_iand (pc := 32) X dJ6_bitCount_0f7a4_32 ?_
  obtain ⟨v3, w3, h⟩ := pass h
  refine x_nm w3 ?_
  refine x_istore_n (lv' := [(0, .int v3)]) (pc := 33) X dJ6_bitCount_0f7a4_33 (i := 0) rfl (by decide) rfl ?_
  refine x_iload_n (pc := 34) X dJ6_bitCount_0f7a4_34 (i := 0) rfl 0 rfl ?_
  refine x_iload_n (pc := 35) X dJ6_bitCount_0f7a4_35 (i := 0) rfl 0 rfl ?_
  refine x_bipush (v := 8) (pc := 36) X dJ6_bitCount_0f7a4_36 (by decide) ?_
  refine x_iushr (pc := 38) X dJ6_bitCount_0f7a4_38 ?_
  refine x_iadd (pc := 39) X dJ6_bitCount_0f7a4_39 ?_
  obtain ⟨v4, w4, h⟩ := pass h
  refine x_nm w4 ?_
  refine x_istore_n (lv' := [(0, .int v4)]) (pc := 40) X dJ6_bitCount_0f7a4_40 (i := 0) rfl (by decide) rfl ?_
  refine x_iload_n (pc := 41) X dJ6_bitCount_0f7a4_41 (i := 0) rfl 0 rfl ?_
  refine x_iload_n (pc := 42) X dJ6_bitCount_0f7a4_42 (i := 0) rfl 0 rfl ?_
  refine x_bipush (v := 16) (pc := 43) X dJ6_bitCount_0f7a4_43 (by decide) ?_
  refine x_iushr (pc := 45) X dJ6_bitCount_0f7a4_45 ?_
  refine x_iadd (pc := 46) X dJ6_bitCount_0f7a4_46 ?_
  obtain ⟨v5, w5, h⟩ := pass h
  refine x_nm w5 ?_
  refine x_istore_n (lv' := [(0, .int v5)]) (pc := 47) X dJ6_bitCount_0f7a4_47 (i := 0) rfl (by decide) rfl ?_
  refine x_iload_n (pc := 48) X dJ6_bitCount_0f7a4_48 (i := 0) rfl 0 rfl ?_
  refine x_bipush (v := 63) (pc := 49) X dJ6_bitCount_0f7a4_49 (by decide) ?_
  refine x_iand (pc := 51) X dJ6_bitCount_0f7a4_51 ?_
  obtain rfl := Option.some.inj h
  exact x_iret (pc := 52) X dJ6_bitCount_0f7a4_52
theorem dX8_isWithin_0 : decode cX8_isWithin 0 = .ok (.iload_n 0, 1) := by decide +kernel
theorem dX8_isWithin_1 : decode cX8_isWithin 1 = .ok (.iload_n 1, 1) := by decide +kernel
theorem dX8_isWithin_2 : decode cX8_isWithin 2 = .ok (.if_icmp .lt 12, 3) := by decide +kernel
theorem dX8_isWithin_5 : decode cX8_isWithin 5 = .ok (.iload_n 0, 1) := by decide +kernel
theorem dX8_isWithin_6 : decode cX8_isWithin 6 = .ok (.iload_n 2, 1) := by decide +kernel
theorem dX8_isWithin_7 : decode cX8_isWithin 7 = .ok (.if_icmp .gt 7, 3) := by decide +kernel
theorem dX8_isWithin_10 : decode cX8_isWithin 10 = .ok (.iconst 1, 1) := by decide +kernel
theorem dX8_isWithin_11 : decode cX8_isWithin 11 = .ok (.goto 4, 3) := by decide +kernel
theorem dX8_isWithin_14 : decode cX8_isWithin 14 = .ok (.iconst 0, 1) := by decide +kernel
theorem dX8_isWithin_15 : decode cX8_isWithin 15 = .ok (.ireturn, 1) := by decide +kernel
def f_H_isWithin (N nx : Nat) (D : Dt) (P : Ft) (i0 : Int32) (i1 : Int32) (i2 : Int32) : Option Int32 :=
  if i0 < i1 then
    some 0
  else
    if i2 < i0 then
      some 0
    else
      some 1
theorem m_H_isWithin : MS yX8_isWithin cX8_isWithin 3 (some .boolean) 3 := ⟨mT 347 (by decide +kernel) rfl, mT 346 (by decide +kernel) rfl, mT 54 (by decide +kernel) rfl, by decide +kernel, by decide +kernel, by decide +kernel⟩
set_option maxHeartbeats 4000000 in
set_option maxRecDepth 100000 in
theorem c_H_isWithin (l : Launch) (cx : Cx) (nx N : Nat) (D : Dt) (P : Ft) (i0 : Int32) (i1 : Int32) (i2 : Int32) (z : Int32) (h : f_H_isWithin N nx D P i0 i1 i2 = some z) : Ct l cx yX8_isWithin cX8_isWithin 3 (some .boolean) 0 [.int i0, .int i1, .int i2] D P nx (some (.int z)) D P := by
  refine x_met0 (by decide) (Nat.le_of_ble_eq_true rfl) ?_
  intro p e s m args below meth c X
  have X : XC p s m args meth c cx cX8_isWithin 3 (some .boolean) "HeartPins" "isWithin" := X
  refine XW.sub (lv' := [(0, .int i0), (1, .int i1), (2, .int i2)]) [0, 1, 2] rfl ?_
  unfold f_H_isWithin at h
  refine x_iload_n (pc := 0) X dX8_isWithin_0 (i := 0) rfl 0 rfl ?_
  refine x_iload_n (pc := 1) X dX8_isWithin_1 (i := 1) rfl 1 rfl ?_
  refine x_icmp_lt (tgt := 14) (pc := 2) X dX8_isWithin_2 (by decide) (fun c2 => ?_) (fun c2 => ?_)
  · have h := ite_t c2 h
    refine x_iconst (v := 0) (pc := 14) X dX8_isWithin_14 (by decide) ?_
    obtain rfl := Option.some.inj h
    exact x_zret (pc := 15) X dX8_isWithin_15 (Or.inl rfl)
  · have h := ite_f c2 h
    refine x_iload_n (pc := 5) X dX8_isWithin_5 (i := 0) rfl 0 rfl ?_
    refine x_iload_n (pc := 6) X dX8_isWithin_6 (i := 2) rfl 2 rfl ?_
    refine x_icmp_gt (tgt := 14) (pc := 7) X dX8_isWithin_7 (by decide) (fun c1 => ?_) (fun c1 => ?_)
    · have h := ite_t c1 h
      refine x_iconst (v := 0) (pc := 14) X dX8_isWithin_14 (by decide) ?_
      obtain rfl := Option.some.inj h
      exact x_zret (pc := 15) X dX8_isWithin_15 (Or.inl rfl)
    · have h := ite_f c1 h
      refine x_iconst (v := 1) (pc := 10) X dX8_isWithin_10 (by decide) ?_
      refine x_goto (tgt := 15) (pc := 11) X dX8_isWithin_11 (by decide) ?_
      obtain rfl := Option.some.inj h
      exact x_zret (pc := 15) X dX8_isWithin_15 (Or.inr rfl)
theorem dX8_placeNumber_0 : decode cX8_placeNumber 0 = .ok (.iload_n 0, 1) := by decide +kernel
theorem dX8_placeNumber_1 : decode cX8_placeNumber 1 = .ok (.tableswitch 33 (-3) (-1) #[31, 29, 27], 27) := by decide +kernel
theorem dX8_placeNumber_28 : decode cX8_placeNumber 28 = .ok (.iconst 1, 1) := by decide +kernel
theorem dX8_placeNumber_29 : decode cX8_placeNumber 29 = .ok (.ireturn, 1) := by decide +kernel
theorem dX8_placeNumber_30 : decode cX8_placeNumber 30 = .ok (.iconst 2, 1) := by decide +kernel
theorem dX8_placeNumber_31 : decode cX8_placeNumber 31 = .ok (.ireturn, 1) := by decide +kernel
theorem dX8_placeNumber_32 : decode cX8_placeNumber 32 = .ok (.iconst 3, 1) := by decide +kernel
theorem dX8_placeNumber_33 : decode cX8_placeNumber 33 = .ok (.ireturn, 1) := by decide +kernel
theorem dX8_placeNumber_34 : decode cX8_placeNumber 34 = .ok (.iconst 0, 1) := by decide +kernel
theorem dX8_placeNumber_35 : decode cX8_placeNumber 35 = .ok (.ireturn, 1) := by decide +kernel
def f_H_placeNumber (N nx : Nat) (D : Dt) (P : Ft) (i0 : Int32) : Option Int32 :=
  if i0 = (-3) then
    some 3
  else
    if i0 = (-2) then
      some 2
    else
      if i0 = (-1) then
        some 1
      else
        some 0
theorem m_H_placeNumber : MS yX8_placeNumber cX8_placeNumber 1 (some .int) 1 := ⟨mT 520 (by decide +kernel) rfl, mT 519 (by decide +kernel) rfl, mT 54 (by decide +kernel) rfl, by decide +kernel, by decide +kernel, by decide +kernel⟩
set_option maxHeartbeats 4000000 in
set_option maxRecDepth 100000 in
theorem c_H_placeNumber (l : Launch) (cx : Cx) (nx N : Nat) (D : Dt) (P : Ft) (i0 : Int32) (z : Int32) (h : f_H_placeNumber N nx D P i0 = some z) : Ct l cx yX8_placeNumber cX8_placeNumber 1 (some .int) 0 [.int i0] D P nx (some (.int z)) D P := by
  refine x_met0 (by decide) (Nat.le_of_ble_eq_true rfl) ?_
  intro p e s m args below meth c X
  have X : XC p s m args meth c cx cX8_placeNumber 1 (some .int) "HeartPins" "placeNumber" := X
  refine XW.sub (lv' := [(0, .int i0)]) [0] rfl ?_
  unfold f_H_placeNumber at h
  refine x_iload_n (pc := 0) X dX8_placeNumber_0 (i := 0) rfl 0 rfl ?_
  by_cases cs1_0 : i0 = (-3)
  · have h := ite_t cs1_0 h
    refine x_tsw (off := 31) (tgt := 32) (pc := 1) X (-3) dX8_placeNumber_1 cs1_0 (by decide) (by decide) (by decide) (by decide) ?_
    refine x_iconst (v := 3) (pc := 32) X dX8_placeNumber_32 (by decide) ?_
    obtain rfl := Option.some.inj h
    exact x_iret (pc := 33) X dX8_placeNumber_33
  · have h := ite_f cs1_0 h
    by_cases cs1_1 : i0 = (-2)
    · have h := ite_t cs1_1 h
      refine x_tsw (off := 29) (tgt := 30) (pc := 1) X (-2) dX8_placeNumber_1 cs1_1 (by decide) (by decide) (by decide) (by decide) ?_
      refine x_iconst (v := 2) (pc := 30) X dX8_placeNumber_30 (by decide) ?_
      obtain rfl := Option.some.inj h
      exact x_iret (pc := 31) X dX8_placeNumber_31
    · have h := ite_f cs1_1 h
      by_cases cs1_2 : i0 = (-1)
      · have h := ite_t cs1_2 h
        refine x_tsw (off := 27) (tgt := 28) (pc := 1) X (-1) dX8_placeNumber_1 cs1_2 (by decide) (by decide) (by decide) (by decide) ?_
        refine x_iconst (v := 1) (pc := 28) X dX8_placeNumber_28 (by decide) ?_
        obtain rfl := Option.some.inj h
        exact x_iret (pc := 29) X dX8_placeNumber_29
      · have h := ite_f cs1_2 h
        refine x_tswd (tgt := 34) (pc := 1) X dX8_placeNumber_1 (sw_outg (lo := -3) (n := 3) (by decide) (by decide) rfl (fun k hk => ?_)) (by decide) ?_
        · rcases (show k = 0 ∨ k = 1 ∨ k = 2 by omega) with rfl | rfl | rfl
          · exact fun y => cs1_0 (y.trans (by decide))
          · exact fun y => cs1_1 (y.trans (by decide))
          · exact fun y => cs1_2 (y.trans (by decide))
        · refine x_iconst (v := 0) (pc := 34) X dX8_placeNumber_34 (by decide) ?_
          obtain rfl := Option.some.inj h
          exact x_iret (pc := 35) X dX8_placeNumber_35
theorem dX8_drawOf_0 : decode cX8_drawOf 0 = .ok (.ldc2_w 317, 3) := by decide +kernel
theorem dX8_drawOf_3 : decode cX8_drawOf 3 = .ok (.iload_n 0, 1) := by decide +kernel
theorem dX8_drawOf_4 : decode cX8_drawOf 4 = .ok (.i2l, 1) := by decide +kernel
theorem dX8_drawOf_5 : decode cX8_drawOf 5 = .ok (.lmul, 1) := by decide +kernel
theorem dX8_drawOf_6 : decode cX8_drawOf 6 = .ok (.ldc2_w 319, 3) := by decide +kernel
theorem dX8_drawOf_9 : decode cX8_drawOf 9 = .ok (.iload_n 1, 1) := by decide +kernel
theorem dX8_drawOf_10 : decode cX8_drawOf 10 = .ok (.i2l, 1) := by decide +kernel
theorem dX8_drawOf_11 : decode cX8_drawOf 11 = .ok (.lmul, 1) := by decide +kernel
theorem dX8_drawOf_12 : decode cX8_drawOf 12 = .ok (.ladd, 1) := by decide +kernel
theorem dX8_drawOf_13 : decode cX8_drawOf 13 = .ok (.lconst 1, 1) := by decide +kernel
theorem dX8_drawOf_14 : decode cX8_drawOf 14 = .ok (.ladd, 1) := by decide +kernel
theorem dX8_drawOf_15 : decode cX8_drawOf 15 = .ok (.lstore_n 2, 1) := by decide +kernel
theorem dX8_drawOf_16 : decode cX8_drawOf 16 = .ok (.lload_n 2, 1) := by decide +kernel
theorem dX8_drawOf_17 : decode cX8_drawOf 17 = .ok (.lload_n 2, 1) := by decide +kernel
theorem dX8_drawOf_18 : decode cX8_drawOf 18 = .ok (.lmul, 1) := by decide +kernel
theorem dX8_drawOf_19 : decode cX8_drawOf 19 = .ok (.ldc2_w 321, 3) := by decide +kernel
theorem dX8_drawOf_22 : decode cX8_drawOf 22 = .ok (.lrem, 1) := by decide +kernel
theorem dX8_drawOf_23 : decode cX8_drawOf 23 = .ok (.l2i, 1) := by decide +kernel
theorem dX8_drawOf_24 : decode cX8_drawOf 24 = .ok (.ireturn, 1) := by decide +kernel
def f_H_drawOf (N nx : Nat) (D : Dt) (P : Ft) (i0 : Int32) (i1 : Int32) : Option Int32 :=
  pas (((7919 * (Int32.toInt64 i0)) + (6151 * (Int32.toInt64 i1))) + 1) fun v1 =>
  some (Int64.toInt32 ((v1 * v1) - (v1 * v1) / 65521 * 65521))
theorem m_H_drawOf : MS yX8_drawOf cX8_drawOf 4 (some .int) 2 := ⟨mT 828 (by decide +kernel) rfl, mT 827 (by decide +kernel) rfl, mT 54 (by decide +kernel) rfl, by decide +kernel, by decide +kernel, by decide +kernel⟩
set_option maxHeartbeats 4000000 in
set_option maxRecDepth 100000 in
theorem c_H_drawOf (l : Launch) (cx : Cx) (nx N : Nat) (D : Dt) (P : Ft) (i0 : Int32) (i1 : Int32) (z : Int32) (h : f_H_drawOf N nx D P i0 i1 = some z) : Ct l cx yX8_drawOf cX8_drawOf 4 (some .int) 0 [.int i0, .int i1] D P nx (some (.int z)) D P := by
  refine x_met0 (by decide) (Nat.le_of_ble_eq_true rfl) ?_
  intro p e s m args below meth c X
  have X : XC p s m args meth c cx cX8_drawOf 4 (some .int) "HeartPins" "drawOf" := X
  refine XW.sub (lv' := [(0, .int i0), (1, .int i1)]) [0, 1] rfl ?_
  unfold f_H_drawOf at h
  refine x_ldc2 (v := 7919) (pc := 0) X dX8_drawOf_0 w_829 ?_
  refine x_iload_n (pc := 3) X dX8_drawOf_3 (i := 0) rfl 0 rfl ?_
  refine x_i2l (pc := 4) X dX8_drawOf_4 ?_
  refine x_lmul (pc := 5) X dX8_drawOf_5 ?_
  refine x_ldc2 (v := 6151) (pc := 6) X dX8_drawOf_6 w_830 ?_
  refine x_iload_n (pc := 9) X dX8_drawOf_9 (i := 1) rfl 1 rfl ?_
  refine x_i2l (pc := 10) X dX8_drawOf_10 ?_
  refine x_lmul (pc := 11) X dX8_drawOf_11 ?_
  refine x_ladd (pc := 12) X dX8_drawOf_12 ?_
  refine x_lconst (v := 1) (pc := 13) X dX8_drawOf_13 (by decide) ?_
  refine x_ladd (pc := 14) X dX8_drawOf_14 ?_
  obtain ⟨v1, w1, h⟩ := pass h
  refine x_nmL w1 ?_
  refine x_lstore_n (lv' := [(2, .long v1), (0, .int i0), (1, .int i1)]) (pc := 15) X dX8_drawOf_15 (i := 2) rfl (by decide) rfl ?_
  refine x_lload_n (pc := 16) X dX8_drawOf_16 (i := 2) rfl 0 rfl ?_
  refine x_lload_n (pc := 17) X dX8_drawOf_17 (i := 2) rfl 0 rfl ?_
  refine x_lmul (pc := 18) X dX8_drawOf_18 ?_
  refine x_ldc2 (v := 65521) (pc := 19) X dX8_drawOf_19 w_831 ?_
  refine x_lrem (pc := 22) X dX8_drawOf_22 (by decide) ?_
  refine x_l2i (pc := 23) X dX8_drawOf_23 ?_
  obtain rfl := Option.some.inj h
  exact x_iret (pc := 24) X dX8_drawOf_24
theorem dX8_greatestDivisor_0 : decode cX8_greatestDivisor 0 = .ok (.iconst 0, 1) := by decide +kernel
theorem dX8_greatestDivisor_1 : decode cX8_greatestDivisor 1 = .ok (.istore 4, 2) := by decide +kernel
theorem dX8_greatestDivisor_3 : decode cX8_greatestDivisor 3 = .ok (.iload 4, 2) := by decide +kernel
theorem dX8_greatestDivisor_5 : decode cX8_greatestDivisor 5 = .ok (.sipush 200, 3) := by decide +kernel
theorem dX8_greatestDivisor_8 : decode cX8_greatestDivisor 8 = .ok (.if_icmp .ge 25, 3) := by decide +kernel
theorem dX8_greatestDivisor_11 : decode cX8_greatestDivisor 11 = .ok (.lload_n 2, 1) := by decide +kernel
theorem dX8_greatestDivisor_12 : decode cX8_greatestDivisor 12 = .ok (.lconst 0, 1) := by decide +kernel
theorem dX8_greatestDivisor_13 : decode cX8_greatestDivisor 13 = .ok (.lcmp, 1) := by decide +kernel
theorem dX8_greatestDivisor_14 : decode cX8_greatestDivisor 14 = .ok (.ifCond .eq 19, 3) := by decide +kernel
theorem dX8_greatestDivisor_17 : decode cX8_greatestDivisor 17 = .ok (.lload_n 0, 1) := by decide +kernel
theorem dX8_greatestDivisor_18 : decode cX8_greatestDivisor 18 = .ok (.lload_n 2, 1) := by decide +kernel
theorem dX8_greatestDivisor_19 : decode cX8_greatestDivisor 19 = .ok (.lrem, 1) := by decide +kernel
theorem dX8_greatestDivisor_20 : decode cX8_greatestDivisor 20 = .ok (.lstore 5, 2) := by decide +kernel
theorem dX8_greatestDivisor_22 : decode cX8_greatestDivisor 22 = .ok (.lload_n 2, 1) := by decide +kernel
theorem dX8_greatestDivisor_23 : decode cX8_greatestDivisor 23 = .ok (.lstore_n 0, 1) := by decide +kernel
theorem dX8_greatestDivisor_24 : decode cX8_greatestDivisor 24 = .ok (.lload 5, 2) := by decide +kernel
theorem dX8_greatestDivisor_26 : decode cX8_greatestDivisor 26 = .ok (.lstore_n 2, 1) := by decide +kernel
theorem dX8_greatestDivisor_27 : decode cX8_greatestDivisor 27 = .ok (.iinc 4 1, 3) := by decide +kernel
theorem dX8_greatestDivisor_30 : decode cX8_greatestDivisor 30 = .ok (.goto (-27), 3) := by decide +kernel
theorem dX8_greatestDivisor_33 : decode cX8_greatestDivisor 33 = .ok (.lload_n 0, 1) := by decide +kernel
theorem dX8_greatestDivisor_34 : decode cX8_greatestDivisor 34 = .ok (.lreturn, 1) := by decide +kernel
def f_H_greatestDivisor_3 (N nx : Nat) (D : Dt) (P : Ft) (rec3 : Int64 → Int64 → Int32 → Option Int64) (l0 : Int64) (l2 : Int64) (i4 : Int32) : Option Int64 :=
  if 200 ≤ i4 then
    some l0
  else
    if lg_cmp l2 0 = 0 then
      some l0
    else
      if l2 = 0 then none else
      rec3 l2 (l0 - l0 / l2 * l2) (i4 + 1)
def f_H_greatestDivisor (N nx : Nat) (D : Dt) (P : Ft) (l0 : Int64) (l2 : Int64) : Option Int64 :=
  wk3 N (f_H_greatestDivisor_3 N nx D P) l0 l2 0
theorem m_H_greatestDivisor : MS yX8_greatestDivisor cX8_greatestDivisor 7 (some .long) 2 := ⟨mT 821 (by decide +kernel) rfl, mT 820 (by decide +kernel) rfl, mT 54 (by decide +kernel) rfl, by decide +kernel, by decide +kernel, by decide +kernel⟩
set_option maxHeartbeats 4000000 in
set_option maxRecDepth 100000 in
theorem c_H_greatestDivisor (l : Launch) (cx : Cx) (nx N : Nat) (D : Dt) (P : Ft) (l0 : Int64) (l2 : Int64) (z : Int64) (h : f_H_greatestDivisor N nx D P l0 l2 = some z) : Ct l cx yX8_greatestDivisor cX8_greatestDivisor 7 (some .long) 0 [.long l0, .long l2] D P nx (some (.long z)) D P := by
  refine x_met0 (by decide) (Nat.le_of_ble_eq_true rfl) ?_
  intro p e s m args below meth c X
  have X : XC p s m args meth c cx cX8_greatestDivisor 7 (some .long) "HeartPins" "greatestDivisor" := X
  refine XW.sub (lv' := [(0, .long l0), (2, .long l2)]) [0, 1] rfl ?_
  unfold f_H_greatestDivisor at h
  have hL3 : ∀ (n : Nat) (l0 : Int64) (l2 : Int64) (i4 : Int32), wk3 n (f_H_greatestDivisor_3 N nx D P) l0 l2 i4 = some z → XW p l e (rmk 0) s m args below meth c (MQ below (Qx cx (some (.long z)) D P nx) args s 0 0 (AA cx)) cx 7 D P nx 0 0 3 [(0, .long l0), (2, .long l2), (4, .int i4)] [] := by
    intro n
    induction n with
    | zero => intro l0 l2 i4 h; exact (nonz h).elim
    | succ n ih3 =>
      intro l0 l2 i4 h
      have h : f_H_greatestDivisor_3 N nx D P (wk3 n (f_H_greatestDivisor_3 N nx D P)) l0 l2 i4 = some z := h
      generalize wk3 n (f_H_greatestDivisor_3 N nx D P) = rec3 at ih3 h
      unfold f_H_greatestDivisor_3 at h
      refine x_iload (pc := 3) X dX8_greatestDivisor_3 2 rfl ?_
      refine x_sipush (v := 200) (pc := 5) X dX8_greatestDivisor_5 (by decide) ?_
      refine x_icmp_ge (tgt := 33) (pc := 8) X dX8_greatestDivisor_8 (by decide) (fun c3 => ?_) (fun c3 => ?_)
      · have h := ite_t c3 h
        refine x_lload_n (pc := 33) X dX8_greatestDivisor_33 (i := 0) rfl 0 rfl ?_
        obtain rfl := Option.some.inj h
        exact x_lret (pc := 34) X dX8_greatestDivisor_34
      · have h := ite_f c3 h
        refine x_lload_n (pc := 11) X dX8_greatestDivisor_11 (i := 2) rfl 1 rfl ?_
        refine x_lconst (v := 0) (pc := 12) X dX8_greatestDivisor_12 (by decide) ?_
        refine x_lcmp (pc := 13) X dX8_greatestDivisor_13 ?_
        refine x_if_eq (tgt := 33) (pc := 14) X dX8_greatestDivisor_14 (by decide) (fun c2 => ?_) (fun c2 => ?_)
        · have h := ite_t c2 h
          refine x_lload_n (pc := 33) X dX8_greatestDivisor_33 (i := 0) rfl 0 rfl ?_
          obtain rfl := Option.some.inj h
          exact x_lret (pc := 34) X dX8_greatestDivisor_34
        · have h := ite_f c2 h
          refine x_lload_n (pc := 17) X dX8_greatestDivisor_17 (i := 0) rfl 0 rfl ?_
          refine x_lload_n (pc := 18) X dX8_greatestDivisor_18 (i := 2) rfl 1 rfl ?_
          obtain ⟨k1, h⟩ := grdn h
          refine x_lrem (pc := 19) X dX8_greatestDivisor_19 k1 ?_
          refine x_lstore (lv' := [(5, .long (l0 - l0 / l2 * l2)), (0, .long l0), (2, .long l2), (4, .int i4)]) (pc := 20) X dX8_greatestDivisor_20 (by decide) rfl ?_
          refine x_lload_n (pc := 22) X dX8_greatestDivisor_22 (i := 2) rfl 2 rfl ?_
          refine x_lstore_n (lv' := [(0, .long l2), (5, .long (l0 - l0 / l2 * l2)), (2, .long l2), (4, .int i4)]) (pc := 23) X dX8_greatestDivisor_23 (i := 0) rfl (by decide) rfl ?_
          refine x_lload (pc := 24) X dX8_greatestDivisor_24 1 rfl ?_
          refine x_lstore_n (lv' := [(2, .long (l0 - l0 / l2 * l2)), (0, .long l2), (5, .long (l0 - l0 / l2 * l2)), (4, .int i4)]) (pc := 26) X dX8_greatestDivisor_26 (i := 2) rfl (by decide) rfl ?_
          refine x_iinc (v := i4 + 1) (lv' := [(4, .int (i4 + 1)), (2, .long (l0 - l0 / l2 * l2)), (0, .long l2), (5, .long (l0 - l0 / l2 * l2))]) (pc := 27) X dX8_greatestDivisor_27 3 rfl rfl (by decide) rfl ?_
          refine x_goto (tgt := 3) (pc := 30) X dX8_greatestDivisor_30 (by decide) ?_
          exact XW.sub [2, 1, 0] rfl (ih3 _ _ _ h)
  refine x_iconst (v := 0) (pc := 0) X dX8_greatestDivisor_0 (by decide) ?_
  refine x_istore (lv' := [(4, .int 0), (0, .long l0), (2, .long l2)]) (pc := 1) X dX8_greatestDivisor_1 (by decide) rfl ?_
  exact XW.sub [1, 2, 0] rfl (hL3 _ _ _ _ h)
theorem dX8_largeBehindDay_0 : decode cX8_largeBehindDay 0 = .ok (.iload_n 0, 1) := by decide +kernel
theorem dX8_largeBehindDay_1 : decode cX8_largeBehindDay 1 = .ok (.iconst 1, 1) := by decide +kernel
theorem dX8_largeBehindDay_2 : decode cX8_largeBehindDay 2 = .ok (.if_icmp .eq 14, 3) := by decide +kernel
theorem dX8_largeBehindDay_5 : decode cX8_largeBehindDay 5 = .ok (.iload_n 0, 1) := by decide +kernel
theorem dX8_largeBehindDay_6 : decode cX8_largeBehindDay 6 = .ok (.iconst 3, 1) := by decide +kernel
theorem dX8_largeBehindDay_7 : decode cX8_largeBehindDay 7 = .ok (.if_icmp .ne 13, 3) := by decide +kernel
theorem dX8_largeBehindDay_10 : decode cX8_largeBehindDay 10 = .ok (.iload_n 2, 1) := by decide +kernel
theorem dX8_largeBehindDay_11 : decode cX8_largeBehindDay 11 = .ok (.iconst 2, 1) := by decide +kernel
theorem dX8_largeBehindDay_12 : decode cX8_largeBehindDay 12 = .ok (.irem, 1) := by decide +kernel
theorem dX8_largeBehindDay_13 : decode cX8_largeBehindDay 13 = .ok (.ifCond .ne 7, 3) := by decide +kernel
theorem dX8_largeBehindDay_16 : decode cX8_largeBehindDay 16 = .ok (.iconst 1, 1) := by decide +kernel
theorem dX8_largeBehindDay_17 : decode cX8_largeBehindDay 17 = .ok (.goto 4, 3) := by decide +kernel
theorem dX8_largeBehindDay_20 : decode cX8_largeBehindDay 20 = .ok (.iconst 0, 1) := by decide +kernel
theorem dX8_largeBehindDay_21 : decode cX8_largeBehindDay 21 = .ok (.istore_n 3, 1) := by decide +kernel
theorem dX8_largeBehindDay_22 : decode cX8_largeBehindDay 22 = .ok (.iload_n 0, 1) := by decide +kernel
theorem dX8_largeBehindDay_23 : decode cX8_largeBehindDay 23 = .ok (.iconst 2, 1) := by decide +kernel
theorem dX8_largeBehindDay_24 : decode cX8_largeBehindDay 24 = .ok (.if_icmp .eq 14, 3) := by decide +kernel
theorem dX8_largeBehindDay_27 : decode cX8_largeBehindDay 27 = .ok (.iload_n 0, 1) := by decide +kernel
theorem dX8_largeBehindDay_28 : decode cX8_largeBehindDay 28 = .ok (.iconst 3, 1) := by decide +kernel
theorem dX8_largeBehindDay_29 : decode cX8_largeBehindDay 29 = .ok (.if_icmp .ne 13, 3) := by decide +kernel
theorem dX8_largeBehindDay_32 : decode cX8_largeBehindDay 32 = .ok (.iload_n 2, 1) := by decide +kernel
theorem dX8_largeBehindDay_33 : decode cX8_largeBehindDay 33 = .ok (.iconst 2, 1) := by decide +kernel
theorem dX8_largeBehindDay_34 : decode cX8_largeBehindDay 34 = .ok (.irem, 1) := by decide +kernel
theorem dX8_largeBehindDay_35 : decode cX8_largeBehindDay 35 = .ok (.ifCond .eq 7, 3) := by decide +kernel
theorem dX8_largeBehindDay_38 : decode cX8_largeBehindDay 38 = .ok (.iconst 1, 1) := by decide +kernel
theorem dX8_largeBehindDay_39 : decode cX8_largeBehindDay 39 = .ok (.goto 4, 3) := by decide +kernel
theorem dX8_largeBehindDay_42 : decode cX8_largeBehindDay 42 = .ok (.iconst 0, 1) := by decide +kernel
theorem dX8_largeBehindDay_43 : decode cX8_largeBehindDay 43 = .ok (.istore 4, 2) := by decide +kernel
theorem dX8_largeBehindDay_45 : decode cX8_largeBehindDay 45 = .ok (.iload_n 3, 1) := by decide +kernel
theorem dX8_largeBehindDay_46 : decode cX8_largeBehindDay 46 = .ok (.ifCond .eq 12, 3) := by decide +kernel
theorem dX8_largeBehindDay_49 : decode cX8_largeBehindDay 49 = .ok (.bipush 40, 2) := by decide +kernel
theorem dX8_largeBehindDay_51 : decode cX8_largeBehindDay 51 = .ok (.iload_n 1, 1) := by decide +kernel
theorem dX8_largeBehindDay_52 : decode cX8_largeBehindDay 52 = .ok (.iconst 1, 1) := by decide +kernel
theorem dX8_largeBehindDay_53 : decode cX8_largeBehindDay 53 = .ok (.iadd, 1) := by decide +kernel
theorem dX8_largeBehindDay_54 : decode cX8_largeBehindDay 54 = .ok (.invokestatic 323, 3) := by decide +kernel
theorem dX8_largeBehindDay_57 : decode cX8_largeBehindDay 57 = .ok (.ireturn, 1) := by decide +kernel
theorem dX8_largeBehindDay_58 : decode cX8_largeBehindDay 58 = .ok (.iload 4, 2) := by decide +kernel
theorem dX8_largeBehindDay_60 : decode cX8_largeBehindDay 60 = .ok (.ifCond .eq 9, 3) := by decide +kernel
theorem dX8_largeBehindDay_63 : decode cX8_largeBehindDay 63 = .ok (.iload_n 1, 1) := by decide +kernel
theorem dX8_largeBehindDay_64 : decode cX8_largeBehindDay 64 = .ok (.iconst 1, 1) := by decide +kernel
theorem dX8_largeBehindDay_65 : decode cX8_largeBehindDay 65 = .ok (.isub, 1) := by decide +kernel
theorem dX8_largeBehindDay_66 : decode cX8_largeBehindDay 66 = .ok (.goto 4, 3) := by decide +kernel
theorem dX8_largeBehindDay_69 : decode cX8_largeBehindDay 69 = .ok (.iload_n 1, 1) := by decide +kernel
theorem dX8_largeBehindDay_70 : decode cX8_largeBehindDay 70 = .ok (.ireturn, 1) := by decide +kernel
def f_H_largeBehindDay_43 (N nx : Nat) (D : Dt) (P : Ft) (i1 : Int32) (i3 : Int32) (s0 : Int32) : Option Int32 :=
  if i3 = 0 then
    if s0 = 0 then
      some i1
    else
      some (i1 - 1)
  else
    some (if i1 + 1 < 40 then i1 + 1 else 40)
def f_H_largeBehindDay_21 (N nx : Nat) (D : Dt) (P : Ft) (i0 : Int32) (i1 : Int32) (i2 : Int32) (s0 : Int32) : Option Int32 :=
  if i0 = 2 then
    f_H_largeBehindDay_43 N nx D P i1 s0 1
  else
    if i0 = 3 then
      if i2 - i2 / 2 * 2 = 0 then
        f_H_largeBehindDay_43 N nx D P i1 s0 0
      else
        f_H_largeBehindDay_43 N nx D P i1 s0 1
    else
      f_H_largeBehindDay_43 N nx D P i1 s0 0
def f_H_largeBehindDay (N nx : Nat) (D : Dt) (P : Ft) (i0 : Int32) (i1 : Int32) (i2 : Int32) : Option Int32 :=
  if i0 = 1 then
    f_H_largeBehindDay_21 N nx D P i0 i1 i2 1
  else
    if i0 = 3 then
      if i2 - i2 / 2 * 2 = 0 then
        f_H_largeBehindDay_21 N nx D P i0 i1 i2 1
      else
        f_H_largeBehindDay_21 N nx D P i0 i1 i2 0
    else
      f_H_largeBehindDay_21 N nx D P i0 i1 i2 0
theorem m_H_largeBehindDay : MS yX8_largeBehindDay cX8_largeBehindDay 5 (some .int) 3 := ⟨mT 616 (by decide +kernel) rfl, mT 615 (by decide +kernel) rfl, mT 54 (by decide +kernel) rfl, by decide +kernel, by decide +kernel, by decide +kernel⟩
set_option maxHeartbeats 4000000 in
set_option maxRecDepth 100000 in
theorem c_H_largeBehindDay (l : Launch) (cx : Cx) (nx N : Nat) (D : Dt) (P : Ft) (i0 : Int32) (i1 : Int32) (i2 : Int32) (z : Int32) (h : f_H_largeBehindDay N nx D P i0 i1 i2 = some z) : Ct l cx yX8_largeBehindDay cX8_largeBehindDay 5 (some .int) 1 [.int i0, .int i1, .int i2] D P nx (some (.int z)) D P := by
  refine x_met0 (by decide) (Nat.le_of_ble_eq_true rfl) ?_
  intro p e s m args below meth c X
  have X : XC p s m args meth c cx cX8_largeBehindDay 5 (some .int) "HeartPins" "largeBehindDay" := X
  refine XW.sub (lv' := [(0, .int i0), (1, .int i1), (2, .int i2)]) [0, 1, 2] rfl ?_
  unfold f_H_largeBehindDay at h
  have hJ43 : ∀ (i3 : Int32) (s0 : Int32), f_H_largeBehindDay_43 N nx D P i1 i3 s0 = some z → XW p l e (rmk 1) s m args below meth c (MQ below (Qx cx (some (.int z)) D P nx) args s 0 0 (AA cx)) cx 5 D P nx 0 0 43 [(1, .int i1), (3, .int i3)] [.int s0] := by
    intro i3 s0 h
    unfold f_H_largeBehindDay_43 at h
    refine x_istore (lv' := [(4, .int s0), (1, .int i1), (3, .int i3)]) (pc := 43) X dX8_largeBehindDay_43 (by decide) rfl ?_
    refine x_iload_n (pc := 45) X dX8_largeBehindDay_45 (i := 3) rfl 2 rfl ?_
    refine x_if_eq (tgt := 58) (pc := 46) X dX8_largeBehindDay_46 (by decide) (fun c2 => ?_) (fun c2 => ?_)
    · have h := ite_t c2 h
      refine x_iload (pc := 58) X dX8_largeBehindDay_58 0 rfl ?_
      refine x_if_eq (tgt := 69) (pc := 60) X dX8_largeBehindDay_60 (by decide) (fun c1 => ?_) (fun c1 => ?_)
      · have h := ite_t c1 h
        refine x_iload_n (pc := 69) X dX8_largeBehindDay_69 (i := 1) rfl 1 rfl ?_
        obtain rfl := Option.some.inj h
        exact x_iret (pc := 70) X dX8_largeBehindDay_70
      · have h := ite_f c1 h
        refine x_iload_n (pc := 63) X dX8_largeBehindDay_63 (i := 1) rfl 1 rfl ?_
        refine x_iconst (v := 1) (pc := 64) X dX8_largeBehindDay_64 (by decide) ?_
        refine x_isub (pc := 65) X dX8_largeBehindDay_65 ?_
        refine x_goto (tgt := 70) (pc := 66) X dX8_largeBehindDay_66 (by decide) ?_
        obtain rfl := Option.some.inj h
        exact x_iret (pc := 70) X dX8_largeBehindDay_70
    · have h := ite_f c2 h
      refine x_bipush (v := 40) (pc := 49) X dX8_largeBehindDay_49 (by decide) ?_
      refine x_iload_n (pc := 51) X dX8_largeBehindDay_51 (i := 1) rfl 1 rfl ?_
      refine x_iconst (v := 1) (pc := 52) X dX8_largeBehindDay_52 (by decide) ?_
      refine x_iadd (pc := 53) X dX8_largeBehindDay_53 ?_
      refine x_mmin (pc := 54) X dX8_largeBehindDay_54 w_617 ⟨by decide, by decide⟩ ⟨Nat.zero_le _, Nat.zero_le _⟩ (Nat.le_of_ble_eq_true rfl) ?_
      obtain rfl := Option.some.inj h
      exact x_iret (pc := 57) X dX8_largeBehindDay_57
  have hJ21 : ∀ (s0 : Int32), f_H_largeBehindDay_21 N nx D P i0 i1 i2 s0 = some z → XW p l e (rmk 1) s m args below meth c (MQ below (Qx cx (some (.int z)) D P nx) args s 0 0 (AA cx)) cx 5 D P nx 0 0 21 [(0, .int i0), (1, .int i1), (2, .int i2)] [.int s0] := by
    intro s0 h
    unfold f_H_largeBehindDay_21 at h
    refine x_istore_n (lv' := [(3, .int s0), (0, .int i0), (1, .int i1), (2, .int i2)]) (pc := 21) X dX8_largeBehindDay_21 (i := 3) rfl (by decide) rfl ?_
    refine x_iload_n (pc := 22) X dX8_largeBehindDay_22 (i := 0) rfl 1 rfl ?_
    refine x_iconst (v := 2) (pc := 23) X dX8_largeBehindDay_23 (by decide) ?_
    refine x_icmp_eq (tgt := 38) (pc := 24) X dX8_largeBehindDay_24 (by decide) (fun c6 => ?_) (fun c6 => ?_)
    · have h := ite_t c6 h
      refine x_iconst (v := 1) (pc := 38) X dX8_largeBehindDay_38 (by decide) ?_
      refine x_goto (tgt := 43) (pc := 39) X dX8_largeBehindDay_39 (by decide) ?_
      exact XW.sub [2, 0] rfl (hJ43 _ _ h)
    · have h := ite_f c6 h
      refine x_iload_n (pc := 27) X dX8_largeBehindDay_27 (i := 0) rfl 1 rfl ?_
      refine x_iconst (v := 3) (pc := 28) X dX8_largeBehindDay_28 (by decide) ?_
      refine x_icmp_ne (tgt := 42) (pc := 29) X dX8_largeBehindDay_29 (by decide) (fun c5 => ?_) (fun c5 => ?_)
      · have h := ite_f c5 h
        refine x_iconst (v := 0) (pc := 42) X dX8_largeBehindDay_42 (by decide) ?_
        exact XW.sub [2, 0] rfl (hJ43 _ _ h)
      · have h := ite_t c5 h
        refine x_iload_n (pc := 32) X dX8_largeBehindDay_32 (i := 2) rfl 3 rfl ?_
        refine x_iconst (v := 2) (pc := 33) X dX8_largeBehindDay_33 (by decide) ?_
        refine x_irem (pc := 34) X dX8_largeBehindDay_34 (by decide) ?_
        refine x_if_eq (tgt := 42) (pc := 35) X dX8_largeBehindDay_35 (by decide) (fun c4 => ?_) (fun c4 => ?_)
        · have h := ite_t c4 h
          refine x_iconst (v := 0) (pc := 42) X dX8_largeBehindDay_42 (by decide) ?_
          exact XW.sub [2, 0] rfl (hJ43 _ _ h)
        · have h := ite_f c4 h
          refine x_iconst (v := 1) (pc := 38) X dX8_largeBehindDay_38 (by decide) ?_
          refine x_goto (tgt := 43) (pc := 39) X dX8_largeBehindDay_39 (by decide) ?_
          exact XW.sub [2, 0] rfl (hJ43 _ _ h)
  refine x_iload_n (pc := 0) X dX8_largeBehindDay_0 (i := 0) rfl 0 rfl ?_
  refine x_iconst (v := 1) (pc := 1) X dX8_largeBehindDay_1 (by decide) ?_
  refine x_icmp_eq (tgt := 16) (pc := 2) X dX8_largeBehindDay_2 (by decide) (fun c10 => ?_) (fun c10 => ?_)
  · have h := ite_t c10 h
    refine x_iconst (v := 1) (pc := 16) X dX8_largeBehindDay_16 (by decide) ?_
    refine x_goto (tgt := 21) (pc := 17) X dX8_largeBehindDay_17 (by decide) ?_
    exact XW.sub [0, 1, 2] rfl (hJ21 _ h)
  · have h := ite_f c10 h
    refine x_iload_n (pc := 5) X dX8_largeBehindDay_5 (i := 0) rfl 0 rfl ?_
    refine x_iconst (v := 3) (pc := 6) X dX8_largeBehindDay_6 (by decide) ?_
    refine x_icmp_ne (tgt := 20) (pc := 7) X dX8_largeBehindDay_7 (by decide) (fun c9 => ?_) (fun c9 => ?_)
    · have h := ite_f c9 h
      refine x_iconst (v := 0) (pc := 20) X dX8_largeBehindDay_20 (by decide) ?_
      exact XW.sub [0, 1, 2] rfl (hJ21 _ h)
    · have h := ite_t c9 h
      refine x_iload_n (pc := 10) X dX8_largeBehindDay_10 (i := 2) rfl 2 rfl ?_
      refine x_iconst (v := 2) (pc := 11) X dX8_largeBehindDay_11 (by decide) ?_
      refine x_irem (pc := 12) X dX8_largeBehindDay_12 (by decide) ?_
      refine x_if_ne (tgt := 20) (pc := 13) X dX8_largeBehindDay_13 (by decide) (fun c8 => ?_) (fun c8 => ?_)
      · have h := ite_f c8 h
        refine x_iconst (v := 0) (pc := 20) X dX8_largeBehindDay_20 (by decide) ?_
        exact XW.sub [0, 1, 2] rfl (hJ21 _ h)
      · have h := ite_t c8 h
        refine x_iconst (v := 1) (pc := 16) X dX8_largeBehindDay_16 (by decide) ?_
        refine x_goto (tgt := 21) (pc := 17) X dX8_largeBehindDay_17 (by decide) ?_
        exact XW.sub [0, 1, 2] rfl (hJ21 _ h)
theorem dX8_largeBehind_0 : decode cX8_largeBehind 0 = .ok (.iload_n 1, 1) := by decide +kernel
theorem dX8_largeBehind_1 : decode cX8_largeBehind 1 = .ok (.istore 4, 2) := by decide +kernel
theorem dX8_largeBehind_3 : decode cX8_largeBehind 3 = .ok (.iconst 0, 1) := by decide +kernel
theorem dX8_largeBehind_4 : decode cX8_largeBehind 4 = .ok (.istore 5, 2) := by decide +kernel
theorem dX8_largeBehind_6 : decode cX8_largeBehind 6 = .ok (.iload 5, 2) := by decide +kernel
theorem dX8_largeBehind_8 : decode cX8_largeBehind 8 = .ok (.iload_n 3, 1) := by decide +kernel
theorem dX8_largeBehind_9 : decode cX8_largeBehind 9 = .ok (.if_icmp .ge 26, 3) := by decide +kernel
theorem dX8_largeBehind_12 : decode cX8_largeBehind 12 = .ok (.iload 4, 2) := by decide +kernel
theorem dX8_largeBehind_14 : decode cX8_largeBehind 14 = .ok (.ifCond .le 21, 3) := by decide +kernel
theorem dX8_largeBehind_17 : decode cX8_largeBehind 17 = .ok (.iload_n 0, 1) := by decide +kernel
theorem dX8_largeBehind_18 : decode cX8_largeBehind 18 = .ok (.iload 4, 2) := by decide +kernel
theorem dX8_largeBehind_20 : decode cX8_largeBehind 20 = .ok (.iload_n 2, 1) := by decide +kernel
theorem dX8_largeBehind_21 : decode cX8_largeBehind 21 = .ok (.iload 5, 2) := by decide +kernel
theorem dX8_largeBehind_23 : decode cX8_largeBehind 23 = .ok (.iadd, 1) := by decide +kernel
theorem dX8_largeBehind_24 : decode cX8_largeBehind 24 = .ok (.invokestatic 328, 3) := by decide +kernel
theorem dX8_largeBehind_27 : decode cX8_largeBehind 27 = .ok (.istore 4, 2) := by decide +kernel
theorem dX8_largeBehind_29 : decode cX8_largeBehind 29 = .ok (.iinc 5 1, 3) := by decide +kernel
theorem dX8_largeBehind_32 : decode cX8_largeBehind 32 = .ok (.goto (-26), 3) := by decide +kernel
theorem dX8_largeBehind_35 : decode cX8_largeBehind 35 = .ok (.iload 4, 2) := by decide +kernel
theorem dX8_largeBehind_37 : decode cX8_largeBehind 37 = .ok (.ireturn, 1) := by decide +kernel
def f_H_largeBehind_6 (N nx : Nat) (D : Dt) (P : Ft) (i0 : Int32) (i2 : Int32) (i3 : Int32) (rec6 : Int32 → Int32 → Option Int32) (i4 : Int32) (i5 : Int32) : Option Int32 :=
  if i3 ≤ i5 then
    some i4
  else
    if i4 ≤ 0 then
      some i4
    else
      (f_H_largeBehindDay N nx D P i0 i4 (i2 + i5)).bind fun z1 =>
      rec6 z1 (i5 + 1)
def f_H_largeBehind (N nx : Nat) (D : Dt) (P : Ft) (i0 : Int32) (i1 : Int32) (i2 : Int32) (i3 : Int32) : Option Int32 :=
  wk2 N (f_H_largeBehind_6 N nx D P i0 i2 i3) i1 0
theorem m_H_largeBehind : MS yX8_largeBehind cX8_largeBehind 6 (some .int) 4 := ⟨mT 760 (by decide +kernel) rfl, mT 759 (by decide +kernel) rfl, mT 54 (by decide +kernel) rfl, by decide +kernel, by decide +kernel, by decide +kernel⟩
set_option maxHeartbeats 4000000 in
set_option maxRecDepth 100000 in
theorem c_H_largeBehind (l : Launch) (cx : Cx) (nx N : Nat) (D : Dt) (P : Ft) (i0 : Int32) (i1 : Int32) (i2 : Int32) (i3 : Int32) (z : Int32) (h : f_H_largeBehind N nx D P i0 i1 i2 i3 = some z) : Ct l cx yX8_largeBehind cX8_largeBehind 6 (some .int) 2 [.int i0, .int i1, .int i2, .int i3] D P nx (some (.int z)) D P := by
  refine x_met0 (by decide) (Nat.le_of_ble_eq_true rfl) ?_
  intro p e s m args below meth c X
  have X : XC p s m args meth c cx cX8_largeBehind 6 (some .int) "HeartPins" "largeBehind" := X
  refine XW.sub (lv' := [(0, .int i0), (1, .int i1), (2, .int i2), (3, .int i3)]) [0, 1, 2, 3] rfl ?_
  unfold f_H_largeBehind at h
  have hL6 : ∀ (n : Nat) (i4 : Int32) (i5 : Int32), wk2 n (f_H_largeBehind_6 N nx D P i0 i2 i3) i4 i5 = some z → XW p l e (rmk 2) s m args below meth c (MQ below (Qx cx (some (.int z)) D P nx) args s 0 0 (AA cx)) cx 6 D P nx 0 0 6 [(0, .int i0), (2, .int i2), (3, .int i3), (4, .int i4), (5, .int i5)] [] := by
    intro n
    induction n with
    | zero => intro i4 i5 h; exact (nonz h).elim
    | succ n ih6 =>
      intro i4 i5 h
      have h : f_H_largeBehind_6 N nx D P i0 i2 i3 (wk2 n (f_H_largeBehind_6 N nx D P i0 i2 i3)) i4 i5 = some z := h
      generalize wk2 n (f_H_largeBehind_6 N nx D P i0 i2 i3) = rec6 at ih6 h
      unfold f_H_largeBehind_6 at h
      refine x_iload (pc := 6) X dX8_largeBehind_6 4 rfl ?_
      refine x_iload_n (pc := 8) X dX8_largeBehind_8 (i := 3) rfl 2 rfl ?_
      refine x_icmp_ge (tgt := 35) (pc := 9) X dX8_largeBehind_9 (by decide) (fun c3 => ?_) (fun c3 => ?_)
      · have h := ite_t c3 h
        refine x_iload (pc := 35) X dX8_largeBehind_35 3 rfl ?_
        obtain rfl := Option.some.inj h
        exact x_iret (pc := 37) X dX8_largeBehind_37
      · have h := ite_f c3 h
        refine x_iload (pc := 12) X dX8_largeBehind_12 3 rfl ?_
        refine x_if_le (tgt := 35) (pc := 14) X dX8_largeBehind_14 (by decide) (fun c2 => ?_) (fun c2 => ?_)
        · have h := ite_t c2 h
          refine x_iload (pc := 35) X dX8_largeBehind_35 3 rfl ?_
          obtain rfl := Option.some.inj h
          exact x_iret (pc := 37) X dX8_largeBehind_37
        · have h := ite_f c2 h
          refine x_iload_n (pc := 17) X dX8_largeBehind_17 (i := 0) rfl 0 rfl ?_
          refine x_iload (pc := 18) X dX8_largeBehind_18 3 rfl ?_
          refine x_iload_n (pc := 20) X dX8_largeBehind_20 (i := 2) rfl 1 rfl ?_
          refine x_iload (pc := 21) X dX8_largeBehind_21 4 rfl ?_
          refine x_iadd (pc := 23) X dX8_largeBehind_23 ?_
          obtain ⟨z1, e1, h⟩ := bnds h
          refine x_callS (pc := 24) (As := [.int i0, .int i4, .int (i2 + i5)]) (st := []) (st' := [.int z1]) X (c_H_largeBehindDay l cx nx N D P _ _ _ z1 e1) dX8_largeBehind_24 w_761 m_H_largeBehindDay rfl ⟨by decide, by decide⟩ ⟨Nat.zero_le _, Nat.zero_le _⟩ rfl (Nat.le_of_ble_eq_true rfl) rfl ?_
          refine x_istore (lv' := [(4, .int z1), (0, .int i0), (2, .int i2), (3, .int i3), (5, .int i5)]) (pc := 27) X dX8_largeBehind_27 (by decide) rfl ?_
          refine x_iinc (v := i5 + 1) (lv' := [(5, .int (i5 + 1)), (4, .int z1), (0, .int i0), (2, .int i2), (3, .int i3)]) (pc := 29) X dX8_largeBehind_29 4 rfl rfl (by decide) rfl ?_
          refine x_goto (tgt := 6) (pc := 32) X dX8_largeBehind_32 (by decide) ?_
          exact XW.sub [2, 3, 4, 1, 0] rfl (ih6 _ _ h)
  refine x_iload_n (pc := 0) X dX8_largeBehind_0 (i := 1) rfl 1 rfl ?_
  refine x_istore (lv' := [(4, .int i1), (0, .int i0), (1, .int i1), (2, .int i2), (3, .int i3)]) (pc := 1) X dX8_largeBehind_1 (by decide) rfl ?_
  refine x_iconst (v := 0) (pc := 3) X dX8_largeBehind_3 (by decide) ?_
  refine x_istore (lv' := [(5, .int 0), (4, .int i1), (0, .int i0), (1, .int i1), (2, .int i2), (3, .int i3)]) (pc := 4) X dX8_largeBehind_4 (by decide) rfl ?_
  exact XW.sub [2, 4, 5, 1, 0] rfl (hL6 _ _ _ h)
