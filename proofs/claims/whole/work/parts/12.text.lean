theorem w_84 : Cond.fieldLink "HeartPins$Letters" 9 "HeartPins$Letters" "letters" "[C" ∈ wT := mT 84 (by decide +kernel) rfl
theorem w_85 : Cond.fieldLink "HeartPins$Letters" 15 "HeartPins$Letters" "numbers" "[I" ∈ wT := mT 85 (by decide +kernel) rfl
theorem w_86 : Cond.fieldLink "HeartPins$Letters" 19 "HeartPins$Letters" "length" "I" ∈ wT := mT 86 (by decide +kernel) rfl
theorem w_88 : Cond.fieldLink "HeartPins$Letters" 32 "HeartPins$Letters" "at" "I" ∈ wT := mT 88 (by decide +kernel) rfl
theorem w_356 : Cond.methodLink "HeartPins$Letters" 27 ⟨"HeartPins$Family", "clear", "()V"⟩ ∈ wT := mT 356 (by decide +kernel) rfl
theorem w_360 : Cond.methodLink "HeartPins$Letters" 35 ⟨"HeartPins$Letters", "readItem", "(LHeartPins$Family;)Z"⟩ ∈ wT := mT 360 (by decide +kernel) rfl
theorem w_364 : Cond.methodLink "HeartPins$Letters" 39 ⟨"HeartPins$Letters", "letterAt", "(I)C"⟩ ∈ wT := mT 364 (by decide +kernel) rfl
theorem w_368 : Cond.methodLink "HeartPins$Letters" 43 ⟨"HeartPins$Letters", "readNumbers", "(I)Z"⟩ ∈ wT := mT 368 (by decide +kernel) rfl
theorem w_372 : Cond.methodLink "HeartPins$Letters" 56 ⟨"HeartPins$Letters", "readNumber", "()I"⟩ ∈ wT := mT 372 (by decide +kernel) rfl
theorem w_376 : Cond.methodLink "HeartPins$Letters" 60 ⟨"HeartPins$Letters", "figureAt", "(I)I"⟩ ∈ wT := mT 376 (by decide +kernel) rfl
theorem w_380 : Cond.methodLink "HeartPins$Letters" 47 ⟨"HeartPins$Family", "addPerson", "(I)Z"⟩ ∈ wT := mT 380 (by decide +kernel) rfl
theorem w_385 : Cond.methodLink "HeartPins$Letters" 50 ⟨"HeartPins$Family", "addPin", "(III)Z"⟩ ∈ wT := mT 385 (by decide +kernel) rfl
theorem w_393 : Cond.methodLink "HeartPins$Letters" 53 ⟨"HeartPins$Family", "setHeart", "(III)Z"⟩ ∈ wT := mT 393 (by decide +kernel) rfl
theorem dX2_add_0 : decode cX2_add 0 = .ok (.aload_n 0, 1) := by decide +kernel
theorem dX2_add_1 : decode cX2_add 1 = .ok (.getfield 19, 3) := by decide +kernel
theorem dX2_add_4 : decode cX2_add 4 = .ok (.iconst 0, 1) := by decide +kernel
theorem dX2_add_5 : decode cX2_add 5 = .ok (.sipush 199, 3) := by decide +kernel
theorem dX2_add_8 : decode cX2_add 8 = .ok (.invokestatic 23, 3) := by decide +kernel
theorem dX2_add_11 : decode cX2_add 11 = .ok (.ifCond .ne 5, 3) := by decide +kernel
theorem dX2_add_14 : decode cX2_add 14 = .ok (.iconst 0, 1) := by decide +kernel
theorem dX2_add_15 : decode cX2_add 15 = .ok (.ireturn, 1) := by decide +kernel
theorem dX2_add_16 : decode cX2_add 16 = .ok (.aload_n 0, 1) := by decide +kernel
theorem dX2_add_17 : decode cX2_add 17 = .ok (.getfield 9, 3) := by decide +kernel
theorem dX2_add_20 : decode cX2_add 20 = .ok (.aload_n 0, 1) := by decide +kernel
theorem dX2_add_21 : decode cX2_add 21 = .ok (.getfield 19, 3) := by decide +kernel
theorem dX2_add_24 : decode cX2_add 24 = .ok (.iload_n 1, 1) := by decide +kernel
theorem dX2_add_25 : decode cX2_add 25 = .ok (.castore, 1) := by decide +kernel
theorem dX2_add_26 : decode cX2_add 26 = .ok (.aload_n 0, 1) := by decide +kernel
theorem dX2_add_27 : decode cX2_add 27 = .ok (.dup, 1) := by decide +kernel
theorem dX2_add_28 : decode cX2_add 28 = .ok (.getfield 19, 3) := by decide +kernel
theorem dX2_add_31 : decode cX2_add 31 = .ok (.iconst 1, 1) := by decide +kernel
theorem dX2_add_32 : decode cX2_add 32 = .ok (.iadd, 1) := by decide +kernel
theorem dX2_add_33 : decode cX2_add 33 = .ok (.putfield 19, 3) := by decide +kernel
theorem dX2_add_36 : decode cX2_add 36 = .ok (.iconst 1, 1) := by decide +kernel
theorem dX2_add_37 : decode cX2_add 37 = .ok (.ireturn, 1) := by decide +kernel
def f_T_add (N nx : Nat) (D : Dt) (P : Ft) (a0 : Nat) (i1 : Int32) : Option (Int32 × Dt) :=
  if kd nx a0 = 2 then
  (f_H_isWithin N nx D P (D a0 2) 0 199).bind fun z1 =>
  if z1 = 0 then
    some (0, D)
  else
    nn (P a0 0) fun q2 =>
    if ab nx q2 2 (D a0 2) = true then
    pas (upd2 D q2 (D a0 2).toNatClampNeg (vp_nar .char i1)) fun D3 =>
    pas (upd2 D3 a0 2 ((D3 a0 2) + 1)) fun D4 =>
    some (1, D4)
    else none
  else none
theorem m_T_add : MV yX2_add cX2_add 2 (some .boolean) 1 := ⟨mT 344 (by decide +kernel) rfl, mT 342 (by decide +kernel) rfl, mT 343 (by decide +kernel) rfl, mT 55 (by decide +kernel) rfl, by decide +kernel, by decide +kernel, by decide +kernel⟩
set_option maxHeartbeats 4000000 in
set_option maxRecDepth 100000 in
theorem c_T_add (l : Launch) (cx : Cx) (nx N : Nat) (D : Dt) (P : Ft) (a0 : Nat) (i1 : Int32) (z : Int32 × Dt) (h : f_T_add N nx D P a0 i1 = some z) : Ct l cx yX2_add cX2_add 2 (some .boolean) 1 [.ref (cx.2.2 + a0), .int i1] D P nx (some (.int z.1)) z.2 P := by
  refine x_met0 (by decide) (Nat.le_of_ble_eq_true rfl) ?_
  intro p e s m args below meth c X
  have X : XC p s m args meth c cx cX2_add 2 (some .boolean) "HeartPins$Letters" "add" := X
  refine XW.sub (lv' := [(0, .ref (cx.2.2 + a0)), (1, .int i1)]) [0, 1] rfl ?_
  unfold f_T_add at h
  obtain ⟨hk0, h⟩ := grd h
  refine x_aload_n (pc := 0) X dX2_add_0 (i := 0) rfl 0 rfl ?_
  refine x_geti (ci := 2) (k := 2) (n := 4) (C := RX2) (T := TX2) (pc := 1) X dX2_add_1 hk0 rfl (by decide) w_86 rfl ?_
  refine x_iconst (v := 0) (pc := 4) X dX2_add_4 (by decide) ?_
  refine x_sipush (v := 199) (pc := 5) X dX2_add_5 (by decide) ?_
  obtain ⟨z1, e1, h⟩ := bnds h
  refine x_callSN (pc := 8) (As := [.int (D a0 2), .int 0, .int 199]) (st := []) (st' := [.int z1]) (host := "HeartPins") X (c_H_isWithin l cx nx N D P _ _ _ z1 e1) dX2_add_8 (List.mem_of_getElem? (i := 5) rfl) m_H_isWithin rfl ⟨by decide, by decide⟩ ⟨Nat.zero_le _, Nat.zero_le _⟩ rfl (Nat.le_of_ble_eq_true rfl) rfl ?_
  refine x_if_ne (tgt := 16) (pc := 11) X dX2_add_11 (by decide) (fun c5 => ?_) (fun c5 => ?_)
  · have h := ite_f c5 h
    refine x_aload_n (pc := 16) X dX2_add_16 (i := 0) rfl 0 rfl ?_
    obtain ⟨q2, e2, h⟩ := nns h
    refine x_getr (ci := 2) (k := 0) (n := 4) (C := RX2) (T := TX2) (pc := 17) X dX2_add_17 hk0 rfl (by decide) w_84 rfl e2 ?_
    refine x_aload_n (pc := 20) X dX2_add_20 (i := 0) rfl 0 rfl ?_
    refine x_geti (ci := 2) (k := 2) (n := 4) (C := RX2) (T := TX2) (pc := 21) X dX2_add_21 hk0 rfl (by decide) w_86 rfl ?_
    refine x_iload_n (pc := 24) X dX2_add_24 (i := 1) rfl 1 rfl ?_
    obtain ⟨g3, h⟩ := grd h
    obtain ⟨D3, w3, h⟩ := pass h
    refine x_cast (D' := D3) (pc := 25) X dX2_add_25 g3 w3 ?_
    refine x_aload_n (pc := 26) X dX2_add_26 (i := 0) rfl 0 rfl ?_
    refine x_dup (pc := 27) X dX2_add_27 rfl ?_
    refine x_geti (ci := 2) (k := 2) (n := 4) (C := RX2) (T := TX2) (pc := 28) X dX2_add_28 hk0 rfl (by decide) w_86 rfl ?_
    refine x_iconst (v := 1) (pc := 31) X dX2_add_31 (by decide) ?_
    refine x_iadd (pc := 32) X dX2_add_32 ?_
    obtain ⟨D4, w4, h⟩ := pass h
    refine x_puti (ci := 2) (k := 2) (n := 4) (C := RX2) (T := TX2) (D' := D4) (pc := 33) X dX2_add_33 hk0 rfl (by decide) w_86 rfl (by decide +kernel) rfl w4 ?_
    refine x_iconst (v := 1) (pc := 36) X dX2_add_36 (by decide) ?_
    obtain rfl := Option.some.inj h
    exact x_zret (pc := 37) X dX2_add_37 (Or.inr rfl)
  · have h := ite_t c5 h
    refine x_iconst (v := 0) (pc := 14) X dX2_add_14 (by decide) ?_
    obtain rfl := Option.some.inj h
    exact x_zret (pc := 15) X dX2_add_15 (Or.inl rfl)
theorem dX2_clear_0 : decode cX2_clear 0 = .ok (.aload_n 0, 1) := by decide +kernel
theorem dX2_clear_1 : decode cX2_clear 1 = .ok (.iconst 0, 1) := by decide +kernel
theorem dX2_clear_2 : decode cX2_clear 2 = .ok (.putfield 19, 3) := by decide +kernel
theorem dX2_clear_5 : decode cX2_clear 5 = .ok (.return_, 1) := by decide +kernel
def f_T_clear (N nx : Nat) (D : Dt) (P : Ft) (a0 : Nat) : Option Dt :=
  if kd nx a0 = 2 then
  pas (upd2 D a0 2 0) fun D1 =>
  some D1
  else none
theorem m_T_clear : MV yX2_clear cX2_clear 1 none 0 := ⟨mT 420 (by decide +kernel) rfl, mT 418 (by decide +kernel) rfl, mT 419 (by decide +kernel) rfl, mT 55 (by decide +kernel) rfl, by decide +kernel, by decide +kernel, by decide +kernel⟩
set_option maxHeartbeats 4000000 in
set_option maxRecDepth 100000 in
theorem c_T_clear (l : Launch) (cx : Cx) (nx N : Nat) (D : Dt) (P : Ft) (a0 : Nat) (z : Dt) (h : f_T_clear N nx D P a0 = some z) : Ct l cx yX2_clear cX2_clear 1 none 0 [.ref (cx.2.2 + a0)] D P nx none z P := by
  refine x_met0 (by decide) (Nat.le_of_ble_eq_true rfl) ?_
  intro p e s m args below meth c X
  have X : XC p s m args meth c cx cX2_clear 1 none "HeartPins$Letters" "clear" := X
  refine XW.sub (lv' := [(0, .ref (cx.2.2 + a0))]) [0] rfl ?_
  unfold f_T_clear at h
  obtain ⟨hk0, h⟩ := grd h
  refine x_aload_n (pc := 0) X dX2_clear_0 (i := 0) rfl 0 rfl ?_
  refine x_iconst (v := 0) (pc := 1) X dX2_clear_1 (by decide) ?_
  obtain ⟨D1, w1, h⟩ := pass h
  refine x_puti (ci := 2) (k := 2) (n := 4) (C := RX2) (T := TX2) (D' := D1) (pc := 2) X dX2_clear_2 hk0 rfl (by decide) w_86 rfl (by decide +kernel) rfl w1 ?_
  obtain rfl := Option.some.inj h
  exact x_vret (pc := 5) X dX2_clear_5
theorem dX2_letterAt_0 : decode cX2_letterAt 0 = .ok (.iload_n 1, 1) := by decide +kernel
theorem dX2_letterAt_1 : decode cX2_letterAt 1 = .ok (.ifCond .lt 27, 3) := by decide +kernel
theorem dX2_letterAt_4 : decode cX2_letterAt 4 = .ok (.iload_n 1, 1) := by decide +kernel
theorem dX2_letterAt_5 : decode cX2_letterAt 5 = .ok (.aload_n 0, 1) := by decide +kernel
theorem dX2_letterAt_6 : decode cX2_letterAt 6 = .ok (.getfield 19, 3) := by decide +kernel
theorem dX2_letterAt_9 : decode cX2_letterAt 9 = .ok (.if_icmp .ge 19, 3) := by decide +kernel
theorem dX2_letterAt_12 : decode cX2_letterAt 12 = .ok (.iload_n 1, 1) := by decide +kernel
theorem dX2_letterAt_13 : decode cX2_letterAt 13 = .ok (.sipush 200, 3) := by decide +kernel
theorem dX2_letterAt_16 : decode cX2_letterAt 16 = .ok (.if_icmp .ge 12, 3) := by decide +kernel
theorem dX2_letterAt_19 : decode cX2_letterAt 19 = .ok (.aload_n 0, 1) := by decide +kernel
theorem dX2_letterAt_20 : decode cX2_letterAt 20 = .ok (.getfield 9, 3) := by decide +kernel
theorem dX2_letterAt_23 : decode cX2_letterAt 23 = .ok (.iload_n 1, 1) := by decide +kernel
theorem dX2_letterAt_24 : decode cX2_letterAt 24 = .ok (.caload, 1) := by decide +kernel
theorem dX2_letterAt_25 : decode cX2_letterAt 25 = .ok (.goto 5, 3) := by decide +kernel
theorem dX2_letterAt_28 : decode cX2_letterAt 28 = .ok (.bipush 32, 2) := by decide +kernel
theorem dX2_letterAt_30 : decode cX2_letterAt 30 = .ok (.ireturn, 1) := by decide +kernel
def f_T_letterAt (N nx : Nat) (D : Dt) (P : Ft) (a0 : Nat) (i1 : Int32) : Option Int32 :=
  if kd nx a0 = 2 then
  if i1 < 0 then
    if (Int32.toUInt32 32 % 65536).toInt32 = 32 then
    some 32
    else none
  else
    if D a0 2 ≤ i1 then
      if (Int32.toUInt32 32 % 65536).toInt32 = 32 then
      some 32
      else none
    else
      if 200 ≤ i1 then
        if (Int32.toUInt32 32 % 65536).toInt32 = 32 then
        some 32
        else none
      else
        nn (P a0 0) fun q4 =>
        if ab nx q4 2 i1 = true then
        if (Int32.toUInt32 (D q4 i1.toNatClampNeg) % 65536).toInt32 = D q4 i1.toNatClampNeg then
        some (D q4 i1.toNatClampNeg)
        else none
        else none
  else none
theorem m_T_letterAt : MV yX2_letterAt cX2_letterAt 2 (some .char) 1 := ⟨mT 367 (by decide +kernel) rfl, mT 366 (by decide +kernel) rfl, mT 1 (by decide +kernel) rfl, mT 55 (by decide +kernel) rfl, by decide +kernel, by decide +kernel, by decide +kernel⟩
set_option maxHeartbeats 4000000 in
set_option maxRecDepth 100000 in
theorem c_T_letterAt (l : Launch) (cx : Cx) (nx N : Nat) (D : Dt) (P : Ft) (a0 : Nat) (i1 : Int32) (z : Int32) (h : f_T_letterAt N nx D P a0 i1 = some z) : Ct l cx yX2_letterAt cX2_letterAt 2 (some .char) 0 [.ref (cx.2.2 + a0), .int i1] D P nx (some (.int z)) D P := by
  refine x_met0 (by decide) (Nat.le_of_ble_eq_true rfl) ?_
  intro p e s m args below meth c X
  have X : XC p s m args meth c cx cX2_letterAt 2 (some .char) "HeartPins$Letters" "letterAt" := X
  refine XW.sub (lv' := [(0, .ref (cx.2.2 + a0)), (1, .int i1)]) [0, 1] rfl ?_
  unfold f_T_letterAt at h
  obtain ⟨hk0, h⟩ := grd h
  refine x_iload_n (pc := 0) X dX2_letterAt_0 (i := 1) rfl 1 rfl ?_
  refine x_if_lt (tgt := 28) (pc := 1) X dX2_letterAt_1 (by decide) (fun c9 => ?_) (fun c9 => ?_)
  · have h := ite_t c9 h
    refine x_bipush (v := 32) (pc := 28) X dX2_letterAt_28 (by decide) ?_
    obtain ⟨b1, h⟩ := grd h
    obtain rfl := Option.some.inj h
    exact x_cret (pc := 30) X dX2_letterAt_30 b1
  · have h := ite_f c9 h
    refine x_iload_n (pc := 4) X dX2_letterAt_4 (i := 1) rfl 1 rfl ?_
    refine x_aload_n (pc := 5) X dX2_letterAt_5 (i := 0) rfl 0 rfl ?_
    refine x_geti (ci := 2) (k := 2) (n := 4) (C := RX2) (T := TX2) (pc := 6) X dX2_letterAt_6 hk0 rfl (by decide) w_86 rfl ?_
    refine x_icmp_ge (tgt := 28) (pc := 9) X dX2_letterAt_9 (by decide) (fun c8 => ?_) (fun c8 => ?_)
    · have h := ite_t c8 h
      refine x_bipush (v := 32) (pc := 28) X dX2_letterAt_28 (by decide) ?_
      obtain ⟨b2, h⟩ := grd h
      obtain rfl := Option.some.inj h
      exact x_cret (pc := 30) X dX2_letterAt_30 b2
    · have h := ite_f c8 h
      refine x_iload_n (pc := 12) X dX2_letterAt_12 (i := 1) rfl 1 rfl ?_
      refine x_sipush (v := 200) (pc := 13) X dX2_letterAt_13 (by decide) ?_
      refine x_icmp_ge (tgt := 28) (pc := 16) X dX2_letterAt_16 (by decide) (fun c7 => ?_) (fun c7 => ?_)
      · have h := ite_t c7 h
        refine x_bipush (v := 32) (pc := 28) X dX2_letterAt_28 (by decide) ?_
        obtain ⟨b3, h⟩ := grd h
        obtain rfl := Option.some.inj h
        exact x_cret (pc := 30) X dX2_letterAt_30 b3
      · have h := ite_f c7 h
        refine x_aload_n (pc := 19) X dX2_letterAt_19 (i := 0) rfl 0 rfl ?_
        obtain ⟨q4, e4, h⟩ := nns h
        refine x_getr (ci := 2) (k := 0) (n := 4) (C := RX2) (T := TX2) (pc := 20) X dX2_letterAt_20 hk0 rfl (by decide) w_84 rfl e4 ?_
        refine x_iload_n (pc := 23) X dX2_letterAt_23 (i := 1) rfl 1 rfl ?_
        obtain ⟨g5, h⟩ := grd h
        refine x_cald (pc := 24) X dX2_letterAt_24 g5 ?_
        refine x_goto (tgt := 30) (pc := 25) X dX2_letterAt_25 (by decide) ?_
        obtain ⟨b6, h⟩ := grd h
        obtain rfl := Option.some.inj h
        exact x_cret (pc := 30) X dX2_letterAt_30 b6
theorem dX2_figureAt_0 : decode cX2_figureAt 0 = .ok (.aload_n 0, 1) := by decide +kernel
theorem dX2_figureAt_1 : decode cX2_figureAt 1 = .ok (.iload_n 1, 1) := by decide +kernel
theorem dX2_figureAt_2 : decode cX2_figureAt 2 = .ok (.invokevirtual 39, 3) := by decide +kernel
theorem dX2_figureAt_5 : decode cX2_figureAt 5 = .ok (.istore_n 2, 1) := by decide +kernel
theorem dX2_figureAt_6 : decode cX2_figureAt 6 = .ok (.iload_n 2, 1) := by decide +kernel
theorem dX2_figureAt_7 : decode cX2_figureAt 7 = .ok (.bipush 48, 2) := by decide +kernel
theorem dX2_figureAt_9 : decode cX2_figureAt 9 = .ok (.if_icmp .lt 16, 3) := by decide +kernel
theorem dX2_figureAt_12 : decode cX2_figureAt 12 = .ok (.iload_n 2, 1) := by decide +kernel
theorem dX2_figureAt_13 : decode cX2_figureAt 13 = .ok (.bipush 57, 2) := by decide +kernel
theorem dX2_figureAt_15 : decode cX2_figureAt 15 = .ok (.if_icmp .gt 10, 3) := by decide +kernel
theorem dX2_figureAt_18 : decode cX2_figureAt 18 = .ok (.iload_n 2, 1) := by decide +kernel
theorem dX2_figureAt_19 : decode cX2_figureAt 19 = .ok (.bipush 48, 2) := by decide +kernel
theorem dX2_figureAt_21 : decode cX2_figureAt 21 = .ok (.isub, 1) := by decide +kernel
theorem dX2_figureAt_22 : decode cX2_figureAt 22 = .ok (.goto 4, 3) := by decide +kernel
theorem dX2_figureAt_25 : decode cX2_figureAt 25 = .ok (.iconst (-1), 1) := by decide +kernel
theorem dX2_figureAt_26 : decode cX2_figureAt 26 = .ok (.ireturn, 1) := by decide +kernel
def f_T_figureAt (N nx : Nat) (D : Dt) (P : Ft) (a0 : Nat) (i1 : Int32) : Option Int32 :=
  if kd nx a0 = 2 then
  (f_T_letterAt N nx D P a0 i1).bind fun z1 =>
  if z1 < 48 then
    some (-1)
  else
    if 57 < z1 then
      some (-1)
    else
      some (z1 - 48)
  else none
theorem m_T_figureAt : MV yX2_figureAt cX2_figureAt 3 (some .int) 1 := ⟨mT 379 (by decide +kernel) rfl, mT 378 (by decide +kernel) rfl, mT 4 (by decide +kernel) rfl, mT 55 (by decide +kernel) rfl, by decide +kernel, by decide +kernel, by decide +kernel⟩
set_option maxHeartbeats 4000000 in
set_option maxRecDepth 100000 in
theorem c_T_figureAt (l : Launch) (cx : Cx) (nx N : Nat) (D : Dt) (P : Ft) (a0 : Nat) (i1 : Int32) (z : Int32) (h : f_T_figureAt N nx D P a0 i1 = some z) : Ct l cx yX2_figureAt cX2_figureAt 3 (some .int) 1 [.ref (cx.2.2 + a0), .int i1] D P nx (some (.int z)) D P := by
  refine x_met0 (by decide) (Nat.le_of_ble_eq_true rfl) ?_
  intro p e s m args below meth c X
  have X : XC p s m args meth c cx cX2_figureAt 3 (some .int) "HeartPins$Letters" "figureAt" := X
  refine XW.sub (lv' := [(0, .ref (cx.2.2 + a0)), (1, .int i1)]) [0, 1] rfl ?_
  unfold f_T_figureAt at h
  obtain ⟨hk0, h⟩ := grd h
  refine x_aload_n (pc := 0) X dX2_figureAt_0 (i := 0) rfl 0 rfl ?_
  refine x_iload_n (pc := 1) X dX2_figureAt_1 (i := 1) rfl 1 rfl ?_
  obtain ⟨z1, e1, h⟩ := bnds h
  refine x_callV (pc := 2) (As := [.int i1]) (st := []) (st' := [.int z1]) X (c_T_letterAt l cx nx N D P _ _ z1 e1) dX2_figureAt_2 w_364 m_T_letterAt rfl hk0 (ci := 2) rfl rfl ⟨by decide, by decide⟩ ⟨Nat.zero_le _, Nat.zero_le _⟩ rfl (Nat.le_of_ble_eq_true rfl) rfl ?_
  refine x_istore_n (lv' := [(2, .int z1), (0, .ref (cx.2.2 + a0)), (1, .int i1)]) (pc := 5) X dX2_figureAt_5 (i := 2) rfl (by decide) rfl ?_
  refine x_iload_n (pc := 6) X dX2_figureAt_6 (i := 2) rfl 0 rfl ?_
  refine x_bipush (v := 48) (pc := 7) X dX2_figureAt_7 (by decide) ?_
  refine x_icmp_lt (tgt := 25) (pc := 9) X dX2_figureAt_9 (by decide) (fun c3 => ?_) (fun c3 => ?_)
  · have h := ite_t c3 h
    refine x_iconst (v := (-1)) (pc := 25) X dX2_figureAt_25 (by decide) ?_
    obtain rfl := Option.some.inj h
    exact x_iret (pc := 26) X dX2_figureAt_26
  · have h := ite_f c3 h
    refine x_iload_n (pc := 12) X dX2_figureAt_12 (i := 2) rfl 0 rfl ?_
    refine x_bipush (v := 57) (pc := 13) X dX2_figureAt_13 (by decide) ?_
    refine x_icmp_gt (tgt := 25) (pc := 15) X dX2_figureAt_15 (by decide) (fun c2 => ?_) (fun c2 => ?_)
    · have h := ite_t c2 h
      refine x_iconst (v := (-1)) (pc := 25) X dX2_figureAt_25 (by decide) ?_
      obtain rfl := Option.some.inj h
      exact x_iret (pc := 26) X dX2_figureAt_26
    · have h := ite_f c2 h
      refine x_iload_n (pc := 18) X dX2_figureAt_18 (i := 2) rfl 0 rfl ?_
      refine x_bipush (v := 48) (pc := 19) X dX2_figureAt_19 (by decide) ?_
      refine x_isub (pc := 21) X dX2_figureAt_21 ?_
      refine x_goto (tgt := 26) (pc := 22) X dX2_figureAt_22 (by decide) ?_
      obtain rfl := Option.some.inj h
      exact x_iret (pc := 26) X dX2_figureAt_26
theorem dX2_readNumber_0 : decode cX2_readNumber 0 = .ok (.aload_n 0, 1) := by decide +kernel
theorem dX2_readNumber_1 : decode cX2_readNumber 1 = .ok (.aload_n 0, 1) := by decide +kernel
theorem dX2_readNumber_2 : decode cX2_readNumber 2 = .ok (.getfield 32, 3) := by decide +kernel
theorem dX2_readNumber_5 : decode cX2_readNumber 5 = .ok (.invokevirtual 60, 3) := by decide +kernel
theorem dX2_readNumber_8 : decode cX2_readNumber 8 = .ok (.istore_n 1, 1) := by decide +kernel
theorem dX2_readNumber_9 : decode cX2_readNumber 9 = .ok (.iload_n 1, 1) := by decide +kernel
theorem dX2_readNumber_10 : decode cX2_readNumber 10 = .ok (.ifCond .ge 5, 3) := by decide +kernel
theorem dX2_readNumber_13 : decode cX2_readNumber 13 = .ok (.iconst (-1), 1) := by decide +kernel
theorem dX2_readNumber_14 : decode cX2_readNumber 14 = .ok (.ireturn, 1) := by decide +kernel
theorem dX2_readNumber_15 : decode cX2_readNumber 15 = .ok (.aload_n 0, 1) := by decide +kernel
theorem dX2_readNumber_16 : decode cX2_readNumber 16 = .ok (.dup, 1) := by decide +kernel
theorem dX2_readNumber_17 : decode cX2_readNumber 17 = .ok (.getfield 32, 3) := by decide +kernel
theorem dX2_readNumber_20 : decode cX2_readNumber 20 = .ok (.iconst 1, 1) := by decide +kernel
theorem dX2_readNumber_21 : decode cX2_readNumber 21 = .ok (.iadd, 1) := by decide +kernel
theorem dX2_readNumber_22 : decode cX2_readNumber 22 = .ok (.putfield 32, 3) := by decide +kernel
theorem dX2_readNumber_25 : decode cX2_readNumber 25 = .ok (.aload_n 0, 1) := by decide +kernel
theorem dX2_readNumber_26 : decode cX2_readNumber 26 = .ok (.aload_n 0, 1) := by decide +kernel
theorem dX2_readNumber_27 : decode cX2_readNumber 27 = .ok (.getfield 32, 3) := by decide +kernel
theorem dX2_readNumber_30 : decode cX2_readNumber 30 = .ok (.invokevirtual 60, 3) := by decide +kernel
theorem dX2_readNumber_33 : decode cX2_readNumber 33 = .ok (.istore_n 2, 1) := by decide +kernel
theorem dX2_readNumber_34 : decode cX2_readNumber 34 = .ok (.iload_n 2, 1) := by decide +kernel
theorem dX2_readNumber_35 : decode cX2_readNumber 35 = .ok (.ifCond .lt 20, 3) := by decide +kernel
theorem dX2_readNumber_38 : decode cX2_readNumber 38 = .ok (.bipush 10, 2) := by decide +kernel
theorem dX2_readNumber_40 : decode cX2_readNumber 40 = .ok (.iload_n 1, 1) := by decide +kernel
theorem dX2_readNumber_41 : decode cX2_readNumber 41 = .ok (.imul, 1) := by decide +kernel
theorem dX2_readNumber_42 : decode cX2_readNumber 42 = .ok (.iload_n 2, 1) := by decide +kernel
theorem dX2_readNumber_43 : decode cX2_readNumber 43 = .ok (.iadd, 1) := by decide +kernel
theorem dX2_readNumber_44 : decode cX2_readNumber 44 = .ok (.istore_n 1, 1) := by decide +kernel
theorem dX2_readNumber_45 : decode cX2_readNumber 45 = .ok (.aload_n 0, 1) := by decide +kernel
theorem dX2_readNumber_46 : decode cX2_readNumber 46 = .ok (.dup, 1) := by decide +kernel
theorem dX2_readNumber_47 : decode cX2_readNumber 47 = .ok (.getfield 32, 3) := by decide +kernel
theorem dX2_readNumber_50 : decode cX2_readNumber 50 = .ok (.iconst 1, 1) := by decide +kernel
theorem dX2_readNumber_51 : decode cX2_readNumber 51 = .ok (.iadd, 1) := by decide +kernel
theorem dX2_readNumber_52 : decode cX2_readNumber 52 = .ok (.putfield 32, 3) := by decide +kernel
theorem dX2_readNumber_55 : decode cX2_readNumber 55 = .ok (.iload_n 1, 1) := by decide +kernel
theorem dX2_readNumber_56 : decode cX2_readNumber 56 = .ok (.ireturn, 1) := by decide +kernel
def f_T_readNumber (N nx : Nat) (D : Dt) (P : Ft) (a0 : Nat) : Option (Int32 × Dt) :=
  if kd nx a0 = 2 then
  (f_T_figureAt N nx D P a0 (D a0 3)).bind fun z1 =>
  if 0 ≤ z1 then
    pas (upd2 D a0 3 ((D a0 3) + 1)) fun D2 =>
    (f_T_figureAt N nx D2 P a0 (D2 a0 3)).bind fun z3 =>
    if z3 < 0 then
      some (z1, D2)
    else
      pas (upd2 D2 a0 3 ((D2 a0 3) + 1)) fun D4 =>
      some ((10 * z1) + z3, D4)
  else
    some ((-1), D)
  else none
theorem m_T_readNumber : MV yX2_readNumber cX2_readNumber 3 (some .int) 0 := ⟨mT 375 (by decide +kernel) rfl, mT 374 (by decide +kernel) rfl, mT 3 (by decide +kernel) rfl, mT 55 (by decide +kernel) rfl, by decide +kernel, by decide +kernel, by decide +kernel⟩
set_option maxHeartbeats 4000000 in
set_option maxRecDepth 100000 in
theorem c_T_readNumber (l : Launch) (cx : Cx) (nx N : Nat) (D : Dt) (P : Ft) (a0 : Nat) (z : Int32 × Dt) (h : f_T_readNumber N nx D P a0 = some z) : Ct l cx yX2_readNumber cX2_readNumber 3 (some .int) 2 [.ref (cx.2.2 + a0)] D P nx (some (.int z.1)) z.2 P := by
  refine x_met0 (by decide) (Nat.le_of_ble_eq_true rfl) ?_
  intro p e s m args below meth c X
  have X : XC p s m args meth c cx cX2_readNumber 3 (some .int) "HeartPins$Letters" "readNumber" := X
  refine XW.sub (lv' := [(0, .ref (cx.2.2 + a0))]) [0] rfl ?_
  unfold f_T_readNumber at h
  obtain ⟨hk0, h⟩ := grd h
  refine x_aload_n (pc := 0) X dX2_readNumber_0 (i := 0) rfl 0 rfl ?_
  refine x_aload_n (pc := 1) X dX2_readNumber_1 (i := 0) rfl 0 rfl ?_
  refine x_geti (ci := 2) (k := 3) (n := 4) (C := RX2) (T := TX2) (pc := 2) X dX2_readNumber_2 hk0 rfl (by decide) w_88 rfl ?_
  obtain ⟨z1, e1, h⟩ := bnds h
  refine x_callV (pc := 5) (As := [.int (D a0 3)]) (st := []) (st' := [.int z1]) X (c_T_figureAt l cx nx N D P _ _ z1 e1) dX2_readNumber_5 w_376 m_T_figureAt rfl hk0 (ci := 2) rfl rfl ⟨by decide, by decide⟩ ⟨Nat.zero_le _, Nat.zero_le _⟩ rfl (Nat.le_of_ble_eq_true rfl) rfl ?_
  refine x_istore_n (lv' := [(1, .int z1), (0, .ref (cx.2.2 + a0))]) (pc := 8) X dX2_readNumber_8 (i := 1) rfl (by decide) rfl ?_
  refine x_iload_n (pc := 9) X dX2_readNumber_9 (i := 1) rfl 0 rfl ?_
  refine x_if_ge (tgt := 15) (pc := 10) X dX2_readNumber_10 (by decide) (fun c6 => ?_) (fun c6 => ?_)
  · have h := ite_t c6 h
    refine x_aload_n (pc := 15) X dX2_readNumber_15 (i := 0) rfl 1 rfl ?_
    refine x_dup (pc := 16) X dX2_readNumber_16 rfl ?_
    refine x_geti (ci := 2) (k := 3) (n := 4) (C := RX2) (T := TX2) (pc := 17) X dX2_readNumber_17 hk0 rfl (by decide) w_88 rfl ?_
    refine x_iconst (v := 1) (pc := 20) X dX2_readNumber_20 (by decide) ?_
    refine x_iadd (pc := 21) X dX2_readNumber_21 ?_
    obtain ⟨D2, w2, h⟩ := pass h
    refine x_puti (ci := 2) (k := 3) (n := 4) (C := RX2) (T := TX2) (D' := D2) (pc := 22) X dX2_readNumber_22 hk0 rfl (by decide) w_88 rfl (by decide +kernel) rfl w2 ?_
    refine x_aload_n (pc := 25) X dX2_readNumber_25 (i := 0) rfl 1 rfl ?_
    refine x_aload_n (pc := 26) X dX2_readNumber_26 (i := 0) rfl 1 rfl ?_
    refine x_geti (ci := 2) (k := 3) (n := 4) (C := RX2) (T := TX2) (pc := 27) X dX2_readNumber_27 hk0 rfl (by decide) w_88 rfl ?_
    obtain ⟨z3, e3, h⟩ := bnds h
    refine x_callV (pc := 30) (As := [.int (D2 a0 3)]) (st := []) (st' := [.int z3]) X (c_T_figureAt l cx nx N D2 P _ _ z3 e3) dX2_readNumber_30 w_376 m_T_figureAt rfl hk0 (ci := 2) rfl rfl ⟨by decide, by decide⟩ ⟨Nat.zero_le _, Nat.zero_le _⟩ rfl (Nat.le_of_ble_eq_true rfl) rfl ?_
    refine x_istore_n (lv' := [(2, .int z3), (1, .int z1), (0, .ref (cx.2.2 + a0))]) (pc := 33) X dX2_readNumber_33 (i := 2) rfl (by decide) rfl ?_
    refine x_iload_n (pc := 34) X dX2_readNumber_34 (i := 2) rfl 0 rfl ?_
    refine x_if_lt (tgt := 55) (pc := 35) X dX2_readNumber_35 (by decide) (fun c5 => ?_) (fun c5 => ?_)
    · have h := ite_t c5 h
      refine x_iload_n (pc := 55) X dX2_readNumber_55 (i := 1) rfl 1 rfl ?_
      obtain rfl := Option.some.inj h
      exact x_iret (pc := 56) X dX2_readNumber_56
    · have h := ite_f c5 h
      refine x_bipush (v := 10) (pc := 38) X dX2_readNumber_38 (by decide) ?_
      refine x_iload_n (pc := 40) X dX2_readNumber_40 (i := 1) rfl 1 rfl ?_
      refine x_imul (pc := 41) X dX2_readNumber_41 ?_
      refine x_iload_n (pc := 42) X dX2_readNumber_42 (i := 2) rfl 0 rfl ?_
      refine x_iadd (pc := 43) X dX2_readNumber_43 ?_
      refine x_istore_n (lv' := [(1, .int ((10 * z1) + z3)), (2, .int z3), (0, .ref (cx.2.2 + a0))]) (pc := 44) X dX2_readNumber_44 (i := 1) rfl (by decide) rfl ?_
      refine x_aload_n (pc := 45) X dX2_readNumber_45 (i := 0) rfl 2 rfl ?_
      refine x_dup (pc := 46) X dX2_readNumber_46 rfl ?_
      refine x_geti (ci := 2) (k := 3) (n := 4) (C := RX2) (T := TX2) (pc := 47) X dX2_readNumber_47 hk0 rfl (by decide) w_88 rfl ?_
      refine x_iconst (v := 1) (pc := 50) X dX2_readNumber_50 (by decide) ?_
      refine x_iadd (pc := 51) X dX2_readNumber_51 ?_
      obtain ⟨D4, w4, h⟩ := pass h
      refine x_puti (ci := 2) (k := 3) (n := 4) (C := RX2) (T := TX2) (D' := D4) (pc := 52) X dX2_readNumber_52 hk0 rfl (by decide) w_88 rfl (by decide +kernel) rfl w4 ?_
      refine x_iload_n (pc := 55) X dX2_readNumber_55 (i := 1) rfl 0 rfl ?_
      obtain rfl := Option.some.inj h
      exact x_iret (pc := 56) X dX2_readNumber_56
  · have h := ite_f c6 h
    refine x_iconst (v := (-1)) (pc := 13) X dX2_readNumber_13 (by decide) ?_
    obtain rfl := Option.some.inj h
    exact x_iret (pc := 14) X dX2_readNumber_14
theorem dX2_readNumbers_0 : decode cX2_readNumbers 0 = .ok (.iconst 0, 1) := by decide +kernel
theorem dX2_readNumbers_1 : decode cX2_readNumbers 1 = .ok (.istore_n 2, 1) := by decide +kernel
theorem dX2_readNumbers_2 : decode cX2_readNumbers 2 = .ok (.iload_n 2, 1) := by decide +kernel
theorem dX2_readNumbers_3 : decode cX2_readNumbers 3 = .ok (.iload_n 1, 1) := by decide +kernel
theorem dX2_readNumbers_4 : decode cX2_readNumbers 4 = .ok (.if_icmp .ge 76, 3) := by decide +kernel
theorem dX2_readNumbers_7 : decode cX2_readNumbers 7 = .ok (.iload_n 2, 1) := by decide +kernel
theorem dX2_readNumbers_8 : decode cX2_readNumbers 8 = .ok (.aload_n 0, 1) := by decide +kernel
theorem dX2_readNumbers_9 : decode cX2_readNumbers 9 = .ok (.getfield 15, 3) := by decide +kernel
theorem dX2_readNumbers_12 : decode cX2_readNumbers 12 = .ok (.arraylength, 1) := by decide +kernel
theorem dX2_readNumbers_13 : decode cX2_readNumbers 13 = .ok (.if_icmp .ge 67, 3) := by decide +kernel
theorem dX2_readNumbers_16 : decode cX2_readNumbers 16 = .ok (.aload_n 0, 1) := by decide +kernel
theorem dX2_readNumbers_17 : decode cX2_readNumbers 17 = .ok (.getfield 15, 3) := by decide +kernel
theorem dX2_readNumbers_20 : decode cX2_readNumbers 20 = .ok (.iload_n 2, 1) := by decide +kernel
theorem dX2_readNumbers_21 : decode cX2_readNumbers 21 = .ok (.aload_n 0, 1) := by decide +kernel
theorem dX2_readNumbers_22 : decode cX2_readNumbers 22 = .ok (.invokevirtual 56, 3) := by decide +kernel
theorem dX2_readNumbers_25 : decode cX2_readNumbers 25 = .ok (.iastore, 1) := by decide +kernel
theorem dX2_readNumbers_26 : decode cX2_readNumbers 26 = .ok (.iload_n 2, 1) := by decide +kernel
theorem dX2_readNumbers_27 : decode cX2_readNumbers 27 = .ok (.iload_n 1, 1) := by decide +kernel
theorem dX2_readNumbers_28 : decode cX2_readNumbers 28 = .ok (.iconst 1, 1) := by decide +kernel
theorem dX2_readNumbers_29 : decode cX2_readNumbers 29 = .ok (.isub, 1) := by decide +kernel
theorem dX2_readNumbers_30 : decode cX2_readNumbers 30 = .ok (.if_icmp .ne 8, 3) := by decide +kernel
theorem dX2_readNumbers_33 : decode cX2_readNumbers 33 = .ok (.bipush 59, 2) := by decide +kernel
theorem dX2_readNumbers_35 : decode cX2_readNumbers 35 = .ok (.goto 5, 3) := by decide +kernel
theorem dX2_readNumbers_38 : decode cX2_readNumbers 38 = .ok (.bipush 44, 2) := by decide +kernel
theorem dX2_readNumbers_40 : decode cX2_readNumbers 40 = .ok (.istore_n 3, 1) := by decide +kernel
theorem dX2_readNumbers_41 : decode cX2_readNumbers 41 = .ok (.aload_n 0, 1) := by decide +kernel
theorem dX2_readNumbers_42 : decode cX2_readNumbers 42 = .ok (.getfield 15, 3) := by decide +kernel
theorem dX2_readNumbers_45 : decode cX2_readNumbers 45 = .ok (.iload_n 2, 1) := by decide +kernel
theorem dX2_readNumbers_46 : decode cX2_readNumbers 46 = .ok (.iaload, 1) := by decide +kernel
theorem dX2_readNumbers_47 : decode cX2_readNumbers 47 = .ok (.ifCond .lt 15, 3) := by decide +kernel
theorem dX2_readNumbers_50 : decode cX2_readNumbers 50 = .ok (.aload_n 0, 1) := by decide +kernel
theorem dX2_readNumbers_51 : decode cX2_readNumbers 51 = .ok (.aload_n 0, 1) := by decide +kernel
theorem dX2_readNumbers_52 : decode cX2_readNumbers 52 = .ok (.getfield 32, 3) := by decide +kernel
theorem dX2_readNumbers_55 : decode cX2_readNumbers 55 = .ok (.invokevirtual 39, 3) := by decide +kernel
theorem dX2_readNumbers_58 : decode cX2_readNumbers 58 = .ok (.iload_n 3, 1) := by decide +kernel
theorem dX2_readNumbers_59 : decode cX2_readNumbers 59 = .ok (.if_icmp .eq 5, 3) := by decide +kernel
theorem dX2_readNumbers_62 : decode cX2_readNumbers 62 = .ok (.iconst 0, 1) := by decide +kernel
theorem dX2_readNumbers_63 : decode cX2_readNumbers 63 = .ok (.ireturn, 1) := by decide +kernel
theorem dX2_readNumbers_64 : decode cX2_readNumbers 64 = .ok (.aload_n 0, 1) := by decide +kernel
theorem dX2_readNumbers_65 : decode cX2_readNumbers 65 = .ok (.dup, 1) := by decide +kernel
theorem dX2_readNumbers_66 : decode cX2_readNumbers 66 = .ok (.getfield 32, 3) := by decide +kernel
theorem dX2_readNumbers_69 : decode cX2_readNumbers 69 = .ok (.iconst 1, 1) := by decide +kernel
theorem dX2_readNumbers_70 : decode cX2_readNumbers 70 = .ok (.iadd, 1) := by decide +kernel
theorem dX2_readNumbers_71 : decode cX2_readNumbers 71 = .ok (.putfield 32, 3) := by decide +kernel
theorem dX2_readNumbers_74 : decode cX2_readNumbers 74 = .ok (.iinc 2 1, 3) := by decide +kernel
theorem dX2_readNumbers_77 : decode cX2_readNumbers 77 = .ok (.goto (-75), 3) := by decide +kernel
theorem dX2_readNumbers_80 : decode cX2_readNumbers 80 = .ok (.iconst 1, 1) := by decide +kernel
theorem dX2_readNumbers_81 : decode cX2_readNumbers 81 = .ok (.ireturn, 1) := by decide +kernel
def f_T_readNumbers_40 (N nx : Nat) (rec2 : Dt → Int32 → Option (Int32 × Dt)) (D : Dt) (P : Ft) (a0 : Nat) (i1 : Int32) (i2 : Int32) (s0 : Int32) : Option (Int32 × Dt) :=
  nn (P a0 1) fun q5 =>
  if ab nx q5 3 i2 = true then
  if D q5 i2.toNatClampNeg < 0 then
    some (0, D)
  else
    (f_T_letterAt N nx D P a0 (D a0 3)).bind fun z7 =>
    if z7 = s0 then
      pas (upd2 D a0 3 ((D a0 3) + 1)) fun D8 =>
      rec2 D8 (i2 + 1)
    else
      some (0, D)
  else none
def f_T_readNumbers_2 (N nx : Nat) (P : Ft) (a0 : Nat) (i1 : Int32) (rec2 : Dt → Int32 → Option (Int32 × Dt)) (D : Dt) (i2 : Int32) : Option (Int32 × Dt) :=
  if i1 ≤ i2 then
    some (1, D)
  else
    nn (P a0 1) fun q1 =>
    if kd nx q1 / 10000 = 3 ∨ kd nx q1 / 10000 = 4 then
    if Int32.ofNat (kd nx q1 % 10000) ≤ i2 then
      some (1, D)
    else
      (f_T_readNumber N nx D P a0).bind fun z3 =>
      if ab nx q1 3 i2 = true then
      pas (upd2 z3.2 q1 i2.toNatClampNeg z3.1) fun D4 =>
      if i2 = i1 - 1 then
        f_T_readNumbers_40 N nx rec2 D4 P a0 i1 i2 59
      else
        f_T_readNumbers_40 N nx rec2 D4 P a0 i1 i2 44
      else none
    else none
def f_T_readNumbers (N nx : Nat) (D : Dt) (P : Ft) (a0 : Nat) (i1 : Int32) : Option (Int32 × Dt) :=
  if kd nx a0 = 2 then
  wk2 N (f_T_readNumbers_2 N nx P a0 i1) D 0
  else none
theorem m_T_readNumbers : MV yX2_readNumbers cX2_readNumbers 4 (some .boolean) 1 := ⟨mT 371 (by decide +kernel) rfl, mT 370 (by decide +kernel) rfl, mT 2 (by decide +kernel) rfl, mT 55 (by decide +kernel) rfl, by decide +kernel, by decide +kernel, by decide +kernel⟩
set_option maxHeartbeats 4000000 in
set_option maxRecDepth 100000 in
theorem c_T_readNumbers (l : Launch) (cx : Cx) (nx N : Nat) (D : Dt) (P : Ft) (a0 : Nat) (i1 : Int32) (z : Int32 × Dt) (h : f_T_readNumbers N nx D P a0 i1 = some z) : Ct l cx yX2_readNumbers cX2_readNumbers 4 (some .boolean) 3 [.ref (cx.2.2 + a0), .int i1] D P nx (some (.int z.1)) z.2 P := by
  refine x_met0 (by decide) (Nat.le_of_ble_eq_true rfl) ?_
  intro p e s m args below meth c X
  have X : XC p s m args meth c cx cX2_readNumbers 4 (some .boolean) "HeartPins$Letters" "readNumbers" := X
  refine XW.sub (lv' := [(0, .ref (cx.2.2 + a0)), (1, .int i1)]) [0, 1] rfl ?_
  unfold f_T_readNumbers at h
  obtain ⟨hk0, h⟩ := grd h
  have hL2 : ∀ (n : Nat) (D : Dt) (i2 : Int32), wk2 n (f_T_readNumbers_2 N nx P a0 i1) D i2 = some z → XW p l e (rmk 3) s m args below meth c (MQ below (Qx cx (some (.int z.1)) z.2 P nx) args s 0 0 (AA cx)) cx 4 D P nx 0 0 2 [(0, .ref (cx.2.2 + a0)), (1, .int i1), (2, .int i2)] [] := by
    intro n
    induction n with
    | zero => intro D i2 h; exact (nonz h).elim
    | succ n ih2 =>
      intro D i2 h
      have h : f_T_readNumbers_2 N nx P a0 i1 (wk2 n (f_T_readNumbers_2 N nx P a0 i1)) D i2 = some z := h
      generalize wk2 n (f_T_readNumbers_2 N nx P a0 i1) = rec2 at ih2 h
      unfold f_T_readNumbers_2 at h
      have hJ40 : ∀ (D : Dt) (i2 : Int32) (s0 : Int32), f_T_readNumbers_40 N nx rec2 D P a0 i1 i2 s0 = some z → XW p l e (rmk 3) s m args below meth c (MQ below (Qx cx (some (.int z.1)) z.2 P nx) args s 0 0 (AA cx)) cx 4 D P nx 0 0 40 [(0, .ref (cx.2.2 + a0)), (1, .int i1), (2, .int i2)] [.int s0] := by
        intro D i2 s0 h
        unfold f_T_readNumbers_40 at h
        refine x_istore_n (lv' := [(3, .int s0), (0, .ref (cx.2.2 + a0)), (1, .int i1), (2, .int i2)]) (pc := 40) X dX2_readNumbers_40 (i := 3) rfl (by decide) rfl ?_
        refine x_aload_n (pc := 41) X dX2_readNumbers_41 (i := 0) rfl 1 rfl ?_
        obtain ⟨q5, e5, h⟩ := nns h
        refine x_getr (ci := 2) (k := 1) (n := 4) (C := RX2) (T := TX2) (pc := 42) X dX2_readNumbers_42 hk0 rfl (by decide) w_85 rfl e5 ?_
        refine x_iload_n (pc := 45) X dX2_readNumbers_45 (i := 2) rfl 3 rfl ?_
        obtain ⟨g6, h⟩ := grd h
        refine x_iald (pc := 46) X dX2_readNumbers_46 g6 ?_
        refine x_if_lt (tgt := 62) (pc := 47) X dX2_readNumbers_47 (by decide) (fun c10 => ?_) (fun c10 => ?_)
        · have h := ite_t c10 h
          refine x_iconst (v := 0) (pc := 62) X dX2_readNumbers_62 (by decide) ?_
          obtain rfl := Option.some.inj h
          exact x_zret (pc := 63) X dX2_readNumbers_63 (Or.inl rfl)
        · have h := ite_f c10 h
          refine x_aload_n (pc := 50) X dX2_readNumbers_50 (i := 0) rfl 1 rfl ?_
          refine x_aload_n (pc := 51) X dX2_readNumbers_51 (i := 0) rfl 1 rfl ?_
          refine x_geti (ci := 2) (k := 3) (n := 4) (C := RX2) (T := TX2) (pc := 52) X dX2_readNumbers_52 hk0 rfl (by decide) w_88 rfl ?_
          obtain ⟨z7, e7, h⟩ := bnds h
          refine x_callV (pc := 55) (As := [.int (D a0 3)]) (st := []) (st' := [.int z7]) X (c_T_letterAt l cx nx N D P _ _ z7 e7) dX2_readNumbers_55 w_364 m_T_letterAt rfl hk0 (ci := 2) rfl rfl ⟨by decide, by decide⟩ ⟨Nat.zero_le _, Nat.zero_le _⟩ rfl (Nat.le_of_ble_eq_true rfl) rfl ?_
          refine x_iload_n (pc := 58) X dX2_readNumbers_58 (i := 3) rfl 0 rfl ?_
          refine x_icmp_eq (tgt := 64) (pc := 59) X dX2_readNumbers_59 (by decide) (fun c9 => ?_) (fun c9 => ?_)
          · have h := ite_t c9 h
            refine x_aload_n (pc := 64) X dX2_readNumbers_64 (i := 0) rfl 1 rfl ?_
            refine x_dup (pc := 65) X dX2_readNumbers_65 rfl ?_
            refine x_geti (ci := 2) (k := 3) (n := 4) (C := RX2) (T := TX2) (pc := 66) X dX2_readNumbers_66 hk0 rfl (by decide) w_88 rfl ?_
            refine x_iconst (v := 1) (pc := 69) X dX2_readNumbers_69 (by decide) ?_
            refine x_iadd (pc := 70) X dX2_readNumbers_70 ?_
            obtain ⟨D8, w8, h⟩ := pass h
            refine x_puti (ci := 2) (k := 3) (n := 4) (C := RX2) (T := TX2) (D' := D8) (pc := 71) X dX2_readNumbers_71 hk0 rfl (by decide) w_88 rfl (by decide +kernel) rfl w8 ?_
            refine x_iinc (v := i2 + 1) (lv' := [(2, .int (i2 + 1)), (3, .int s0), (0, .ref (cx.2.2 + a0)), (1, .int i1)]) (pc := 74) X dX2_readNumbers_74 3 rfl rfl (by decide) rfl ?_
            refine x_goto (tgt := 2) (pc := 77) X dX2_readNumbers_77 (by decide) ?_
            exact XW.sub [2, 3, 0] rfl (ih2 _ _ h)
          · have h := ite_f c9 h
            refine x_iconst (v := 0) (pc := 62) X dX2_readNumbers_62 (by decide) ?_
            obtain rfl := Option.some.inj h
            exact x_zret (pc := 63) X dX2_readNumbers_63 (Or.inl rfl)
      refine x_iload_n (pc := 2) X dX2_readNumbers_2 (i := 2) rfl 2 rfl ?_
      refine x_iload_n (pc := 3) X dX2_readNumbers_3 (i := 1) rfl 1 rfl ?_
      refine x_icmp_ge (tgt := 80) (pc := 4) X dX2_readNumbers_4 (by decide) (fun c13 => ?_) (fun c13 => ?_)
      · have h := ite_t c13 h
        refine x_iconst (v := 1) (pc := 80) X dX2_readNumbers_80 (by decide) ?_
        obtain rfl := Option.some.inj h
        exact x_zret (pc := 81) X dX2_readNumbers_81 (Or.inr rfl)
      · have h := ite_f c13 h
        refine x_iload_n (pc := 7) X dX2_readNumbers_7 (i := 2) rfl 2 rfl ?_
        refine x_aload_n (pc := 8) X dX2_readNumbers_8 (i := 0) rfl 0 rfl ?_
        obtain ⟨q1, e1, h⟩ := nns h
        refine x_getr (ci := 2) (k := 1) (n := 4) (C := RX2) (T := TX2) (pc := 9) X dX2_readNumbers_9 hk0 rfl (by decide) w_85 rfl e1 ?_
        obtain ⟨k2, h⟩ := grd h
        refine x_alen (pc := 12) X dX2_readNumbers_12 rfl k2 rfl ?_
        refine x_icmp_ge (tgt := 80) (pc := 13) X dX2_readNumbers_13 (by decide) (fun c12 => ?_) (fun c12 => ?_)
        · have h := ite_t c12 h
          refine x_iconst (v := 1) (pc := 80) X dX2_readNumbers_80 (by decide) ?_
          obtain rfl := Option.some.inj h
          exact x_zret (pc := 81) X dX2_readNumbers_81 (Or.inr rfl)
        · have h := ite_f c12 h
          refine x_aload_n (pc := 16) X dX2_readNumbers_16 (i := 0) rfl 0 rfl ?_
          refine x_getr (ci := 2) (k := 1) (n := 4) (C := RX2) (T := TX2) (pc := 17) X dX2_readNumbers_17 hk0 rfl (by decide) w_85 rfl e1 ?_
          refine x_iload_n (pc := 20) X dX2_readNumbers_20 (i := 2) rfl 2 rfl ?_
          refine x_aload_n (pc := 21) X dX2_readNumbers_21 (i := 0) rfl 0 rfl ?_
          obtain ⟨z3, e3, h⟩ := bnds h
          refine x_callV (pc := 22) (As := []) (st := [.int i2, .ref (cx.2.2 + q1)]) (st' := [.int z3.1, .int i2, .ref (cx.2.2 + q1)]) X (c_T_readNumber l cx nx N D P _ z3 e3) dX2_readNumbers_22 w_372 m_T_readNumber rfl hk0 (ci := 2) rfl rfl ⟨by decide, by decide⟩ ⟨Nat.zero_le _, Nat.zero_le _⟩ rfl (Nat.le_of_ble_eq_true rfl) rfl ?_
          obtain ⟨g4, h⟩ := grd h
          obtain ⟨D4, w4, h⟩ := pass h
          refine x_iast (D' := D4) (pc := 25) X dX2_readNumbers_25 g4 w4 ?_
          refine x_iload_n (pc := 26) X dX2_readNumbers_26 (i := 2) rfl 2 rfl ?_
          refine x_iload_n (pc := 27) X dX2_readNumbers_27 (i := 1) rfl 1 rfl ?_
          refine x_iconst (v := 1) (pc := 28) X dX2_readNumbers_28 (by decide) ?_
          refine x_isub (pc := 29) X dX2_readNumbers_29 ?_
          refine x_icmp_ne (tgt := 38) (pc := 30) X dX2_readNumbers_30 (by decide) (fun c11 => ?_) (fun c11 => ?_)
          · have h := ite_f c11 h
            refine x_bipush (v := 44) (pc := 38) X dX2_readNumbers_38 (by decide) ?_
            exact XW.sub [0, 1, 2] rfl (hJ40 _ _ _ h)
          · have h := ite_t c11 h
            refine x_bipush (v := 59) (pc := 33) X dX2_readNumbers_33 (by decide) ?_
            refine x_goto (tgt := 40) (pc := 35) X dX2_readNumbers_35 (by decide) ?_
            exact XW.sub [0, 1, 2] rfl (hJ40 _ _ _ h)
  refine x_iconst (v := 0) (pc := 0) X dX2_readNumbers_0 (by decide) ?_
  refine x_istore_n (lv' := [(2, .int 0), (0, .ref (cx.2.2 + a0)), (1, .int i1)]) (pc := 1) X dX2_readNumbers_1 (i := 2) rfl (by decide) rfl ?_
  exact XW.sub [1, 2, 0] rfl (hL2 _ _ _ h)
theorem dX2_readItem_0 : decode cX2_readItem 0 = .ok (.aload_n 0, 1) := by decide +kernel
theorem dX2_readItem_1 : decode cX2_readItem 1 = .ok (.aload_n 0, 1) := by decide +kernel
theorem dX2_readItem_2 : decode cX2_readItem 2 = .ok (.getfield 32, 3) := by decide +kernel
theorem dX2_readItem_5 : decode cX2_readItem 5 = .ok (.invokevirtual 39, 3) := by decide +kernel
theorem dX2_readItem_8 : decode cX2_readItem 8 = .ok (.istore_n 2, 1) := by decide +kernel
theorem dX2_readItem_9 : decode cX2_readItem 9 = .ok (.aload_n 0, 1) := by decide +kernel
theorem dX2_readItem_10 : decode cX2_readItem 10 = .ok (.dup, 1) := by decide +kernel
theorem dX2_readItem_11 : decode cX2_readItem 11 = .ok (.getfield 32, 3) := by decide +kernel
theorem dX2_readItem_14 : decode cX2_readItem 14 = .ok (.iconst 1, 1) := by decide +kernel
theorem dX2_readItem_15 : decode cX2_readItem 15 = .ok (.iadd, 1) := by decide +kernel
theorem dX2_readItem_16 : decode cX2_readItem 16 = .ok (.putfield 32, 3) := by decide +kernel
theorem dX2_readItem_19 : decode cX2_readItem 19 = .ok (.iload_n 2, 1) := by decide +kernel
theorem dX2_readItem_20 : decode cX2_readItem 20 = .ok (.lookupswitch 141 #[(104, 102), (112, 36), (116, 63)], 36) := by decide +kernel
theorem dX2_readItem_56 : decode cX2_readItem 56 = .ok (.aload_n 0, 1) := by decide +kernel
theorem dX2_readItem_57 : decode cX2_readItem 57 = .ok (.iconst 1, 1) := by decide +kernel
theorem dX2_readItem_58 : decode cX2_readItem 58 = .ok (.invokevirtual 43, 3) := by decide +kernel
theorem dX2_readItem_61 : decode cX2_readItem 61 = .ok (.ifCond .eq 20, 3) := by decide +kernel
theorem dX2_readItem_64 : decode cX2_readItem 64 = .ok (.aload_n 1, 1) := by decide +kernel
theorem dX2_readItem_65 : decode cX2_readItem 65 = .ok (.aload_n 0, 1) := by decide +kernel
theorem dX2_readItem_66 : decode cX2_readItem 66 = .ok (.getfield 15, 3) := by decide +kernel
theorem dX2_readItem_69 : decode cX2_readItem 69 = .ok (.iconst 0, 1) := by decide +kernel
theorem dX2_readItem_70 : decode cX2_readItem 70 = .ok (.iaload, 1) := by decide +kernel
theorem dX2_readItem_71 : decode cX2_readItem 71 = .ok (.invokevirtual 47, 3) := by decide +kernel
theorem dX2_readItem_74 : decode cX2_readItem 74 = .ok (.ifCond .eq 7, 3) := by decide +kernel
theorem dX2_readItem_77 : decode cX2_readItem 77 = .ok (.iconst 1, 1) := by decide +kernel
theorem dX2_readItem_78 : decode cX2_readItem 78 = .ok (.goto 4, 3) := by decide +kernel
theorem dX2_readItem_81 : decode cX2_readItem 81 = .ok (.iconst 0, 1) := by decide +kernel
theorem dX2_readItem_82 : decode cX2_readItem 82 = .ok (.ireturn, 1) := by decide +kernel
theorem dX2_readItem_83 : decode cX2_readItem 83 = .ok (.aload_n 0, 1) := by decide +kernel
theorem dX2_readItem_84 : decode cX2_readItem 84 = .ok (.iconst 3, 1) := by decide +kernel
theorem dX2_readItem_85 : decode cX2_readItem 85 = .ok (.invokevirtual 43, 3) := by decide +kernel
theorem dX2_readItem_88 : decode cX2_readItem 88 = .ok (.ifCond .eq 32, 3) := by decide +kernel
theorem dX2_readItem_91 : decode cX2_readItem 91 = .ok (.aload_n 1, 1) := by decide +kernel
theorem dX2_readItem_92 : decode cX2_readItem 92 = .ok (.aload_n 0, 1) := by decide +kernel
theorem dX2_readItem_93 : decode cX2_readItem 93 = .ok (.getfield 15, 3) := by decide +kernel
theorem dX2_readItem_96 : decode cX2_readItem 96 = .ok (.iconst 0, 1) := by decide +kernel
theorem dX2_readItem_97 : decode cX2_readItem 97 = .ok (.iaload, 1) := by decide +kernel
theorem dX2_readItem_98 : decode cX2_readItem 98 = .ok (.aload_n 0, 1) := by decide +kernel
theorem dX2_readItem_99 : decode cX2_readItem 99 = .ok (.getfield 15, 3) := by decide +kernel
theorem dX2_readItem_102 : decode cX2_readItem 102 = .ok (.iconst 1, 1) := by decide +kernel
theorem dX2_readItem_103 : decode cX2_readItem 103 = .ok (.iaload, 1) := by decide +kernel
theorem dX2_readItem_104 : decode cX2_readItem 104 = .ok (.aload_n 0, 1) := by decide +kernel
theorem dX2_readItem_105 : decode cX2_readItem 105 = .ok (.getfield 15, 3) := by decide +kernel
theorem dX2_readItem_108 : decode cX2_readItem 108 = .ok (.iconst 2, 1) := by decide +kernel
theorem dX2_readItem_109 : decode cX2_readItem 109 = .ok (.iaload, 1) := by decide +kernel
theorem dX2_readItem_110 : decode cX2_readItem 110 = .ok (.invokevirtual 50, 3) := by decide +kernel
theorem dX2_readItem_113 : decode cX2_readItem 113 = .ok (.ifCond .eq 7, 3) := by decide +kernel
theorem dX2_readItem_116 : decode cX2_readItem 116 = .ok (.iconst 1, 1) := by decide +kernel
theorem dX2_readItem_117 : decode cX2_readItem 117 = .ok (.goto 4, 3) := by decide +kernel
theorem dX2_readItem_120 : decode cX2_readItem 120 = .ok (.iconst 0, 1) := by decide +kernel
theorem dX2_readItem_121 : decode cX2_readItem 121 = .ok (.ireturn, 1) := by decide +kernel
theorem dX2_readItem_122 : decode cX2_readItem 122 = .ok (.aload_n 0, 1) := by decide +kernel
theorem dX2_readItem_123 : decode cX2_readItem 123 = .ok (.iconst 3, 1) := by decide +kernel
theorem dX2_readItem_124 : decode cX2_readItem 124 = .ok (.invokevirtual 43, 3) := by decide +kernel
theorem dX2_readItem_127 : decode cX2_readItem 127 = .ok (.ifCond .eq 32, 3) := by decide +kernel
theorem dX2_readItem_130 : decode cX2_readItem 130 = .ok (.aload_n 1, 1) := by decide +kernel
theorem dX2_readItem_131 : decode cX2_readItem 131 = .ok (.aload_n 0, 1) := by decide +kernel
theorem dX2_readItem_132 : decode cX2_readItem 132 = .ok (.getfield 15, 3) := by decide +kernel
theorem dX2_readItem_135 : decode cX2_readItem 135 = .ok (.iconst 0, 1) := by decide +kernel
theorem dX2_readItem_136 : decode cX2_readItem 136 = .ok (.iaload, 1) := by decide +kernel
theorem dX2_readItem_137 : decode cX2_readItem 137 = .ok (.aload_n 0, 1) := by decide +kernel
theorem dX2_readItem_138 : decode cX2_readItem 138 = .ok (.getfield 15, 3) := by decide +kernel
theorem dX2_readItem_141 : decode cX2_readItem 141 = .ok (.iconst 1, 1) := by decide +kernel
theorem dX2_readItem_142 : decode cX2_readItem 142 = .ok (.iaload, 1) := by decide +kernel
theorem dX2_readItem_143 : decode cX2_readItem 143 = .ok (.aload_n 0, 1) := by decide +kernel
theorem dX2_readItem_144 : decode cX2_readItem 144 = .ok (.getfield 15, 3) := by decide +kernel
theorem dX2_readItem_147 : decode cX2_readItem 147 = .ok (.iconst 2, 1) := by decide +kernel
theorem dX2_readItem_148 : decode cX2_readItem 148 = .ok (.iaload, 1) := by decide +kernel
theorem dX2_readItem_149 : decode cX2_readItem 149 = .ok (.invokevirtual 53, 3) := by decide +kernel
theorem dX2_readItem_152 : decode cX2_readItem 152 = .ok (.ifCond .eq 7, 3) := by decide +kernel
theorem dX2_readItem_155 : decode cX2_readItem 155 = .ok (.iconst 1, 1) := by decide +kernel
theorem dX2_readItem_156 : decode cX2_readItem 156 = .ok (.goto 4, 3) := by decide +kernel
theorem dX2_readItem_159 : decode cX2_readItem 159 = .ok (.iconst 0, 1) := by decide +kernel
theorem dX2_readItem_160 : decode cX2_readItem 160 = .ok (.ireturn, 1) := by decide +kernel
theorem dX2_readItem_161 : decode cX2_readItem 161 = .ok (.iconst 0, 1) := by decide +kernel
theorem dX2_readItem_162 : decode cX2_readItem 162 = .ok (.ireturn, 1) := by decide +kernel
def f_T_readItem (N nx : Nat) (D : Dt) (P : Ft) (a0 : Nat) (a1 : Nat) : Option (Int32 × Dt) :=
  if kd nx a0 = 2 then
  (f_T_letterAt N nx D P a0 (D a0 3)).bind fun z1 =>
  pas (upd2 D a0 3 ((D a0 3) + 1)) fun D2 =>
  if z1 = 104 then
    (f_T_readNumbers N nx D2 P a0 3).bind fun z3 =>
    if z3.1 = 0 then
      some (0, z3.2)
    else
      nn (P a0 1) fun q4 =>
      if ab nx q4 3 0 = true then
      if ab nx q4 3 1 = true then
      if ab nx q4 3 2 = true then
      if kd nx a1 = 1 then
      (f_F_setHeart N nx z3.2 P a1 (z3.2 q4 (0 : Int32).toNatClampNeg) (z3.2 q4 (1 : Int32).toNatClampNeg) (z3.2 q4 (2 : Int32).toNatClampNeg)).bind fun z8 =>
      if z8.1 = 0 then
        some (0, z8.2)
      else
        some (1, z8.2)
      else none
      else none
      else none
      else none
  else
    if z1 = 112 then
      (f_T_readNumbers N nx D2 P a0 1).bind fun z12 =>
      if z12.1 = 0 then
        some (0, z12.2)
      else
        nn (P a0 1) fun q13 =>
        if ab nx q13 3 0 = true then
        if kd nx a1 = 1 then
        (f_F_addPerson N nx z12.2 P a1 (z12.2 q13 (0 : Int32).toNatClampNeg)).bind fun z15 =>
        if z15.1 = 0 then
          some (0, z15.2)
        else
          some (1, z15.2)
        else none
        else none
    else
      if z1 = 116 then
        (f_T_readNumbers N nx D2 P a0 3).bind fun z19 =>
        if z19.1 = 0 then
          some (0, z19.2)
        else
          nn (P a0 1) fun q20 =>
          if ab nx q20 3 0 = true then
          if ab nx q20 3 1 = true then
          if ab nx q20 3 2 = true then
          if kd nx a1 = 1 then
          (f_F_addPin N nx z19.2 P a1 (z19.2 q20 (0 : Int32).toNatClampNeg) (z19.2 q20 (1 : Int32).toNatClampNeg) (z19.2 q20 (2 : Int32).toNatClampNeg)).bind fun z24 =>
          if z24.1 = 0 then
            some (0, z24.2)
          else
            some (1, z24.2)
          else none
          else none
          else none
          else none
      else
        some (0, D2)
  else none
theorem m_T_readItem : MV yX2_readItem cX2_readItem 3 (some .boolean) 1 := ⟨mT 363 (by decide +kernel) rfl, mT 362 (by decide +kernel) rfl, mT 0 (by decide +kernel) rfl, mT 55 (by decide +kernel) rfl, by decide +kernel, by decide +kernel, by decide +kernel⟩
set_option maxHeartbeats 4000000 in
set_option maxRecDepth 100000 in
theorem c_T_readItem (l : Launch) (cx : Cx) (nx N : Nat) (D : Dt) (P : Ft) (a0 : Nat) (a1 : Nat) (z : Int32 × Dt) (h : f_T_readItem N nx D P a0 a1 = some z) : Ct l cx yX2_readItem cX2_readItem 3 (some .boolean) 4 [.ref (cx.2.2 + a0), .ref (cx.2.2 + a1)] D P nx (some (.int z.1)) z.2 P := by
  refine x_met0 (by decide) (Nat.le_of_ble_eq_true rfl) ?_
  intro p e s m args below meth c X
  have X : XC p s m args meth c cx cX2_readItem 3 (some .boolean) "HeartPins$Letters" "readItem" := X
  refine XW.sub (lv' := [(0, .ref (cx.2.2 + a0)), (1, .ref (cx.2.2 + a1))]) [0, 1] rfl ?_
  unfold f_T_readItem at h
  obtain ⟨hk0, h⟩ := grd h
  refine x_aload_n (pc := 0) X dX2_readItem_0 (i := 0) rfl 0 rfl ?_
  refine x_aload_n (pc := 1) X dX2_readItem_1 (i := 0) rfl 0 rfl ?_
  refine x_geti (ci := 2) (k := 3) (n := 4) (C := RX2) (T := TX2) (pc := 2) X dX2_readItem_2 hk0 rfl (by decide) w_88 rfl ?_
  obtain ⟨z1, e1, h⟩ := bnds h
  refine x_callV (pc := 5) (As := [.int (D a0 3)]) (st := []) (st' := [.int z1]) X (c_T_letterAt l cx nx N D P _ _ z1 e1) dX2_readItem_5 w_364 m_T_letterAt rfl hk0 (ci := 2) rfl rfl ⟨by decide, by decide⟩ ⟨Nat.zero_le _, Nat.zero_le _⟩ rfl (Nat.le_of_ble_eq_true rfl) rfl ?_
  refine x_istore_n (lv' := [(2, .int z1), (0, .ref (cx.2.2 + a0)), (1, .ref (cx.2.2 + a1))]) (pc := 8) X dX2_readItem_8 (i := 2) rfl (by decide) rfl ?_
  refine x_aload_n (pc := 9) X dX2_readItem_9 (i := 0) rfl 1 rfl ?_
  refine x_dup (pc := 10) X dX2_readItem_10 rfl ?_
  refine x_geti (ci := 2) (k := 3) (n := 4) (C := RX2) (T := TX2) (pc := 11) X dX2_readItem_11 hk0 rfl (by decide) w_88 rfl ?_
  refine x_iconst (v := 1) (pc := 14) X dX2_readItem_14 (by decide) ?_
  refine x_iadd (pc := 15) X dX2_readItem_15 ?_
  obtain ⟨D2, w2, h⟩ := pass h
  refine x_puti (ci := 2) (k := 3) (n := 4) (C := RX2) (T := TX2) (D' := D2) (pc := 16) X dX2_readItem_16 hk0 rfl (by decide) w_88 rfl (by decide +kernel) rfl w2 ?_
  refine x_iload_n (pc := 19) X dX2_readItem_19 (i := 2) rfl 0 rfl ?_
  by_cases cs20_0 : z1 = 104
  · have h := ite_t cs20_0 h
    refine x_lsw (off := 102) (tgt := 122) (pc := 20) X 104 dX2_readItem_20 (by decide) cs20_0 rfl (by decide) ?_
    refine x_aload_n (pc := 122) X dX2_readItem_122 (i := 0) rfl 1 rfl ?_
    refine x_iconst (v := 3) (pc := 123) X dX2_readItem_123 (by decide) ?_
    obtain ⟨z3, e3, h⟩ := bnds h
    refine x_callV (pc := 124) (As := [.int 3]) (st := []) (st' := [.int z3.1]) X (c_T_readNumbers l cx nx N D2 P _ _ z3 e3) dX2_readItem_124 w_368 m_T_readNumbers rfl hk0 (ci := 2) rfl rfl ⟨by decide, by decide⟩ ⟨Nat.zero_le _, Nat.zero_le _⟩ rfl (Nat.le_of_ble_eq_true rfl) rfl ?_
    refine x_if_eq (tgt := 159) (pc := 127) X dX2_readItem_127 (by decide) (fun c11 => ?_) (fun c11 => ?_)
    · have h := ite_t c11 h
      refine x_iconst (v := 0) (pc := 159) X dX2_readItem_159 (by decide) ?_
      obtain rfl := Option.some.inj h
      exact x_zret (pc := 160) X dX2_readItem_160 (Or.inl rfl)
    · have h := ite_f c11 h
      refine x_aload_n (pc := 130) X dX2_readItem_130 (i := 1) rfl 2 rfl ?_
      refine x_aload_n (pc := 131) X dX2_readItem_131 (i := 0) rfl 1 rfl ?_
      obtain ⟨q4, e4, h⟩ := nns h
      refine x_getr (ci := 2) (k := 1) (n := 4) (C := RX2) (T := TX2) (pc := 132) X dX2_readItem_132 hk0 rfl (by decide) w_85 rfl e4 ?_
      refine x_iconst (v := 0) (pc := 135) X dX2_readItem_135 (by decide) ?_
      obtain ⟨g5, h⟩ := grd h
      refine x_iald (pc := 136) X dX2_readItem_136 g5 ?_
      refine x_aload_n (pc := 137) X dX2_readItem_137 (i := 0) rfl 1 rfl ?_
      refine x_getr (ci := 2) (k := 1) (n := 4) (C := RX2) (T := TX2) (pc := 138) X dX2_readItem_138 hk0 rfl (by decide) w_85 rfl e4 ?_
      refine x_iconst (v := 1) (pc := 141) X dX2_readItem_141 (by decide) ?_
      obtain ⟨g6, h⟩ := grd h
      refine x_iald (pc := 142) X dX2_readItem_142 g6 ?_
      refine x_aload_n (pc := 143) X dX2_readItem_143 (i := 0) rfl 1 rfl ?_
      refine x_getr (ci := 2) (k := 1) (n := 4) (C := RX2) (T := TX2) (pc := 144) X dX2_readItem_144 hk0 rfl (by decide) w_85 rfl e4 ?_
      refine x_iconst (v := 2) (pc := 147) X dX2_readItem_147 (by decide) ?_
      obtain ⟨g7, h⟩ := grd h
      refine x_iald (pc := 148) X dX2_readItem_148 g7 ?_
      obtain ⟨k9, h⟩ := grd h
      obtain ⟨z8, e8, h⟩ := bnds h
      refine x_callV (pc := 149) (As := [.int (z3.2 q4 (0 : Int32).toNatClampNeg), .int (z3.2 q4 (1 : Int32).toNatClampNeg), .int (z3.2 q4 (2 : Int32).toNatClampNeg)]) (st := []) (st' := [.int z8.1]) X (c_F_setHeart l cx nx N z3.2 P _ _ _ _ z8 e8) dX2_readItem_149 w_393 m_F_setHeart rfl k9 (ci := 1) rfl rfl ⟨by decide, by decide⟩ ⟨Nat.zero_le _, Nat.zero_le _⟩ rfl (Nat.le_of_ble_eq_true rfl) rfl ?_
      refine x_if_eq (tgt := 159) (pc := 152) X dX2_readItem_152 (by decide) (fun c10 => ?_) (fun c10 => ?_)
      · have h := ite_t c10 h
        refine x_iconst (v := 0) (pc := 159) X dX2_readItem_159 (by decide) ?_
        obtain rfl := Option.some.inj h
        exact x_zret (pc := 160) X dX2_readItem_160 (Or.inl rfl)
      · have h := ite_f c10 h
        refine x_iconst (v := 1) (pc := 155) X dX2_readItem_155 (by decide) ?_
        refine x_goto (tgt := 160) (pc := 156) X dX2_readItem_156 (by decide) ?_
        obtain rfl := Option.some.inj h
        exact x_zret (pc := 160) X dX2_readItem_160 (Or.inr rfl)
  · have h := ite_f cs20_0 h
    by_cases cs20_1 : z1 = 112
    · have h := ite_t cs20_1 h
      refine x_lsw (off := 36) (tgt := 56) (pc := 20) X 112 dX2_readItem_20 (by decide) cs20_1 rfl (by decide) ?_
      refine x_aload_n (pc := 56) X dX2_readItem_56 (i := 0) rfl 1 rfl ?_
      refine x_iconst (v := 1) (pc := 57) X dX2_readItem_57 (by decide) ?_
      obtain ⟨z12, e12, h⟩ := bnds h
      refine x_callV (pc := 58) (As := [.int 1]) (st := []) (st' := [.int z12.1]) X (c_T_readNumbers l cx nx N D2 P _ _ z12 e12) dX2_readItem_58 w_368 m_T_readNumbers rfl hk0 (ci := 2) rfl rfl ⟨by decide, by decide⟩ ⟨Nat.zero_le _, Nat.zero_le _⟩ rfl (Nat.le_of_ble_eq_true rfl) rfl ?_
      refine x_if_eq (tgt := 81) (pc := 61) X dX2_readItem_61 (by decide) (fun c18 => ?_) (fun c18 => ?_)
      · have h := ite_t c18 h
        refine x_iconst (v := 0) (pc := 81) X dX2_readItem_81 (by decide) ?_
        obtain rfl := Option.some.inj h
        exact x_zret (pc := 82) X dX2_readItem_82 (Or.inl rfl)
      · have h := ite_f c18 h
        refine x_aload_n (pc := 64) X dX2_readItem_64 (i := 1) rfl 2 rfl ?_
        refine x_aload_n (pc := 65) X dX2_readItem_65 (i := 0) rfl 1 rfl ?_
        obtain ⟨q13, e13, h⟩ := nns h
        refine x_getr (ci := 2) (k := 1) (n := 4) (C := RX2) (T := TX2) (pc := 66) X dX2_readItem_66 hk0 rfl (by decide) w_85 rfl e13 ?_
        refine x_iconst (v := 0) (pc := 69) X dX2_readItem_69 (by decide) ?_
        obtain ⟨g14, h⟩ := grd h
        refine x_iald (pc := 70) X dX2_readItem_70 g14 ?_
        obtain ⟨k16, h⟩ := grd h
        obtain ⟨z15, e15, h⟩ := bnds h
        refine x_callV (pc := 71) (As := [.int (z12.2 q13 (0 : Int32).toNatClampNeg)]) (st := []) (st' := [.int z15.1]) X (c_F_addPerson l cx nx N z12.2 P _ _ z15 e15) dX2_readItem_71 w_380 m_F_addPerson rfl k16 (ci := 1) rfl rfl ⟨by decide, by decide⟩ ⟨Nat.zero_le _, Nat.zero_le _⟩ rfl (Nat.le_of_ble_eq_true rfl) rfl ?_
        refine x_if_eq (tgt := 81) (pc := 74) X dX2_readItem_74 (by decide) (fun c17 => ?_) (fun c17 => ?_)
        · have h := ite_t c17 h
          refine x_iconst (v := 0) (pc := 81) X dX2_readItem_81 (by decide) ?_
          obtain rfl := Option.some.inj h
          exact x_zret (pc := 82) X dX2_readItem_82 (Or.inl rfl)
        · have h := ite_f c17 h
          refine x_iconst (v := 1) (pc := 77) X dX2_readItem_77 (by decide) ?_
          refine x_goto (tgt := 82) (pc := 78) X dX2_readItem_78 (by decide) ?_
          obtain rfl := Option.some.inj h
          exact x_zret (pc := 82) X dX2_readItem_82 (Or.inr rfl)
    · have h := ite_f cs20_1 h
      by_cases cs20_2 : z1 = 116
      · have h := ite_t cs20_2 h
        refine x_lsw (off := 63) (tgt := 83) (pc := 20) X 116 dX2_readItem_20 (by decide) cs20_2 rfl (by decide) ?_
        refine x_aload_n (pc := 83) X dX2_readItem_83 (i := 0) rfl 1 rfl ?_
        refine x_iconst (v := 3) (pc := 84) X dX2_readItem_84 (by decide) ?_
        obtain ⟨z19, e19, h⟩ := bnds h
        refine x_callV (pc := 85) (As := [.int 3]) (st := []) (st' := [.int z19.1]) X (c_T_readNumbers l cx nx N D2 P _ _ z19 e19) dX2_readItem_85 w_368 m_T_readNumbers rfl hk0 (ci := 2) rfl rfl ⟨by decide, by decide⟩ ⟨Nat.zero_le _, Nat.zero_le _⟩ rfl (Nat.le_of_ble_eq_true rfl) rfl ?_
        refine x_if_eq (tgt := 120) (pc := 88) X dX2_readItem_88 (by decide) (fun c27 => ?_) (fun c27 => ?_)
        · have h := ite_t c27 h
          refine x_iconst (v := 0) (pc := 120) X dX2_readItem_120 (by decide) ?_
          obtain rfl := Option.some.inj h
          exact x_zret (pc := 121) X dX2_readItem_121 (Or.inl rfl)
        · have h := ite_f c27 h
          refine x_aload_n (pc := 91) X dX2_readItem_91 (i := 1) rfl 2 rfl ?_
          refine x_aload_n (pc := 92) X dX2_readItem_92 (i := 0) rfl 1 rfl ?_
          obtain ⟨q20, e20, h⟩ := nns h
          refine x_getr (ci := 2) (k := 1) (n := 4) (C := RX2) (T := TX2) (pc := 93) X dX2_readItem_93 hk0 rfl (by decide) w_85 rfl e20 ?_
          refine x_iconst (v := 0) (pc := 96) X dX2_readItem_96 (by decide) ?_
          obtain ⟨g21, h⟩ := grd h
          refine x_iald (pc := 97) X dX2_readItem_97 g21 ?_
          refine x_aload_n (pc := 98) X dX2_readItem_98 (i := 0) rfl 1 rfl ?_
          refine x_getr (ci := 2) (k := 1) (n := 4) (C := RX2) (T := TX2) (pc := 99) X dX2_readItem_99 hk0 rfl (by decide) w_85 rfl e20 ?_
          refine x_iconst (v := 1) (pc := 102) X dX2_readItem_102 (by decide) ?_
          obtain ⟨g22, h⟩ := grd h
          refine x_iald (pc := 103) X dX2_readItem_103 g22 ?_
          refine x_aload_n (pc := 104) X dX2_readItem_104 (i := 0) rfl 1 rfl ?_
          refine x_getr (ci := 2) (k := 1) (n := 4) (C := RX2) (T := TX2) (pc := 105) X dX2_readItem_105 hk0 rfl (by decide) w_85 rfl e20 ?_
          refine x_iconst (v := 2) (pc := 108) X dX2_readItem_108 (by decide) ?_
          obtain ⟨g23, h⟩ := grd h
          refine x_iald (pc := 109) X dX2_readItem_109 g23 ?_
          obtain ⟨k25, h⟩ := grd h
          obtain ⟨z24, e24, h⟩ := bnds h
          refine x_callV (pc := 110) (As := [.int (z19.2 q20 (0 : Int32).toNatClampNeg), .int (z19.2 q20 (1 : Int32).toNatClampNeg), .int (z19.2 q20 (2 : Int32).toNatClampNeg)]) (st := []) (st' := [.int z24.1]) X (c_F_addPin l cx nx N z19.2 P _ _ _ _ z24 e24) dX2_readItem_110 w_385 m_F_addPin rfl k25 (ci := 1) rfl rfl ⟨by decide, by decide⟩ ⟨Nat.zero_le _, Nat.zero_le _⟩ rfl (Nat.le_of_ble_eq_true rfl) rfl ?_
          refine x_if_eq (tgt := 120) (pc := 113) X dX2_readItem_113 (by decide) (fun c26 => ?_) (fun c26 => ?_)
          · have h := ite_t c26 h
            refine x_iconst (v := 0) (pc := 120) X dX2_readItem_120 (by decide) ?_
            obtain rfl := Option.some.inj h
            exact x_zret (pc := 121) X dX2_readItem_121 (Or.inl rfl)
          · have h := ite_f c26 h
            refine x_iconst (v := 1) (pc := 116) X dX2_readItem_116 (by decide) ?_
            refine x_goto (tgt := 121) (pc := 117) X dX2_readItem_117 (by decide) ?_
            obtain rfl := Option.some.inj h
            exact x_zret (pc := 121) X dX2_readItem_121 (Or.inr rfl)
      · have h := ite_f cs20_2 h
        refine x_lswd (off := 141) (tgt := 161) (pc := 20) X dX2_readItem_20 (by decide) (by show Op.lookupswitch.offset [(104, 102), (112, 36), (116, 63)] _ _ = _; rw [lv_osw (k := 104) (a := 104) cs20_0 rfl, lv_osw (k := 112) (a := 112) cs20_1 rfl, lv_osw (k := 116) (a := 116) cs20_2 rfl]; rfl) (by decide) ?_
        refine x_iconst (v := 0) (pc := 161) X dX2_readItem_161 (by decide) ?_
        obtain rfl := Option.some.inj h
        exact x_zret (pc := 162) X dX2_readItem_162 (Or.inl rfl)
theorem dX2_readInto_0 : decode cX2_readInto 0 = .ok (.aload_n 1, 1) := by decide +kernel
theorem dX2_readInto_1 : decode cX2_readInto 1 = .ok (.invokevirtual 27, 3) := by decide +kernel
theorem dX2_readInto_4 : decode cX2_readInto 4 = .ok (.aload_n 0, 1) := by decide +kernel
theorem dX2_readInto_5 : decode cX2_readInto 5 = .ok (.iconst 0, 1) := by decide +kernel
theorem dX2_readInto_6 : decode cX2_readInto 6 = .ok (.putfield 32, 3) := by decide +kernel
theorem dX2_readInto_9 : decode cX2_readInto 9 = .ok (.iconst 0, 1) := by decide +kernel
theorem dX2_readInto_10 : decode cX2_readInto 10 = .ok (.istore_n 2, 1) := by decide +kernel
theorem dX2_readInto_11 : decode cX2_readInto 11 = .ok (.iload_n 2, 1) := by decide +kernel
theorem dX2_readInto_12 : decode cX2_readInto 12 = .ok (.sipush 200, 3) := by decide +kernel
theorem dX2_readInto_15 : decode cX2_readInto 15 = .ok (.if_icmp .ge 35, 3) := by decide +kernel
theorem dX2_readInto_18 : decode cX2_readInto 18 = .ok (.aload_n 0, 1) := by decide +kernel
theorem dX2_readInto_19 : decode cX2_readInto 19 = .ok (.getfield 32, 3) := by decide +kernel
theorem dX2_readInto_22 : decode cX2_readInto 22 = .ok (.aload_n 0, 1) := by decide +kernel
theorem dX2_readInto_23 : decode cX2_readInto 23 = .ok (.getfield 19, 3) := by decide +kernel
theorem dX2_readInto_26 : decode cX2_readInto 26 = .ok (.if_icmp .ge 24, 3) := by decide +kernel
theorem dX2_readInto_29 : decode cX2_readInto 29 = .ok (.aload_n 0, 1) := by decide +kernel
theorem dX2_readInto_30 : decode cX2_readInto 30 = .ok (.getfield 32, 3) := by decide +kernel
theorem dX2_readInto_33 : decode cX2_readInto 33 = .ok (.istore_n 3, 1) := by decide +kernel
theorem dX2_readInto_34 : decode cX2_readInto 34 = .ok (.aload_n 0, 1) := by decide +kernel
theorem dX2_readInto_35 : decode cX2_readInto 35 = .ok (.aload_n 1, 1) := by decide +kernel
theorem dX2_readInto_36 : decode cX2_readInto 36 = .ok (.invokevirtual 35, 3) := by decide +kernel
theorem dX2_readInto_39 : decode cX2_readInto 39 = .ok (.ifCond .ne 5, 3) := by decide +kernel
theorem dX2_readInto_42 : decode cX2_readInto 42 = .ok (.iload_n 3, 1) := by decide +kernel
theorem dX2_readInto_43 : decode cX2_readInto 43 = .ok (.ireturn, 1) := by decide +kernel
theorem dX2_readInto_44 : decode cX2_readInto 44 = .ok (.iinc 2 1, 3) := by decide +kernel
theorem dX2_readInto_47 : decode cX2_readInto 47 = .ok (.goto (-36), 3) := by decide +kernel
theorem dX2_readInto_50 : decode cX2_readInto 50 = .ok (.bipush (-4), 2) := by decide +kernel
theorem dX2_readInto_52 : decode cX2_readInto 52 = .ok (.ireturn, 1) := by decide +kernel
def f_T_readInto_11 (N nx : Nat) (P : Ft) (a0 : Nat) (a1 : Nat) (rec11 : Dt → Int32 → Option (Int32 × Dt)) (D : Dt) (i2 : Int32) : Option (Int32 × Dt) :=
  if 200 ≤ i2 then
    some ((-4), D)
  else
    if D a0 2 ≤ D a0 3 then
      some ((-4), D)
    else
      (f_T_readItem N nx D P a0 a1).bind fun z4 =>
      if z4.1 = 0 then
        some (D a0 3, z4.2)
      else
        rec11 z4.2 (i2 + 1)
def f_T_readInto (N nx : Nat) (D : Dt) (P : Ft) (a0 : Nat) (a1 : Nat) : Option (Int32 × Dt) :=
  if kd nx a0 = 2 then
  if kd nx a1 = 1 then
  (f_F_clear N nx D P a1).bind fun z1 =>
  pas (upd2 z1 a0 3 0) fun D3 =>
  wk2 N (f_T_readInto_11 N nx P a0 a1) D3 0
  else none
  else none
theorem m_T_readInto : MV yX2_readInto cX2_readInto 4 (some .int) 1 := ⟨mT 355 (by decide +kernel) rfl, mT 353 (by decide +kernel) rfl, mT 354 (by decide +kernel) rfl, mT 55 (by decide +kernel) rfl, by decide +kernel, by decide +kernel, by decide +kernel⟩
set_option maxHeartbeats 4000000 in
set_option maxRecDepth 100000 in
theorem c_T_readInto (l : Launch) (cx : Cx) (nx N : Nat) (D : Dt) (P : Ft) (a0 : Nat) (a1 : Nat) (z : Int32 × Dt) (h : f_T_readInto N nx D P a0 a1 = some z) : Ct l cx yX2_readInto cX2_readInto 4 (some .int) 5 [.ref (cx.2.2 + a0), .ref (cx.2.2 + a1)] D P nx (some (.int z.1)) z.2 P := by
  refine x_met0 (by decide) (Nat.le_of_ble_eq_true rfl) ?_
  intro p e s m args below meth c X
  have X : XC p s m args meth c cx cX2_readInto 4 (some .int) "HeartPins$Letters" "readInto" := X
  refine XW.sub (lv' := [(0, .ref (cx.2.2 + a0)), (1, .ref (cx.2.2 + a1))]) [0, 1] rfl ?_
  unfold f_T_readInto at h
  obtain ⟨hk0, h⟩ := grd h
  have hL11 : ∀ (n : Nat) (D : Dt) (i2 : Int32), wk2 n (f_T_readInto_11 N nx P a0 a1) D i2 = some z → XW p l e (rmk 5) s m args below meth c (MQ below (Qx cx (some (.int z.1)) z.2 P nx) args s 0 0 (AA cx)) cx 4 D P nx 0 0 11 [(0, .ref (cx.2.2 + a0)), (1, .ref (cx.2.2 + a1)), (2, .int i2)] [] := by
    intro n
    induction n with
    | zero => intro D i2 h; exact (nonz h).elim
    | succ n ih11 =>
      intro D i2 h
      have h : f_T_readInto_11 N nx P a0 a1 (wk2 n (f_T_readInto_11 N nx P a0 a1)) D i2 = some z := h
      generalize wk2 n (f_T_readInto_11 N nx P a0 a1) = rec11 at ih11 h
      unfold f_T_readInto_11 at h
      refine x_iload_n (pc := 11) X dX2_readInto_11 (i := 2) rfl 2 rfl ?_
      refine x_sipush (v := 200) (pc := 12) X dX2_readInto_12 (by decide) ?_
      refine x_icmp_ge (tgt := 50) (pc := 15) X dX2_readInto_15 (by decide) (fun c7 => ?_) (fun c7 => ?_)
      · have h := ite_t c7 h
        refine x_bipush (v := (-4)) (pc := 50) X dX2_readInto_50 (by decide) ?_
        obtain rfl := Option.some.inj h
        exact x_iret (pc := 52) X dX2_readInto_52
      · have h := ite_f c7 h
        refine x_aload_n (pc := 18) X dX2_readInto_18 (i := 0) rfl 0 rfl ?_
        refine x_geti (ci := 2) (k := 3) (n := 4) (C := RX2) (T := TX2) (pc := 19) X dX2_readInto_19 hk0 rfl (by decide) w_88 rfl ?_
        refine x_aload_n (pc := 22) X dX2_readInto_22 (i := 0) rfl 0 rfl ?_
        refine x_geti (ci := 2) (k := 2) (n := 4) (C := RX2) (T := TX2) (pc := 23) X dX2_readInto_23 hk0 rfl (by decide) w_86 rfl ?_
        refine x_icmp_ge (tgt := 50) (pc := 26) X dX2_readInto_26 (by decide) (fun c6 => ?_) (fun c6 => ?_)
        · have h := ite_t c6 h
          refine x_bipush (v := (-4)) (pc := 50) X dX2_readInto_50 (by decide) ?_
          obtain rfl := Option.some.inj h
          exact x_iret (pc := 52) X dX2_readInto_52
        · have h := ite_f c6 h
          refine x_aload_n (pc := 29) X dX2_readInto_29 (i := 0) rfl 0 rfl ?_
          refine x_geti (ci := 2) (k := 3) (n := 4) (C := RX2) (T := TX2) (pc := 30) X dX2_readInto_30 hk0 rfl (by decide) w_88 rfl ?_
          refine x_istore_n (lv' := [(3, .int (D a0 3)), (0, .ref (cx.2.2 + a0)), (1, .ref (cx.2.2 + a1)), (2, .int i2)]) (pc := 33) X dX2_readInto_33 (i := 3) rfl (by decide) rfl ?_
          refine x_aload_n (pc := 34) X dX2_readInto_34 (i := 0) rfl 1 rfl ?_
          refine x_aload_n (pc := 35) X dX2_readInto_35 (i := 1) rfl 2 rfl ?_
          obtain ⟨z4, e4, h⟩ := bnds h
          refine x_callV (pc := 36) (As := [.ref (cx.2.2 + a1)]) (st := []) (st' := [.int z4.1]) X (c_T_readItem l cx nx N D P _ _ z4 e4) dX2_readInto_36 w_360 m_T_readItem rfl hk0 (ci := 2) rfl rfl ⟨by decide, by decide⟩ ⟨Nat.zero_le _, Nat.zero_le _⟩ rfl (Nat.le_of_ble_eq_true rfl) rfl ?_
          refine x_if_ne (tgt := 44) (pc := 39) X dX2_readInto_39 (by decide) (fun c5 => ?_) (fun c5 => ?_)
          · have h := ite_f c5 h
            refine x_iinc (v := i2 + 1) (lv' := [(2, .int (i2 + 1)), (3, .int (D a0 3)), (0, .ref (cx.2.2 + a0)), (1, .ref (cx.2.2 + a1))]) (pc := 44) X dX2_readInto_44 3 rfl rfl (by decide) rfl ?_
            refine x_goto (tgt := 11) (pc := 47) X dX2_readInto_47 (by decide) ?_
            exact XW.sub [2, 3, 0] rfl (ih11 _ _ h)
          · have h := ite_t c5 h
            refine x_iload_n (pc := 42) X dX2_readInto_42 (i := 3) rfl 0 rfl ?_
            obtain rfl := Option.some.inj h
            exact x_iret (pc := 43) X dX2_readInto_43
  refine x_aload_n (pc := 0) X dX2_readInto_0 (i := 1) rfl 1 rfl ?_
  obtain ⟨k2, h⟩ := grd h
  obtain ⟨z1, e1, h⟩ := bnds h
  refine x_callV (pc := 1) (As := []) (st := []) (st' := []) X (c_F_clear l cx nx N D P _ z1 e1) dX2_readInto_1 w_356 m_F_clear rfl k2 (ci := 1) rfl rfl ⟨by decide, by decide⟩ ⟨Nat.zero_le _, Nat.zero_le _⟩ rfl (Nat.le_of_ble_eq_true rfl) rfl ?_
  refine x_aload_n (pc := 4) X dX2_readInto_4 (i := 0) rfl 0 rfl ?_
  refine x_iconst (v := 0) (pc := 5) X dX2_readInto_5 (by decide) ?_
  obtain ⟨D3, w3, h⟩ := pass h
  refine x_puti (ci := 2) (k := 3) (n := 4) (C := RX2) (T := TX2) (D' := D3) (pc := 6) X dX2_readInto_6 hk0 rfl (by decide) w_88 rfl (by decide +kernel) rfl w3 ?_
  refine x_iconst (v := 0) (pc := 9) X dX2_readInto_9 (by decide) ?_
  refine x_istore_n (lv' := [(2, .int 0), (0, .ref (cx.2.2 + a0)), (1, .ref (cx.2.2 + a1))]) (pc := 10) X dX2_readInto_10 (i := 2) rfl (by decide) rfl ?_
  exact XW.sub [1, 2, 0] rfl (hL11 _ _ _ h)
