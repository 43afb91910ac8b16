theorem w_108 : Cond.fieldLink "HeartPins$Standing" 31 "HeartPins$Family" "owner" "[I" ∈ wT := mT 108 (by decide +kernel) rfl
theorem w_111 : Cond.fieldLink "HeartPins$Standing" 28 "HeartPins$Family" "told" "[I" ∈ wT := mT 111 (by decide +kernel) rfl
theorem w_114 : Cond.fieldLink "HeartPins$Standing" 66 "HeartPins$Family" "persons" "I" ∈ wT := mT 114 (by decide +kernel) rfl
theorem w_119 : Cond.fieldLink "HeartPins$Standing" 78 "HeartPins$Family" "room" "I" ∈ wT := mT 119 (by decide +kernel) rfl
theorem w_122 : Cond.fieldLink "HeartPins$Standing" 81 "HeartPins$Family" "doorway" "I" ∈ wT := mT 122 (by decide +kernel) rfl
theorem w_125 : Cond.fieldLink "HeartPins$Standing" 120 "HeartPins$Family" "rhythm" "I" ∈ wT := mT 125 (by decide +kernel) rfl
theorem w_151 : Cond.fieldLink "HeartPins$Standing" 18 "HeartPins$Standing" "family" "LHeartPins$Family;" ∈ wT := mT 151 (by decide +kernel) rfl
theorem w_153 : Cond.fieldLink "HeartPins$Standing" 9 "HeartPins$Standing" "large" "[I" ∈ wT := mT 153 (by decide +kernel) rfl
theorem w_154 : Cond.fieldLink "HeartPins$Standing" 15 "HeartPins$Standing" "where" "[I" ∈ wT := mT 154 (by decide +kernel) rfl
theorem w_155 : Cond.fieldLink "HeartPins$Standing" 34 "HeartPins$Standing" "steps" "I" ∈ wT := mT 155 (by decide +kernel) rfl
theorem w_158 : Cond.fieldLink "HeartPins$Standing" 38 "HeartPins$Standing" "day" "I" ∈ wT := mT 158 (by decide +kernel) rfl
theorem w_405 : Cond.methodLink "HeartPins$Standing" 22 ⟨"HeartPins$Family", "hasPin", "(I)Z"⟩ ∈ wT := mT 405 (by decide +kernel) rfl
theorem w_483 : Cond.methodLink "HeartPins$Standing" 45 ⟨"HeartPins$Standing", "sumAt", "(I)I"⟩ ∈ wT := mT 483 (by decide +kernel) rfl
theorem w_495 : Cond.methodLink "HeartPins$Standing" 60 ⟨"HeartPins$Standing", "loadOf", "(I)I"⟩ ∈ wT := mT 495 (by decide +kernel) rfl
theorem w_496 : Cond.methodLink "HeartPins$Standing" 63 ⟨"HeartPins$Family", "bearableBy", "(I)I"⟩ ∈ wT := mT 496 (by decide +kernel) rfl
theorem w_533 : Cond.methodLink "HeartPins$Standing" 75 ⟨"HeartPins$Standing", "heartSum", "()I"⟩ ∈ wT := mT 533 (by decide +kernel) rfl
theorem w_546 : Cond.methodLink "HeartPins$Standing" 41 ⟨"HeartPins$Standing", "whereIs", "(I)I"⟩ ∈ wT := mT 546 (by decide +kernel) rfl
theorem w_547 : Cond.methodLink "HeartPins$Standing" 84 ⟨"HeartPins$Standing", "isAtDoor", "()Z"⟩ ∈ wT := mT 547 (by decide +kernel) rfl
theorem w_568 : Cond.methodLink "HeartPins$Standing" 88 ⟨"HeartPins$Standing", "canStick", "(I)Z"⟩ ∈ wT := mT 568 (by decide +kernel) rfl
theorem w_581 : Cond.methodLink "HeartPins$Standing" 91 ⟨"HeartPins$Standing", "canFeel", "(I)Z"⟩ ∈ wT := mT 581 (by decide +kernel) rfl
theorem w_582 : Cond.methodLink "HeartPins$Standing" 94 ⟨"HeartPins$Family", "hasPerson", "(I)Z"⟩ ∈ wT := mT 582 (by decide +kernel) rfl
theorem w_595 : Cond.methodLink "HeartPins$Standing" 97 ⟨"HeartPins$Standing", "canGive", "(II)Z"⟩ ∈ wT := mT 595 (by decide +kernel) rfl
theorem w_604 : Cond.methodLink "HeartPins$Standing" 107 ⟨"HeartPins$Standing", "goDay", "()V"⟩ ∈ wT := mT 604 (by decide +kernel) rfl
theorem w_608 : Cond.methodLink "HeartPins$Standing" 110 ⟨"HeartPins$Standing", "isFull", "()Z"⟩ ∈ wT := mT 608 (by decide +kernel) rfl
theorem w_609 : Cond.methodLink "HeartPins$Standing" 113 ⟨"HeartPins$Standing", "changePin", "(IZ)V"⟩ ∈ wT := mT 609 (by decide +kernel) rfl
theorem w_613 : Cond.methodLink "HeartPins$Standing" 126 ⟨"HeartPins$Family", "kindOf", "(I)I"⟩ ∈ wT := mT 613 (by decide +kernel) rfl
theorem w_620 : Cond.methodLink "HeartPins$Standing" 101 ⟨"java/lang/Math", "min", "(II)I"⟩ ∈ wT := mT 620 (by decide +kernel) rfl
theorem w_621 : Cond.methodLink "HeartPins$Standing" 117 ⟨"java/lang/Math", "max", "(II)I"⟩ ∈ wT := mT 621 (by decide +kernel) rfl
theorem w_622 : Cond.methodLink "HeartPins$Standing" 123 ⟨"HeartPins$Standing", "shakeOut", "()V"⟩ ∈ wT := mT 622 (by decide +kernel) rfl
theorem w_682 : Cond.methodLink "HeartPins$Standing" 72 ⟨"HeartPins$Standing", "howManyBreak", "()I"⟩ ∈ wT := mT 682 (by decide +kernel) rfl
theorem w_686 : Cond.methodLink "HeartPins$Standing" 69 ⟨"HeartPins$Standing", "isBroken", "(I)Z"⟩ ∈ wT := mT 686 (by decide +kernel) rfl
theorem w_778 : Cond.methodLink "HeartPins$Standing" 48 ⟨"HeartPins$Standing", "borneBits", "()I"⟩ ∈ wT := mT 778 (by decide +kernel) rfl
theorem w_779 : Cond.methodLink "HeartPins$Standing" 52 ⟨"java/lang/Integer", "bitCount", "(I)I"⟩ ∈ wT := mT 779 (by decide +kernel) rfl
theorem w_857 : Cond.methodLink "HeartPins$Standing" 57 ⟨"HeartPins$Standing", "pinsWith", "(I)I"⟩ ∈ wT := mT 857 (by decide +kernel) rfl
theorem dX7_begin_0 : decode cX7_begin 0 = .ok (.iconst 0, 1) := by decide +kernel
theorem dX7_begin_1 : decode cX7_begin 1 = .ok (.istore_n 1, 1) := by decide +kernel
theorem dX7_begin_2 : decode cX7_begin 2 = .ok (.iload_n 1, 1) := by decide +kernel
theorem dX7_begin_3 : decode cX7_begin 3 = .ok (.bipush 8, 2) := by decide +kernel
theorem dX7_begin_5 : decode cX7_begin 5 = .ok (.if_icmp .ge 65, 3) := by decide +kernel
theorem dX7_begin_8 : decode cX7_begin 8 = .ok (.aload_n 0, 1) := by decide +kernel
theorem dX7_begin_9 : decode cX7_begin 9 = .ok (.getfield 18, 3) := by decide +kernel
theorem dX7_begin_12 : decode cX7_begin 12 = .ok (.iload_n 1, 1) := by decide +kernel
theorem dX7_begin_13 : decode cX7_begin 13 = .ok (.invokevirtual 22, 3) := by decide +kernel
theorem dX7_begin_16 : decode cX7_begin 16 = .ok (.istore_n 2, 1) := by decide +kernel
theorem dX7_begin_17 : decode cX7_begin 17 = .ok (.aload_n 0, 1) := by decide +kernel
theorem dX7_begin_18 : decode cX7_begin 18 = .ok (.getfield 9, 3) := by decide +kernel
theorem dX7_begin_21 : decode cX7_begin 21 = .ok (.iload_n 1, 1) := by decide +kernel
theorem dX7_begin_22 : decode cX7_begin 22 = .ok (.iload_n 2, 1) := by decide +kernel
theorem dX7_begin_23 : decode cX7_begin 23 = .ok (.ifCond .eq 15, 3) := by decide +kernel
theorem dX7_begin_26 : decode cX7_begin 26 = .ok (.aload_n 0, 1) := by decide +kernel
theorem dX7_begin_27 : decode cX7_begin 27 = .ok (.getfield 18, 3) := by decide +kernel
theorem dX7_begin_30 : decode cX7_begin 30 = .ok (.getfield 28, 3) := by decide +kernel
theorem dX7_begin_33 : decode cX7_begin 33 = .ok (.iload_n 1, 1) := by decide +kernel
theorem dX7_begin_34 : decode cX7_begin 34 = .ok (.iaload, 1) := by decide +kernel
theorem dX7_begin_35 : decode cX7_begin 35 = .ok (.goto 4, 3) := by decide +kernel
theorem dX7_begin_38 : decode cX7_begin 38 = .ok (.iconst 0, 1) := by decide +kernel
theorem dX7_begin_39 : decode cX7_begin 39 = .ok (.iastore, 1) := by decide +kernel
theorem dX7_begin_40 : decode cX7_begin 40 = .ok (.aload_n 0, 1) := by decide +kernel
theorem dX7_begin_41 : decode cX7_begin 41 = .ok (.getfield 15, 3) := by decide +kernel
theorem dX7_begin_44 : decode cX7_begin 44 = .ok (.iload_n 1, 1) := by decide +kernel
theorem dX7_begin_45 : decode cX7_begin 45 = .ok (.iload_n 2, 1) := by decide +kernel
theorem dX7_begin_46 : decode cX7_begin 46 = .ok (.ifCond .eq 15, 3) := by decide +kernel
theorem dX7_begin_49 : decode cX7_begin 49 = .ok (.aload_n 0, 1) := by decide +kernel
theorem dX7_begin_50 : decode cX7_begin 50 = .ok (.getfield 18, 3) := by decide +kernel
theorem dX7_begin_53 : decode cX7_begin 53 = .ok (.getfield 31, 3) := by decide +kernel
theorem dX7_begin_56 : decode cX7_begin 56 = .ok (.iload_n 1, 1) := by decide +kernel
theorem dX7_begin_57 : decode cX7_begin 57 = .ok (.iaload, 1) := by decide +kernel
theorem dX7_begin_58 : decode cX7_begin 58 = .ok (.goto 5, 3) := by decide +kernel
theorem dX7_begin_61 : decode cX7_begin 61 = .ok (.bipush (-4), 2) := by decide +kernel
theorem dX7_begin_63 : decode cX7_begin 63 = .ok (.iastore, 1) := by decide +kernel
theorem dX7_begin_64 : decode cX7_begin 64 = .ok (.iinc 1 1, 3) := by decide +kernel
theorem dX7_begin_67 : decode cX7_begin 67 = .ok (.goto (-65), 3) := by decide +kernel
theorem dX7_begin_70 : decode cX7_begin 70 = .ok (.aload_n 0, 1) := by decide +kernel
theorem dX7_begin_71 : decode cX7_begin 71 = .ok (.iconst 0, 1) := by decide +kernel
theorem dX7_begin_72 : decode cX7_begin 72 = .ok (.putfield 34, 3) := by decide +kernel
theorem dX7_begin_75 : decode cX7_begin 75 = .ok (.aload_n 0, 1) := by decide +kernel
theorem dX7_begin_76 : decode cX7_begin 76 = .ok (.iconst 0, 1) := by decide +kernel
theorem dX7_begin_77 : decode cX7_begin 77 = .ok (.putfield 38, 3) := by decide +kernel
theorem dX7_begin_80 : decode cX7_begin 80 = .ok (.return_, 1) := by decide +kernel
def f_C_begin_39 (N nx : Nat) (rec2 : Dt → Int32 → Option Dt) (D : Dt) (P : Ft) (a0 : Nat) (i1 : Int32) (i2 : Int32) (s0 : Nat) (s1 : Int32) (s2 : Int32) : Option Dt :=
  if ab nx s0 3 s1 = true then
  pas (upd2 D s0 s1.toNatClampNeg s2) fun D7 =>
  nn (P a0 2) fun q8 =>
  if i2 = 0 then
    if ab nx q8 3 i1 = true then
    pas (upd2 D7 q8 i1.toNatClampNeg (-4)) fun D9 =>
    rec2 D9 (i1 + 1)
    else none
  else
    nn (P a0 0) fun q10 =>
    if kd nx q10 = 1 then
    nn (P q10 1) fun q12 =>
    if ab nx q12 3 i1 = true then
    if ab nx q8 3 i1 = true then
    pas (upd2 D7 q8 i1.toNatClampNeg (D7 q12 i1.toNatClampNeg)) fun D14 =>
    rec2 D14 (i1 + 1)
    else none
    else none
    else none
  else none
def f_C_begin_2 (N nx : Nat) (P : Ft) (a0 : Nat) (rec2 : Dt → Int32 → Option Dt) (D : Dt) (i1 : Int32) : Option Dt :=
  if 8 ≤ i1 then
    pas (upd2 D a0 3 0) fun D1 =>
    pas (upd2 D1 a0 4 0) fun D2 =>
    some D2
  else
    nn (P a0 0) fun q3 =>
    if kd nx q3 = 1 then
    (f_F_hasPin N nx D P q3 i1).bind fun z4 =>
    nn (P a0 1) fun q6 =>
    if z4 = 0 then
      f_C_begin_39 N nx rec2 D P a0 i1 z4 q6 i1 0
    else
      nn (P q3 3) fun q16 =>
      if ab nx q16 3 i1 = true then
      f_C_begin_39 N nx rec2 D P a0 i1 z4 q6 i1 (D q16 i1.toNatClampNeg)
      else none
    else none
def f_C_begin (N nx : Nat) (D : Dt) (P : Ft) (a0 : Nat) : Option Dt :=
  if kd nx a0 = 7 then
  wk2 N (f_C_begin_2 N nx P a0) D 0
  else none
theorem m_C_begin : MV yX7_begin cX7_begin 3 none 0 := ⟨mT 404 (by decide +kernel) rfl, mT 402 (by decide +kernel) rfl, mT 403 (by decide +kernel) rfl, mT 57 (by decide +kernel) rfl, by decide +kernel, by decide +kernel, by decide +kernel⟩
set_option maxHeartbeats 4000000 in
set_option maxRecDepth 100000 in
theorem c_C_begin (l : Launch) (cx : Cx) (nx N : Nat) (D : Dt) (P : Ft) (a0 : Nat) (z : Dt) (h : f_C_begin N nx D P a0 = some z) : Ct l cx yX7_begin cX7_begin 3 none 1 [.ref (cx.2.2 + a0)] D P nx none z P := by
  refine x_met0 (by decide) (Nat.le_of_ble_eq_true rfl) ?_
  intro p e s m args below meth c X
  have X : XC p s m args meth c cx cX7_begin 3 none "HeartPins$Standing" "begin" := X
  refine XW.sub (lv' := [(0, .ref (cx.2.2 + a0))]) [0] rfl ?_
  unfold f_C_begin at h
  obtain ⟨hk0, h⟩ := grd h
  have hL2 : ∀ (n : Nat) (D : Dt) (i1 : Int32), wk2 n (f_C_begin_2 N nx P a0) D i1 = some z → XW p l e (rmk 1) s m args below meth c (MQ below (Qx cx none z P nx) args s 0 0 (AA cx)) cx 3 D P nx 0 0 2 [(0, .ref (cx.2.2 + a0)), (1, .int i1)] [] := by
    intro n
    induction n with
    | zero => intro D i1 h; exact (nonz h).elim
    | succ n ih2 =>
      intro D i1 h
      have h : f_C_begin_2 N nx P a0 (wk2 n (f_C_begin_2 N nx P a0)) D i1 = some z := h
      generalize wk2 n (f_C_begin_2 N nx P a0) = rec2 at ih2 h
      unfold f_C_begin_2 at h
      have hJ39 : ∀ (D : Dt) (i1 : Int32) (i2 : Int32) (s0 : Nat) (s1 : Int32) (s2 : Int32), f_C_begin_39 N nx rec2 D P a0 i1 i2 s0 s1 s2 = some z → XW p l e (rmk 1) s m args below meth c (MQ below (Qx cx none z P nx) args s 0 0 (AA cx)) cx 3 D P nx 0 0 39 [(0, .ref (cx.2.2 + a0)), (1, .int i1), (2, .int i2)] [.int s2, .int s1, .ref (cx.2.2 + s0)] := by
        intro D i1 i2 s0 s1 s2 h
        unfold f_C_begin_39 at h
        obtain ⟨g7, h⟩ := grd h
        obtain ⟨D7, w7, h⟩ := pass h
        refine x_iast (D' := D7) (pc := 39) X dX7_begin_39 g7 w7 ?_
        refine x_aload_n (pc := 40) X dX7_begin_40 (i := 0) rfl 0 rfl ?_
        obtain ⟨q8, e8, h⟩ := nns h
        refine x_getr (ci := 7) (k := 2) (n := 5) (C := RX7) (T := TX7) (pc := 41) X dX7_begin_41 hk0 rfl (by decide) w_154 rfl e8 ?_
        refine x_iload_n (pc := 44) X dX7_begin_44 (i := 1) rfl 1 rfl ?_
        refine x_iload_n (pc := 45) X dX7_begin_45 (i := 2) rfl 2 rfl ?_
        refine x_if_eq (tgt := 61) (pc := 46) X dX7_begin_46 (by decide) (fun c15 => ?_) (fun c15 => ?_)
        · have h := ite_t c15 h
          refine x_bipush (v := (-4)) (pc := 61) X dX7_begin_61 (by decide) ?_
          obtain ⟨g9, h⟩ := grd h
          obtain ⟨D9, w9, h⟩ := pass h
          refine x_iast (D' := D9) (pc := 63) X dX7_begin_63 g9 w9 ?_
          refine x_iinc (v := i1 + 1) (lv' := [(1, .int (i1 + 1)), (0, .ref (cx.2.2 + a0)), (2, .int i2)]) (pc := 64) X dX7_begin_64 1 rfl rfl (by decide) rfl ?_
          refine x_goto (tgt := 2) (pc := 67) X dX7_begin_67 (by decide) ?_
          exact XW.sub [1, 0] rfl (ih2 _ _ h)
        · have h := ite_f c15 h
          refine x_aload_n (pc := 49) X dX7_begin_49 (i := 0) rfl 0 rfl ?_
          obtain ⟨q10, e10, h⟩ := nns h
          refine x_getr (ci := 7) (k := 0) (n := 5) (C := RX7) (T := TX7) (pc := 50) X dX7_begin_50 hk0 rfl (by decide) w_151 rfl e10 ?_
          obtain ⟨k11, h⟩ := grd h
          obtain ⟨q12, e12, h⟩ := nns h
          refine x_getr (ci := 1) (k := 1) (n := 9) (C := RX1) (T := TX1) (pc := 53) X dX7_begin_53 k11 rfl (by decide) w_108 rfl e12 ?_
          refine x_iload_n (pc := 56) X dX7_begin_56 (i := 1) rfl 1 rfl ?_
          obtain ⟨g13, h⟩ := grd h
          refine x_iald (pc := 57) X dX7_begin_57 g13 ?_
          refine x_goto (tgt := 63) (pc := 58) X dX7_begin_58 (by decide) ?_
          obtain ⟨g14, h⟩ := grd h
          obtain ⟨D14, w14, h⟩ := pass h
          refine x_iast (D' := D14) (pc := 63) X dX7_begin_63 g14 w14 ?_
          refine x_iinc (v := i1 + 1) (lv' := [(1, .int (i1 + 1)), (0, .ref (cx.2.2 + a0)), (2, .int i2)]) (pc := 64) X dX7_begin_64 1 rfl rfl (by decide) rfl ?_
          refine x_goto (tgt := 2) (pc := 67) X dX7_begin_67 (by decide) ?_
          exact XW.sub [1, 0] rfl (ih2 _ _ h)
      refine x_iload_n (pc := 2) X dX7_begin_2 (i := 1) rfl 1 rfl ?_
      refine x_bipush (v := 8) (pc := 3) X dX7_begin_3 (by decide) ?_
      refine x_icmp_ge (tgt := 70) (pc := 5) X dX7_begin_5 (by decide) (fun c19 => ?_) (fun c19 => ?_)
      · have h := ite_t c19 h
        refine x_aload_n (pc := 70) X dX7_begin_70 (i := 0) rfl 0 rfl ?_
        refine x_iconst (v := 0) (pc := 71) X dX7_begin_71 (by decide) ?_
        obtain ⟨D1, w1, h⟩ := pass h
        refine x_puti (ci := 7) (k := 3) (n := 5) (C := RX7) (T := TX7) (D' := D1) (pc := 72) X dX7_begin_72 hk0 rfl (by decide) w_155 rfl (by decide +kernel) rfl w1 ?_
        refine x_aload_n (pc := 75) X dX7_begin_75 (i := 0) rfl 0 rfl ?_
        refine x_iconst (v := 0) (pc := 76) X dX7_begin_76 (by decide) ?_
        obtain ⟨D2, w2, h⟩ := pass h
        refine x_puti (ci := 7) (k := 4) (n := 5) (C := RX7) (T := TX7) (D' := D2) (pc := 77) X dX7_begin_77 hk0 rfl (by decide) w_158 rfl (by decide +kernel) rfl w2 ?_
        obtain rfl := Option.some.inj h
        exact x_vret (pc := 80) X dX7_begin_80
      · have h := ite_f c19 h
        refine x_aload_n (pc := 8) X dX7_begin_8 (i := 0) rfl 0 rfl ?_
        obtain ⟨q3, e3, h⟩ := nns h
        refine x_getr (ci := 7) (k := 0) (n := 5) (C := RX7) (T := TX7) (pc := 9) X dX7_begin_9 hk0 rfl (by decide) w_151 rfl e3 ?_
        refine x_iload_n (pc := 12) X dX7_begin_12 (i := 1) rfl 1 rfl ?_
        obtain ⟨k5, h⟩ := grd h
        obtain ⟨z4, e4, h⟩ := bnds h
        refine x_callV (pc := 13) (As := [.int i1]) (st := []) (st' := [.int z4]) X (c_F_hasPin l cx nx N D P _ _ z4 e4) dX7_begin_13 w_405 m_F_hasPin rfl k5 (ci := 1) rfl rfl ⟨by decide, by decide⟩ ⟨Nat.zero_le _, Nat.zero_le _⟩ rfl (Nat.le_of_ble_eq_true rfl) rfl ?_
        refine x_istore_n (lv' := [(2, .int z4), (0, .ref (cx.2.2 + a0)), (1, .int i1)]) (pc := 16) X dX7_begin_16 (i := 2) rfl (by decide) rfl ?_
        refine x_aload_n (pc := 17) X dX7_begin_17 (i := 0) rfl 1 rfl ?_
        obtain ⟨q6, e6, h⟩ := nns h
        refine x_getr (ci := 7) (k := 1) (n := 5) (C := RX7) (T := TX7) (pc := 18) X dX7_begin_18 hk0 rfl (by decide) w_153 rfl e6 ?_
        refine x_iload_n (pc := 21) X dX7_begin_21 (i := 1) rfl 2 rfl ?_
        refine x_iload_n (pc := 22) X dX7_begin_22 (i := 2) rfl 0 rfl ?_
        refine x_if_eq (tgt := 38) (pc := 23) X dX7_begin_23 (by decide) (fun c18 => ?_) (fun c18 => ?_)
        · have h := ite_t c18 h
          refine x_iconst (v := 0) (pc := 38) X dX7_begin_38 (by decide) ?_
          exact XW.sub [1, 2, 0] rfl (hJ39 _ _ _ _ _ _ h)
        · have h := ite_f c18 h
          refine x_aload_n (pc := 26) X dX7_begin_26 (i := 0) rfl 1 rfl ?_
          refine x_getr (ci := 7) (k := 0) (n := 5) (C := RX7) (T := TX7) (pc := 27) X dX7_begin_27 hk0 rfl (by decide) w_151 rfl e3 ?_
          obtain ⟨q16, e16, h⟩ := nns h
          refine x_getr (ci := 1) (k := 3) (n := 9) (C := RX1) (T := TX1) (pc := 30) X dX7_begin_30 k5 rfl (by decide) w_111 rfl e16 ?_
          refine x_iload_n (pc := 33) X dX7_begin_33 (i := 1) rfl 2 rfl ?_
          obtain ⟨g17, h⟩ := grd h
          refine x_iald (pc := 34) X dX7_begin_34 g17 ?_
          refine x_goto (tgt := 39) (pc := 35) X dX7_begin_35 (by decide) ?_
          exact XW.sub [1, 2, 0] rfl (hJ39 _ _ _ _ _ _ h)
  refine x_iconst (v := 0) (pc := 0) X dX7_begin_0 (by decide) ?_
  refine x_istore_n (lv' := [(1, .int 0), (0, .ref (cx.2.2 + a0))]) (pc := 1) X dX7_begin_1 (i := 1) rfl (by decide) rfl ?_
  exact XW.sub [1, 0] rfl (hL2 _ _ _ h)
theorem dX7_copyFrom_0 : decode cX7_copyFrom 0 = .ok (.iconst 0, 1) := by decide +kernel
theorem dX7_copyFrom_1 : decode cX7_copyFrom 1 = .ok (.istore_n 2, 1) := by decide +kernel
theorem dX7_copyFrom_2 : decode cX7_copyFrom 2 = .ok (.iload_n 2, 1) := by decide +kernel
theorem dX7_copyFrom_3 : decode cX7_copyFrom 3 = .ok (.bipush 8, 2) := by decide +kernel
theorem dX7_copyFrom_5 : decode cX7_copyFrom 5 = .ok (.if_icmp .ge 33, 3) := by decide +kernel
theorem dX7_copyFrom_8 : decode cX7_copyFrom 8 = .ok (.aload_n 0, 1) := by decide +kernel
theorem dX7_copyFrom_9 : decode cX7_copyFrom 9 = .ok (.getfield 9, 3) := by decide +kernel
theorem dX7_copyFrom_12 : decode cX7_copyFrom 12 = .ok (.iload_n 2, 1) := by decide +kernel
theorem dX7_copyFrom_13 : decode cX7_copyFrom 13 = .ok (.aload_n 1, 1) := by decide +kernel
theorem dX7_copyFrom_14 : decode cX7_copyFrom 14 = .ok (.getfield 9, 3) := by decide +kernel
theorem dX7_copyFrom_17 : decode cX7_copyFrom 17 = .ok (.iload_n 2, 1) := by decide +kernel
theorem dX7_copyFrom_18 : decode cX7_copyFrom 18 = .ok (.iaload, 1) := by decide +kernel
theorem dX7_copyFrom_19 : decode cX7_copyFrom 19 = .ok (.iastore, 1) := by decide +kernel
theorem dX7_copyFrom_20 : decode cX7_copyFrom 20 = .ok (.aload_n 0, 1) := by decide +kernel
theorem dX7_copyFrom_21 : decode cX7_copyFrom 21 = .ok (.getfield 15, 3) := by decide +kernel
theorem dX7_copyFrom_24 : decode cX7_copyFrom 24 = .ok (.iload_n 2, 1) := by decide +kernel
theorem dX7_copyFrom_25 : decode cX7_copyFrom 25 = .ok (.aload_n 1, 1) := by decide +kernel
theorem dX7_copyFrom_26 : decode cX7_copyFrom 26 = .ok (.getfield 15, 3) := by decide +kernel
theorem dX7_copyFrom_29 : decode cX7_copyFrom 29 = .ok (.iload_n 2, 1) := by decide +kernel
theorem dX7_copyFrom_30 : decode cX7_copyFrom 30 = .ok (.iaload, 1) := by decide +kernel
theorem dX7_copyFrom_31 : decode cX7_copyFrom 31 = .ok (.iastore, 1) := by decide +kernel
theorem dX7_copyFrom_32 : decode cX7_copyFrom 32 = .ok (.iinc 2 1, 3) := by decide +kernel
theorem dX7_copyFrom_35 : decode cX7_copyFrom 35 = .ok (.goto (-33), 3) := by decide +kernel
theorem dX7_copyFrom_38 : decode cX7_copyFrom 38 = .ok (.aload_n 0, 1) := by decide +kernel
theorem dX7_copyFrom_39 : decode cX7_copyFrom 39 = .ok (.aload_n 1, 1) := by decide +kernel
theorem dX7_copyFrom_40 : decode cX7_copyFrom 40 = .ok (.getfield 34, 3) := by decide +kernel
theorem dX7_copyFrom_43 : decode cX7_copyFrom 43 = .ok (.putfield 34, 3) := by decide +kernel
theorem dX7_copyFrom_46 : decode cX7_copyFrom 46 = .ok (.aload_n 0, 1) := by decide +kernel
theorem dX7_copyFrom_47 : decode cX7_copyFrom 47 = .ok (.aload_n 1, 1) := by decide +kernel
theorem dX7_copyFrom_48 : decode cX7_copyFrom 48 = .ok (.getfield 38, 3) := by decide +kernel
theorem dX7_copyFrom_51 : decode cX7_copyFrom 51 = .ok (.putfield 38, 3) := by decide +kernel
theorem dX7_copyFrom_54 : decode cX7_copyFrom 54 = .ok (.return_, 1) := by decide +kernel
def f_C_copyFrom_2 (N nx : Nat) (P : Ft) (a0 : Nat) (a1 : Nat) (rec2 : Dt → Int32 → Option Dt) (D : Dt) (i2 : Int32) : Option Dt :=
  if 8 ≤ i2 then
    if kd nx a1 = 7 then
    pas (upd2 D a0 3 (D a1 3)) fun D2 =>
    pas (upd2 D2 a0 4 (D2 a1 4)) fun D3 =>
    some D3
    else none
  else
    nn (P a0 1) fun q4 =>
    if kd nx a1 = 7 then
    nn (P a1 1) fun q6 =>
    if ab nx q6 3 i2 = true then
    if ab nx q4 3 i2 = true then
    pas (upd2 D q4 i2.toNatClampNeg (D q6 i2.toNatClampNeg)) fun D8 =>
    nn (P a0 2) fun q9 =>
    nn (P a1 2) fun q10 =>
    if ab nx q10 3 i2 = true then
    if ab nx q9 3 i2 = true then
    pas (upd2 D8 q9 i2.toNatClampNeg (D8 q10 i2.toNatClampNeg)) fun D12 =>
    rec2 D12 (i2 + 1)
    else none
    else none
    else none
    else none
    else none
def f_C_copyFrom (N nx : Nat) (D : Dt) (P : Ft) (a0 : Nat) (a1 : Nat) : Option Dt :=
  if kd nx a0 = 7 then
  wk2 N (f_C_copyFrom_2 N nx P a0 a1) D 0
  else none
theorem m_C_copyFrom : MV yX7_copyFrom cX7_copyFrom 3 none 1 := ⟨mT 563 (by decide +kernel) rfl, mT 561 (by decide +kernel) rfl, mT 562 (by decide +kernel) rfl, mT 57 (by decide +kernel) rfl, by decide +kernel, by decide +kernel, by decide +kernel⟩
set_option maxHeartbeats 4000000 in
set_option maxRecDepth 100000 in
theorem c_C_copyFrom (l : Launch) (cx : Cx) (nx N : Nat) (D : Dt) (P : Ft) (a0 : Nat) (a1 : Nat) (z : Dt) (h : f_C_copyFrom N nx D P a0 a1 = some z) : Ct l cx yX7_copyFrom cX7_copyFrom 3 none 0 [.ref (cx.2.2 + a0), .ref (cx.2.2 + a1)] D P nx none z P := by
  refine x_met0 (by decide) (Nat.le_of_ble_eq_true rfl) ?_
  intro p e s m args below meth c X
  have X : XC p s m args meth c cx cX7_copyFrom 3 none "HeartPins$Standing" "copyFrom" := X
  refine XW.sub (lv' := [(0, .ref (cx.2.2 + a0)), (1, .ref (cx.2.2 + a1))]) [0, 1] rfl ?_
  unfold f_C_copyFrom at h
  obtain ⟨hk0, h⟩ := grd h
  have hL2 : ∀ (n : Nat) (D : Dt) (i2 : Int32), wk2 n (f_C_copyFrom_2 N nx P a0 a1) D i2 = some z → XW p l e (rmk 0) s m args below meth c (MQ below (Qx cx none z P nx) args s 0 0 (AA cx)) cx 3 D P nx 0 0 2 [(0, .ref (cx.2.2 + a0)), (1, .ref (cx.2.2 + a1)), (2, .int i2)] [] := by
    intro n
    induction n with
    | zero => intro D i2 h; exact (nonz h).elim
    | succ n ih2 =>
      intro D i2 h
      have h : f_C_copyFrom_2 N nx P a0 a1 (wk2 n (f_C_copyFrom_2 N nx P a0 a1)) D i2 = some z := h
      generalize wk2 n (f_C_copyFrom_2 N nx P a0 a1) = rec2 at ih2 h
      unfold f_C_copyFrom_2 at h
      refine x_iload_n (pc := 2) X dX7_copyFrom_2 (i := 2) rfl 2 rfl ?_
      refine x_bipush (v := 8) (pc := 3) X dX7_copyFrom_3 (by decide) ?_
      refine x_icmp_ge (tgt := 38) (pc := 5) X dX7_copyFrom_5 (by decide) (fun c13 => ?_) (fun c13 => ?_)
      · have h := ite_t c13 h
        refine x_aload_n (pc := 38) X dX7_copyFrom_38 (i := 0) rfl 0 rfl ?_
        refine x_aload_n (pc := 39) X dX7_copyFrom_39 (i := 1) rfl 1 rfl ?_
        obtain ⟨k1, h⟩ := grd h
        refine x_geti (ci := 7) (k := 3) (n := 5) (C := RX7) (T := TX7) (pc := 40) X dX7_copyFrom_40 k1 rfl (by decide) w_155 rfl ?_
        obtain ⟨D2, w2, h⟩ := pass h
        refine x_puti (ci := 7) (k := 3) (n := 5) (C := RX7) (T := TX7) (D' := D2) (pc := 43) X dX7_copyFrom_43 hk0 rfl (by decide) w_155 rfl (by decide +kernel) rfl w2 ?_
        refine x_aload_n (pc := 46) X dX7_copyFrom_46 (i := 0) rfl 0 rfl ?_
        refine x_aload_n (pc := 47) X dX7_copyFrom_47 (i := 1) rfl 1 rfl ?_
        refine x_geti (ci := 7) (k := 4) (n := 5) (C := RX7) (T := TX7) (pc := 48) X dX7_copyFrom_48 k1 rfl (by decide) w_158 rfl ?_
        obtain ⟨D3, w3, h⟩ := pass h
        refine x_puti (ci := 7) (k := 4) (n := 5) (C := RX7) (T := TX7) (D' := D3) (pc := 51) X dX7_copyFrom_51 hk0 rfl (by decide) w_158 rfl (by decide +kernel) rfl w3 ?_
        obtain rfl := Option.some.inj h
        exact x_vret (pc := 54) X dX7_copyFrom_54
      · have h := ite_f c13 h
        refine x_aload_n (pc := 8) X dX7_copyFrom_8 (i := 0) rfl 0 rfl ?_
        obtain ⟨q4, e4, h⟩ := nns h
        refine x_getr (ci := 7) (k := 1) (n := 5) (C := RX7) (T := TX7) (pc := 9) X dX7_copyFrom_9 hk0 rfl (by decide) w_153 rfl e4 ?_
        refine x_iload_n (pc := 12) X dX7_copyFrom_12 (i := 2) rfl 2 rfl ?_
        refine x_aload_n (pc := 13) X dX7_copyFrom_13 (i := 1) rfl 1 rfl ?_
        obtain ⟨k5, h⟩ := grd h
        obtain ⟨q6, e6, h⟩ := nns h
        refine x_getr (ci := 7) (k := 1) (n := 5) (C := RX7) (T := TX7) (pc := 14) X dX7_copyFrom_14 k5 rfl (by decide) w_153 rfl e6 ?_
        refine x_iload_n (pc := 17) X dX7_copyFrom_17 (i := 2) rfl 2 rfl ?_
        obtain ⟨g7, h⟩ := grd h
        refine x_iald (pc := 18) X dX7_copyFrom_18 g7 ?_
        obtain ⟨g8, h⟩ := grd h
        obtain ⟨D8, w8, h⟩ := pass h
        refine x_iast (D' := D8) (pc := 19) X dX7_copyFrom_19 g8 w8 ?_
        refine x_aload_n (pc := 20) X dX7_copyFrom_20 (i := 0) rfl 0 rfl ?_
        obtain ⟨q9, e9, h⟩ := nns h
        refine x_getr (ci := 7) (k := 2) (n := 5) (C := RX7) (T := TX7) (pc := 21) X dX7_copyFrom_21 hk0 rfl (by decide) w_154 rfl e9 ?_
        refine x_iload_n (pc := 24) X dX7_copyFrom_24 (i := 2) rfl 2 rfl ?_
        refine x_aload_n (pc := 25) X dX7_copyFrom_25 (i := 1) rfl 1 rfl ?_
        obtain ⟨q10, e10, h⟩ := nns h
        refine x_getr (ci := 7) (k := 2) (n := 5) (C := RX7) (T := TX7) (pc := 26) X dX7_copyFrom_26 k5 rfl (by decide) w_154 rfl e10 ?_
        refine x_iload_n (pc := 29) X dX7_copyFrom_29 (i := 2) rfl 2 rfl ?_
        obtain ⟨g11, h⟩ := grd h
        refine x_iald (pc := 30) X dX7_copyFrom_30 g11 ?_
        obtain ⟨g12, h⟩ := grd h
        obtain ⟨D12, w12, h⟩ := pass h
        refine x_iast (D' := D12) (pc := 31) X dX7_copyFrom_31 g12 w12 ?_
        refine x_iinc (v := i2 + 1) (lv' := [(2, .int (i2 + 1)), (0, .ref (cx.2.2 + a0)), (1, .ref (cx.2.2 + a1))]) (pc := 32) X dX7_copyFrom_32 2 rfl rfl (by decide) rfl ?_
        refine x_goto (tgt := 2) (pc := 35) X dX7_copyFrom_35 (by decide) ?_
        exact XW.sub [1, 2, 0] rfl (ih2 _ _ h)
  refine x_iconst (v := 0) (pc := 0) X dX7_copyFrom_0 (by decide) ?_
  refine x_istore_n (lv' := [(2, .int 0), (0, .ref (cx.2.2 + a0)), (1, .ref (cx.2.2 + a1))]) (pc := 1) X dX7_copyFrom_1 (i := 2) rfl (by decide) rfl ?_
  exact XW.sub [1, 2, 0] rfl (hL2 _ _ _ h)
theorem dX7_largeOf_0 : decode cX7_largeOf 0 = .ok (.iload_n 1, 1) := by decide +kernel
theorem dX7_largeOf_1 : decode cX7_largeOf 1 = .ok (.ifCond .lt 18, 3) := by decide +kernel
theorem dX7_largeOf_4 : decode cX7_largeOf 4 = .ok (.iload_n 1, 1) := by decide +kernel
theorem dX7_largeOf_5 : decode cX7_largeOf 5 = .ok (.bipush 8, 2) := by decide +kernel
theorem dX7_largeOf_7 : decode cX7_largeOf 7 = .ok (.if_icmp .ge 12, 3) := by decide +kernel
theorem dX7_largeOf_10 : decode cX7_largeOf 10 = .ok (.aload_n 0, 1) := by decide +kernel
theorem dX7_largeOf_11 : decode cX7_largeOf 11 = .ok (.getfield 9, 3) := by decide +kernel
theorem dX7_largeOf_14 : decode cX7_largeOf 14 = .ok (.iload_n 1, 1) := by decide +kernel
theorem dX7_largeOf_15 : decode cX7_largeOf 15 = .ok (.iaload, 1) := by decide +kernel
theorem dX7_largeOf_16 : decode cX7_largeOf 16 = .ok (.goto 4, 3) := by decide +kernel
theorem dX7_largeOf_19 : decode cX7_largeOf 19 = .ok (.iconst 0, 1) := by decide +kernel
theorem dX7_largeOf_20 : decode cX7_largeOf 20 = .ok (.ireturn, 1) := by decide +kernel
def f_C_largeOf (N nx : Nat) (D : Dt) (P : Ft) (a0 : Nat) (i1 : Int32) : Option Int32 :=
  if kd nx a0 = 7 then
  if i1 < 0 then
    some 0
  else
    if 8 ≤ i1 then
      some 0
    else
      nn (P a0 1) fun q1 =>
      if ab nx q1 3 i1 = true then
      some (D q1 i1.toNatClampNeg)
      else none
  else none
theorem m_C_largeOf : MV yX7_largeOf cX7_largeOf 2 (some .int) 1 := ⟨mT 513 (by decide +kernel) rfl, mT 511 (by decide +kernel) rfl, mT 512 (by decide +kernel) rfl, mT 57 (by decide +kernel) rfl, by decide +kernel, by decide +kernel, by decide +kernel⟩
set_option maxHeartbeats 4000000 in
set_option maxRecDepth 100000 in
theorem c_C_largeOf (l : Launch) (cx : Cx) (nx N : Nat) (D : Dt) (P : Ft) (a0 : Nat) (i1 : Int32) (z : Int32) (h : f_C_largeOf N nx D P a0 i1 = some z) : Ct l cx yX7_largeOf cX7_largeOf 2 (some .int) 0 [.ref (cx.2.2 + a0), .int i1] D P nx (some (.int z)) D P := by
  refine x_met0 (by decide) (Nat.le_of_ble_eq_true rfl) ?_
  intro p e s m args below meth c X
  have X : XC p s m args meth c cx cX7_largeOf 2 (some .int) "HeartPins$Standing" "largeOf" := X
  refine XW.sub (lv' := [(0, .ref (cx.2.2 + a0)), (1, .int i1)]) [0, 1] rfl ?_
  unfold f_C_largeOf at h
  obtain ⟨hk0, h⟩ := grd h
  refine x_iload_n (pc := 0) X dX7_largeOf_0 (i := 1) rfl 1 rfl ?_
  refine x_if_lt (tgt := 19) (pc := 1) X dX7_largeOf_1 (by decide) (fun c4 => ?_) (fun c4 => ?_)
  · have h := ite_t c4 h
    refine x_iconst (v := 0) (pc := 19) X dX7_largeOf_19 (by decide) ?_
    obtain rfl := Option.some.inj h
    exact x_iret (pc := 20) X dX7_largeOf_20
  · have h := ite_f c4 h
    refine x_iload_n (pc := 4) X dX7_largeOf_4 (i := 1) rfl 1 rfl ?_
    refine x_bipush (v := 8) (pc := 5) X dX7_largeOf_5 (by decide) ?_
    refine x_icmp_ge (tgt := 19) (pc := 7) X dX7_largeOf_7 (by decide) (fun c3 => ?_) (fun c3 => ?_)
    · have h := ite_t c3 h
      refine x_iconst (v := 0) (pc := 19) X dX7_largeOf_19 (by decide) ?_
      obtain rfl := Option.some.inj h
      exact x_iret (pc := 20) X dX7_largeOf_20
    · have h := ite_f c3 h
      refine x_aload_n (pc := 10) X dX7_largeOf_10 (i := 0) rfl 0 rfl ?_
      obtain ⟨q1, e1, h⟩ := nns h
      refine x_getr (ci := 7) (k := 1) (n := 5) (C := RX7) (T := TX7) (pc := 11) X dX7_largeOf_11 hk0 rfl (by decide) w_153 rfl e1 ?_
      refine x_iload_n (pc := 14) X dX7_largeOf_14 (i := 1) rfl 1 rfl ?_
      obtain ⟨g2, h⟩ := grd h
      refine x_iald (pc := 15) X dX7_largeOf_15 g2 ?_
      refine x_goto (tgt := 20) (pc := 16) X dX7_largeOf_16 (by decide) ?_
      obtain rfl := Option.some.inj h
      exact x_iret (pc := 20) X dX7_largeOf_20
theorem dX7_whereIs_0 : decode cX7_whereIs 0 = .ok (.iload_n 1, 1) := by decide +kernel
theorem dX7_whereIs_1 : decode cX7_whereIs 1 = .ok (.ifCond .lt 18, 3) := by decide +kernel
theorem dX7_whereIs_4 : decode cX7_whereIs 4 = .ok (.iload_n 1, 1) := by decide +kernel
theorem dX7_whereIs_5 : decode cX7_whereIs 5 = .ok (.bipush 8, 2) := by decide +kernel
theorem dX7_whereIs_7 : decode cX7_whereIs 7 = .ok (.if_icmp .ge 12, 3) := by decide +kernel
theorem dX7_whereIs_10 : decode cX7_whereIs 10 = .ok (.aload_n 0, 1) := by decide +kernel
theorem dX7_whereIs_11 : decode cX7_whereIs 11 = .ok (.getfield 15, 3) := by decide +kernel
theorem dX7_whereIs_14 : decode cX7_whereIs 14 = .ok (.iload_n 1, 1) := by decide +kernel
theorem dX7_whereIs_15 : decode cX7_whereIs 15 = .ok (.iaload, 1) := by decide +kernel
theorem dX7_whereIs_16 : decode cX7_whereIs 16 = .ok (.goto 5, 3) := by decide +kernel
theorem dX7_whereIs_19 : decode cX7_whereIs 19 = .ok (.bipush (-4), 2) := by decide +kernel
theorem dX7_whereIs_21 : decode cX7_whereIs 21 = .ok (.ireturn, 1) := by decide +kernel
def f_C_whereIs (N nx : Nat) (D : Dt) (P : Ft) (a0 : Nat) (i1 : Int32) : Option Int32 :=
  if kd nx a0 = 7 then
  if i1 < 0 then
    some (-4)
  else
    if 8 ≤ i1 then
      some (-4)
    else
      nn (P a0 2) fun q1 =>
      if ab nx q1 3 i1 = true then
      some (D q1 i1.toNatClampNeg)
      else none
  else none
theorem m_C_whereIs : MV yX7_whereIs cX7_whereIs 2 (some .int) 1 := ⟨mT 517 (by decide +kernel) rfl, mT 515 (by decide +kernel) rfl, mT 516 (by decide +kernel) rfl, mT 57 (by decide +kernel) rfl, by decide +kernel, by decide +kernel, by decide +kernel⟩
set_option maxHeartbeats 4000000 in
set_option maxRecDepth 100000 in
theorem c_C_whereIs (l : Launch) (cx : Cx) (nx N : Nat) (D : Dt) (P : Ft) (a0 : Nat) (i1 : Int32) (z : Int32) (h : f_C_whereIs N nx D P a0 i1 = some z) : Ct l cx yX7_whereIs cX7_whereIs 2 (some .int) 0 [.ref (cx.2.2 + a0), .int i1] D P nx (some (.int z)) D P := by
  refine x_met0 (by decide) (Nat.le_of_ble_eq_true rfl) ?_
  intro p e s m args below meth c X
  have X : XC p s m args meth c cx cX7_whereIs 2 (some .int) "HeartPins$Standing" "whereIs" := X
  refine XW.sub (lv' := [(0, .ref (cx.2.2 + a0)), (1, .int i1)]) [0, 1] rfl ?_
  unfold f_C_whereIs at h
  obtain ⟨hk0, h⟩ := grd h
  refine x_iload_n (pc := 0) X dX7_whereIs_0 (i := 1) rfl 1 rfl ?_
  refine x_if_lt (tgt := 19) (pc := 1) X dX7_whereIs_1 (by decide) (fun c4 => ?_) (fun c4 => ?_)
  · have h := ite_t c4 h
    refine x_bipush (v := (-4)) (pc := 19) X dX7_whereIs_19 (by decide) ?_
    obtain rfl := Option.some.inj h
    exact x_iret (pc := 21) X dX7_whereIs_21
  · have h := ite_f c4 h
    refine x_iload_n (pc := 4) X dX7_whereIs_4 (i := 1) rfl 1 rfl ?_
    refine x_bipush (v := 8) (pc := 5) X dX7_whereIs_5 (by decide) ?_
    refine x_icmp_ge (tgt := 19) (pc := 7) X dX7_whereIs_7 (by decide) (fun c3 => ?_) (fun c3 => ?_)
    · have h := ite_t c3 h
      refine x_bipush (v := (-4)) (pc := 19) X dX7_whereIs_19 (by decide) ?_
      obtain rfl := Option.some.inj h
      exact x_iret (pc := 21) X dX7_whereIs_21
    · have h := ite_f c3 h
      refine x_aload_n (pc := 10) X dX7_whereIs_10 (i := 0) rfl 0 rfl ?_
      obtain ⟨q1, e1, h⟩ := nns h
      refine x_getr (ci := 7) (k := 2) (n := 5) (C := RX7) (T := TX7) (pc := 11) X dX7_whereIs_11 hk0 rfl (by decide) w_154 rfl e1 ?_
      refine x_iload_n (pc := 14) X dX7_whereIs_14 (i := 1) rfl 1 rfl ?_
      obtain ⟨g2, h⟩ := grd h
      refine x_iald (pc := 15) X dX7_whereIs_15 g2 ?_
      refine x_goto (tgt := 21) (pc := 16) X dX7_whereIs_16 (by decide) ?_
      obtain rfl := Option.some.inj h
      exact x_iret (pc := 21) X dX7_whereIs_21
theorem dX7_isAbout_0 : decode cX7_isAbout 0 = .ok (.aload_n 0, 1) := by decide +kernel
theorem dX7_isAbout_1 : decode cX7_isAbout 1 = .ok (.iload_n 1, 1) := by decide +kernel
theorem dX7_isAbout_2 : decode cX7_isAbout 2 = .ok (.invokevirtual 41, 3) := by decide +kernel
theorem dX7_isAbout_5 : decode cX7_isAbout 5 = .ok (.iconst (-1), 1) := by decide +kernel
theorem dX7_isAbout_6 : decode cX7_isAbout 6 = .ok (.if_icmp .lt 7, 3) := by decide +kernel
theorem dX7_isAbout_9 : decode cX7_isAbout 9 = .ok (.iconst 1, 1) := by decide +kernel
theorem dX7_isAbout_10 : decode cX7_isAbout 10 = .ok (.goto 4, 3) := by decide +kernel
theorem dX7_isAbout_13 : decode cX7_isAbout 13 = .ok (.iconst 0, 1) := by decide +kernel
theorem dX7_isAbout_14 : decode cX7_isAbout 14 = .ok (.ireturn, 1) := by decide +kernel
def f_C_isAbout (N nx : Nat) (D : Dt) (P : Ft) (a0 : Nat) (i1 : Int32) : Option Int32 :=
  if kd nx a0 = 7 then
  (f_C_whereIs N nx D P a0 i1).bind fun z1 =>
  if z1 < (-1) then
    some 0
  else
    some 1
  else none
theorem m_C_isAbout : MV yX7_isAbout cX7_isAbout 2 (some .boolean) 1 := ⟨mT 728 (by decide +kernel) rfl, mT 726 (by decide +kernel) rfl, mT 727 (by decide +kernel) rfl, mT 57 (by decide +kernel) rfl, by decide +kernel, by decide +kernel, by decide +kernel⟩
set_option maxHeartbeats 4000000 in
set_option maxRecDepth 100000 in
theorem c_C_isAbout (l : Launch) (cx : Cx) (nx N : Nat) (D : Dt) (P : Ft) (a0 : Nat) (i1 : Int32) (z : Int32) (h : f_C_isAbout N nx D P a0 i1 = some z) : Ct l cx yX7_isAbout cX7_isAbout 2 (some .boolean) 1 [.ref (cx.2.2 + a0), .int i1] D P nx (some (.int z)) D P := by
  refine x_met0 (by decide) (Nat.le_of_ble_eq_true rfl) ?_
  intro p e s m args below meth c X
  have X : XC p s m args meth c cx cX7_isAbout 2 (some .boolean) "HeartPins$Standing" "isAbout" := X
  refine XW.sub (lv' := [(0, .ref (cx.2.2 + a0)), (1, .int i1)]) [0, 1] rfl ?_
  unfold f_C_isAbout at h
  obtain ⟨hk0, h⟩ := grd h
  refine x_aload_n (pc := 0) X dX7_isAbout_0 (i := 0) rfl 0 rfl ?_
  refine x_iload_n (pc := 1) X dX7_isAbout_1 (i := 1) rfl 1 rfl ?_
  obtain ⟨z1, e1, h⟩ := bnds h
  refine x_callV (pc := 2) (As := [.int i1]) (st := []) (st' := [.int z1]) X (c_C_whereIs l cx nx N D P _ _ z1 e1) dX7_isAbout_2 w_546 m_C_whereIs rfl hk0 (ci := 7) rfl rfl ⟨by decide, by decide⟩ ⟨Nat.zero_le _, Nat.zero_le _⟩ rfl (Nat.le_of_ble_eq_true rfl) rfl ?_
  refine x_iconst (v := (-1)) (pc := 5) X dX7_isAbout_5 (by decide) ?_
  refine x_icmp_lt (tgt := 13) (pc := 6) X dX7_isAbout_6 (by decide) (fun c2 => ?_) (fun c2 => ?_)
  · have h := ite_t c2 h
    refine x_iconst (v := 0) (pc := 13) X dX7_isAbout_13 (by decide) ?_
    obtain rfl := Option.some.inj h
    exact x_zret (pc := 14) X dX7_isAbout_14 (Or.inl rfl)
  · have h := ite_f c2 h
    refine x_iconst (v := 1) (pc := 9) X dX7_isAbout_9 (by decide) ?_
    refine x_goto (tgt := 14) (pc := 10) X dX7_isAbout_10 (by decide) ?_
    obtain rfl := Option.some.inj h
    exact x_zret (pc := 14) X dX7_isAbout_14 (Or.inr rfl)
theorem dX7_sumAt_0 : decode cX7_sumAt 0 = .ok (.iconst 0, 1) := by decide +kernel
theorem dX7_sumAt_1 : decode cX7_sumAt 1 = .ok (.istore_n 2, 1) := by decide +kernel
theorem dX7_sumAt_2 : decode cX7_sumAt 2 = .ok (.iconst 0, 1) := by decide +kernel
theorem dX7_sumAt_3 : decode cX7_sumAt 3 = .ok (.istore_n 3, 1) := by decide +kernel
theorem dX7_sumAt_4 : decode cX7_sumAt 4 = .ok (.iload_n 3, 1) := by decide +kernel
theorem dX7_sumAt_5 : decode cX7_sumAt 5 = .ok (.bipush 8, 2) := by decide +kernel
theorem dX7_sumAt_7 : decode cX7_sumAt 7 = .ok (.if_icmp .ge 28, 3) := by decide +kernel
theorem dX7_sumAt_10 : decode cX7_sumAt 10 = .ok (.aload_n 0, 1) := by decide +kernel
theorem dX7_sumAt_11 : decode cX7_sumAt 11 = .ok (.getfield 15, 3) := by decide +kernel
theorem dX7_sumAt_14 : decode cX7_sumAt 14 = .ok (.iload_n 3, 1) := by decide +kernel
theorem dX7_sumAt_15 : decode cX7_sumAt 15 = .ok (.iaload, 1) := by decide +kernel
theorem dX7_sumAt_16 : decode cX7_sumAt 16 = .ok (.iload_n 1, 1) := by decide +kernel
theorem dX7_sumAt_17 : decode cX7_sumAt 17 = .ok (.if_icmp .ne 12, 3) := by decide +kernel
theorem dX7_sumAt_20 : decode cX7_sumAt 20 = .ok (.iload_n 2, 1) := by decide +kernel
theorem dX7_sumAt_21 : decode cX7_sumAt 21 = .ok (.aload_n 0, 1) := by decide +kernel
theorem dX7_sumAt_22 : decode cX7_sumAt 22 = .ok (.getfield 9, 3) := by decide +kernel
theorem dX7_sumAt_25 : decode cX7_sumAt 25 = .ok (.iload_n 3, 1) := by decide +kernel
theorem dX7_sumAt_26 : decode cX7_sumAt 26 = .ok (.iaload, 1) := by decide +kernel
theorem dX7_sumAt_27 : decode cX7_sumAt 27 = .ok (.iadd, 1) := by decide +kernel
theorem dX7_sumAt_28 : decode cX7_sumAt 28 = .ok (.istore_n 2, 1) := by decide +kernel
theorem dX7_sumAt_29 : decode cX7_sumAt 29 = .ok (.iinc 3 1, 3) := by decide +kernel
theorem dX7_sumAt_32 : decode cX7_sumAt 32 = .ok (.goto (-28), 3) := by decide +kernel
theorem dX7_sumAt_35 : decode cX7_sumAt 35 = .ok (.iload_n 2, 1) := by decide +kernel
theorem dX7_sumAt_36 : decode cX7_sumAt 36 = .ok (.ireturn, 1) := by decide +kernel
def f_C_sumAt_4 (N nx : Nat) (D : Dt) (P : Ft) (a0 : Nat) (i1 : Int32) (rec4 : Int32 → Int32 → Option Int32) (i2 : Int32) (i3 : Int32) : Option Int32 :=
  if 8 ≤ i3 then
    some i2
  else
    nn (P a0 2) fun q1 =>
    if ab nx q1 3 i3 = true then
    if D q1 i3.toNatClampNeg = i1 then
      nn (P a0 1) fun q3 =>
      if ab nx q3 3 i3 = true then
      rec4 (i2 + (D q3 i3.toNatClampNeg)) (i3 + 1)
      else none
    else
      rec4 i2 (i3 + 1)
    else none
def f_C_sumAt (N nx : Nat) (D : Dt) (P : Ft) (a0 : Nat) (i1 : Int32) : Option Int32 :=
  if kd nx a0 = 7 then
  wk2 N (f_C_sumAt_4 N nx D P a0 i1) 0 0
  else none
theorem m_C_sumAt : MV yX7_sumAt cX7_sumAt 4 (some .int) 1 := ⟨mT 486 (by decide +kernel) rfl, mT 484 (by decide +kernel) rfl, mT 485 (by decide +kernel) rfl, mT 57 (by decide +kernel) rfl, by decide +kernel, by decide +kernel, by decide +kernel⟩
set_option maxHeartbeats 4000000 in
set_option maxRecDepth 100000 in
theorem c_C_sumAt (l : Launch) (cx : Cx) (nx N : Nat) (D : Dt) (P : Ft) (a0 : Nat) (i1 : Int32) (z : Int32) (h : f_C_sumAt N nx D P a0 i1 = some z) : Ct l cx yX7_sumAt cX7_sumAt 4 (some .int) 0 [.ref (cx.2.2 + a0), .int i1] D P nx (some (.int z)) D P := by
  refine x_met0 (by decide) (Nat.le_of_ble_eq_true rfl) ?_
  intro p e s m args below meth c X
  have X : XC p s m args meth c cx cX7_sumAt 4 (some .int) "HeartPins$Standing" "sumAt" := X
  refine XW.sub (lv' := [(0, .ref (cx.2.2 + a0)), (1, .int i1)]) [0, 1] rfl ?_
  unfold f_C_sumAt at h
  obtain ⟨hk0, h⟩ := grd h
  have hL4 : ∀ (n : Nat) (i2 : Int32) (i3 : Int32), wk2 n (f_C_sumAt_4 N nx D P a0 i1) i2 i3 = some z → XW p l e (rmk 0) s m args below meth c (MQ below (Qx cx (some (.int z)) D P nx) args s 0 0 (AA cx)) cx 4 D P nx 0 0 4 [(0, .ref (cx.2.2 + a0)), (1, .int i1), (2, .int i2), (3, .int i3)] [] := by
    intro n
    induction n with
    | zero => intro i2 i3 h; exact (nonz h).elim
    | succ n ih4 =>
      intro i2 i3 h
      have h : f_C_sumAt_4 N nx D P a0 i1 (wk2 n (f_C_sumAt_4 N nx D P a0 i1)) i2 i3 = some z := h
      generalize wk2 n (f_C_sumAt_4 N nx D P a0 i1) = rec4 at ih4 h
      unfold f_C_sumAt_4 at h
      refine x_iload_n (pc := 4) X dX7_sumAt_4 (i := 3) rfl 3 rfl ?_
      refine x_bipush (v := 8) (pc := 5) X dX7_sumAt_5 (by decide) ?_
      refine x_icmp_ge (tgt := 35) (pc := 7) X dX7_sumAt_7 (by decide) (fun c6 => ?_) (fun c6 => ?_)
      · have h := ite_t c6 h
        refine x_iload_n (pc := 35) X dX7_sumAt_35 (i := 2) rfl 2 rfl ?_
        obtain rfl := Option.some.inj h
        exact x_iret (pc := 36) X dX7_sumAt_36
      · have h := ite_f c6 h
        refine x_aload_n (pc := 10) X dX7_sumAt_10 (i := 0) rfl 0 rfl ?_
        obtain ⟨q1, e1, h⟩ := nns h
        refine x_getr (ci := 7) (k := 2) (n := 5) (C := RX7) (T := TX7) (pc := 11) X dX7_sumAt_11 hk0 rfl (by decide) w_154 rfl e1 ?_
        refine x_iload_n (pc := 14) X dX7_sumAt_14 (i := 3) rfl 3 rfl ?_
        obtain ⟨g2, h⟩ := grd h
        refine x_iald (pc := 15) X dX7_sumAt_15 g2 ?_
        refine x_iload_n (pc := 16) X dX7_sumAt_16 (i := 1) rfl 1 rfl ?_
        refine x_icmp_ne (tgt := 29) (pc := 17) X dX7_sumAt_17 (by decide) (fun c5 => ?_) (fun c5 => ?_)
        · have h := ite_f c5 h
          refine x_iinc (v := i3 + 1) (lv' := [(3, .int (i3 + 1)), (0, .ref (cx.2.2 + a0)), (1, .int i1), (2, .int i2)]) (pc := 29) X dX7_sumAt_29 3 rfl rfl (by decide) rfl ?_
          refine x_goto (tgt := 4) (pc := 32) X dX7_sumAt_32 (by decide) ?_
          exact XW.sub [1, 2, 3, 0] rfl (ih4 _ _ h)
        · have h := ite_t c5 h
          refine x_iload_n (pc := 20) X dX7_sumAt_20 (i := 2) rfl 2 rfl ?_
          refine x_aload_n (pc := 21) X dX7_sumAt_21 (i := 0) rfl 0 rfl ?_
          obtain ⟨q3, e3, h⟩ := nns h
          refine x_getr (ci := 7) (k := 1) (n := 5) (C := RX7) (T := TX7) (pc := 22) X dX7_sumAt_22 hk0 rfl (by decide) w_153 rfl e3 ?_
          refine x_iload_n (pc := 25) X dX7_sumAt_25 (i := 3) rfl 3 rfl ?_
          obtain ⟨g4, h⟩ := grd h
          refine x_iald (pc := 26) X dX7_sumAt_26 g4 ?_
          refine x_iadd (pc := 27) X dX7_sumAt_27 ?_
          refine x_istore_n (lv' := [(2, .int (i2 + (D q3 i3.toNatClampNeg))), (0, .ref (cx.2.2 + a0)), (1, .int i1), (3, .int i3)]) (pc := 28) X dX7_sumAt_28 (i := 2) rfl (by decide) rfl ?_
          refine x_iinc (v := i3 + 1) (lv' := [(3, .int (i3 + 1)), (2, .int (i2 + (D q3 i3.toNatClampNeg))), (0, .ref (cx.2.2 + a0)), (1, .int i1)]) (pc := 29) X dX7_sumAt_29 3 rfl rfl (by decide) rfl ?_
          refine x_goto (tgt := 4) (pc := 32) X dX7_sumAt_32 (by decide) ?_
          exact XW.sub [2, 3, 1, 0] rfl (ih4 _ _ h)
  refine x_iconst (v := 0) (pc := 0) X dX7_sumAt_0 (by decide) ?_
  refine x_istore_n (lv' := [(2, .int 0), (0, .ref (cx.2.2 + a0)), (1, .int i1)]) (pc := 1) X dX7_sumAt_1 (i := 2) rfl (by decide) rfl ?_
  refine x_iconst (v := 0) (pc := 2) X dX7_sumAt_2 (by decide) ?_
  refine x_istore_n (lv' := [(3, .int 0), (2, .int 0), (0, .ref (cx.2.2 + a0)), (1, .int i1)]) (pc := 3) X dX7_sumAt_3 (i := 3) rfl (by decide) rfl ?_
  exact XW.sub [2, 3, 1, 0] rfl (hL4 _ _ _ h)
theorem dX7_loadOf_0 : decode cX7_loadOf 0 = .ok (.iload_n 1, 1) := by decide +kernel
theorem dX7_loadOf_1 : decode cX7_loadOf 1 = .ok (.ifCond .lt 11, 3) := by decide +kernel
theorem dX7_loadOf_4 : decode cX7_loadOf 4 = .ok (.aload_n 0, 1) := by decide +kernel
theorem dX7_loadOf_5 : decode cX7_loadOf 5 = .ok (.iload_n 1, 1) := by decide +kernel
theorem dX7_loadOf_6 : decode cX7_loadOf 6 = .ok (.invokevirtual 45, 3) := by decide +kernel
theorem dX7_loadOf_9 : decode cX7_loadOf 9 = .ok (.goto 4, 3) := by decide +kernel
theorem dX7_loadOf_12 : decode cX7_loadOf 12 = .ok (.iconst 0, 1) := by decide +kernel
theorem dX7_loadOf_13 : decode cX7_loadOf 13 = .ok (.ireturn, 1) := by decide +kernel
def f_C_loadOf (N nx : Nat) (D : Dt) (P : Ft) (a0 : Nat) (i1 : Int32) : Option Int32 :=
  if kd nx a0 = 7 then
  if i1 < 0 then
    some 0
  else
    (f_C_sumAt N nx D P a0 i1).bind fun z1 =>
    some z1
  else none
theorem m_C_loadOf : MV yX7_loadOf cX7_loadOf 2 (some .int) 1 := ⟨mT 482 (by decide +kernel) rfl, mT 480 (by decide +kernel) rfl, mT 481 (by decide +kernel) rfl, mT 57 (by decide +kernel) rfl, by decide +kernel, by decide +kernel, by decide +kernel⟩
set_option maxHeartbeats 4000000 in
set_option maxRecDepth 100000 in
theorem c_C_loadOf (l : Launch) (cx : Cx) (nx N : Nat) (D : Dt) (P : Ft) (a0 : Nat) (i1 : Int32) (z : Int32) (h : f_C_loadOf N nx D P a0 i1 = some z) : Ct l cx yX7_loadOf cX7_loadOf 2 (some .int) 1 [.ref (cx.2.2 + a0), .int i1] D P nx (some (.int z)) D P := by
  refine x_met0 (by decide) (Nat.le_of_ble_eq_true rfl) ?_
  intro p e s m args below meth c X
  have X : XC p s m args meth c cx cX7_loadOf 2 (some .int) "HeartPins$Standing" "loadOf" := X
  refine XW.sub (lv' := [(0, .ref (cx.2.2 + a0)), (1, .int i1)]) [0, 1] rfl ?_
  unfold f_C_loadOf at h
  obtain ⟨hk0, h⟩ := grd h
  refine x_iload_n (pc := 0) X dX7_loadOf_0 (i := 1) rfl 1 rfl ?_
  refine x_if_lt (tgt := 12) (pc := 1) X dX7_loadOf_1 (by decide) (fun c2 => ?_) (fun c2 => ?_)
  · have h := ite_t c2 h
    refine x_iconst (v := 0) (pc := 12) X dX7_loadOf_12 (by decide) ?_
    obtain rfl := Option.some.inj h
    exact x_iret (pc := 13) X dX7_loadOf_13
  · have h := ite_f c2 h
    refine x_aload_n (pc := 4) X dX7_loadOf_4 (i := 0) rfl 0 rfl ?_
    refine x_iload_n (pc := 5) X dX7_loadOf_5 (i := 1) rfl 1 rfl ?_
    obtain ⟨z1, e1, h⟩ := bnds h
    refine x_callV (pc := 6) (As := [.int i1]) (st := []) (st' := [.int z1]) X (c_C_sumAt l cx nx N D P _ _ z1 e1) dX7_loadOf_6 w_483 m_C_sumAt rfl hk0 (ci := 7) rfl rfl ⟨by decide, by decide⟩ ⟨Nat.zero_le _, Nat.zero_le _⟩ rfl (Nat.le_of_ble_eq_true rfl) rfl ?_
    refine x_goto (tgt := 13) (pc := 9) X dX7_loadOf_9 (by decide) ?_
    obtain rfl := Option.some.inj h
    exact x_iret (pc := 13) X dX7_loadOf_13
theorem dX7_heartSum_0 : decode cX7_heartSum 0 = .ok (.aload_n 0, 1) := by decide +kernel
theorem dX7_heartSum_1 : decode cX7_heartSum 1 = .ok (.iconst (-1), 1) := by decide +kernel
theorem dX7_heartSum_2 : decode cX7_heartSum 2 = .ok (.invokevirtual 45, 3) := by decide +kernel
theorem dX7_heartSum_5 : decode cX7_heartSum 5 = .ok (.ireturn, 1) := by decide +kernel
def f_C_heartSum (N nx : Nat) (D : Dt) (P : Ft) (a0 : Nat) : Option Int32 :=
  if kd nx a0 = 7 then
  (f_C_sumAt N nx D P a0 (-1)).bind fun z1 =>
  some z1
  else none
theorem m_C_heartSum : MV yX7_heartSum cX7_heartSum 1 (some .int) 0 := ⟨mT 528 (by decide +kernel) rfl, mT 526 (by decide +kernel) rfl, mT 527 (by decide +kernel) rfl, mT 57 (by decide +kernel) rfl, by decide +kernel, by decide +kernel, by decide +kernel⟩
set_option maxHeartbeats 4000000 in
set_option maxRecDepth 100000 in
theorem c_C_heartSum (l : Launch) (cx : Cx) (nx N : Nat) (D : Dt) (P : Ft) (a0 : Nat) (z : Int32) (h : f_C_heartSum N nx D P a0 = some z) : Ct l cx yX7_heartSum cX7_heartSum 1 (some .int) 1 [.ref (cx.2.2 + a0)] D P nx (some (.int z)) D P := by
  refine x_met0 (by decide) (Nat.le_of_ble_eq_true rfl) ?_
  intro p e s m args below meth c X
  have X : XC p s m args meth c cx cX7_heartSum 1 (some .int) "HeartPins$Standing" "heartSum" := X
  refine XW.sub (lv' := [(0, .ref (cx.2.2 + a0))]) [0] rfl ?_
  unfold f_C_heartSum at h
  obtain ⟨hk0, h⟩ := grd h
  refine x_aload_n (pc := 0) X dX7_heartSum_0 (i := 0) rfl 0 rfl ?_
  refine x_iconst (v := (-1)) (pc := 1) X dX7_heartSum_1 (by decide) ?_
  obtain ⟨z1, e1, h⟩ := bnds h
  refine x_callV (pc := 2) (As := [.int (-1)]) (st := []) (st' := [.int z1]) X (c_C_sumAt l cx nx N D P _ _ z1 e1) dX7_heartSum_2 w_483 m_C_sumAt rfl hk0 (ci := 7) rfl rfl ⟨by decide, by decide⟩ ⟨Nat.zero_le _, Nat.zero_le _⟩ rfl (Nat.le_of_ble_eq_true rfl) rfl ?_
  obtain rfl := Option.some.inj h
  exact x_iret (pc := 5) X dX7_heartSum_5
theorem dX7_borneSum_0 : decode cX7_borneSum 0 = .ok (.iconst 0, 1) := by decide +kernel
theorem dX7_borneSum_1 : decode cX7_borneSum 1 = .ok (.istore_n 1, 1) := by decide +kernel
theorem dX7_borneSum_2 : decode cX7_borneSum 2 = .ok (.iconst 0, 1) := by decide +kernel
theorem dX7_borneSum_3 : decode cX7_borneSum 3 = .ok (.istore_n 2, 1) := by decide +kernel
theorem dX7_borneSum_4 : decode cX7_borneSum 4 = .ok (.iload_n 2, 1) := by decide +kernel
theorem dX7_borneSum_5 : decode cX7_borneSum 5 = .ok (.bipush 8, 2) := by decide +kernel
theorem dX7_borneSum_7 : decode cX7_borneSum 7 = .ok (.if_icmp .ge 27, 3) := by decide +kernel
theorem dX7_borneSum_10 : decode cX7_borneSum 10 = .ok (.aload_n 0, 1) := by decide +kernel
theorem dX7_borneSum_11 : decode cX7_borneSum 11 = .ok (.getfield 15, 3) := by decide +kernel
theorem dX7_borneSum_14 : decode cX7_borneSum 14 = .ok (.iload_n 2, 1) := by decide +kernel
theorem dX7_borneSum_15 : decode cX7_borneSum 15 = .ok (.iaload, 1) := by decide +kernel
theorem dX7_borneSum_16 : decode cX7_borneSum 16 = .ok (.ifCond .lt 12, 3) := by decide +kernel
theorem dX7_borneSum_19 : decode cX7_borneSum 19 = .ok (.iload_n 1, 1) := by decide +kernel
theorem dX7_borneSum_20 : decode cX7_borneSum 20 = .ok (.aload_n 0, 1) := by decide +kernel
theorem dX7_borneSum_21 : decode cX7_borneSum 21 = .ok (.getfield 9, 3) := by decide +kernel
theorem dX7_borneSum_24 : decode cX7_borneSum 24 = .ok (.iload_n 2, 1) := by decide +kernel
theorem dX7_borneSum_25 : decode cX7_borneSum 25 = .ok (.iaload, 1) := by decide +kernel
theorem dX7_borneSum_26 : decode cX7_borneSum 26 = .ok (.iadd, 1) := by decide +kernel
theorem dX7_borneSum_27 : decode cX7_borneSum 27 = .ok (.istore_n 1, 1) := by decide +kernel
theorem dX7_borneSum_28 : decode cX7_borneSum 28 = .ok (.iinc 2 1, 3) := by decide +kernel
theorem dX7_borneSum_31 : decode cX7_borneSum 31 = .ok (.goto (-27), 3) := by decide +kernel
theorem dX7_borneSum_34 : decode cX7_borneSum 34 = .ok (.iload_n 1, 1) := by decide +kernel
theorem dX7_borneSum_35 : decode cX7_borneSum 35 = .ok (.ireturn, 1) := by decide +kernel
def f_C_borneSum_4 (N nx : Nat) (D : Dt) (P : Ft) (a0 : Nat) (rec4 : Int32 → Int32 → Option Int32) (i1 : Int32) (i2 : Int32) : Option Int32 :=
  if 8 ≤ i2 then
    some i1
  else
    nn (P a0 2) fun q1 =>
    if ab nx q1 3 i2 = true then
    if D q1 i2.toNatClampNeg < 0 then
      rec4 i1 (i2 + 1)
    else
      nn (P a0 1) fun q3 =>
      if ab nx q3 3 i2 = true then
      rec4 (i1 + (D q3 i2.toNatClampNeg)) (i2 + 1)
      else none
    else none
def f_C_borneSum (N nx : Nat) (D : Dt) (P : Ft) (a0 : Nat) : Option Int32 :=
  if kd nx a0 = 7 then
  wk2 N (f_C_borneSum_4 N nx D P a0) 0 0
  else none
theorem m_C_borneSum : MV yX7_borneSum cX7_borneSum 3 (some .int) 0 := ⟨mT 839 (by decide +kernel) rfl, mT 837 (by decide +kernel) rfl, mT 838 (by decide +kernel) rfl, mT 57 (by decide +kernel) rfl, by decide +kernel, by decide +kernel, by decide +kernel⟩
set_option maxHeartbeats 4000000 in
set_option maxRecDepth 100000 in
theorem c_C_borneSum (l : Launch) (cx : Cx) (nx N : Nat) (D : Dt) (P : Ft) (a0 : Nat) (z : Int32) (h : f_C_borneSum N nx D P a0 = some z) : Ct l cx yX7_borneSum cX7_borneSum 3 (some .int) 0 [.ref (cx.2.2 + a0)] D P nx (some (.int z)) D P := by
  refine x_met0 (by decide) (Nat.le_of_ble_eq_true rfl) ?_
  intro p e s m args below meth c X
  have X : XC p s m args meth c cx cX7_borneSum 3 (some .int) "HeartPins$Standing" "borneSum" := X
  refine XW.sub (lv' := [(0, .ref (cx.2.2 + a0))]) [0] rfl ?_
  unfold f_C_borneSum at h
  obtain ⟨hk0, h⟩ := grd h
  have hL4 : ∀ (n : Nat) (i1 : Int32) (i2 : Int32), wk2 n (f_C_borneSum_4 N nx D P a0) i1 i2 = some z → XW p l e (rmk 0) s m args below meth c (MQ below (Qx cx (some (.int z)) D P nx) args s 0 0 (AA cx)) cx 3 D P nx 0 0 4 [(0, .ref (cx.2.2 + a0)), (1, .int i1), (2, .int i2)] [] := by
    intro n
    induction n with
    | zero => intro i1 i2 h; exact (nonz h).elim
    | succ n ih4 =>
      intro i1 i2 h
      have h : f_C_borneSum_4 N nx D P a0 (wk2 n (f_C_borneSum_4 N nx D P a0)) i1 i2 = some z := h
      generalize wk2 n (f_C_borneSum_4 N nx D P a0) = rec4 at ih4 h
      unfold f_C_borneSum_4 at h
      refine x_iload_n (pc := 4) X dX7_borneSum_4 (i := 2) rfl 2 rfl ?_
      refine x_bipush (v := 8) (pc := 5) X dX7_borneSum_5 (by decide) ?_
      refine x_icmp_ge (tgt := 34) (pc := 7) X dX7_borneSum_7 (by decide) (fun c6 => ?_) (fun c6 => ?_)
      · have h := ite_t c6 h
        refine x_iload_n (pc := 34) X dX7_borneSum_34 (i := 1) rfl 1 rfl ?_
        obtain rfl := Option.some.inj h
        exact x_iret (pc := 35) X dX7_borneSum_35
      · have h := ite_f c6 h
        refine x_aload_n (pc := 10) X dX7_borneSum_10 (i := 0) rfl 0 rfl ?_
        obtain ⟨q1, e1, h⟩ := nns h
        refine x_getr (ci := 7) (k := 2) (n := 5) (C := RX7) (T := TX7) (pc := 11) X dX7_borneSum_11 hk0 rfl (by decide) w_154 rfl e1 ?_
        refine x_iload_n (pc := 14) X dX7_borneSum_14 (i := 2) rfl 2 rfl ?_
        obtain ⟨g2, h⟩ := grd h
        refine x_iald (pc := 15) X dX7_borneSum_15 g2 ?_
        refine x_if_lt (tgt := 28) (pc := 16) X dX7_borneSum_16 (by decide) (fun c5 => ?_) (fun c5 => ?_)
        · have h := ite_t c5 h
          refine x_iinc (v := i2 + 1) (lv' := [(2, .int (i2 + 1)), (0, .ref (cx.2.2 + a0)), (1, .int i1)]) (pc := 28) X dX7_borneSum_28 2 rfl rfl (by decide) rfl ?_
          refine x_goto (tgt := 4) (pc := 31) X dX7_borneSum_31 (by decide) ?_
          exact XW.sub [1, 2, 0] rfl (ih4 _ _ h)
        · have h := ite_f c5 h
          refine x_iload_n (pc := 19) X dX7_borneSum_19 (i := 1) rfl 1 rfl ?_
          refine x_aload_n (pc := 20) X dX7_borneSum_20 (i := 0) rfl 0 rfl ?_
          obtain ⟨q3, e3, h⟩ := nns h
          refine x_getr (ci := 7) (k := 1) (n := 5) (C := RX7) (T := TX7) (pc := 21) X dX7_borneSum_21 hk0 rfl (by decide) w_153 rfl e3 ?_
          refine x_iload_n (pc := 24) X dX7_borneSum_24 (i := 2) rfl 2 rfl ?_
          obtain ⟨g4, h⟩ := grd h
          refine x_iald (pc := 25) X dX7_borneSum_25 g4 ?_
          refine x_iadd (pc := 26) X dX7_borneSum_26 ?_
          refine x_istore_n (lv' := [(1, .int (i1 + (D q3 i2.toNatClampNeg))), (0, .ref (cx.2.2 + a0)), (2, .int i2)]) (pc := 27) X dX7_borneSum_27 (i := 1) rfl (by decide) rfl ?_
          refine x_iinc (v := i2 + 1) (lv' := [(2, .int (i2 + 1)), (1, .int (i1 + (D q3 i2.toNatClampNeg))), (0, .ref (cx.2.2 + a0))]) (pc := 28) X dX7_borneSum_28 2 rfl rfl (by decide) rfl ?_
          refine x_goto (tgt := 4) (pc := 31) X dX7_borneSum_31 (by decide) ?_
          exact XW.sub [2, 1, 0] rfl (ih4 _ _ h)
  refine x_iconst (v := 0) (pc := 0) X dX7_borneSum_0 (by decide) ?_
  refine x_istore_n (lv' := [(1, .int 0), (0, .ref (cx.2.2 + a0))]) (pc := 1) X dX7_borneSum_1 (i := 1) rfl (by decide) rfl ?_
  refine x_iconst (v := 0) (pc := 2) X dX7_borneSum_2 (by decide) ?_
  refine x_istore_n (lv' := [(2, .int 0), (1, .int 0), (0, .ref (cx.2.2 + a0))]) (pc := 3) X dX7_borneSum_3 (i := 2) rfl (by decide) rfl ?_
  exact XW.sub [2, 1, 0] rfl (hL4 _ _ _ h)
theorem dX7_pinsWith_0 : decode cX7_pinsWith 0 = .ok (.iconst 0, 1) := by decide +kernel
theorem dX7_pinsWith_1 : decode cX7_pinsWith 1 = .ok (.istore_n 2, 1) := by decide +kernel
theorem dX7_pinsWith_2 : decode cX7_pinsWith 2 = .ok (.iconst 0, 1) := by decide +kernel
theorem dX7_pinsWith_3 : decode cX7_pinsWith 3 = .ok (.istore_n 3, 1) := by decide +kernel
theorem dX7_pinsWith_4 : decode cX7_pinsWith 4 = .ok (.iload_n 3, 1) := by decide +kernel
theorem dX7_pinsWith_5 : decode cX7_pinsWith 5 = .ok (.bipush 8, 2) := by decide +kernel
theorem dX7_pinsWith_7 : decode cX7_pinsWith 7 = .ok (.if_icmp .ge 25, 3) := by decide +kernel
theorem dX7_pinsWith_10 : decode cX7_pinsWith 10 = .ok (.aload_n 0, 1) := by decide +kernel
theorem dX7_pinsWith_11 : decode cX7_pinsWith 11 = .ok (.getfield 15, 3) := by decide +kernel
theorem dX7_pinsWith_14 : decode cX7_pinsWith 14 = .ok (.iload_n 3, 1) := by decide +kernel
theorem dX7_pinsWith_15 : decode cX7_pinsWith 15 = .ok (.iaload, 1) := by decide +kernel
theorem dX7_pinsWith_16 : decode cX7_pinsWith 16 = .ok (.iload_n 1, 1) := by decide +kernel
theorem dX7_pinsWith_17 : decode cX7_pinsWith 17 = .ok (.if_icmp .ne 9, 3) := by decide +kernel
theorem dX7_pinsWith_20 : decode cX7_pinsWith 20 = .ok (.iload_n 2, 1) := by decide +kernel
theorem dX7_pinsWith_21 : decode cX7_pinsWith 21 = .ok (.iconst 1, 1) := by decide +kernel
theorem dX7_pinsWith_22 : decode cX7_pinsWith 22 = .ok (.iload_n 3, 1) := by decide +kernel
theorem dX7_pinsWith_23 : decode cX7_pinsWith 23 = .ok (.ishl, 1) := by decide +kernel
theorem dX7_pinsWith_24 : decode cX7_pinsWith 24 = .ok (.ior, 1) := by decide +kernel
theorem dX7_pinsWith_25 : decode cX7_pinsWith 25 = .ok (.istore_n 2, 1) := by decide +kernel
theorem dX7_pinsWith_26 : decode cX7_pinsWith 26 = .ok (.iinc 3 1, 3) := by decide +kernel
theorem dX7_pinsWith_29 : decode cX7_pinsWith 29 = .ok (.goto (-25), 3) := by decide +kernel
theorem dX7_pinsWith_32 : decode cX7_pinsWith 32 = .ok (.iload_n 2, 1) := by decide +kernel
theorem dX7_pinsWith_33 : decode cX7_pinsWith 33 = .ok (.ireturn, 1) := by decide +kernel
def f_C_pinsWith_4 (N nx : Nat) (D : Dt) (P : Ft) (a0 : Nat) (i1 : Int32) (rec4 : Int32 → Int32 → Option Int32) (i2 : Int32) (i3 : Int32) : Option Int32 :=
  if 8 ≤ i3 then
    some i2
  else
    nn (P a0 2) fun q1 =>
    if ab nx q1 3 i3 = true then
    if D q1 i3.toNatClampNeg = i1 then
      rec4 (i2 ||| (1 <<< (i3 &&& 31))) (i3 + 1)
    else
      rec4 i2 (i3 + 1)
    else none
def f_C_pinsWith (N nx : Nat) (D : Dt) (P : Ft) (a0 : Nat) (i1 : Int32) : Option Int32 :=
  if kd nx a0 = 7 then
  wk2 N (f_C_pinsWith_4 N nx D P a0 i1) 0 0
  else none
theorem m_C_pinsWith : MV yX7_pinsWith cX7_pinsWith 4 (some .int) 1 := ⟨mT 490 (by decide +kernel) rfl, mT 488 (by decide +kernel) rfl, mT 489 (by decide +kernel) rfl, mT 57 (by decide +kernel) rfl, by decide +kernel, by decide +kernel, by decide +kernel⟩
set_option maxHeartbeats 4000000 in
set_option maxRecDepth 100000 in
theorem c_C_pinsWith (l : Launch) (cx : Cx) (nx N : Nat) (D : Dt) (P : Ft) (a0 : Nat) (i1 : Int32) (z : Int32) (h : f_C_pinsWith N nx D P a0 i1 = some z) : Ct l cx yX7_pinsWith cX7_pinsWith 4 (some .int) 0 [.ref (cx.2.2 + a0), .int i1] D P nx (some (.int z)) D P := by
  refine x_met0 (by decide) (Nat.le_of_ble_eq_true rfl) ?_
  intro p e s m args below meth c X
  have X : XC p s m args meth c cx cX7_pinsWith 4 (some .int) "HeartPins$Standing" "pinsWith" := X
  refine XW.sub (lv' := [(0, .ref (cx.2.2 + a0)), (1, .int i1)]) [0, 1] rfl ?_
  unfold f_C_pinsWith at h
  obtain ⟨hk0, h⟩ := grd h
  have hL4 : ∀ (n : Nat) (i2 : Int32) (i3 : Int32), wk2 n (f_C_pinsWith_4 N nx D P a0 i1) i2 i3 = some z → XW p l e (rmk 0) s m args below meth c (MQ below (Qx cx (some (.int z)) D P nx) args s 0 0 (AA cx)) cx 4 D P nx 0 0 4 [(0, .ref (cx.2.2 + a0)), (1, .int i1), (2, .int i2), (3, .int i3)] [] := by
    intro n
    induction n with
    | zero => intro i2 i3 h; exact (nonz h).elim
    | succ n ih4 =>
      intro i2 i3 h
      have h : f_C_pinsWith_4 N nx D P a0 i1 (wk2 n (f_C_pinsWith_4 N nx D P a0 i1)) i2 i3 = some z := h
      generalize wk2 n (f_C_pinsWith_4 N nx D P a0 i1) = rec4 at ih4 h
      unfold f_C_pinsWith_4 at h
      refine x_iload_n (pc := 4) X dX7_pinsWith_4 (i := 3) rfl 3 rfl ?_
      refine x_bipush (v := 8) (pc := 5) X dX7_pinsWith_5 (by decide) ?_
      refine x_icmp_ge (tgt := 32) (pc := 7) X dX7_pinsWith_7 (by decide) (fun c4 => ?_) (fun c4 => ?_)
      · have h := ite_t c4 h
        refine x_iload_n (pc := 32) X dX7_pinsWith_32 (i := 2) rfl 2 rfl ?_
        obtain rfl := Option.some.inj h
        exact x_iret (pc := 33) X dX7_pinsWith_33
      · have h := ite_f c4 h
        refine x_aload_n (pc := 10) X dX7_pinsWith_10 (i := 0) rfl 0 rfl ?_
        obtain ⟨q1, e1, h⟩ := nns h
        refine x_getr (ci := 7) (k := 2) (n := 5) (C := RX7) (T := TX7) (pc := 11) X dX7_pinsWith_11 hk0 rfl (by decide) w_154 rfl e1 ?_
        refine x_iload_n (pc := 14) X dX7_pinsWith_14 (i := 3) rfl 3 rfl ?_
        obtain ⟨g2, h⟩ := grd h
        refine x_iald (pc := 15) X dX7_pinsWith_15 g2 ?_
        refine x_iload_n (pc := 16) X dX7_pinsWith_16 (i := 1) rfl 1 rfl ?_
        refine x_icmp_ne (tgt := 26) (pc := 17) X dX7_pinsWith_17 (by decide) (fun c3 => ?_) (fun c3 => ?_)
        · have h := ite_f c3 h
          refine x_iinc (v := i3 + 1) (lv' := [(3, .int (i3 + 1)), (0, .ref (cx.2.2 + a0)), (1, .int i1), (2, .int i2)]) (pc := 26) X dX7_pinsWith_26 3 rfl rfl (by decide) rfl ?_
          refine x_goto (tgt := 4) (pc := 29) X dX7_pinsWith_29 (by decide) ?_
          exact XW.sub [1, 2, 3, 0] rfl (ih4 _ _ h)
        · have h := ite_t c3 h
          refine x_iload_n (pc := 20) X dX7_pinsWith_20 (i := 2) rfl 2 rfl ?_
          refine x_iconst (v := 1) (pc := 21) X dX7_pinsWith_21 (by decide) ?_
          refine x_iload_n (pc := 22) X dX7_pinsWith_22 (i := 3) rfl 3 rfl ?_
          refine x_ishl (pc := 23) X dX7_pinsWith_23 ?_
          refine x_ior (pc := 24) X dX7_pinsWith_24 ?_
          refine x_istore_n (lv' := [(2, .int (i2 ||| (1 <<< (i3 &&& 31)))), (0, .ref (cx.2.2 + a0)), (1, .int i1), (3, .int i3)]) (pc := 25) X dX7_pinsWith_25 (i := 2) rfl (by decide) rfl ?_
          refine x_iinc (v := i3 + 1) (lv' := [(3, .int (i3 + 1)), (2, .int (i2 ||| (1 <<< (i3 &&& 31)))), (0, .ref (cx.2.2 + a0)), (1, .int i1)]) (pc := 26) X dX7_pinsWith_26 3 rfl rfl (by decide) rfl ?_
          refine x_goto (tgt := 4) (pc := 29) X dX7_pinsWith_29 (by decide) ?_
          exact XW.sub [2, 3, 1, 0] rfl (ih4 _ _ h)
  refine x_iconst (v := 0) (pc := 0) X dX7_pinsWith_0 (by decide) ?_
  refine x_istore_n (lv' := [(2, .int 0), (0, .ref (cx.2.2 + a0)), (1, .int i1)]) (pc := 1) X dX7_pinsWith_1 (i := 2) rfl (by decide) rfl ?_
  refine x_iconst (v := 0) (pc := 2) X dX7_pinsWith_2 (by decide) ?_
  refine x_istore_n (lv' := [(3, .int 0), (2, .int 0), (0, .ref (cx.2.2 + a0)), (1, .int i1)]) (pc := 3) X dX7_pinsWith_3 (i := 3) rfl (by decide) rfl ?_
  exact XW.sub [2, 3, 1, 0] rfl (hL4 _ _ _ h)
theorem dX7_borneBits_0 : decode cX7_borneBits 0 = .ok (.iconst 0, 1) := by decide +kernel
theorem dX7_borneBits_1 : decode cX7_borneBits 1 = .ok (.istore_n 1, 1) := by decide +kernel
theorem dX7_borneBits_2 : decode cX7_borneBits 2 = .ok (.iconst 0, 1) := by decide +kernel
theorem dX7_borneBits_3 : decode cX7_borneBits 3 = .ok (.istore_n 2, 1) := by decide +kernel
theorem dX7_borneBits_4 : decode cX7_borneBits 4 = .ok (.iload_n 2, 1) := by decide +kernel
theorem dX7_borneBits_5 : decode cX7_borneBits 5 = .ok (.bipush 8, 2) := by decide +kernel
theorem dX7_borneBits_7 : decode cX7_borneBits 7 = .ok (.if_icmp .ge 24, 3) := by decide +kernel
theorem dX7_borneBits_10 : decode cX7_borneBits 10 = .ok (.aload_n 0, 1) := by decide +kernel
theorem dX7_borneBits_11 : decode cX7_borneBits 11 = .ok (.getfield 15, 3) := by decide +kernel
theorem dX7_borneBits_14 : decode cX7_borneBits 14 = .ok (.iload_n 2, 1) := by decide +kernel
theorem dX7_borneBits_15 : decode cX7_borneBits 15 = .ok (.iaload, 1) := by decide +kernel
theorem dX7_borneBits_16 : decode cX7_borneBits 16 = .ok (.ifCond .lt 9, 3) := by decide +kernel
theorem dX7_borneBits_19 : decode cX7_borneBits 19 = .ok (.iload_n 1, 1) := by decide +kernel
theorem dX7_borneBits_20 : decode cX7_borneBits 20 = .ok (.iconst 1, 1) := by decide +kernel
theorem dX7_borneBits_21 : decode cX7_borneBits 21 = .ok (.iload_n 2, 1) := by decide +kernel
theorem dX7_borneBits_22 : decode cX7_borneBits 22 = .ok (.ishl, 1) := by decide +kernel
theorem dX7_borneBits_23 : decode cX7_borneBits 23 = .ok (.ior, 1) := by decide +kernel
theorem dX7_borneBits_24 : decode cX7_borneBits 24 = .ok (.istore_n 1, 1) := by decide +kernel
theorem dX7_borneBits_25 : decode cX7_borneBits 25 = .ok (.iinc 2 1, 3) := by decide +kernel
theorem dX7_borneBits_28 : decode cX7_borneBits 28 = .ok (.goto (-24), 3) := by decide +kernel
theorem dX7_borneBits_31 : decode cX7_borneBits 31 = .ok (.iload_n 1, 1) := by decide +kernel
theorem dX7_borneBits_32 : decode cX7_borneBits 32 = .ok (.ireturn, 1) := by decide +kernel
def f_C_borneBits_4 (N nx : Nat) (D : Dt) (P : Ft) (a0 : Nat) (rec4 : Int32 → Int32 → Option Int32) (i1 : Int32) (i2 : Int32) : Option Int32 :=
  if 8 ≤ i2 then
    some i1
  else
    nn (P a0 2) fun q1 =>
    if ab nx q1 3 i2 = true then
    if D q1 i2.toNatClampNeg < 0 then
      rec4 i1 (i2 + 1)
    else
      rec4 (i1 ||| (1 <<< (i2 &&& 31))) (i2 + 1)
    else none
def f_C_borneBits (N nx : Nat) (D : Dt) (P : Ft) (a0 : Nat) : Option Int32 :=
  if kd nx a0 = 7 then
  wk2 N (f_C_borneBits_4 N nx D P a0) 0 0
  else none
theorem m_C_borneBits : MV yX7_borneBits cX7_borneBits 3 (some .int) 0 := ⟨mT 667 (by decide +kernel) rfl, mT 665 (by decide +kernel) rfl, mT 666 (by decide +kernel) rfl, mT 57 (by decide +kernel) rfl, by decide +kernel, by decide +kernel, by decide +kernel⟩
set_option maxHeartbeats 4000000 in
set_option maxRecDepth 100000 in
theorem c_C_borneBits (l : Launch) (cx : Cx) (nx N : Nat) (D : Dt) (P : Ft) (a0 : Nat) (z : Int32) (h : f_C_borneBits N nx D P a0 = some z) : Ct l cx yX7_borneBits cX7_borneBits 3 (some .int) 0 [.ref (cx.2.2 + a0)] D P nx (some (.int z)) D P := by
  refine x_met0 (by decide) (Nat.le_of_ble_eq_true rfl) ?_
  intro p e s m args below meth c X
  have X : XC p s m args meth c cx cX7_borneBits 3 (some .int) "HeartPins$Standing" "borneBits" := X
  refine XW.sub (lv' := [(0, .ref (cx.2.2 + a0))]) [0] rfl ?_
  unfold f_C_borneBits at h
  obtain ⟨hk0, h⟩ := grd h
  have hL4 : ∀ (n : Nat) (i1 : Int32) (i2 : Int32), wk2 n (f_C_borneBits_4 N nx D P a0) i1 i2 = some z → XW p l e (rmk 0) s m args below meth c (MQ below (Qx cx (some (.int z)) D P nx) args s 0 0 (AA cx)) cx 3 D P nx 0 0 4 [(0, .ref (cx.2.2 + a0)), (1, .int i1), (2, .int i2)] [] := by
    intro n
    induction n with
    | zero => intro i1 i2 h; exact (nonz h).elim
    | succ n ih4 =>
      intro i1 i2 h
      have h : f_C_borneBits_4 N nx D P a0 (wk2 n (f_C_borneBits_4 N nx D P a0)) i1 i2 = some z := h
      generalize wk2 n (f_C_borneBits_4 N nx D P a0) = rec4 at ih4 h
      unfold f_C_borneBits_4 at h
      refine x_iload_n (pc := 4) X dX7_borneBits_4 (i := 2) rfl 2 rfl ?_
      refine x_bipush (v := 8) (pc := 5) X dX7_borneBits_5 (by decide) ?_
      refine x_icmp_ge (tgt := 31) (pc := 7) X dX7_borneBits_7 (by decide) (fun c4 => ?_) (fun c4 => ?_)
      · have h := ite_t c4 h
        refine x_iload_n (pc := 31) X dX7_borneBits_31 (i := 1) rfl 1 rfl ?_
        obtain rfl := Option.some.inj h
        exact x_iret (pc := 32) X dX7_borneBits_32
      · have h := ite_f c4 h
        refine x_aload_n (pc := 10) X dX7_borneBits_10 (i := 0) rfl 0 rfl ?_
        obtain ⟨q1, e1, h⟩ := nns h
        refine x_getr (ci := 7) (k := 2) (n := 5) (C := RX7) (T := TX7) (pc := 11) X dX7_borneBits_11 hk0 rfl (by decide) w_154 rfl e1 ?_
        refine x_iload_n (pc := 14) X dX7_borneBits_14 (i := 2) rfl 2 rfl ?_
        obtain ⟨g2, h⟩ := grd h
        refine x_iald (pc := 15) X dX7_borneBits_15 g2 ?_
        refine x_if_lt (tgt := 25) (pc := 16) X dX7_borneBits_16 (by decide) (fun c3 => ?_) (fun c3 => ?_)
        · have h := ite_t c3 h
          refine x_iinc (v := i2 + 1) (lv' := [(2, .int (i2 + 1)), (0, .ref (cx.2.2 + a0)), (1, .int i1)]) (pc := 25) X dX7_borneBits_25 2 rfl rfl (by decide) rfl ?_
          refine x_goto (tgt := 4) (pc := 28) X dX7_borneBits_28 (by decide) ?_
          exact XW.sub [1, 2, 0] rfl (ih4 _ _ h)
        · have h := ite_f c3 h
          refine x_iload_n (pc := 19) X dX7_borneBits_19 (i := 1) rfl 1 rfl ?_
          refine x_iconst (v := 1) (pc := 20) X dX7_borneBits_20 (by decide) ?_
          refine x_iload_n (pc := 21) X dX7_borneBits_21 (i := 2) rfl 2 rfl ?_
          refine x_ishl (pc := 22) X dX7_borneBits_22 ?_
          refine x_ior (pc := 23) X dX7_borneBits_23 ?_
          refine x_istore_n (lv' := [(1, .int (i1 ||| (1 <<< (i2 &&& 31)))), (0, .ref (cx.2.2 + a0)), (2, .int i2)]) (pc := 24) X dX7_borneBits_24 (i := 1) rfl (by decide) rfl ?_
          refine x_iinc (v := i2 + 1) (lv' := [(2, .int (i2 + 1)), (1, .int (i1 ||| (1 <<< (i2 &&& 31)))), (0, .ref (cx.2.2 + a0))]) (pc := 25) X dX7_borneBits_25 2 rfl rfl (by decide) rfl ?_
          refine x_goto (tgt := 4) (pc := 28) X dX7_borneBits_28 (by decide) ?_
          exact XW.sub [2, 1, 0] rfl (ih4 _ _ h)
  refine x_iconst (v := 0) (pc := 0) X dX7_borneBits_0 (by decide) ?_
  refine x_istore_n (lv' := [(1, .int 0), (0, .ref (cx.2.2 + a0))]) (pc := 1) X dX7_borneBits_1 (i := 1) rfl (by decide) rfl ?_
  refine x_iconst (v := 0) (pc := 2) X dX7_borneBits_2 (by decide) ?_
  refine x_istore_n (lv' := [(2, .int 0), (1, .int 0), (0, .ref (cx.2.2 + a0))]) (pc := 3) X dX7_borneBits_3 (i := 2) rfl (by decide) rfl ?_
  exact XW.sub [2, 1, 0] rfl (hL4 _ _ _ h)
theorem dX7_howManyBorne_0 : decode cX7_howManyBorne 0 = .ok (.aload_n 0, 1) := by decide +kernel
theorem dX7_howManyBorne_1 : decode cX7_howManyBorne 1 = .ok (.invokevirtual 48, 3) := by decide +kernel
theorem dX7_howManyBorne_4 : decode cX7_howManyBorne 4 = .ok (.invokestatic 52, 3) := by decide +kernel
theorem dX7_howManyBorne_7 : decode cX7_howManyBorne 7 = .ok (.ireturn, 1) := by decide +kernel
def f_C_howManyBorne (N nx : Nat) (D : Dt) (P : Ft) (a0 : Nat) : Option Int32 :=
  if kd nx a0 = 7 then
  (f_C_borneBits N nx D P a0).bind fun z1 =>
  (f_J_bitCount N nx D P z1).bind fun z2 =>
  some z2
  else none
theorem m_C_howManyBorne : MV yX7_howManyBorne cX7_howManyBorne 1 (some .int) 0 := ⟨mT 777 (by decide +kernel) rfl, mT 775 (by decide +kernel) rfl, mT 776 (by decide +kernel) rfl, mT 57 (by decide +kernel) rfl, by decide +kernel, by decide +kernel, by decide +kernel⟩
set_option maxHeartbeats 4000000 in
set_option maxRecDepth 100000 in
theorem c_C_howManyBorne (l : Launch) (cx : Cx) (nx N : Nat) (D : Dt) (P : Ft) (a0 : Nat) (z : Int32) (h : f_C_howManyBorne N nx D P a0 = some z) : Ct l cx yX7_howManyBorne cX7_howManyBorne 1 (some .int) 1 [.ref (cx.2.2 + a0)] D P nx (some (.int z)) D P := by
  refine x_met0 (by decide) (Nat.le_of_ble_eq_true rfl) ?_
  intro p e s m args below meth c X
  have X : XC p s m args meth c cx cX7_howManyBorne 1 (some .int) "HeartPins$Standing" "howManyBorne" := X
  refine XW.sub (lv' := [(0, .ref (cx.2.2 + a0))]) [0] rfl ?_
  unfold f_C_howManyBorne at h
  obtain ⟨hk0, h⟩ := grd h
  refine x_aload_n (pc := 0) X dX7_howManyBorne_0 (i := 0) rfl 0 rfl ?_
  obtain ⟨z1, e1, h⟩ := bnds h
  refine x_callV (pc := 1) (As := []) (st := []) (st' := [.int z1]) X (c_C_borneBits l cx nx N D P _ z1 e1) dX7_howManyBorne_1 w_778 m_C_borneBits rfl hk0 (ci := 7) rfl rfl ⟨by decide, by decide⟩ ⟨Nat.zero_le _, Nat.zero_le _⟩ rfl (Nat.le_of_ble_eq_true rfl) rfl ?_
  obtain ⟨z2, e2, h⟩ := bnds h
  refine x_callS (pc := 4) (As := [.int z1]) (st := []) (st' := [.int z2]) X (c_J_bitCount l cx nx N D P _ z2 e2) dX7_howManyBorne_4 w_779 m_J_bitCount rfl ⟨by decide, by decide⟩ ⟨Nat.zero_le _, Nat.zero_le _⟩ rfl (Nat.le_of_ble_eq_true rfl) rfl ?_
  obtain rfl := Option.some.inj h
  exact x_iret (pc := 7) X dX7_howManyBorne_7
theorem dX7_howManyAt_0 : decode cX7_howManyAt 0 = .ok (.aload_n 0, 1) := by decide +kernel
theorem dX7_howManyAt_1 : decode cX7_howManyAt 1 = .ok (.iload_n 1, 1) := by decide +kernel
theorem dX7_howManyAt_2 : decode cX7_howManyAt 2 = .ok (.invokevirtual 57, 3) := by decide +kernel
theorem dX7_howManyAt_5 : decode cX7_howManyAt 5 = .ok (.invokestatic 52, 3) := by decide +kernel
theorem dX7_howManyAt_8 : decode cX7_howManyAt 8 = .ok (.ireturn, 1) := by decide +kernel
def f_C_howManyAt (N nx : Nat) (D : Dt) (P : Ft) (a0 : Nat) (i1 : Int32) : Option Int32 :=
  if kd nx a0 = 7 then
  (f_C_pinsWith N nx D P a0 i1).bind fun z1 =>
  (f_J_bitCount N nx D P z1).bind fun z2 =>
  some z2
  else none
theorem m_C_howManyAt : MV yX7_howManyAt cX7_howManyAt 2 (some .int) 1 := ⟨mT 856 (by decide +kernel) rfl, mT 854 (by decide +kernel) rfl, mT 855 (by decide +kernel) rfl, mT 57 (by decide +kernel) rfl, by decide +kernel, by decide +kernel, by decide +kernel⟩
set_option maxHeartbeats 4000000 in
set_option maxRecDepth 100000 in
theorem c_C_howManyAt (l : Launch) (cx : Cx) (nx N : Nat) (D : Dt) (P : Ft) (a0 : Nat) (i1 : Int32) (z : Int32) (h : f_C_howManyAt N nx D P a0 i1 = some z) : Ct l cx yX7_howManyAt cX7_howManyAt 2 (some .int) 1 [.ref (cx.2.2 + a0), .int i1] D P nx (some (.int z)) D P := by
  refine x_met0 (by decide) (Nat.le_of_ble_eq_true rfl) ?_
  intro p e s m args below meth c X
  have X : XC p s m args meth c cx cX7_howManyAt 2 (some .int) "HeartPins$Standing" "howManyAt" := X
  refine XW.sub (lv' := [(0, .ref (cx.2.2 + a0)), (1, .int i1)]) [0, 1] rfl ?_
  unfold f_C_howManyAt at h
  obtain ⟨hk0, h⟩ := grd h
  refine x_aload_n (pc := 0) X dX7_howManyAt_0 (i := 0) rfl 0 rfl ?_
  refine x_iload_n (pc := 1) X dX7_howManyAt_1 (i := 1) rfl 1 rfl ?_
  obtain ⟨z1, e1, h⟩ := bnds h
  refine x_callV (pc := 2) (As := [.int i1]) (st := []) (st' := [.int z1]) X (c_C_pinsWith l cx nx N D P _ _ z1 e1) dX7_howManyAt_2 w_857 m_C_pinsWith rfl hk0 (ci := 7) rfl rfl ⟨by decide, by decide⟩ ⟨Nat.zero_le _, Nat.zero_le _⟩ rfl (Nat.le_of_ble_eq_true rfl) rfl ?_
  obtain ⟨z2, e2, h⟩ := bnds h
  refine x_callS (pc := 5) (As := [.int z1]) (st := []) (st' := [.int z2]) X (c_J_bitCount l cx nx N D P _ z2 e2) dX7_howManyAt_5 w_779 m_J_bitCount rfl ⟨by decide, by decide⟩ ⟨Nat.zero_le _, Nat.zero_le _⟩ rfl (Nat.le_of_ble_eq_true rfl) rfl ?_
  obtain rfl := Option.some.inj h
  exact x_iret (pc := 8) X dX7_howManyAt_8
theorem dX7_isBroken_0 : decode cX7_isBroken 0 = .ok (.aload_n 0, 1) := by decide +kernel
theorem dX7_isBroken_1 : decode cX7_isBroken 1 = .ok (.iload_n 1, 1) := by decide +kernel
theorem dX7_isBroken_2 : decode cX7_isBroken 2 = .ok (.invokevirtual 60, 3) := by decide +kernel
theorem dX7_isBroken_5 : decode cX7_isBroken 5 = .ok (.aload_n 0, 1) := by decide +kernel
theorem dX7_isBroken_6 : decode cX7_isBroken 6 = .ok (.getfield 18, 3) := by decide +kernel
theorem dX7_isBroken_9 : decode cX7_isBroken 9 = .ok (.iload_n 1, 1) := by decide +kernel
theorem dX7_isBroken_10 : decode cX7_isBroken 10 = .ok (.invokevirtual 63, 3) := by decide +kernel
theorem dX7_isBroken_13 : decode cX7_isBroken 13 = .ok (.if_icmp .le 7, 3) := by decide +kernel
theorem dX7_isBroken_16 : decode cX7_isBroken 16 = .ok (.iconst 1, 1) := by decide +kernel
theorem dX7_isBroken_17 : decode cX7_isBroken 17 = .ok (.goto 4, 3) := by decide +kernel
theorem dX7_isBroken_20 : decode cX7_isBroken 20 = .ok (.iconst 0, 1) := by decide +kernel
theorem dX7_isBroken_21 : decode cX7_isBroken 21 = .ok (.ireturn, 1) := by decide +kernel
def f_C_isBroken (N nx : Nat) (D : Dt) (P : Ft) (a0 : Nat) (i1 : Int32) : Option Int32 :=
  if kd nx a0 = 7 then
  (f_C_loadOf N nx D P a0 i1).bind fun z1 =>
  nn (P a0 0) fun q2 =>
  if kd nx q2 = 1 then
  (f_F_bearableBy N nx D P q2 i1).bind fun z3 =>
  if z1 ≤ z3 then
    some 0
  else
    some 1
  else none
  else none
theorem m_C_isBroken : MV yX7_isBroken cX7_isBroken 2 (some .boolean) 1 := ⟨mT 494 (by decide +kernel) rfl, mT 492 (by decide +kernel) rfl, mT 493 (by decide +kernel) rfl, mT 57 (by decide +kernel) rfl, by decide +kernel, by decide +kernel, by decide +kernel⟩
set_option maxHeartbeats 4000000 in
set_option maxRecDepth 100000 in
theorem c_C_isBroken (l : Launch) (cx : Cx) (nx N : Nat) (D : Dt) (P : Ft) (a0 : Nat) (i1 : Int32) (z : Int32) (h : f_C_isBroken N nx D P a0 i1 = some z) : Ct l cx yX7_isBroken cX7_isBroken 2 (some .boolean) 2 [.ref (cx.2.2 + a0), .int i1] D P nx (some (.int z)) D P := by
  refine x_met0 (by decide) (Nat.le_of_ble_eq_true rfl) ?_
  intro p e s m args below meth c X
  have X : XC p s m args meth c cx cX7_isBroken 2 (some .boolean) "HeartPins$Standing" "isBroken" := X
  refine XW.sub (lv' := [(0, .ref (cx.2.2 + a0)), (1, .int i1)]) [0, 1] rfl ?_
  unfold f_C_isBroken at h
  obtain ⟨hk0, h⟩ := grd h
  refine x_aload_n (pc := 0) X dX7_isBroken_0 (i := 0) rfl 0 rfl ?_
  refine x_iload_n (pc := 1) X dX7_isBroken_1 (i := 1) rfl 1 rfl ?_
  obtain ⟨z1, e1, h⟩ := bnds h
  refine x_callV (pc := 2) (As := [.int i1]) (st := []) (st' := [.int z1]) X (c_C_loadOf l cx nx N D P _ _ z1 e1) dX7_isBroken_2 w_495 m_C_loadOf rfl hk0 (ci := 7) rfl rfl ⟨by decide, by decide⟩ ⟨Nat.zero_le _, Nat.zero_le _⟩ rfl (Nat.le_of_ble_eq_true rfl) rfl ?_
  refine x_aload_n (pc := 5) X dX7_isBroken_5 (i := 0) rfl 0 rfl ?_
  obtain ⟨q2, e2, h⟩ := nns h
  refine x_getr (ci := 7) (k := 0) (n := 5) (C := RX7) (T := TX7) (pc := 6) X dX7_isBroken_6 hk0 rfl (by decide) w_151 rfl e2 ?_
  refine x_iload_n (pc := 9) X dX7_isBroken_9 (i := 1) rfl 1 rfl ?_
  obtain ⟨k4, h⟩ := grd h
  obtain ⟨z3, e3, h⟩ := bnds h
  refine x_callV (pc := 10) (As := [.int i1]) (st := [.int z1]) (st' := [.int z3, .int z1]) X (c_F_bearableBy l cx nx N D P _ _ z3 e3) dX7_isBroken_10 w_496 m_F_bearableBy rfl k4 (ci := 1) rfl rfl ⟨by decide, by decide⟩ ⟨Nat.zero_le _, Nat.zero_le _⟩ rfl (Nat.le_of_ble_eq_true rfl) rfl ?_
  refine x_icmp_le (tgt := 20) (pc := 13) X dX7_isBroken_13 (by decide) (fun c5 => ?_) (fun c5 => ?_)
  · have h := ite_t c5 h
    refine x_iconst (v := 0) (pc := 20) X dX7_isBroken_20 (by decide) ?_
    obtain rfl := Option.some.inj h
    exact x_zret (pc := 21) X dX7_isBroken_21 (Or.inl rfl)
  · have h := ite_f c5 h
    refine x_iconst (v := 1) (pc := 16) X dX7_isBroken_16 (by decide) ?_
    refine x_goto (tgt := 21) (pc := 17) X dX7_isBroken_17 (by decide) ?_
    obtain rfl := Option.some.inj h
    exact x_zret (pc := 21) X dX7_isBroken_21 (Or.inr rfl)
theorem dX7_howManyBreak_0 : decode cX7_howManyBreak 0 = .ok (.iconst 0, 1) := by decide +kernel
theorem dX7_howManyBreak_1 : decode cX7_howManyBreak 1 = .ok (.istore_n 1, 1) := by decide +kernel
theorem dX7_howManyBreak_2 : decode cX7_howManyBreak 2 = .ok (.iconst 0, 1) := by decide +kernel
theorem dX7_howManyBreak_3 : decode cX7_howManyBreak 3 = .ok (.istore_n 2, 1) := by decide +kernel
theorem dX7_howManyBreak_4 : decode cX7_howManyBreak 4 = .ok (.iload_n 2, 1) := by decide +kernel
theorem dX7_howManyBreak_5 : decode cX7_howManyBreak 5 = .ok (.aload_n 0, 1) := by decide +kernel
theorem dX7_howManyBreak_6 : decode cX7_howManyBreak 6 = .ok (.getfield 18, 3) := by decide +kernel
theorem dX7_howManyBreak_9 : decode cX7_howManyBreak 9 = .ok (.getfield 66, 3) := by decide +kernel
theorem dX7_howManyBreak_12 : decode cX7_howManyBreak 12 = .ok (.if_icmp .ge 20, 3) := by decide +kernel
theorem dX7_howManyBreak_15 : decode cX7_howManyBreak 15 = .ok (.aload_n 0, 1) := by decide +kernel
theorem dX7_howManyBreak_16 : decode cX7_howManyBreak 16 = .ok (.iload_n 2, 1) := by decide +kernel
theorem dX7_howManyBreak_17 : decode cX7_howManyBreak 17 = .ok (.invokevirtual 69, 3) := by decide +kernel
theorem dX7_howManyBreak_20 : decode cX7_howManyBreak 20 = .ok (.ifCond .eq 6, 3) := by decide +kernel
theorem dX7_howManyBreak_23 : decode cX7_howManyBreak 23 = .ok (.iinc 1 1, 3) := by decide +kernel
theorem dX7_howManyBreak_26 : decode cX7_howManyBreak 26 = .ok (.iinc 2 1, 3) := by decide +kernel
theorem dX7_howManyBreak_29 : decode cX7_howManyBreak 29 = .ok (.goto (-25), 3) := by decide +kernel
theorem dX7_howManyBreak_32 : decode cX7_howManyBreak 32 = .ok (.iload_n 1, 1) := by decide +kernel
theorem dX7_howManyBreak_33 : decode cX7_howManyBreak 33 = .ok (.ireturn, 1) := by decide +kernel
def f_C_howManyBreak_4 (N nx : Nat) (D : Dt) (P : Ft) (a0 : Nat) (rec4 : Int32 → Int32 → Option Int32) (i1 : Int32) (i2 : Int32) : Option Int32 :=
  nn (P a0 0) fun q1 =>
  if kd nx q1 = 1 then
  if D q1 4 ≤ i2 then
    some i1
  else
    (f_C_isBroken N nx D P a0 i2).bind fun z3 =>
    if z3 = 0 then
      rec4 i1 (i2 + 1)
    else
      rec4 (i1 + 1) (i2 + 1)
  else none
def f_C_howManyBreak (N nx : Nat) (D : Dt) (P : Ft) (a0 : Nat) : Option Int32 :=
  if kd nx a0 = 7 then
  wk2 N (f_C_howManyBreak_4 N nx D P a0) 0 0
  else none
theorem m_C_howManyBreak : MV yX7_howManyBreak cX7_howManyBreak 3 (some .int) 0 := ⟨mT 685 (by decide +kernel) rfl, mT 683 (by decide +kernel) rfl, mT 684 (by decide +kernel) rfl, mT 57 (by decide +kernel) rfl, by decide +kernel, by decide +kernel, by decide +kernel⟩
set_option maxHeartbeats 4000000 in
set_option maxRecDepth 100000 in
theorem c_C_howManyBreak (l : Launch) (cx : Cx) (nx N : Nat) (D : Dt) (P : Ft) (a0 : Nat) (z : Int32) (h : f_C_howManyBreak N nx D P a0 = some z) : Ct l cx yX7_howManyBreak cX7_howManyBreak 3 (some .int) 3 [.ref (cx.2.2 + a0)] D P nx (some (.int z)) D P := by
  refine x_met0 (by decide) (Nat.le_of_ble_eq_true rfl) ?_
  intro p e s m args below meth c X
  have X : XC p s m args meth c cx cX7_howManyBreak 3 (some .int) "HeartPins$Standing" "howManyBreak" := X
  refine XW.sub (lv' := [(0, .ref (cx.2.2 + a0))]) [0] rfl ?_
  unfold f_C_howManyBreak at h
  obtain ⟨hk0, h⟩ := grd h
  have hL4 : ∀ (n : Nat) (i1 : Int32) (i2 : Int32), wk2 n (f_C_howManyBreak_4 N nx D P a0) i1 i2 = some z → XW p l e (rmk 3) s m args below meth c (MQ below (Qx cx (some (.int z)) D P nx) args s 0 0 (AA cx)) cx 3 D P nx 0 0 4 [(0, .ref (cx.2.2 + a0)), (1, .int i1), (2, .int i2)] [] := by
    intro n
    induction n with
    | zero => intro i1 i2 h; exact (nonz h).elim
    | succ n ih4 =>
      intro i1 i2 h
      have h : f_C_howManyBreak_4 N nx D P a0 (wk2 n (f_C_howManyBreak_4 N nx D P a0)) i1 i2 = some z := h
      generalize wk2 n (f_C_howManyBreak_4 N nx D P a0) = rec4 at ih4 h
      unfold f_C_howManyBreak_4 at h
      refine x_iload_n (pc := 4) X dX7_howManyBreak_4 (i := 2) rfl 2 rfl ?_
      refine x_aload_n (pc := 5) X dX7_howManyBreak_5 (i := 0) rfl 0 rfl ?_
      obtain ⟨q1, e1, h⟩ := nns h
      refine x_getr (ci := 7) (k := 0) (n := 5) (C := RX7) (T := TX7) (pc := 6) X dX7_howManyBreak_6 hk0 rfl (by decide) w_151 rfl e1 ?_
      obtain ⟨k2, h⟩ := grd h
      refine x_geti (ci := 1) (k := 4) (n := 9) (C := RX1) (T := TX1) (pc := 9) X dX7_howManyBreak_9 k2 rfl (by decide) w_114 rfl ?_
      refine x_icmp_ge (tgt := 32) (pc := 12) X dX7_howManyBreak_12 (by decide) (fun c5 => ?_) (fun c5 => ?_)
      · have h := ite_t c5 h
        refine x_iload_n (pc := 32) X dX7_howManyBreak_32 (i := 1) rfl 1 rfl ?_
        obtain rfl := Option.some.inj h
        exact x_iret (pc := 33) X dX7_howManyBreak_33
      · have h := ite_f c5 h
        refine x_aload_n (pc := 15) X dX7_howManyBreak_15 (i := 0) rfl 0 rfl ?_
        refine x_iload_n (pc := 16) X dX7_howManyBreak_16 (i := 2) rfl 2 rfl ?_
        obtain ⟨z3, e3, h⟩ := bnds h
        refine x_callV (pc := 17) (As := [.int i2]) (st := []) (st' := [.int z3]) X (c_C_isBroken l cx nx N D P _ _ z3 e3) dX7_howManyBreak_17 w_686 m_C_isBroken rfl hk0 (ci := 7) rfl rfl ⟨by decide, by decide⟩ ⟨Nat.zero_le _, Nat.zero_le _⟩ rfl (Nat.le_of_ble_eq_true rfl) rfl ?_
        refine x_if_eq (tgt := 26) (pc := 20) X dX7_howManyBreak_20 (by decide) (fun c4 => ?_) (fun c4 => ?_)
        · have h := ite_t c4 h
          refine x_iinc (v := i2 + 1) (lv' := [(2, .int (i2 + 1)), (0, .ref (cx.2.2 + a0)), (1, .int i1)]) (pc := 26) X dX7_howManyBreak_26 2 rfl rfl (by decide) rfl ?_
          refine x_goto (tgt := 4) (pc := 29) X dX7_howManyBreak_29 (by decide) ?_
          exact XW.sub [1, 2, 0] rfl (ih4 _ _ h)
        · have h := ite_f c4 h
          refine x_iinc (v := i1 + 1) (lv' := [(1, .int (i1 + 1)), (0, .ref (cx.2.2 + a0)), (2, .int i2)]) (pc := 23) X dX7_howManyBreak_23 1 rfl rfl (by decide) rfl ?_
          refine x_iinc (v := i2 + 1) (lv' := [(2, .int (i2 + 1)), (1, .int (i1 + 1)), (0, .ref (cx.2.2 + a0))]) (pc := 26) X dX7_howManyBreak_26 2 rfl rfl (by decide) rfl ?_
          refine x_goto (tgt := 4) (pc := 29) X dX7_howManyBreak_29 (by decide) ?_
          exact XW.sub [2, 1, 0] rfl (ih4 _ _ h)
  refine x_iconst (v := 0) (pc := 0) X dX7_howManyBreak_0 (by decide) ?_
  refine x_istore_n (lv' := [(1, .int 0), (0, .ref (cx.2.2 + a0))]) (pc := 1) X dX7_howManyBreak_1 (i := 1) rfl (by decide) rfl ?_
  refine x_iconst (v := 0) (pc := 2) X dX7_howManyBreak_2 (by decide) ?_
  refine x_istore_n (lv' := [(2, .int 0), (1, .int 0), (0, .ref (cx.2.2 + a0))]) (pc := 3) X dX7_howManyBreak_3 (i := 2) rfl (by decide) rfl ?_
  exact XW.sub [2, 1, 0] rfl (hL4 _ _ _ h)
theorem dX7_breakingWithout_0 : decode cX7_breakingWithout 0 = .ok (.iload_n 1, 1) := by decide +kernel
theorem dX7_breakingWithout_1 : decode cX7_breakingWithout 1 = .ok (.ifCond .lt 9, 3) := by decide +kernel
theorem dX7_breakingWithout_4 : decode cX7_breakingWithout 4 = .ok (.iload_n 1, 1) := by decide +kernel
theorem dX7_breakingWithout_5 : decode cX7_breakingWithout 5 = .ok (.bipush 8, 2) := by decide +kernel
theorem dX7_breakingWithout_7 : decode cX7_breakingWithout 7 = .ok (.if_icmp .lt 8, 3) := by decide +kernel
theorem dX7_breakingWithout_10 : decode cX7_breakingWithout 10 = .ok (.aload_n 0, 1) := by decide +kernel
theorem dX7_breakingWithout_11 : decode cX7_breakingWithout 11 = .ok (.invokevirtual 72, 3) := by decide +kernel
theorem dX7_breakingWithout_14 : decode cX7_breakingWithout 14 = .ok (.ireturn, 1) := by decide +kernel
theorem dX7_breakingWithout_15 : decode cX7_breakingWithout 15 = .ok (.aload_n 0, 1) := by decide +kernel
theorem dX7_breakingWithout_16 : decode cX7_breakingWithout 16 = .ok (.getfield 15, 3) := by decide +kernel
theorem dX7_breakingWithout_19 : decode cX7_breakingWithout 19 = .ok (.iload_n 1, 1) := by decide +kernel
theorem dX7_breakingWithout_20 : decode cX7_breakingWithout 20 = .ok (.iaload, 1) := by decide +kernel
theorem dX7_breakingWithout_21 : decode cX7_breakingWithout 21 = .ok (.istore_n 2, 1) := by decide +kernel
theorem dX7_breakingWithout_22 : decode cX7_breakingWithout 22 = .ok (.aload_n 0, 1) := by decide +kernel
theorem dX7_breakingWithout_23 : decode cX7_breakingWithout 23 = .ok (.getfield 15, 3) := by decide +kernel
theorem dX7_breakingWithout_26 : decode cX7_breakingWithout 26 = .ok (.iload_n 1, 1) := by decide +kernel
theorem dX7_breakingWithout_27 : decode cX7_breakingWithout 27 = .ok (.bipush (-4), 2) := by decide +kernel
theorem dX7_breakingWithout_29 : decode cX7_breakingWithout 29 = .ok (.iastore, 1) := by decide +kernel
theorem dX7_breakingWithout_30 : decode cX7_breakingWithout 30 = .ok (.aload_n 0, 1) := by decide +kernel
theorem dX7_breakingWithout_31 : decode cX7_breakingWithout 31 = .ok (.invokevirtual 72, 3) := by decide +kernel
theorem dX7_breakingWithout_34 : decode cX7_breakingWithout 34 = .ok (.istore_n 3, 1) := by decide +kernel
theorem dX7_breakingWithout_35 : decode cX7_breakingWithout 35 = .ok (.aload_n 0, 1) := by decide +kernel
theorem dX7_breakingWithout_36 : decode cX7_breakingWithout 36 = .ok (.getfield 15, 3) := by decide +kernel
theorem dX7_breakingWithout_39 : decode cX7_breakingWithout 39 = .ok (.iload_n 1, 1) := by decide +kernel
theorem dX7_breakingWithout_40 : decode cX7_breakingWithout 40 = .ok (.iload_n 2, 1) := by decide +kernel
theorem dX7_breakingWithout_41 : decode cX7_breakingWithout 41 = .ok (.iastore, 1) := by decide +kernel
theorem dX7_breakingWithout_42 : decode cX7_breakingWithout 42 = .ok (.iload_n 3, 1) := by decide +kernel
theorem dX7_breakingWithout_43 : decode cX7_breakingWithout 43 = .ok (.ireturn, 1) := by decide +kernel
def f_C_breakingWithout_10 (N nx : Nat) (D : Dt) (P : Ft) (a0 : Nat) : Option (Int32 × Dt) :=
  (f_C_howManyBreak N nx D P a0).bind fun z1 =>
  some (z1, D)
def f_C_breakingWithout (N nx : Nat) (D : Dt) (P : Ft) (a0 : Nat) (i1 : Int32) : Option (Int32 × Dt) :=
  if kd nx a0 = 7 then
  if i1 < 0 then
    f_C_breakingWithout_10 N nx D P a0
  else
    if i1 < 8 then
      nn (P a0 2) fun q2 =>
      if ab nx q2 3 i1 = true then
      if ab nx q2 3 i1 = true then
      pas (upd2 D q2 i1.toNatClampNeg (-4)) fun D4 =>
      (f_C_howManyBreak N nx D4 P a0).bind fun z5 =>
      if ab nx q2 3 i1 = true then
      pas (upd2 D4 q2 i1.toNatClampNeg (D q2 i1.toNatClampNeg)) fun D6 =>
      some (z5, D6)
      else none
      else none
      else none
    else
      f_C_breakingWithout_10 N nx D P a0
  else none
theorem m_C_breakingWithout : MV yX7_breakingWithout cX7_breakingWithout 4 (some .int) 1 := ⟨mT 720 (by decide +kernel) rfl, mT 718 (by decide +kernel) rfl, mT 719 (by decide +kernel) rfl, mT 57 (by decide +kernel) rfl, by decide +kernel, by decide +kernel, by decide +kernel⟩
set_option maxHeartbeats 4000000 in
set_option maxRecDepth 100000 in
theorem c_C_breakingWithout (l : Launch) (cx : Cx) (nx N : Nat) (D : Dt) (P : Ft) (a0 : Nat) (i1 : Int32) (z : Int32 × Dt) (h : f_C_breakingWithout N nx D P a0 i1 = some z) : Ct l cx yX7_breakingWithout cX7_breakingWithout 4 (some .int) 4 [.ref (cx.2.2 + a0), .int i1] D P nx (some (.int z.1)) z.2 P := by
  refine x_met0 (by decide) (Nat.le_of_ble_eq_true rfl) ?_
  intro p e s m args below meth c X
  have X : XC p s m args meth c cx cX7_breakingWithout 4 (some .int) "HeartPins$Standing" "breakingWithout" := X
  refine XW.sub (lv' := [(0, .ref (cx.2.2 + a0)), (1, .int i1)]) [0, 1] rfl ?_
  unfold f_C_breakingWithout at h
  obtain ⟨hk0, h⟩ := grd h
  have hJ10 : ∀ (D : Dt), f_C_breakingWithout_10 N nx D P a0 = some z → XW p l e (rmk 4) s m args below meth c (MQ below (Qx cx (some (.int z.1)) z.2 P nx) args s 0 0 (AA cx)) cx 4 D P nx 0 0 10 [(0, .ref (cx.2.2 + a0))] [] := by
    intro D h
    unfold f_C_breakingWithout_10 at h
    refine x_aload_n (pc := 10) X dX7_breakingWithout_10 (i := 0) rfl 0 rfl ?_
    obtain ⟨z1, e1, h⟩ := bnds h
    refine x_callV (pc := 11) (As := []) (st := []) (st' := [.int z1]) X (c_C_howManyBreak l cx nx N D P _ z1 e1) dX7_breakingWithout_11 w_682 m_C_howManyBreak rfl hk0 (ci := 7) rfl rfl ⟨by decide, by decide⟩ ⟨Nat.zero_le _, Nat.zero_le _⟩ rfl (Nat.le_of_ble_eq_true rfl) rfl ?_
    obtain rfl := Option.some.inj h
    exact x_iret (pc := 14) X dX7_breakingWithout_14
  refine x_iload_n (pc := 0) X dX7_breakingWithout_0 (i := 1) rfl 1 rfl ?_
  refine x_if_lt (tgt := 10) (pc := 1) X dX7_breakingWithout_1 (by decide) (fun c8 => ?_) (fun c8 => ?_)
  · have h := ite_t c8 h
    exact XW.sub [0] rfl (hJ10 _ h)
  · have h := ite_f c8 h
    refine x_iload_n (pc := 4) X dX7_breakingWithout_4 (i := 1) rfl 1 rfl ?_
    refine x_bipush (v := 8) (pc := 5) X dX7_breakingWithout_5 (by decide) ?_
    refine x_icmp_lt (tgt := 15) (pc := 7) X dX7_breakingWithout_7 (by decide) (fun c7 => ?_) (fun c7 => ?_)
    · have h := ite_t c7 h
      refine x_aload_n (pc := 15) X dX7_breakingWithout_15 (i := 0) rfl 0 rfl ?_
      obtain ⟨q2, e2, h⟩ := nns h
      refine x_getr (ci := 7) (k := 2) (n := 5) (C := RX7) (T := TX7) (pc := 16) X dX7_breakingWithout_16 hk0 rfl (by decide) w_154 rfl e2 ?_
      refine x_iload_n (pc := 19) X dX7_breakingWithout_19 (i := 1) rfl 1 rfl ?_
      obtain ⟨g3, h⟩ := grd h
      refine x_iald (pc := 20) X dX7_breakingWithout_20 g3 ?_
      refine x_istore_n (lv' := [(2, .int (D q2 i1.toNatClampNeg)), (0, .ref (cx.2.2 + a0)), (1, .int i1)]) (pc := 21) X dX7_breakingWithout_21 (i := 2) rfl (by decide) rfl ?_
      refine x_aload_n (pc := 22) X dX7_breakingWithout_22 (i := 0) rfl 1 rfl ?_
      refine x_getr (ci := 7) (k := 2) (n := 5) (C := RX7) (T := TX7) (pc := 23) X dX7_breakingWithout_23 hk0 rfl (by decide) w_154 rfl e2 ?_
      refine x_iload_n (pc := 26) X dX7_breakingWithout_26 (i := 1) rfl 2 rfl ?_
      refine x_bipush (v := (-4)) (pc := 27) X dX7_breakingWithout_27 (by decide) ?_
      obtain ⟨g4, h⟩ := grd h
      obtain ⟨D4, w4, h⟩ := pass h
      refine x_iast (D' := D4) (pc := 29) X dX7_breakingWithout_29 g4 w4 ?_
      refine x_aload_n (pc := 30) X dX7_breakingWithout_30 (i := 0) rfl 1 rfl ?_
      obtain ⟨z5, e5, h⟩ := bnds h
      refine x_callV (pc := 31) (As := []) (st := []) (st' := [.int z5]) X (c_C_howManyBreak l cx nx N D4 P _ z5 e5) dX7_breakingWithout_31 w_682 m_C_howManyBreak rfl hk0 (ci := 7) rfl rfl ⟨by decide, by decide⟩ ⟨Nat.zero_le _, Nat.zero_le _⟩ rfl (Nat.le_of_ble_eq_true rfl) rfl ?_
      refine x_istore_n (lv' := [(3, .int z5), (2, .int (D q2 i1.toNatClampNeg)), (0, .ref (cx.2.2 + a0)), (1, .int i1)]) (pc := 34) X dX7_breakingWithout_34 (i := 3) rfl (by decide) rfl ?_
      refine x_aload_n (pc := 35) X dX7_breakingWithout_35 (i := 0) rfl 2 rfl ?_
      refine x_getr (ci := 7) (k := 2) (n := 5) (C := RX7) (T := TX7) (pc := 36) X dX7_breakingWithout_36 hk0 rfl (by decide) w_154 rfl e2 ?_
      refine x_iload_n (pc := 39) X dX7_breakingWithout_39 (i := 1) rfl 3 rfl ?_
      refine x_iload_n (pc := 40) X dX7_breakingWithout_40 (i := 2) rfl 1 rfl ?_
      obtain ⟨g6, h⟩ := grd h
      obtain ⟨D6, w6, h⟩ := pass h
      refine x_iast (D' := D6) (pc := 41) X dX7_breakingWithout_41 g6 w6 ?_
      refine x_iload_n (pc := 42) X dX7_breakingWithout_42 (i := 3) rfl 0 rfl ?_
      obtain rfl := Option.some.inj h
      exact x_iret (pc := 43) X dX7_breakingWithout_43
    · have h := ite_f c7 h
      exact XW.sub [0] rfl (hJ10 _ h)
theorem dX7_isFull_0 : decode cX7_isFull 0 = .ok (.aload_n 0, 1) := by decide +kernel
theorem dX7_isFull_1 : decode cX7_isFull 1 = .ok (.invokevirtual 75, 3) := by decide +kernel
theorem dX7_isFull_4 : decode cX7_isFull 4 = .ok (.aload_n 0, 1) := by decide +kernel
theorem dX7_isFull_5 : decode cX7_isFull 5 = .ok (.getfield 18, 3) := by decide +kernel
theorem dX7_isFull_8 : decode cX7_isFull 8 = .ok (.getfield 78, 3) := by decide +kernel
theorem dX7_isFull_11 : decode cX7_isFull 11 = .ok (.if_icmp .le 7, 3) := by decide +kernel
theorem dX7_isFull_14 : decode cX7_isFull 14 = .ok (.iconst 1, 1) := by decide +kernel
theorem dX7_isFull_15 : decode cX7_isFull 15 = .ok (.goto 4, 3) := by decide +kernel
theorem dX7_isFull_18 : decode cX7_isFull 18 = .ok (.iconst 0, 1) := by decide +kernel
theorem dX7_isFull_19 : decode cX7_isFull 19 = .ok (.ireturn, 1) := by decide +kernel
def f_C_isFull (N nx : Nat) (D : Dt) (P : Ft) (a0 : Nat) : Option Int32 :=
  if kd nx a0 = 7 then
  (f_C_heartSum N nx D P a0).bind fun z1 =>
  nn (P a0 0) fun q2 =>
  if kd nx q2 = 1 then
  if z1 ≤ D q2 6 then
    some 0
  else
    some 1
  else none
  else none
theorem m_C_isFull : MV yX7_isFull cX7_isFull 1 (some .boolean) 0 := ⟨mT 532 (by decide +kernel) rfl, mT 530 (by decide +kernel) rfl, mT 531 (by decide +kernel) rfl, mT 57 (by decide +kernel) rfl, by decide +kernel, by decide +kernel, by decide +kernel⟩
set_option maxHeartbeats 4000000 in
set_option maxRecDepth 100000 in
theorem c_C_isFull (l : Launch) (cx : Cx) (nx N : Nat) (D : Dt) (P : Ft) (a0 : Nat) (z : Int32) (h : f_C_isFull N nx D P a0 = some z) : Ct l cx yX7_isFull cX7_isFull 1 (some .boolean) 2 [.ref (cx.2.2 + a0)] D P nx (some (.int z)) D P := by
  refine x_met0 (by decide) (Nat.le_of_ble_eq_true rfl) ?_
  intro p e s m args below meth c X
  have X : XC p s m args meth c cx cX7_isFull 1 (some .boolean) "HeartPins$Standing" "isFull" := X
  refine XW.sub (lv' := [(0, .ref (cx.2.2 + a0))]) [0] rfl ?_
  unfold f_C_isFull at h
  obtain ⟨hk0, h⟩ := grd h
  refine x_aload_n (pc := 0) X dX7_isFull_0 (i := 0) rfl 0 rfl ?_
  obtain ⟨z1, e1, h⟩ := bnds h
  refine x_callV (pc := 1) (As := []) (st := []) (st' := [.int z1]) X (c_C_heartSum l cx nx N D P _ z1 e1) dX7_isFull_1 w_533 m_C_heartSum rfl hk0 (ci := 7) rfl rfl ⟨by decide, by decide⟩ ⟨Nat.zero_le _, Nat.zero_le _⟩ rfl (Nat.le_of_ble_eq_true rfl) rfl ?_
  refine x_aload_n (pc := 4) X dX7_isFull_4 (i := 0) rfl 0 rfl ?_
  obtain ⟨q2, e2, h⟩ := nns h
  refine x_getr (ci := 7) (k := 0) (n := 5) (C := RX7) (T := TX7) (pc := 5) X dX7_isFull_5 hk0 rfl (by decide) w_151 rfl e2 ?_
  obtain ⟨k3, h⟩ := grd h
  refine x_geti (ci := 1) (k := 6) (n := 9) (C := RX1) (T := TX1) (pc := 8) X dX7_isFull_8 k3 rfl (by decide) w_119 rfl ?_
  refine x_icmp_le (tgt := 18) (pc := 11) X dX7_isFull_11 (by decide) (fun c4 => ?_) (fun c4 => ?_)
  · have h := ite_t c4 h
    refine x_iconst (v := 0) (pc := 18) X dX7_isFull_18 (by decide) ?_
    obtain rfl := Option.some.inj h
    exact x_zret (pc := 19) X dX7_isFull_19 (Or.inl rfl)
  · have h := ite_f c4 h
    refine x_iconst (v := 1) (pc := 14) X dX7_isFull_14 (by decide) ?_
    refine x_goto (tgt := 19) (pc := 15) X dX7_isFull_15 (by decide) ?_
    obtain rfl := Option.some.inj h
    exact x_zret (pc := 19) X dX7_isFull_19 (Or.inr rfl)
theorem dX7_isAtDoor_0 : decode cX7_isAtDoor 0 = .ok (.aload_n 0, 1) := by decide +kernel
theorem dX7_isAtDoor_1 : decode cX7_isAtDoor 1 = .ok (.getfield 34, 3) := by decide +kernel
theorem dX7_isAtDoor_4 : decode cX7_isAtDoor 4 = .ok (.aload_n 0, 1) := by decide +kernel
theorem dX7_isAtDoor_5 : decode cX7_isAtDoor 5 = .ok (.getfield 18, 3) := by decide +kernel
theorem dX7_isAtDoor_8 : decode cX7_isAtDoor 8 = .ok (.getfield 81, 3) := by decide +kernel
theorem dX7_isAtDoor_11 : decode cX7_isAtDoor 11 = .ok (.if_icmp .lt 7, 3) := by decide +kernel
theorem dX7_isAtDoor_14 : decode cX7_isAtDoor 14 = .ok (.iconst 1, 1) := by decide +kernel
theorem dX7_isAtDoor_15 : decode cX7_isAtDoor 15 = .ok (.goto 4, 3) := by decide +kernel
theorem dX7_isAtDoor_18 : decode cX7_isAtDoor 18 = .ok (.iconst 0, 1) := by decide +kernel
theorem dX7_isAtDoor_19 : decode cX7_isAtDoor 19 = .ok (.ireturn, 1) := by decide +kernel
def f_C_isAtDoor (N nx : Nat) (D : Dt) (P : Ft) (a0 : Nat) : Option Int32 :=
  if kd nx a0 = 7 then
  nn (P a0 0) fun q1 =>
  if kd nx q1 = 1 then
  if D a0 3 < D q1 7 then
    some 0
  else
    some 1
  else none
  else none
theorem m_C_isAtDoor : MV yX7_isAtDoor cX7_isAtDoor 1 (some .boolean) 0 := ⟨mT 537 (by decide +kernel) rfl, mT 535 (by decide +kernel) rfl, mT 536 (by decide +kernel) rfl, mT 57 (by decide +kernel) rfl, by decide +kernel, by decide +kernel, by decide +kernel⟩
set_option maxHeartbeats 4000000 in
set_option maxRecDepth 100000 in
theorem c_C_isAtDoor (l : Launch) (cx : Cx) (nx N : Nat) (D : Dt) (P : Ft) (a0 : Nat) (z : Int32) (h : f_C_isAtDoor N nx D P a0 = some z) : Ct l cx yX7_isAtDoor cX7_isAtDoor 1 (some .boolean) 0 [.ref (cx.2.2 + a0)] D P nx (some (.int z)) D P := by
  refine x_met0 (by decide) (Nat.le_of_ble_eq_true rfl) ?_
  intro p e s m args below meth c X
  have X : XC p s m args meth c cx cX7_isAtDoor 1 (some .boolean) "HeartPins$Standing" "isAtDoor" := X
  refine XW.sub (lv' := [(0, .ref (cx.2.2 + a0))]) [0] rfl ?_
  unfold f_C_isAtDoor at h
  obtain ⟨hk0, h⟩ := grd h
  refine x_aload_n (pc := 0) X dX7_isAtDoor_0 (i := 0) rfl 0 rfl ?_
  refine x_geti (ci := 7) (k := 3) (n := 5) (C := RX7) (T := TX7) (pc := 1) X dX7_isAtDoor_1 hk0 rfl (by decide) w_155 rfl ?_
  refine x_aload_n (pc := 4) X dX7_isAtDoor_4 (i := 0) rfl 0 rfl ?_
  obtain ⟨q1, e1, h⟩ := nns h
  refine x_getr (ci := 7) (k := 0) (n := 5) (C := RX7) (T := TX7) (pc := 5) X dX7_isAtDoor_5 hk0 rfl (by decide) w_151 rfl e1 ?_
  obtain ⟨k2, h⟩ := grd h
  refine x_geti (ci := 1) (k := 7) (n := 9) (C := RX1) (T := TX1) (pc := 8) X dX7_isAtDoor_8 k2 rfl (by decide) w_122 rfl ?_
  refine x_icmp_lt (tgt := 18) (pc := 11) X dX7_isAtDoor_11 (by decide) (fun c3 => ?_) (fun c3 => ?_)
  · have h := ite_t c3 h
    refine x_iconst (v := 0) (pc := 18) X dX7_isAtDoor_18 (by decide) ?_
    obtain rfl := Option.some.inj h
    exact x_zret (pc := 19) X dX7_isAtDoor_19 (Or.inl rfl)
  · have h := ite_f c3 h
    refine x_iconst (v := 1) (pc := 14) X dX7_isAtDoor_14 (by decide) ?_
    refine x_goto (tgt := 19) (pc := 15) X dX7_isAtDoor_15 (by decide) ?_
    obtain rfl := Option.some.inj h
    exact x_zret (pc := 19) X dX7_isAtDoor_19 (Or.inr rfl)
theorem dX7_isCalm_0 : decode cX7_isCalm 0 = .ok (.aload_n 0, 1) := by decide +kernel
theorem dX7_isCalm_1 : decode cX7_isCalm 1 = .ok (.invokevirtual 84, 3) := by decide +kernel
theorem dX7_isCalm_4 : decode cX7_isCalm 4 = .ok (.ifCond .ne 14, 3) := by decide +kernel
theorem dX7_isCalm_7 : decode cX7_isCalm 7 = .ok (.aload_n 0, 1) := by decide +kernel
theorem dX7_isCalm_8 : decode cX7_isCalm 8 = .ok (.invokevirtual 72, 3) := by decide +kernel
theorem dX7_isCalm_11 : decode cX7_isCalm 11 = .ok (.ifCond .ne 7, 3) := by decide +kernel
theorem dX7_isCalm_14 : decode cX7_isCalm 14 = .ok (.iconst 1, 1) := by decide +kernel
theorem dX7_isCalm_15 : decode cX7_isCalm 15 = .ok (.goto 4, 3) := by decide +kernel
theorem dX7_isCalm_18 : decode cX7_isCalm 18 = .ok (.iconst 0, 1) := by decide +kernel
theorem dX7_isCalm_19 : decode cX7_isCalm 19 = .ok (.ireturn, 1) := by decide +kernel
def f_C_isCalm (N nx : Nat) (D : Dt) (P : Ft) (a0 : Nat) : Option Int32 :=
  if kd nx a0 = 7 then
  (f_C_isAtDoor N nx D P a0).bind fun z1 =>
  if z1 = 0 then
    (f_C_howManyBreak N nx D P a0).bind fun z2 =>
    if z2 = 0 then
      some 1
    else
      some 0
  else
    some 0
  else none
theorem m_C_isCalm : MV yX7_isCalm cX7_isCalm 1 (some .boolean) 0 := ⟨mT 681 (by decide +kernel) rfl, mT 679 (by decide +kernel) rfl, mT 680 (by decide +kernel) rfl, mT 57 (by decide +kernel) rfl, by decide +kernel, by decide +kernel, by decide +kernel⟩
set_option maxHeartbeats 4000000 in
set_option maxRecDepth 100000 in
theorem c_C_isCalm (l : Launch) (cx : Cx) (nx N : Nat) (D : Dt) (P : Ft) (a0 : Nat) (z : Int32) (h : f_C_isCalm N nx D P a0 = some z) : Ct l cx yX7_isCalm cX7_isCalm 1 (some .boolean) 4 [.ref (cx.2.2 + a0)] D P nx (some (.int z)) D P := by
  refine x_met0 (by decide) (Nat.le_of_ble_eq_true rfl) ?_
  intro p e s m args below meth c X
  have X : XC p s m args meth c cx cX7_isCalm 1 (some .boolean) "HeartPins$Standing" "isCalm" := X
  refine XW.sub (lv' := [(0, .ref (cx.2.2 + a0))]) [0] rfl ?_
  unfold f_C_isCalm at h
  obtain ⟨hk0, h⟩ := grd h
  refine x_aload_n (pc := 0) X dX7_isCalm_0 (i := 0) rfl 0 rfl ?_
  obtain ⟨z1, e1, h⟩ := bnds h
  refine x_callV (pc := 1) (As := []) (st := []) (st' := [.int z1]) X (c_C_isAtDoor l cx nx N D P _ z1 e1) dX7_isCalm_1 w_547 m_C_isAtDoor rfl hk0 (ci := 7) rfl rfl ⟨by decide, by decide⟩ ⟨Nat.zero_le _, Nat.zero_le _⟩ rfl (Nat.le_of_ble_eq_true rfl) rfl ?_
  refine x_if_ne (tgt := 18) (pc := 4) X dX7_isCalm_4 (by decide) (fun c4 => ?_) (fun c4 => ?_)
  · have h := ite_f c4 h
    refine x_iconst (v := 0) (pc := 18) X dX7_isCalm_18 (by decide) ?_
    obtain rfl := Option.some.inj h
    exact x_zret (pc := 19) X dX7_isCalm_19 (Or.inl rfl)
  · have h := ite_t c4 h
    refine x_aload_n (pc := 7) X dX7_isCalm_7 (i := 0) rfl 0 rfl ?_
    obtain ⟨z2, e2, h⟩ := bnds h
    refine x_callV (pc := 8) (As := []) (st := []) (st' := [.int z2]) X (c_C_howManyBreak l cx nx N D P _ z2 e2) dX7_isCalm_8 w_682 m_C_howManyBreak rfl hk0 (ci := 7) rfl rfl ⟨by decide, by decide⟩ ⟨Nat.zero_le _, Nat.zero_le _⟩ rfl (Nat.le_of_ble_eq_true rfl) rfl ?_
    refine x_if_ne (tgt := 18) (pc := 11) X dX7_isCalm_11 (by decide) (fun c3 => ?_) (fun c3 => ?_)
    · have h := ite_f c3 h
      refine x_iconst (v := 0) (pc := 18) X dX7_isCalm_18 (by decide) ?_
      obtain rfl := Option.some.inj h
      exact x_zret (pc := 19) X dX7_isCalm_19 (Or.inl rfl)
    · have h := ite_t c3 h
      refine x_iconst (v := 1) (pc := 14) X dX7_isCalm_14 (by decide) ?_
      refine x_goto (tgt := 19) (pc := 15) X dX7_isCalm_15 (by decide) ?_
      obtain rfl := Option.some.inj h
      exact x_zret (pc := 19) X dX7_isCalm_19 (Or.inr rfl)
theorem dX7_canStick_0 : decode cX7_canStick 0 = .ok (.aload_n 0, 1) := by decide +kernel
theorem dX7_canStick_1 : decode cX7_canStick 1 = .ok (.iload_n 1, 1) := by decide +kernel
theorem dX7_canStick_2 : decode cX7_canStick 2 = .ok (.invokevirtual 41, 3) := by decide +kernel
theorem dX7_canStick_5 : decode cX7_canStick 5 = .ok (.ifCond .lt 14, 3) := by decide +kernel
theorem dX7_canStick_8 : decode cX7_canStick 8 = .ok (.aload_n 0, 1) := by decide +kernel
theorem dX7_canStick_9 : decode cX7_canStick 9 = .ok (.invokevirtual 84, 3) := by decide +kernel
theorem dX7_canStick_12 : decode cX7_canStick 12 = .ok (.ifCond .ne 7, 3) := by decide +kernel
theorem dX7_canStick_15 : decode cX7_canStick 15 = .ok (.iconst 1, 1) := by decide +kernel
theorem dX7_canStick_16 : decode cX7_canStick 16 = .ok (.goto 4, 3) := by decide +kernel
theorem dX7_canStick_19 : decode cX7_canStick 19 = .ok (.iconst 0, 1) := by decide +kernel
theorem dX7_canStick_20 : decode cX7_canStick 20 = .ok (.ireturn, 1) := by decide +kernel
def f_C_canStick (N nx : Nat) (D : Dt) (P : Ft) (a0 : Nat) (i1 : Int32) : Option Int32 :=
  if kd nx a0 = 7 then
  (f_C_whereIs N nx D P a0 i1).bind fun z1 =>
  if z1 < 0 then
    some 0
  else
    (f_C_isAtDoor N nx D P a0).bind fun z2 =>
    if z2 = 0 then
      some 1
    else
      some 0
  else none
theorem m_C_canStick : MV yX7_canStick cX7_canStick 2 (some .boolean) 1 := ⟨mT 545 (by decide +kernel) rfl, mT 543 (by decide +kernel) rfl, mT 544 (by decide +kernel) rfl, mT 57 (by decide +kernel) rfl, by decide +kernel, by decide +kernel, by decide +kernel⟩
set_option maxHeartbeats 4000000 in
set_option maxRecDepth 100000 in
theorem c_C_canStick (l : Launch) (cx : Cx) (nx N : Nat) (D : Dt) (P : Ft) (a0 : Nat) (i1 : Int32) (z : Int32) (h : f_C_canStick N nx D P a0 i1 = some z) : Ct l cx yX7_canStick cX7_canStick 2 (some .boolean) 1 [.ref (cx.2.2 + a0), .int i1] D P nx (some (.int z)) D P := by
  refine x_met0 (by decide) (Nat.le_of_ble_eq_true rfl) ?_
  intro p e s m args below meth c X
  have X : XC p s m args meth c cx cX7_canStick 2 (some .boolean) "HeartPins$Standing" "canStick" := X
  refine XW.sub (lv' := [(0, .ref (cx.2.2 + a0)), (1, .int i1)]) [0, 1] rfl ?_
  unfold f_C_canStick at h
  obtain ⟨hk0, h⟩ := grd h
  refine x_aload_n (pc := 0) X dX7_canStick_0 (i := 0) rfl 0 rfl ?_
  refine x_iload_n (pc := 1) X dX7_canStick_1 (i := 1) rfl 1 rfl ?_
  obtain ⟨z1, e1, h⟩ := bnds h
  refine x_callV (pc := 2) (As := [.int i1]) (st := []) (st' := [.int z1]) X (c_C_whereIs l cx nx N D P _ _ z1 e1) dX7_canStick_2 w_546 m_C_whereIs rfl hk0 (ci := 7) rfl rfl ⟨by decide, by decide⟩ ⟨Nat.zero_le _, Nat.zero_le _⟩ rfl (Nat.le_of_ble_eq_true rfl) rfl ?_
  refine x_if_lt (tgt := 19) (pc := 5) X dX7_canStick_5 (by decide) (fun c4 => ?_) (fun c4 => ?_)
  · have h := ite_t c4 h
    refine x_iconst (v := 0) (pc := 19) X dX7_canStick_19 (by decide) ?_
    obtain rfl := Option.some.inj h
    exact x_zret (pc := 20) X dX7_canStick_20 (Or.inl rfl)
  · have h := ite_f c4 h
    refine x_aload_n (pc := 8) X dX7_canStick_8 (i := 0) rfl 0 rfl ?_
    obtain ⟨z2, e2, h⟩ := bnds h
    refine x_callV (pc := 9) (As := []) (st := []) (st' := [.int z2]) X (c_C_isAtDoor l cx nx N D P _ z2 e2) dX7_canStick_9 w_547 m_C_isAtDoor rfl hk0 (ci := 7) rfl rfl ⟨by decide, by decide⟩ ⟨Nat.zero_le _, Nat.zero_le _⟩ rfl (Nat.le_of_ble_eq_true rfl) rfl ?_
    refine x_if_ne (tgt := 19) (pc := 12) X dX7_canStick_12 (by decide) (fun c3 => ?_) (fun c3 => ?_)
    · have h := ite_f c3 h
      refine x_iconst (v := 0) (pc := 19) X dX7_canStick_19 (by decide) ?_
      obtain rfl := Option.some.inj h
      exact x_zret (pc := 20) X dX7_canStick_20 (Or.inl rfl)
    · have h := ite_t c3 h
      refine x_iconst (v := 1) (pc := 15) X dX7_canStick_15 (by decide) ?_
      refine x_goto (tgt := 20) (pc := 16) X dX7_canStick_16 (by decide) ?_
      obtain rfl := Option.some.inj h
      exact x_zret (pc := 20) X dX7_canStick_20 (Or.inr rfl)
theorem dX7_canFeel_0 : decode cX7_canFeel 0 = .ok (.aload_n 0, 1) := by decide +kernel
theorem dX7_canFeel_1 : decode cX7_canFeel 1 = .ok (.iload_n 1, 1) := by decide +kernel
theorem dX7_canFeel_2 : decode cX7_canFeel 2 = .ok (.invokevirtual 41, 3) := by decide +kernel
theorem dX7_canFeel_5 : decode cX7_canFeel 5 = .ok (.iconst (-1), 1) := by decide +kernel
theorem dX7_canFeel_6 : decode cX7_canFeel 6 = .ok (.if_icmp .ne 7, 3) := by decide +kernel
theorem dX7_canFeel_9 : decode cX7_canFeel 9 = .ok (.iconst 1, 1) := by decide +kernel
theorem dX7_canFeel_10 : decode cX7_canFeel 10 = .ok (.goto 4, 3) := by decide +kernel
theorem dX7_canFeel_13 : decode cX7_canFeel 13 = .ok (.iconst 0, 1) := by decide +kernel
theorem dX7_canFeel_14 : decode cX7_canFeel 14 = .ok (.ireturn, 1) := by decide +kernel
def f_C_canFeel (N nx : Nat) (D : Dt) (P : Ft) (a0 : Nat) (i1 : Int32) : Option Int32 :=
  if kd nx a0 = 7 then
  (f_C_whereIs N nx D P a0 i1).bind fun z1 =>
  if z1 = (-1) then
    some 1
  else
    some 0
  else none
theorem m_C_canFeel : MV yX7_canFeel cX7_canFeel 2 (some .boolean) 1 := ⟨mT 576 (by decide +kernel) rfl, mT 574 (by decide +kernel) rfl, mT 575 (by decide +kernel) rfl, mT 57 (by decide +kernel) rfl, by decide +kernel, by decide +kernel, by decide +kernel⟩
set_option maxHeartbeats 4000000 in
set_option maxRecDepth 100000 in
theorem c_C_canFeel (l : Launch) (cx : Cx) (nx N : Nat) (D : Dt) (P : Ft) (a0 : Nat) (i1 : Int32) (z : Int32) (h : f_C_canFeel N nx D P a0 i1 = some z) : Ct l cx yX7_canFeel cX7_canFeel 2 (some .boolean) 1 [.ref (cx.2.2 + a0), .int i1] D P nx (some (.int z)) D P := by
  refine x_met0 (by decide) (Nat.le_of_ble_eq_true rfl) ?_
  intro p e s m args below meth c X
  have X : XC p s m args meth c cx cX7_canFeel 2 (some .boolean) "HeartPins$Standing" "canFeel" := X
  refine XW.sub (lv' := [(0, .ref (cx.2.2 + a0)), (1, .int i1)]) [0, 1] rfl ?_
  unfold f_C_canFeel at h
  obtain ⟨hk0, h⟩ := grd h
  refine x_aload_n (pc := 0) X dX7_canFeel_0 (i := 0) rfl 0 rfl ?_
  refine x_iload_n (pc := 1) X dX7_canFeel_1 (i := 1) rfl 1 rfl ?_
  obtain ⟨z1, e1, h⟩ := bnds h
  refine x_callV (pc := 2) (As := [.int i1]) (st := []) (st' := [.int z1]) X (c_C_whereIs l cx nx N D P _ _ z1 e1) dX7_canFeel_2 w_546 m_C_whereIs rfl hk0 (ci := 7) rfl rfl ⟨by decide, by decide⟩ ⟨Nat.zero_le _, Nat.zero_le _⟩ rfl (Nat.le_of_ble_eq_true rfl) rfl ?_
  refine x_iconst (v := (-1)) (pc := 5) X dX7_canFeel_5 (by decide) ?_
  refine x_icmp_ne (tgt := 13) (pc := 6) X dX7_canFeel_6 (by decide) (fun c2 => ?_) (fun c2 => ?_)
  · have h := ite_f c2 h
    refine x_iconst (v := 0) (pc := 13) X dX7_canFeel_13 (by decide) ?_
    obtain rfl := Option.some.inj h
    exact x_zret (pc := 14) X dX7_canFeel_14 (Or.inl rfl)
  · have h := ite_t c2 h
    refine x_iconst (v := 1) (pc := 9) X dX7_canFeel_9 (by decide) ?_
    refine x_goto (tgt := 14) (pc := 10) X dX7_canFeel_10 (by decide) ?_
    obtain rfl := Option.some.inj h
    exact x_zret (pc := 14) X dX7_canFeel_14 (Or.inr rfl)
theorem dX7_canGive_0 : decode cX7_canGive 0 = .ok (.aload_n 0, 1) := by decide +kernel
theorem dX7_canGive_1 : decode cX7_canGive 1 = .ok (.iload_n 1, 1) := by decide +kernel
theorem dX7_canGive_2 : decode cX7_canGive 2 = .ok (.invokevirtual 41, 3) := by decide +kernel
theorem dX7_canGive_5 : decode cX7_canGive 5 = .ok (.ifCond .lt 17, 3) := by decide +kernel
theorem dX7_canGive_8 : decode cX7_canGive 8 = .ok (.aload_n 0, 1) := by decide +kernel
theorem dX7_canGive_9 : decode cX7_canGive 9 = .ok (.getfield 15, 3) := by decide +kernel
theorem dX7_canGive_12 : decode cX7_canGive 12 = .ok (.iload_n 1, 1) := by decide +kernel
theorem dX7_canGive_13 : decode cX7_canGive 13 = .ok (.iaload, 1) := by decide +kernel
theorem dX7_canGive_14 : decode cX7_canGive 14 = .ok (.iload_n 2, 1) := by decide +kernel
theorem dX7_canGive_15 : decode cX7_canGive 15 = .ok (.if_icmp .eq 7, 3) := by decide +kernel
theorem dX7_canGive_18 : decode cX7_canGive 18 = .ok (.iconst 1, 1) := by decide +kernel
theorem dX7_canGive_19 : decode cX7_canGive 19 = .ok (.goto 4, 3) := by decide +kernel
theorem dX7_canGive_22 : decode cX7_canGive 22 = .ok (.iconst 0, 1) := by decide +kernel
theorem dX7_canGive_23 : decode cX7_canGive 23 = .ok (.ireturn, 1) := by decide +kernel
def f_C_canGive (N nx : Nat) (D : Dt) (P : Ft) (a0 : Nat) (i1 : Int32) (i2 : Int32) : Option Int32 :=
  if kd nx a0 = 7 then
  (f_C_whereIs N nx D P a0 i1).bind fun z1 =>
  if z1 < 0 then
    some 0
  else
    nn (P a0 2) fun q2 =>
    if ab nx q2 3 i1 = true then
    if D q2 i1.toNatClampNeg = i2 then
      some 0
    else
      some 1
    else none
  else none
theorem m_C_canGive : MV yX7_canGive cX7_canGive 3 (some .boolean) 2 := ⟨mT 590 (by decide +kernel) rfl, mT 588 (by decide +kernel) rfl, mT 589 (by decide +kernel) rfl, mT 57 (by decide +kernel) rfl, by decide +kernel, by decide +kernel, by decide +kernel⟩
set_option maxHeartbeats 4000000 in
set_option maxRecDepth 100000 in
theorem c_C_canGive (l : Launch) (cx : Cx) (nx N : Nat) (D : Dt) (P : Ft) (a0 : Nat) (i1 : Int32) (i2 : Int32) (z : Int32) (h : f_C_canGive N nx D P a0 i1 i2 = some z) : Ct l cx yX7_canGive cX7_canGive 3 (some .boolean) 1 [.ref (cx.2.2 + a0), .int i1, .int i2] D P nx (some (.int z)) D P := by
  refine x_met0 (by decide) (Nat.le_of_ble_eq_true rfl) ?_
  intro p e s m args below meth c X
  have X : XC p s m args meth c cx cX7_canGive 3 (some .boolean) "HeartPins$Standing" "canGive" := X
  refine XW.sub (lv' := [(0, .ref (cx.2.2 + a0)), (1, .int i1), (2, .int i2)]) [0, 1, 2] rfl ?_
  unfold f_C_canGive at h
  obtain ⟨hk0, h⟩ := grd h
  refine x_aload_n (pc := 0) X dX7_canGive_0 (i := 0) rfl 0 rfl ?_
  refine x_iload_n (pc := 1) X dX7_canGive_1 (i := 1) rfl 1 rfl ?_
  obtain ⟨z1, e1, h⟩ := bnds h
  refine x_callV (pc := 2) (As := [.int i1]) (st := []) (st' := [.int z1]) X (c_C_whereIs l cx nx N D P _ _ z1 e1) dX7_canGive_2 w_546 m_C_whereIs rfl hk0 (ci := 7) rfl rfl ⟨by decide, by decide⟩ ⟨Nat.zero_le _, Nat.zero_le _⟩ rfl (Nat.le_of_ble_eq_true rfl) rfl ?_
  refine x_if_lt (tgt := 22) (pc := 5) X dX7_canGive_5 (by decide) (fun c5 => ?_) (fun c5 => ?_)
  · have h := ite_t c5 h
    refine x_iconst (v := 0) (pc := 22) X dX7_canGive_22 (by decide) ?_
    obtain rfl := Option.some.inj h
    exact x_zret (pc := 23) X dX7_canGive_23 (Or.inl rfl)
  · have h := ite_f c5 h
    refine x_aload_n (pc := 8) X dX7_canGive_8 (i := 0) rfl 0 rfl ?_
    obtain ⟨q2, e2, h⟩ := nns h
    refine x_getr (ci := 7) (k := 2) (n := 5) (C := RX7) (T := TX7) (pc := 9) X dX7_canGive_9 hk0 rfl (by decide) w_154 rfl e2 ?_
    refine x_iload_n (pc := 12) X dX7_canGive_12 (i := 1) rfl 1 rfl ?_
    obtain ⟨g3, h⟩ := grd h
    refine x_iald (pc := 13) X dX7_canGive_13 g3 ?_
    refine x_iload_n (pc := 14) X dX7_canGive_14 (i := 2) rfl 2 rfl ?_
    refine x_icmp_eq (tgt := 22) (pc := 15) X dX7_canGive_15 (by decide) (fun c4 => ?_) (fun c4 => ?_)
    · have h := ite_t c4 h
      refine x_iconst (v := 0) (pc := 22) X dX7_canGive_22 (by decide) ?_
      obtain rfl := Option.some.inj h
      exact x_zret (pc := 23) X dX7_canGive_23 (Or.inl rfl)
    · have h := ite_f c4 h
      refine x_iconst (v := 1) (pc := 18) X dX7_canGive_18 (by decide) ?_
      refine x_goto (tgt := 23) (pc := 19) X dX7_canGive_19 (by decide) ?_
      obtain rfl := Option.some.inj h
      exact x_zret (pc := 23) X dX7_canGive_23 (Or.inr rfl)
theorem dX7_stickIn_0 : decode cX7_stickIn 0 = .ok (.aload_n 0, 1) := by decide +kernel
theorem dX7_stickIn_1 : decode cX7_stickIn 1 = .ok (.iload_n 1, 1) := by decide +kernel
theorem dX7_stickIn_2 : decode cX7_stickIn 2 = .ok (.invokevirtual 88, 3) := by decide +kernel
theorem dX7_stickIn_5 : decode cX7_stickIn 5 = .ok (.ifCond .eq 10, 3) := by decide +kernel
theorem dX7_stickIn_8 : decode cX7_stickIn 8 = .ok (.aload_n 0, 1) := by decide +kernel
theorem dX7_stickIn_9 : decode cX7_stickIn 9 = .ok (.getfield 15, 3) := by decide +kernel
theorem dX7_stickIn_12 : decode cX7_stickIn 12 = .ok (.iload_n 1, 1) := by decide +kernel
theorem dX7_stickIn_13 : decode cX7_stickIn 13 = .ok (.iconst (-1), 1) := by decide +kernel
theorem dX7_stickIn_14 : decode cX7_stickIn 14 = .ok (.iastore, 1) := by decide +kernel
theorem dX7_stickIn_15 : decode cX7_stickIn 15 = .ok (.return_, 1) := by decide +kernel
def f_C_stickIn (N nx : Nat) (D : Dt) (P : Ft) (a0 : Nat) (i1 : Int32) : Option Dt :=
  if kd nx a0 = 7 then
  (f_C_canStick N nx D P a0 i1).bind fun z1 =>
  if z1 = 0 then
    some D
  else
    nn (P a0 2) fun q2 =>
    if ab nx q2 3 i1 = true then
    pas (upd2 D q2 i1.toNatClampNeg (-1)) fun D3 =>
    some D3
    else none
  else none
theorem m_C_stickIn : MV yX7_stickIn cX7_stickIn 2 none 1 := ⟨mT 567 (by decide +kernel) rfl, mT 565 (by decide +kernel) rfl, mT 566 (by decide +kernel) rfl, mT 57 (by decide +kernel) rfl, by decide +kernel, by decide +kernel, by decide +kernel⟩
set_option maxHeartbeats 4000000 in
set_option maxRecDepth 100000 in
theorem c_C_stickIn (l : Launch) (cx : Cx) (nx N : Nat) (D : Dt) (P : Ft) (a0 : Nat) (i1 : Int32) (z : Dt) (h : f_C_stickIn N nx D P a0 i1 = some z) : Ct l cx yX7_stickIn cX7_stickIn 2 none 2 [.ref (cx.2.2 + a0), .int i1] D P nx none z P := by
  refine x_met0 (by decide) (Nat.le_of_ble_eq_true rfl) ?_
  intro p e s m args below meth c X
  have X : XC p s m args meth c cx cX7_stickIn 2 none "HeartPins$Standing" "stickIn" := X
  refine XW.sub (lv' := [(0, .ref (cx.2.2 + a0)), (1, .int i1)]) [0, 1] rfl ?_
  unfold f_C_stickIn at h
  obtain ⟨hk0, h⟩ := grd h
  refine x_aload_n (pc := 0) X dX7_stickIn_0 (i := 0) rfl 0 rfl ?_
  refine x_iload_n (pc := 1) X dX7_stickIn_1 (i := 1) rfl 1 rfl ?_
  obtain ⟨z1, e1, h⟩ := bnds h
  refine x_callV (pc := 2) (As := [.int i1]) (st := []) (st' := [.int z1]) X (c_C_canStick l cx nx N D P _ _ z1 e1) dX7_stickIn_2 w_568 m_C_canStick rfl hk0 (ci := 7) rfl rfl ⟨by decide, by decide⟩ ⟨Nat.zero_le _, Nat.zero_le _⟩ rfl (Nat.le_of_ble_eq_true rfl) rfl ?_
  refine x_if_eq (tgt := 15) (pc := 5) X dX7_stickIn_5 (by decide) (fun c4 => ?_) (fun c4 => ?_)
  · have h := ite_t c4 h
    obtain rfl := Option.some.inj h
    exact x_vret (pc := 15) X dX7_stickIn_15
  · have h := ite_f c4 h
    refine x_aload_n (pc := 8) X dX7_stickIn_8 (i := 0) rfl 0 rfl ?_
    obtain ⟨q2, e2, h⟩ := nns h
    refine x_getr (ci := 7) (k := 2) (n := 5) (C := RX7) (T := TX7) (pc := 9) X dX7_stickIn_9 hk0 rfl (by decide) w_154 rfl e2 ?_
    refine x_iload_n (pc := 12) X dX7_stickIn_12 (i := 1) rfl 1 rfl ?_
    refine x_iconst (v := (-1)) (pc := 13) X dX7_stickIn_13 (by decide) ?_
    obtain ⟨g3, h⟩ := grd h
    obtain ⟨D3, w3, h⟩ := pass h
    refine x_iast (D' := D3) (pc := 14) X dX7_stickIn_14 g3 w3 ?_
    obtain rfl := Option.some.inj h
    exact x_vret (pc := 15) X dX7_stickIn_15
theorem dX7_feelFor_0 : decode cX7_feelFor 0 = .ok (.aload_n 0, 1) := by decide +kernel
theorem dX7_feelFor_1 : decode cX7_feelFor 1 = .ok (.iload_n 1, 1) := by decide +kernel
theorem dX7_feelFor_2 : decode cX7_feelFor 2 = .ok (.invokevirtual 91, 3) := by decide +kernel
theorem dX7_feelFor_5 : decode cX7_feelFor 5 = .ok (.ifCond .eq 21, 3) := by decide +kernel
theorem dX7_feelFor_8 : decode cX7_feelFor 8 = .ok (.aload_n 0, 1) := by decide +kernel
theorem dX7_feelFor_9 : decode cX7_feelFor 9 = .ok (.getfield 18, 3) := by decide +kernel
theorem dX7_feelFor_12 : decode cX7_feelFor 12 = .ok (.iload_n 2, 1) := by decide +kernel
theorem dX7_feelFor_13 : decode cX7_feelFor 13 = .ok (.invokevirtual 94, 3) := by decide +kernel
theorem dX7_feelFor_16 : decode cX7_feelFor 16 = .ok (.ifCond .eq 10, 3) := by decide +kernel
theorem dX7_feelFor_19 : decode cX7_feelFor 19 = .ok (.aload_n 0, 1) := by decide +kernel
theorem dX7_feelFor_20 : decode cX7_feelFor 20 = .ok (.getfield 15, 3) := by decide +kernel
theorem dX7_feelFor_23 : decode cX7_feelFor 23 = .ok (.iload_n 1, 1) := by decide +kernel
theorem dX7_feelFor_24 : decode cX7_feelFor 24 = .ok (.iload_n 2, 1) := by decide +kernel
theorem dX7_feelFor_25 : decode cX7_feelFor 25 = .ok (.iastore, 1) := by decide +kernel
theorem dX7_feelFor_26 : decode cX7_feelFor 26 = .ok (.return_, 1) := by decide +kernel
def f_C_feelFor (N nx : Nat) (D : Dt) (P : Ft) (a0 : Nat) (i1 : Int32) (i2 : Int32) : Option Dt :=
  if kd nx a0 = 7 then
  (f_C_canFeel N nx D P a0 i1).bind fun z1 =>
  if z1 = 0 then
    some D
  else
    nn (P a0 0) fun q2 =>
    if kd nx q2 = 1 then
    (f_F_hasPerson N nx D P q2 i2).bind fun z3 =>
    if z3 = 0 then
      some D
    else
      nn (P a0 2) fun q5 =>
      if ab nx q5 3 i1 = true then
      pas (upd2 D q5 i1.toNatClampNeg i2) fun D6 =>
      some D6
      else none
    else none
  else none
theorem m_C_feelFor : MV yX7_feelFor cX7_feelFor 3 none 2 := ⟨mT 580 (by decide +kernel) rfl, mT 578 (by decide +kernel) rfl, mT 579 (by decide +kernel) rfl, mT 57 (by decide +kernel) rfl, by decide +kernel, by decide +kernel, by decide +kernel⟩
set_option maxHeartbeats 4000000 in
set_option maxRecDepth 100000 in
theorem c_C_feelFor (l : Launch) (cx : Cx) (nx N : Nat) (D : Dt) (P : Ft) (a0 : Nat) (i1 : Int32) (i2 : Int32) (z : Dt) (h : f_C_feelFor N nx D P a0 i1 i2 = some z) : Ct l cx yX7_feelFor cX7_feelFor 3 none 2 [.ref (cx.2.2 + a0), .int i1, .int i2] D P nx none z P := by
  refine x_met0 (by decide) (Nat.le_of_ble_eq_true rfl) ?_
  intro p e s m args below meth c X
  have X : XC p s m args meth c cx cX7_feelFor 3 none "HeartPins$Standing" "feelFor" := X
  refine XW.sub (lv' := [(0, .ref (cx.2.2 + a0)), (1, .int i1), (2, .int i2)]) [0, 1, 2] rfl ?_
  unfold f_C_feelFor at h
  obtain ⟨hk0, h⟩ := grd h
  refine x_aload_n (pc := 0) X dX7_feelFor_0 (i := 0) rfl 0 rfl ?_
  refine x_iload_n (pc := 1) X dX7_feelFor_1 (i := 1) rfl 1 rfl ?_
  obtain ⟨z1, e1, h⟩ := bnds h
  refine x_callV (pc := 2) (As := [.int i1]) (st := []) (st' := [.int z1]) X (c_C_canFeel l cx nx N D P _ _ z1 e1) dX7_feelFor_2 w_581 m_C_canFeel rfl hk0 (ci := 7) rfl rfl ⟨by decide, by decide⟩ ⟨Nat.zero_le _, Nat.zero_le _⟩ rfl (Nat.le_of_ble_eq_true rfl) rfl ?_
  refine x_if_eq (tgt := 26) (pc := 5) X dX7_feelFor_5 (by decide) (fun c8 => ?_) (fun c8 => ?_)
  · have h := ite_t c8 h
    obtain rfl := Option.some.inj h
    exact x_vret (pc := 26) X dX7_feelFor_26
  · have h := ite_f c8 h
    refine x_aload_n (pc := 8) X dX7_feelFor_8 (i := 0) rfl 0 rfl ?_
    obtain ⟨q2, e2, h⟩ := nns h
    refine x_getr (ci := 7) (k := 0) (n := 5) (C := RX7) (T := TX7) (pc := 9) X dX7_feelFor_9 hk0 rfl (by decide) w_151 rfl e2 ?_
    refine x_iload_n (pc := 12) X dX7_feelFor_12 (i := 2) rfl 2 rfl ?_
    obtain ⟨k4, h⟩ := grd h
    obtain ⟨z3, e3, h⟩ := bnds h
    refine x_callV (pc := 13) (As := [.int i2]) (st := []) (st' := [.int z3]) X (c_F_hasPerson l cx nx N D P _ _ z3 e3) dX7_feelFor_13 w_582 m_F_hasPerson rfl k4 (ci := 1) rfl rfl ⟨by decide, by decide⟩ ⟨Nat.zero_le _, Nat.zero_le _⟩ rfl (Nat.le_of_ble_eq_true rfl) rfl ?_
    refine x_if_eq (tgt := 26) (pc := 16) X dX7_feelFor_16 (by decide) (fun c7 => ?_) (fun c7 => ?_)
    · have h := ite_t c7 h
      obtain rfl := Option.some.inj h
      exact x_vret (pc := 26) X dX7_feelFor_26
    · have h := ite_f c7 h
      refine x_aload_n (pc := 19) X dX7_feelFor_19 (i := 0) rfl 0 rfl ?_
      obtain ⟨q5, e5, h⟩ := nns h
      refine x_getr (ci := 7) (k := 2) (n := 5) (C := RX7) (T := TX7) (pc := 20) X dX7_feelFor_20 hk0 rfl (by decide) w_154 rfl e5 ?_
      refine x_iload_n (pc := 23) X dX7_feelFor_23 (i := 1) rfl 1 rfl ?_
      refine x_iload_n (pc := 24) X dX7_feelFor_24 (i := 2) rfl 2 rfl ?_
      obtain ⟨g6, h⟩ := grd h
      obtain ⟨D6, w6, h⟩ := pass h
      refine x_iast (D' := D6) (pc := 25) X dX7_feelFor_25 g6 w6 ?_
      obtain rfl := Option.some.inj h
      exact x_vret (pc := 26) X dX7_feelFor_26
theorem dX7_giveTo_0 : decode cX7_giveTo 0 = .ok (.aload_n 0, 1) := by decide +kernel
theorem dX7_giveTo_1 : decode cX7_giveTo 1 = .ok (.iload_n 1, 1) := by decide +kernel
theorem dX7_giveTo_2 : decode cX7_giveTo 2 = .ok (.iload_n 2, 1) := by decide +kernel
theorem dX7_giveTo_3 : decode cX7_giveTo 3 = .ok (.invokevirtual 97, 3) := by decide +kernel
theorem dX7_giveTo_6 : decode cX7_giveTo 6 = .ok (.ifCond .eq 21, 3) := by decide +kernel
theorem dX7_giveTo_9 : decode cX7_giveTo 9 = .ok (.aload_n 0, 1) := by decide +kernel
theorem dX7_giveTo_10 : decode cX7_giveTo 10 = .ok (.getfield 18, 3) := by decide +kernel
theorem dX7_giveTo_13 : decode cX7_giveTo 13 = .ok (.iload_n 2, 1) := by decide +kernel
theorem dX7_giveTo_14 : decode cX7_giveTo 14 = .ok (.invokevirtual 94, 3) := by decide +kernel
theorem dX7_giveTo_17 : decode cX7_giveTo 17 = .ok (.ifCond .eq 10, 3) := by decide +kernel
theorem dX7_giveTo_20 : decode cX7_giveTo 20 = .ok (.aload_n 0, 1) := by decide +kernel
theorem dX7_giveTo_21 : decode cX7_giveTo 21 = .ok (.getfield 15, 3) := by decide +kernel
theorem dX7_giveTo_24 : decode cX7_giveTo 24 = .ok (.iload_n 1, 1) := by decide +kernel
theorem dX7_giveTo_25 : decode cX7_giveTo 25 = .ok (.iload_n 2, 1) := by decide +kernel
theorem dX7_giveTo_26 : decode cX7_giveTo 26 = .ok (.iastore, 1) := by decide +kernel
theorem dX7_giveTo_27 : decode cX7_giveTo 27 = .ok (.return_, 1) := by decide +kernel
def f_C_giveTo (N nx : Nat) (D : Dt) (P : Ft) (a0 : Nat) (i1 : Int32) (i2 : Int32) : Option Dt :=
  if kd nx a0 = 7 then
  (f_C_canGive N nx D P a0 i1 i2).bind fun z1 =>
  if z1 = 0 then
    some D
  else
    nn (P a0 0) fun q2 =>
    if kd nx q2 = 1 then
    (f_F_hasPerson N nx D P q2 i2).bind fun z3 =>
    if z3 = 0 then
      some D
    else
      nn (P a0 2) fun q5 =>
      if ab nx q5 3 i1 = true then
      pas (upd2 D q5 i1.toNatClampNeg i2) fun D6 =>
      some D6
      else none
    else none
  else none
theorem m_C_giveTo : MV yX7_giveTo cX7_giveTo 3 none 2 := ⟨mT 594 (by decide +kernel) rfl, mT 592 (by decide +kernel) rfl, mT 593 (by decide +kernel) rfl, mT 57 (by decide +kernel) rfl, by decide +kernel, by decide +kernel, by decide +kernel⟩
set_option maxHeartbeats 4000000 in
set_option maxRecDepth 100000 in
theorem c_C_giveTo (l : Launch) (cx : Cx) (nx N : Nat) (D : Dt) (P : Ft) (a0 : Nat) (i1 : Int32) (i2 : Int32) (z : Dt) (h : f_C_giveTo N nx D P a0 i1 i2 = some z) : Ct l cx yX7_giveTo cX7_giveTo 3 none 2 [.ref (cx.2.2 + a0), .int i1, .int i2] D P nx none z P := by
  refine x_met0 (by decide) (Nat.le_of_ble_eq_true rfl) ?_
  intro p e s m args below meth c X
  have X : XC p s m args meth c cx cX7_giveTo 3 none "HeartPins$Standing" "giveTo" := X
  refine XW.sub (lv' := [(0, .ref (cx.2.2 + a0)), (1, .int i1), (2, .int i2)]) [0, 1, 2] rfl ?_
  unfold f_C_giveTo at h
  obtain ⟨hk0, h⟩ := grd h
  refine x_aload_n (pc := 0) X dX7_giveTo_0 (i := 0) rfl 0 rfl ?_
  refine x_iload_n (pc := 1) X dX7_giveTo_1 (i := 1) rfl 1 rfl ?_
  refine x_iload_n (pc := 2) X dX7_giveTo_2 (i := 2) rfl 2 rfl ?_
  obtain ⟨z1, e1, h⟩ := bnds h
  refine x_callV (pc := 3) (As := [.int i1, .int i2]) (st := []) (st' := [.int z1]) X (c_C_canGive l cx nx N D P _ _ _ z1 e1) dX7_giveTo_3 w_595 m_C_canGive rfl hk0 (ci := 7) rfl rfl ⟨by decide, by decide⟩ ⟨Nat.zero_le _, Nat.zero_le _⟩ rfl (Nat.le_of_ble_eq_true rfl) rfl ?_
  refine x_if_eq (tgt := 27) (pc := 6) X dX7_giveTo_6 (by decide) (fun c8 => ?_) (fun c8 => ?_)
  · have h := ite_t c8 h
    obtain rfl := Option.some.inj h
    exact x_vret (pc := 27) X dX7_giveTo_27
  · have h := ite_f c8 h
    refine x_aload_n (pc := 9) X dX7_giveTo_9 (i := 0) rfl 0 rfl ?_
    obtain ⟨q2, e2, h⟩ := nns h
    refine x_getr (ci := 7) (k := 0) (n := 5) (C := RX7) (T := TX7) (pc := 10) X dX7_giveTo_10 hk0 rfl (by decide) w_151 rfl e2 ?_
    refine x_iload_n (pc := 13) X dX7_giveTo_13 (i := 2) rfl 2 rfl ?_
    obtain ⟨k4, h⟩ := grd h
    obtain ⟨z3, e3, h⟩ := bnds h
    refine x_callV (pc := 14) (As := [.int i2]) (st := []) (st' := [.int z3]) X (c_F_hasPerson l cx nx N D P _ _ z3 e3) dX7_giveTo_14 w_582 m_F_hasPerson rfl k4 (ci := 1) rfl rfl ⟨by decide, by decide⟩ ⟨Nat.zero_le _, Nat.zero_le _⟩ rfl (Nat.le_of_ble_eq_true rfl) rfl ?_
    refine x_if_eq (tgt := 27) (pc := 17) X dX7_giveTo_17 (by decide) (fun c7 => ?_) (fun c7 => ?_)
    · have h := ite_t c7 h
      obtain rfl := Option.some.inj h
      exact x_vret (pc := 27) X dX7_giveTo_27
    · have h := ite_f c7 h
      refine x_aload_n (pc := 20) X dX7_giveTo_20 (i := 0) rfl 0 rfl ?_
      obtain ⟨q5, e5, h⟩ := nns h
      refine x_getr (ci := 7) (k := 2) (n := 5) (C := RX7) (T := TX7) (pc := 21) X dX7_giveTo_21 hk0 rfl (by decide) w_154 rfl e5 ?_
      refine x_iload_n (pc := 24) X dX7_giveTo_24 (i := 1) rfl 1 rfl ?_
      refine x_iload_n (pc := 25) X dX7_giveTo_25 (i := 2) rfl 2 rfl ?_
      obtain ⟨g6, h⟩ := grd h
      obtain ⟨D6, w6, h⟩ := pass h
      refine x_iast (D' := D6) (pc := 26) X dX7_giveTo_26 g6 w6 ?_
      obtain rfl := Option.some.inj h
      exact x_vret (pc := 27) X dX7_giveTo_27
theorem dX7_growBorne_0 : decode cX7_growBorne 0 = .ok (.iconst 0, 1) := by decide +kernel
theorem dX7_growBorne_1 : decode cX7_growBorne 1 = .ok (.istore_n 1, 1) := by decide +kernel
theorem dX7_growBorne_2 : decode cX7_growBorne 2 = .ok (.iload_n 1, 1) := by decide +kernel
theorem dX7_growBorne_3 : decode cX7_growBorne 3 = .ok (.bipush 8, 2) := by decide +kernel
theorem dX7_growBorne_5 : decode cX7_growBorne 5 = .ok (.if_icmp .ge 37, 3) := by decide +kernel
theorem dX7_growBorne_8 : decode cX7_growBorne 8 = .ok (.aload_n 0, 1) := by decide +kernel
theorem dX7_growBorne_9 : decode cX7_growBorne 9 = .ok (.getfield 15, 3) := by decide +kernel
theorem dX7_growBorne_12 : decode cX7_growBorne 12 = .ok (.iload_n 1, 1) := by decide +kernel
theorem dX7_growBorne_13 : decode cX7_growBorne 13 = .ok (.iaload, 1) := by decide +kernel
theorem dX7_growBorne_14 : decode cX7_growBorne 14 = .ok (.ifCond .lt 22, 3) := by decide +kernel
theorem dX7_growBorne_17 : decode cX7_growBorne 17 = .ok (.aload_n 0, 1) := by decide +kernel
theorem dX7_growBorne_18 : decode cX7_growBorne 18 = .ok (.getfield 9, 3) := by decide +kernel
theorem dX7_growBorne_21 : decode cX7_growBorne 21 = .ok (.iload_n 1, 1) := by decide +kernel
theorem dX7_growBorne_22 : decode cX7_growBorne 22 = .ok (.bipush 40, 2) := by decide +kernel
theorem dX7_growBorne_24 : decode cX7_growBorne 24 = .ok (.aload_n 0, 1) := by decide +kernel
theorem dX7_growBorne_25 : decode cX7_growBorne 25 = .ok (.getfield 9, 3) := by decide +kernel
theorem dX7_growBorne_28 : decode cX7_growBorne 28 = .ok (.iload_n 1, 1) := by decide +kernel
theorem dX7_growBorne_29 : decode cX7_growBorne 29 = .ok (.iaload, 1) := by decide +kernel
theorem dX7_growBorne_30 : decode cX7_growBorne 30 = .ok (.iconst 1, 1) := by decide +kernel
theorem dX7_growBorne_31 : decode cX7_growBorne 31 = .ok (.iadd, 1) := by decide +kernel
theorem dX7_growBorne_32 : decode cX7_growBorne 32 = .ok (.invokestatic 101, 3) := by decide +kernel
theorem dX7_growBorne_35 : decode cX7_growBorne 35 = .ok (.iastore, 1) := by decide +kernel
theorem dX7_growBorne_36 : decode cX7_growBorne 36 = .ok (.iinc 1 1, 3) := by decide +kernel
theorem dX7_growBorne_39 : decode cX7_growBorne 39 = .ok (.goto (-37), 3) := by decide +kernel
theorem dX7_growBorne_42 : decode cX7_growBorne 42 = .ok (.return_, 1) := by decide +kernel
def f_C_growBorne_2 (N nx : Nat) (P : Ft) (a0 : Nat) (rec2 : Dt → Int32 → Option Dt) (D : Dt) (i1 : Int32) : Option Dt :=
  if 8 ≤ i1 then
    some D
  else
    nn (P a0 2) fun q1 =>
    if ab nx q1 3 i1 = true then
    if D q1 i1.toNatClampNeg < 0 then
      rec2 D (i1 + 1)
    else
      nn (P a0 1) fun q3 =>
      if ab nx q3 3 i1 = true then
      if ab nx q3 3 i1 = true then
      pas (upd2 D q3 i1.toNatClampNeg (if (D q3 i1.toNatClampNeg) + 1 < 40 then (D q3 i1.toNatClampNeg) + 1 else 40)) fun D5 =>
      rec2 D5 (i1 + 1)
      else none
      else none
    else none
def f_C_growBorne (N nx : Nat) (D : Dt) (P : Ft) (a0 : Nat) : Option Dt :=
  if kd nx a0 = 7 then
  wk2 N (f_C_growBorne_2 N nx P a0) D 0
  else none
theorem m_C_growBorne : MV yX7_growBorne cX7_growBorne 2 none 0 := ⟨mT 811 (by decide +kernel) rfl, mT 809 (by decide +kernel) rfl, mT 810 (by decide +kernel) rfl, mT 57 (by decide +kernel) rfl, by decide +kernel, by decide +kernel, by decide +kernel⟩
set_option maxHeartbeats 4000000 in
set_option maxRecDepth 100000 in
theorem c_C_growBorne (l : Launch) (cx : Cx) (nx N : Nat) (D : Dt) (P : Ft) (a0 : Nat) (z : Dt) (h : f_C_growBorne N nx D P a0 = some z) : Ct l cx yX7_growBorne cX7_growBorne 2 none 1 [.ref (cx.2.2 + a0)] D P nx none z P := by
  refine x_met0 (by decide) (Nat.le_of_ble_eq_true rfl) ?_
  intro p e s m args below meth c X
  have X : XC p s m args meth c cx cX7_growBorne 2 none "HeartPins$Standing" "growBorne" := X
  refine XW.sub (lv' := [(0, .ref (cx.2.2 + a0))]) [0] rfl ?_
  unfold f_C_growBorne at h
  obtain ⟨hk0, h⟩ := grd h
  have hL2 : ∀ (n : Nat) (D : Dt) (i1 : Int32), wk2 n (f_C_growBorne_2 N nx P a0) D i1 = some z → XW p l e (rmk 1) s m args below meth c (MQ below (Qx cx none z P nx) args s 0 0 (AA cx)) cx 2 D P nx 0 0 2 [(0, .ref (cx.2.2 + a0)), (1, .int i1)] [] := by
    intro n
    induction n with
    | zero => intro D i1 h; exact (nonz h).elim
    | succ n ih2 =>
      intro D i1 h
      have h : f_C_growBorne_2 N nx P a0 (wk2 n (f_C_growBorne_2 N nx P a0)) D i1 = some z := h
      generalize wk2 n (f_C_growBorne_2 N nx P a0) = rec2 at ih2 h
      unfold f_C_growBorne_2 at h
      refine x_iload_n (pc := 2) X dX7_growBorne_2 (i := 1) rfl 1 rfl ?_
      refine x_bipush (v := 8) (pc := 3) X dX7_growBorne_3 (by decide) ?_
      refine x_icmp_ge (tgt := 42) (pc := 5) X dX7_growBorne_5 (by decide) (fun c7 => ?_) (fun c7 => ?_)
      · have h := ite_t c7 h
        obtain rfl := Option.some.inj h
        exact x_vret (pc := 42) X dX7_growBorne_42
      · have h := ite_f c7 h
        refine x_aload_n (pc := 8) X dX7_growBorne_8 (i := 0) rfl 0 rfl ?_
        obtain ⟨q1, e1, h⟩ := nns h
        refine x_getr (ci := 7) (k := 2) (n := 5) (C := RX7) (T := TX7) (pc := 9) X dX7_growBorne_9 hk0 rfl (by decide) w_154 rfl e1 ?_
        refine x_iload_n (pc := 12) X dX7_growBorne_12 (i := 1) rfl 1 rfl ?_
        obtain ⟨g2, h⟩ := grd h
        refine x_iald (pc := 13) X dX7_growBorne_13 g2 ?_
        refine x_if_lt (tgt := 36) (pc := 14) X dX7_growBorne_14 (by decide) (fun c6 => ?_) (fun c6 => ?_)
        · have h := ite_t c6 h
          refine x_iinc (v := i1 + 1) (lv' := [(1, .int (i1 + 1)), (0, .ref (cx.2.2 + a0))]) (pc := 36) X dX7_growBorne_36 1 rfl rfl (by decide) rfl ?_
          refine x_goto (tgt := 2) (pc := 39) X dX7_growBorne_39 (by decide) ?_
          exact XW.sub [1, 0] rfl (ih2 _ _ h)
        · have h := ite_f c6 h
          refine x_aload_n (pc := 17) X dX7_growBorne_17 (i := 0) rfl 0 rfl ?_
          obtain ⟨q3, e3, h⟩ := nns h
          refine x_getr (ci := 7) (k := 1) (n := 5) (C := RX7) (T := TX7) (pc := 18) X dX7_growBorne_18 hk0 rfl (by decide) w_153 rfl e3 ?_
          refine x_iload_n (pc := 21) X dX7_growBorne_21 (i := 1) rfl 1 rfl ?_
          refine x_bipush (v := 40) (pc := 22) X dX7_growBorne_22 (by decide) ?_
          refine x_aload_n (pc := 24) X dX7_growBorne_24 (i := 0) rfl 0 rfl ?_
          refine x_getr (ci := 7) (k := 1) (n := 5) (C := RX7) (T := TX7) (pc := 25) X dX7_growBorne_25 hk0 rfl (by decide) w_153 rfl e3 ?_
          refine x_iload_n (pc := 28) X dX7_growBorne_28 (i := 1) rfl 1 rfl ?_
          obtain ⟨g4, h⟩ := grd h
          refine x_iald (pc := 29) X dX7_growBorne_29 g4 ?_
          refine x_iconst (v := 1) (pc := 30) X dX7_growBorne_30 (by decide) ?_
          refine x_iadd (pc := 31) X dX7_growBorne_31 ?_
          refine x_mmin (pc := 32) X dX7_growBorne_32 w_620 ⟨by decide, by decide⟩ ⟨Nat.zero_le _, Nat.zero_le _⟩ (Nat.le_of_ble_eq_true rfl) ?_
          obtain ⟨g5, h⟩ := grd h
          obtain ⟨D5, w5, h⟩ := pass h
          refine x_iast (D' := D5) (pc := 35) X dX7_growBorne_35 g5 w5 ?_
          refine x_iinc (v := i1 + 1) (lv' := [(1, .int (i1 + 1)), (0, .ref (cx.2.2 + a0))]) (pc := 36) X dX7_growBorne_36 1 rfl rfl (by decide) rfl ?_
          refine x_goto (tgt := 2) (pc := 39) X dX7_growBorne_39 (by decide) ?_
          exact XW.sub [1, 0] rfl (ih2 _ _ h)
  refine x_iconst (v := 0) (pc := 0) X dX7_growBorne_0 (by decide) ?_
  refine x_istore_n (lv' := [(1, .int 0), (0, .ref (cx.2.2 + a0))]) (pc := 1) X dX7_growBorne_1 (i := 1) rfl (by decide) rfl ?_
  exact XW.sub [1, 0] rfl (hL2 _ _ _ h)
theorem dX7_changePin_0 : decode cX7_changePin 0 = .ok (.iload_n 1, 1) := by decide +kernel
theorem dX7_changePin_1 : decode cX7_changePin 1 = .ok (.ifCond .lt 9, 3) := by decide +kernel
theorem dX7_changePin_4 : decode cX7_changePin 4 = .ok (.iload_n 1, 1) := by decide +kernel
theorem dX7_changePin_5 : decode cX7_changePin 5 = .ok (.bipush 8, 2) := by decide +kernel
theorem dX7_changePin_7 : decode cX7_changePin 7 = .ok (.if_icmp .lt 4, 3) := by decide +kernel
theorem dX7_changePin_10 : decode cX7_changePin 10 = .ok (.return_, 1) := by decide +kernel
theorem dX7_changePin_11 : decode cX7_changePin 11 = .ok (.aload_n 0, 1) := by decide +kernel
theorem dX7_changePin_12 : decode cX7_changePin 12 = .ok (.getfield 18, 3) := by decide +kernel
theorem dX7_changePin_15 : decode cX7_changePin 15 = .ok (.iload_n 1, 1) := by decide +kernel
theorem dX7_changePin_16 : decode cX7_changePin 16 = .ok (.invokevirtual 126, 3) := by decide +kernel
theorem dX7_changePin_19 : decode cX7_changePin 19 = .ok (.aload_n 0, 1) := by decide +kernel
theorem dX7_changePin_20 : decode cX7_changePin 20 = .ok (.getfield 9, 3) := by decide +kernel
theorem dX7_changePin_23 : decode cX7_changePin 23 = .ok (.iload_n 1, 1) := by decide +kernel
theorem dX7_changePin_24 : decode cX7_changePin 24 = .ok (.iaload, 1) := by decide +kernel
theorem dX7_changePin_25 : decode cX7_changePin 25 = .ok (.aload_n 0, 1) := by decide +kernel
theorem dX7_changePin_26 : decode cX7_changePin 26 = .ok (.getfield 38, 3) := by decide +kernel
theorem dX7_changePin_29 : decode cX7_changePin 29 = .ok (.invokestatic 129, 3) := by decide +kernel
theorem dX7_changePin_32 : decode cX7_changePin 32 = .ok (.istore_n 3, 1) := by decide +kernel
theorem dX7_changePin_33 : decode cX7_changePin 33 = .ok (.iload_n 2, 1) := by decide +kernel
theorem dX7_changePin_34 : decode cX7_changePin 34 = .ok (.ifCond .eq 12, 3) := by decide +kernel
theorem dX7_changePin_37 : decode cX7_changePin 37 = .ok (.bipush 40, 2) := by decide +kernel
theorem dX7_changePin_39 : decode cX7_changePin 39 = .ok (.iload_n 3, 1) := by decide +kernel
theorem dX7_changePin_40 : decode cX7_changePin 40 = .ok (.iconst 1, 1) := by decide +kernel
theorem dX7_changePin_41 : decode cX7_changePin 41 = .ok (.iadd, 1) := by decide +kernel
theorem dX7_changePin_42 : decode cX7_changePin 42 = .ok (.invokestatic 101, 3) := by decide +kernel
theorem dX7_changePin_45 : decode cX7_changePin 45 = .ok (.istore_n 3, 1) := by decide +kernel
theorem dX7_changePin_46 : decode cX7_changePin 46 = .ok (.aload_n 0, 1) := by decide +kernel
theorem dX7_changePin_47 : decode cX7_changePin 47 = .ok (.getfield 9, 3) := by decide +kernel
theorem dX7_changePin_50 : decode cX7_changePin 50 = .ok (.iload_n 1, 1) := by decide +kernel
theorem dX7_changePin_51 : decode cX7_changePin 51 = .ok (.iconst 0, 1) := by decide +kernel
theorem dX7_changePin_52 : decode cX7_changePin 52 = .ok (.iload_n 3, 1) := by decide +kernel
theorem dX7_changePin_53 : decode cX7_changePin 53 = .ok (.invokestatic 117, 3) := by decide +kernel
theorem dX7_changePin_56 : decode cX7_changePin 56 = .ok (.iastore, 1) := by decide +kernel
theorem dX7_changePin_57 : decode cX7_changePin 57 = .ok (.iload_n 3, 1) := by decide +kernel
theorem dX7_changePin_58 : decode cX7_changePin 58 = .ok (.ifCond .gt 11, 3) := by decide +kernel
theorem dX7_changePin_61 : decode cX7_changePin 61 = .ok (.aload_n 0, 1) := by decide +kernel
theorem dX7_changePin_62 : decode cX7_changePin 62 = .ok (.getfield 15, 3) := by decide +kernel
theorem dX7_changePin_65 : decode cX7_changePin 65 = .ok (.iload_n 1, 1) := by decide +kernel
theorem dX7_changePin_66 : decode cX7_changePin 66 = .ok (.bipush (-3), 2) := by decide +kernel
theorem dX7_changePin_68 : decode cX7_changePin 68 = .ok (.iastore, 1) := by decide +kernel
theorem dX7_changePin_69 : decode cX7_changePin 69 = .ok (.return_, 1) := by decide +kernel
def f_C_changePin_46 (N nx : Nat) (D : Dt) (P : Ft) (a0 : Nat) (i1 : Int32) (i3 : Int32) : Option Dt :=
  nn (P a0 1) fun q7 =>
  if ab nx q7 3 i1 = true then
  pas (upd2 D q7 i1.toNatClampNeg (if 0 < i3 then i3 else 0)) fun D8 =>
  if 0 < i3 then
    some D8
  else
    nn (P a0 2) fun q9 =>
    if ab nx q9 3 i1 = true then
    pas (upd2 D8 q9 i1.toNatClampNeg (-3)) fun D10 =>
    some D10
    else none
  else none
def f_C_changePin (N nx : Nat) (D : Dt) (P : Ft) (a0 : Nat) (i1 : Int32) (i2 : Int32) : Option Dt :=
  if kd nx a0 = 7 then
  if i1 < 0 then
    some D
  else
    if i1 < 8 then
      nn (P a0 0) fun q1 =>
      if kd nx q1 = 1 then
      (f_F_kindOf N nx D P q1 i1).bind fun z2 =>
      nn (P a0 1) fun q4 =>
      if ab nx q4 3 i1 = true then
      (f_H_largeBehindDay N nx D P z2 (D q4 i1.toNatClampNeg) (D a0 4)).bind fun z6 =>
      if i2 = 0 then
        f_C_changePin_46 N nx D P a0 i1 z6
      else
        f_C_changePin_46 N nx D P a0 i1 (if z6 + 1 < 40 then z6 + 1 else 40)
      else none
      else none
    else
      some D
  else none
theorem m_C_changePin : MV yX7_changePin cX7_changePin 4 none 2 := ⟨mT 612 (by decide +kernel) rfl, mT 611 (by decide +kernel) rfl, mT 7 (by decide +kernel) rfl, mT 57 (by decide +kernel) rfl, by decide +kernel, by decide +kernel, by decide +kernel⟩
set_option maxHeartbeats 4000000 in
set_option maxRecDepth 100000 in
theorem c_C_changePin (l : Launch) (cx : Cx) (nx N : Nat) (D : Dt) (P : Ft) (a0 : Nat) (i1 : Int32) (i2 : Int32) (z : Dt) (h : f_C_changePin N nx D P a0 i1 i2 = some z) : Ct l cx yX7_changePin cX7_changePin 4 none 2 [.ref (cx.2.2 + a0), .int i1, .int i2] D P nx none z P := by
  refine x_met0 (by decide) (Nat.le_of_ble_eq_true rfl) ?_
  intro p e s m args below meth c X
  have X : XC p s m args meth c cx cX7_changePin 4 none "HeartPins$Standing" "changePin" := X
  refine XW.sub (lv' := [(0, .ref (cx.2.2 + a0)), (1, .int i1), (2, .int i2)]) [0, 1, 2] rfl ?_
  unfold f_C_changePin at h
  obtain ⟨hk0, h⟩ := grd h
  have hJ46 : ∀ (D : Dt) (i3 : Int32), f_C_changePin_46 N nx D P a0 i1 i3 = some z → XW p l e (rmk 2) s m args below meth c (MQ below (Qx cx none z P nx) args s 0 0 (AA cx)) cx 4 D P nx 0 0 46 [(0, .ref (cx.2.2 + a0)), (1, .int i1), (3, .int i3)] [] := by
    intro D i3 h
    unfold f_C_changePin_46 at h
    refine x_aload_n (pc := 46) X dX7_changePin_46 (i := 0) rfl 0 rfl ?_
    obtain ⟨q7, e7, h⟩ := nns h
    refine x_getr (ci := 7) (k := 1) (n := 5) (C := RX7) (T := TX7) (pc := 47) X dX7_changePin_47 hk0 rfl (by decide) w_153 rfl e7 ?_
    refine x_iload_n (pc := 50) X dX7_changePin_50 (i := 1) rfl 1 rfl ?_
    refine x_iconst (v := 0) (pc := 51) X dX7_changePin_51 (by decide) ?_
    refine x_iload_n (pc := 52) X dX7_changePin_52 (i := 3) rfl 2 rfl ?_
    refine x_mmax (pc := 53) X dX7_changePin_53 w_621 ⟨by decide, by decide⟩ ⟨Nat.zero_le _, Nat.zero_le _⟩ (Nat.le_of_ble_eq_true rfl) ?_
    obtain ⟨g8, h⟩ := grd h
    obtain ⟨D8, w8, h⟩ := pass h
    refine x_iast (D' := D8) (pc := 56) X dX7_changePin_56 g8 w8 ?_
    refine x_iload_n (pc := 57) X dX7_changePin_57 (i := 3) rfl 2 rfl ?_
    refine x_if_gt (tgt := 69) (pc := 58) X dX7_changePin_58 (by decide) (fun c11 => ?_) (fun c11 => ?_)
    · have h := ite_t c11 h
      obtain rfl := Option.some.inj h
      exact x_vret (pc := 69) X dX7_changePin_69
    · have h := ite_f c11 h
      refine x_aload_n (pc := 61) X dX7_changePin_61 (i := 0) rfl 0 rfl ?_
      obtain ⟨q9, e9, h⟩ := nns h
      refine x_getr (ci := 7) (k := 2) (n := 5) (C := RX7) (T := TX7) (pc := 62) X dX7_changePin_62 hk0 rfl (by decide) w_154 rfl e9 ?_
      refine x_iload_n (pc := 65) X dX7_changePin_65 (i := 1) rfl 1 rfl ?_
      refine x_bipush (v := (-3)) (pc := 66) X dX7_changePin_66 (by decide) ?_
      obtain ⟨g10, h⟩ := grd h
      obtain ⟨D10, w10, h⟩ := pass h
      refine x_iast (D' := D10) (pc := 68) X dX7_changePin_68 g10 w10 ?_
      obtain rfl := Option.some.inj h
      exact x_vret (pc := 69) X dX7_changePin_69
  refine x_iload_n (pc := 0) X dX7_changePin_0 (i := 1) rfl 1 rfl ?_
  refine x_if_lt (tgt := 10) (pc := 1) X dX7_changePin_1 (by decide) (fun c14 => ?_) (fun c14 => ?_)
  · have h := ite_t c14 h
    obtain rfl := Option.some.inj h
    exact x_vret (pc := 10) X dX7_changePin_10
  · have h := ite_f c14 h
    refine x_iload_n (pc := 4) X dX7_changePin_4 (i := 1) rfl 1 rfl ?_
    refine x_bipush (v := 8) (pc := 5) X dX7_changePin_5 (by decide) ?_
    refine x_icmp_lt (tgt := 11) (pc := 7) X dX7_changePin_7 (by decide) (fun c13 => ?_) (fun c13 => ?_)
    · have h := ite_t c13 h
      refine x_aload_n (pc := 11) X dX7_changePin_11 (i := 0) rfl 0 rfl ?_
      obtain ⟨q1, e1, h⟩ := nns h
      refine x_getr (ci := 7) (k := 0) (n := 5) (C := RX7) (T := TX7) (pc := 12) X dX7_changePin_12 hk0 rfl (by decide) w_151 rfl e1 ?_
      refine x_iload_n (pc := 15) X dX7_changePin_15 (i := 1) rfl 1 rfl ?_
      obtain ⟨k3, h⟩ := grd h
      obtain ⟨z2, e2, h⟩ := bnds h
      refine x_callV (pc := 16) (As := [.int i1]) (st := []) (st' := [.int z2]) X (c_F_kindOf l cx nx N D P _ _ z2 e2) dX7_changePin_16 w_613 m_F_kindOf rfl k3 (ci := 1) rfl rfl ⟨by decide, by decide⟩ ⟨Nat.zero_le _, Nat.zero_le _⟩ rfl (Nat.le_of_ble_eq_true rfl) rfl ?_
      refine x_aload_n (pc := 19) X dX7_changePin_19 (i := 0) rfl 0 rfl ?_
      obtain ⟨q4, e4, h⟩ := nns h
      refine x_getr (ci := 7) (k := 1) (n := 5) (C := RX7) (T := TX7) (pc := 20) X dX7_changePin_20 hk0 rfl (by decide) w_153 rfl e4 ?_
      refine x_iload_n (pc := 23) X dX7_changePin_23 (i := 1) rfl 1 rfl ?_
      obtain ⟨g5, h⟩ := grd h
      refine x_iald (pc := 24) X dX7_changePin_24 g5 ?_
      refine x_aload_n (pc := 25) X dX7_changePin_25 (i := 0) rfl 0 rfl ?_
      refine x_geti (ci := 7) (k := 4) (n := 5) (C := RX7) (T := TX7) (pc := 26) X dX7_changePin_26 hk0 rfl (by decide) w_158 rfl ?_
      obtain ⟨z6, e6, h⟩ := bnds h
      refine x_callSN (pc := 29) (As := [.int z2, .int (D q4 i1.toNatClampNeg), .int (D a0 4)]) (st := []) (st' := [.int z6]) (host := "HeartPins") X (c_H_largeBehindDay l cx nx N D P _ _ _ z6 e6) dX7_changePin_29 (List.mem_of_getElem? (i := 7) rfl) m_H_largeBehindDay rfl ⟨by decide, by decide⟩ ⟨Nat.zero_le _, Nat.zero_le _⟩ rfl (Nat.le_of_ble_eq_true rfl) rfl ?_
      refine x_istore_n (lv' := [(3, .int z6), (0, .ref (cx.2.2 + a0)), (1, .int i1), (2, .int i2)]) (pc := 32) X dX7_changePin_32 (i := 3) rfl (by decide) rfl ?_
      refine x_iload_n (pc := 33) X dX7_changePin_33 (i := 2) rfl 3 rfl ?_
      refine x_if_eq (tgt := 46) (pc := 34) X dX7_changePin_34 (by decide) (fun c12 => ?_) (fun c12 => ?_)
      · have h := ite_t c12 h
        exact XW.sub [1, 2, 0] rfl (hJ46 _ _ h)
      · have h := ite_f c12 h
        refine x_bipush (v := 40) (pc := 37) X dX7_changePin_37 (by decide) ?_
        refine x_iload_n (pc := 39) X dX7_changePin_39 (i := 3) rfl 0 rfl ?_
        refine x_iconst (v := 1) (pc := 40) X dX7_changePin_40 (by decide) ?_
        refine x_iadd (pc := 41) X dX7_changePin_41 ?_
        refine x_mmin (pc := 42) X dX7_changePin_42 w_620 ⟨by decide, by decide⟩ ⟨Nat.zero_le _, Nat.zero_le _⟩ (Nat.le_of_ble_eq_true rfl) ?_
        refine x_istore_n (lv' := [(3, .int (if z6 + 1 < 40 then z6 + 1 else 40)), (0, .ref (cx.2.2 + a0)), (1, .int i1), (2, .int i2)]) (pc := 45) X dX7_changePin_45 (i := 3) rfl (by decide) rfl ?_
        exact XW.sub [1, 2, 0] rfl (hJ46 _ _ h)
    · have h := ite_f c13 h
      obtain rfl := Option.some.inj h
      exact x_vret (pc := 10) X dX7_changePin_10
theorem dX7_shakeOut_0 : decode cX7_shakeOut 0 = .ok (.iconst 0, 1) := by decide +kernel
theorem dX7_shakeOut_1 : decode cX7_shakeOut 1 = .ok (.istore_n 1, 1) := by decide +kernel
theorem dX7_shakeOut_2 : decode cX7_shakeOut 2 = .ok (.iload_n 1, 1) := by decide +kernel
theorem dX7_shakeOut_3 : decode cX7_shakeOut 3 = .ok (.bipush 8, 2) := by decide +kernel
theorem dX7_shakeOut_5 : decode cX7_shakeOut 5 = .ok (.if_icmp .ge 27, 3) := by decide +kernel
theorem dX7_shakeOut_8 : decode cX7_shakeOut 8 = .ok (.aload_n 0, 1) := by decide +kernel
theorem dX7_shakeOut_9 : decode cX7_shakeOut 9 = .ok (.getfield 15, 3) := by decide +kernel
theorem dX7_shakeOut_12 : decode cX7_shakeOut 12 = .ok (.iload_n 1, 1) := by decide +kernel
theorem dX7_shakeOut_13 : decode cX7_shakeOut 13 = .ok (.iaload, 1) := by decide +kernel
theorem dX7_shakeOut_14 : decode cX7_shakeOut 14 = .ok (.iconst (-1), 1) := by decide +kernel
theorem dX7_shakeOut_15 : decode cX7_shakeOut 15 = .ok (.if_icmp .ne 11, 3) := by decide +kernel
theorem dX7_shakeOut_18 : decode cX7_shakeOut 18 = .ok (.aload_n 0, 1) := by decide +kernel
theorem dX7_shakeOut_19 : decode cX7_shakeOut 19 = .ok (.getfield 15, 3) := by decide +kernel
theorem dX7_shakeOut_22 : decode cX7_shakeOut 22 = .ok (.iload_n 1, 1) := by decide +kernel
theorem dX7_shakeOut_23 : decode cX7_shakeOut 23 = .ok (.bipush (-2), 2) := by decide +kernel
theorem dX7_shakeOut_25 : decode cX7_shakeOut 25 = .ok (.iastore, 1) := by decide +kernel
theorem dX7_shakeOut_26 : decode cX7_shakeOut 26 = .ok (.iinc 1 1, 3) := by decide +kernel
theorem dX7_shakeOut_29 : decode cX7_shakeOut 29 = .ok (.goto (-27), 3) := by decide +kernel
theorem dX7_shakeOut_32 : decode cX7_shakeOut 32 = .ok (.aload_n 0, 1) := by decide +kernel
theorem dX7_shakeOut_33 : decode cX7_shakeOut 33 = .ok (.iconst 0, 1) := by decide +kernel
theorem dX7_shakeOut_34 : decode cX7_shakeOut 34 = .ok (.putfield 34, 3) := by decide +kernel
theorem dX7_shakeOut_37 : decode cX7_shakeOut 37 = .ok (.return_, 1) := by decide +kernel
def f_C_shakeOut_2 (N nx : Nat) (P : Ft) (a0 : Nat) (rec2 : Dt → Int32 → Option Dt) (D : Dt) (i1 : Int32) : Option Dt :=
  if 8 ≤ i1 then
    pas (upd2 D a0 3 0) fun D1 =>
    some D1
  else
    nn (P a0 2) fun q2 =>
    if ab nx q2 3 i1 = true then
    if D q2 i1.toNatClampNeg = (-1) then
      if ab nx q2 3 i1 = true then
      pas (upd2 D q2 i1.toNatClampNeg (-2)) fun D4 =>
      rec2 D4 (i1 + 1)
      else none
    else
      rec2 D (i1 + 1)
    else none
def f_C_shakeOut (N nx : Nat) (D : Dt) (P : Ft) (a0 : Nat) : Option Dt :=
  if kd nx a0 = 7 then
  wk2 N (f_C_shakeOut_2 N nx P a0) D 0
  else none
theorem m_C_shakeOut : MV yX7_shakeOut cX7_shakeOut 2 none 0 := ⟨mT 625 (by decide +kernel) rfl, mT 624 (by decide +kernel) rfl, mT 8 (by decide +kernel) rfl, mT 57 (by decide +kernel) rfl, by decide +kernel, by decide +kernel, by decide +kernel⟩
set_option maxHeartbeats 4000000 in
set_option maxRecDepth 100000 in
theorem c_C_shakeOut (l : Launch) (cx : Cx) (nx N : Nat) (D : Dt) (P : Ft) (a0 : Nat) (z : Dt) (h : f_C_shakeOut N nx D P a0 = some z) : Ct l cx yX7_shakeOut cX7_shakeOut 2 none 0 [.ref (cx.2.2 + a0)] D P nx none z P := by
  refine x_met0 (by decide) (Nat.le_of_ble_eq_true rfl) ?_
  intro p e s m args below meth c X
  have X : XC p s m args meth c cx cX7_shakeOut 2 none "HeartPins$Standing" "shakeOut" := X
  refine XW.sub (lv' := [(0, .ref (cx.2.2 + a0))]) [0] rfl ?_
  unfold f_C_shakeOut at h
  obtain ⟨hk0, h⟩ := grd h
  have hL2 : ∀ (n : Nat) (D : Dt) (i1 : Int32), wk2 n (f_C_shakeOut_2 N nx P a0) D i1 = some z → XW p l e (rmk 0) s m args below meth c (MQ below (Qx cx none z P nx) args s 0 0 (AA cx)) cx 2 D P nx 0 0 2 [(0, .ref (cx.2.2 + a0)), (1, .int i1)] [] := by
    intro n
    induction n with
    | zero => intro D i1 h; exact (nonz h).elim
    | succ n ih2 =>
      intro D i1 h
      have h : f_C_shakeOut_2 N nx P a0 (wk2 n (f_C_shakeOut_2 N nx P a0)) D i1 = some z := h
      generalize wk2 n (f_C_shakeOut_2 N nx P a0) = rec2 at ih2 h
      unfold f_C_shakeOut_2 at h
      refine x_iload_n (pc := 2) X dX7_shakeOut_2 (i := 1) rfl 1 rfl ?_
      refine x_bipush (v := 8) (pc := 3) X dX7_shakeOut_3 (by decide) ?_
      refine x_icmp_ge (tgt := 32) (pc := 5) X dX7_shakeOut_5 (by decide) (fun c6 => ?_) (fun c6 => ?_)
      · have h := ite_t c6 h
        refine x_aload_n (pc := 32) X dX7_shakeOut_32 (i := 0) rfl 0 rfl ?_
        refine x_iconst (v := 0) (pc := 33) X dX7_shakeOut_33 (by decide) ?_
        obtain ⟨D1, w1, h⟩ := pass h
        refine x_puti (ci := 7) (k := 3) (n := 5) (C := RX7) (T := TX7) (D' := D1) (pc := 34) X dX7_shakeOut_34 hk0 rfl (by decide) w_155 rfl (by decide +kernel) rfl w1 ?_
        obtain rfl := Option.some.inj h
        exact x_vret (pc := 37) X dX7_shakeOut_37
      · have h := ite_f c6 h
        refine x_aload_n (pc := 8) X dX7_shakeOut_8 (i := 0) rfl 0 rfl ?_
        obtain ⟨q2, e2, h⟩ := nns h
        refine x_getr (ci := 7) (k := 2) (n := 5) (C := RX7) (T := TX7) (pc := 9) X dX7_shakeOut_9 hk0 rfl (by decide) w_154 rfl e2 ?_
        refine x_iload_n (pc := 12) X dX7_shakeOut_12 (i := 1) rfl 1 rfl ?_
        obtain ⟨g3, h⟩ := grd h
        refine x_iald (pc := 13) X dX7_shakeOut_13 g3 ?_
        refine x_iconst (v := (-1)) (pc := 14) X dX7_shakeOut_14 (by decide) ?_
        refine x_icmp_ne (tgt := 26) (pc := 15) X dX7_shakeOut_15 (by decide) (fun c5 => ?_) (fun c5 => ?_)
        · have h := ite_f c5 h
          refine x_iinc (v := i1 + 1) (lv' := [(1, .int (i1 + 1)), (0, .ref (cx.2.2 + a0))]) (pc := 26) X dX7_shakeOut_26 1 rfl rfl (by decide) rfl ?_
          refine x_goto (tgt := 2) (pc := 29) X dX7_shakeOut_29 (by decide) ?_
          exact XW.sub [1, 0] rfl (ih2 _ _ h)
        · have h := ite_t c5 h
          refine x_aload_n (pc := 18) X dX7_shakeOut_18 (i := 0) rfl 0 rfl ?_
          refine x_getr (ci := 7) (k := 2) (n := 5) (C := RX7) (T := TX7) (pc := 19) X dX7_shakeOut_19 hk0 rfl (by decide) w_154 rfl e2 ?_
          refine x_iload_n (pc := 22) X dX7_shakeOut_22 (i := 1) rfl 1 rfl ?_
          refine x_bipush (v := (-2)) (pc := 23) X dX7_shakeOut_23 (by decide) ?_
          obtain ⟨g4, h⟩ := grd h
          obtain ⟨D4, w4, h⟩ := pass h
          refine x_iast (D' := D4) (pc := 25) X dX7_shakeOut_25 g4 w4 ?_
          refine x_iinc (v := i1 + 1) (lv' := [(1, .int (i1 + 1)), (0, .ref (cx.2.2 + a0))]) (pc := 26) X dX7_shakeOut_26 1 rfl rfl (by decide) rfl ?_
          refine x_goto (tgt := 2) (pc := 29) X dX7_shakeOut_29 (by decide) ?_
          exact XW.sub [1, 0] rfl (ih2 _ _ h)
  refine x_iconst (v := 0) (pc := 0) X dX7_shakeOut_0 (by decide) ?_
  refine x_istore_n (lv' := [(1, .int 0), (0, .ref (cx.2.2 + a0))]) (pc := 1) X dX7_shakeOut_1 (i := 1) rfl (by decide) rfl ?_
  exact XW.sub [1, 0] rfl (hL2 _ _ _ h)
theorem dX7_goDay_0 : decode cX7_goDay 0 = .ok (.aload_n 0, 1) := by decide +kernel
theorem dX7_goDay_1 : decode cX7_goDay 1 = .ok (.invokevirtual 110, 3) := by decide +kernel
theorem dX7_goDay_4 : decode cX7_goDay 4 = .ok (.istore_n 1, 1) := by decide +kernel
theorem dX7_goDay_5 : decode cX7_goDay 5 = .ok (.iconst 0, 1) := by decide +kernel
theorem dX7_goDay_6 : decode cX7_goDay 6 = .ok (.istore_n 2, 1) := by decide +kernel
theorem dX7_goDay_7 : decode cX7_goDay 7 = .ok (.iload_n 2, 1) := by decide +kernel
theorem dX7_goDay_8 : decode cX7_goDay 8 = .ok (.bipush 8, 2) := by decide +kernel
theorem dX7_goDay_10 : decode cX7_goDay 10 = .ok (.if_icmp .ge 43, 3) := by decide +kernel
theorem dX7_goDay_13 : decode cX7_goDay 13 = .ok (.aload_n 0, 1) := by decide +kernel
theorem dX7_goDay_14 : decode cX7_goDay 14 = .ok (.getfield 15, 3) := by decide +kernel
theorem dX7_goDay_17 : decode cX7_goDay 17 = .ok (.iload_n 2, 1) := by decide +kernel
theorem dX7_goDay_18 : decode cX7_goDay 18 = .ok (.iaload, 1) := by decide +kernel
theorem dX7_goDay_19 : decode cX7_goDay 19 = .ok (.iconst (-1), 1) := by decide +kernel
theorem dX7_goDay_20 : decode cX7_goDay 20 = .ok (.if_icmp .lt 27, 3) := by decide +kernel
theorem dX7_goDay_23 : decode cX7_goDay 23 = .ok (.aload_n 0, 1) := by decide +kernel
theorem dX7_goDay_24 : decode cX7_goDay 24 = .ok (.iload_n 2, 1) := by decide +kernel
theorem dX7_goDay_25 : decode cX7_goDay 25 = .ok (.iload_n 1, 1) := by decide +kernel
theorem dX7_goDay_26 : decode cX7_goDay 26 = .ok (.ifCond .eq 17, 3) := by decide +kernel
theorem dX7_goDay_29 : decode cX7_goDay 29 = .ok (.aload_n 0, 1) := by decide +kernel
theorem dX7_goDay_30 : decode cX7_goDay 30 = .ok (.getfield 15, 3) := by decide +kernel
theorem dX7_goDay_33 : decode cX7_goDay 33 = .ok (.iload_n 2, 1) := by decide +kernel
theorem dX7_goDay_34 : decode cX7_goDay 34 = .ok (.iaload, 1) := by decide +kernel
theorem dX7_goDay_35 : decode cX7_goDay 35 = .ok (.iconst (-1), 1) := by decide +kernel
theorem dX7_goDay_36 : decode cX7_goDay 36 = .ok (.if_icmp .ne 7, 3) := by decide +kernel
theorem dX7_goDay_39 : decode cX7_goDay 39 = .ok (.iconst 1, 1) := by decide +kernel
theorem dX7_goDay_40 : decode cX7_goDay 40 = .ok (.goto 4, 3) := by decide +kernel
theorem dX7_goDay_43 : decode cX7_goDay 43 = .ok (.iconst 0, 1) := by decide +kernel
theorem dX7_goDay_44 : decode cX7_goDay 44 = .ok (.invokevirtual 113, 3) := by decide +kernel
theorem dX7_goDay_47 : decode cX7_goDay 47 = .ok (.iinc 2 1, 3) := by decide +kernel
theorem dX7_goDay_50 : decode cX7_goDay 50 = .ok (.goto (-43), 3) := by decide +kernel
theorem dX7_goDay_53 : decode cX7_goDay 53 = .ok (.aload_n 0, 1) := by decide +kernel
theorem dX7_goDay_54 : decode cX7_goDay 54 = .ok (.iload_n 1, 1) := by decide +kernel
theorem dX7_goDay_55 : decode cX7_goDay 55 = .ok (.ifCond .eq 22, 3) := by decide +kernel
theorem dX7_goDay_58 : decode cX7_goDay 58 = .ok (.aload_n 0, 1) := by decide +kernel
theorem dX7_goDay_59 : decode cX7_goDay 59 = .ok (.getfield 18, 3) := by decide +kernel
theorem dX7_goDay_62 : decode cX7_goDay 62 = .ok (.getfield 81, 3) := by decide +kernel
theorem dX7_goDay_65 : decode cX7_goDay 65 = .ok (.aload_n 0, 1) := by decide +kernel
theorem dX7_goDay_66 : decode cX7_goDay 66 = .ok (.getfield 34, 3) := by decide +kernel
theorem dX7_goDay_69 : decode cX7_goDay 69 = .ok (.iconst 1, 1) := by decide +kernel
theorem dX7_goDay_70 : decode cX7_goDay 70 = .ok (.iadd, 1) := by decide +kernel
theorem dX7_goDay_71 : decode cX7_goDay 71 = .ok (.invokestatic 101, 3) := by decide +kernel
theorem dX7_goDay_74 : decode cX7_goDay 74 = .ok (.goto 13, 3) := by decide +kernel
theorem dX7_goDay_77 : decode cX7_goDay 77 = .ok (.iconst 0, 1) := by decide +kernel
theorem dX7_goDay_78 : decode cX7_goDay 78 = .ok (.aload_n 0, 1) := by decide +kernel
theorem dX7_goDay_79 : decode cX7_goDay 79 = .ok (.getfield 34, 3) := by decide +kernel
theorem dX7_goDay_82 : decode cX7_goDay 82 = .ok (.iconst 1, 1) := by decide +kernel
theorem dX7_goDay_83 : decode cX7_goDay 83 = .ok (.isub, 1) := by decide +kernel
theorem dX7_goDay_84 : decode cX7_goDay 84 = .ok (.invokestatic 117, 3) := by decide +kernel
theorem dX7_goDay_87 : decode cX7_goDay 87 = .ok (.putfield 34, 3) := by decide +kernel
theorem dX7_goDay_90 : decode cX7_goDay 90 = .ok (.aload_n 0, 1) := by decide +kernel
theorem dX7_goDay_91 : decode cX7_goDay 91 = .ok (.dup, 1) := by decide +kernel
theorem dX7_goDay_92 : decode cX7_goDay 92 = .ok (.getfield 38, 3) := by decide +kernel
theorem dX7_goDay_95 : decode cX7_goDay 95 = .ok (.iconst 1, 1) := by decide +kernel
theorem dX7_goDay_96 : decode cX7_goDay 96 = .ok (.iadd, 1) := by decide +kernel
theorem dX7_goDay_97 : decode cX7_goDay 97 = .ok (.putfield 38, 3) := by decide +kernel
theorem dX7_goDay_100 : decode cX7_goDay 100 = .ok (.aload_n 0, 1) := by decide +kernel
theorem dX7_goDay_101 : decode cX7_goDay 101 = .ok (.getfield 18, 3) := by decide +kernel
theorem dX7_goDay_104 : decode cX7_goDay 104 = .ok (.getfield 120, 3) := by decide +kernel
theorem dX7_goDay_107 : decode cX7_goDay 107 = .ok (.ifCond .le 22, 3) := by decide +kernel
theorem dX7_goDay_110 : decode cX7_goDay 110 = .ok (.aload_n 0, 1) := by decide +kernel
theorem dX7_goDay_111 : decode cX7_goDay 111 = .ok (.getfield 38, 3) := by decide +kernel
theorem dX7_goDay_114 : decode cX7_goDay 114 = .ok (.aload_n 0, 1) := by decide +kernel
theorem dX7_goDay_115 : decode cX7_goDay 115 = .ok (.getfield 18, 3) := by decide +kernel
theorem dX7_goDay_118 : decode cX7_goDay 118 = .ok (.getfield 120, 3) := by decide +kernel
theorem dX7_goDay_121 : decode cX7_goDay 121 = .ok (.irem, 1) := by decide +kernel
theorem dX7_goDay_122 : decode cX7_goDay 122 = .ok (.ifCond .ne 7, 3) := by decide +kernel
theorem dX7_goDay_125 : decode cX7_goDay 125 = .ok (.aload_n 0, 1) := by decide +kernel
theorem dX7_goDay_126 : decode cX7_goDay 126 = .ok (.invokevirtual 123, 3) := by decide +kernel
theorem dX7_goDay_129 : decode cX7_goDay 129 = .ok (.return_, 1) := by decide +kernel
def f_C_goDay_87 (N nx : Nat) (D : Dt) (P : Ft) (a0 : Nat) (s0 : Nat) (s1 : Int32) : Option Dt :=
  if kd nx s0 = 7 then
  pas (upd2 D s0 3 s1) fun D3 =>
  pas (upd2 D3 a0 4 ((D3 a0 4) + 1)) fun D4 =>
  nn (P a0 0) fun q5 =>
  if kd nx q5 = 1 then
  if D4 q5 8 ≤ 0 then
    some D4
  else
    if D4 q5 8 = 0 then none else
    if (D4 a0 4) - (D4 a0 4) / (D4 q5 8) * (D4 q5 8) = 0 then
      (f_C_shakeOut N nx D4 P a0).bind fun z8 =>
      some z8
    else
      some D4
  else none
  else none
def f_C_goDay_44 (N nx : Nat) (rec7 : Dt → Int32 → Option Dt) (D : Dt) (P : Ft) (a0 : Nat) (i1 : Int32) (i2 : Int32) (s0 : Nat) (s1 : Int32) (s2 : Int32) : Option Dt :=
  if kd nx s0 = 7 then
  (f_C_changePin N nx D P s0 s1 s2).bind fun z16 =>
  rec7 z16 (i2 + 1)
  else none
def f_C_goDay_7 (N nx : Nat) (P : Ft) (a0 : Nat) (i1 : Int32) (rec7 : Dt → Int32 → Option Dt) (D : Dt) (i2 : Int32) : Option Dt :=
  if 8 ≤ i2 then
    if i1 = 0 then
      f_C_goDay_87 N nx D P a0 a0 (if 0 < (D a0 3) - 1 then (D a0 3) - 1 else 0)
    else
      nn (P a0 0) fun q11 =>
      if kd nx q11 = 1 then
      f_C_goDay_87 N nx D P a0 a0 (if (D a0 3) + 1 < D q11 7 then (D a0 3) + 1 else D q11 7)
      else none
  else
    nn (P a0 2) fun q14 =>
    if ab nx q14 3 i2 = true then
    if D q14 i2.toNatClampNeg < (-1) then
      rec7 D (i2 + 1)
    else
      if i1 = 0 then
        f_C_goDay_44 N nx rec7 D P a0 i1 i2 a0 i2 0
      else
        if ab nx q14 3 i2 = true then
        if D q14 i2.toNatClampNeg = (-1) then
          f_C_goDay_44 N nx rec7 D P a0 i1 i2 a0 i2 1
        else
          f_C_goDay_44 N nx rec7 D P a0 i1 i2 a0 i2 0
        else none
    else none
def f_C_goDay (N nx : Nat) (D : Dt) (P : Ft) (a0 : Nat) : Option Dt :=
  if kd nx a0 = 7 then
  (f_C_isFull N nx D P a0).bind fun z1 =>
  wk2 N (f_C_goDay_7 N nx P a0 z1) D 0
  else none
theorem m_C_goDay : MV yX7_goDay cX7_goDay 3 none 0 := ⟨mT 607 (by decide +kernel) rfl, mT 605 (by decide +kernel) rfl, mT 606 (by decide +kernel) rfl, mT 57 (by decide +kernel) rfl, by decide +kernel, by decide +kernel, by decide +kernel⟩
set_option maxHeartbeats 4000000 in
set_option maxRecDepth 100000 in
theorem c_C_goDay (l : Launch) (cx : Cx) (nx N : Nat) (D : Dt) (P : Ft) (a0 : Nat) (z : Dt) (h : f_C_goDay N nx D P a0 = some z) : Ct l cx yX7_goDay cX7_goDay 3 none 3 [.ref (cx.2.2 + a0)] D P nx none z P := by
  refine x_met0 (by decide) (Nat.le_of_ble_eq_true rfl) ?_
  intro p e s m args below meth c X
  have X : XC p s m args meth c cx cX7_goDay 3 none "HeartPins$Standing" "goDay" := X
  refine XW.sub (lv' := [(0, .ref (cx.2.2 + a0))]) [0] rfl ?_
  unfold f_C_goDay at h
  obtain ⟨hk0, h⟩ := grd h
  have hJ87 : ∀ (D : Dt) (s0 : Nat) (s1 : Int32), f_C_goDay_87 N nx D P a0 s0 s1 = some z → XW p l e (rmk 3) s m args below meth c (MQ below (Qx cx none z P nx) args s 0 0 (AA cx)) cx 3 D P nx 0 0 87 [(0, .ref (cx.2.2 + a0))] [.int s1, .ref (cx.2.2 + s0)] := by
    intro D s0 s1 h
    unfold f_C_goDay_87 at h
    obtain ⟨k2, h⟩ := grd h
    obtain ⟨D3, w3, h⟩ := pass h
    refine x_puti (ci := 7) (k := 3) (n := 5) (C := RX7) (T := TX7) (D' := D3) (pc := 87) X dX7_goDay_87 k2 rfl (by decide) w_155 rfl (by decide +kernel) rfl w3 ?_
    refine x_aload_n (pc := 90) X dX7_goDay_90 (i := 0) rfl 0 rfl ?_
    refine x_dup (pc := 91) X dX7_goDay_91 rfl ?_
    refine x_geti (ci := 7) (k := 4) (n := 5) (C := RX7) (T := TX7) (pc := 92) X dX7_goDay_92 hk0 rfl (by decide) w_158 rfl ?_
    refine x_iconst (v := 1) (pc := 95) X dX7_goDay_95 (by decide) ?_
    refine x_iadd (pc := 96) X dX7_goDay_96 ?_
    obtain ⟨D4, w4, h⟩ := pass h
    refine x_puti (ci := 7) (k := 4) (n := 5) (C := RX7) (T := TX7) (D' := D4) (pc := 97) X dX7_goDay_97 hk0 rfl (by decide) w_158 rfl (by decide +kernel) rfl w4 ?_
    refine x_aload_n (pc := 100) X dX7_goDay_100 (i := 0) rfl 0 rfl ?_
    obtain ⟨q5, e5, h⟩ := nns h
    refine x_getr (ci := 7) (k := 0) (n := 5) (C := RX7) (T := TX7) (pc := 101) X dX7_goDay_101 hk0 rfl (by decide) w_151 rfl e5 ?_
    obtain ⟨k6, h⟩ := grd h
    refine x_geti (ci := 1) (k := 8) (n := 9) (C := RX1) (T := TX1) (pc := 104) X dX7_goDay_104 k6 rfl (by decide) w_125 rfl ?_
    refine x_if_le (tgt := 129) (pc := 107) X dX7_goDay_107 (by decide) (fun c10 => ?_) (fun c10 => ?_)
    · have h := ite_t c10 h
      obtain rfl := Option.some.inj h
      exact x_vret (pc := 129) X dX7_goDay_129
    · have h := ite_f c10 h
      refine x_aload_n (pc := 110) X dX7_goDay_110 (i := 0) rfl 0 rfl ?_
      refine x_geti (ci := 7) (k := 4) (n := 5) (C := RX7) (T := TX7) (pc := 111) X dX7_goDay_111 hk0 rfl (by decide) w_158 rfl ?_
      refine x_aload_n (pc := 114) X dX7_goDay_114 (i := 0) rfl 0 rfl ?_
      refine x_getr (ci := 7) (k := 0) (n := 5) (C := RX7) (T := TX7) (pc := 115) X dX7_goDay_115 hk0 rfl (by decide) w_151 rfl e5 ?_
      refine x_geti (ci := 1) (k := 8) (n := 9) (C := RX1) (T := TX1) (pc := 118) X dX7_goDay_118 k6 rfl (by decide) w_125 rfl ?_
      obtain ⟨k7, h⟩ := grdn h
      refine x_irem (pc := 121) X dX7_goDay_121 k7 ?_
      refine x_if_ne (tgt := 129) (pc := 122) X dX7_goDay_122 (by decide) (fun c9 => ?_) (fun c9 => ?_)
      · have h := ite_f c9 h
        obtain rfl := Option.some.inj h
        exact x_vret (pc := 129) X dX7_goDay_129
      · have h := ite_t c9 h
        refine x_aload_n (pc := 125) X dX7_goDay_125 (i := 0) rfl 0 rfl ?_
        obtain ⟨z8, e8, h⟩ := bnds h
        refine x_callV (pc := 126) (As := []) (st := []) (st' := []) X (c_C_shakeOut l cx nx N D4 P _ z8 e8) dX7_goDay_126 w_622 m_C_shakeOut rfl hk0 (ci := 7) rfl rfl ⟨by decide, by decide⟩ ⟨Nat.zero_le _, Nat.zero_le _⟩ rfl (Nat.le_of_ble_eq_true rfl) rfl ?_
        obtain rfl := Option.some.inj h
        exact x_vret (pc := 129) X dX7_goDay_129
  have hL7 : ∀ (i1 : Int32) (n : Nat) (D : Dt) (i2 : Int32), wk2 n (f_C_goDay_7 N nx P a0 i1) D i2 = some z → XW p l e (rmk 3) s m args below meth c (MQ below (Qx cx none z P nx) args s 0 0 (AA cx)) cx 3 D P nx 0 0 7 [(0, .ref (cx.2.2 + a0)), (1, .int i1), (2, .int i2)] [] := by
    intro i1 n
    induction n with
    | zero => intro D i2 h; exact (nonz h).elim
    | succ n ih7 =>
      intro D i2 h
      have h : f_C_goDay_7 N nx P a0 i1 (wk2 n (f_C_goDay_7 N nx P a0 i1)) D i2 = some z := h
      generalize wk2 n (f_C_goDay_7 N nx P a0 i1) = rec7 at ih7 h
      unfold f_C_goDay_7 at h
      have hJ44 : ∀ (D : Dt) (i2 : Int32) (s0 : Nat) (s1 : Int32) (s2 : Int32), f_C_goDay_44 N nx rec7 D P a0 i1 i2 s0 s1 s2 = some z → XW p l e (rmk 3) s m args below meth c (MQ below (Qx cx none z P nx) args s 0 0 (AA cx)) cx 3 D P nx 0 0 44 [(0, .ref (cx.2.2 + a0)), (1, .int i1), (2, .int i2)] [.int s2, .int s1, .ref (cx.2.2 + s0)] := by
        intro D i2 s0 s1 s2 h
        unfold f_C_goDay_44 at h
        obtain ⟨k17, h⟩ := grd h
        obtain ⟨z16, e16, h⟩ := bnds h
        refine x_callV (pc := 44) (As := [.int s1, .int s2]) (st := []) (st' := []) X (c_C_changePin l cx nx N D P _ _ _ z16 e16) dX7_goDay_44 w_609 m_C_changePin rfl k17 (ci := 7) rfl rfl ⟨by decide, by decide⟩ ⟨Nat.zero_le _, Nat.zero_le _⟩ rfl (Nat.le_of_ble_eq_true rfl) rfl ?_
        refine x_iinc (v := i2 + 1) (lv' := [(2, .int (i2 + 1)), (0, .ref (cx.2.2 + a0)), (1, .int i1)]) (pc := 47) X dX7_goDay_47 2 rfl rfl (by decide) rfl ?_
        refine x_goto (tgt := 7) (pc := 50) X dX7_goDay_50 (by decide) ?_
        exact XW.sub [1, 2, 0] rfl (ih7 _ _ h)
      refine x_iload_n (pc := 7) X dX7_goDay_7 (i := 2) rfl 2 rfl ?_
      refine x_bipush (v := 8) (pc := 8) X dX7_goDay_8 (by decide) ?_
      refine x_icmp_ge (tgt := 53) (pc := 10) X dX7_goDay_10 (by decide) (fun c22 => ?_) (fun c22 => ?_)
      · have h := ite_t c22 h
        refine x_aload_n (pc := 53) X dX7_goDay_53 (i := 0) rfl 0 rfl ?_
        refine x_iload_n (pc := 54) X dX7_goDay_54 (i := 1) rfl 1 rfl ?_
        refine x_if_eq (tgt := 77) (pc := 55) X dX7_goDay_55 (by decide) (fun c13 => ?_) (fun c13 => ?_)
        · have h := ite_t c13 h
          refine x_iconst (v := 0) (pc := 77) X dX7_goDay_77 (by decide) ?_
          refine x_aload_n (pc := 78) X dX7_goDay_78 (i := 0) rfl 0 rfl ?_
          refine x_geti (ci := 7) (k := 3) (n := 5) (C := RX7) (T := TX7) (pc := 79) X dX7_goDay_79 hk0 rfl (by decide) w_155 rfl ?_
          refine x_iconst (v := 1) (pc := 82) X dX7_goDay_82 (by decide) ?_
          refine x_isub (pc := 83) X dX7_goDay_83 ?_
          refine x_mmax (pc := 84) X dX7_goDay_84 w_621 ⟨by decide, by decide⟩ ⟨Nat.zero_le _, Nat.zero_le _⟩ (Nat.le_of_ble_eq_true rfl) ?_
          exact XW.sub [0] rfl (hJ87 _ _ _ h)
        · have h := ite_f c13 h
          refine x_aload_n (pc := 58) X dX7_goDay_58 (i := 0) rfl 0 rfl ?_
          obtain ⟨q11, e11, h⟩ := nns h
          refine x_getr (ci := 7) (k := 0) (n := 5) (C := RX7) (T := TX7) (pc := 59) X dX7_goDay_59 hk0 rfl (by decide) w_151 rfl e11 ?_
          obtain ⟨k12, h⟩ := grd h
          refine x_geti (ci := 1) (k := 7) (n := 9) (C := RX1) (T := TX1) (pc := 62) X dX7_goDay_62 k12 rfl (by decide) w_122 rfl ?_
          refine x_aload_n (pc := 65) X dX7_goDay_65 (i := 0) rfl 0 rfl ?_
          refine x_geti (ci := 7) (k := 3) (n := 5) (C := RX7) (T := TX7) (pc := 66) X dX7_goDay_66 hk0 rfl (by decide) w_155 rfl ?_
          refine x_iconst (v := 1) (pc := 69) X dX7_goDay_69 (by decide) ?_
          refine x_iadd (pc := 70) X dX7_goDay_70 ?_
          refine x_mmin (pc := 71) X dX7_goDay_71 w_620 ⟨by decide, by decide⟩ ⟨Nat.zero_le _, Nat.zero_le _⟩ (Nat.le_of_ble_eq_true rfl) ?_
          refine x_goto (tgt := 87) (pc := 74) X dX7_goDay_74 (by decide) ?_
          exact XW.sub [0] rfl (hJ87 _ _ _ h)
      · have h := ite_f c22 h
        refine x_aload_n (pc := 13) X dX7_goDay_13 (i := 0) rfl 0 rfl ?_
        obtain ⟨q14, e14, h⟩ := nns h
        refine x_getr (ci := 7) (k := 2) (n := 5) (C := RX7) (T := TX7) (pc := 14) X dX7_goDay_14 hk0 rfl (by decide) w_154 rfl e14 ?_
        refine x_iload_n (pc := 17) X dX7_goDay_17 (i := 2) rfl 2 rfl ?_
        obtain ⟨g15, h⟩ := grd h
        refine x_iald (pc := 18) X dX7_goDay_18 g15 ?_
        refine x_iconst (v := (-1)) (pc := 19) X dX7_goDay_19 (by decide) ?_
        refine x_icmp_lt (tgt := 47) (pc := 20) X dX7_goDay_20 (by decide) (fun c21 => ?_) (fun c21 => ?_)
        · have h := ite_t c21 h
          refine x_iinc (v := i2 + 1) (lv' := [(2, .int (i2 + 1)), (0, .ref (cx.2.2 + a0)), (1, .int i1)]) (pc := 47) X dX7_goDay_47 2 rfl rfl (by decide) rfl ?_
          refine x_goto (tgt := 7) (pc := 50) X dX7_goDay_50 (by decide) ?_
          exact XW.sub [1, 2, 0] rfl (ih7 _ _ h)
        · have h := ite_f c21 h
          refine x_aload_n (pc := 23) X dX7_goDay_23 (i := 0) rfl 0 rfl ?_
          refine x_iload_n (pc := 24) X dX7_goDay_24 (i := 2) rfl 2 rfl ?_
          refine x_iload_n (pc := 25) X dX7_goDay_25 (i := 1) rfl 1 rfl ?_
          refine x_if_eq (tgt := 43) (pc := 26) X dX7_goDay_26 (by decide) (fun c20 => ?_) (fun c20 => ?_)
          · have h := ite_t c20 h
            refine x_iconst (v := 0) (pc := 43) X dX7_goDay_43 (by decide) ?_
            exact XW.sub [0, 1, 2] rfl (hJ44 _ _ _ _ _ h)
          · have h := ite_f c20 h
            refine x_aload_n (pc := 29) X dX7_goDay_29 (i := 0) rfl 0 rfl ?_
            refine x_getr (ci := 7) (k := 2) (n := 5) (C := RX7) (T := TX7) (pc := 30) X dX7_goDay_30 hk0 rfl (by decide) w_154 rfl e14 ?_
            refine x_iload_n (pc := 33) X dX7_goDay_33 (i := 2) rfl 2 rfl ?_
            obtain ⟨g18, h⟩ := grd h
            refine x_iald (pc := 34) X dX7_goDay_34 g18 ?_
            refine x_iconst (v := (-1)) (pc := 35) X dX7_goDay_35 (by decide) ?_
            refine x_icmp_ne (tgt := 43) (pc := 36) X dX7_goDay_36 (by decide) (fun c19 => ?_) (fun c19 => ?_)
            · have h := ite_f c19 h
              refine x_iconst (v := 0) (pc := 43) X dX7_goDay_43 (by decide) ?_
              exact XW.sub [0, 1, 2] rfl (hJ44 _ _ _ _ _ h)
            · have h := ite_t c19 h
              refine x_iconst (v := 1) (pc := 39) X dX7_goDay_39 (by decide) ?_
              refine x_goto (tgt := 44) (pc := 40) X dX7_goDay_40 (by decide) ?_
              exact XW.sub [0, 1, 2] rfl (hJ44 _ _ _ _ _ h)
  refine x_aload_n (pc := 0) X dX7_goDay_0 (i := 0) rfl 0 rfl ?_
  obtain ⟨z1, e1, h⟩ := bnds h
  refine x_callV (pc := 1) (As := []) (st := []) (st' := [.int z1]) X (c_C_isFull l cx nx N D P _ z1 e1) dX7_goDay_1 w_608 m_C_isFull rfl hk0 (ci := 7) rfl rfl ⟨by decide, by decide⟩ ⟨Nat.zero_le _, Nat.zero_le _⟩ rfl (Nat.le_of_ble_eq_true rfl) rfl ?_
  refine x_istore_n (lv' := [(1, .int z1), (0, .ref (cx.2.2 + a0))]) (pc := 4) X dX7_goDay_4 (i := 1) rfl (by decide) rfl ?_
  refine x_iconst (v := 0) (pc := 5) X dX7_goDay_5 (by decide) ?_
  refine x_istore_n (lv' := [(2, .int 0), (1, .int z1), (0, .ref (cx.2.2 + a0))]) (pc := 6) X dX7_goDay_6 (i := 2) rfl (by decide) rfl ?_
  exact XW.sub [2, 1, 0] rfl (hL7 _ _ _ _ h)
theorem dX7_goDays_0 : decode cX7_goDays 0 = .ok (.iconst 0, 1) := by decide +kernel
theorem dX7_goDays_1 : decode cX7_goDays 1 = .ok (.istore_n 2, 1) := by decide +kernel
theorem dX7_goDays_2 : decode cX7_goDays 2 = .ok (.iload_n 2, 1) := by decide +kernel
theorem dX7_goDays_3 : decode cX7_goDays 3 = .ok (.iload_n 1, 1) := by decide +kernel
theorem dX7_goDays_4 : decode cX7_goDays 4 = .ok (.if_icmp .ge 13, 3) := by decide +kernel
theorem dX7_goDays_7 : decode cX7_goDays 7 = .ok (.aload_n 0, 1) := by decide +kernel
theorem dX7_goDays_8 : decode cX7_goDays 8 = .ok (.invokevirtual 107, 3) := by decide +kernel
theorem dX7_goDays_11 : decode cX7_goDays 11 = .ok (.iinc 2 1, 3) := by decide +kernel
theorem dX7_goDays_14 : decode cX7_goDays 14 = .ok (.goto (-12), 3) := by decide +kernel
theorem dX7_goDays_17 : decode cX7_goDays 17 = .ok (.return_, 1) := by decide +kernel
def f_C_goDays_2 (N nx : Nat) (P : Ft) (a0 : Nat) (i1 : Int32) (rec2 : Dt → Int32 → Option Dt) (D : Dt) (i2 : Int32) : Option Dt :=
  if i1 ≤ i2 then
    some D
  else
    (f_C_goDay N nx D P a0).bind fun z1 =>
    rec2 z1 (i2 + 1)
def f_C_goDays (N nx : Nat) (D : Dt) (P : Ft) (a0 : Nat) (i1 : Int32) : Option Dt :=
  if kd nx a0 = 7 then
  wk2 N (f_C_goDays_2 N nx P a0 i1) D 0
  else none
theorem m_C_goDays : MV yX7_goDays cX7_goDays 3 none 1 := ⟨mT 603 (by decide +kernel) rfl, mT 601 (by decide +kernel) rfl, mT 602 (by decide +kernel) rfl, mT 57 (by decide +kernel) rfl, by decide +kernel, by decide +kernel, by decide +kernel⟩
set_option maxHeartbeats 4000000 in
set_option maxRecDepth 100000 in
theorem c_C_goDays (l : Launch) (cx : Cx) (nx N : Nat) (D : Dt) (P : Ft) (a0 : Nat) (i1 : Int32) (z : Dt) (h : f_C_goDays N nx D P a0 i1 = some z) : Ct l cx yX7_goDays cX7_goDays 3 none 4 [.ref (cx.2.2 + a0), .int i1] D P nx none z P := by
  refine x_met0 (by decide) (Nat.le_of_ble_eq_true rfl) ?_
  intro p e s m args below meth c X
  have X : XC p s m args meth c cx cX7_goDays 3 none "HeartPins$Standing" "goDays" := X
  refine XW.sub (lv' := [(0, .ref (cx.2.2 + a0)), (1, .int i1)]) [0, 1] rfl ?_
  unfold f_C_goDays at h
  obtain ⟨hk0, h⟩ := grd h
  have hL2 : ∀ (n : Nat) (D : Dt) (i2 : Int32), wk2 n (f_C_goDays_2 N nx P a0 i1) D i2 = some z → XW p l e (rmk 4) s m args below meth c (MQ below (Qx cx none z P nx) args s 0 0 (AA cx)) cx 3 D P nx 0 0 2 [(0, .ref (cx.2.2 + a0)), (1, .int i1), (2, .int i2)] [] := by
    intro n
    induction n with
    | zero => intro D i2 h; exact (nonz h).elim
    | succ n ih2 =>
      intro D i2 h
      have h : f_C_goDays_2 N nx P a0 i1 (wk2 n (f_C_goDays_2 N nx P a0 i1)) D i2 = some z := h
      generalize wk2 n (f_C_goDays_2 N nx P a0 i1) = rec2 at ih2 h
      unfold f_C_goDays_2 at h
      refine x_iload_n (pc := 2) X dX7_goDays_2 (i := 2) rfl 2 rfl ?_
      refine x_iload_n (pc := 3) X dX7_goDays_3 (i := 1) rfl 1 rfl ?_
      refine x_icmp_ge (tgt := 17) (pc := 4) X dX7_goDays_4 (by decide) (fun c2 => ?_) (fun c2 => ?_)
      · have h := ite_t c2 h
        obtain rfl := Option.some.inj h
        exact x_vret (pc := 17) X dX7_goDays_17
      · have h := ite_f c2 h
        refine x_aload_n (pc := 7) X dX7_goDays_7 (i := 0) rfl 0 rfl ?_
        obtain ⟨z1, e1, h⟩ := bnds h
        refine x_callV (pc := 8) (As := []) (st := []) (st' := []) X (c_C_goDay l cx nx N D P _ z1 e1) dX7_goDays_8 w_604 m_C_goDay rfl hk0 (ci := 7) rfl rfl ⟨by decide, by decide⟩ ⟨Nat.zero_le _, Nat.zero_le _⟩ rfl (Nat.le_of_ble_eq_true rfl) rfl ?_
        refine x_iinc (v := i2 + 1) (lv' := [(2, .int (i2 + 1)), (0, .ref (cx.2.2 + a0)), (1, .int i1)]) (pc := 11) X dX7_goDays_11 2 rfl rfl (by decide) rfl ?_
        refine x_goto (tgt := 2) (pc := 14) X dX7_goDays_14 (by decide) ?_
        exact XW.sub [1, 2, 0] rfl (ih2 _ _ h)
  refine x_iconst (v := 0) (pc := 0) X dX7_goDays_0 (by decide) ?_
  refine x_istore_n (lv' := [(2, .int 0), (0, .ref (cx.2.2 + a0)), (1, .int i1)]) (pc := 1) X dX7_goDays_1 (i := 2) rfl (by decide) rfl ?_
  exact XW.sub [1, 2, 0] rfl (hL2 _ _ _ h)
