theorem w_152 : Cond.fieldLink "HeartPins$Matching" 24 "HeartPins$Standing" "family" "LHeartPins$Family;" ∈ wT := mT 152 (by decide +kernel) rfl
theorem w_157 : Cond.fieldLink "HeartPins$Matching" 36 "HeartPins$Standing" "day" "I" ∈ wT := mT 157 (by decide +kernel) rfl
theorem w_183 : Cond.fieldLink "HeartPins$Shelf" 15 "HeartPins$Shelf" "rows" "[LHeartPins$Standing;" ∈ wT := mT 183 (by decide +kernel) rfl
theorem w_184 : Cond.fieldLink "HeartPins$Shelf" 24 "HeartPins$Shelf" "filled" "I" ∈ wT := mT 184 (by decide +kernel) rfl
theorem w_197 : Cond.fieldLink "HeartPins$Notes" 9 "HeartPins$Notes" "seenPin" "[I" ∈ wT := mT 197 (by decide +kernel) rfl
theorem w_198 : Cond.fieldLink "HeartPins$Notes" 15 "HeartPins$Notes" "seenDays" "[I" ∈ wT := mT 198 (by decide +kernel) rfl
theorem w_199 : Cond.fieldLink "HeartPins$Notes" 18 "HeartPins$Notes" "seenLarge" "[I" ∈ wT := mT 199 (by decide +kernel) rfl
theorem w_200 : Cond.fieldLink "HeartPins$Notes" 21 "HeartPins$Notes" "marks" "[I" ∈ wT := mT 200 (by decide +kernel) rfl
theorem w_201 : Cond.fieldLink "HeartPins$Notes" 24 "HeartPins$Notes" "seen" "I" ∈ wT := mT 201 (by decide +kernel) rfl
theorem w_203 : Cond.fieldLink "HeartPins$Notes" 28 "HeartPins$Notes" "marked" "I" ∈ wT := mT 203 (by decide +kernel) rfl
theorem w_204 : Cond.fieldLink "HeartPins$Matching" 44 "HeartPins$Notes" "marked" "I" ∈ wT := mT 204 (by decide +kernel) rfl
theorem w_225 : Cond.fieldLink "HeartPins$Matching" 9 "HeartPins$Matching" "open" "[I" ∈ wT := mT 225 (by decide +kernel) rfl
theorem w_226 : Cond.fieldLink "HeartPins$Matching" 15 "HeartPins$Matching" "first" "[I" ∈ wT := mT 226 (by decide +kernel) rfl
theorem w_227 : Cond.fieldLink "HeartPins$Matching" 49 "HeartPins$Matching" "marked" "I" ∈ wT := mT 227 (by decide +kernel) rfl
theorem w_228 : Cond.fieldLink "HeartPins$Matching" 54 "HeartPins$Matching" "ways" "I" ∈ wT := mT 228 (by decide +kernel) rfl
theorem w_552 : Cond.methodLink "HeartPins$Shelf" 28 ⟨"HeartPins$Shelf", "dropOldest", "()V"⟩ ∈ wT := mT 552 (by decide +kernel) rfl
theorem w_556 : Cond.methodLink "HeartPins$Shelf" 31 ⟨"HeartPins$Shelf", "rowAt", "(I)LHeartPins$Standing;"⟩ ∈ wT := mT 556 (by decide +kernel) rfl
theorem w_560 : Cond.methodLink "HeartPins$Shelf" 35 ⟨"HeartPins$Standing", "copyFrom", "(LHeartPins$Standing;)V"⟩ ∈ wT := mT 560 (by decide +kernel) rfl
theorem w_770 : Cond.methodLink "HeartPins$Matching" 18 ⟨"HeartPins$Standing", "whereIs", "(I)I"⟩ ∈ wT := mT 770 (by decide +kernel) rfl
theorem w_771 : Cond.methodLink "HeartPins$Matching" 28 ⟨"HeartPins$Family", "kindOf", "(I)I"⟩ ∈ wT := mT 771 (by decide +kernel) rfl
theorem w_772 : Cond.methodLink "HeartPins$Matching" 33 ⟨"HeartPins$Standing", "largeOf", "(I)I"⟩ ∈ wT := mT 772 (by decide +kernel) rfl
theorem w_774 : Cond.methodLink "HeartPins$Matching" 50 ⟨"HeartPins$Standing", "howManyBorne", "()I"⟩ ∈ wT := mT 774 (by decide +kernel) rfl
theorem w_780 : Cond.methodLink "HeartPins$Matching" 57 ⟨"HeartPins$Notes", "markAt", "(I)I"⟩ ∈ wT := mT 780 (by decide +kernel) rfl
theorem w_784 : Cond.methodLink "HeartPins$Matching" 60 ⟨"HeartPins$Matching", "takeLowest", "(II)I"⟩ ∈ wT := mT 784 (by decide +kernel) rfl
theorem dX4_markAt_0 : decode cX4_markAt 0 = .ok (.iload_n 1, 1) := by decide +kernel
theorem dX4_markAt_1 : decode cX4_markAt 1 = .ok (.ifCond .lt 26, 3) := by decide +kernel
theorem dX4_markAt_4 : decode cX4_markAt 4 = .ok (.iload_n 1, 1) := by decide +kernel
theorem dX4_markAt_5 : decode cX4_markAt 5 = .ok (.aload_n 0, 1) := by decide +kernel
theorem dX4_markAt_6 : decode cX4_markAt 6 = .ok (.getfield 28, 3) := by decide +kernel
theorem dX4_markAt_9 : decode cX4_markAt 9 = .ok (.if_icmp .ge 18, 3) := by decide +kernel
theorem dX4_markAt_12 : decode cX4_markAt 12 = .ok (.iload_n 1, 1) := by decide +kernel
theorem dX4_markAt_13 : decode cX4_markAt 13 = .ok (.bipush 8, 2) := by decide +kernel
theorem dX4_markAt_15 : decode cX4_markAt 15 = .ok (.if_icmp .ge 12, 3) := by decide +kernel
theorem dX4_markAt_18 : decode cX4_markAt 18 = .ok (.aload_n 0, 1) := by decide +kernel
theorem dX4_markAt_19 : decode cX4_markAt 19 = .ok (.getfield 21, 3) := by decide +kernel
theorem dX4_markAt_22 : decode cX4_markAt 22 = .ok (.iload_n 1, 1) := by decide +kernel
theorem dX4_markAt_23 : decode cX4_markAt 23 = .ok (.iaload, 1) := by decide +kernel
theorem dX4_markAt_24 : decode cX4_markAt 24 = .ok (.goto 5, 3) := by decide +kernel
theorem dX4_markAt_27 : decode cX4_markAt 27 = .ok (.bipush (-4), 2) := by decide +kernel
theorem dX4_markAt_29 : decode cX4_markAt 29 = .ok (.ireturn, 1) := by decide +kernel
def f_N_markAt (N nx : Nat) (D : Dt) (P : Ft) (a0 : Nat) (i1 : Int32) : Option Int32 :=
  if kd nx a0 = 4 then
  if i1 < 0 then
    some (-4)
  else
    if D a0 5 ≤ i1 then
      some (-4)
    else
      if 8 ≤ i1 then
        some (-4)
      else
        nn (P a0 3) fun q1 =>
        if ab nx q1 3 i1 = true then
        some (D q1 i1.toNatClampNeg)
        else none
  else none
theorem m_N_markAt : MV yX4_markAt cX4_markAt 2 (some .int) 1 := ⟨mT 783 (by decide +kernel) rfl, mT 781 (by decide +kernel) rfl, mT 782 (by decide +kernel) rfl, mT 60 (by decide +kernel) rfl, by decide +kernel, by decide +kernel, by decide +kernel⟩
set_option maxHeartbeats 4000000 in
set_option maxRecDepth 100000 in
theorem c_N_markAt (l : Launch) (cx : Cx) (nx N : Nat) (D : Dt) (P : Ft) (a0 : Nat) (i1 : Int32) (z : Int32) (h : f_N_markAt N nx D P a0 i1 = some z) : Ct l cx yX4_markAt cX4_markAt 2 (some .int) 0 [.ref (cx.2.2 + a0), .int i1] D P nx (some (.int z)) D P := by
  refine x_met0 (by decide) (Nat.le_of_ble_eq_true rfl) ?_
  intro p e s m args below meth c X
  have X : XC p s m args meth c cx cX4_markAt 2 (some .int) "HeartPins$Notes" "markAt" := X
  refine XW.sub (lv' := [(0, .ref (cx.2.2 + a0)), (1, .int i1)]) [0, 1] rfl ?_
  unfold f_N_markAt at h
  obtain ⟨hk0, h⟩ := grd h
  refine x_iload_n (pc := 0) X dX4_markAt_0 (i := 1) rfl 1 rfl ?_
  refine x_if_lt (tgt := 27) (pc := 1) X dX4_markAt_1 (by decide) (fun c5 => ?_) (fun c5 => ?_)
  · have h := ite_t c5 h
    refine x_bipush (v := (-4)) (pc := 27) X dX4_markAt_27 (by decide) ?_
    obtain rfl := Option.some.inj h
    exact x_iret (pc := 29) X dX4_markAt_29
  · have h := ite_f c5 h
    refine x_iload_n (pc := 4) X dX4_markAt_4 (i := 1) rfl 1 rfl ?_
    refine x_aload_n (pc := 5) X dX4_markAt_5 (i := 0) rfl 0 rfl ?_
    refine x_geti (ci := 4) (k := 5) (n := 6) (C := RX4) (T := TX4) (pc := 6) X dX4_markAt_6 hk0 rfl (by decide) w_203 rfl ?_
    refine x_icmp_ge (tgt := 27) (pc := 9) X dX4_markAt_9 (by decide) (fun c4 => ?_) (fun c4 => ?_)
    · have h := ite_t c4 h
      refine x_bipush (v := (-4)) (pc := 27) X dX4_markAt_27 (by decide) ?_
      obtain rfl := Option.some.inj h
      exact x_iret (pc := 29) X dX4_markAt_29
    · have h := ite_f c4 h
      refine x_iload_n (pc := 12) X dX4_markAt_12 (i := 1) rfl 1 rfl ?_
      refine x_bipush (v := 8) (pc := 13) X dX4_markAt_13 (by decide) ?_
      refine x_icmp_ge (tgt := 27) (pc := 15) X dX4_markAt_15 (by decide) (fun c3 => ?_) (fun c3 => ?_)
      · have h := ite_t c3 h
        refine x_bipush (v := (-4)) (pc := 27) X dX4_markAt_27 (by decide) ?_
        obtain rfl := Option.some.inj h
        exact x_iret (pc := 29) X dX4_markAt_29
      · have h := ite_f c3 h
        refine x_aload_n (pc := 18) X dX4_markAt_18 (i := 0) rfl 0 rfl ?_
        obtain ⟨q1, e1, h⟩ := nns h
        refine x_getr (ci := 4) (k := 3) (n := 6) (C := RX4) (T := TX4) (pc := 19) X dX4_markAt_19 hk0 rfl (by decide) w_200 rfl e1 ?_
        refine x_iload_n (pc := 22) X dX4_markAt_22 (i := 1) rfl 1 rfl ?_
        obtain ⟨g2, h⟩ := grd h
        refine x_iald (pc := 23) X dX4_markAt_23 g2 ?_
        refine x_goto (tgt := 29) (pc := 24) X dX4_markAt_24 (by decide) ?_
        obtain rfl := Option.some.inj h
        exact x_iret (pc := 29) X dX4_markAt_29
theorem dX3_takeLowest_0 : decode cX3_takeLowest 0 = .ok (.iconst 0, 1) := by decide +kernel
theorem dX3_takeLowest_1 : decode cX3_takeLowest 1 = .ok (.istore_n 3, 1) := by decide +kernel
theorem dX3_takeLowest_2 : decode cX3_takeLowest 2 = .ok (.bipush (-4), 2) := by decide +kernel
theorem dX3_takeLowest_4 : decode cX3_takeLowest 4 = .ok (.istore 4, 2) := by decide +kernel
theorem dX3_takeLowest_6 : decode cX3_takeLowest 6 = .ok (.bipush 7, 2) := by decide +kernel
theorem dX3_takeLowest_8 : decode cX3_takeLowest 8 = .ok (.istore 5, 2) := by decide +kernel
theorem dX3_takeLowest_10 : decode cX3_takeLowest 10 = .ok (.iload 5, 2) := by decide +kernel
theorem dX3_takeLowest_12 : decode cX3_takeLowest 12 = .ok (.ifCond .lt 27, 3) := by decide +kernel
theorem dX3_takeLowest_15 : decode cX3_takeLowest 15 = .ok (.aload_n 0, 1) := by decide +kernel
theorem dX3_takeLowest_16 : decode cX3_takeLowest 16 = .ok (.getfield 9, 3) := by decide +kernel
theorem dX3_takeLowest_19 : decode cX3_takeLowest 19 = .ok (.iload 5, 2) := by decide +kernel
theorem dX3_takeLowest_21 : decode cX3_takeLowest 21 = .ok (.iaload, 1) := by decide +kernel
theorem dX3_takeLowest_22 : decode cX3_takeLowest 22 = .ok (.iload_n 2, 1) := by decide +kernel
theorem dX3_takeLowest_23 : decode cX3_takeLowest 23 = .ok (.if_icmp .ne 10, 3) := by decide +kernel
theorem dX3_takeLowest_26 : decode cX3_takeLowest 26 = .ok (.iinc 3 1, 3) := by decide +kernel
theorem dX3_takeLowest_29 : decode cX3_takeLowest 29 = .ok (.iload 5, 2) := by decide +kernel
theorem dX3_takeLowest_31 : decode cX3_takeLowest 31 = .ok (.istore 4, 2) := by decide +kernel
theorem dX3_takeLowest_33 : decode cX3_takeLowest 33 = .ok (.iinc 5 (-1), 3) := by decide +kernel
theorem dX3_takeLowest_36 : decode cX3_takeLowest 36 = .ok (.goto (-26), 3) := by decide +kernel
theorem dX3_takeLowest_39 : decode cX3_takeLowest 39 = .ok (.iload 4, 2) := by decide +kernel
theorem dX3_takeLowest_41 : decode cX3_takeLowest 41 = .ok (.ifCond .lt 30, 3) := by decide +kernel
theorem dX3_takeLowest_44 : decode cX3_takeLowest 44 = .ok (.iload_n 1, 1) := by decide +kernel
theorem dX3_takeLowest_45 : decode cX3_takeLowest 45 = .ok (.ifCond .lt 26, 3) := by decide +kernel
theorem dX3_takeLowest_48 : decode cX3_takeLowest 48 = .ok (.iload_n 1, 1) := by decide +kernel
theorem dX3_takeLowest_49 : decode cX3_takeLowest 49 = .ok (.bipush 8, 2) := by decide +kernel
theorem dX3_takeLowest_51 : decode cX3_takeLowest 51 = .ok (.if_icmp .ge 20, 3) := by decide +kernel
theorem dX3_takeLowest_54 : decode cX3_takeLowest 54 = .ok (.aload_n 0, 1) := by decide +kernel
theorem dX3_takeLowest_55 : decode cX3_takeLowest 55 = .ok (.getfield 15, 3) := by decide +kernel
theorem dX3_takeLowest_58 : decode cX3_takeLowest 58 = .ok (.iload_n 1, 1) := by decide +kernel
theorem dX3_takeLowest_59 : decode cX3_takeLowest 59 = .ok (.iload 4, 2) := by decide +kernel
theorem dX3_takeLowest_61 : decode cX3_takeLowest 61 = .ok (.iastore, 1) := by decide +kernel
theorem dX3_takeLowest_62 : decode cX3_takeLowest 62 = .ok (.aload_n 0, 1) := by decide +kernel
theorem dX3_takeLowest_63 : decode cX3_takeLowest 63 = .ok (.getfield 9, 3) := by decide +kernel
theorem dX3_takeLowest_66 : decode cX3_takeLowest 66 = .ok (.iload 4, 2) := by decide +kernel
theorem dX3_takeLowest_68 : decode cX3_takeLowest 68 = .ok (.bipush (-4), 2) := by decide +kernel
theorem dX3_takeLowest_70 : decode cX3_takeLowest 70 = .ok (.iastore, 1) := by decide +kernel
theorem dX3_takeLowest_71 : decode cX3_takeLowest 71 = .ok (.iload_n 3, 1) := by decide +kernel
theorem dX3_takeLowest_72 : decode cX3_takeLowest 72 = .ok (.ireturn, 1) := by decide +kernel
def f_G_takeLowest_10 (N nx : Nat) (D : Dt) (P : Ft) (a0 : Nat) (i1 : Int32) (i2 : Int32) (rec10 : Int32 → Int32 → Int32 → Option (Int32 × Dt)) (i3 : Int32) (i4 : Int32) (i5 : Int32) : Option (Int32 × Dt) :=
  if i5 < 0 then
    if i4 < 0 then
      some (i3, D)
    else
      if i1 < 0 then
        some (i3, D)
      else
        if 8 ≤ i1 then
          some (i3, D)
        else
          nn (P a0 1) fun q1 =>
          if ab nx q1 3 i1 = true then
          pas (upd2 D q1 i1.toNatClampNeg i4) fun D2 =>
          nn (P a0 0) fun q3 =>
          if ab nx q3 3 i4 = true then
          pas (upd2 D2 q3 i4.toNatClampNeg (-4)) fun D4 =>
          some (i3, D4)
          else none
          else none
  else
    nn (P a0 0) fun q8 =>
    if ab nx q8 3 i5 = true then
    if D q8 i5.toNatClampNeg = i2 then
      rec10 (i3 + 1) i5 (i5 + (-1))
    else
      rec10 i3 i4 (i5 + (-1))
    else none
def f_G_takeLowest (N nx : Nat) (D : Dt) (P : Ft) (a0 : Nat) (i1 : Int32) (i2 : Int32) : Option (Int32 × Dt) :=
  if kd nx a0 = 3 then
  wk3 N (f_G_takeLowest_10 N nx D P a0 i1 i2) 0 (-4) 7
  else none
theorem m_G_takeLowest : MV yX3_takeLowest cX3_takeLowest 6 (some .int) 2 := ⟨mT 787 (by decide +kernel) rfl, mT 786 (by decide +kernel) rfl, mT 14 (by decide +kernel) rfl, mT 61 (by decide +kernel) rfl, by decide +kernel, by decide +kernel, by decide +kernel⟩
set_option maxHeartbeats 4000000 in
set_option maxRecDepth 100000 in
theorem c_G_takeLowest (l : Launch) (cx : Cx) (nx N : Nat) (D : Dt) (P : Ft) (a0 : Nat) (i1 : Int32) (i2 : Int32) (z : Int32 × Dt) (h : f_G_takeLowest N nx D P a0 i1 i2 = some z) : Ct l cx yX3_takeLowest cX3_takeLowest 6 (some .int) 0 [.ref (cx.2.2 + a0), .int i1, .int i2] D P nx (some (.int z.1)) z.2 P := by
  refine x_met0 (by decide) (Nat.le_of_ble_eq_true rfl) ?_
  intro p e s m args below meth c X
  have X : XC p s m args meth c cx cX3_takeLowest 6 (some .int) "HeartPins$Matching" "takeLowest" := X
  refine XW.sub (lv' := [(0, .ref (cx.2.2 + a0)), (1, .int i1), (2, .int i2)]) [0, 1, 2] rfl ?_
  unfold f_G_takeLowest at h
  obtain ⟨hk0, h⟩ := grd h
  have hL10 : ∀ (D : Dt) (n : Nat) (i3 : Int32) (i4 : Int32) (i5 : Int32), wk3 n (f_G_takeLowest_10 N nx D P a0 i1 i2) i3 i4 i5 = some z → XW p l e (rmk 0) s m args below meth c (MQ below (Qx cx (some (.int z.1)) z.2 P nx) args s 0 0 (AA cx)) cx 6 D P nx 0 0 10 [(0, .ref (cx.2.2 + a0)), (1, .int i1), (2, .int i2), (3, .int i3), (4, .int i4), (5, .int i5)] [] := by
    intro D n
    induction n with
    | zero => intro i3 i4 i5 h; exact (nonz h).elim
    | succ n ih10 =>
      intro i3 i4 i5 h
      have h : f_G_takeLowest_10 N nx D P a0 i1 i2 (wk3 n (f_G_takeLowest_10 N nx D P a0 i1 i2)) i3 i4 i5 = some z := h
      generalize wk3 n (f_G_takeLowest_10 N nx D P a0 i1 i2) = rec10 at ih10 h
      unfold f_G_takeLowest_10 at h
      refine x_iload (pc := 10) X dX3_takeLowest_10 5 rfl ?_
      refine x_if_lt (tgt := 39) (pc := 12) X dX3_takeLowest_12 (by decide) (fun c11 => ?_) (fun c11 => ?_)
      · have h := ite_t c11 h
        refine x_iload (pc := 39) X dX3_takeLowest_39 4 rfl ?_
        refine x_if_lt (tgt := 71) (pc := 41) X dX3_takeLowest_41 (by decide) (fun c7 => ?_) (fun c7 => ?_)
        · have h := ite_t c7 h
          refine x_iload_n (pc := 71) X dX3_takeLowest_71 (i := 3) rfl 3 rfl ?_
          obtain rfl := Option.some.inj h
          exact x_iret (pc := 72) X dX3_takeLowest_72
        · have h := ite_f c7 h
          refine x_iload_n (pc := 44) X dX3_takeLowest_44 (i := 1) rfl 1 rfl ?_
          refine x_if_lt (tgt := 71) (pc := 45) X dX3_takeLowest_45 (by decide) (fun c6 => ?_) (fun c6 => ?_)
          · have h := ite_t c6 h
            refine x_iload_n (pc := 71) X dX3_takeLowest_71 (i := 3) rfl 3 rfl ?_
            obtain rfl := Option.some.inj h
            exact x_iret (pc := 72) X dX3_takeLowest_72
          · have h := ite_f c6 h
            refine x_iload_n (pc := 48) X dX3_takeLowest_48 (i := 1) rfl 1 rfl ?_
            refine x_bipush (v := 8) (pc := 49) X dX3_takeLowest_49 (by decide) ?_
            refine x_icmp_ge (tgt := 71) (pc := 51) X dX3_takeLowest_51 (by decide) (fun c5 => ?_) (fun c5 => ?_)
            · have h := ite_t c5 h
              refine x_iload_n (pc := 71) X dX3_takeLowest_71 (i := 3) rfl 3 rfl ?_
              obtain rfl := Option.some.inj h
              exact x_iret (pc := 72) X dX3_takeLowest_72
            · have h := ite_f c5 h
              refine x_aload_n (pc := 54) X dX3_takeLowest_54 (i := 0) rfl 0 rfl ?_
              obtain ⟨q1, e1, h⟩ := nns h
              refine x_getr (ci := 3) (k := 1) (n := 4) (C := RX3) (T := TX3) (pc := 55) X dX3_takeLowest_55 hk0 rfl (by decide) w_226 rfl e1 ?_
              refine x_iload_n (pc := 58) X dX3_takeLowest_58 (i := 1) rfl 1 rfl ?_
              refine x_iload (pc := 59) X dX3_takeLowest_59 4 rfl ?_
              obtain ⟨g2, h⟩ := grd h
              obtain ⟨D2, w2, h⟩ := pass h
              refine x_iast (D' := D2) (pc := 61) X dX3_takeLowest_61 g2 w2 ?_
              refine x_aload_n (pc := 62) X dX3_takeLowest_62 (i := 0) rfl 0 rfl ?_
              obtain ⟨q3, e3, h⟩ := nns h
              refine x_getr (ci := 3) (k := 0) (n := 4) (C := RX3) (T := TX3) (pc := 63) X dX3_takeLowest_63 hk0 rfl (by decide) w_225 rfl e3 ?_
              refine x_iload (pc := 66) X dX3_takeLowest_66 4 rfl ?_
              refine x_bipush (v := (-4)) (pc := 68) X dX3_takeLowest_68 (by decide) ?_
              obtain ⟨g4, h⟩ := grd h
              obtain ⟨D4, w4, h⟩ := pass h
              refine x_iast (D' := D4) (pc := 70) X dX3_takeLowest_70 g4 w4 ?_
              refine x_iload_n (pc := 71) X dX3_takeLowest_71 (i := 3) rfl 3 rfl ?_
              obtain rfl := Option.some.inj h
              exact x_iret (pc := 72) X dX3_takeLowest_72
      · have h := ite_f c11 h
        refine x_aload_n (pc := 15) X dX3_takeLowest_15 (i := 0) rfl 0 rfl ?_
        obtain ⟨q8, e8, h⟩ := nns h
        refine x_getr (ci := 3) (k := 0) (n := 4) (C := RX3) (T := TX3) (pc := 16) X dX3_takeLowest_16 hk0 rfl (by decide) w_225 rfl e8 ?_
        refine x_iload (pc := 19) X dX3_takeLowest_19 5 rfl ?_
        obtain ⟨g9, h⟩ := grd h
        refine x_iald (pc := 21) X dX3_takeLowest_21 g9 ?_
        refine x_iload_n (pc := 22) X dX3_takeLowest_22 (i := 2) rfl 2 rfl ?_
        refine x_icmp_ne (tgt := 33) (pc := 23) X dX3_takeLowest_23 (by decide) (fun c10 => ?_) (fun c10 => ?_)
        · have h := ite_f c10 h
          refine x_iinc (v := i5 + (-1)) (lv' := [(5, .int (i5 + (-1))), (0, .ref (cx.2.2 + a0)), (1, .int i1), (2, .int i2), (3, .int i3), (4, .int i4)]) (pc := 33) X dX3_takeLowest_33 5 rfl rfl (by decide) rfl ?_
          refine x_goto (tgt := 10) (pc := 36) X dX3_takeLowest_36 (by decide) ?_
          exact XW.sub [1, 2, 3, 4, 5, 0] rfl (ih10 _ _ _ h)
        · have h := ite_t c10 h
          refine x_iinc (v := i3 + 1) (lv' := [(3, .int (i3 + 1)), (0, .ref (cx.2.2 + a0)), (1, .int i1), (2, .int i2), (4, .int i4), (5, .int i5)]) (pc := 26) X dX3_takeLowest_26 3 rfl rfl (by decide) rfl ?_
          refine x_iload (pc := 29) X dX3_takeLowest_29 5 rfl ?_
          refine x_istore (lv' := [(4, .int i5), (3, .int (i3 + 1)), (0, .ref (cx.2.2 + a0)), (1, .int i1), (2, .int i2), (5, .int i5)]) (pc := 31) X dX3_takeLowest_31 (by decide) rfl ?_
          refine x_iinc (v := i5 + (-1)) (lv' := [(5, .int (i5 + (-1))), (4, .int i5), (3, .int (i3 + 1)), (0, .ref (cx.2.2 + a0)), (1, .int i1), (2, .int i2)]) (pc := 33) X dX3_takeLowest_33 5 rfl rfl (by decide) rfl ?_
          refine x_goto (tgt := 10) (pc := 36) X dX3_takeLowest_36 (by decide) ?_
          exact XW.sub [3, 4, 5, 2, 1, 0] rfl (ih10 _ _ _ h)
  refine x_iconst (v := 0) (pc := 0) X dX3_takeLowest_0 (by decide) ?_
  refine x_istore_n (lv' := [(3, .int 0), (0, .ref (cx.2.2 + a0)), (1, .int i1), (2, .int i2)]) (pc := 1) X dX3_takeLowest_1 (i := 3) rfl (by decide) rfl ?_
  refine x_bipush (v := (-4)) (pc := 2) X dX3_takeLowest_2 (by decide) ?_
  refine x_istore (lv' := [(4, .int (-4)), (3, .int 0), (0, .ref (cx.2.2 + a0)), (1, .int i1), (2, .int i2)]) (pc := 4) X dX3_takeLowest_4 (by decide) rfl ?_
  refine x_bipush (v := 7) (pc := 6) X dX3_takeLowest_6 (by decide) ?_
  refine x_istore (lv' := [(5, .int 7), (4, .int (-4)), (3, .int 0), (0, .ref (cx.2.2 + a0)), (1, .int i1), (2, .int i2)]) (pc := 8) X dX3_takeLowest_8 (by decide) rfl ?_
  exact XW.sub [3, 4, 5, 2, 1, 0] rfl (hL10 _ _ _ _ _ h)
theorem dX3_find_0 : decode cX3_find 0 = .ok (.iconst 0, 1) := by decide +kernel
theorem dX3_find_1 : decode cX3_find 1 = .ok (.istore 4, 2) := by decide +kernel
theorem dX3_find_3 : decode cX3_find 3 = .ok (.iload 4, 2) := by decide +kernel
theorem dX3_find_5 : decode cX3_find 5 = .ok (.bipush 8, 2) := by decide +kernel
theorem dX3_find_7 : decode cX3_find 7 = .ok (.if_icmp .ge 65, 3) := by decide +kernel
theorem dX3_find_10 : decode cX3_find 10 = .ok (.aload_n 1, 1) := by decide +kernel
theorem dX3_find_11 : decode cX3_find 11 = .ok (.iload 4, 2) := by decide +kernel
theorem dX3_find_13 : decode cX3_find 13 = .ok (.invokevirtual 18, 3) := by decide +kernel
theorem dX3_find_16 : decode cX3_find 16 = .ok (.ifCond .lt 7, 3) := by decide +kernel
theorem dX3_find_19 : decode cX3_find 19 = .ok (.iconst 1, 1) := by decide +kernel
theorem dX3_find_20 : decode cX3_find 20 = .ok (.goto 4, 3) := by decide +kernel
theorem dX3_find_23 : decode cX3_find 23 = .ok (.iconst 0, 1) := by decide +kernel
theorem dX3_find_24 : decode cX3_find 24 = .ok (.istore 5, 2) := by decide +kernel
theorem dX3_find_26 : decode cX3_find 26 = .ok (.aload_n 0, 1) := by decide +kernel
theorem dX3_find_27 : decode cX3_find 27 = .ok (.getfield 9, 3) := by decide +kernel
theorem dX3_find_30 : decode cX3_find 30 = .ok (.iload 4, 2) := by decide +kernel
theorem dX3_find_32 : decode cX3_find 32 = .ok (.iload 5, 2) := by decide +kernel
theorem dX3_find_34 : decode cX3_find 34 = .ok (.ifCond .eq 29, 3) := by decide +kernel
theorem dX3_find_37 : decode cX3_find 37 = .ok (.aload_n 1, 1) := by decide +kernel
theorem dX3_find_38 : decode cX3_find 38 = .ok (.getfield 24, 3) := by decide +kernel
theorem dX3_find_41 : decode cX3_find 41 = .ok (.iload 4, 2) := by decide +kernel
theorem dX3_find_43 : decode cX3_find 43 = .ok (.invokevirtual 28, 3) := by decide +kernel
theorem dX3_find_46 : decode cX3_find 46 = .ok (.aload_n 1, 1) := by decide +kernel
theorem dX3_find_47 : decode cX3_find 47 = .ok (.iload 4, 2) := by decide +kernel
theorem dX3_find_49 : decode cX3_find 49 = .ok (.invokevirtual 33, 3) := by decide +kernel
theorem dX3_find_52 : decode cX3_find 52 = .ok (.aload_n 1, 1) := by decide +kernel
theorem dX3_find_53 : decode cX3_find 53 = .ok (.getfield 36, 3) := by decide +kernel
theorem dX3_find_56 : decode cX3_find 56 = .ok (.iload_n 3, 1) := by decide +kernel
theorem dX3_find_57 : decode cX3_find 57 = .ok (.invokestatic 40, 3) := by decide +kernel
theorem dX3_find_60 : decode cX3_find 60 = .ok (.goto 5, 3) := by decide +kernel
theorem dX3_find_63 : decode cX3_find 63 = .ok (.bipush (-4), 2) := by decide +kernel
theorem dX3_find_65 : decode cX3_find 65 = .ok (.iastore, 1) := by decide +kernel
theorem dX3_find_66 : decode cX3_find 66 = .ok (.iinc 4 1, 3) := by decide +kernel
theorem dX3_find_69 : decode cX3_find 69 = .ok (.goto (-66), 3) := by decide +kernel
theorem dX3_find_72 : decode cX3_find 72 = .ok (.aload_n 0, 1) := by decide +kernel
theorem dX3_find_73 : decode cX3_find 73 = .ok (.aload_n 2, 1) := by decide +kernel
theorem dX3_find_74 : decode cX3_find 74 = .ok (.getfield 44, 3) := by decide +kernel
theorem dX3_find_77 : decode cX3_find 77 = .ok (.putfield 49, 3) := by decide +kernel
theorem dX3_find_80 : decode cX3_find 80 = .ok (.aload_n 0, 1) := by decide +kernel
theorem dX3_find_81 : decode cX3_find 81 = .ok (.aload_n 1, 1) := by decide +kernel
theorem dX3_find_82 : decode cX3_find 82 = .ok (.invokevirtual 50, 3) := by decide +kernel
theorem dX3_find_85 : decode cX3_find 85 = .ok (.aload_n 0, 1) := by decide +kernel
theorem dX3_find_86 : decode cX3_find 86 = .ok (.getfield 49, 3) := by decide +kernel
theorem dX3_find_89 : decode cX3_find 89 = .ok (.if_icmp .ne 7, 3) := by decide +kernel
theorem dX3_find_92 : decode cX3_find 92 = .ok (.iconst 1, 1) := by decide +kernel
theorem dX3_find_93 : decode cX3_find 93 = .ok (.goto 4, 3) := by decide +kernel
theorem dX3_find_96 : decode cX3_find 96 = .ok (.iconst 0, 1) := by decide +kernel
theorem dX3_find_97 : decode cX3_find 97 = .ok (.putfield 54, 3) := by decide +kernel
theorem dX3_find_100 : decode cX3_find 100 = .ok (.iconst 0, 1) := by decide +kernel
theorem dX3_find_101 : decode cX3_find 101 = .ok (.istore 4, 2) := by decide +kernel
theorem dX3_find_103 : decode cX3_find 103 = .ok (.iload 4, 2) := by decide +kernel
theorem dX3_find_105 : decode cX3_find 105 = .ok (.aload_n 0, 1) := by decide +kernel
theorem dX3_find_106 : decode cX3_find 106 = .ok (.getfield 49, 3) := by decide +kernel
theorem dX3_find_109 : decode cX3_find 109 = .ok (.if_icmp .ge 37, 3) := by decide +kernel
theorem dX3_find_112 : decode cX3_find 112 = .ok (.iload 4, 2) := by decide +kernel
theorem dX3_find_114 : decode cX3_find 114 = .ok (.bipush 8, 2) := by decide +kernel
theorem dX3_find_116 : decode cX3_find 116 = .ok (.if_icmp .ge 30, 3) := by decide +kernel
theorem dX3_find_119 : decode cX3_find 119 = .ok (.aload_n 0, 1) := by decide +kernel
theorem dX3_find_120 : decode cX3_find 120 = .ok (.dup, 1) := by decide +kernel
theorem dX3_find_121 : decode cX3_find 121 = .ok (.getfield 54, 3) := by decide +kernel
theorem dX3_find_124 : decode cX3_find 124 = .ok (.aload_n 0, 1) := by decide +kernel
theorem dX3_find_125 : decode cX3_find 125 = .ok (.iload 4, 2) := by decide +kernel
theorem dX3_find_127 : decode cX3_find 127 = .ok (.aload_n 2, 1) := by decide +kernel
theorem dX3_find_128 : decode cX3_find 128 = .ok (.iload 4, 2) := by decide +kernel
theorem dX3_find_130 : decode cX3_find 130 = .ok (.invokevirtual 57, 3) := by decide +kernel
theorem dX3_find_133 : decode cX3_find 133 = .ok (.invokevirtual 60, 3) := by decide +kernel
theorem dX3_find_136 : decode cX3_find 136 = .ok (.imul, 1) := by decide +kernel
theorem dX3_find_137 : decode cX3_find 137 = .ok (.putfield 54, 3) := by decide +kernel
theorem dX3_find_140 : decode cX3_find 140 = .ok (.iinc 4 1, 3) := by decide +kernel
theorem dX3_find_143 : decode cX3_find 143 = .ok (.goto (-40), 3) := by decide +kernel
theorem dX3_find_146 : decode cX3_find 146 = .ok (.return_, 1) := by decide +kernel
def f_G_find_103 (N nx : Nat) (P : Ft) (a0 : Nat) (a2 : Nat) (rec103 : Dt → Int32 → Option Dt) (D : Dt) (i4 : Int32) : Option Dt :=
  if D a0 2 ≤ i4 then
    some D
  else
    if 8 ≤ i4 then
      some D
    else
      if kd nx a2 = 4 then
      (f_N_markAt N nx D P a2 i4).bind fun z6 =>
      (f_G_takeLowest N nx D P a0 i4 z6).bind fun z8 =>
      pas (upd2 z8.2 a0 3 ((D a0 3) * z8.1)) fun D9 =>
      rec103 D9 (i4 + 1)
      else none
def f_G_find_24 (N nx : Nat) (rec3 : Dt → Int32 → Option Dt) (D : Dt) (P : Ft) (a0 : Nat) (a1 : Nat) (a2 : Nat) (i3 : Int32) (i4 : Int32) (s0 : Int32) : Option Dt :=
  nn (P a0 0) fun q16 =>
  if s0 = 0 then
    if ab nx q16 3 i4 = true then
    pas (upd2 D q16 i4.toNatClampNeg (-4)) fun D17 =>
    rec3 D17 (i4 + 1)
    else none
  else
    if kd nx a1 = 7 then
    nn (P a1 0) fun q19 =>
    if kd nx q19 = 1 then
    (f_F_kindOf N nx D P q19 i4).bind fun z20 =>
    (f_C_largeOf N nx D P a1 i4).bind fun z22 =>
    (f_H_largeBehind N nx D P z20 z22 (D a1 4) i3).bind fun z23 =>
    if ab nx q16 3 i4 = true then
    pas (upd2 D q16 i4.toNatClampNeg z23) fun D24 =>
    rec3 D24 (i4 + 1)
    else none
    else none
    else none
def f_G_find_3 (N nx : Nat) (P : Ft) (a0 : Nat) (a1 : Nat) (a2 : Nat) (i3 : Int32) (rec3 : Dt → Int32 → Option Dt) (D : Dt) (i4 : Int32) : Option Dt :=
  if 8 ≤ i4 then
    if kd nx a2 = 4 then
    pas (upd2 D a0 2 (D a2 5)) fun D2 =>
    if kd nx a1 = 7 then
    (f_C_howManyBorne N nx D2 P a1).bind fun z3 =>
    if z3 = D2 a0 2 then
      pas (upd2 D2 a0 3 1) fun D12 =>
      wk2 N (f_G_find_103 N nx P a0 a2) D12 0
    else
      pas (upd2 D2 a0 3 0) fun D5 =>
      wk2 N (f_G_find_103 N nx P a0 a2) D5 0
    else none
    else none
  else
    if kd nx a1 = 7 then
    (f_C_whereIs N nx D P a1 i4).bind fun z14 =>
    if z14 < 0 then
      f_G_find_24 N nx rec3 D P a0 a1 a2 i3 i4 0
    else
      f_G_find_24 N nx rec3 D P a0 a1 a2 i3 i4 1
    else none
def f_G_find (N nx : Nat) (D : Dt) (P : Ft) (a0 : Nat) (a1 : Nat) (a2 : Nat) (i3 : Int32) : Option Dt :=
  if kd nx a0 = 3 then
  wk2 N (f_G_find_3 N nx P a0 a1 a2 i3) D 0
  else none
theorem m_G_find : MV yX3_find cX3_find 6 none 3 := ⟨mT 769 (by decide +kernel) rfl, mT 767 (by decide +kernel) rfl, mT 768 (by decide +kernel) rfl, mT 61 (by decide +kernel) rfl, by decide +kernel, by decide +kernel, by decide +kernel⟩
set_option maxHeartbeats 4000000 in
set_option maxRecDepth 100000 in
theorem c_G_find (l : Launch) (cx : Cx) (nx N : Nat) (D : Dt) (P : Ft) (a0 : Nat) (a1 : Nat) (a2 : Nat) (i3 : Int32) (z : Dt) (h : f_G_find N nx D P a0 a1 a2 i3 = some z) : Ct l cx yX3_find cX3_find 6 none 3 [.ref (cx.2.2 + a0), .ref (cx.2.2 + a1), .ref (cx.2.2 + a2), .int i3] D P nx none z P := by
  refine x_met0 (by decide) (Nat.le_of_ble_eq_true rfl) ?_
  intro p e s m args below meth c X
  have X : XC p s m args meth c cx cX3_find 6 none "HeartPins$Matching" "find" := X
  refine XW.sub (lv' := [(0, .ref (cx.2.2 + a0)), (1, .ref (cx.2.2 + a1)), (2, .ref (cx.2.2 + a2)), (3, .int i3)]) [0, 1, 2, 3] rfl ?_
  unfold f_G_find at h
  obtain ⟨hk0, h⟩ := grd h
  have hL103 : ∀ (n : Nat) (D : Dt) (i4 : Int32), wk2 n (f_G_find_103 N nx P a0 a2) D i4 = some z → XW p l e (rmk 3) s m args below meth c (MQ below (Qx cx none z P nx) args s 0 0 (AA cx)) cx 6 D P nx 0 0 103 [(0, .ref (cx.2.2 + a0)), (2, .ref (cx.2.2 + a2)), (4, .int i4)] [] := by
    intro n
    induction n with
    | zero => intro D i4 h; exact (nonz h).elim
    | succ n ih103 =>
      intro D i4 h
      have h : f_G_find_103 N nx P a0 a2 (wk2 n (f_G_find_103 N nx P a0 a2)) D i4 = some z := h
      generalize wk2 n (f_G_find_103 N nx P a0 a2) = rec103 at ih103 h
      unfold f_G_find_103 at h
      refine x_iload (pc := 103) X dX3_find_103 2 rfl ?_
      refine x_aload_n (pc := 105) X dX3_find_105 (i := 0) rfl 0 rfl ?_
      refine x_geti (ci := 3) (k := 2) (n := 4) (C := RX3) (T := TX3) (pc := 106) X dX3_find_106 hk0 rfl (by decide) w_227 rfl ?_
      refine x_icmp_ge (tgt := 146) (pc := 109) X dX3_find_109 (by decide) (fun c11 => ?_) (fun c11 => ?_)
      · have h := ite_t c11 h
        obtain rfl := Option.some.inj h
        exact x_vret (pc := 146) X dX3_find_146
      · have h := ite_f c11 h
        refine x_iload (pc := 112) X dX3_find_112 2 rfl ?_
        refine x_bipush (v := 8) (pc := 114) X dX3_find_114 (by decide) ?_
        refine x_icmp_ge (tgt := 146) (pc := 116) X dX3_find_116 (by decide) (fun c10 => ?_) (fun c10 => ?_)
        · have h := ite_t c10 h
          obtain rfl := Option.some.inj h
          exact x_vret (pc := 146) X dX3_find_146
        · have h := ite_f c10 h
          refine x_aload_n (pc := 119) X dX3_find_119 (i := 0) rfl 0 rfl ?_
          refine x_dup (pc := 120) X dX3_find_120 rfl ?_
          refine x_geti (ci := 3) (k := 3) (n := 4) (C := RX3) (T := TX3) (pc := 121) X dX3_find_121 hk0 rfl (by decide) w_228 rfl ?_
          refine x_aload_n (pc := 124) X dX3_find_124 (i := 0) rfl 0 rfl ?_
          refine x_iload (pc := 125) X dX3_find_125 2 rfl ?_
          refine x_aload_n (pc := 127) X dX3_find_127 (i := 2) rfl 1 rfl ?_
          refine x_iload (pc := 128) X dX3_find_128 2 rfl ?_
          obtain ⟨k7, h⟩ := grd h
          obtain ⟨z6, e6, h⟩ := bnds h
          refine x_callV (pc := 130) (As := [.int i4]) (st := [.int i4, .ref (cx.2.2 + a0), .int (D a0 3), .ref (cx.2.2 + a0)]) (st' := [.int z6, .int i4, .ref (cx.2.2 + a0), .int (D a0 3), .ref (cx.2.2 + a0)]) X (c_N_markAt l cx nx N D P _ _ z6 e6) dX3_find_130 w_780 m_N_markAt rfl k7 (ci := 4) rfl rfl ⟨by decide, by decide⟩ ⟨Nat.zero_le _, Nat.zero_le _⟩ rfl (Nat.le_of_ble_eq_true rfl) rfl ?_
          obtain ⟨z8, e8, h⟩ := bnds h
          refine x_callV (pc := 133) (As := [.int i4, .int z6]) (st := [.int (D a0 3), .ref (cx.2.2 + a0)]) (st' := [.int z8.1, .int (D a0 3), .ref (cx.2.2 + a0)]) X (c_G_takeLowest l cx nx N D P _ _ _ z8 e8) dX3_find_133 w_784 m_G_takeLowest rfl hk0 (ci := 3) rfl rfl ⟨by decide, by decide⟩ ⟨Nat.zero_le _, Nat.zero_le _⟩ rfl (Nat.le_of_ble_eq_true rfl) rfl ?_
          refine x_imul (pc := 136) X dX3_find_136 ?_
          obtain ⟨D9, w9, h⟩ := pass h
          refine x_puti (ci := 3) (k := 3) (n := 4) (C := RX3) (T := TX3) (D' := D9) (pc := 137) X dX3_find_137 hk0 rfl (by decide) w_228 rfl (by decide +kernel) rfl w9 ?_
          refine x_iinc (v := i4 + 1) (lv' := [(4, .int (i4 + 1)), (0, .ref (cx.2.2 + a0)), (2, .ref (cx.2.2 + a2))]) (pc := 140) X dX3_find_140 2 rfl rfl (by decide) rfl ?_
          refine x_goto (tgt := 103) (pc := 143) X dX3_find_143 (by decide) ?_
          exact XW.sub [1, 2, 0] rfl (ih103 _ _ h)
  have hL3 : ∀ (n : Nat) (D : Dt) (i4 : Int32), wk2 n (f_G_find_3 N nx P a0 a1 a2 i3) D i4 = some z → XW p l e (rmk 3) s m args below meth c (MQ below (Qx cx none z P nx) args s 0 0 (AA cx)) cx 6 D P nx 0 0 3 [(0, .ref (cx.2.2 + a0)), (1, .ref (cx.2.2 + a1)), (2, .ref (cx.2.2 + a2)), (3, .int i3), (4, .int i4)] [] := by
    intro n
    induction n with
    | zero => intro D i4 h; exact (nonz h).elim
    | succ n ih3 =>
      intro D i4 h
      have h : f_G_find_3 N nx P a0 a1 a2 i3 (wk2 n (f_G_find_3 N nx P a0 a1 a2 i3)) D i4 = some z := h
      generalize wk2 n (f_G_find_3 N nx P a0 a1 a2 i3) = rec3 at ih3 h
      unfold f_G_find_3 at h
      have hJ24 : ∀ (D : Dt) (i4 : Int32) (s0 : Int32), f_G_find_24 N nx rec3 D P a0 a1 a2 i3 i4 s0 = some z → XW p l e (rmk 3) s m args below meth c (MQ below (Qx cx none z P nx) args s 0 0 (AA cx)) cx 6 D P nx 0 0 24 [(0, .ref (cx.2.2 + a0)), (1, .ref (cx.2.2 + a1)), (2, .ref (cx.2.2 + a2)), (3, .int i3), (4, .int i4)] [.int s0] := by
        intro D i4 s0 h
        unfold f_G_find_24 at h
        refine x_istore (lv' := [(5, .int s0), (0, .ref (cx.2.2 + a0)), (1, .ref (cx.2.2 + a1)), (2, .ref (cx.2.2 + a2)), (3, .int i3), (4, .int i4)]) (pc := 24) X dX3_find_24 (by decide) rfl ?_
        refine x_aload_n (pc := 26) X dX3_find_26 (i := 0) rfl 1 rfl ?_
        obtain ⟨q16, e16, h⟩ := nns h
        refine x_getr (ci := 3) (k := 0) (n := 4) (C := RX3) (T := TX3) (pc := 27) X dX3_find_27 hk0 rfl (by decide) w_225 rfl e16 ?_
        refine x_iload (pc := 30) X dX3_find_30 5 rfl ?_
        refine x_iload (pc := 32) X dX3_find_32 0 rfl ?_
        refine x_if_eq (tgt := 63) (pc := 34) X dX3_find_34 (by decide) (fun c25 => ?_) (fun c25 => ?_)
        · have h := ite_t c25 h
          refine x_bipush (v := (-4)) (pc := 63) X dX3_find_63 (by decide) ?_
          obtain ⟨g17, h⟩ := grd h
          obtain ⟨D17, w17, h⟩ := pass h
          refine x_iast (D' := D17) (pc := 65) X dX3_find_65 g17 w17 ?_
          refine x_iinc (v := i4 + 1) (lv' := [(4, .int (i4 + 1)), (5, .int s0), (0, .ref (cx.2.2 + a0)), (1, .ref (cx.2.2 + a1)), (2, .ref (cx.2.2 + a2)), (3, .int i3)]) (pc := 66) X dX3_find_66 5 rfl rfl (by decide) rfl ?_
          refine x_goto (tgt := 3) (pc := 69) X dX3_find_69 (by decide) ?_
          exact XW.sub [2, 3, 4, 5, 0] rfl (ih3 _ _ h)
        · have h := ite_f c25 h
          refine x_aload_n (pc := 37) X dX3_find_37 (i := 1) rfl 2 rfl ?_
          obtain ⟨k18, h⟩ := grd h
          obtain ⟨q19, e19, h⟩ := nns h
          refine x_getr (ci := 7) (k := 0) (n := 5) (C := RX7) (T := TX7) (pc := 38) X dX3_find_38 k18 rfl (by decide) w_152 rfl e19 ?_
          refine x_iload (pc := 41) X dX3_find_41 5 rfl ?_
          obtain ⟨k21, h⟩ := grd h
          obtain ⟨z20, e20, h⟩ := bnds h
          refine x_callV (pc := 43) (As := [.int i4]) (st := [.int i4, .ref (cx.2.2 + q16)]) (st' := [.int z20, .int i4, .ref (cx.2.2 + q16)]) X (c_F_kindOf l cx nx N D P _ _ z20 e20) dX3_find_43 w_771 m_F_kindOf rfl k21 (ci := 1) rfl rfl ⟨by decide, by decide⟩ ⟨Nat.zero_le _, Nat.zero_le _⟩ rfl (Nat.le_of_ble_eq_true rfl) rfl ?_
          refine x_aload_n (pc := 46) X dX3_find_46 (i := 1) rfl 2 rfl ?_
          refine x_iload (pc := 47) X dX3_find_47 5 rfl ?_
          obtain ⟨z22, e22, h⟩ := bnds h
          refine x_callV (pc := 49) (As := [.int i4]) (st := [.int z20, .int i4, .ref (cx.2.2 + q16)]) (st' := [.int z22, .int z20, .int i4, .ref (cx.2.2 + q16)]) X (c_C_largeOf l cx nx N D P _ _ z22 e22) dX3_find_49 w_772 m_C_largeOf rfl k18 (ci := 7) rfl rfl ⟨by decide, by decide⟩ ⟨Nat.zero_le _, Nat.zero_le _⟩ rfl (Nat.le_of_ble_eq_true rfl) rfl ?_
          refine x_aload_n (pc := 52) X dX3_find_52 (i := 1) rfl 2 rfl ?_
          refine x_geti (ci := 7) (k := 4) (n := 5) (C := RX7) (T := TX7) (pc := 53) X dX3_find_53 k18 rfl (by decide) w_157 rfl ?_
          refine x_iload_n (pc := 56) X dX3_find_56 (i := 3) rfl 4 rfl ?_
          obtain ⟨z23, e23, h⟩ := bnds h
          refine x_callSN (pc := 57) (As := [.int z20, .int z22, .int (D a1 4), .int i3]) (st := [.int i4, .ref (cx.2.2 + q16)]) (st' := [.int z23, .int i4, .ref (cx.2.2 + q16)]) (host := "HeartPins") X (c_H_largeBehind l cx nx N D P _ _ _ _ z23 e23) dX3_find_57 (List.mem_of_getElem? (i := 10) rfl) m_H_largeBehind rfl ⟨by decide, by decide⟩ ⟨Nat.zero_le _, Nat.zero_le _⟩ rfl (Nat.le_of_ble_eq_true rfl) rfl ?_
          refine x_goto (tgt := 65) (pc := 60) X dX3_find_60 (by decide) ?_
          obtain ⟨g24, h⟩ := grd h
          obtain ⟨D24, w24, h⟩ := pass h
          refine x_iast (D' := D24) (pc := 65) X dX3_find_65 g24 w24 ?_
          refine x_iinc (v := i4 + 1) (lv' := [(4, .int (i4 + 1)), (5, .int s0), (0, .ref (cx.2.2 + a0)), (1, .ref (cx.2.2 + a1)), (2, .ref (cx.2.2 + a2)), (3, .int i3)]) (pc := 66) X dX3_find_66 5 rfl rfl (by decide) rfl ?_
          refine x_goto (tgt := 3) (pc := 69) X dX3_find_69 (by decide) ?_
          exact XW.sub [2, 3, 4, 5, 0] rfl (ih3 _ _ h)
      refine x_iload (pc := 3) X dX3_find_3 4 rfl ?_
      refine x_bipush (v := 8) (pc := 5) X dX3_find_5 (by decide) ?_
      refine x_icmp_ge (tgt := 72) (pc := 7) X dX3_find_7 (by decide) (fun c27 => ?_) (fun c27 => ?_)
      · have h := ite_t c27 h
        refine x_aload_n (pc := 72) X dX3_find_72 (i := 0) rfl 0 rfl ?_
        refine x_aload_n (pc := 73) X dX3_find_73 (i := 2) rfl 2 rfl ?_
        obtain ⟨k1, h⟩ := grd h
        refine x_geti (ci := 4) (k := 5) (n := 6) (C := RX4) (T := TX4) (pc := 74) X dX3_find_74 k1 rfl (by decide) w_204 rfl ?_
        obtain ⟨D2, w2, h⟩ := pass h
        refine x_puti (ci := 3) (k := 2) (n := 4) (C := RX3) (T := TX3) (D' := D2) (pc := 77) X dX3_find_77 hk0 rfl (by decide) w_227 rfl (by decide +kernel) rfl w2 ?_
        refine x_aload_n (pc := 80) X dX3_find_80 (i := 0) rfl 0 rfl ?_
        refine x_aload_n (pc := 81) X dX3_find_81 (i := 1) rfl 1 rfl ?_
        obtain ⟨k4, h⟩ := grd h
        obtain ⟨z3, e3, h⟩ := bnds h
        refine x_callV (pc := 82) (As := []) (st := [.ref (cx.2.2 + a0)]) (st' := [.int z3, .ref (cx.2.2 + a0)]) X (c_C_howManyBorne l cx nx N D2 P _ z3 e3) dX3_find_82 w_774 m_C_howManyBorne rfl k4 (ci := 7) rfl rfl ⟨by decide, by decide⟩ ⟨Nat.zero_le _, Nat.zero_le _⟩ rfl (Nat.le_of_ble_eq_true rfl) rfl ?_
        refine x_aload_n (pc := 85) X dX3_find_85 (i := 0) rfl 0 rfl ?_
        refine x_geti (ci := 3) (k := 2) (n := 4) (C := RX3) (T := TX3) (pc := 86) X dX3_find_86 hk0 rfl (by decide) w_227 rfl ?_
        refine x_icmp_ne (tgt := 96) (pc := 89) X dX3_find_89 (by decide) (fun c13 => ?_) (fun c13 => ?_)
        · have h := ite_f c13 h
          refine x_iconst (v := 0) (pc := 96) X dX3_find_96 (by decide) ?_
          obtain ⟨D5, w5, h⟩ := pass h
          refine x_puti (ci := 3) (k := 3) (n := 4) (C := RX3) (T := TX3) (D' := D5) (pc := 97) X dX3_find_97 hk0 rfl (by decide) w_228 rfl (by decide +kernel) rfl w5 ?_
          refine x_iconst (v := 0) (pc := 100) X dX3_find_100 (by decide) ?_
          refine x_istore (lv' := [(4, .int 0), (0, .ref (cx.2.2 + a0)), (1, .ref (cx.2.2 + a1)), (2, .ref (cx.2.2 + a2)), (3, .int i3)]) (pc := 101) X dX3_find_101 (by decide) rfl ?_
          exact XW.sub [1, 3, 0] rfl (hL103 _ _ _ h)
        · have h := ite_t c13 h
          refine x_iconst (v := 1) (pc := 92) X dX3_find_92 (by decide) ?_
          refine x_goto (tgt := 97) (pc := 93) X dX3_find_93 (by decide) ?_
          obtain ⟨D12, w12, h⟩ := pass h
          refine x_puti (ci := 3) (k := 3) (n := 4) (C := RX3) (T := TX3) (D' := D12) (pc := 97) X dX3_find_97 hk0 rfl (by decide) w_228 rfl (by decide +kernel) rfl w12 ?_
          refine x_iconst (v := 0) (pc := 100) X dX3_find_100 (by decide) ?_
          refine x_istore (lv' := [(4, .int 0), (0, .ref (cx.2.2 + a0)), (1, .ref (cx.2.2 + a1)), (2, .ref (cx.2.2 + a2)), (3, .int i3)]) (pc := 101) X dX3_find_101 (by decide) rfl ?_
          exact XW.sub [1, 3, 0] rfl (hL103 _ _ _ h)
      · have h := ite_f c27 h
        refine x_aload_n (pc := 10) X dX3_find_10 (i := 1) rfl 1 rfl ?_
        refine x_iload (pc := 11) X dX3_find_11 4 rfl ?_
        obtain ⟨k15, h⟩ := grd h
        obtain ⟨z14, e14, h⟩ := bnds h
        refine x_callV (pc := 13) (As := [.int i4]) (st := []) (st' := [.int z14]) X (c_C_whereIs l cx nx N D P _ _ z14 e14) dX3_find_13 w_770 m_C_whereIs rfl k15 (ci := 7) rfl rfl ⟨by decide, by decide⟩ ⟨Nat.zero_le _, Nat.zero_le _⟩ rfl (Nat.le_of_ble_eq_true rfl) rfl ?_
        refine x_if_lt (tgt := 23) (pc := 16) X dX3_find_16 (by decide) (fun c26 => ?_) (fun c26 => ?_)
        · have h := ite_t c26 h
          refine x_iconst (v := 0) (pc := 23) X dX3_find_23 (by decide) ?_
          exact XW.sub [0, 1, 2, 3, 4] rfl (hJ24 _ _ _ h)
        · have h := ite_f c26 h
          refine x_iconst (v := 1) (pc := 19) X dX3_find_19 (by decide) ?_
          refine x_goto (tgt := 24) (pc := 20) X dX3_find_20 (by decide) ?_
          exact XW.sub [0, 1, 2, 3, 4] rfl (hJ24 _ _ _ h)
  refine x_iconst (v := 0) (pc := 0) X dX3_find_0 (by decide) ?_
  refine x_istore (lv' := [(4, .int 0), (0, .ref (cx.2.2 + a0)), (1, .ref (cx.2.2 + a1)), (2, .ref (cx.2.2 + a2)), (3, .int i3)]) (pc := 1) X dX3_find_1 (by decide) rfl ?_
  exact XW.sub [1, 2, 3, 4, 0] rfl (hL3 _ _ _ h)
theorem dX3_pinMarked_0 : decode cX3_pinMarked 0 = .ok (.aload_n 0, 1) := by decide +kernel
theorem dX3_pinMarked_1 : decode cX3_pinMarked 1 = .ok (.getfield 54, 3) := by decide +kernel
theorem dX3_pinMarked_4 : decode cX3_pinMarked 4 = .ok (.ifCond .le 30, 3) := by decide +kernel
theorem dX3_pinMarked_7 : decode cX3_pinMarked 7 = .ok (.iload_n 1, 1) := by decide +kernel
theorem dX3_pinMarked_8 : decode cX3_pinMarked 8 = .ok (.ifCond .lt 26, 3) := by decide +kernel
theorem dX3_pinMarked_11 : decode cX3_pinMarked 11 = .ok (.iload_n 1, 1) := by decide +kernel
theorem dX3_pinMarked_12 : decode cX3_pinMarked 12 = .ok (.aload_n 0, 1) := by decide +kernel
theorem dX3_pinMarked_13 : decode cX3_pinMarked 13 = .ok (.getfield 49, 3) := by decide +kernel
theorem dX3_pinMarked_16 : decode cX3_pinMarked 16 = .ok (.if_icmp .ge 18, 3) := by decide +kernel
theorem dX3_pinMarked_19 : decode cX3_pinMarked 19 = .ok (.iload_n 1, 1) := by decide +kernel
theorem dX3_pinMarked_20 : decode cX3_pinMarked 20 = .ok (.bipush 8, 2) := by decide +kernel
theorem dX3_pinMarked_22 : decode cX3_pinMarked 22 = .ok (.if_icmp .ge 12, 3) := by decide +kernel
theorem dX3_pinMarked_25 : decode cX3_pinMarked 25 = .ok (.aload_n 0, 1) := by decide +kernel
theorem dX3_pinMarked_26 : decode cX3_pinMarked 26 = .ok (.getfield 15, 3) := by decide +kernel
theorem dX3_pinMarked_29 : decode cX3_pinMarked 29 = .ok (.iload_n 1, 1) := by decide +kernel
theorem dX3_pinMarked_30 : decode cX3_pinMarked 30 = .ok (.iaload, 1) := by decide +kernel
theorem dX3_pinMarked_31 : decode cX3_pinMarked 31 = .ok (.goto 5, 3) := by decide +kernel
theorem dX3_pinMarked_34 : decode cX3_pinMarked 34 = .ok (.bipush (-4), 2) := by decide +kernel
theorem dX3_pinMarked_36 : decode cX3_pinMarked 36 = .ok (.ireturn, 1) := by decide +kernel
def f_G_pinMarked (N nx : Nat) (D : Dt) (P : Ft) (a0 : Nat) (i1 : Int32) : Option Int32 :=
  if kd nx a0 = 3 then
  if D a0 3 ≤ 0 then
    some (-4)
  else
    if i1 < 0 then
      some (-4)
    else
      if D a0 2 ≤ i1 then
        some (-4)
      else
        if 8 ≤ i1 then
          some (-4)
        else
          nn (P a0 1) fun q1 =>
          if ab nx q1 3 i1 = true then
          some (D q1 i1.toNatClampNeg)
          else none
  else none
theorem m_G_pinMarked : MV yX3_pinMarked cX3_pinMarked 2 (some .int) 1 := ⟨mT 791 (by decide +kernel) rfl, mT 789 (by decide +kernel) rfl, mT 790 (by decide +kernel) rfl, mT 61 (by decide +kernel) rfl, by decide +kernel, by decide +kernel, by decide +kernel⟩
set_option maxHeartbeats 4000000 in
set_option maxRecDepth 100000 in
theorem c_G_pinMarked (l : Launch) (cx : Cx) (nx N : Nat) (D : Dt) (P : Ft) (a0 : Nat) (i1 : Int32) (z : Int32) (h : f_G_pinMarked N nx D P a0 i1 = some z) : Ct l cx yX3_pinMarked cX3_pinMarked 2 (some .int) 0 [.ref (cx.2.2 + a0), .int i1] D P nx (some (.int z)) D P := by
  refine x_met0 (by decide) (Nat.le_of_ble_eq_true rfl) ?_
  intro p e s m args below meth c X
  have X : XC p s m args meth c cx cX3_pinMarked 2 (some .int) "HeartPins$Matching" "pinMarked" := X
  refine XW.sub (lv' := [(0, .ref (cx.2.2 + a0)), (1, .int i1)]) [0, 1] rfl ?_
  unfold f_G_pinMarked at h
  obtain ⟨hk0, h⟩ := grd h
  refine x_aload_n (pc := 0) X dX3_pinMarked_0 (i := 0) rfl 0 rfl ?_
  refine x_geti (ci := 3) (k := 3) (n := 4) (C := RX3) (T := TX3) (pc := 1) X dX3_pinMarked_1 hk0 rfl (by decide) w_228 rfl ?_
  refine x_if_le (tgt := 34) (pc := 4) X dX3_pinMarked_4 (by decide) (fun c6 => ?_) (fun c6 => ?_)
  · have h := ite_t c6 h
    refine x_bipush (v := (-4)) (pc := 34) X dX3_pinMarked_34 (by decide) ?_
    obtain rfl := Option.some.inj h
    exact x_iret (pc := 36) X dX3_pinMarked_36
  · have h := ite_f c6 h
    refine x_iload_n (pc := 7) X dX3_pinMarked_7 (i := 1) rfl 1 rfl ?_
    refine x_if_lt (tgt := 34) (pc := 8) X dX3_pinMarked_8 (by decide) (fun c5 => ?_) (fun c5 => ?_)
    · have h := ite_t c5 h
      refine x_bipush (v := (-4)) (pc := 34) X dX3_pinMarked_34 (by decide) ?_
      obtain rfl := Option.some.inj h
      exact x_iret (pc := 36) X dX3_pinMarked_36
    · have h := ite_f c5 h
      refine x_iload_n (pc := 11) X dX3_pinMarked_11 (i := 1) rfl 1 rfl ?_
      refine x_aload_n (pc := 12) X dX3_pinMarked_12 (i := 0) rfl 0 rfl ?_
      refine x_geti (ci := 3) (k := 2) (n := 4) (C := RX3) (T := TX3) (pc := 13) X dX3_pinMarked_13 hk0 rfl (by decide) w_227 rfl ?_
      refine x_icmp_ge (tgt := 34) (pc := 16) X dX3_pinMarked_16 (by decide) (fun c4 => ?_) (fun c4 => ?_)
      · have h := ite_t c4 h
        refine x_bipush (v := (-4)) (pc := 34) X dX3_pinMarked_34 (by decide) ?_
        obtain rfl := Option.some.inj h
        exact x_iret (pc := 36) X dX3_pinMarked_36
      · have h := ite_f c4 h
        refine x_iload_n (pc := 19) X dX3_pinMarked_19 (i := 1) rfl 1 rfl ?_
        refine x_bipush (v := 8) (pc := 20) X dX3_pinMarked_20 (by decide) ?_
        refine x_icmp_ge (tgt := 34) (pc := 22) X dX3_pinMarked_22 (by decide) (fun c3 => ?_) (fun c3 => ?_)
        · have h := ite_t c3 h
          refine x_bipush (v := (-4)) (pc := 34) X dX3_pinMarked_34 (by decide) ?_
          obtain rfl := Option.some.inj h
          exact x_iret (pc := 36) X dX3_pinMarked_36
        · have h := ite_f c3 h
          refine x_aload_n (pc := 25) X dX3_pinMarked_25 (i := 0) rfl 0 rfl ?_
          obtain ⟨q1, e1, h⟩ := nns h
          refine x_getr (ci := 3) (k := 1) (n := 4) (C := RX3) (T := TX3) (pc := 26) X dX3_pinMarked_26 hk0 rfl (by decide) w_226 rfl e1 ?_
          refine x_iload_n (pc := 29) X dX3_pinMarked_29 (i := 1) rfl 1 rfl ?_
          obtain ⟨g2, h⟩ := grd h
          refine x_iald (pc := 30) X dX3_pinMarked_30 g2 ?_
          refine x_goto (tgt := 36) (pc := 31) X dX3_pinMarked_31 (by decide) ?_
          obtain rfl := Option.some.inj h
          exact x_iret (pc := 36) X dX3_pinMarked_36
theorem dX4_clear_0 : decode cX4_clear 0 = .ok (.aload_n 0, 1) := by decide +kernel
theorem dX4_clear_1 : decode cX4_clear 1 = .ok (.iconst 0, 1) := by decide +kernel
theorem dX4_clear_2 : decode cX4_clear 2 = .ok (.putfield 24, 3) := by decide +kernel
theorem dX4_clear_5 : decode cX4_clear 5 = .ok (.aload_n 0, 1) := by decide +kernel
theorem dX4_clear_6 : decode cX4_clear 6 = .ok (.iconst 0, 1) := by decide +kernel
theorem dX4_clear_7 : decode cX4_clear 7 = .ok (.putfield 28, 3) := by decide +kernel
theorem dX4_clear_10 : decode cX4_clear 10 = .ok (.return_, 1) := by decide +kernel
def f_N_clear (N nx : Nat) (D : Dt) (P : Ft) (a0 : Nat) : Option Dt :=
  if kd nx a0 = 4 then
  pas (upd2 D a0 4 0) fun D1 =>
  pas (upd2 D1 a0 5 0) fun D2 =>
  some D2
  else none
theorem m_N_clear : MV yX4_clear cX4_clear 1 none 0 := ⟨mT 416 (by decide +kernel) rfl, mT 414 (by decide +kernel) rfl, mT 415 (by decide +kernel) rfl, mT 60 (by decide +kernel) rfl, by decide +kernel, by decide +kernel, by decide +kernel⟩
set_option maxHeartbeats 4000000 in
set_option maxRecDepth 100000 in
theorem c_N_clear (l : Launch) (cx : Cx) (nx N : Nat) (D : Dt) (P : Ft) (a0 : Nat) (z : Dt) (h : f_N_clear N nx D P a0 = some z) : Ct l cx yX4_clear cX4_clear 1 none 0 [.ref (cx.2.2 + a0)] D P nx none z P := by
  refine x_met0 (by decide) (Nat.le_of_ble_eq_true rfl) ?_
  intro p e s m args below meth c X
  have X : XC p s m args meth c cx cX4_clear 1 none "HeartPins$Notes" "clear" := X
  refine XW.sub (lv' := [(0, .ref (cx.2.2 + a0))]) [0] rfl ?_
  unfold f_N_clear at h
  obtain ⟨hk0, h⟩ := grd h
  refine x_aload_n (pc := 0) X dX4_clear_0 (i := 0) rfl 0 rfl ?_
  refine x_iconst (v := 0) (pc := 1) X dX4_clear_1 (by decide) ?_
  obtain ⟨D1, w1, h⟩ := pass h
  refine x_puti (ci := 4) (k := 4) (n := 6) (C := RX4) (T := TX4) (D' := D1) (pc := 2) X dX4_clear_2 hk0 rfl (by decide) w_201 rfl (by decide +kernel) rfl w1 ?_
  refine x_aload_n (pc := 5) X dX4_clear_5 (i := 0) rfl 0 rfl ?_
  refine x_iconst (v := 0) (pc := 6) X dX4_clear_6 (by decide) ?_
  obtain ⟨D2, w2, h⟩ := pass h
  refine x_puti (ci := 4) (k := 5) (n := 6) (C := RX4) (T := TX4) (D' := D2) (pc := 7) X dX4_clear_7 hk0 rfl (by decide) w_203 rfl (by decide +kernel) rfl w2 ?_
  obtain rfl := Option.some.inj h
  exact x_vret (pc := 10) X dX4_clear_10
theorem dX4_addSeen_0 : decode cX4_addSeen 0 = .ok (.aload_n 0, 1) := by decide +kernel
theorem dX4_addSeen_1 : decode cX4_addSeen 1 = .ok (.getfield 24, 3) := by decide +kernel
theorem dX4_addSeen_4 : decode cX4_addSeen 4 = .ok (.iconst 0, 1) := by decide +kernel
theorem dX4_addSeen_5 : decode cX4_addSeen 5 = .ok (.bipush 7, 2) := by decide +kernel
theorem dX4_addSeen_7 : decode cX4_addSeen 7 = .ok (.invokestatic 31, 3) := by decide +kernel
theorem dX4_addSeen_10 : decode cX4_addSeen 10 = .ok (.ifCond .ne 5, 3) := by decide +kernel
theorem dX4_addSeen_13 : decode cX4_addSeen 13 = .ok (.iconst 0, 1) := by decide +kernel
theorem dX4_addSeen_14 : decode cX4_addSeen 14 = .ok (.ireturn, 1) := by decide +kernel
theorem dX4_addSeen_15 : decode cX4_addSeen 15 = .ok (.aload_n 0, 1) := by decide +kernel
theorem dX4_addSeen_16 : decode cX4_addSeen 16 = .ok (.getfield 9, 3) := by decide +kernel
theorem dX4_addSeen_19 : decode cX4_addSeen 19 = .ok (.aload_n 0, 1) := by decide +kernel
theorem dX4_addSeen_20 : decode cX4_addSeen 20 = .ok (.getfield 24, 3) := by decide +kernel
theorem dX4_addSeen_23 : decode cX4_addSeen 23 = .ok (.iload_n 1, 1) := by decide +kernel
theorem dX4_addSeen_24 : decode cX4_addSeen 24 = .ok (.iastore, 1) := by decide +kernel
theorem dX4_addSeen_25 : decode cX4_addSeen 25 = .ok (.aload_n 0, 1) := by decide +kernel
theorem dX4_addSeen_26 : decode cX4_addSeen 26 = .ok (.getfield 15, 3) := by decide +kernel
theorem dX4_addSeen_29 : decode cX4_addSeen 29 = .ok (.aload_n 0, 1) := by decide +kernel
theorem dX4_addSeen_30 : decode cX4_addSeen 30 = .ok (.getfield 24, 3) := by decide +kernel
theorem dX4_addSeen_33 : decode cX4_addSeen 33 = .ok (.iload_n 2, 1) := by decide +kernel
theorem dX4_addSeen_34 : decode cX4_addSeen 34 = .ok (.iastore, 1) := by decide +kernel
theorem dX4_addSeen_35 : decode cX4_addSeen 35 = .ok (.aload_n 0, 1) := by decide +kernel
theorem dX4_addSeen_36 : decode cX4_addSeen 36 = .ok (.getfield 18, 3) := by decide +kernel
theorem dX4_addSeen_39 : decode cX4_addSeen 39 = .ok (.aload_n 0, 1) := by decide +kernel
theorem dX4_addSeen_40 : decode cX4_addSeen 40 = .ok (.getfield 24, 3) := by decide +kernel
theorem dX4_addSeen_43 : decode cX4_addSeen 43 = .ok (.iload_n 3, 1) := by decide +kernel
theorem dX4_addSeen_44 : decode cX4_addSeen 44 = .ok (.iastore, 1) := by decide +kernel
theorem dX4_addSeen_45 : decode cX4_addSeen 45 = .ok (.aload_n 0, 1) := by decide +kernel
theorem dX4_addSeen_46 : decode cX4_addSeen 46 = .ok (.dup, 1) := by decide +kernel
theorem dX4_addSeen_47 : decode cX4_addSeen 47 = .ok (.getfield 24, 3) := by decide +kernel
theorem dX4_addSeen_50 : decode cX4_addSeen 50 = .ok (.iconst 1, 1) := by decide +kernel
theorem dX4_addSeen_51 : decode cX4_addSeen 51 = .ok (.iadd, 1) := by decide +kernel
theorem dX4_addSeen_52 : decode cX4_addSeen 52 = .ok (.putfield 24, 3) := by decide +kernel
theorem dX4_addSeen_55 : decode cX4_addSeen 55 = .ok (.iconst 1, 1) := by decide +kernel
theorem dX4_addSeen_56 : decode cX4_addSeen 56 = .ok (.ireturn, 1) := by decide +kernel
def f_N_addSeen (N nx : Nat) (D : Dt) (P : Ft) (a0 : Nat) (i1 : Int32) (i2 : Int32) (i3 : Int32) : Option (Int32 × Dt) :=
  if kd nx a0 = 4 then
  (f_H_isWithin N nx D P (D a0 4) 0 7).bind fun z1 =>
  if z1 = 0 then
    some (0, D)
  else
    nn (P a0 0) fun q2 =>
    if ab nx q2 3 (D a0 4) = true then
    pas (upd2 D q2 (D a0 4).toNatClampNeg i1) fun D3 =>
    nn (P a0 1) fun q4 =>
    if ab nx q4 3 (D3 a0 4) = true then
    pas (upd2 D3 q4 (D3 a0 4).toNatClampNeg i2) fun D5 =>
    nn (P a0 2) fun q6 =>
    if ab nx q6 3 (D5 a0 4) = true then
    pas (upd2 D5 q6 (D5 a0 4).toNatClampNeg i3) fun D7 =>
    pas (upd2 D7 a0 4 ((D7 a0 4) + 1)) fun D8 =>
    some (1, D8)
    else none
    else none
    else none
  else none
theorem m_N_addSeen : MV yX4_addSeen cX4_addSeen 4 (some .boolean) 3 := ⟨mT 736 (by decide +kernel) rfl, mT 734 (by decide +kernel) rfl, mT 735 (by decide +kernel) rfl, mT 60 (by decide +kernel) rfl, by decide +kernel, by decide +kernel, by decide +kernel⟩
set_option maxHeartbeats 4000000 in
set_option maxRecDepth 100000 in
theorem c_N_addSeen (l : Launch) (cx : Cx) (nx N : Nat) (D : Dt) (P : Ft) (a0 : Nat) (i1 : Int32) (i2 : Int32) (i3 : Int32) (z : Int32 × Dt) (h : f_N_addSeen N nx D P a0 i1 i2 i3 = some z) : Ct l cx yX4_addSeen cX4_addSeen 4 (some .boolean) 1 [.ref (cx.2.2 + a0), .int i1, .int i2, .int i3] D P nx (some (.int z.1)) z.2 P := by
  refine x_met0 (by decide) (Nat.le_of_ble_eq_true rfl) ?_
  intro p e s m args below meth c X
  have X : XC p s m args meth c cx cX4_addSeen 4 (some .boolean) "HeartPins$Notes" "addSeen" := X
  refine XW.sub (lv' := [(0, .ref (cx.2.2 + a0)), (1, .int i1), (2, .int i2), (3, .int i3)]) [0, 1, 2, 3] rfl ?_
  unfold f_N_addSeen at h
  obtain ⟨hk0, h⟩ := grd h
  refine x_aload_n (pc := 0) X dX4_addSeen_0 (i := 0) rfl 0 rfl ?_
  refine x_geti (ci := 4) (k := 4) (n := 6) (C := RX4) (T := TX4) (pc := 1) X dX4_addSeen_1 hk0 rfl (by decide) w_201 rfl ?_
  refine x_iconst (v := 0) (pc := 4) X dX4_addSeen_4 (by decide) ?_
  refine x_bipush (v := 7) (pc := 5) X dX4_addSeen_5 (by decide) ?_
  obtain ⟨z1, e1, h⟩ := bnds h
  refine x_callSN (pc := 7) (As := [.int (D a0 4), .int 0, .int 7]) (st := []) (st' := [.int z1]) (host := "HeartPins") X (c_H_isWithin l cx nx N D P _ _ _ z1 e1) dX4_addSeen_7 (List.mem_of_getElem? (i := 8) rfl) m_H_isWithin rfl ⟨by decide, by decide⟩ ⟨Nat.zero_le _, Nat.zero_le _⟩ rfl (Nat.le_of_ble_eq_true rfl) rfl ?_
  refine x_if_ne (tgt := 15) (pc := 10) X dX4_addSeen_10 (by decide) (fun c9 => ?_) (fun c9 => ?_)
  · have h := ite_f c9 h
    refine x_aload_n (pc := 15) X dX4_addSeen_15 (i := 0) rfl 0 rfl ?_
    obtain ⟨q2, e2, h⟩ := nns h
    refine x_getr (ci := 4) (k := 0) (n := 6) (C := RX4) (T := TX4) (pc := 16) X dX4_addSeen_16 hk0 rfl (by decide) w_197 rfl e2 ?_
    refine x_aload_n (pc := 19) X dX4_addSeen_19 (i := 0) rfl 0 rfl ?_
    refine x_geti (ci := 4) (k := 4) (n := 6) (C := RX4) (T := TX4) (pc := 20) X dX4_addSeen_20 hk0 rfl (by decide) w_201 rfl ?_
    refine x_iload_n (pc := 23) X dX4_addSeen_23 (i := 1) rfl 1 rfl ?_
    obtain ⟨g3, h⟩ := grd h
    obtain ⟨D3, w3, h⟩ := pass h
    refine x_iast (D' := D3) (pc := 24) X dX4_addSeen_24 g3 w3 ?_
    refine x_aload_n (pc := 25) X dX4_addSeen_25 (i := 0) rfl 0 rfl ?_
    obtain ⟨q4, e4, h⟩ := nns h
    refine x_getr (ci := 4) (k := 1) (n := 6) (C := RX4) (T := TX4) (pc := 26) X dX4_addSeen_26 hk0 rfl (by decide) w_198 rfl e4 ?_
    refine x_aload_n (pc := 29) X dX4_addSeen_29 (i := 0) rfl 0 rfl ?_
    refine x_geti (ci := 4) (k := 4) (n := 6) (C := RX4) (T := TX4) (pc := 30) X dX4_addSeen_30 hk0 rfl (by decide) w_201 rfl ?_
    refine x_iload_n (pc := 33) X dX4_addSeen_33 (i := 2) rfl 2 rfl ?_
    obtain ⟨g5, h⟩ := grd h
    obtain ⟨D5, w5, h⟩ := pass h
    refine x_iast (D' := D5) (pc := 34) X dX4_addSeen_34 g5 w5 ?_
    refine x_aload_n (pc := 35) X dX4_addSeen_35 (i := 0) rfl 0 rfl ?_
    obtain ⟨q6, e6, h⟩ := nns h
    refine x_getr (ci := 4) (k := 2) (n := 6) (C := RX4) (T := TX4) (pc := 36) X dX4_addSeen_36 hk0 rfl (by decide) w_199 rfl e6 ?_
    refine x_aload_n (pc := 39) X dX4_addSeen_39 (i := 0) rfl 0 rfl ?_
    refine x_geti (ci := 4) (k := 4) (n := 6) (C := RX4) (T := TX4) (pc := 40) X dX4_addSeen_40 hk0 rfl (by decide) w_201 rfl ?_
    refine x_iload_n (pc := 43) X dX4_addSeen_43 (i := 3) rfl 3 rfl ?_
    obtain ⟨g7, h⟩ := grd h
    obtain ⟨D7, w7, h⟩ := pass h
    refine x_iast (D' := D7) (pc := 44) X dX4_addSeen_44 g7 w7 ?_
    refine x_aload_n (pc := 45) X dX4_addSeen_45 (i := 0) rfl 0 rfl ?_
    refine x_dup (pc := 46) X dX4_addSeen_46 rfl ?_
    refine x_geti (ci := 4) (k := 4) (n := 6) (C := RX4) (T := TX4) (pc := 47) X dX4_addSeen_47 hk0 rfl (by decide) w_201 rfl ?_
    refine x_iconst (v := 1) (pc := 50) X dX4_addSeen_50 (by decide) ?_
    refine x_iadd (pc := 51) X dX4_addSeen_51 ?_
    obtain ⟨D8, w8, h⟩ := pass h
    refine x_puti (ci := 4) (k := 4) (n := 6) (C := RX4) (T := TX4) (D' := D8) (pc := 52) X dX4_addSeen_52 hk0 rfl (by decide) w_201 rfl (by decide +kernel) rfl w8 ?_
    refine x_iconst (v := 1) (pc := 55) X dX4_addSeen_55 (by decide) ?_
    obtain rfl := Option.some.inj h
    exact x_zret (pc := 56) X dX4_addSeen_56 (Or.inr rfl)
  · have h := ite_t c9 h
    refine x_iconst (v := 0) (pc := 13) X dX4_addSeen_13 (by decide) ?_
    obtain rfl := Option.some.inj h
    exact x_zret (pc := 14) X dX4_addSeen_14 (Or.inl rfl)
theorem dX4_addMark_0 : decode cX4_addMark 0 = .ok (.aload_n 0, 1) := by decide +kernel
theorem dX4_addMark_1 : decode cX4_addMark 1 = .ok (.getfield 28, 3) := by decide +kernel
theorem dX4_addMark_4 : decode cX4_addMark 4 = .ok (.iconst 0, 1) := by decide +kernel
theorem dX4_addMark_5 : decode cX4_addMark 5 = .ok (.bipush 7, 2) := by decide +kernel
theorem dX4_addMark_7 : decode cX4_addMark 7 = .ok (.invokestatic 31, 3) := by decide +kernel
theorem dX4_addMark_10 : decode cX4_addMark 10 = .ok (.ifCond .ne 5, 3) := by decide +kernel
theorem dX4_addMark_13 : decode cX4_addMark 13 = .ok (.iconst 0, 1) := by decide +kernel
theorem dX4_addMark_14 : decode cX4_addMark 14 = .ok (.ireturn, 1) := by decide +kernel
theorem dX4_addMark_15 : decode cX4_addMark 15 = .ok (.aload_n 0, 1) := by decide +kernel
theorem dX4_addMark_16 : decode cX4_addMark 16 = .ok (.getfield 21, 3) := by decide +kernel
theorem dX4_addMark_19 : decode cX4_addMark 19 = .ok (.aload_n 0, 1) := by decide +kernel
theorem dX4_addMark_20 : decode cX4_addMark 20 = .ok (.getfield 28, 3) := by decide +kernel
theorem dX4_addMark_23 : decode cX4_addMark 23 = .ok (.iload_n 1, 1) := by decide +kernel
theorem dX4_addMark_24 : decode cX4_addMark 24 = .ok (.iastore, 1) := by decide +kernel
theorem dX4_addMark_25 : decode cX4_addMark 25 = .ok (.aload_n 0, 1) := by decide +kernel
theorem dX4_addMark_26 : decode cX4_addMark 26 = .ok (.dup, 1) := by decide +kernel
theorem dX4_addMark_27 : decode cX4_addMark 27 = .ok (.getfield 28, 3) := by decide +kernel
theorem dX4_addMark_30 : decode cX4_addMark 30 = .ok (.iconst 1, 1) := by decide +kernel
theorem dX4_addMark_31 : decode cX4_addMark 31 = .ok (.iadd, 1) := by decide +kernel
theorem dX4_addMark_32 : decode cX4_addMark 32 = .ok (.putfield 28, 3) := by decide +kernel
theorem dX4_addMark_35 : decode cX4_addMark 35 = .ok (.iconst 1, 1) := by decide +kernel
theorem dX4_addMark_36 : decode cX4_addMark 36 = .ok (.ireturn, 1) := by decide +kernel
def f_N_addMark (N nx : Nat) (D : Dt) (P : Ft) (a0 : Nat) (i1 : Int32) : Option (Int32 × Dt) :=
  if kd nx a0 = 4 then
  (f_H_isWithin N nx D P (D a0 5) 0 7).bind fun z1 =>
  if z1 = 0 then
    some (0, D)
  else
    nn (P a0 3) fun q2 =>
    if ab nx q2 3 (D a0 5) = true then
    pas (upd2 D q2 (D a0 5).toNatClampNeg i1) fun D3 =>
    pas (upd2 D3 a0 5 ((D3 a0 5) + 1)) fun D4 =>
    some (1, D4)
    else none
  else none
theorem m_N_addMark : MV yX4_addMark cX4_addMark 2 (some .boolean) 1 := ⟨mT 745 (by decide +kernel) rfl, mT 743 (by decide +kernel) rfl, mT 744 (by decide +kernel) rfl, mT 60 (by decide +kernel) rfl, by decide +kernel, by decide +kernel, by decide +kernel⟩
set_option maxHeartbeats 4000000 in
set_option maxRecDepth 100000 in
theorem c_N_addMark (l : Launch) (cx : Cx) (nx N : Nat) (D : Dt) (P : Ft) (a0 : Nat) (i1 : Int32) (z : Int32 × Dt) (h : f_N_addMark N nx D P a0 i1 = some z) : Ct l cx yX4_addMark cX4_addMark 2 (some .boolean) 1 [.ref (cx.2.2 + a0), .int i1] D P nx (some (.int z.1)) z.2 P := by
  refine x_met0 (by decide) (Nat.le_of_ble_eq_true rfl) ?_
  intro p e s m args below meth c X
  have X : XC p s m args meth c cx cX4_addMark 2 (some .boolean) "HeartPins$Notes" "addMark" := X
  refine XW.sub (lv' := [(0, .ref (cx.2.2 + a0)), (1, .int i1)]) [0, 1] rfl ?_
  unfold f_N_addMark at h
  obtain ⟨hk0, h⟩ := grd h
  refine x_aload_n (pc := 0) X dX4_addMark_0 (i := 0) rfl 0 rfl ?_
  refine x_geti (ci := 4) (k := 5) (n := 6) (C := RX4) (T := TX4) (pc := 1) X dX4_addMark_1 hk0 rfl (by decide) w_203 rfl ?_
  refine x_iconst (v := 0) (pc := 4) X dX4_addMark_4 (by decide) ?_
  refine x_bipush (v := 7) (pc := 5) X dX4_addMark_5 (by decide) ?_
  obtain ⟨z1, e1, h⟩ := bnds h
  refine x_callSN (pc := 7) (As := [.int (D a0 5), .int 0, .int 7]) (st := []) (st' := [.int z1]) (host := "HeartPins") X (c_H_isWithin l cx nx N D P _ _ _ z1 e1) dX4_addMark_7 (List.mem_of_getElem? (i := 8) rfl) m_H_isWithin rfl ⟨by decide, by decide⟩ ⟨Nat.zero_le _, Nat.zero_le _⟩ rfl (Nat.le_of_ble_eq_true rfl) rfl ?_
  refine x_if_ne (tgt := 15) (pc := 10) X dX4_addMark_10 (by decide) (fun c5 => ?_) (fun c5 => ?_)
  · have h := ite_f c5 h
    refine x_aload_n (pc := 15) X dX4_addMark_15 (i := 0) rfl 0 rfl ?_
    obtain ⟨q2, e2, h⟩ := nns h
    refine x_getr (ci := 4) (k := 3) (n := 6) (C := RX4) (T := TX4) (pc := 16) X dX4_addMark_16 hk0 rfl (by decide) w_200 rfl e2 ?_
    refine x_aload_n (pc := 19) X dX4_addMark_19 (i := 0) rfl 0 rfl ?_
    refine x_geti (ci := 4) (k := 5) (n := 6) (C := RX4) (T := TX4) (pc := 20) X dX4_addMark_20 hk0 rfl (by decide) w_203 rfl ?_
    refine x_iload_n (pc := 23) X dX4_addMark_23 (i := 1) rfl 1 rfl ?_
    obtain ⟨g3, h⟩ := grd h
    obtain ⟨D3, w3, h⟩ := pass h
    refine x_iast (D' := D3) (pc := 24) X dX4_addMark_24 g3 w3 ?_
    refine x_aload_n (pc := 25) X dX4_addMark_25 (i := 0) rfl 0 rfl ?_
    refine x_dup (pc := 26) X dX4_addMark_26 rfl ?_
    refine x_geti (ci := 4) (k := 5) (n := 6) (C := RX4) (T := TX4) (pc := 27) X dX4_addMark_27 hk0 rfl (by decide) w_203 rfl ?_
    refine x_iconst (v := 1) (pc := 30) X dX4_addMark_30 (by decide) ?_
    refine x_iadd (pc := 31) X dX4_addMark_31 ?_
    obtain ⟨D4, w4, h⟩ := pass h
    refine x_puti (ci := 4) (k := 5) (n := 6) (C := RX4) (T := TX4) (D' := D4) (pc := 32) X dX4_addMark_32 hk0 rfl (by decide) w_203 rfl (by decide +kernel) rfl w4 ?_
    refine x_iconst (v := 1) (pc := 35) X dX4_addMark_35 (by decide) ?_
    obtain rfl := Option.some.inj h
    exact x_zret (pc := 36) X dX4_addMark_36 (Or.inr rfl)
  · have h := ite_t c5 h
    refine x_iconst (v := 0) (pc := 13) X dX4_addMark_13 (by decide) ?_
    obtain rfl := Option.some.inj h
    exact x_zret (pc := 14) X dX4_addMark_14 (Or.inl rfl)
theorem dX4_allSeenFit_0 : decode cX4_allSeenFit 0 = .ok (.iconst 0, 1) := by decide +kernel
theorem dX4_allSeenFit_1 : decode cX4_allSeenFit 1 = .ok (.istore 5, 2) := by decide +kernel
theorem dX4_allSeenFit_3 : decode cX4_allSeenFit 3 = .ok (.iload 5, 2) := by decide +kernel
theorem dX4_allSeenFit_5 : decode cX4_allSeenFit 5 = .ok (.aload_n 0, 1) := by decide +kernel
theorem dX4_allSeenFit_6 : decode cX4_allSeenFit 6 = .ok (.getfield 24, 3) := by decide +kernel
theorem dX4_allSeenFit_9 : decode cX4_allSeenFit 9 = .ok (.if_icmp .ge 53, 3) := by decide +kernel
theorem dX4_allSeenFit_12 : decode cX4_allSeenFit 12 = .ok (.iload 5, 2) := by decide +kernel
theorem dX4_allSeenFit_14 : decode cX4_allSeenFit 14 = .ok (.bipush 8, 2) := by decide +kernel
theorem dX4_allSeenFit_16 : decode cX4_allSeenFit 16 = .ok (.if_icmp .ge 46, 3) := by decide +kernel
theorem dX4_allSeenFit_19 : decode cX4_allSeenFit 19 = .ok (.aload_n 0, 1) := by decide +kernel
theorem dX4_allSeenFit_20 : decode cX4_allSeenFit 20 = .ok (.getfield 9, 3) := by decide +kernel
theorem dX4_allSeenFit_23 : decode cX4_allSeenFit 23 = .ok (.iload 5, 2) := by decide +kernel
theorem dX4_allSeenFit_25 : decode cX4_allSeenFit 25 = .ok (.iaload, 1) := by decide +kernel
theorem dX4_allSeenFit_26 : decode cX4_allSeenFit 26 = .ok (.iload_n 1, 1) := by decide +kernel
theorem dX4_allSeenFit_27 : decode cX4_allSeenFit 27 = .ok (.if_icmp .ne 29, 3) := by decide +kernel
theorem dX4_allSeenFit_30 : decode cX4_allSeenFit 30 = .ok (.iload_n 2, 1) := by decide +kernel
theorem dX4_allSeenFit_31 : decode cX4_allSeenFit 31 = .ok (.iload_n 3, 1) := by decide +kernel
theorem dX4_allSeenFit_32 : decode cX4_allSeenFit 32 = .ok (.iload 4, 2) := by decide +kernel
theorem dX4_allSeenFit_34 : decode cX4_allSeenFit 34 = .ok (.aload_n 0, 1) := by decide +kernel
theorem dX4_allSeenFit_35 : decode cX4_allSeenFit 35 = .ok (.getfield 15, 3) := by decide +kernel
theorem dX4_allSeenFit_38 : decode cX4_allSeenFit 38 = .ok (.iload 5, 2) := by decide +kernel
theorem dX4_allSeenFit_40 : decode cX4_allSeenFit 40 = .ok (.iaload, 1) := by decide +kernel
theorem dX4_allSeenFit_41 : decode cX4_allSeenFit 41 = .ok (.invokestatic 35, 3) := by decide +kernel
theorem dX4_allSeenFit_44 : decode cX4_allSeenFit 44 = .ok (.aload_n 0, 1) := by decide +kernel
theorem dX4_allSeenFit_45 : decode cX4_allSeenFit 45 = .ok (.getfield 18, 3) := by decide +kernel
theorem dX4_allSeenFit_48 : decode cX4_allSeenFit 48 = .ok (.iload 5, 2) := by decide +kernel
theorem dX4_allSeenFit_50 : decode cX4_allSeenFit 50 = .ok (.iaload, 1) := by decide +kernel
theorem dX4_allSeenFit_51 : decode cX4_allSeenFit 51 = .ok (.if_icmp .eq 5, 3) := by decide +kernel
theorem dX4_allSeenFit_54 : decode cX4_allSeenFit 54 = .ok (.iconst 0, 1) := by decide +kernel
theorem dX4_allSeenFit_55 : decode cX4_allSeenFit 55 = .ok (.ireturn, 1) := by decide +kernel
theorem dX4_allSeenFit_56 : decode cX4_allSeenFit 56 = .ok (.iinc 5 1, 3) := by decide +kernel
theorem dX4_allSeenFit_59 : decode cX4_allSeenFit 59 = .ok (.goto (-56), 3) := by decide +kernel
theorem dX4_allSeenFit_62 : decode cX4_allSeenFit 62 = .ok (.iconst 1, 1) := by decide +kernel
theorem dX4_allSeenFit_63 : decode cX4_allSeenFit 63 = .ok (.ireturn, 1) := by decide +kernel
def f_N_allSeenFit_3 (N nx : Nat) (D : Dt) (P : Ft) (a0 : Nat) (i1 : Int32) (i2 : Int32) (i3 : Int32) (i4 : Int32) (rec3 : Int32 → Option Int32) (i5 : Int32) : Option Int32 :=
  if D a0 4 ≤ i5 then
    some 1
  else
    if 8 ≤ i5 then
      some 1
    else
      nn (P a0 0) fun q1 =>
      if ab nx q1 3 i5 = true then
      if D q1 i5.toNatClampNeg = i1 then
        nn (P a0 1) fun q3 =>
        if ab nx q3 3 i5 = true then
        (f_H_largeBehind N nx D P i2 i3 i4 (D q3 i5.toNatClampNeg)).bind fun z5 =>
        nn (P a0 2) fun q6 =>
        if ab nx q6 3 i5 = true then
        if z5 = D q6 i5.toNatClampNeg then
          rec3 (i5 + 1)
        else
          some 0
        else none
        else none
      else
        rec3 (i5 + 1)
      else none
def f_N_allSeenFit (N nx : Nat) (D : Dt) (P : Ft) (a0 : Nat) (i1 : Int32) (i2 : Int32) (i3 : Int32) (i4 : Int32) : Option Int32 :=
  if kd nx a0 = 4 then
  wk1 N (f_N_allSeenFit_3 N nx D P a0 i1 i2 i3 i4) 0
  else none
theorem m_N_allSeenFit : MV yX4_allSeenFit cX4_allSeenFit 6 (some .boolean) 4 := ⟨mT 757 (by decide +kernel) rfl, mT 755 (by decide +kernel) rfl, mT 756 (by decide +kernel) rfl, mT 60 (by decide +kernel) rfl, by decide +kernel, by decide +kernel, by decide +kernel⟩
set_option maxHeartbeats 4000000 in
set_option maxRecDepth 100000 in
theorem c_N_allSeenFit (l : Launch) (cx : Cx) (nx N : Nat) (D : Dt) (P : Ft) (a0 : Nat) (i1 : Int32) (i2 : Int32) (i3 : Int32) (i4 : Int32) (z : Int32) (h : f_N_allSeenFit N nx D P a0 i1 i2 i3 i4 = some z) : Ct l cx yX4_allSeenFit cX4_allSeenFit 6 (some .boolean) 3 [.ref (cx.2.2 + a0), .int i1, .int i2, .int i3, .int i4] D P nx (some (.int z)) D P := by
  refine x_met0 (by decide) (Nat.le_of_ble_eq_true rfl) ?_
  intro p e s m args below meth c X
  have X : XC p s m args meth c cx cX4_allSeenFit 6 (some .boolean) "HeartPins$Notes" "allSeenFit" := X
  refine XW.sub (lv' := [(0, .ref (cx.2.2 + a0)), (1, .int i1), (2, .int i2), (3, .int i3), (4, .int i4)]) [0, 1, 2, 3, 4] rfl ?_
  unfold f_N_allSeenFit at h
  obtain ⟨hk0, h⟩ := grd h
  have hL3 : ∀ (n : Nat) (i5 : Int32), wk1 n (f_N_allSeenFit_3 N nx D P a0 i1 i2 i3 i4) i5 = some z → XW p l e (rmk 3) s m args below meth c (MQ below (Qx cx (some (.int z)) D P nx) args s 0 0 (AA cx)) cx 6 D P nx 0 0 3 [(0, .ref (cx.2.2 + a0)), (1, .int i1), (2, .int i2), (3, .int i3), (4, .int i4), (5, .int i5)] [] := by
    intro n
    induction n with
    | zero => intro i5 h; exact (nonz h).elim
    | succ n ih3 =>
      intro i5 h
      have h : f_N_allSeenFit_3 N nx D P a0 i1 i2 i3 i4 (wk1 n (f_N_allSeenFit_3 N nx D P a0 i1 i2 i3 i4)) i5 = some z := h
      generalize wk1 n (f_N_allSeenFit_3 N nx D P a0 i1 i2 i3 i4) = rec3 at ih3 h
      unfold f_N_allSeenFit_3 at h
      refine x_iload (pc := 3) X dX4_allSeenFit_3 5 rfl ?_
      refine x_aload_n (pc := 5) X dX4_allSeenFit_5 (i := 0) rfl 0 rfl ?_
      refine x_geti (ci := 4) (k := 4) (n := 6) (C := RX4) (T := TX4) (pc := 6) X dX4_allSeenFit_6 hk0 rfl (by decide) w_201 rfl ?_
      refine x_icmp_ge (tgt := 62) (pc := 9) X dX4_allSeenFit_9 (by decide) (fun c11 => ?_) (fun c11 => ?_)
      · have h := ite_t c11 h
        refine x_iconst (v := 1) (pc := 62) X dX4_allSeenFit_62 (by decide) ?_
        obtain rfl := Option.some.inj h
        exact x_zret (pc := 63) X dX4_allSeenFit_63 (Or.inr rfl)
      · have h := ite_f c11 h
        refine x_iload (pc := 12) X dX4_allSeenFit_12 5 rfl ?_
        refine x_bipush (v := 8) (pc := 14) X dX4_allSeenFit_14 (by decide) ?_
        refine x_icmp_ge (tgt := 62) (pc := 16) X dX4_allSeenFit_16 (by decide) (fun c10 => ?_) (fun c10 => ?_)
        · have h := ite_t c10 h
          refine x_iconst (v := 1) (pc := 62) X dX4_allSeenFit_62 (by decide) ?_
          obtain rfl := Option.some.inj h
          exact x_zret (pc := 63) X dX4_allSeenFit_63 (Or.inr rfl)
        · have h := ite_f c10 h
          refine x_aload_n (pc := 19) X dX4_allSeenFit_19 (i := 0) rfl 0 rfl ?_
          obtain ⟨q1, e1, h⟩ := nns h
          refine x_getr (ci := 4) (k := 0) (n := 6) (C := RX4) (T := TX4) (pc := 20) X dX4_allSeenFit_20 hk0 rfl (by decide) w_197 rfl e1 ?_
          refine x_iload (pc := 23) X dX4_allSeenFit_23 5 rfl ?_
          obtain ⟨g2, h⟩ := grd h
          refine x_iald (pc := 25) X dX4_allSeenFit_25 g2 ?_
          refine x_iload_n (pc := 26) X dX4_allSeenFit_26 (i := 1) rfl 1 rfl ?_
          refine x_icmp_ne (tgt := 56) (pc := 27) X dX4_allSeenFit_27 (by decide) (fun c9 => ?_) (fun c9 => ?_)
          · have h := ite_f c9 h
            refine x_iinc (v := i5 + 1) (lv' := [(5, .int (i5 + 1)), (0, .ref (cx.2.2 + a0)), (1, .int i1), (2, .int i2), (3, .int i3), (4, .int i4)]) (pc := 56) X dX4_allSeenFit_56 5 rfl rfl (by decide) rfl ?_
            refine x_goto (tgt := 3) (pc := 59) X dX4_allSeenFit_59 (by decide) ?_
            exact XW.sub [1, 2, 3, 4, 5, 0] rfl (ih3 _ h)
          · have h := ite_t c9 h
            refine x_iload_n (pc := 30) X dX4_allSeenFit_30 (i := 2) rfl 2 rfl ?_
            refine x_iload_n (pc := 31) X dX4_allSeenFit_31 (i := 3) rfl 3 rfl ?_
            refine x_iload (pc := 32) X dX4_allSeenFit_32 4 rfl ?_
            refine x_aload_n (pc := 34) X dX4_allSeenFit_34 (i := 0) rfl 0 rfl ?_
            obtain ⟨q3, e3, h⟩ := nns h
            refine x_getr (ci := 4) (k := 1) (n := 6) (C := RX4) (T := TX4) (pc := 35) X dX4_allSeenFit_35 hk0 rfl (by decide) w_198 rfl e3 ?_
            refine x_iload (pc := 38) X dX4_allSeenFit_38 5 rfl ?_
            obtain ⟨g4, h⟩ := grd h
            refine x_iald (pc := 40) X dX4_allSeenFit_40 g4 ?_
            obtain ⟨z5, e5, h⟩ := bnds h
            refine x_callSN (pc := 41) (As := [.int i2, .int i3, .int i4, .int (D q3 i5.toNatClampNeg)]) (st := []) (st' := [.int z5]) (host := "HeartPins") X (c_H_largeBehind l cx nx N D P _ _ _ _ z5 e5) dX4_allSeenFit_41 (List.mem_of_getElem? (i := 9) rfl) m_H_largeBehind rfl ⟨by decide, by decide⟩ ⟨Nat.zero_le _, Nat.zero_le _⟩ rfl (Nat.le_of_ble_eq_true rfl) rfl ?_
            refine x_aload_n (pc := 44) X dX4_allSeenFit_44 (i := 0) rfl 0 rfl ?_
            obtain ⟨q6, e6, h⟩ := nns h
            refine x_getr (ci := 4) (k := 2) (n := 6) (C := RX4) (T := TX4) (pc := 45) X dX4_allSeenFit_45 hk0 rfl (by decide) w_199 rfl e6 ?_
            refine x_iload (pc := 48) X dX4_allSeenFit_48 5 rfl ?_
            obtain ⟨g7, h⟩ := grd h
            refine x_iald (pc := 50) X dX4_allSeenFit_50 g7 ?_
            refine x_icmp_eq (tgt := 56) (pc := 51) X dX4_allSeenFit_51 (by decide) (fun c8 => ?_) (fun c8 => ?_)
            · have h := ite_t c8 h
              refine x_iinc (v := i5 + 1) (lv' := [(5, .int (i5 + 1)), (0, .ref (cx.2.2 + a0)), (1, .int i1), (2, .int i2), (3, .int i3), (4, .int i4)]) (pc := 56) X dX4_allSeenFit_56 5 rfl rfl (by decide) rfl ?_
              refine x_goto (tgt := 3) (pc := 59) X dX4_allSeenFit_59 (by decide) ?_
              exact XW.sub [1, 2, 3, 4, 5, 0] rfl (ih3 _ h)
            · have h := ite_f c8 h
              refine x_iconst (v := 0) (pc := 54) X dX4_allSeenFit_54 (by decide) ?_
              obtain rfl := Option.some.inj h
              exact x_zret (pc := 55) X dX4_allSeenFit_55 (Or.inl rfl)
  refine x_iconst (v := 0) (pc := 0) X dX4_allSeenFit_0 (by decide) ?_
  refine x_istore (lv' := [(5, .int 0), (0, .ref (cx.2.2 + a0)), (1, .int i1), (2, .int i2), (3, .int i3), (4, .int i4)]) (pc := 1) X dX4_allSeenFit_1 (by decide) rfl ?_
  exact XW.sub [1, 2, 3, 4, 5, 0] rfl (hL3 _ _ h)
theorem dX6_clear_0 : decode cX6_clear 0 = .ok (.aload_n 0, 1) := by decide +kernel
theorem dX6_clear_1 : decode cX6_clear 1 = .ok (.iconst 0, 1) := by decide +kernel
theorem dX6_clear_2 : decode cX6_clear 2 = .ok (.putfield 24, 3) := by decide +kernel
theorem dX6_clear_5 : decode cX6_clear 5 = .ok (.return_, 1) := by decide +kernel
def f_S_clear (N nx : Nat) (D : Dt) (P : Ft) (a0 : Nat) : Option Dt :=
  if kd nx a0 = 6 then
  pas (upd2 D a0 1 0) fun D1 =>
  some D1
  else none
theorem m_S_clear : MV yX6_clear cX6_clear 1 none 0 := ⟨mT 412 (by decide +kernel) rfl, mT 410 (by decide +kernel) rfl, mT 411 (by decide +kernel) rfl, mT 58 (by decide +kernel) rfl, by decide +kernel, by decide +kernel, by decide +kernel⟩
set_option maxHeartbeats 4000000 in
set_option maxRecDepth 100000 in
theorem c_S_clear (l : Launch) (cx : Cx) (nx N : Nat) (D : Dt) (P : Ft) (a0 : Nat) (z : Dt) (h : f_S_clear N nx D P a0 = some z) : Ct l cx yX6_clear cX6_clear 1 none 0 [.ref (cx.2.2 + a0)] D P nx none z P := by
  refine x_met0 (by decide) (Nat.le_of_ble_eq_true rfl) ?_
  intro p e s m args below meth c X
  have X : XC p s m args meth c cx cX6_clear 1 none "HeartPins$Shelf" "clear" := X
  refine XW.sub (lv' := [(0, .ref (cx.2.2 + a0))]) [0] rfl ?_
  unfold f_S_clear at h
  obtain ⟨hk0, h⟩ := grd h
  refine x_aload_n (pc := 0) X dX6_clear_0 (i := 0) rfl 0 rfl ?_
  refine x_iconst (v := 0) (pc := 1) X dX6_clear_1 (by decide) ?_
  obtain ⟨D1, w1, h⟩ := pass h
  refine x_puti (ci := 6) (k := 1) (n := 2) (C := RX6) (T := TX6) (D' := D1) (pc := 2) X dX6_clear_2 hk0 rfl (by decide) w_184 rfl (by decide +kernel) rfl w1 ?_
  obtain rfl := Option.some.inj h
  exact x_vret (pc := 5) X dX6_clear_5
theorem dX6_rowAt_0 : decode cX6_rowAt 0 = .ok (.iload_n 1, 1) := by decide +kernel
theorem dX6_rowAt_1 : decode cX6_rowAt 1 = .ok (.ifCond .lt 21, 3) := by decide +kernel
theorem dX6_rowAt_4 : decode cX6_rowAt 4 = .ok (.iload_n 1, 1) := by decide +kernel
theorem dX6_rowAt_5 : decode cX6_rowAt 5 = .ok (.aload_n 0, 1) := by decide +kernel
theorem dX6_rowAt_6 : decode cX6_rowAt 6 = .ok (.getfield 15, 3) := by decide +kernel
theorem dX6_rowAt_9 : decode cX6_rowAt 9 = .ok (.arraylength, 1) := by decide +kernel
theorem dX6_rowAt_10 : decode cX6_rowAt 10 = .ok (.if_icmp .ge 12, 3) := by decide +kernel
theorem dX6_rowAt_13 : decode cX6_rowAt 13 = .ok (.aload_n 0, 1) := by decide +kernel
theorem dX6_rowAt_14 : decode cX6_rowAt 14 = .ok (.getfield 15, 3) := by decide +kernel
theorem dX6_rowAt_17 : decode cX6_rowAt 17 = .ok (.iload_n 1, 1) := by decide +kernel
theorem dX6_rowAt_18 : decode cX6_rowAt 18 = .ok (.aaload, 1) := by decide +kernel
theorem dX6_rowAt_19 : decode cX6_rowAt 19 = .ok (.goto 4, 3) := by decide +kernel
theorem dX6_rowAt_22 : decode cX6_rowAt 22 = .ok (.aconst_null, 1) := by decide +kernel
theorem dX6_rowAt_23 : decode cX6_rowAt 23 = .ok (.areturn, 1) := by decide +kernel
def f_S_rowAt (N nx : Nat) (D : Dt) (P : Ft) (a0 : Nat) (i1 : Int32) : Option (Option Nat) :=
  if kd nx a0 = 6 then
  if i1 < 0 then
    some none
  else
    nn (P a0 0) fun q1 =>
    if kd nx q1 / 10000 = 3 ∨ kd nx q1 / 10000 = 4 then
    if Int32.ofNat (kd nx q1 % 10000) ≤ i1 then
      some none
    else
      if ab nx q1 4 i1 = true then
      nn (P q1 i1.toNatClampNeg) fun q4 =>
      some (some q4)
      else none
    else none
  else none
theorem m_S_rowAt : MV yX6_rowAt cX6_rowAt 2 (some (.object "HeartPins$Standing")) 1 := ⟨mT 559 (by decide +kernel) rfl, mT 558 (by decide +kernel) rfl, mT 6 (by decide +kernel) rfl, mT 58 (by decide +kernel) rfl, by decide +kernel, by decide +kernel, by decide +kernel⟩
set_option maxHeartbeats 4000000 in
set_option maxRecDepth 100000 in
theorem c_S_rowAt (l : Launch) (cx : Cx) (nx N : Nat) (D : Dt) (P : Ft) (a0 : Nat) (i1 : Int32) (z : Option Nat) (h : f_S_rowAt N nx D P a0 i1 = some z) : Ct l cx yX6_rowAt cX6_rowAt 2 (some (.object "HeartPins$Standing")) 0 [.ref (cx.2.2 + a0), .int i1] D P nx (some (rv cx z)) D P := by
  refine x_met0 (by decide) (Nat.le_of_ble_eq_true rfl) ?_
  intro p e s m args below meth c X
  have X : XC p s m args meth c cx cX6_rowAt 2 (some (.object "HeartPins$Standing")) "HeartPins$Shelf" "rowAt" := X
  refine XW.sub (lv' := [(0, .ref (cx.2.2 + a0)), (1, .int i1)]) [0, 1] rfl ?_
  unfold f_S_rowAt at h
  obtain ⟨hk0, h⟩ := grd h
  refine x_iload_n (pc := 0) X dX6_rowAt_0 (i := 1) rfl 1 rfl ?_
  refine x_if_lt (tgt := 22) (pc := 1) X dX6_rowAt_1 (by decide) (fun c6 => ?_) (fun c6 => ?_)
  · have h := ite_t c6 h
    refine x_null (pc := 22) X dX6_rowAt_22 ?_
    obtain rfl := Option.some.inj h
    exact x_aret (pc := 23) X (v := none) rfl ⟨_, rfl⟩ dX6_rowAt_23
  · have h := ite_f c6 h
    refine x_iload_n (pc := 4) X dX6_rowAt_4 (i := 1) rfl 1 rfl ?_
    refine x_aload_n (pc := 5) X dX6_rowAt_5 (i := 0) rfl 0 rfl ?_
    obtain ⟨q1, e1, h⟩ := nns h
    refine x_getr (ci := 6) (k := 0) (n := 2) (C := RX6) (T := TX6) (pc := 6) X dX6_rowAt_6 hk0 rfl (by decide) w_183 rfl e1 ?_
    obtain ⟨k2, h⟩ := grd h
    refine x_alen (pc := 9) X dX6_rowAt_9 rfl k2 rfl ?_
    refine x_icmp_ge (tgt := 22) (pc := 10) X dX6_rowAt_10 (by decide) (fun c5 => ?_) (fun c5 => ?_)
    · have h := ite_t c5 h
      refine x_null (pc := 22) X dX6_rowAt_22 ?_
      obtain rfl := Option.some.inj h
      exact x_aret (pc := 23) X (v := none) rfl ⟨_, rfl⟩ dX6_rowAt_23
    · have h := ite_f c5 h
      refine x_aload_n (pc := 13) X dX6_rowAt_13 (i := 0) rfl 0 rfl ?_
      refine x_getr (ci := 6) (k := 0) (n := 2) (C := RX6) (T := TX6) (pc := 14) X dX6_rowAt_14 hk0 rfl (by decide) w_183 rfl e1 ?_
      refine x_iload_n (pc := 17) X dX6_rowAt_17 (i := 1) rfl 1 rfl ?_
      obtain ⟨g3, h⟩ := grd h
      obtain ⟨q4, e4, h⟩ := nns h
      refine x_aald (pc := 18) X dX6_rowAt_18 g3 e4 ?_
      refine x_goto (tgt := 23) (pc := 19) X dX6_rowAt_19 (by decide) ?_
      obtain rfl := Option.some.inj h
      exact x_aret (pc := 23) X (v := (some q4)) rfl ⟨_, rfl⟩ dX6_rowAt_23
theorem dX6_dropOldest_0 : decode cX6_dropOldest 0 = .ok (.aload_n 0, 1) := by decide +kernel
theorem dX6_dropOldest_1 : decode cX6_dropOldest 1 = .ok (.iconst 0, 1) := by decide +kernel
theorem dX6_dropOldest_2 : decode cX6_dropOldest 2 = .ok (.invokevirtual 31, 3) := by decide +kernel
theorem dX6_dropOldest_5 : decode cX6_dropOldest 5 = .ok (.astore_n 1, 1) := by decide +kernel
theorem dX6_dropOldest_6 : decode cX6_dropOldest 6 = .ok (.aload_n 1, 1) := by decide +kernel
theorem dX6_dropOldest_7 : decode cX6_dropOldest 7 = .ok (.ifnonnull 4, 3) := by decide +kernel
theorem dX6_dropOldest_10 : decode cX6_dropOldest 10 = .ok (.return_, 1) := by decide +kernel
theorem dX6_dropOldest_11 : decode cX6_dropOldest 11 = .ok (.iconst 1, 1) := by decide +kernel
theorem dX6_dropOldest_12 : decode cX6_dropOldest 12 = .ok (.istore_n 2, 1) := by decide +kernel
theorem dX6_dropOldest_13 : decode cX6_dropOldest 13 = .ok (.iload_n 2, 1) := by decide +kernel
theorem dX6_dropOldest_14 : decode cX6_dropOldest 14 = .ok (.aload_n 0, 1) := by decide +kernel
theorem dX6_dropOldest_15 : decode cX6_dropOldest 15 = .ok (.getfield 15, 3) := by decide +kernel
theorem dX6_dropOldest_18 : decode cX6_dropOldest 18 = .ok (.arraylength, 1) := by decide +kernel
theorem dX6_dropOldest_19 : decode cX6_dropOldest 19 = .ok (.if_icmp .ge 23, 3) := by decide +kernel
theorem dX6_dropOldest_22 : decode cX6_dropOldest 22 = .ok (.aload_n 0, 1) := by decide +kernel
theorem dX6_dropOldest_23 : decode cX6_dropOldest 23 = .ok (.getfield 15, 3) := by decide +kernel
theorem dX6_dropOldest_26 : decode cX6_dropOldest 26 = .ok (.iload_n 2, 1) := by decide +kernel
theorem dX6_dropOldest_27 : decode cX6_dropOldest 27 = .ok (.iconst 1, 1) := by decide +kernel
theorem dX6_dropOldest_28 : decode cX6_dropOldest 28 = .ok (.isub, 1) := by decide +kernel
theorem dX6_dropOldest_29 : decode cX6_dropOldest 29 = .ok (.aload_n 0, 1) := by decide +kernel
theorem dX6_dropOldest_30 : decode cX6_dropOldest 30 = .ok (.getfield 15, 3) := by decide +kernel
theorem dX6_dropOldest_33 : decode cX6_dropOldest 33 = .ok (.iload_n 2, 1) := by decide +kernel
theorem dX6_dropOldest_34 : decode cX6_dropOldest 34 = .ok (.aaload, 1) := by decide +kernel
theorem dX6_dropOldest_35 : decode cX6_dropOldest 35 = .ok (.aastore, 1) := by decide +kernel
theorem dX6_dropOldest_36 : decode cX6_dropOldest 36 = .ok (.iinc 2 1, 3) := by decide +kernel
theorem dX6_dropOldest_39 : decode cX6_dropOldest 39 = .ok (.goto (-26), 3) := by decide +kernel
theorem dX6_dropOldest_42 : decode cX6_dropOldest 42 = .ok (.aload_n 0, 1) := by decide +kernel
theorem dX6_dropOldest_43 : decode cX6_dropOldest 43 = .ok (.getfield 15, 3) := by decide +kernel
theorem dX6_dropOldest_46 : decode cX6_dropOldest 46 = .ok (.aload_n 0, 1) := by decide +kernel
theorem dX6_dropOldest_47 : decode cX6_dropOldest 47 = .ok (.getfield 15, 3) := by decide +kernel
theorem dX6_dropOldest_50 : decode cX6_dropOldest 50 = .ok (.arraylength, 1) := by decide +kernel
theorem dX6_dropOldest_51 : decode cX6_dropOldest 51 = .ok (.iconst 1, 1) := by decide +kernel
theorem dX6_dropOldest_52 : decode cX6_dropOldest 52 = .ok (.isub, 1) := by decide +kernel
theorem dX6_dropOldest_53 : decode cX6_dropOldest 53 = .ok (.aload_n 1, 1) := by decide +kernel
theorem dX6_dropOldest_54 : decode cX6_dropOldest 54 = .ok (.aastore, 1) := by decide +kernel
theorem dX6_dropOldest_55 : decode cX6_dropOldest 55 = .ok (.aload_n 0, 1) := by decide +kernel
theorem dX6_dropOldest_56 : decode cX6_dropOldest 56 = .ok (.aload_n 0, 1) := by decide +kernel
theorem dX6_dropOldest_57 : decode cX6_dropOldest 57 = .ok (.getfield 15, 3) := by decide +kernel
theorem dX6_dropOldest_60 : decode cX6_dropOldest 60 = .ok (.arraylength, 1) := by decide +kernel
theorem dX6_dropOldest_61 : decode cX6_dropOldest 61 = .ok (.iconst 1, 1) := by decide +kernel
theorem dX6_dropOldest_62 : decode cX6_dropOldest 62 = .ok (.isub, 1) := by decide +kernel
theorem dX6_dropOldest_63 : decode cX6_dropOldest 63 = .ok (.putfield 24, 3) := by decide +kernel
theorem dX6_dropOldest_66 : decode cX6_dropOldest 66 = .ok (.return_, 1) := by decide +kernel
def f_S_dropOldest_13 (N nx : Nat) (D : Dt) (a0 : Nat) (a1 : Nat) (rec13 : Ft → Int32 → Option (Dt × Ft)) (P : Ft) (i2 : Int32) : Option (Dt × Ft) :=
  nn (P a0 0) fun q2 =>
  if kd nx q2 / 10000 = 3 ∨ kd nx q2 / 10000 = 4 then
  if Int32.ofNat (kd nx q2 % 10000) ≤ i2 then
    if kd nx q2 / 10000 = 3 ∨ kd nx q2 / 10000 = 4 then
    if kd nx a1 = 7 then
    if ab nx q2 4 ((Int32.ofNat (kd nx q2 % 10000)) - 1) = true then
    pas (updF P q2 ((Int32.ofNat (kd nx q2 % 10000)) - 1).toNatClampNeg (some a1)) fun P5 =>
    nn (P5 a0 0) fun q7 =>
    if kd nx q7 / 10000 = 3 ∨ kd nx q7 / 10000 = 4 then
    pas (upd2 D a0 1 ((Int32.ofNat (kd nx q7 % 10000)) - 1)) fun D9 =>
    some (D9, P5)
    else none
    else none
    else none
    else none
  else
    if ab nx q2 4 i2 = true then
    nn (P q2 i2.toNatClampNeg) fun q11 =>
    if kd nx q11 = 7 then
    if ab nx q2 4 (i2 - 1) = true then
    pas (updF P q2 (i2 - 1).toNatClampNeg (some q11)) fun P12 =>
    rec13 P12 (i2 + 1)
    else none
    else none
    else none
  else none
def f_S_dropOldest (N nx : Nat) (D : Dt) (P : Ft) (a0 : Nat) : Option (Dt × Ft) :=
  if kd nx a0 = 6 then
  (f_S_rowAt N nx D P a0 0).bind fun z1 =>
  orn z1
    (
      some (D, P)
    )
    fun q1 =>
      wk2 N (f_S_dropOldest_13 N nx D a0 q1) P 1
  else none
theorem m_S_dropOldest : MV yX6_dropOldest cX6_dropOldest 3 none 0 := ⟨mT 555 (by decide +kernel) rfl, mT 554 (by decide +kernel) rfl, mT 5 (by decide +kernel) rfl, mT 58 (by decide +kernel) rfl, by decide +kernel, by decide +kernel, by decide +kernel⟩
set_option maxHeartbeats 4000000 in
set_option maxRecDepth 100000 in
theorem c_S_dropOldest (l : Launch) (cx : Cx) (nx N : Nat) (D : Dt) (P : Ft) (a0 : Nat) (z : Dt × Ft) (h : f_S_dropOldest N nx D P a0 = some z) : Ct l cx yX6_dropOldest cX6_dropOldest 3 none 1 [.ref (cx.2.2 + a0)] D P nx none z.1 z.2 := by
  refine x_met0 (by decide) (Nat.le_of_ble_eq_true rfl) ?_
  intro p e s m args below meth c X
  have X : XC p s m args meth c cx cX6_dropOldest 3 none "HeartPins$Shelf" "dropOldest" := X
  refine XW.sub (lv' := [(0, .ref (cx.2.2 + a0))]) [0] rfl ?_
  unfold f_S_dropOldest at h
  obtain ⟨hk0, h⟩ := grd h
  have hL13 : ∀ (D : Dt) (a1 : Nat) (n : Nat) (P : Ft) (i2 : Int32), wk2 n (f_S_dropOldest_13 N nx D a0 a1) P i2 = some z → XW p l e (rmk 1) s m args below meth c (MQ below (Qx cx none z.1 z.2 nx) args s 0 0 (AA cx)) cx 3 D P nx 0 0 13 [(0, .ref (cx.2.2 + a0)), (1, .ref (cx.2.2 + a1)), (2, .int i2)] [] := by
    intro D a1 n
    induction n with
    | zero => intro P i2 h; exact (nonz h).elim
    | succ n ih13 =>
      intro P i2 h
      have h : f_S_dropOldest_13 N nx D a0 a1 (wk2 n (f_S_dropOldest_13 N nx D a0 a1)) P i2 = some z := h
      generalize wk2 n (f_S_dropOldest_13 N nx D a0 a1) = rec13 at ih13 h
      unfold f_S_dropOldest_13 at h
      refine x_iload_n (pc := 13) X dX6_dropOldest_13 (i := 2) rfl 2 rfl ?_
      refine x_aload_n (pc := 14) X dX6_dropOldest_14 (i := 0) rfl 0 rfl ?_
      obtain ⟨q2, e2, h⟩ := nns h
      refine x_getr (ci := 6) (k := 0) (n := 2) (C := RX6) (T := TX6) (pc := 15) X dX6_dropOldest_15 hk0 rfl (by decide) w_183 rfl e2 ?_
      obtain ⟨k3, h⟩ := grd h
      refine x_alen (pc := 18) X dX6_dropOldest_18 rfl k3 rfl ?_
      refine x_icmp_ge (tgt := 42) (pc := 19) X dX6_dropOldest_19 (by decide) (fun c14 => ?_) (fun c14 => ?_)
      · have h := ite_t c14 h
        refine x_aload_n (pc := 42) X dX6_dropOldest_42 (i := 0) rfl 0 rfl ?_
        refine x_getr (ci := 6) (k := 0) (n := 2) (C := RX6) (T := TX6) (pc := 43) X dX6_dropOldest_43 hk0 rfl (by decide) w_183 rfl e2 ?_
        refine x_aload_n (pc := 46) X dX6_dropOldest_46 (i := 0) rfl 0 rfl ?_
        refine x_getr (ci := 6) (k := 0) (n := 2) (C := RX6) (T := TX6) (pc := 47) X dX6_dropOldest_47 hk0 rfl (by decide) w_183 rfl e2 ?_
        obtain ⟨k4, h⟩ := grd h
        refine x_alen (pc := 50) X dX6_dropOldest_50 rfl k4 rfl ?_
        refine x_iconst (v := 1) (pc := 51) X dX6_dropOldest_51 (by decide) ?_
        refine x_isub (pc := 52) X dX6_dropOldest_52 ?_
        refine x_aload_n (pc := 53) X dX6_dropOldest_53 (i := 1) rfl 1 rfl ?_
        obtain ⟨k6, h⟩ := grd h
        obtain ⟨g5, h⟩ := grd h
        obtain ⟨P5, w5, h⟩ := pass h
        refine x_aast (P' := P5) (pc := 54) X dX6_dropOldest_54 g5 k6 w5 ?_
        refine x_aload_n (pc := 55) X dX6_dropOldest_55 (i := 0) rfl 0 rfl ?_
        refine x_aload_n (pc := 56) X dX6_dropOldest_56 (i := 0) rfl 0 rfl ?_
        obtain ⟨q7, e7, h⟩ := nns h
        refine x_getr (ci := 6) (k := 0) (n := 2) (C := RX6) (T := TX6) (pc := 57) X dX6_dropOldest_57 hk0 rfl (by decide) w_183 rfl e7 ?_
        obtain ⟨k8, h⟩ := grd h
        refine x_alen (pc := 60) X dX6_dropOldest_60 rfl k8 rfl ?_
        refine x_iconst (v := 1) (pc := 61) X dX6_dropOldest_61 (by decide) ?_
        refine x_isub (pc := 62) X dX6_dropOldest_62 ?_
        obtain ⟨D9, w9, h⟩ := pass h
        refine x_puti (ci := 6) (k := 1) (n := 2) (C := RX6) (T := TX6) (D' := D9) (pc := 63) X dX6_dropOldest_63 hk0 rfl (by decide) w_184 rfl (by decide +kernel) rfl w9 ?_
        obtain rfl := Option.some.inj h
        exact x_vret (pc := 66) X dX6_dropOldest_66
      · have h := ite_f c14 h
        refine x_aload_n (pc := 22) X dX6_dropOldest_22 (i := 0) rfl 0 rfl ?_
        refine x_getr (ci := 6) (k := 0) (n := 2) (C := RX6) (T := TX6) (pc := 23) X dX6_dropOldest_23 hk0 rfl (by decide) w_183 rfl e2 ?_
        refine x_iload_n (pc := 26) X dX6_dropOldest_26 (i := 2) rfl 2 rfl ?_
        refine x_iconst (v := 1) (pc := 27) X dX6_dropOldest_27 (by decide) ?_
        refine x_isub (pc := 28) X dX6_dropOldest_28 ?_
        refine x_aload_n (pc := 29) X dX6_dropOldest_29 (i := 0) rfl 0 rfl ?_
        refine x_getr (ci := 6) (k := 0) (n := 2) (C := RX6) (T := TX6) (pc := 30) X dX6_dropOldest_30 hk0 rfl (by decide) w_183 rfl e2 ?_
        refine x_iload_n (pc := 33) X dX6_dropOldest_33 (i := 2) rfl 2 rfl ?_
        obtain ⟨g10, h⟩ := grd h
        obtain ⟨q11, e11, h⟩ := nns h
        refine x_aald (pc := 34) X dX6_dropOldest_34 g10 e11 ?_
        obtain ⟨k13, h⟩ := grd h
        obtain ⟨g12, h⟩ := grd h
        obtain ⟨P12, w12, h⟩ := pass h
        refine x_aast (P' := P12) (pc := 35) X dX6_dropOldest_35 g12 k13 w12 ?_
        refine x_iinc (v := i2 + 1) (lv' := [(2, .int (i2 + 1)), (0, .ref (cx.2.2 + a0)), (1, .ref (cx.2.2 + a1))]) (pc := 36) X dX6_dropOldest_36 2 rfl rfl (by decide) rfl ?_
        refine x_goto (tgt := 13) (pc := 39) X dX6_dropOldest_39 (by decide) ?_
        exact XW.sub [1, 2, 0] rfl (ih13 _ _ h)
  refine x_aload_n (pc := 0) X dX6_dropOldest_0 (i := 0) rfl 0 rfl ?_
  refine x_iconst (v := 0) (pc := 1) X dX6_dropOldest_1 (by decide) ?_
  obtain ⟨z1, e1, h⟩ := bnds h
  refine x_callV (pc := 2) (As := [.int 0]) (st := []) (st' := [rv cx z1]) X (c_S_rowAt l cx nx N D P _ _ z1 e1) dX6_dropOldest_2 w_556 m_S_rowAt rfl hk0 (ci := 6) rfl rfl ⟨by decide, by decide⟩ ⟨Nat.zero_le _, Nat.zero_le _⟩ rfl (Nat.le_of_ble_eq_true rfl) rfl ?_
  rcases orN h with ⟨y1, h⟩ | ⟨q1, y1, h⟩
  · subst y1
    refine x_rvN ?_
    refine x_astore_nN (lv' := [(1, .null), (0, .ref (cx.2.2 + a0))]) (pc := 5) X dX6_dropOldest_5 (i := 1) rfl (by decide) rfl ?_
    refine x_aload_nN (pc := 6) X dX6_dropOldest_6 (i := 1) rfl 0 rfl ?_
    refine x_ifnonnullN (pc := 7) X dX6_dropOldest_7 ?_
    obtain rfl := Option.some.inj h
    exact x_vret (pc := 10) X dX6_dropOldest_10
  · subst y1
    refine x_rvS ?_
    refine x_astore_n (lv' := [(1, .ref (cx.2.2 + q1)), (0, .ref (cx.2.2 + a0))]) (pc := 5) X dX6_dropOldest_5 (i := 1) rfl (by decide) rfl ?_
    refine x_aload_n (pc := 6) X dX6_dropOldest_6 (i := 1) rfl 0 rfl ?_
    refine x_ifnonnull (tgt := 11) (pc := 7) X dX6_dropOldest_7 (by decide) ?_
    refine x_iconst (v := 1) (pc := 11) X dX6_dropOldest_11 (by decide) ?_
    refine x_istore_n (lv' := [(2, .int 1), (1, .ref (cx.2.2 + q1)), (0, .ref (cx.2.2 + a0))]) (pc := 12) X dX6_dropOldest_12 (i := 2) rfl (by decide) rfl ?_
    exact XW.sub [2, 1, 0] rfl (hL13 _ _ _ _ _ h)
theorem dX6_put_0 : decode cX6_put 0 = .ok (.aload_n 0, 1) := by decide +kernel
theorem dX6_put_1 : decode cX6_put 1 = .ok (.getfield 24, 3) := by decide +kernel
theorem dX6_put_4 : decode cX6_put 4 = .ok (.aload_n 0, 1) := by decide +kernel
theorem dX6_put_5 : decode cX6_put 5 = .ok (.getfield 15, 3) := by decide +kernel
theorem dX6_put_8 : decode cX6_put 8 = .ok (.arraylength, 1) := by decide +kernel
theorem dX6_put_9 : decode cX6_put 9 = .ok (.if_icmp .lt 7, 3) := by decide +kernel
theorem dX6_put_12 : decode cX6_put 12 = .ok (.aload_n 0, 1) := by decide +kernel
theorem dX6_put_13 : decode cX6_put 13 = .ok (.invokevirtual 28, 3) := by decide +kernel
theorem dX6_put_16 : decode cX6_put 16 = .ok (.aload_n 0, 1) := by decide +kernel
theorem dX6_put_17 : decode cX6_put 17 = .ok (.aload_n 0, 1) := by decide +kernel
theorem dX6_put_18 : decode cX6_put 18 = .ok (.getfield 24, 3) := by decide +kernel
theorem dX6_put_21 : decode cX6_put 21 = .ok (.invokevirtual 31, 3) := by decide +kernel
theorem dX6_put_24 : decode cX6_put 24 = .ok (.astore_n 2, 1) := by decide +kernel
theorem dX6_put_25 : decode cX6_put 25 = .ok (.aload_n 2, 1) := by decide +kernel
theorem dX6_put_26 : decode cX6_put 26 = .ok (.ifnull 18, 3) := by decide +kernel
theorem dX6_put_29 : decode cX6_put 29 = .ok (.aload_n 2, 1) := by decide +kernel
theorem dX6_put_30 : decode cX6_put 30 = .ok (.aload_n 1, 1) := by decide +kernel
theorem dX6_put_31 : decode cX6_put 31 = .ok (.invokevirtual 35, 3) := by decide +kernel
theorem dX6_put_34 : decode cX6_put 34 = .ok (.aload_n 0, 1) := by decide +kernel
theorem dX6_put_35 : decode cX6_put 35 = .ok (.dup, 1) := by decide +kernel
theorem dX6_put_36 : decode cX6_put 36 = .ok (.getfield 24, 3) := by decide +kernel
theorem dX6_put_39 : decode cX6_put 39 = .ok (.iconst 1, 1) := by decide +kernel
theorem dX6_put_40 : decode cX6_put 40 = .ok (.iadd, 1) := by decide +kernel
theorem dX6_put_41 : decode cX6_put 41 = .ok (.putfield 24, 3) := by decide +kernel
theorem dX6_put_44 : decode cX6_put 44 = .ok (.return_, 1) := by decide +kernel
def f_S_put_16 (N nx : Nat) (D : Dt) (P : Ft) (a0 : Nat) (a1 : Nat) : Option (Dt × Ft) :=
  (f_S_rowAt N nx D P a0 (D a0 1)).bind fun z3 =>
  orn z3
    (
      some (D, P)
    )
    fun q3 =>
      if kd nx q3 = 7 then
      (f_C_copyFrom N nx D P q3 a1).bind fun z4 =>
      pas (upd2 z4 a0 1 ((z4 a0 1) + 1)) fun D6 =>
      some (D6, P)
      else none
def f_S_put (N nx : Nat) (D : Dt) (P : Ft) (a0 : Nat) (a1 : Nat) : Option (Dt × Ft) :=
  if kd nx a0 = 6 then
  nn (P a0 0) fun q1 =>
  if kd nx q1 / 10000 = 3 ∨ kd nx q1 / 10000 = 4 then
  if D a0 1 < Int32.ofNat (kd nx q1 % 10000) then
    f_S_put_16 N nx D P a0 a1
  else
    (f_S_dropOldest N nx D P a0).bind fun z7 =>
    f_S_put_16 N nx z7.1 z7.2 a0 a1
  else none
  else none
theorem m_S_put : MV yX6_put cX6_put 3 none 1 := ⟨mT 551 (by decide +kernel) rfl, mT 549 (by decide +kernel) rfl, mT 550 (by decide +kernel) rfl, mT 58 (by decide +kernel) rfl, by decide +kernel, by decide +kernel, by decide +kernel⟩
set_option maxHeartbeats 4000000 in
set_option maxRecDepth 100000 in
theorem c_S_put (l : Launch) (cx : Cx) (nx N : Nat) (D : Dt) (P : Ft) (a0 : Nat) (a1 : Nat) (z : Dt × Ft) (h : f_S_put N nx D P a0 a1 = some z) : Ct l cx yX6_put cX6_put 3 none 2 [.ref (cx.2.2 + a0), .ref (cx.2.2 + a1)] D P nx none z.1 z.2 := by
  refine x_met0 (by decide) (Nat.le_of_ble_eq_true rfl) ?_
  intro p e s m args below meth c X
  have X : XC p s m args meth c cx cX6_put 3 none "HeartPins$Shelf" "put" := X
  refine XW.sub (lv' := [(0, .ref (cx.2.2 + a0)), (1, .ref (cx.2.2 + a1))]) [0, 1] rfl ?_
  unfold f_S_put at h
  obtain ⟨hk0, h⟩ := grd h
  have hJ16 : ∀ (D : Dt) (P : Ft), f_S_put_16 N nx D P a0 a1 = some z → XW p l e (rmk 2) s m args below meth c (MQ below (Qx cx none z.1 z.2 nx) args s 0 0 (AA cx)) cx 3 D P nx 0 0 16 [(0, .ref (cx.2.2 + a0)), (1, .ref (cx.2.2 + a1))] [] := by
    intro D P h
    unfold f_S_put_16 at h
    refine x_aload_n (pc := 16) X dX6_put_16 (i := 0) rfl 0 rfl ?_
    refine x_aload_n (pc := 17) X dX6_put_17 (i := 0) rfl 0 rfl ?_
    refine x_geti (ci := 6) (k := 1) (n := 2) (C := RX6) (T := TX6) (pc := 18) X dX6_put_18 hk0 rfl (by decide) w_184 rfl ?_
    obtain ⟨z3, e3, h⟩ := bnds h
    refine x_callV (pc := 21) (As := [.int (D a0 1)]) (st := []) (st' := [rv cx z3]) X (c_S_rowAt l cx nx N D P _ _ z3 e3) dX6_put_21 w_556 m_S_rowAt rfl hk0 (ci := 6) rfl rfl ⟨by decide, by decide⟩ ⟨Nat.zero_le _, Nat.zero_le _⟩ rfl (Nat.le_of_ble_eq_true rfl) rfl ?_
    rcases orN h with ⟨y3, h⟩ | ⟨q3, y3, h⟩
    · subst y3
      refine x_rvN ?_
      refine x_astore_nN (lv' := [(2, .null), (0, .ref (cx.2.2 + a0)), (1, .ref (cx.2.2 + a1))]) (pc := 24) X dX6_put_24 (i := 2) rfl (by decide) rfl ?_
      refine x_aload_nN (pc := 25) X dX6_put_25 (i := 2) rfl 0 rfl ?_
      refine x_ifnullN (tgt := 44) (pc := 26) X dX6_put_26 (by decide) ?_
      obtain rfl := Option.some.inj h
      exact x_vret (pc := 44) X dX6_put_44
    · subst y3
      refine x_rvS ?_
      refine x_astore_n (lv' := [(2, .ref (cx.2.2 + q3)), (0, .ref (cx.2.2 + a0)), (1, .ref (cx.2.2 + a1))]) (pc := 24) X dX6_put_24 (i := 2) rfl (by decide) rfl ?_
      refine x_aload_n (pc := 25) X dX6_put_25 (i := 2) rfl 0 rfl ?_
      refine x_ifnull (pc := 26) X dX6_put_26 ?_
      refine x_aload_n (pc := 29) X dX6_put_29 (i := 2) rfl 0 rfl ?_
      refine x_aload_n (pc := 30) X dX6_put_30 (i := 1) rfl 2 rfl ?_
      obtain ⟨k5, h⟩ := grd h
      obtain ⟨z4, e4, h⟩ := bnds h
      refine x_callV (pc := 31) (As := [.ref (cx.2.2 + a1)]) (st := []) (st' := []) X (c_C_copyFrom l cx nx N D P _ _ z4 e4) dX6_put_31 w_560 m_C_copyFrom rfl k5 (ci := 7) rfl rfl ⟨by decide, by decide⟩ ⟨Nat.zero_le _, Nat.zero_le _⟩ rfl (Nat.le_of_ble_eq_true rfl) rfl ?_
      refine x_aload_n (pc := 34) X dX6_put_34 (i := 0) rfl 1 rfl ?_
      refine x_dup (pc := 35) X dX6_put_35 rfl ?_
      refine x_geti (ci := 6) (k := 1) (n := 2) (C := RX6) (T := TX6) (pc := 36) X dX6_put_36 hk0 rfl (by decide) w_184 rfl ?_
      refine x_iconst (v := 1) (pc := 39) X dX6_put_39 (by decide) ?_
      refine x_iadd (pc := 40) X dX6_put_40 ?_
      obtain ⟨D6, w6, h⟩ := pass h
      refine x_puti (ci := 6) (k := 1) (n := 2) (C := RX6) (T := TX6) (D' := D6) (pc := 41) X dX6_put_41 hk0 rfl (by decide) w_184 rfl (by decide +kernel) rfl w6 ?_
      obtain rfl := Option.some.inj h
      exact x_vret (pc := 44) X dX6_put_44
  refine x_aload_n (pc := 0) X dX6_put_0 (i := 0) rfl 0 rfl ?_
  refine x_geti (ci := 6) (k := 1) (n := 2) (C := RX6) (T := TX6) (pc := 1) X dX6_put_1 hk0 rfl (by decide) w_184 rfl ?_
  refine x_aload_n (pc := 4) X dX6_put_4 (i := 0) rfl 0 rfl ?_
  obtain ⟨q1, e1, h⟩ := nns h
  refine x_getr (ci := 6) (k := 0) (n := 2) (C := RX6) (T := TX6) (pc := 5) X dX6_put_5 hk0 rfl (by decide) w_183 rfl e1 ?_
  obtain ⟨k2, h⟩ := grd h
  refine x_alen (pc := 8) X dX6_put_8 rfl k2 rfl ?_
  refine x_icmp_lt (tgt := 16) (pc := 9) X dX6_put_9 (by decide) (fun c8 => ?_) (fun c8 => ?_)
  · have h := ite_t c8 h
    exact XW.sub [0, 1] rfl (hJ16 _ _ h)
  · have h := ite_f c8 h
    refine x_aload_n (pc := 12) X dX6_put_12 (i := 0) rfl 0 rfl ?_
    obtain ⟨z7, e7, h⟩ := bnds h
    refine x_callV (pc := 13) (As := []) (st := []) (st' := []) X (c_S_dropOldest l cx nx N D P _ z7 e7) dX6_put_13 w_552 m_S_dropOldest rfl hk0 (ci := 6) rfl rfl ⟨by decide, by decide⟩ ⟨Nat.zero_le _, Nat.zero_le _⟩ rfl (Nat.le_of_ble_eq_true rfl) rfl ?_
    exact XW.sub [0, 1] rfl (hJ16 _ _ h)
theorem dX6_take_0 : decode cX6_take 0 = .ok (.aload_n 0, 1) := by decide +kernel
theorem dX6_take_1 : decode cX6_take 1 = .ok (.aload_n 0, 1) := by decide +kernel
theorem dX6_take_2 : decode cX6_take 2 = .ok (.getfield 24, 3) := by decide +kernel
theorem dX6_take_5 : decode cX6_take 5 = .ok (.iconst 1, 1) := by decide +kernel
theorem dX6_take_6 : decode cX6_take 6 = .ok (.isub, 1) := by decide +kernel
theorem dX6_take_7 : decode cX6_take 7 = .ok (.invokevirtual 31, 3) := by decide +kernel
theorem dX6_take_10 : decode cX6_take 10 = .ok (.astore_n 2, 1) := by decide +kernel
theorem dX6_take_11 : decode cX6_take 11 = .ok (.aload_n 2, 1) := by decide +kernel
theorem dX6_take_12 : decode cX6_take 12 = .ok (.ifnonnull 5, 3) := by decide +kernel
theorem dX6_take_15 : decode cX6_take 15 = .ok (.iconst 0, 1) := by decide +kernel
theorem dX6_take_16 : decode cX6_take 16 = .ok (.ireturn, 1) := by decide +kernel
theorem dX6_take_17 : decode cX6_take 17 = .ok (.aload_n 1, 1) := by decide +kernel
theorem dX6_take_18 : decode cX6_take 18 = .ok (.aload_n 2, 1) := by decide +kernel
theorem dX6_take_19 : decode cX6_take 19 = .ok (.invokevirtual 35, 3) := by decide +kernel
theorem dX6_take_22 : decode cX6_take 22 = .ok (.aload_n 0, 1) := by decide +kernel
theorem dX6_take_23 : decode cX6_take 23 = .ok (.dup, 1) := by decide +kernel
theorem dX6_take_24 : decode cX6_take 24 = .ok (.getfield 24, 3) := by decide +kernel
theorem dX6_take_27 : decode cX6_take 27 = .ok (.iconst 1, 1) := by decide +kernel
theorem dX6_take_28 : decode cX6_take 28 = .ok (.isub, 1) := by decide +kernel
theorem dX6_take_29 : decode cX6_take 29 = .ok (.putfield 24, 3) := by decide +kernel
theorem dX6_take_32 : decode cX6_take 32 = .ok (.iconst 1, 1) := by decide +kernel
theorem dX6_take_33 : decode cX6_take 33 = .ok (.ireturn, 1) := by decide +kernel
def f_S_take (N nx : Nat) (D : Dt) (P : Ft) (a0 : Nat) (a1 : Nat) : Option (Int32 × Dt) :=
  if kd nx a0 = 6 then
  (f_S_rowAt N nx D P a0 ((D a0 1) - 1)).bind fun z1 =>
  orn z1
    (
      some (0, D)
    )
    fun q1 =>
      if kd nx a1 = 7 then
      (f_C_copyFrom N nx D P a1 q1).bind fun z2 =>
      pas (upd2 z2 a0 1 ((z2 a0 1) - 1)) fun D4 =>
      some (1, D4)
      else none
  else none
theorem m_S_take : MV yX6_take cX6_take 3 (some .boolean) 1 := ⟨mT 633 (by decide +kernel) rfl, mT 631 (by decide +kernel) rfl, mT 632 (by decide +kernel) rfl, mT 58 (by decide +kernel) rfl, by decide +kernel, by decide +kernel, by decide +kernel⟩
set_option maxHeartbeats 4000000 in
set_option maxRecDepth 100000 in
theorem c_S_take (l : Launch) (cx : Cx) (nx N : Nat) (D : Dt) (P : Ft) (a0 : Nat) (a1 : Nat) (z : Int32 × Dt) (h : f_S_take N nx D P a0 a1 = some z) : Ct l cx yX6_take cX6_take 3 (some .boolean) 1 [.ref (cx.2.2 + a0), .ref (cx.2.2 + a1)] D P nx (some (.int z.1)) z.2 P := by
  refine x_met0 (by decide) (Nat.le_of_ble_eq_true rfl) ?_
  intro p e s m args below meth c X
  have X : XC p s m args meth c cx cX6_take 3 (some .boolean) "HeartPins$Shelf" "take" := X
  refine XW.sub (lv' := [(0, .ref (cx.2.2 + a0)), (1, .ref (cx.2.2 + a1))]) [0, 1] rfl ?_
  unfold f_S_take at h
  obtain ⟨hk0, h⟩ := grd h
  refine x_aload_n (pc := 0) X dX6_take_0 (i := 0) rfl 0 rfl ?_
  refine x_aload_n (pc := 1) X dX6_take_1 (i := 0) rfl 0 rfl ?_
  refine x_geti (ci := 6) (k := 1) (n := 2) (C := RX6) (T := TX6) (pc := 2) X dX6_take_2 hk0 rfl (by decide) w_184 rfl ?_
  refine x_iconst (v := 1) (pc := 5) X dX6_take_5 (by decide) ?_
  refine x_isub (pc := 6) X dX6_take_6 ?_
  obtain ⟨z1, e1, h⟩ := bnds h
  refine x_callV (pc := 7) (As := [.int ((D a0 1) - 1)]) (st := []) (st' := [rv cx z1]) X (c_S_rowAt l cx nx N D P _ _ z1 e1) dX6_take_7 w_556 m_S_rowAt rfl hk0 (ci := 6) rfl rfl ⟨by decide, by decide⟩ ⟨Nat.zero_le _, Nat.zero_le _⟩ rfl (Nat.le_of_ble_eq_true rfl) rfl ?_
  rcases orN h with ⟨y1, h⟩ | ⟨q1, y1, h⟩
  · subst y1
    refine x_rvN ?_
    refine x_astore_nN (lv' := [(2, .null), (0, .ref (cx.2.2 + a0)), (1, .ref (cx.2.2 + a1))]) (pc := 10) X dX6_take_10 (i := 2) rfl (by decide) rfl ?_
    refine x_aload_nN (pc := 11) X dX6_take_11 (i := 2) rfl 0 rfl ?_
    refine x_ifnonnullN (pc := 12) X dX6_take_12 ?_
    refine x_iconst (v := 0) (pc := 15) X dX6_take_15 (by decide) ?_
    obtain rfl := Option.some.inj h
    exact x_zret (pc := 16) X dX6_take_16 (Or.inl rfl)
  · subst y1
    refine x_rvS ?_
    refine x_astore_n (lv' := [(2, .ref (cx.2.2 + q1)), (0, .ref (cx.2.2 + a0)), (1, .ref (cx.2.2 + a1))]) (pc := 10) X dX6_take_10 (i := 2) rfl (by decide) rfl ?_
    refine x_aload_n (pc := 11) X dX6_take_11 (i := 2) rfl 0 rfl ?_
    refine x_ifnonnull (tgt := 17) (pc := 12) X dX6_take_12 (by decide) ?_
    refine x_aload_n (pc := 17) X dX6_take_17 (i := 1) rfl 2 rfl ?_
    refine x_aload_n (pc := 18) X dX6_take_18 (i := 2) rfl 0 rfl ?_
    obtain ⟨k3, h⟩ := grd h
    obtain ⟨z2, e2, h⟩ := bnds h
    refine x_callV (pc := 19) (As := [.ref (cx.2.2 + q1)]) (st := []) (st' := []) X (c_C_copyFrom l cx nx N D P _ _ z2 e2) dX6_take_19 w_560 m_C_copyFrom rfl k3 (ci := 7) rfl rfl ⟨by decide, by decide⟩ ⟨Nat.zero_le _, Nat.zero_le _⟩ rfl (Nat.le_of_ble_eq_true rfl) rfl ?_
    refine x_aload_n (pc := 22) X dX6_take_22 (i := 0) rfl 1 rfl ?_
    refine x_dup (pc := 23) X dX6_take_23 rfl ?_
    refine x_geti (ci := 6) (k := 1) (n := 2) (C := RX6) (T := TX6) (pc := 24) X dX6_take_24 hk0 rfl (by decide) w_184 rfl ?_
    refine x_iconst (v := 1) (pc := 27) X dX6_take_27 (by decide) ?_
    refine x_isub (pc := 28) X dX6_take_28 ?_
    obtain ⟨D4, w4, h⟩ := pass h
    refine x_puti (ci := 6) (k := 1) (n := 2) (C := RX6) (T := TX6) (D' := D4) (pc := 29) X dX6_take_29 hk0 rfl (by decide) w_184 rfl (by decide +kernel) rfl w4 ?_
    refine x_iconst (v := 1) (pc := 32) X dX6_take_32 (by decide) ?_
    obtain rfl := Option.some.inj h
    exact x_zret (pc := 33) X dX6_take_33 (Or.inr rfl)
