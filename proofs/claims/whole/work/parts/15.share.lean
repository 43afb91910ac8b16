theorem w_245 : Cond.fieldLink "HeartPins$Sharing" 9 "HeartPins$Sharing" "pins" "[I" ∈ wT := mT 245 (by decide +kernel) rfl
theorem w_246 : Cond.fieldLink "HeartPins$Sharing" 15 "HeartPins$Sharing" "sizes" "[I" ∈ wT := mT 246 (by decide +kernel) rfl
theorem w_247 : Cond.fieldLink "HeartPins$Sharing" 18 "HeartPins$Sharing" "tried" "[I" ∈ wT := mT 247 (by decide +kernel) rfl
theorem w_248 : Cond.fieldLink "HeartPins$Sharing" 21 "HeartPins$Sharing" "bearers" "[I" ∈ wT := mT 248 (by decide +kernel) rfl
theorem w_249 : Cond.fieldLink "HeartPins$Sharing" 24 "HeartPins$Sharing" "loads" "[I" ∈ wT := mT 249 (by decide +kernel) rfl
theorem w_250 : Cond.fieldLink "HeartPins$Sharing" 31 "HeartPins$Sharing" "borne" "I" ∈ wT := mT 250 (by decide +kernel) rfl
theorem w_251 : Cond.fieldLink "HeartPins$Sharing" 27 "HeartPins$Sharing" "persons" "I" ∈ wT := mT 251 (by decide +kernel) rfl
theorem w_252 : Cond.fieldLink "HeartPins$Sharing" 43 "HeartPins$Sharing" "least" "I" ∈ wT := mT 252 (by decide +kernel) rfl
theorem w_279 : Cond.fieldLink "HeartPins$BadDays" 11 "HeartPins$BadDays" "ladder" "[LHeartPins$Standing;" ∈ wT := mT 279 (by decide +kernel) rfl
theorem w_280 : Cond.fieldLink "HeartPins$BadDays" 20 "HeartPins$BadDays" "person" "I" ∈ wT := mT 280 (by decide +kernel) rfl
theorem w_281 : Cond.fieldLink "HeartPins$BadDays" 24 "HeartPins$BadDays" "days" "I" ∈ wT := mT 281 (by decide +kernel) rfl
theorem w_282 : Cond.fieldLink "HeartPins$BadDays" 27 "HeartPins$BadDays" "tenths" "I" ∈ wT := mT 282 (by decide +kernel) rfl
theorem w_695 : Cond.methodLink "HeartPins$Sharing" 34 ⟨"HeartPins$Standing", "whereIs", "(I)I"⟩ ∈ wT := mT 695 (by decide +kernel) rfl
theorem w_696 : Cond.methodLink "HeartPins$Sharing" 40 ⟨"HeartPins$Standing", "largeOf", "(I)I"⟩ ∈ wT := mT 696 (by decide +kernel) rfl
theorem w_697 : Cond.methodLink "HeartPins$Sharing" 46 ⟨"HeartPins$Sharing", "tryFrom", "(LHeartPins$Sharing;II)V"⟩ ∈ wT := mT 697 (by decide +kernel) rfl
theorem w_700 : Cond.methodLink "HeartPins$Sharing" 50 ⟨"HeartPins$Sharing", "keepTried", "()V"⟩ ∈ wT := mT 700 (by decide +kernel) rfl
theorem w_704 : Cond.methodLink "HeartPins$Sharing" 53 ⟨"HeartPins$Sharing", "isLikeEarlier", "(I)Z"⟩ ∈ wT := mT 704 (by decide +kernel) rfl
theorem w_708 : Cond.methodLink "HeartPins$Sharing" 57 ⟨"java/lang/Math", "max", "(II)I"⟩ ∈ wT := mT 708 (by decide +kernel) rfl
theorem w_800 : Cond.methodLink "HeartPins$BadDays" 30 ⟨"HeartPins$BadDays", "rung", "(I)LHeartPins$Standing;"⟩ ∈ wT := mT 800 (by decide +kernel) rfl
theorem w_804 : Cond.methodLink "HeartPins$BadDays" 34 ⟨"HeartPins$Standing", "copyFrom", "(LHeartPins$Standing;)V"⟩ ∈ wT := mT 804 (by decide +kernel) rfl
theorem w_805 : Cond.methodLink "HeartPins$BadDays" 38 ⟨"HeartPins$BadDays", "breakingFrom", "(LHeartPins$BadDays;IJ)J"⟩ ∈ wT := mT 805 (by decide +kernel) rfl
theorem w_808 : Cond.methodLink "HeartPins$BadDays" 44 ⟨"HeartPins$Standing", "growBorne", "()V"⟩ ∈ wT := mT 808 (by decide +kernel) rfl
theorem w_812 : Cond.methodLink "HeartPins$BadDays" 47 ⟨"HeartPins$Standing", "goDay", "()V"⟩ ∈ wT := mT 812 (by decide +kernel) rfl
theorem w_813 : Cond.methodLink "HeartPins$BadDays" 50 ⟨"HeartPins$Standing", "isBroken", "(I)Z"⟩ ∈ wT := mT 813 (by decide +kernel) rfl
theorem w_814 : Cond.methodLink "HeartPins$BadDays" 54 ⟨"HeartPins$BadDays", "tenTo", "(I)J"⟩ ∈ wT := mT 814 (by decide +kernel) rfl
theorem w_817 : Cond.constantLong "HeartPins$BadDays" 42 (10 : Int64) ∈ wT := mT 817 (by decide +kernel) rfl
theorem dX0_rung_0 : decode cX0_rung 0 = .ok (.iload_n 1, 1) := by decide +kernel
theorem dX0_rung_1 : decode cX0_rung 1 = .ok (.ifCond .lt 21, 3) := by decide +kernel
theorem dX0_rung_4 : decode cX0_rung 4 = .ok (.iload_n 1, 1) := by decide +kernel
theorem dX0_rung_5 : decode cX0_rung 5 = .ok (.aload_n 0, 1) := by decide +kernel
theorem dX0_rung_6 : decode cX0_rung 6 = .ok (.getfield 11, 3) := by decide +kernel
theorem dX0_rung_9 : decode cX0_rung 9 = .ok (.arraylength, 1) := by decide +kernel
theorem dX0_rung_10 : decode cX0_rung 10 = .ok (.if_icmp .ge 12, 3) := by decide +kernel
theorem dX0_rung_13 : decode cX0_rung 13 = .ok (.aload_n 0, 1) := by decide +kernel
theorem dX0_rung_14 : decode cX0_rung 14 = .ok (.getfield 11, 3) := by decide +kernel
theorem dX0_rung_17 : decode cX0_rung 17 = .ok (.iload_n 1, 1) := by decide +kernel
theorem dX0_rung_18 : decode cX0_rung 18 = .ok (.aaload, 1) := by decide +kernel
theorem dX0_rung_19 : decode cX0_rung 19 = .ok (.goto 4, 3) := by decide +kernel
theorem dX0_rung_22 : decode cX0_rung 22 = .ok (.aconst_null, 1) := by decide +kernel
theorem dX0_rung_23 : decode cX0_rung 23 = .ok (.areturn, 1) := by decide +kernel
def f_B_rung (N nx : Nat) (D : Dt) (P : Ft) (a0 : Nat) (i1 : Int32) : Option (Option Nat) :=
  if kd nx a0 = 0 then
  if i1 < 0 then
    some none
  else
    nn (P a0 0) fun q1 =>
    if kd nx q1 / 10000 = 3 ∨ kd nx q1 / 10000 = 4 then
    if Int32.ofNat (kd nx q1 % 10000) ≤ i1 then
      some none
    else
      if ab nx q1 4 i1 = true then
      nn (P q1 i1.toNatClampNeg) fun q4 =>
      some (some q4)
      else none
    else none
  else none
theorem m_B_rung : MV yX0_rung cX0_rung 2 (some (.object "HeartPins$Standing")) 1 := ⟨mT 803 (by decide +kernel) rfl, mT 802 (by decide +kernel) rfl, mT 15 (by decide +kernel) rfl, mT 63 (by decide +kernel) rfl, by decide +kernel, by decide +kernel, by decide +kernel⟩
set_option maxHeartbeats 4000000 in
set_option maxRecDepth 100000 in
theorem c_B_rung (l : Launch) (cx : Cx) (nx N : Nat) (D : Dt) (P : Ft) (a0 : Nat) (i1 : Int32) (z : Option Nat) (h : f_B_rung N nx D P a0 i1 = some z) : Ct l cx yX0_rung cX0_rung 2 (some (.object "HeartPins$Standing")) 0 [.ref (cx.2.2 + a0), .int i1] D P nx (some (rv cx z)) D P := by
  refine x_met0 (by decide) (Nat.le_of_ble_eq_true rfl) ?_
  intro p e s m args below meth c X
  have X : XC p s m args meth c cx cX0_rung 2 (some (.object "HeartPins$Standing")) "HeartPins$BadDays" "rung" := X
  refine XW.sub (lv' := [(0, .ref (cx.2.2 + a0)), (1, .int i1)]) [0, 1] rfl ?_
  unfold f_B_rung at h
  obtain ⟨hk0, h⟩ := grd h
  refine x_iload_n (pc := 0) X dX0_rung_0 (i := 1) rfl 1 rfl ?_
  refine x_if_lt (tgt := 22) (pc := 1) X dX0_rung_1 (by decide) (fun c6 => ?_) (fun c6 => ?_)
  · have h := ite_t c6 h
    refine x_null (pc := 22) X dX0_rung_22 ?_
    obtain rfl := Option.some.inj h
    exact x_aret (pc := 23) X (v := none) rfl ⟨_, rfl⟩ dX0_rung_23
  · have h := ite_f c6 h
    refine x_iload_n (pc := 4) X dX0_rung_4 (i := 1) rfl 1 rfl ?_
    refine x_aload_n (pc := 5) X dX0_rung_5 (i := 0) rfl 0 rfl ?_
    obtain ⟨q1, e1, h⟩ := nns h
    refine x_getr (ci := 0) (k := 0) (n := 4) (C := RX0) (T := TX0) (pc := 6) X dX0_rung_6 hk0 rfl (by decide) w_279 rfl e1 ?_
    obtain ⟨k2, h⟩ := grd h
    refine x_alen (pc := 9) X dX0_rung_9 rfl k2 rfl ?_
    refine x_icmp_ge (tgt := 22) (pc := 10) X dX0_rung_10 (by decide) (fun c5 => ?_) (fun c5 => ?_)
    · have h := ite_t c5 h
      refine x_null (pc := 22) X dX0_rung_22 ?_
      obtain rfl := Option.some.inj h
      exact x_aret (pc := 23) X (v := none) rfl ⟨_, rfl⟩ dX0_rung_23
    · have h := ite_f c5 h
      refine x_aload_n (pc := 13) X dX0_rung_13 (i := 0) rfl 0 rfl ?_
      refine x_getr (ci := 0) (k := 0) (n := 4) (C := RX0) (T := TX0) (pc := 14) X dX0_rung_14 hk0 rfl (by decide) w_279 rfl e1 ?_
      refine x_iload_n (pc := 17) X dX0_rung_17 (i := 1) rfl 1 rfl ?_
      obtain ⟨g3, h⟩ := grd h
      obtain ⟨q4, e4, h⟩ := nns h
      refine x_aald (pc := 18) X dX0_rung_18 g3 e4 ?_
      refine x_goto (tgt := 23) (pc := 19) X dX0_rung_19 (by decide) ?_
      obtain rfl := Option.some.inj h
      exact x_aret (pc := 23) X (v := (some q4)) rfl ⟨_, rfl⟩ dX0_rung_23
theorem dX0_tenTo_0 : decode cX0_tenTo 0 = .ok (.lconst 1, 1) := by decide +kernel
theorem dX0_tenTo_1 : decode cX0_tenTo 1 = .ok (.lstore_n 1, 1) := by decide +kernel
theorem dX0_tenTo_2 : decode cX0_tenTo 2 = .ok (.iconst 0, 1) := by decide +kernel
theorem dX0_tenTo_3 : decode cX0_tenTo 3 = .ok (.istore_n 3, 1) := by decide +kernel
theorem dX0_tenTo_4 : decode cX0_tenTo 4 = .ok (.iload_n 3, 1) := by decide +kernel
theorem dX0_tenTo_5 : decode cX0_tenTo 5 = .ok (.iload_n 0, 1) := by decide +kernel
theorem dX0_tenTo_6 : decode cX0_tenTo 6 = .ok (.if_icmp .ge 21, 3) := by decide +kernel
theorem dX0_tenTo_9 : decode cX0_tenTo 9 = .ok (.iload_n 3, 1) := by decide +kernel
theorem dX0_tenTo_10 : decode cX0_tenTo 10 = .ok (.bipush 8, 2) := by decide +kernel
theorem dX0_tenTo_12 : decode cX0_tenTo 12 = .ok (.if_icmp .ge 15, 3) := by decide +kernel
theorem dX0_tenTo_15 : decode cX0_tenTo 15 = .ok (.lload_n 1, 1) := by decide +kernel
theorem dX0_tenTo_16 : decode cX0_tenTo 16 = .ok (.ldc2_w 42, 3) := by decide +kernel
theorem dX0_tenTo_19 : decode cX0_tenTo 19 = .ok (.lmul, 1) := by decide +kernel
theorem dX0_tenTo_20 : decode cX0_tenTo 20 = .ok (.lstore_n 1, 1) := by decide +kernel
theorem dX0_tenTo_21 : decode cX0_tenTo 21 = .ok (.iinc 3 1, 3) := by decide +kernel
theorem dX0_tenTo_24 : decode cX0_tenTo 24 = .ok (.goto (-20), 3) := by decide +kernel
theorem dX0_tenTo_27 : decode cX0_tenTo 27 = .ok (.lload_n 1, 1) := by decide +kernel
theorem dX0_tenTo_28 : decode cX0_tenTo 28 = .ok (.lreturn, 1) := by decide +kernel
def f_B_tenTo_4 (N nx : Nat) (D : Dt) (P : Ft) (i0 : Int32) (rec4 : Int64 → Int32 → Option Int64) (l1 : Int64) (i3 : Int32) : Option Int64 :=
  if i0 ≤ i3 then
    some l1
  else
    if 8 ≤ i3 then
      some l1
    else
      rec4 (l1 * 10) (i3 + 1)
def f_B_tenTo (N nx : Nat) (D : Dt) (P : Ft) (i0 : Int32) : Option Int64 :=
  wk2 N (f_B_tenTo_4 N nx D P i0) 1 0
theorem m_B_tenTo : MS yX0_tenTo cX0_tenTo 4 (some .long) 1 := ⟨mT 816 (by decide +kernel) rfl, mT 815 (by decide +kernel) rfl, mT 63 (by decide +kernel) rfl, by decide +kernel, by decide +kernel, by decide +kernel⟩
set_option maxHeartbeats 4000000 in
set_option maxRecDepth 100000 in
theorem c_B_tenTo (l : Launch) (cx : Cx) (nx N : Nat) (D : Dt) (P : Ft) (i0 : Int32) (z : Int64) (h : f_B_tenTo N nx D P i0 = some z) : Ct l cx yX0_tenTo cX0_tenTo 4 (some .long) 0 [.int i0] D P nx (some (.long z)) D P := by
  refine x_met0 (by decide) (Nat.le_of_ble_eq_true rfl) ?_
  intro p e s m args below meth c X
  have X : XC p s m args meth c cx cX0_tenTo 4 (some .long) "HeartPins$BadDays" "tenTo" := X
  refine XW.sub (lv' := [(0, .int i0)]) [0] rfl ?_
  unfold f_B_tenTo at h
  have hL4 : ∀ (n : Nat) (l1 : Int64) (i3 : Int32), wk2 n (f_B_tenTo_4 N nx D P i0) l1 i3 = some z → XW p l e (rmk 0) s m args below meth c (MQ below (Qx cx (some (.long z)) D P nx) args s 0 0 (AA cx)) cx 4 D P nx 0 0 4 [(0, .int i0), (1, .long l1), (3, .int i3)] [] := by
    intro n
    induction n with
    | zero => intro l1 i3 h; exact (nonz h).elim
    | succ n ih4 =>
      intro l1 i3 h
      have h : f_B_tenTo_4 N nx D P i0 (wk2 n (f_B_tenTo_4 N nx D P i0)) l1 i3 = some z := h
      generalize wk2 n (f_B_tenTo_4 N nx D P i0) = rec4 at ih4 h
      unfold f_B_tenTo_4 at h
      refine x_iload_n (pc := 4) X dX0_tenTo_4 (i := 3) rfl 2 rfl ?_
      refine x_iload_n (pc := 5) X dX0_tenTo_5 (i := 0) rfl 0 rfl ?_
      refine x_icmp_ge (tgt := 27) (pc := 6) X dX0_tenTo_6 (by decide) (fun c2 => ?_) (fun c2 => ?_)
      · have h := ite_t c2 h
        refine x_lload_n (pc := 27) X dX0_tenTo_27 (i := 1) rfl 1 rfl ?_
        obtain rfl := Option.some.inj h
        exact x_lret (pc := 28) X dX0_tenTo_28
      · have h := ite_f c2 h
        refine x_iload_n (pc := 9) X dX0_tenTo_9 (i := 3) rfl 2 rfl ?_
        refine x_bipush (v := 8) (pc := 10) X dX0_tenTo_10 (by decide) ?_
        refine x_icmp_ge (tgt := 27) (pc := 12) X dX0_tenTo_12 (by decide) (fun c1 => ?_) (fun c1 => ?_)
        · have h := ite_t c1 h
          refine x_lload_n (pc := 27) X dX0_tenTo_27 (i := 1) rfl 1 rfl ?_
          obtain rfl := Option.some.inj h
          exact x_lret (pc := 28) X dX0_tenTo_28
        · have h := ite_f c1 h
          refine x_lload_n (pc := 15) X dX0_tenTo_15 (i := 1) rfl 1 rfl ?_
          refine x_ldc2 (v := 10) (pc := 16) X dX0_tenTo_16 w_817 ?_
          refine x_lmul (pc := 19) X dX0_tenTo_19 ?_
          refine x_lstore_n (lv' := [(1, .long (l1 * 10)), (0, .int i0), (3, .int i3)]) (pc := 20) X dX0_tenTo_20 (i := 1) rfl (by decide) rfl ?_
          refine x_iinc (v := i3 + 1) (lv' := [(3, .int (i3 + 1)), (1, .long (l1 * 10)), (0, .int i0)]) (pc := 21) X dX0_tenTo_21 2 rfl rfl (by decide) rfl ?_
          refine x_goto (tgt := 4) (pc := 24) X dX0_tenTo_24 (by decide) ?_
          exact XW.sub [2, 1, 0] rfl (ih4 _ _ h)
  refine x_lconst (v := 1) (pc := 0) X dX0_tenTo_0 (by decide) ?_
  refine x_lstore_n (lv' := [(1, .long 1), (0, .int i0)]) (pc := 1) X dX0_tenTo_1 (i := 1) rfl (by decide) rfl ?_
  refine x_iconst (v := 0) (pc := 2) X dX0_tenTo_2 (by decide) ?_
  refine x_istore_n (lv' := [(3, .int 0), (1, .long 1), (0, .int i0)]) (pc := 3) X dX0_tenTo_3 (i := 3) rfl (by decide) rfl ?_
  exact XW.sub [2, 1, 0] rfl (hL4 _ _ _ h)
theorem dX0_breakingFrom_0 : decode cX0_breakingFrom 0 = .ok (.aload_n 0, 1) := by decide +kernel
theorem dX0_breakingFrom_1 : decode cX0_breakingFrom 1 = .ok (.iload_n 1, 1) := by decide +kernel
theorem dX0_breakingFrom_2 : decode cX0_breakingFrom 2 = .ok (.invokevirtual 30, 3) := by decide +kernel
theorem dX0_breakingFrom_5 : decode cX0_breakingFrom 5 = .ok (.astore 4, 2) := by decide +kernel
theorem dX0_breakingFrom_7 : decode cX0_breakingFrom 7 = .ok (.aload_n 0, 1) := by decide +kernel
theorem dX0_breakingFrom_8 : decode cX0_breakingFrom 8 = .ok (.iload_n 1, 1) := by decide +kernel
theorem dX0_breakingFrom_9 : decode cX0_breakingFrom 9 = .ok (.iconst 1, 1) := by decide +kernel
theorem dX0_breakingFrom_10 : decode cX0_breakingFrom 10 = .ok (.iadd, 1) := by decide +kernel
theorem dX0_breakingFrom_11 : decode cX0_breakingFrom 11 = .ok (.invokevirtual 30, 3) := by decide +kernel
theorem dX0_breakingFrom_14 : decode cX0_breakingFrom 14 = .ok (.astore 5, 2) := by decide +kernel
theorem dX0_breakingFrom_16 : decode cX0_breakingFrom 16 = .ok (.iload_n 1, 1) := by decide +kernel
theorem dX0_breakingFrom_17 : decode cX0_breakingFrom 17 = .ok (.aload_n 0, 1) := by decide +kernel
theorem dX0_breakingFrom_18 : decode cX0_breakingFrom 18 = .ok (.getfield 24, 3) := by decide +kernel
theorem dX0_breakingFrom_21 : decode cX0_breakingFrom 21 = .ok (.if_icmp .ge 19, 3) := by decide +kernel
theorem dX0_breakingFrom_24 : decode cX0_breakingFrom 24 = .ok (.lload_n 2, 1) := by decide +kernel
theorem dX0_breakingFrom_25 : decode cX0_breakingFrom 25 = .ok (.lconst 1, 1) := by decide +kernel
theorem dX0_breakingFrom_26 : decode cX0_breakingFrom 26 = .ok (.lcmp, 1) := by decide +kernel
theorem dX0_breakingFrom_27 : decode cX0_breakingFrom 27 = .ok (.ifCond .lt 13, 3) := by decide +kernel
theorem dX0_breakingFrom_30 : decode cX0_breakingFrom 30 = .ok (.aload 4, 2) := by decide +kernel
theorem dX0_breakingFrom_32 : decode cX0_breakingFrom 32 = .ok (.ifnull 8, 3) := by decide +kernel
theorem dX0_breakingFrom_35 : decode cX0_breakingFrom 35 = .ok (.aload 5, 2) := by decide +kernel
theorem dX0_breakingFrom_37 : decode cX0_breakingFrom 37 = .ok (.ifnonnull 5, 3) := by decide +kernel
theorem dX0_breakingFrom_40 : decode cX0_breakingFrom 40 = .ok (.lconst 0, 1) := by decide +kernel
theorem dX0_breakingFrom_41 : decode cX0_breakingFrom 41 = .ok (.lreturn, 1) := by decide +kernel
theorem dX0_breakingFrom_42 : decode cX0_breakingFrom 42 = .ok (.lconst 0, 1) := by decide +kernel
theorem dX0_breakingFrom_43 : decode cX0_breakingFrom 43 = .ok (.lstore 6, 2) := by decide +kernel
theorem dX0_breakingFrom_45 : decode cX0_breakingFrom 45 = .ok (.iconst 0, 1) := by decide +kernel
theorem dX0_breakingFrom_46 : decode cX0_breakingFrom 46 = .ok (.istore 8, 2) := by decide +kernel
theorem dX0_breakingFrom_48 : decode cX0_breakingFrom 48 = .ok (.iload 8, 2) := by decide +kernel
theorem dX0_breakingFrom_50 : decode cX0_breakingFrom 50 = .ok (.iconst 1, 1) := by decide +kernel
theorem dX0_breakingFrom_51 : decode cX0_breakingFrom 51 = .ok (.if_icmp .gt 104, 3) := by decide +kernel
theorem dX0_breakingFrom_54 : decode cX0_breakingFrom 54 = .ok (.lload_n 2, 1) := by decide +kernel
theorem dX0_breakingFrom_55 : decode cX0_breakingFrom 55 = .ok (.iload 8, 2) := by decide +kernel
theorem dX0_breakingFrom_57 : decode cX0_breakingFrom 57 = .ok (.iconst 1, 1) := by decide +kernel
theorem dX0_breakingFrom_58 : decode cX0_breakingFrom 58 = .ok (.if_icmp .ne 13, 3) := by decide +kernel
theorem dX0_breakingFrom_61 : decode cX0_breakingFrom 61 = .ok (.bipush 10, 2) := by decide +kernel
theorem dX0_breakingFrom_63 : decode cX0_breakingFrom 63 = .ok (.aload_n 0, 1) := by decide +kernel
theorem dX0_breakingFrom_64 : decode cX0_breakingFrom 64 = .ok (.getfield 27, 3) := by decide +kernel
theorem dX0_breakingFrom_67 : decode cX0_breakingFrom 67 = .ok (.isub, 1) := by decide +kernel
theorem dX0_breakingFrom_68 : decode cX0_breakingFrom 68 = .ok (.goto 7, 3) := by decide +kernel
theorem dX0_breakingFrom_71 : decode cX0_breakingFrom 71 = .ok (.aload_n 0, 1) := by decide +kernel
theorem dX0_breakingFrom_72 : decode cX0_breakingFrom 72 = .ok (.getfield 27, 3) := by decide +kernel
theorem dX0_breakingFrom_75 : decode cX0_breakingFrom 75 = .ok (.i2l, 1) := by decide +kernel
theorem dX0_breakingFrom_76 : decode cX0_breakingFrom 76 = .ok (.lmul, 1) := by decide +kernel
theorem dX0_breakingFrom_77 : decode cX0_breakingFrom 77 = .ok (.lstore 9, 2) := by decide +kernel
theorem dX0_breakingFrom_79 : decode cX0_breakingFrom 79 = .ok (.aload 5, 2) := by decide +kernel
theorem dX0_breakingFrom_81 : decode cX0_breakingFrom 81 = .ok (.aload 4, 2) := by decide +kernel
theorem dX0_breakingFrom_83 : decode cX0_breakingFrom 83 = .ok (.invokevirtual 34, 3) := by decide +kernel
theorem dX0_breakingFrom_86 : decode cX0_breakingFrom 86 = .ok (.iload 8, 2) := by decide +kernel
theorem dX0_breakingFrom_88 : decode cX0_breakingFrom 88 = .ok (.ifCond .ne 8, 3) := by decide +kernel
theorem dX0_breakingFrom_91 : decode cX0_breakingFrom 91 = .ok (.aload 5, 2) := by decide +kernel
theorem dX0_breakingFrom_93 : decode cX0_breakingFrom 93 = .ok (.invokevirtual 44, 3) := by decide +kernel
theorem dX0_breakingFrom_96 : decode cX0_breakingFrom 96 = .ok (.aload 5, 2) := by decide +kernel
theorem dX0_breakingFrom_98 : decode cX0_breakingFrom 98 = .ok (.invokevirtual 47, 3) := by decide +kernel
theorem dX0_breakingFrom_101 : decode cX0_breakingFrom 101 = .ok (.aload 5, 2) := by decide +kernel
theorem dX0_breakingFrom_103 : decode cX0_breakingFrom 103 = .ok (.aload_n 0, 1) := by decide +kernel
theorem dX0_breakingFrom_104 : decode cX0_breakingFrom 104 = .ok (.getfield 20, 3) := by decide +kernel
theorem dX0_breakingFrom_107 : decode cX0_breakingFrom 107 = .ok (.invokevirtual 50, 3) := by decide +kernel
theorem dX0_breakingFrom_110 : decode cX0_breakingFrom 110 = .ok (.ifCond .eq 25, 3) := by decide +kernel
theorem dX0_breakingFrom_113 : decode cX0_breakingFrom 113 = .ok (.lload 6, 2) := by decide +kernel
theorem dX0_breakingFrom_115 : decode cX0_breakingFrom 115 = .ok (.lload 9, 2) := by decide +kernel
theorem dX0_breakingFrom_117 : decode cX0_breakingFrom 117 = .ok (.aload_n 0, 1) := by decide +kernel
theorem dX0_breakingFrom_118 : decode cX0_breakingFrom 118 = .ok (.getfield 24, 3) := by decide +kernel
theorem dX0_breakingFrom_121 : decode cX0_breakingFrom 121 = .ok (.iload_n 1, 1) := by decide +kernel
theorem dX0_breakingFrom_122 : decode cX0_breakingFrom 122 = .ok (.isub, 1) := by decide +kernel
theorem dX0_breakingFrom_123 : decode cX0_breakingFrom 123 = .ok (.iconst 1, 1) := by decide +kernel
theorem dX0_breakingFrom_124 : decode cX0_breakingFrom 124 = .ok (.isub, 1) := by decide +kernel
theorem dX0_breakingFrom_125 : decode cX0_breakingFrom 125 = .ok (.invokestatic 54, 3) := by decide +kernel
theorem dX0_breakingFrom_128 : decode cX0_breakingFrom 128 = .ok (.lmul, 1) := by decide +kernel
theorem dX0_breakingFrom_129 : decode cX0_breakingFrom 129 = .ok (.ladd, 1) := by decide +kernel
theorem dX0_breakingFrom_130 : decode cX0_breakingFrom 130 = .ok (.lstore 6, 2) := by decide +kernel
theorem dX0_breakingFrom_132 : decode cX0_breakingFrom 132 = .ok (.goto 17, 3) := by decide +kernel
theorem dX0_breakingFrom_135 : decode cX0_breakingFrom 135 = .ok (.lload 6, 2) := by decide +kernel
theorem dX0_breakingFrom_137 : decode cX0_breakingFrom 137 = .ok (.aload_n 0, 1) := by decide +kernel
theorem dX0_breakingFrom_138 : decode cX0_breakingFrom 138 = .ok (.iload_n 1, 1) := by decide +kernel
theorem dX0_breakingFrom_139 : decode cX0_breakingFrom 139 = .ok (.iconst 1, 1) := by decide +kernel
theorem dX0_breakingFrom_140 : decode cX0_breakingFrom 140 = .ok (.iadd, 1) := by decide +kernel
theorem dX0_breakingFrom_141 : decode cX0_breakingFrom 141 = .ok (.lload 9, 2) := by decide +kernel
theorem dX0_breakingFrom_143 : decode cX0_breakingFrom 143 = .ok (.invokestatic 38, 3) := by decide +kernel
theorem dX0_breakingFrom_146 : decode cX0_breakingFrom 146 = .ok (.ladd, 1) := by decide +kernel
theorem dX0_breakingFrom_147 : decode cX0_breakingFrom 147 = .ok (.lstore 6, 2) := by decide +kernel
theorem dX0_breakingFrom_149 : decode cX0_breakingFrom 149 = .ok (.iinc 8 1, 3) := by decide +kernel
theorem dX0_breakingFrom_152 : decode cX0_breakingFrom 152 = .ok (.goto (-104), 3) := by decide +kernel
theorem dX0_breakingFrom_155 : decode cX0_breakingFrom 155 = .ok (.lload 6, 2) := by decide +kernel
theorem dX0_breakingFrom_157 : decode cX0_breakingFrom 157 = .ok (.lreturn, 1) := by decide +kernel
def f_B_breakingFrom_96 (N nx : Nat) (slf : Dt → Ft → Nat → Int32 → Int64 → Option (Int64 × Dt)) (rec48 : Dt → Int64 → Int32 → Option (Int64 × Dt)) (D : Dt) (P : Ft) (a0 : Nat) (i1 : Int32) (l2 : Int64) (a4 : Nat) (a5 : Nat) (l6 : Int64) (i8 : Int32) (l9 : Int64) : Option (Int64 × Dt) :=
  if kd nx a5 = 7 then
  (f_C_goDay N nx D P a5).bind fun z14 =>
  if kd nx a0 = 0 then
  (f_C_isBroken N nx z14 P a5 (z14 a0 1)).bind fun z17 =>
  if z17 = 0 then
    (slf z14 P a0 (i1 + 1) l9).bind fun z18 =>
    rec48 z18.2 (l6 + z18.1) (i8 + 1)
  else
    (f_B_tenTo N nx z14 P (((z14 a0 2) - i1) - 1)).bind fun z19 =>
    rec48 z14 (l6 + (l9 * z19)) (i8 + 1)
  else none
  else none
def f_B_breakingFrom_75 (N nx : Nat) (slf : Dt → Ft → Nat → Int32 → Int64 → Option (Int64 × Dt)) (rec48 : Dt → Int64 → Int32 → Option (Int64 × Dt)) (D : Dt) (P : Ft) (a0 : Nat) (i1 : Int32) (l2 : Int64) (a4 : Nat) (a5 : Nat) (l6 : Int64) (i8 : Int32) (s0 : Int64) (s1 : Int32) : Option (Int64 × Dt) :=
  if kd nx a5 = 7 then
  (f_C_copyFrom N nx D P a5 a4).bind fun z12 =>
  if i8 = 0 then
    (f_C_growBorne N nx z12 P a5).bind fun z21 =>
    f_B_breakingFrom_96 N nx slf rec48 z21 P a0 i1 l2 a4 a5 l6 i8 (s0 * (Int32.toInt64 s1))
  else
    f_B_breakingFrom_96 N nx slf rec48 z12 P a0 i1 l2 a4 a5 l6 i8 (s0 * (Int32.toInt64 s1))
  else none
def f_B_breakingFrom_48 (N nx : Nat) (slf : Dt → Ft → Nat → Int32 → Int64 → Option (Int64 × Dt)) (P : Ft) (a0 : Nat) (i1 : Int32) (l2 : Int64) (a4 : Nat) (a5 : Nat) (rec48 : Dt → Int64 → Int32 → Option (Int64 × Dt)) (D : Dt) (l6 : Int64) (i8 : Int32) : Option (Int64 × Dt) :=
  if 1 < i8 then
    some (l6, D)
  else
    if i8 = 1 then
      if kd nx a0 = 0 then
      f_B_breakingFrom_75 N nx slf rec48 D P a0 i1 l2 a4 a5 l6 i8 l2 (10 - (D a0 3))
      else none
    else
      if kd nx a0 = 0 then
      f_B_breakingFrom_75 N nx slf rec48 D P a0 i1 l2 a4 a5 l6 i8 l2 (D a0 3)
      else none
def f_B_breakingFrom_b (N nx : Nat) (slf : Dt → Ft → Nat → Int32 → Int64 → Option (Int64 × Dt)) (D : Dt) (P : Ft) (a0 : Nat) (i1 : Int32) (l2 : Int64) : Option (Int64 × Dt) :=
  if kd nx a0 = 0 then
  (f_B_rung N nx D P a0 i1).bind fun z1 =>
  orn z1
    (
      (f_B_rung N nx D P a0 (i1 + 1)).bind fun z3 =>
      orn z3
        (
          if D a0 2 ≤ i1 then
            some (0, D)
          else
            if lg_cmp l2 1 < 0 then
              some (0, D)
            else
              some (0, D)
        )
        fun q3 =>
          if D a0 2 ≤ i1 then
            some (0, D)
          else
            if lg_cmp l2 1 < 0 then
              some (0, D)
            else
              some (0, D)
    )
    fun q1 =>
      (f_B_rung N nx D P a0 (i1 + 1)).bind fun z8 =>
      orn z8
        (
          if D a0 2 ≤ i1 then
            some (0, D)
          else
            if lg_cmp l2 1 < 0 then
              some (0, D)
            else
              some (0, D)
        )
        fun q8 =>
          if D a0 2 ≤ i1 then
            some (0, D)
          else
            if lg_cmp l2 1 < 0 then
              some (0, D)
            else
              wk3 N (f_B_breakingFrom_48 N nx slf P a0 i1 l2 q1 q8) D 0 0
  else none
def f_B_breakingFrom (N nx : Nat) : Nat → Dt → Ft → Nat → Int32 → Int64 → Option (Int64 × Dt)
  | 0 => fun _ _ _ _ _ => none
  | d + 1 => f_B_breakingFrom_b N nx (f_B_breakingFrom N nx d)
theorem m_B_breakingFrom : MS yX0_breakingFrom cX0_breakingFrom 11 (some .long) 3 := ⟨mT 807 (by decide +kernel) rfl, mT 806 (by decide +kernel) rfl, mT 63 (by decide +kernel) rfl, by decide +kernel, by decide +kernel, by decide +kernel⟩
set_option maxHeartbeats 4000000 in
set_option maxRecDepth 100000 in
theorem c_B_breakingFrom (l : Launch) (cx : Cx) (nx N : Nat) (d : Nat) : ∀ (D : Dt) (P : Ft) (a0 : Nat) (i1 : Int32) (l2 : Int64) (z : Int64 × Dt), f_B_breakingFrom N nx d D P a0 i1 l2 = some z → Ct l cx yX0_breakingFrom cX0_breakingFrom 11 (some .long) (4 + d) [.ref (cx.2.2 + a0), .int i1, .long l2] D P nx (some (.long z.1)) z.2 P := by
  induction d with
  | zero => intro D P a0 i1 l2 z h; exact (nonz h).elim
  | succ d ihs =>
    intro D P a0 i1 l2 z h
    have h : f_B_breakingFrom_b N nx (f_B_breakingFrom N nx d) D P a0 i1 l2 = some z := h
    generalize f_B_breakingFrom N nx d = slf at ihs h
    refine x_met0 (by decide) (Nat.le_of_ble_eq_true rfl) ?_
    intro p e s m args below meth c X
    have X : XC p s m args meth c cx cX0_breakingFrom 11 (some .long) "HeartPins$BadDays" "breakingFrom" := X
    refine XW.sub (lv' := [(0, .ref (cx.2.2 + a0)), (1, .int i1), (2, .long l2)]) [0, 1, 2] rfl ?_
    unfold f_B_breakingFrom_b at h
    have hL48 : ∀ (a4 : Nat) (a5 : Nat) (n : Nat) (D : Dt) (l6 : Int64) (i8 : Int32), wk3 n (f_B_breakingFrom_48 N nx slf P a0 i1 l2 a4 a5) D l6 i8 = some z → XW p l e (rmk (4 + (d + 1))) s m args below meth c (MQ below (Qx cx (some (.long z.1)) z.2 P nx) args s 0 0 (AA cx)) cx 11 D P nx 0 0 48 [(0, .ref (cx.2.2 + a0)), (1, .int i1), (2, .long l2), (4, .ref (cx.2.2 + a4)), (5, .ref (cx.2.2 + a5)), (6, .long l6), (8, .int i8)] [] := by
      intro a4 a5 n
      induction n with
      | zero => intro D l6 i8 h; exact (nonz h).elim
      | succ n ih48 =>
        intro D l6 i8 h
        have h : f_B_breakingFrom_48 N nx slf P a0 i1 l2 a4 a5 (wk3 n (f_B_breakingFrom_48 N nx slf P a0 i1 l2 a4 a5)) D l6 i8 = some z := h
        generalize wk3 n (f_B_breakingFrom_48 N nx slf P a0 i1 l2 a4 a5) = rec48 at ih48 h
        unfold f_B_breakingFrom_48 at h
        have hJ96 : ∀ (D : Dt) (l6 : Int64) (i8 : Int32) (l9 : Int64), f_B_breakingFrom_96 N nx slf rec48 D P a0 i1 l2 a4 a5 l6 i8 l9 = some z → XW p l e (rmk (4 + (d + 1))) s m args below meth c (MQ below (Qx cx (some (.long z.1)) z.2 P nx) args s 0 0 (AA cx)) cx 11 D P nx 0 0 96 [(0, .ref (cx.2.2 + a0)), (1, .int i1), (2, .long l2), (4, .ref (cx.2.2 + a4)), (5, .ref (cx.2.2 + a5)), (6, .long l6), (8, .int i8), (9, .long l9)] [] := by
          intro D l6 i8 l9 h
          unfold f_B_breakingFrom_96 at h
          refine x_aload (pc := 96) X dX0_breakingFrom_96 4 rfl ?_
          obtain ⟨k15, h⟩ := grd h
          obtain ⟨z14, e14, h⟩ := bnds h
          refine x_callV (pc := 98) (As := []) (st := []) (st' := []) X (c_C_goDay l cx nx N D P _ z14 e14) dX0_breakingFrom_98 w_812 m_C_goDay rfl k15 (ci := 7) rfl rfl ⟨by show 3 + 1 ≤ 4 + (d + 1); omega, by show 8 + (3 + 11) + 60 * 3 ≤ 60 * (4 + (d + 1)); omega⟩ ⟨Nat.zero_le _, Nat.zero_le _⟩ rfl (Nat.le_of_ble_eq_true rfl) rfl ?_
          refine x_aload (pc := 101) X dX0_breakingFrom_101 4 rfl ?_
          refine x_aload_n (pc := 103) X dX0_breakingFrom_103 (i := 0) rfl 0 rfl ?_
          obtain ⟨k16, h⟩ := grd h
          refine x_geti (ci := 0) (k := 1) (n := 4) (C := RX0) (T := TX0) (pc := 104) X dX0_breakingFrom_104 k16 rfl (by decide) w_280 rfl ?_
          obtain ⟨z17, e17, h⟩ := bnds h
          refine x_callV (pc := 107) (As := [.int (z14 a0 1)]) (st := []) (st' := [.int z17]) X (c_C_isBroken l cx nx N z14 P _ _ z17 e17) dX0_breakingFrom_107 w_813 m_C_isBroken rfl k15 (ci := 7) rfl rfl ⟨by show 2 + 1 ≤ 4 + (d + 1); omega, by show 8 + (2 + 11) + 60 * 2 ≤ 60 * (4 + (d + 1)); omega⟩ ⟨Nat.zero_le _, Nat.zero_le _⟩ rfl (Nat.le_of_ble_eq_true rfl) rfl ?_
          refine x_if_eq (tgt := 135) (pc := 110) X dX0_breakingFrom_110 (by decide) (fun c20 => ?_) (fun c20 => ?_)
          · have h := ite_t c20 h
            refine x_lload (pc := 135) X dX0_breakingFrom_135 5 rfl ?_
            refine x_aload_n (pc := 137) X dX0_breakingFrom_137 (i := 0) rfl 0 rfl ?_
            refine x_iload_n (pc := 138) X dX0_breakingFrom_138 (i := 1) rfl 1 rfl ?_
            refine x_iconst (v := 1) (pc := 139) X dX0_breakingFrom_139 (by decide) ?_
            refine x_iadd (pc := 140) X dX0_breakingFrom_140 ?_
            refine x_lload (pc := 141) X dX0_breakingFrom_141 7 rfl ?_
            obtain ⟨z18, e18, h⟩ := bnds h
            refine x_callS (pc := 143) (As := [.ref (cx.2.2 + a0), .int (i1 + 1), .long l9]) (st := [.long l6]) (st' := [.long z18.1, .long l6]) X (ihs _ _ _ _ _ z18 e18) dX0_breakingFrom_143 w_805 m_B_breakingFrom rfl ⟨by show 4 + d + 1 ≤ 4 + (d + 1); omega, by show 8 + (11 + 11) + 60 * (4 + d) ≤ 60 * (4 + (d + 1)); omega⟩ ⟨Nat.zero_le _, Nat.zero_le _⟩ rfl (Nat.le_of_ble_eq_true rfl) rfl ?_
            refine x_ladd (pc := 146) X dX0_breakingFrom_146 ?_
            refine x_lstore (lv' := [(6, .long (l6 + z18.1)), (0, .ref (cx.2.2 + a0)), (1, .int i1), (2, .long l2), (4, .ref (cx.2.2 + a4)), (5, .ref (cx.2.2 + a5)), (8, .int i8), (9, .long l9)]) (pc := 147) X dX0_breakingFrom_147 (by decide) rfl ?_
            refine x_iinc (v := i8 + 1) (lv' := [(8, .int (i8 + 1)), (6, .long (l6 + z18.1)), (0, .ref (cx.2.2 + a0)), (1, .int i1), (2, .long l2), (4, .ref (cx.2.2 + a4)), (5, .ref (cx.2.2 + a5)), (9, .long l9)]) (pc := 149) X dX0_breakingFrom_149 6 rfl rfl (by decide) rfl ?_
            refine x_goto (tgt := 48) (pc := 152) X dX0_breakingFrom_152 (by decide) ?_
            exact XW.sub [2, 3, 4, 5, 6, 1, 0] rfl (ih48 _ _ _ h)
          · have h := ite_f c20 h
            refine x_lload (pc := 113) X dX0_breakingFrom_113 5 rfl ?_
            refine x_lload (pc := 115) X dX0_breakingFrom_115 7 rfl ?_
            refine x_aload_n (pc := 117) X dX0_breakingFrom_117 (i := 0) rfl 0 rfl ?_
            refine x_geti (ci := 0) (k := 2) (n := 4) (C := RX0) (T := TX0) (pc := 118) X dX0_breakingFrom_118 k16 rfl (by decide) w_281 rfl ?_
            refine x_iload_n (pc := 121) X dX0_breakingFrom_121 (i := 1) rfl 1 rfl ?_
            refine x_isub (pc := 122) X dX0_breakingFrom_122 ?_
            refine x_iconst (v := 1) (pc := 123) X dX0_breakingFrom_123 (by decide) ?_
            refine x_isub (pc := 124) X dX0_breakingFrom_124 ?_
            obtain ⟨z19, e19, h⟩ := bnds h
            refine x_callS (pc := 125) (As := [.int (((z14 a0 2) - i1) - 1)]) (st := [.long l9, .long l6]) (st' := [.long z19, .long l9, .long l6]) X (c_B_tenTo l cx nx N z14 P _ z19 e19) dX0_breakingFrom_125 w_814 m_B_tenTo rfl ⟨by show 0 + 1 ≤ 4 + (d + 1); omega, by show 8 + (4 + 11) + 60 * 0 ≤ 60 * (4 + (d + 1)); omega⟩ ⟨Nat.zero_le _, Nat.zero_le _⟩ rfl (Nat.le_of_ble_eq_true rfl) rfl ?_
            refine x_lmul (pc := 128) X dX0_breakingFrom_128 ?_
            refine x_ladd (pc := 129) X dX0_breakingFrom_129 ?_
            refine x_lstore (lv' := [(6, .long (l6 + (l9 * z19))), (0, .ref (cx.2.2 + a0)), (1, .int i1), (2, .long l2), (4, .ref (cx.2.2 + a4)), (5, .ref (cx.2.2 + a5)), (8, .int i8), (9, .long l9)]) (pc := 130) X dX0_breakingFrom_130 (by decide) rfl ?_
            refine x_goto (tgt := 149) (pc := 132) X dX0_breakingFrom_132 (by decide) ?_
            refine x_iinc (v := i8 + 1) (lv' := [(8, .int (i8 + 1)), (6, .long (l6 + (l9 * z19))), (0, .ref (cx.2.2 + a0)), (1, .int i1), (2, .long l2), (4, .ref (cx.2.2 + a4)), (5, .ref (cx.2.2 + a5)), (9, .long l9)]) (pc := 149) X dX0_breakingFrom_149 6 rfl rfl (by decide) rfl ?_
            refine x_goto (tgt := 48) (pc := 152) X dX0_breakingFrom_152 (by decide) ?_
            exact XW.sub [2, 3, 4, 5, 6, 1, 0] rfl (ih48 _ _ _ h)
        have hJ75 : ∀ (D : Dt) (l6 : Int64) (i8 : Int32) (s0 : Int64) (s1 : Int32), f_B_breakingFrom_75 N nx slf rec48 D P a0 i1 l2 a4 a5 l6 i8 s0 s1 = some z → XW p l e (rmk (4 + (d + 1))) s m args below meth c (MQ below (Qx cx (some (.long z.1)) z.2 P nx) args s 0 0 (AA cx)) cx 11 D P nx 0 0 75 [(0, .ref (cx.2.2 + a0)), (1, .int i1), (2, .long l2), (4, .ref (cx.2.2 + a4)), (5, .ref (cx.2.2 + a5)), (6, .long l6), (8, .int i8)] [.int s1, .long s0] := by
          intro D l6 i8 s0 s1 h
          unfold f_B_breakingFrom_75 at h
          refine x_i2l (pc := 75) X dX0_breakingFrom_75 ?_
          refine x_lmul (pc := 76) X dX0_breakingFrom_76 ?_
          refine x_lstore (lv' := [(9, .long (s0 * (Int32.toInt64 s1))), (0, .ref (cx.2.2 + a0)), (1, .int i1), (2, .long l2), (4, .ref (cx.2.2 + a4)), (5, .ref (cx.2.2 + a5)), (6, .long l6), (8, .int i8)]) (pc := 77) X dX0_breakingFrom_77 (by decide) rfl ?_
          refine x_aload (pc := 79) X dX0_breakingFrom_79 5 rfl ?_
          refine x_aload (pc := 81) X dX0_breakingFrom_81 4 rfl ?_
          obtain ⟨k13, h⟩ := grd h
          obtain ⟨z12, e12, h⟩ := bnds h
          refine x_callV (pc := 83) (As := [.ref (cx.2.2 + a4)]) (st := []) (st' := []) X (c_C_copyFrom l cx nx N D P _ _ z12 e12) dX0_breakingFrom_83 w_804 m_C_copyFrom rfl k13 (ci := 7) rfl rfl ⟨by show 0 + 1 ≤ 4 + (d + 1); omega, by show 8 + (3 + 11) + 60 * 0 ≤ 60 * (4 + (d + 1)); omega⟩ ⟨Nat.zero_le _, Nat.zero_le _⟩ rfl (Nat.le_of_ble_eq_true rfl) rfl ?_
          refine x_iload (pc := 86) X dX0_breakingFrom_86 7 rfl ?_
          refine x_if_ne (tgt := 96) (pc := 88) X dX0_breakingFrom_88 (by decide) (fun c22 => ?_) (fun c22 => ?_)
          · have h := ite_f c22 h
            exact XW.sub [1, 2, 3, 4, 5, 6, 7, 0] rfl (hJ96 _ _ _ _ h)
          · have h := ite_t c22 h
            refine x_aload (pc := 91) X dX0_breakingFrom_91 5 rfl ?_
            obtain ⟨z21, e21, h⟩ := bnds h
            refine x_callV (pc := 93) (As := []) (st := []) (st' := []) X (c_C_growBorne l cx nx N z12 P _ z21 e21) dX0_breakingFrom_93 w_808 m_C_growBorne rfl k13 (ci := 7) rfl rfl ⟨by show 1 + 1 ≤ 4 + (d + 1); omega, by show 8 + (2 + 11) + 60 * 1 ≤ 60 * (4 + (d + 1)); omega⟩ ⟨Nat.zero_le _, Nat.zero_le _⟩ rfl (Nat.le_of_ble_eq_true rfl) rfl ?_
            exact XW.sub [1, 2, 3, 4, 5, 6, 7, 0] rfl (hJ96 _ _ _ _ h)
        refine x_iload (pc := 48) X dX0_breakingFrom_48 6 rfl ?_
        refine x_iconst (v := 1) (pc := 50) X dX0_breakingFrom_50 (by decide) ?_
        refine x_icmp_gt (tgt := 155) (pc := 51) X dX0_breakingFrom_51 (by decide) (fun c25 => ?_) (fun c25 => ?_)
        · have h := ite_t c25 h
          refine x_lload (pc := 155) X dX0_breakingFrom_155 5 rfl ?_
          obtain rfl := Option.some.inj h
          exact x_lret (pc := 157) X dX0_breakingFrom_157
        · have h := ite_f c25 h
          refine x_lload_n (pc := 54) X dX0_breakingFrom_54 (i := 2) rfl 2 rfl ?_
          refine x_iload (pc := 55) X dX0_breakingFrom_55 6 rfl ?_
          refine x_iconst (v := 1) (pc := 57) X dX0_breakingFrom_57 (by decide) ?_
          refine x_icmp_ne (tgt := 71) (pc := 58) X dX0_breakingFrom_58 (by decide) (fun c24 => ?_) (fun c24 => ?_)
          · have h := ite_f c24 h
            refine x_aload_n (pc := 71) X dX0_breakingFrom_71 (i := 0) rfl 0 rfl ?_
            obtain ⟨k11, h⟩ := grd h
            refine x_geti (ci := 0) (k := 3) (n := 4) (C := RX0) (T := TX0) (pc := 72) X dX0_breakingFrom_72 k11 rfl (by decide) w_282 rfl ?_
            exact XW.sub [0, 1, 2, 3, 4, 5, 6] rfl (hJ75 _ _ _ _ _ h)
          · have h := ite_t c24 h
            refine x_bipush (v := 10) (pc := 61) X dX0_breakingFrom_61 (by decide) ?_
            refine x_aload_n (pc := 63) X dX0_breakingFrom_63 (i := 0) rfl 0 rfl ?_
            obtain ⟨k23, h⟩ := grd h
            refine x_geti (ci := 0) (k := 3) (n := 4) (C := RX0) (T := TX0) (pc := 64) X dX0_breakingFrom_64 k23 rfl (by decide) w_282 rfl ?_
            refine x_isub (pc := 67) X dX0_breakingFrom_67 ?_
            refine x_goto (tgt := 75) (pc := 68) X dX0_breakingFrom_68 (by decide) ?_
            exact XW.sub [0, 1, 2, 3, 4, 5, 6] rfl (hJ75 _ _ _ _ _ h)
    refine x_aload_n (pc := 0) X dX0_breakingFrom_0 (i := 0) rfl 0 rfl ?_
    refine x_iload_n (pc := 1) X dX0_breakingFrom_1 (i := 1) rfl 1 rfl ?_
    obtain ⟨k2, h⟩ := grd h
    obtain ⟨z1, e1, h⟩ := bnds h
    refine x_callV (pc := 2) (As := [.int i1]) (st := []) (st' := [rv cx z1]) X (c_B_rung l cx nx N D P _ _ z1 e1) dX0_breakingFrom_2 w_800 m_B_rung rfl k2 (ci := 0) rfl rfl ⟨by show 0 + 1 ≤ 4 + (d + 1); omega, by show 8 + (2 + 11) + 60 * 0 ≤ 60 * (4 + (d + 1)); omega⟩ ⟨Nat.zero_le _, Nat.zero_le _⟩ rfl (Nat.le_of_ble_eq_true rfl) rfl ?_
    rcases orN h with ⟨y1, h⟩ | ⟨q1, y1, h⟩
    · subst y1
      refine x_rvN ?_
      refine x_astoreN (lv' := [(4, .null), (0, .ref (cx.2.2 + a0)), (1, .int i1), (2, .long l2)]) (pc := 5) X dX0_breakingFrom_5 (by decide) rfl ?_
      refine x_aload_n (pc := 7) X dX0_breakingFrom_7 (i := 0) rfl 1 rfl ?_
      refine x_iload_n (pc := 8) X dX0_breakingFrom_8 (i := 1) rfl 2 rfl ?_
      refine x_iconst (v := 1) (pc := 9) X dX0_breakingFrom_9 (by decide) ?_
      refine x_iadd (pc := 10) X dX0_breakingFrom_10 ?_
      obtain ⟨z3, e3, h⟩ := bnds h
      refine x_callV (pc := 11) (As := [.int (i1 + 1)]) (st := []) (st' := [rv cx z3]) X (c_B_rung l cx nx N D P _ _ z3 e3) dX0_breakingFrom_11 w_800 m_B_rung rfl k2 (ci := 0) rfl rfl ⟨by show 0 + 1 ≤ 4 + (d + 1); omega, by show 8 + (2 + 11) + 60 * 0 ≤ 60 * (4 + (d + 1)); omega⟩ ⟨Nat.zero_le _, Nat.zero_le _⟩ rfl (Nat.le_of_ble_eq_true rfl) rfl ?_
      rcases orN h with ⟨y3, h⟩ | ⟨q3, y3, h⟩
      · subst y3
        refine x_rvN ?_
        refine x_astoreN (lv' := [(5, .null), (4, .null), (0, .ref (cx.2.2 + a0)), (1, .int i1), (2, .long l2)]) (pc := 14) X dX0_breakingFrom_14 (by decide) rfl ?_
        refine x_iload_n (pc := 16) X dX0_breakingFrom_16 (i := 1) rfl 3 rfl ?_
        refine x_aload_n (pc := 17) X dX0_breakingFrom_17 (i := 0) rfl 2 rfl ?_
        refine x_geti (ci := 0) (k := 2) (n := 4) (C := RX0) (T := TX0) (pc := 18) X dX0_breakingFrom_18 k2 rfl (by decide) w_281 rfl ?_
        refine x_icmp_ge (tgt := 40) (pc := 21) X dX0_breakingFrom_21 (by decide) (fun c5 => ?_) (fun c5 => ?_)
        · have h := ite_t c5 h
          refine x_lconst (v := 0) (pc := 40) X dX0_breakingFrom_40 (by decide) ?_
          obtain rfl := Option.some.inj h
          exact x_lret (pc := 41) X dX0_breakingFrom_41
        · have h := ite_f c5 h
          refine x_lload_n (pc := 24) X dX0_breakingFrom_24 (i := 2) rfl 4 rfl ?_
          refine x_lconst (v := 1) (pc := 25) X dX0_breakingFrom_25 (by decide) ?_
          refine x_lcmp (pc := 26) X dX0_breakingFrom_26 ?_
          refine x_if_lt (tgt := 40) (pc := 27) X dX0_breakingFrom_27 (by decide) (fun c4 => ?_) (fun c4 => ?_)
          · have h := ite_t c4 h
            refine x_lconst (v := 0) (pc := 40) X dX0_breakingFrom_40 (by decide) ?_
            obtain rfl := Option.some.inj h
            exact x_lret (pc := 41) X dX0_breakingFrom_41
          · have h := ite_f c4 h
            refine x_aloadN (pc := 30) X dX0_breakingFrom_30 1 rfl ?_
            refine x_ifnullN (tgt := 40) (pc := 32) X dX0_breakingFrom_32 (by decide) ?_
            refine x_lconst (v := 0) (pc := 40) X dX0_breakingFrom_40 (by decide) ?_
            obtain rfl := Option.some.inj h
            exact x_lret (pc := 41) X dX0_breakingFrom_41
      · subst y3
        refine x_rvS ?_
        refine x_astore (lv' := [(5, .ref (cx.2.2 + q3)), (4, .null), (0, .ref (cx.2.2 + a0)), (1, .int i1), (2, .long l2)]) (pc := 14) X dX0_breakingFrom_14 (by decide) rfl ?_
        refine x_iload_n (pc := 16) X dX0_breakingFrom_16 (i := 1) rfl 3 rfl ?_
        refine x_aload_n (pc := 17) X dX0_breakingFrom_17 (i := 0) rfl 2 rfl ?_
        refine x_geti (ci := 0) (k := 2) (n := 4) (C := RX0) (T := TX0) (pc := 18) X dX0_breakingFrom_18 k2 rfl (by decide) w_281 rfl ?_
        refine x_icmp_ge (tgt := 40) (pc := 21) X dX0_breakingFrom_21 (by decide) (fun c7 => ?_) (fun c7 => ?_)
        · have h := ite_t c7 h
          refine x_lconst (v := 0) (pc := 40) X dX0_breakingFrom_40 (by decide) ?_
          obtain rfl := Option.some.inj h
          exact x_lret (pc := 41) X dX0_breakingFrom_41
        · have h := ite_f c7 h
          refine x_lload_n (pc := 24) X dX0_breakingFrom_24 (i := 2) rfl 4 rfl ?_
          refine x_lconst (v := 1) (pc := 25) X dX0_breakingFrom_25 (by decide) ?_
          refine x_lcmp (pc := 26) X dX0_breakingFrom_26 ?_
          refine x_if_lt (tgt := 40) (pc := 27) X dX0_breakingFrom_27 (by decide) (fun c6 => ?_) (fun c6 => ?_)
          · have h := ite_t c6 h
            refine x_lconst (v := 0) (pc := 40) X dX0_breakingFrom_40 (by decide) ?_
            obtain rfl := Option.some.inj h
            exact x_lret (pc := 41) X dX0_breakingFrom_41
          · have h := ite_f c6 h
            refine x_aloadN (pc := 30) X dX0_breakingFrom_30 1 rfl ?_
            refine x_ifnullN (tgt := 40) (pc := 32) X dX0_breakingFrom_32 (by decide) ?_
            refine x_lconst (v := 0) (pc := 40) X dX0_breakingFrom_40 (by decide) ?_
            obtain rfl := Option.some.inj h
            exact x_lret (pc := 41) X dX0_breakingFrom_41
    · subst y1
      refine x_rvS ?_
      refine x_astore (lv' := [(4, .ref (cx.2.2 + q1)), (0, .ref (cx.2.2 + a0)), (1, .int i1), (2, .long l2)]) (pc := 5) X dX0_breakingFrom_5 (by decide) rfl ?_
      refine x_aload_n (pc := 7) X dX0_breakingFrom_7 (i := 0) rfl 1 rfl ?_
      refine x_iload_n (pc := 8) X dX0_breakingFrom_8 (i := 1) rfl 2 rfl ?_
      refine x_iconst (v := 1) (pc := 9) X dX0_breakingFrom_9 (by decide) ?_
      refine x_iadd (pc := 10) X dX0_breakingFrom_10 ?_
      obtain ⟨z8, e8, h⟩ := bnds h
      refine x_callV (pc := 11) (As := [.int (i1 + 1)]) (st := []) (st' := [rv cx z8]) X (c_B_rung l cx nx N D P _ _ z8 e8) dX0_breakingFrom_11 w_800 m_B_rung rfl k2 (ci := 0) rfl rfl ⟨by show 0 + 1 ≤ 4 + (d + 1); omega, by show 8 + (2 + 11) + 60 * 0 ≤ 60 * (4 + (d + 1)); omega⟩ ⟨Nat.zero_le _, Nat.zero_le _⟩ rfl (Nat.le_of_ble_eq_true rfl) rfl ?_
      rcases orN h with ⟨y8, h⟩ | ⟨q8, y8, h⟩
      · subst y8
        refine x_rvN ?_
        refine x_astoreN (lv' := [(5, .null), (4, .ref (cx.2.2 + q1)), (0, .ref (cx.2.2 + a0)), (1, .int i1), (2, .long l2)]) (pc := 14) X dX0_breakingFrom_14 (by decide) rfl ?_
        refine x_iload_n (pc := 16) X dX0_breakingFrom_16 (i := 1) rfl 3 rfl ?_
        refine x_aload_n (pc := 17) X dX0_breakingFrom_17 (i := 0) rfl 2 rfl ?_
        refine x_geti (ci := 0) (k := 2) (n := 4) (C := RX0) (T := TX0) (pc := 18) X dX0_breakingFrom_18 k2 rfl (by decide) w_281 rfl ?_
        refine x_icmp_ge (tgt := 40) (pc := 21) X dX0_breakingFrom_21 (by decide) (fun c10 => ?_) (fun c10 => ?_)
        · have h := ite_t c10 h
          refine x_lconst (v := 0) (pc := 40) X dX0_breakingFrom_40 (by decide) ?_
          obtain rfl := Option.some.inj h
          exact x_lret (pc := 41) X dX0_breakingFrom_41
        · have h := ite_f c10 h
          refine x_lload_n (pc := 24) X dX0_breakingFrom_24 (i := 2) rfl 4 rfl ?_
          refine x_lconst (v := 1) (pc := 25) X dX0_breakingFrom_25 (by decide) ?_
          refine x_lcmp (pc := 26) X dX0_breakingFrom_26 ?_
          refine x_if_lt (tgt := 40) (pc := 27) X dX0_breakingFrom_27 (by decide) (fun c9 => ?_) (fun c9 => ?_)
          · have h := ite_t c9 h
            refine x_lconst (v := 0) (pc := 40) X dX0_breakingFrom_40 (by decide) ?_
            obtain rfl := Option.some.inj h
            exact x_lret (pc := 41) X dX0_breakingFrom_41
          · have h := ite_f c9 h
            refine x_aload (pc := 30) X dX0_breakingFrom_30 1 rfl ?_
            refine x_ifnull (pc := 32) X dX0_breakingFrom_32 ?_
            refine x_aloadN (pc := 35) X dX0_breakingFrom_35 0 rfl ?_
            refine x_ifnonnullN (pc := 37) X dX0_breakingFrom_37 ?_
            refine x_lconst (v := 0) (pc := 40) X dX0_breakingFrom_40 (by decide) ?_
            obtain rfl := Option.some.inj h
            exact x_lret (pc := 41) X dX0_breakingFrom_41
      · subst y8
        refine x_rvS ?_
        refine x_astore (lv' := [(5, .ref (cx.2.2 + q8)), (4, .ref (cx.2.2 + q1)), (0, .ref (cx.2.2 + a0)), (1, .int i1), (2, .long l2)]) (pc := 14) X dX0_breakingFrom_14 (by decide) rfl ?_
        refine x_iload_n (pc := 16) X dX0_breakingFrom_16 (i := 1) rfl 3 rfl ?_
        refine x_aload_n (pc := 17) X dX0_breakingFrom_17 (i := 0) rfl 2 rfl ?_
        refine x_geti (ci := 0) (k := 2) (n := 4) (C := RX0) (T := TX0) (pc := 18) X dX0_breakingFrom_18 k2 rfl (by decide) w_281 rfl ?_
        refine x_icmp_ge (tgt := 40) (pc := 21) X dX0_breakingFrom_21 (by decide) (fun c27 => ?_) (fun c27 => ?_)
        · have h := ite_t c27 h
          refine x_lconst (v := 0) (pc := 40) X dX0_breakingFrom_40 (by decide) ?_
          obtain rfl := Option.some.inj h
          exact x_lret (pc := 41) X dX0_breakingFrom_41
        · have h := ite_f c27 h
          refine x_lload_n (pc := 24) X dX0_breakingFrom_24 (i := 2) rfl 4 rfl ?_
          refine x_lconst (v := 1) (pc := 25) X dX0_breakingFrom_25 (by decide) ?_
          refine x_lcmp (pc := 26) X dX0_breakingFrom_26 ?_
          refine x_if_lt (tgt := 40) (pc := 27) X dX0_breakingFrom_27 (by decide) (fun c26 => ?_) (fun c26 => ?_)
          · have h := ite_t c26 h
            refine x_lconst (v := 0) (pc := 40) X dX0_breakingFrom_40 (by decide) ?_
            obtain rfl := Option.some.inj h
            exact x_lret (pc := 41) X dX0_breakingFrom_41
          · have h := ite_f c26 h
            refine x_aload (pc := 30) X dX0_breakingFrom_30 1 rfl ?_
            refine x_ifnull (pc := 32) X dX0_breakingFrom_32 ?_
            refine x_aload (pc := 35) X dX0_breakingFrom_35 0 rfl ?_
            refine x_ifnonnull (tgt := 42) (pc := 37) X dX0_breakingFrom_37 (by decide) ?_
            refine x_lconst (v := 0) (pc := 42) X dX0_breakingFrom_42 (by decide) ?_
            refine x_lstore (lv' := [(6, .long 0), (5, .ref (cx.2.2 + q8)), (4, .ref (cx.2.2 + q1)), (0, .ref (cx.2.2 + a0)), (1, .int i1), (2, .long l2)]) (pc := 43) X dX0_breakingFrom_43 (by decide) rfl ?_
            refine x_iconst (v := 0) (pc := 45) X dX0_breakingFrom_45 (by decide) ?_
            refine x_istore (lv' := [(8, .int 0), (6, .long 0), (5, .ref (cx.2.2 + q8)), (4, .ref (cx.2.2 + q1)), (0, .ref (cx.2.2 + a0)), (1, .int i1), (2, .long l2)]) (pc := 46) X dX0_breakingFrom_46 (by decide) rfl ?_
            exact XW.sub [4, 5, 6, 3, 2, 1, 0] rfl (hL48 _ _ _ _ _ _ h)
theorem dX0_breakingOf_0 : decode cX0_breakingOf 0 = .ok (.aload_n 0, 1) := by decide +kernel
theorem dX0_breakingOf_1 : decode cX0_breakingOf 1 = .ok (.iload_n 2, 1) := by decide +kernel
theorem dX0_breakingOf_2 : decode cX0_breakingOf 2 = .ok (.putfield 20, 3) := by decide +kernel
theorem dX0_breakingOf_5 : decode cX0_breakingOf 5 = .ok (.aload_n 0, 1) := by decide +kernel
theorem dX0_breakingOf_6 : decode cX0_breakingOf 6 = .ok (.iload_n 3, 1) := by decide +kernel
theorem dX0_breakingOf_7 : decode cX0_breakingOf 7 = .ok (.putfield 24, 3) := by decide +kernel
theorem dX0_breakingOf_10 : decode cX0_breakingOf 10 = .ok (.aload_n 0, 1) := by decide +kernel
theorem dX0_breakingOf_11 : decode cX0_breakingOf 11 = .ok (.iload 4, 2) := by decide +kernel
theorem dX0_breakingOf_13 : decode cX0_breakingOf 13 = .ok (.putfield 27, 3) := by decide +kernel
theorem dX0_breakingOf_16 : decode cX0_breakingOf 16 = .ok (.aload_n 0, 1) := by decide +kernel
theorem dX0_breakingOf_17 : decode cX0_breakingOf 17 = .ok (.iconst 0, 1) := by decide +kernel
theorem dX0_breakingOf_18 : decode cX0_breakingOf 18 = .ok (.invokevirtual 30, 3) := by decide +kernel
theorem dX0_breakingOf_21 : decode cX0_breakingOf 21 = .ok (.astore 5, 2) := by decide +kernel
theorem dX0_breakingOf_23 : decode cX0_breakingOf 23 = .ok (.aload 5, 2) := by decide +kernel
theorem dX0_breakingOf_25 : decode cX0_breakingOf 25 = .ok (.ifnonnull 5, 3) := by decide +kernel
theorem dX0_breakingOf_28 : decode cX0_breakingOf 28 = .ok (.lconst 0, 1) := by decide +kernel
theorem dX0_breakingOf_29 : decode cX0_breakingOf 29 = .ok (.lreturn, 1) := by decide +kernel
theorem dX0_breakingOf_30 : decode cX0_breakingOf 30 = .ok (.aload 5, 2) := by decide +kernel
theorem dX0_breakingOf_32 : decode cX0_breakingOf 32 = .ok (.aload_n 1, 1) := by decide +kernel
theorem dX0_breakingOf_33 : decode cX0_breakingOf 33 = .ok (.invokevirtual 34, 3) := by decide +kernel
theorem dX0_breakingOf_36 : decode cX0_breakingOf 36 = .ok (.aload_n 0, 1) := by decide +kernel
theorem dX0_breakingOf_37 : decode cX0_breakingOf 37 = .ok (.iconst 0, 1) := by decide +kernel
theorem dX0_breakingOf_38 : decode cX0_breakingOf 38 = .ok (.lconst 1, 1) := by decide +kernel
theorem dX0_breakingOf_39 : decode cX0_breakingOf 39 = .ok (.invokestatic 38, 3) := by decide +kernel
theorem dX0_breakingOf_42 : decode cX0_breakingOf 42 = .ok (.lreturn, 1) := by decide +kernel
def f_B_breakingOf (N nx : Nat) (D : Dt) (P : Ft) (a0 : Nat) (a1 : Nat) (i2 : Int32) (i3 : Int32) (i4 : Int32) : Option (Int64 × Dt) :=
  if kd nx a0 = 0 then
  pas (upd2 D a0 1 i2) fun D1 =>
  pas (upd2 D1 a0 2 i3) fun D2 =>
  pas (upd2 D2 a0 3 i4) fun D3 =>
  (f_B_rung N nx D3 P a0 0).bind fun z4 =>
  orn z4
    (
      some (0, D3)
    )
    fun q4 =>
      if kd nx q4 = 7 then
      (f_C_copyFrom N nx D3 P q4 a1).bind fun z5 =>
      (f_B_breakingFrom N nx 24 z5 P a0 0 1).bind fun z7 =>
      some (z7.1, z7.2)
      else none
  else none
theorem m_B_breakingOf : MV yX0_breakingOf cX0_breakingOf 6 (some .long) 4 := ⟨mT 799 (by decide +kernel) rfl, mT 797 (by decide +kernel) rfl, mT 798 (by decide +kernel) rfl, mT 63 (by decide +kernel) rfl, by decide +kernel, by decide +kernel, by decide +kernel⟩
set_option maxHeartbeats 4000000 in
set_option maxRecDepth 100000 in
theorem c_B_breakingOf (l : Launch) (cx : Cx) (nx N : Nat) (D : Dt) (P : Ft) (a0 : Nat) (a1 : Nat) (i2 : Int32) (i3 : Int32) (i4 : Int32) (z : Int64 × Dt) (h : f_B_breakingOf N nx D P a0 a1 i2 i3 i4 = some z) : Ct l cx yX0_breakingOf cX0_breakingOf 6 (some .long) 35 [.ref (cx.2.2 + a0), .ref (cx.2.2 + a1), .int i2, .int i3, .int i4] D P nx (some (.long z.1)) z.2 P := by
  refine x_met0 (by decide) (Nat.le_of_ble_eq_true rfl) ?_
  intro p e s m args below meth c X
  have X : XC p s m args meth c cx cX0_breakingOf 6 (some .long) "HeartPins$BadDays" "breakingOf" := X
  refine XW.sub (lv' := [(0, .ref (cx.2.2 + a0)), (1, .ref (cx.2.2 + a1)), (2, .int i2), (3, .int i3), (4, .int i4)]) [0, 1, 2, 3, 4] rfl ?_
  unfold f_B_breakingOf at h
  obtain ⟨hk0, h⟩ := grd h
  refine x_aload_n (pc := 0) X dX0_breakingOf_0 (i := 0) rfl 0 rfl ?_
  refine x_iload_n (pc := 1) X dX0_breakingOf_1 (i := 2) rfl 2 rfl ?_
  obtain ⟨D1, w1, h⟩ := pass h
  refine x_puti (ci := 0) (k := 1) (n := 4) (C := RX0) (T := TX0) (D' := D1) (pc := 2) X dX0_breakingOf_2 hk0 rfl (by decide) w_280 rfl (by decide +kernel) rfl w1 ?_
  refine x_aload_n (pc := 5) X dX0_breakingOf_5 (i := 0) rfl 0 rfl ?_
  refine x_iload_n (pc := 6) X dX0_breakingOf_6 (i := 3) rfl 3 rfl ?_
  obtain ⟨D2, w2, h⟩ := pass h
  refine x_puti (ci := 0) (k := 2) (n := 4) (C := RX0) (T := TX0) (D' := D2) (pc := 7) X dX0_breakingOf_7 hk0 rfl (by decide) w_281 rfl (by decide +kernel) rfl w2 ?_
  refine x_aload_n (pc := 10) X dX0_breakingOf_10 (i := 0) rfl 0 rfl ?_
  refine x_iload (pc := 11) X dX0_breakingOf_11 4 rfl ?_
  obtain ⟨D3, w3, h⟩ := pass h
  refine x_puti (ci := 0) (k := 3) (n := 4) (C := RX0) (T := TX0) (D' := D3) (pc := 13) X dX0_breakingOf_13 hk0 rfl (by decide) w_282 rfl (by decide +kernel) rfl w3 ?_
  refine x_aload_n (pc := 16) X dX0_breakingOf_16 (i := 0) rfl 0 rfl ?_
  refine x_iconst (v := 0) (pc := 17) X dX0_breakingOf_17 (by decide) ?_
  obtain ⟨z4, e4, h⟩ := bnds h
  refine x_callV (pc := 18) (As := [.int 0]) (st := []) (st' := [rv cx z4]) X (c_B_rung l cx nx N D3 P _ _ z4 e4) dX0_breakingOf_18 w_800 m_B_rung rfl hk0 (ci := 0) rfl rfl ⟨by decide, by decide⟩ ⟨Nat.zero_le _, Nat.zero_le _⟩ rfl (Nat.le_of_ble_eq_true rfl) rfl ?_
  rcases orN h with ⟨y4, h⟩ | ⟨q4, y4, h⟩
  · subst y4
    refine x_rvN ?_
    refine x_astoreN (lv' := [(5, .null), (0, .ref (cx.2.2 + a0)), (1, .ref (cx.2.2 + a1)), (2, .int i2), (3, .int i3), (4, .int i4)]) (pc := 21) X dX0_breakingOf_21 (by decide) rfl ?_
    refine x_aloadN (pc := 23) X dX0_breakingOf_23 0 rfl ?_
    refine x_ifnonnullN (pc := 25) X dX0_breakingOf_25 ?_
    refine x_lconst (v := 0) (pc := 28) X dX0_breakingOf_28 (by decide) ?_
    obtain rfl := Option.some.inj h
    exact x_lret (pc := 29) X dX0_breakingOf_29
  · subst y4
    refine x_rvS ?_
    refine x_astore (lv' := [(5, .ref (cx.2.2 + q4)), (0, .ref (cx.2.2 + a0)), (1, .ref (cx.2.2 + a1)), (2, .int i2), (3, .int i3), (4, .int i4)]) (pc := 21) X dX0_breakingOf_21 (by decide) rfl ?_
    refine x_aload (pc := 23) X dX0_breakingOf_23 0 rfl ?_
    refine x_ifnonnull (tgt := 30) (pc := 25) X dX0_breakingOf_25 (by decide) ?_
    refine x_aload (pc := 30) X dX0_breakingOf_30 0 rfl ?_
    refine x_aload_n (pc := 32) X dX0_breakingOf_32 (i := 1) rfl 2 rfl ?_
    obtain ⟨k6, h⟩ := grd h
    obtain ⟨z5, e5, h⟩ := bnds h
    refine x_callV (pc := 33) (As := [.ref (cx.2.2 + a1)]) (st := []) (st' := []) X (c_C_copyFrom l cx nx N D3 P _ _ z5 e5) dX0_breakingOf_33 w_804 m_C_copyFrom rfl k6 (ci := 7) rfl rfl ⟨by decide, by decide⟩ ⟨Nat.zero_le _, Nat.zero_le _⟩ rfl (Nat.le_of_ble_eq_true rfl) rfl ?_
    refine x_aload_n (pc := 36) X dX0_breakingOf_36 (i := 0) rfl 1 rfl ?_
    refine x_iconst (v := 0) (pc := 37) X dX0_breakingOf_37 (by decide) ?_
    refine x_lconst (v := 1) (pc := 38) X dX0_breakingOf_38 (by decide) ?_
    obtain ⟨z7, e7, h⟩ := bnds h
    refine x_callS (pc := 39) (As := [.ref (cx.2.2 + a0), .int 0, .long 1]) (st := []) (st' := [.long z7.1]) X (c_B_breakingFrom l cx nx N 24 z5 P _ _ _ z7 e7) dX0_breakingOf_39 w_805 m_B_breakingFrom rfl ⟨by decide, by decide⟩ ⟨Nat.zero_le _, Nat.zero_le _⟩ rfl (Nat.le_of_ble_eq_true rfl) rfl ?_
    obtain rfl := Option.some.inj h
    exact x_lret (pc := 42) X dX0_breakingOf_42
theorem dX5_keepTried_0 : decode cX5_keepTried 0 = .ok (.iconst 0, 1) := by decide +kernel
theorem dX5_keepTried_1 : decode cX5_keepTried 1 = .ok (.istore_n 1, 1) := by decide +kernel
theorem dX5_keepTried_2 : decode cX5_keepTried 2 = .ok (.iload_n 1, 1) := by decide +kernel
theorem dX5_keepTried_3 : decode cX5_keepTried 3 = .ok (.aload_n 0, 1) := by decide +kernel
theorem dX5_keepTried_4 : decode cX5_keepTried 4 = .ok (.getfield 31, 3) := by decide +kernel
theorem dX5_keepTried_7 : decode cX5_keepTried 7 = .ok (.if_icmp .ge 44, 3) := by decide +kernel
theorem dX5_keepTried_10 : decode cX5_keepTried 10 = .ok (.iload_n 1, 1) := by decide +kernel
theorem dX5_keepTried_11 : decode cX5_keepTried 11 = .ok (.bipush 8, 2) := by decide +kernel
theorem dX5_keepTried_13 : decode cX5_keepTried 13 = .ok (.if_icmp .ge 38, 3) := by decide +kernel
theorem dX5_keepTried_16 : decode cX5_keepTried 16 = .ok (.aload_n 0, 1) := by decide +kernel
theorem dX5_keepTried_17 : decode cX5_keepTried 17 = .ok (.getfield 9, 3) := by decide +kernel
theorem dX5_keepTried_20 : decode cX5_keepTried 20 = .ok (.iload_n 1, 1) := by decide +kernel
theorem dX5_keepTried_21 : decode cX5_keepTried 21 = .ok (.iaload, 1) := by decide +kernel
theorem dX5_keepTried_22 : decode cX5_keepTried 22 = .ok (.istore_n 2, 1) := by decide +kernel
theorem dX5_keepTried_23 : decode cX5_keepTried 23 = .ok (.iload_n 2, 1) := by decide +kernel
theorem dX5_keepTried_24 : decode cX5_keepTried 24 = .ok (.ifCond .lt 21, 3) := by decide +kernel
theorem dX5_keepTried_27 : decode cX5_keepTried 27 = .ok (.iload_n 2, 1) := by decide +kernel
theorem dX5_keepTried_28 : decode cX5_keepTried 28 = .ok (.bipush 8, 2) := by decide +kernel
theorem dX5_keepTried_30 : decode cX5_keepTried 30 = .ok (.if_icmp .ge 15, 3) := by decide +kernel
theorem dX5_keepTried_33 : decode cX5_keepTried 33 = .ok (.aload_n 0, 1) := by decide +kernel
theorem dX5_keepTried_34 : decode cX5_keepTried 34 = .ok (.getfield 21, 3) := by decide +kernel
theorem dX5_keepTried_37 : decode cX5_keepTried 37 = .ok (.iload_n 2, 1) := by decide +kernel
theorem dX5_keepTried_38 : decode cX5_keepTried 38 = .ok (.aload_n 0, 1) := by decide +kernel
theorem dX5_keepTried_39 : decode cX5_keepTried 39 = .ok (.getfield 18, 3) := by decide +kernel
theorem dX5_keepTried_42 : decode cX5_keepTried 42 = .ok (.iload_n 1, 1) := by decide +kernel
theorem dX5_keepTried_43 : decode cX5_keepTried 43 = .ok (.iaload, 1) := by decide +kernel
theorem dX5_keepTried_44 : decode cX5_keepTried 44 = .ok (.iastore, 1) := by decide +kernel
theorem dX5_keepTried_45 : decode cX5_keepTried 45 = .ok (.iinc 1 1, 3) := by decide +kernel
theorem dX5_keepTried_48 : decode cX5_keepTried 48 = .ok (.goto (-46), 3) := by decide +kernel
theorem dX5_keepTried_51 : decode cX5_keepTried 51 = .ok (.return_, 1) := by decide +kernel
def f_Z_keepTried_2 (N nx : Nat) (P : Ft) (a0 : Nat) (rec2 : Dt → Int32 → Option Dt) (D : Dt) (i1 : Int32) : Option Dt :=
  if D a0 5 ≤ i1 then
    some D
  else
    if 8 ≤ i1 then
      some D
    else
      nn (P a0 0) fun q1 =>
      if ab nx q1 3 i1 = true then
      if D q1 i1.toNatClampNeg < 0 then
        rec2 D (i1 + 1)
      else
        if 8 ≤ D q1 i1.toNatClampNeg then
          rec2 D (i1 + 1)
        else
          nn (P a0 3) fun q3 =>
          nn (P a0 2) fun q4 =>
          if ab nx q4 3 i1 = true then
          if ab nx q3 3 (D q1 i1.toNatClampNeg) = true then
          pas (upd2 D q3 (D q1 i1.toNatClampNeg).toNatClampNeg (D q4 i1.toNatClampNeg)) fun D6 =>
          rec2 D6 (i1 + 1)
          else none
          else none
      else none
def f_Z_keepTried (N nx : Nat) (D : Dt) (P : Ft) (a0 : Nat) : Option Dt :=
  if kd nx a0 = 5 then
  wk2 N (f_Z_keepTried_2 N nx P a0) D 0
  else none
theorem m_Z_keepTried : MV yX5_keepTried cX5_keepTried 3 none 0 := ⟨mT 703 (by decide +kernel) rfl, mT 702 (by decide +kernel) rfl, mT 12 (by decide +kernel) rfl, mT 62 (by decide +kernel) rfl, by decide +kernel, by decide +kernel, by decide +kernel⟩
set_option maxHeartbeats 4000000 in
set_option maxRecDepth 100000 in
theorem c_Z_keepTried (l : Launch) (cx : Cx) (nx N : Nat) (D : Dt) (P : Ft) (a0 : Nat) (z : Dt) (h : f_Z_keepTried N nx D P a0 = some z) : Ct l cx yX5_keepTried cX5_keepTried 3 none 0 [.ref (cx.2.2 + a0)] D P nx none z P := by
  refine x_met0 (by decide) (Nat.le_of_ble_eq_true rfl) ?_
  intro p e s m args below meth c X
  have X : XC p s m args meth c cx cX5_keepTried 3 none "HeartPins$Sharing" "keepTried" := X
  refine XW.sub (lv' := [(0, .ref (cx.2.2 + a0))]) [0] rfl ?_
  unfold f_Z_keepTried at h
  obtain ⟨hk0, h⟩ := grd h
  have hL2 : ∀ (n : Nat) (D : Dt) (i1 : Int32), wk2 n (f_Z_keepTried_2 N nx P a0) D i1 = some z → XW p l e (rmk 0) s m args below meth c (MQ below (Qx cx none z P nx) args s 0 0 (AA cx)) cx 3 D P nx 0 0 2 [(0, .ref (cx.2.2 + a0)), (1, .int i1)] [] := by
    intro n
    induction n with
    | zero => intro D i1 h; exact (nonz h).elim
    | succ n ih2 =>
      intro D i1 h
      have h : f_Z_keepTried_2 N nx P a0 (wk2 n (f_Z_keepTried_2 N nx P a0)) D i1 = some z := h
      generalize wk2 n (f_Z_keepTried_2 N nx P a0) = rec2 at ih2 h
      unfold f_Z_keepTried_2 at h
      refine x_iload_n (pc := 2) X dX5_keepTried_2 (i := 1) rfl 1 rfl ?_
      refine x_aload_n (pc := 3) X dX5_keepTried_3 (i := 0) rfl 0 rfl ?_
      refine x_geti (ci := 5) (k := 5) (n := 8) (C := RX5) (T := TX5) (pc := 4) X dX5_keepTried_4 hk0 rfl (by decide) w_250 rfl ?_
      refine x_icmp_ge (tgt := 51) (pc := 7) X dX5_keepTried_7 (by decide) (fun c10 => ?_) (fun c10 => ?_)
      · have h := ite_t c10 h
        obtain rfl := Option.some.inj h
        exact x_vret (pc := 51) X dX5_keepTried_51
      · have h := ite_f c10 h
        refine x_iload_n (pc := 10) X dX5_keepTried_10 (i := 1) rfl 1 rfl ?_
        refine x_bipush (v := 8) (pc := 11) X dX5_keepTried_11 (by decide) ?_
        refine x_icmp_ge (tgt := 51) (pc := 13) X dX5_keepTried_13 (by decide) (fun c9 => ?_) (fun c9 => ?_)
        · have h := ite_t c9 h
          obtain rfl := Option.some.inj h
          exact x_vret (pc := 51) X dX5_keepTried_51
        · have h := ite_f c9 h
          refine x_aload_n (pc := 16) X dX5_keepTried_16 (i := 0) rfl 0 rfl ?_
          obtain ⟨q1, e1, h⟩ := nns h
          refine x_getr (ci := 5) (k := 0) (n := 8) (C := RX5) (T := TX5) (pc := 17) X dX5_keepTried_17 hk0 rfl (by decide) w_245 rfl e1 ?_
          refine x_iload_n (pc := 20) X dX5_keepTried_20 (i := 1) rfl 1 rfl ?_
          obtain ⟨g2, h⟩ := grd h
          refine x_iald (pc := 21) X dX5_keepTried_21 g2 ?_
          refine x_istore_n (lv' := [(2, .int (D q1 i1.toNatClampNeg)), (0, .ref (cx.2.2 + a0)), (1, .int i1)]) (pc := 22) X dX5_keepTried_22 (i := 2) rfl (by decide) rfl ?_
          refine x_iload_n (pc := 23) X dX5_keepTried_23 (i := 2) rfl 0 rfl ?_
          refine x_if_lt (tgt := 45) (pc := 24) X dX5_keepTried_24 (by decide) (fun c8 => ?_) (fun c8 => ?_)
          · have h := ite_t c8 h
            refine x_iinc (v := i1 + 1) (lv' := [(1, .int (i1 + 1)), (2, .int (D q1 i1.toNatClampNeg)), (0, .ref (cx.2.2 + a0))]) (pc := 45) X dX5_keepTried_45 2 rfl rfl (by decide) rfl ?_
            refine x_goto (tgt := 2) (pc := 48) X dX5_keepTried_48 (by decide) ?_
            exact XW.sub [2, 0] rfl (ih2 _ _ h)
          · have h := ite_f c8 h
            refine x_iload_n (pc := 27) X dX5_keepTried_27 (i := 2) rfl 0 rfl ?_
            refine x_bipush (v := 8) (pc := 28) X dX5_keepTried_28 (by decide) ?_
            refine x_icmp_ge (tgt := 45) (pc := 30) X dX5_keepTried_30 (by decide) (fun c7 => ?_) (fun c7 => ?_)
            · have h := ite_t c7 h
              refine x_iinc (v := i1 + 1) (lv' := [(1, .int (i1 + 1)), (2, .int (D q1 i1.toNatClampNeg)), (0, .ref (cx.2.2 + a0))]) (pc := 45) X dX5_keepTried_45 2 rfl rfl (by decide) rfl ?_
              refine x_goto (tgt := 2) (pc := 48) X dX5_keepTried_48 (by decide) ?_
              exact XW.sub [2, 0] rfl (ih2 _ _ h)
            · have h := ite_f c7 h
              refine x_aload_n (pc := 33) X dX5_keepTried_33 (i := 0) rfl 1 rfl ?_
              obtain ⟨q3, e3, h⟩ := nns h
              refine x_getr (ci := 5) (k := 3) (n := 8) (C := RX5) (T := TX5) (pc := 34) X dX5_keepTried_34 hk0 rfl (by decide) w_248 rfl e3 ?_
              refine x_iload_n (pc := 37) X dX5_keepTried_37 (i := 2) rfl 0 rfl ?_
              refine x_aload_n (pc := 38) X dX5_keepTried_38 (i := 0) rfl 1 rfl ?_
              obtain ⟨q4, e4, h⟩ := nns h
              refine x_getr (ci := 5) (k := 2) (n := 8) (C := RX5) (T := TX5) (pc := 39) X dX5_keepTried_39 hk0 rfl (by decide) w_247 rfl e4 ?_
              refine x_iload_n (pc := 42) X dX5_keepTried_42 (i := 1) rfl 2 rfl ?_
              obtain ⟨g5, h⟩ := grd h
              refine x_iald (pc := 43) X dX5_keepTried_43 g5 ?_
              obtain ⟨g6, h⟩ := grd h
              obtain ⟨D6, w6, h⟩ := pass h
              refine x_iast (D' := D6) (pc := 44) X dX5_keepTried_44 g6 w6 ?_
              refine x_iinc (v := i1 + 1) (lv' := [(1, .int (i1 + 1)), (2, .int (D q1 i1.toNatClampNeg)), (0, .ref (cx.2.2 + a0))]) (pc := 45) X dX5_keepTried_45 2 rfl rfl (by decide) rfl ?_
              refine x_goto (tgt := 2) (pc := 48) X dX5_keepTried_48 (by decide) ?_
              exact XW.sub [2, 0] rfl (ih2 _ _ h)
  refine x_iconst (v := 0) (pc := 0) X dX5_keepTried_0 (by decide) ?_
  refine x_istore_n (lv' := [(1, .int 0), (0, .ref (cx.2.2 + a0))]) (pc := 1) X dX5_keepTried_1 (i := 1) rfl (by decide) rfl ?_
  exact XW.sub [1, 0] rfl (hL2 _ _ _ h)
theorem dX5_isLikeEarlier_0 : decode cX5_isLikeEarlier 0 = .ok (.iconst 0, 1) := by decide +kernel
theorem dX5_isLikeEarlier_1 : decode cX5_isLikeEarlier 1 = .ok (.istore_n 2, 1) := by decide +kernel
theorem dX5_isLikeEarlier_2 : decode cX5_isLikeEarlier 2 = .ok (.iload_n 2, 1) := by decide +kernel
theorem dX5_isLikeEarlier_3 : decode cX5_isLikeEarlier 3 = .ok (.iload_n 1, 1) := by decide +kernel
theorem dX5_isLikeEarlier_4 : decode cX5_isLikeEarlier 4 = .ok (.if_icmp .ge 36, 3) := by decide +kernel
theorem dX5_isLikeEarlier_7 : decode cX5_isLikeEarlier 7 = .ok (.iload_n 2, 1) := by decide +kernel
theorem dX5_isLikeEarlier_8 : decode cX5_isLikeEarlier 8 = .ok (.iconst 5, 1) := by decide +kernel
theorem dX5_isLikeEarlier_9 : decode cX5_isLikeEarlier 9 = .ok (.if_icmp .ge 31, 3) := by decide +kernel
theorem dX5_isLikeEarlier_12 : decode cX5_isLikeEarlier 12 = .ok (.iload_n 1, 1) := by decide +kernel
theorem dX5_isLikeEarlier_13 : decode cX5_isLikeEarlier 13 = .ok (.iconst 5, 1) := by decide +kernel
theorem dX5_isLikeEarlier_14 : decode cX5_isLikeEarlier 14 = .ok (.if_icmp .ge 26, 3) := by decide +kernel
theorem dX5_isLikeEarlier_17 : decode cX5_isLikeEarlier 17 = .ok (.aload_n 0, 1) := by decide +kernel
theorem dX5_isLikeEarlier_18 : decode cX5_isLikeEarlier 18 = .ok (.getfield 24, 3) := by decide +kernel
theorem dX5_isLikeEarlier_21 : decode cX5_isLikeEarlier 21 = .ok (.iload_n 2, 1) := by decide +kernel
theorem dX5_isLikeEarlier_22 : decode cX5_isLikeEarlier 22 = .ok (.iaload, 1) := by decide +kernel
theorem dX5_isLikeEarlier_23 : decode cX5_isLikeEarlier 23 = .ok (.aload_n 0, 1) := by decide +kernel
theorem dX5_isLikeEarlier_24 : decode cX5_isLikeEarlier 24 = .ok (.getfield 24, 3) := by decide +kernel
theorem dX5_isLikeEarlier_27 : decode cX5_isLikeEarlier 27 = .ok (.iload_n 1, 1) := by decide +kernel
theorem dX5_isLikeEarlier_28 : decode cX5_isLikeEarlier 28 = .ok (.iaload, 1) := by decide +kernel
theorem dX5_isLikeEarlier_29 : decode cX5_isLikeEarlier 29 = .ok (.if_icmp .ne 5, 3) := by decide +kernel
theorem dX5_isLikeEarlier_32 : decode cX5_isLikeEarlier 32 = .ok (.iconst 1, 1) := by decide +kernel
theorem dX5_isLikeEarlier_33 : decode cX5_isLikeEarlier 33 = .ok (.ireturn, 1) := by decide +kernel
theorem dX5_isLikeEarlier_34 : decode cX5_isLikeEarlier 34 = .ok (.iinc 2 1, 3) := by decide +kernel
theorem dX5_isLikeEarlier_37 : decode cX5_isLikeEarlier 37 = .ok (.goto (-35), 3) := by decide +kernel
theorem dX5_isLikeEarlier_40 : decode cX5_isLikeEarlier 40 = .ok (.iconst 0, 1) := by decide +kernel
theorem dX5_isLikeEarlier_41 : decode cX5_isLikeEarlier 41 = .ok (.ireturn, 1) := by decide +kernel
def f_Z_isLikeEarlier_2 (N nx : Nat) (D : Dt) (P : Ft) (a0 : Nat) (i1 : Int32) (rec2 : Int32 → Option Int32) (i2 : Int32) : Option Int32 :=
  if i1 ≤ i2 then
    some 0
  else
    if 5 ≤ i2 then
      some 0
    else
      if 5 ≤ i1 then
        some 0
      else
        nn (P a0 4) fun q1 =>
        if ab nx q1 3 i2 = true then
        if ab nx q1 3 i1 = true then
        if D q1 i2.toNatClampNeg = D q1 i1.toNatClampNeg then
          some 1
        else
          rec2 (i2 + 1)
        else none
        else none
def f_Z_isLikeEarlier (N nx : Nat) (D : Dt) (P : Ft) (a0 : Nat) (i1 : Int32) : Option Int32 :=
  if kd nx a0 = 5 then
  wk1 N (f_Z_isLikeEarlier_2 N nx D P a0 i1) 0
  else none
theorem m_Z_isLikeEarlier : MV yX5_isLikeEarlier cX5_isLikeEarlier 3 (some .boolean) 1 := ⟨mT 707 (by decide +kernel) rfl, mT 706 (by decide +kernel) rfl, mT 13 (by decide +kernel) rfl, mT 62 (by decide +kernel) rfl, by decide +kernel, by decide +kernel, by decide +kernel⟩
set_option maxHeartbeats 4000000 in
set_option maxRecDepth 100000 in
theorem c_Z_isLikeEarlier (l : Launch) (cx : Cx) (nx N : Nat) (D : Dt) (P : Ft) (a0 : Nat) (i1 : Int32) (z : Int32) (h : f_Z_isLikeEarlier N nx D P a0 i1 = some z) : Ct l cx yX5_isLikeEarlier cX5_isLikeEarlier 3 (some .boolean) 0 [.ref (cx.2.2 + a0), .int i1] D P nx (some (.int z)) D P := by
  refine x_met0 (by decide) (Nat.le_of_ble_eq_true rfl) ?_
  intro p e s m args below meth c X
  have X : XC p s m args meth c cx cX5_isLikeEarlier 3 (some .boolean) "HeartPins$Sharing" "isLikeEarlier" := X
  refine XW.sub (lv' := [(0, .ref (cx.2.2 + a0)), (1, .int i1)]) [0, 1] rfl ?_
  unfold f_Z_isLikeEarlier at h
  obtain ⟨hk0, h⟩ := grd h
  have hL2 : ∀ (n : Nat) (i2 : Int32), wk1 n (f_Z_isLikeEarlier_2 N nx D P a0 i1) i2 = some z → XW p l e (rmk 0) s m args below meth c (MQ below (Qx cx (some (.int z)) D P nx) args s 0 0 (AA cx)) cx 3 D P nx 0 0 2 [(0, .ref (cx.2.2 + a0)), (1, .int i1), (2, .int i2)] [] := by
    intro n
    induction n with
    | zero => intro i2 h; exact (nonz h).elim
    | succ n ih2 =>
      intro i2 h
      have h : f_Z_isLikeEarlier_2 N nx D P a0 i1 (wk1 n (f_Z_isLikeEarlier_2 N nx D P a0 i1)) i2 = some z := h
      generalize wk1 n (f_Z_isLikeEarlier_2 N nx D P a0 i1) = rec2 at ih2 h
      unfold f_Z_isLikeEarlier_2 at h
      refine x_iload_n (pc := 2) X dX5_isLikeEarlier_2 (i := 2) rfl 2 rfl ?_
      refine x_iload_n (pc := 3) X dX5_isLikeEarlier_3 (i := 1) rfl 1 rfl ?_
      refine x_icmp_ge (tgt := 40) (pc := 4) X dX5_isLikeEarlier_4 (by decide) (fun c7 => ?_) (fun c7 => ?_)
      · have h := ite_t c7 h
        refine x_iconst (v := 0) (pc := 40) X dX5_isLikeEarlier_40 (by decide) ?_
        obtain rfl := Option.some.inj h
        exact x_zret (pc := 41) X dX5_isLikeEarlier_41 (Or.inl rfl)
      · have h := ite_f c7 h
        refine x_iload_n (pc := 7) X dX5_isLikeEarlier_7 (i := 2) rfl 2 rfl ?_
        refine x_iconst (v := 5) (pc := 8) X dX5_isLikeEarlier_8 (by decide) ?_
        refine x_icmp_ge (tgt := 40) (pc := 9) X dX5_isLikeEarlier_9 (by decide) (fun c6 => ?_) (fun c6 => ?_)
        · have h := ite_t c6 h
          refine x_iconst (v := 0) (pc := 40) X dX5_isLikeEarlier_40 (by decide) ?_
          obtain rfl := Option.some.inj h
          exact x_zret (pc := 41) X dX5_isLikeEarlier_41 (Or.inl rfl)
        · have h := ite_f c6 h
          refine x_iload_n (pc := 12) X dX5_isLikeEarlier_12 (i := 1) rfl 1 rfl ?_
          refine x_iconst (v := 5) (pc := 13) X dX5_isLikeEarlier_13 (by decide) ?_
          refine x_icmp_ge (tgt := 40) (pc := 14) X dX5_isLikeEarlier_14 (by decide) (fun c5 => ?_) (fun c5 => ?_)
          · have h := ite_t c5 h
            refine x_iconst (v := 0) (pc := 40) X dX5_isLikeEarlier_40 (by decide) ?_
            obtain rfl := Option.some.inj h
            exact x_zret (pc := 41) X dX5_isLikeEarlier_41 (Or.inl rfl)
          · have h := ite_f c5 h
            refine x_aload_n (pc := 17) X dX5_isLikeEarlier_17 (i := 0) rfl 0 rfl ?_
            obtain ⟨q1, e1, h⟩ := nns h
            refine x_getr (ci := 5) (k := 4) (n := 8) (C := RX5) (T := TX5) (pc := 18) X dX5_isLikeEarlier_18 hk0 rfl (by decide) w_249 rfl e1 ?_
            refine x_iload_n (pc := 21) X dX5_isLikeEarlier_21 (i := 2) rfl 2 rfl ?_
            obtain ⟨g2, h⟩ := grd h
            refine x_iald (pc := 22) X dX5_isLikeEarlier_22 g2 ?_
            refine x_aload_n (pc := 23) X dX5_isLikeEarlier_23 (i := 0) rfl 0 rfl ?_
            refine x_getr (ci := 5) (k := 4) (n := 8) (C := RX5) (T := TX5) (pc := 24) X dX5_isLikeEarlier_24 hk0 rfl (by decide) w_249 rfl e1 ?_
            refine x_iload_n (pc := 27) X dX5_isLikeEarlier_27 (i := 1) rfl 1 rfl ?_
            obtain ⟨g3, h⟩ := grd h
            refine x_iald (pc := 28) X dX5_isLikeEarlier_28 g3 ?_
            refine x_icmp_ne (tgt := 34) (pc := 29) X dX5_isLikeEarlier_29 (by decide) (fun c4 => ?_) (fun c4 => ?_)
            · have h := ite_f c4 h
              refine x_iinc (v := i2 + 1) (lv' := [(2, .int (i2 + 1)), (0, .ref (cx.2.2 + a0)), (1, .int i1)]) (pc := 34) X dX5_isLikeEarlier_34 2 rfl rfl (by decide) rfl ?_
              refine x_goto (tgt := 2) (pc := 37) X dX5_isLikeEarlier_37 (by decide) ?_
              exact XW.sub [1, 2, 0] rfl (ih2 _ h)
            · have h := ite_t c4 h
              refine x_iconst (v := 1) (pc := 32) X dX5_isLikeEarlier_32 (by decide) ?_
              obtain rfl := Option.some.inj h
              exact x_zret (pc := 33) X dX5_isLikeEarlier_33 (Or.inr rfl)
  refine x_iconst (v := 0) (pc := 0) X dX5_isLikeEarlier_0 (by decide) ?_
  refine x_istore_n (lv' := [(2, .int 0), (0, .ref (cx.2.2 + a0)), (1, .int i1)]) (pc := 1) X dX5_isLikeEarlier_1 (i := 2) rfl (by decide) rfl ?_
  exact XW.sub [1, 2, 0] rfl (hL2 _ _ h)
theorem dX5_tryFrom_0 : decode cX5_tryFrom 0 = .ok (.iload_n 2, 1) := by decide +kernel
theorem dX5_tryFrom_1 : decode cX5_tryFrom 1 = .ok (.aload_n 0, 1) := by decide +kernel
theorem dX5_tryFrom_2 : decode cX5_tryFrom 2 = .ok (.getfield 43, 3) := by decide +kernel
theorem dX5_tryFrom_5 : decode cX5_tryFrom 5 = .ok (.if_icmp .lt 4, 3) := by decide +kernel
theorem dX5_tryFrom_8 : decode cX5_tryFrom 8 = .ok (.return_, 1) := by decide +kernel
theorem dX5_tryFrom_9 : decode cX5_tryFrom 9 = .ok (.iload_n 1, 1) := by decide +kernel
theorem dX5_tryFrom_10 : decode cX5_tryFrom 10 = .ok (.ifCond .lt 17, 3) := by decide +kernel
theorem dX5_tryFrom_13 : decode cX5_tryFrom 13 = .ok (.iload_n 1, 1) := by decide +kernel
theorem dX5_tryFrom_14 : decode cX5_tryFrom 14 = .ok (.aload_n 0, 1) := by decide +kernel
theorem dX5_tryFrom_15 : decode cX5_tryFrom 15 = .ok (.getfield 31, 3) := by decide +kernel
theorem dX5_tryFrom_18 : decode cX5_tryFrom 18 = .ok (.if_icmp .ge 9, 3) := by decide +kernel
theorem dX5_tryFrom_21 : decode cX5_tryFrom 21 = .ok (.iload_n 1, 1) := by decide +kernel
theorem dX5_tryFrom_22 : decode cX5_tryFrom 22 = .ok (.bipush 8, 2) := by decide +kernel
theorem dX5_tryFrom_24 : decode cX5_tryFrom 24 = .ok (.if_icmp .lt 13, 3) := by decide +kernel
theorem dX5_tryFrom_27 : decode cX5_tryFrom 27 = .ok (.aload_n 0, 1) := by decide +kernel
theorem dX5_tryFrom_28 : decode cX5_tryFrom 28 = .ok (.iload_n 2, 1) := by decide +kernel
theorem dX5_tryFrom_29 : decode cX5_tryFrom 29 = .ok (.putfield 43, 3) := by decide +kernel
theorem dX5_tryFrom_32 : decode cX5_tryFrom 32 = .ok (.aload_n 0, 1) := by decide +kernel
theorem dX5_tryFrom_33 : decode cX5_tryFrom 33 = .ok (.invokevirtual 50, 3) := by decide +kernel
theorem dX5_tryFrom_36 : decode cX5_tryFrom 36 = .ok (.return_, 1) := by decide +kernel
theorem dX5_tryFrom_37 : decode cX5_tryFrom 37 = .ok (.iconst 0, 1) := by decide +kernel
theorem dX5_tryFrom_38 : decode cX5_tryFrom 38 = .ok (.istore_n 3, 1) := by decide +kernel
theorem dX5_tryFrom_39 : decode cX5_tryFrom 39 = .ok (.iload_n 3, 1) := by decide +kernel
theorem dX5_tryFrom_40 : decode cX5_tryFrom 40 = .ok (.aload_n 0, 1) := by decide +kernel
theorem dX5_tryFrom_41 : decode cX5_tryFrom 41 = .ok (.getfield 27, 3) := by decide +kernel
theorem dX5_tryFrom_44 : decode cX5_tryFrom 44 = .ok (.if_icmp .ge 76, 3) := by decide +kernel
theorem dX5_tryFrom_47 : decode cX5_tryFrom 47 = .ok (.iload_n 3, 1) := by decide +kernel
theorem dX5_tryFrom_48 : decode cX5_tryFrom 48 = .ok (.iconst 5, 1) := by decide +kernel
theorem dX5_tryFrom_49 : decode cX5_tryFrom 49 = .ok (.if_icmp .ge 71, 3) := by decide +kernel
theorem dX5_tryFrom_52 : decode cX5_tryFrom 52 = .ok (.aload_n 0, 1) := by decide +kernel
theorem dX5_tryFrom_53 : decode cX5_tryFrom 53 = .ok (.iload_n 3, 1) := by decide +kernel
theorem dX5_tryFrom_54 : decode cX5_tryFrom 54 = .ok (.invokevirtual 53, 3) := by decide +kernel
theorem dX5_tryFrom_57 : decode cX5_tryFrom 57 = .ok (.ifCond .ne 57, 3) := by decide +kernel
theorem dX5_tryFrom_60 : decode cX5_tryFrom 60 = .ok (.aload_n 0, 1) := by decide +kernel
theorem dX5_tryFrom_61 : decode cX5_tryFrom 61 = .ok (.getfield 18, 3) := by decide +kernel
theorem dX5_tryFrom_64 : decode cX5_tryFrom 64 = .ok (.iload_n 1, 1) := by decide +kernel
theorem dX5_tryFrom_65 : decode cX5_tryFrom 65 = .ok (.iload_n 3, 1) := by decide +kernel
theorem dX5_tryFrom_66 : decode cX5_tryFrom 66 = .ok (.iastore, 1) := by decide +kernel
theorem dX5_tryFrom_67 : decode cX5_tryFrom 67 = .ok (.aload_n 0, 1) := by decide +kernel
theorem dX5_tryFrom_68 : decode cX5_tryFrom 68 = .ok (.getfield 24, 3) := by decide +kernel
theorem dX5_tryFrom_71 : decode cX5_tryFrom 71 = .ok (.iload_n 3, 1) := by decide +kernel
theorem dX5_tryFrom_72 : decode cX5_tryFrom 72 = .ok (.dup2, 1) := by decide +kernel
theorem dX5_tryFrom_73 : decode cX5_tryFrom 73 = .ok (.iaload, 1) := by decide +kernel
theorem dX5_tryFrom_74 : decode cX5_tryFrom 74 = .ok (.aload_n 0, 1) := by decide +kernel
theorem dX5_tryFrom_75 : decode cX5_tryFrom 75 = .ok (.getfield 15, 3) := by decide +kernel
theorem dX5_tryFrom_78 : decode cX5_tryFrom 78 = .ok (.iload_n 1, 1) := by decide +kernel
theorem dX5_tryFrom_79 : decode cX5_tryFrom 79 = .ok (.iaload, 1) := by decide +kernel
theorem dX5_tryFrom_80 : decode cX5_tryFrom 80 = .ok (.iadd, 1) := by decide +kernel
theorem dX5_tryFrom_81 : decode cX5_tryFrom 81 = .ok (.iastore, 1) := by decide +kernel
theorem dX5_tryFrom_82 : decode cX5_tryFrom 82 = .ok (.aload_n 0, 1) := by decide +kernel
theorem dX5_tryFrom_83 : decode cX5_tryFrom 83 = .ok (.iload_n 1, 1) := by decide +kernel
theorem dX5_tryFrom_84 : decode cX5_tryFrom 84 = .ok (.iconst 1, 1) := by decide +kernel
theorem dX5_tryFrom_85 : decode cX5_tryFrom 85 = .ok (.iadd, 1) := by decide +kernel
theorem dX5_tryFrom_86 : decode cX5_tryFrom 86 = .ok (.iload_n 2, 1) := by decide +kernel
theorem dX5_tryFrom_87 : decode cX5_tryFrom 87 = .ok (.aload_n 0, 1) := by decide +kernel
theorem dX5_tryFrom_88 : decode cX5_tryFrom 88 = .ok (.getfield 24, 3) := by decide +kernel
theorem dX5_tryFrom_91 : decode cX5_tryFrom 91 = .ok (.iload_n 3, 1) := by decide +kernel
theorem dX5_tryFrom_92 : decode cX5_tryFrom 92 = .ok (.iaload, 1) := by decide +kernel
theorem dX5_tryFrom_93 : decode cX5_tryFrom 93 = .ok (.invokestatic 57, 3) := by decide +kernel
theorem dX5_tryFrom_96 : decode cX5_tryFrom 96 = .ok (.invokestatic 46, 3) := by decide +kernel
theorem dX5_tryFrom_99 : decode cX5_tryFrom 99 = .ok (.aload_n 0, 1) := by decide +kernel
theorem dX5_tryFrom_100 : decode cX5_tryFrom 100 = .ok (.getfield 24, 3) := by decide +kernel
theorem dX5_tryFrom_103 : decode cX5_tryFrom 103 = .ok (.iload_n 3, 1) := by decide +kernel
theorem dX5_tryFrom_104 : decode cX5_tryFrom 104 = .ok (.dup2, 1) := by decide +kernel
theorem dX5_tryFrom_105 : decode cX5_tryFrom 105 = .ok (.iaload, 1) := by decide +kernel
theorem dX5_tryFrom_106 : decode cX5_tryFrom 106 = .ok (.aload_n 0, 1) := by decide +kernel
theorem dX5_tryFrom_107 : decode cX5_tryFrom 107 = .ok (.getfield 15, 3) := by decide +kernel
theorem dX5_tryFrom_110 : decode cX5_tryFrom 110 = .ok (.iload_n 1, 1) := by decide +kernel
theorem dX5_tryFrom_111 : decode cX5_tryFrom 111 = .ok (.iaload, 1) := by decide +kernel
theorem dX5_tryFrom_112 : decode cX5_tryFrom 112 = .ok (.isub, 1) := by decide +kernel
theorem dX5_tryFrom_113 : decode cX5_tryFrom 113 = .ok (.iastore, 1) := by decide +kernel
theorem dX5_tryFrom_114 : decode cX5_tryFrom 114 = .ok (.iinc 3 1, 3) := by decide +kernel
theorem dX5_tryFrom_117 : decode cX5_tryFrom 117 = .ok (.goto (-78), 3) := by decide +kernel
theorem dX5_tryFrom_120 : decode cX5_tryFrom 120 = .ok (.return_, 1) := by decide +kernel
def f_Z_tryFrom_39 (N nx : Nat) (slf : Dt → Ft → Nat → Int32 → Int32 → Option Dt) (P : Ft) (a0 : Nat) (i1 : Int32) (i2 : Int32) (rec39 : Dt → Int32 → Option Dt) (D : Dt) (i3 : Int32) : Option Dt :=
  if kd nx a0 = 5 then
  if D a0 6 ≤ i3 then
    some D
  else
    if 5 ≤ i3 then
      some D
    else
      (f_Z_isLikeEarlier N nx D P a0 i3).bind fun z6 =>
      if z6 = 0 then
        nn (P a0 2) fun q7 =>
        if ab nx q7 3 i1 = true then
        pas (upd2 D q7 i1.toNatClampNeg i3) fun D8 =>
        nn (P a0 4) fun q9 =>
        if ab nx q9 3 i3 = true then
        nn (P a0 1) fun q11 =>
        if ab nx q11 3 i1 = true then
        if ab nx q9 3 i3 = true then
        pas (upd2 D8 q9 i3.toNatClampNeg ((D8 q9 i3.toNatClampNeg) + (D8 q11 i1.toNatClampNeg))) fun D13 =>
        if ab nx q9 3 i3 = true then
        (slf D13 P a0 (i1 + 1) (if i2 < D13 q9 i3.toNatClampNeg then D13 q9 i3.toNatClampNeg else i2)).bind fun z15 =>
        if ab nx q9 3 i3 = true then
        if ab nx q11 3 i1 = true then
        if ab nx q9 3 i3 = true then
        pas (upd2 z15 q9 i3.toNatClampNeg ((z15 q9 i3.toNatClampNeg) - (z15 q11 i1.toNatClampNeg))) fun D18 =>
        rec39 D18 (i3 + 1)
        else none
        else none
        else none
        else none
        else none
        else none
        else none
        else none
      else
        rec39 D (i3 + 1)
  else none
def f_Z_tryFrom_27 (N nx : Nat) (slf : Dt → Ft → Nat → Int32 → Int32 → Option Dt) (D : Dt) (P : Ft) (a0 : Nat) (i2 : Int32) : Option Dt :=
  if kd nx a0 = 5 then
  pas (upd2 D a0 7 i2) fun D3 =>
  (f_Z_keepTried N nx D3 P a0).bind fun z4 =>
  some z4
  else none
def f_Z_tryFrom_b (N nx : Nat) (slf : Dt → Ft → Nat → Int32 → Int32 → Option Dt) (D : Dt) (P : Ft) (a0 : Nat) (i1 : Int32) (i2 : Int32) : Option Dt :=
  if kd nx a0 = 5 then
  if i2 < D a0 7 then
    if i1 < 0 then
      f_Z_tryFrom_27 N nx slf D P a0 i2
    else
      if D a0 5 ≤ i1 then
        f_Z_tryFrom_27 N nx slf D P a0 i2
      else
        if i1 < 8 then
          wk2 N (f_Z_tryFrom_39 N nx slf P a0 i1 i2) D 0
        else
          f_Z_tryFrom_27 N nx slf D P a0 i2
  else
    some D
  else none
def f_Z_tryFrom (N nx : Nat) : Nat → Dt → Ft → Nat → Int32 → Int32 → Option Dt
  | 0 => fun _ _ _ _ _ => none
  | d + 1 => f_Z_tryFrom_b N nx (f_Z_tryFrom N nx d)
theorem m_Z_tryFrom : MS yX5_tryFrom cX5_tryFrom 4 none 3 := ⟨mT 699 (by decide +kernel) rfl, mT 698 (by decide +kernel) rfl, mT 62 (by decide +kernel) rfl, by decide +kernel, by decide +kernel, by decide +kernel⟩
set_option maxHeartbeats 4000000 in
set_option maxRecDepth 100000 in
theorem c_Z_tryFrom (l : Launch) (cx : Cx) (nx N : Nat) (d : Nat) : ∀ (D : Dt) (P : Ft) (a0 : Nat) (i1 : Int32) (i2 : Int32) (z : Dt), f_Z_tryFrom N nx d D P a0 i1 i2 = some z → Ct l cx yX5_tryFrom cX5_tryFrom 4 none (1 + d) [.ref (cx.2.2 + a0), .int i1, .int i2] D P nx none z P := by
  induction d with
  | zero => intro D P a0 i1 i2 z h; exact (nonz h).elim
  | succ d ihs =>
    intro D P a0 i1 i2 z h
    have h : f_Z_tryFrom_b N nx (f_Z_tryFrom N nx d) D P a0 i1 i2 = some z := h
    generalize f_Z_tryFrom N nx d = slf at ihs h
    refine x_met0 (by decide) (Nat.le_of_ble_eq_true rfl) ?_
    intro p e s m args below meth c X
    have X : XC p s m args meth c cx cX5_tryFrom 4 none "HeartPins$Sharing" "tryFrom" := X
    refine XW.sub (lv' := [(0, .ref (cx.2.2 + a0)), (1, .int i1), (2, .int i2)]) [0, 1, 2] rfl ?_
    unfold f_Z_tryFrom_b at h
    have hL39 : ∀ (n : Nat) (D : Dt) (i3 : Int32), wk2 n (f_Z_tryFrom_39 N nx slf P a0 i1 i2) D i3 = some z → XW p l e (rmk (1 + (d + 1))) s m args below meth c (MQ below (Qx cx none z P nx) args s 0 0 (AA cx)) cx 4 D P nx 0 0 39 [(0, .ref (cx.2.2 + a0)), (1, .int i1), (2, .int i2), (3, .int i3)] [] := by
      intro n
      induction n with
      | zero => intro D i3 h; exact (nonz h).elim
      | succ n ih39 =>
        intro D i3 h
        have h : f_Z_tryFrom_39 N nx slf P a0 i1 i2 (wk2 n (f_Z_tryFrom_39 N nx slf P a0 i1 i2)) D i3 = some z := h
        generalize wk2 n (f_Z_tryFrom_39 N nx slf P a0 i1 i2) = rec39 at ih39 h
        unfold f_Z_tryFrom_39 at h
        refine x_iload_n (pc := 39) X dX5_tryFrom_39 (i := 3) rfl 3 rfl ?_
        refine x_aload_n (pc := 40) X dX5_tryFrom_40 (i := 0) rfl 0 rfl ?_
        obtain ⟨k5, h⟩ := grd h
        refine x_geti (ci := 5) (k := 6) (n := 8) (C := RX5) (T := TX5) (pc := 41) X dX5_tryFrom_41 k5 rfl (by decide) w_251 rfl ?_
        refine x_icmp_ge (tgt := 120) (pc := 44) X dX5_tryFrom_44 (by decide) (fun c21 => ?_) (fun c21 => ?_)
        · have h := ite_t c21 h
          obtain rfl := Option.some.inj h
          exact x_vret (pc := 120) X dX5_tryFrom_120
        · have h := ite_f c21 h
          refine x_iload_n (pc := 47) X dX5_tryFrom_47 (i := 3) rfl 3 rfl ?_
          refine x_iconst (v := 5) (pc := 48) X dX5_tryFrom_48 (by decide) ?_
          refine x_icmp_ge (tgt := 120) (pc := 49) X dX5_tryFrom_49 (by decide) (fun c20 => ?_) (fun c20 => ?_)
          · have h := ite_t c20 h
            obtain rfl := Option.some.inj h
            exact x_vret (pc := 120) X dX5_tryFrom_120
          · have h := ite_f c20 h
            refine x_aload_n (pc := 52) X dX5_tryFrom_52 (i := 0) rfl 0 rfl ?_
            refine x_iload_n (pc := 53) X dX5_tryFrom_53 (i := 3) rfl 3 rfl ?_
            obtain ⟨z6, e6, h⟩ := bnds h
            refine x_callV (pc := 54) (As := [.int i3]) (st := []) (st' := [.int z6]) X (c_Z_isLikeEarlier l cx nx N D P _ _ z6 e6) dX5_tryFrom_54 w_704 m_Z_isLikeEarlier rfl k5 (ci := 5) rfl rfl ⟨by show 0 + 1 ≤ 1 + (d + 1); omega, by show 8 + (3 + 11) + 60 * 0 ≤ 60 * (1 + (d + 1)); omega⟩ ⟨Nat.zero_le _, Nat.zero_le _⟩ rfl (Nat.le_of_ble_eq_true rfl) rfl ?_
            refine x_if_ne (tgt := 114) (pc := 57) X dX5_tryFrom_57 (by decide) (fun c19 => ?_) (fun c19 => ?_)
            · have h := ite_f c19 h
              refine x_iinc (v := i3 + 1) (lv' := [(3, .int (i3 + 1)), (0, .ref (cx.2.2 + a0)), (1, .int i1), (2, .int i2)]) (pc := 114) X dX5_tryFrom_114 3 rfl rfl (by decide) rfl ?_
              refine x_goto (tgt := 39) (pc := 117) X dX5_tryFrom_117 (by decide) ?_
              exact XW.sub [1, 2, 3, 0] rfl (ih39 _ _ h)
            · have h := ite_t c19 h
              refine x_aload_n (pc := 60) X dX5_tryFrom_60 (i := 0) rfl 0 rfl ?_
              obtain ⟨q7, e7, h⟩ := nns h
              refine x_getr (ci := 5) (k := 2) (n := 8) (C := RX5) (T := TX5) (pc := 61) X dX5_tryFrom_61 k5 rfl (by decide) w_247 rfl e7 ?_
              refine x_iload_n (pc := 64) X dX5_tryFrom_64 (i := 1) rfl 1 rfl ?_
              refine x_iload_n (pc := 65) X dX5_tryFrom_65 (i := 3) rfl 3 rfl ?_
              obtain ⟨g8, h⟩ := grd h
              obtain ⟨D8, w8, h⟩ := pass h
              refine x_iast (D' := D8) (pc := 66) X dX5_tryFrom_66 g8 w8 ?_
              refine x_aload_n (pc := 67) X dX5_tryFrom_67 (i := 0) rfl 0 rfl ?_
              obtain ⟨q9, e9, h⟩ := nns h
              refine x_getr (ci := 5) (k := 4) (n := 8) (C := RX5) (T := TX5) (pc := 68) X dX5_tryFrom_68 k5 rfl (by decide) w_249 rfl e9 ?_
              refine x_iload_n (pc := 71) X dX5_tryFrom_71 (i := 3) rfl 3 rfl ?_
              refine x_dup2 (pc := 72) X dX5_tryFrom_72 rfl rfl ?_
              obtain ⟨g10, h⟩ := grd h
              refine x_iald (pc := 73) X dX5_tryFrom_73 g10 ?_
              refine x_aload_n (pc := 74) X dX5_tryFrom_74 (i := 0) rfl 0 rfl ?_
              obtain ⟨q11, e11, h⟩ := nns h
              refine x_getr (ci := 5) (k := 1) (n := 8) (C := RX5) (T := TX5) (pc := 75) X dX5_tryFrom_75 k5 rfl (by decide) w_246 rfl e11 ?_
              refine x_iload_n (pc := 78) X dX5_tryFrom_78 (i := 1) rfl 1 rfl ?_
              obtain ⟨g12, h⟩ := grd h
              refine x_iald (pc := 79) X dX5_tryFrom_79 g12 ?_
              refine x_iadd (pc := 80) X dX5_tryFrom_80 ?_
              obtain ⟨g13, h⟩ := grd h
              obtain ⟨D13, w13, h⟩ := pass h
              refine x_iast (D' := D13) (pc := 81) X dX5_tryFrom_81 g13 w13 ?_
              refine x_aload_n (pc := 82) X dX5_tryFrom_82 (i := 0) rfl 0 rfl ?_
              refine x_iload_n (pc := 83) X dX5_tryFrom_83 (i := 1) rfl 1 rfl ?_
              refine x_iconst (v := 1) (pc := 84) X dX5_tryFrom_84 (by decide) ?_
              refine x_iadd (pc := 85) X dX5_tryFrom_85 ?_
              refine x_iload_n (pc := 86) X dX5_tryFrom_86 (i := 2) rfl 2 rfl ?_
              refine x_aload_n (pc := 87) X dX5_tryFrom_87 (i := 0) rfl 0 rfl ?_
              refine x_getr (ci := 5) (k := 4) (n := 8) (C := RX5) (T := TX5) (pc := 88) X dX5_tryFrom_88 k5 rfl (by decide) w_249 rfl e9 ?_
              refine x_iload_n (pc := 91) X dX5_tryFrom_91 (i := 3) rfl 3 rfl ?_
              obtain ⟨g14, h⟩ := grd h
              refine x_iald (pc := 92) X dX5_tryFrom_92 g14 ?_
              refine x_mmax (pc := 93) X dX5_tryFrom_93 w_708 ⟨by show 1 ≤ 1 + (d + 1); omega, by show 21 ≤ 60 * (1 + (d + 1)); omega⟩ ⟨Nat.zero_le _, Nat.zero_le _⟩ (Nat.le_of_ble_eq_true rfl) ?_
              obtain ⟨z15, e15, h⟩ := bnds h
              refine x_callS (pc := 96) (As := [.ref (cx.2.2 + a0), .int (i1 + 1), .int (if i2 < D13 q9 i3.toNatClampNeg then D13 q9 i3.toNatClampNeg else i2)]) (st := []) (st' := []) X (ihs _ _ _ _ _ z15 e15) dX5_tryFrom_96 w_697 m_Z_tryFrom rfl ⟨by show 1 + d + 1 ≤ 1 + (d + 1); omega, by show 8 + (4 + 11) + 60 * (1 + d) ≤ 60 * (1 + (d + 1)); omega⟩ ⟨Nat.zero_le _, Nat.zero_le _⟩ rfl (Nat.le_of_ble_eq_true rfl) rfl ?_
              refine x_aload_n (pc := 99) X dX5_tryFrom_99 (i := 0) rfl 0 rfl ?_
              refine x_getr (ci := 5) (k := 4) (n := 8) (C := RX5) (T := TX5) (pc := 100) X dX5_tryFrom_100 k5 rfl (by decide) w_249 rfl e9 ?_
              refine x_iload_n (pc := 103) X dX5_tryFrom_103 (i := 3) rfl 3 rfl ?_
              refine x_dup2 (pc := 104) X dX5_tryFrom_104 rfl rfl ?_
              obtain ⟨g16, h⟩ := grd h
              refine x_iald (pc := 105) X dX5_tryFrom_105 g16 ?_
              refine x_aload_n (pc := 106) X dX5_tryFrom_106 (i := 0) rfl 0 rfl ?_
              refine x_getr (ci := 5) (k := 1) (n := 8) (C := RX5) (T := TX5) (pc := 107) X dX5_tryFrom_107 k5 rfl (by decide) w_246 rfl e11 ?_
              refine x_iload_n (pc := 110) X dX5_tryFrom_110 (i := 1) rfl 1 rfl ?_
              obtain ⟨g17, h⟩ := grd h
              refine x_iald (pc := 111) X dX5_tryFrom_111 g17 ?_
              refine x_isub (pc := 112) X dX5_tryFrom_112 ?_
              obtain ⟨g18, h⟩ := grd h
              obtain ⟨D18, w18, h⟩ := pass h
              refine x_iast (D' := D18) (pc := 113) X dX5_tryFrom_113 g18 w18 ?_
              refine x_iinc (v := i3 + 1) (lv' := [(3, .int (i3 + 1)), (0, .ref (cx.2.2 + a0)), (1, .int i1), (2, .int i2)]) (pc := 114) X dX5_tryFrom_114 3 rfl rfl (by decide) rfl ?_
              refine x_goto (tgt := 39) (pc := 117) X dX5_tryFrom_117 (by decide) ?_
              exact XW.sub [1, 2, 3, 0] rfl (ih39 _ _ h)
    have hJ27 : ∀ (D : Dt), f_Z_tryFrom_27 N nx slf D P a0 i2 = some z → XW p l e (rmk (1 + (d + 1))) s m args below meth c (MQ below (Qx cx none z P nx) args s 0 0 (AA cx)) cx 4 D P nx 0 0 27 [(0, .ref (cx.2.2 + a0)), (2, .int i2)] [] := by
      intro D h
      unfold f_Z_tryFrom_27 at h
      refine x_aload_n (pc := 27) X dX5_tryFrom_27 (i := 0) rfl 0 rfl ?_
      refine x_iload_n (pc := 28) X dX5_tryFrom_28 (i := 2) rfl 1 rfl ?_
      obtain ⟨k2, h⟩ := grd h
      obtain ⟨D3, w3, h⟩ := pass h
      refine x_puti (ci := 5) (k := 7) (n := 8) (C := RX5) (T := TX5) (D' := D3) (pc := 29) X dX5_tryFrom_29 k2 rfl (by decide) w_252 rfl (by decide +kernel) rfl w3 ?_
      refine x_aload_n (pc := 32) X dX5_tryFrom_32 (i := 0) rfl 0 rfl ?_
      obtain ⟨z4, e4, h⟩ := bnds h
      refine x_callV (pc := 33) (As := []) (st := []) (st' := []) X (c_Z_keepTried l cx nx N D3 P _ z4 e4) dX5_tryFrom_33 w_700 m_Z_keepTried rfl k2 (ci := 5) rfl rfl ⟨by show 0 + 1 ≤ 1 + (d + 1); omega, by show 8 + (3 + 11) + 60 * 0 ≤ 60 * (1 + (d + 1)); omega⟩ ⟨Nat.zero_le _, Nat.zero_le _⟩ rfl (Nat.le_of_ble_eq_true rfl) rfl ?_
      obtain rfl := Option.some.inj h
      exact x_vret (pc := 36) X dX5_tryFrom_36
    refine x_iload_n (pc := 0) X dX5_tryFrom_0 (i := 2) rfl 2 rfl ?_
    refine x_aload_n (pc := 1) X dX5_tryFrom_1 (i := 0) rfl 0 rfl ?_
    obtain ⟨k1, h⟩ := grd h
    refine x_geti (ci := 5) (k := 7) (n := 8) (C := RX5) (T := TX5) (pc := 2) X dX5_tryFrom_2 k1 rfl (by decide) w_252 rfl ?_
    refine x_icmp_lt (tgt := 9) (pc := 5) X dX5_tryFrom_5 (by decide) (fun c25 => ?_) (fun c25 => ?_)
    · have h := ite_t c25 h
      refine x_iload_n (pc := 9) X dX5_tryFrom_9 (i := 1) rfl 1 rfl ?_
      refine x_if_lt (tgt := 27) (pc := 10) X dX5_tryFrom_10 (by decide) (fun c24 => ?_) (fun c24 => ?_)
      · have h := ite_t c24 h
        exact XW.sub [0, 2] rfl (hJ27 _ h)
      · have h := ite_f c24 h
        refine x_iload_n (pc := 13) X dX5_tryFrom_13 (i := 1) rfl 1 rfl ?_
        refine x_aload_n (pc := 14) X dX5_tryFrom_14 (i := 0) rfl 0 rfl ?_
        refine x_geti (ci := 5) (k := 5) (n := 8) (C := RX5) (T := TX5) (pc := 15) X dX5_tryFrom_15 k1 rfl (by decide) w_250 rfl ?_
        refine x_icmp_ge (tgt := 27) (pc := 18) X dX5_tryFrom_18 (by decide) (fun c23 => ?_) (fun c23 => ?_)
        · have h := ite_t c23 h
          exact XW.sub [0, 2] rfl (hJ27 _ h)
        · have h := ite_f c23 h
          refine x_iload_n (pc := 21) X dX5_tryFrom_21 (i := 1) rfl 1 rfl ?_
          refine x_bipush (v := 8) (pc := 22) X dX5_tryFrom_22 (by decide) ?_
          refine x_icmp_lt (tgt := 37) (pc := 24) X dX5_tryFrom_24 (by decide) (fun c22 => ?_) (fun c22 => ?_)
          · have h := ite_t c22 h
            refine x_iconst (v := 0) (pc := 37) X dX5_tryFrom_37 (by decide) ?_
            refine x_istore_n (lv' := [(3, .int 0), (0, .ref (cx.2.2 + a0)), (1, .int i1), (2, .int i2)]) (pc := 38) X dX5_tryFrom_38 (i := 3) rfl (by decide) rfl ?_
            exact XW.sub [1, 2, 3, 0] rfl (hL39 _ _ _ h)
          · have h := ite_f c22 h
            exact XW.sub [0, 2] rfl (hJ27 _ h)
    · have h := ite_f c25 h
      obtain rfl := Option.some.inj h
      exact x_vret (pc := 8) X dX5_tryFrom_8
theorem dX5_find_0 : decode cX5_find 0 = .ok (.aload_n 0, 1) := by decide +kernel
theorem dX5_find_1 : decode cX5_find 1 = .ok (.iload_n 2, 1) := by decide +kernel
theorem dX5_find_2 : decode cX5_find 2 = .ok (.putfield 27, 3) := by decide +kernel
theorem dX5_find_5 : decode cX5_find 5 = .ok (.aload_n 0, 1) := by decide +kernel
theorem dX5_find_6 : decode cX5_find 6 = .ok (.iconst 0, 1) := by decide +kernel
theorem dX5_find_7 : decode cX5_find 7 = .ok (.putfield 31, 3) := by decide +kernel
theorem dX5_find_10 : decode cX5_find 10 = .ok (.iconst 0, 1) := by decide +kernel
theorem dX5_find_11 : decode cX5_find 11 = .ok (.istore_n 3, 1) := by decide +kernel
theorem dX5_find_12 : decode cX5_find 12 = .ok (.iload_n 3, 1) := by decide +kernel
theorem dX5_find_13 : decode cX5_find 13 = .ok (.bipush 8, 2) := by decide +kernel
theorem dX5_find_15 : decode cX5_find 15 = .ok (.if_icmp .ge 68, 3) := by decide +kernel
theorem dX5_find_18 : decode cX5_find 18 = .ok (.aload_n 0, 1) := by decide +kernel
theorem dX5_find_19 : decode cX5_find 19 = .ok (.getfield 21, 3) := by decide +kernel
theorem dX5_find_22 : decode cX5_find 22 = .ok (.iload_n 3, 1) := by decide +kernel
theorem dX5_find_23 : decode cX5_find 23 = .ok (.bipush (-4), 2) := by decide +kernel
theorem dX5_find_25 : decode cX5_find 25 = .ok (.iastore, 1) := by decide +kernel
theorem dX5_find_26 : decode cX5_find 26 = .ok (.aload_n 1, 1) := by decide +kernel
theorem dX5_find_27 : decode cX5_find 27 = .ok (.iload_n 3, 1) := by decide +kernel
theorem dX5_find_28 : decode cX5_find 28 = .ok (.invokevirtual 34, 3) := by decide +kernel
theorem dX5_find_31 : decode cX5_find 31 = .ok (.ifCond .lt 46, 3) := by decide +kernel
theorem dX5_find_34 : decode cX5_find 34 = .ok (.aload_n 0, 1) := by decide +kernel
theorem dX5_find_35 : decode cX5_find 35 = .ok (.getfield 31, 3) := by decide +kernel
theorem dX5_find_38 : decode cX5_find 38 = .ok (.bipush 8, 2) := by decide +kernel
theorem dX5_find_40 : decode cX5_find 40 = .ok (.if_icmp .ge 37, 3) := by decide +kernel
theorem dX5_find_43 : decode cX5_find 43 = .ok (.aload_n 0, 1) := by decide +kernel
theorem dX5_find_44 : decode cX5_find 44 = .ok (.getfield 9, 3) := by decide +kernel
theorem dX5_find_47 : decode cX5_find 47 = .ok (.aload_n 0, 1) := by decide +kernel
theorem dX5_find_48 : decode cX5_find 48 = .ok (.getfield 31, 3) := by decide +kernel
theorem dX5_find_51 : decode cX5_find 51 = .ok (.iload_n 3, 1) := by decide +kernel
theorem dX5_find_52 : decode cX5_find 52 = .ok (.iastore, 1) := by decide +kernel
theorem dX5_find_53 : decode cX5_find 53 = .ok (.aload_n 0, 1) := by decide +kernel
theorem dX5_find_54 : decode cX5_find 54 = .ok (.getfield 15, 3) := by decide +kernel
theorem dX5_find_57 : decode cX5_find 57 = .ok (.aload_n 0, 1) := by decide +kernel
theorem dX5_find_58 : decode cX5_find 58 = .ok (.getfield 31, 3) := by decide +kernel
theorem dX5_find_61 : decode cX5_find 61 = .ok (.aload_n 1, 1) := by decide +kernel
theorem dX5_find_62 : decode cX5_find 62 = .ok (.iload_n 3, 1) := by decide +kernel
theorem dX5_find_63 : decode cX5_find 63 = .ok (.invokevirtual 40, 3) := by decide +kernel
theorem dX5_find_66 : decode cX5_find 66 = .ok (.iastore, 1) := by decide +kernel
theorem dX5_find_67 : decode cX5_find 67 = .ok (.aload_n 0, 1) := by decide +kernel
theorem dX5_find_68 : decode cX5_find 68 = .ok (.dup, 1) := by decide +kernel
theorem dX5_find_69 : decode cX5_find 69 = .ok (.getfield 31, 3) := by decide +kernel
theorem dX5_find_72 : decode cX5_find 72 = .ok (.iconst 1, 1) := by decide +kernel
theorem dX5_find_73 : decode cX5_find 73 = .ok (.iadd, 1) := by decide +kernel
theorem dX5_find_74 : decode cX5_find 74 = .ok (.putfield 31, 3) := by decide +kernel
theorem dX5_find_77 : decode cX5_find 77 = .ok (.iinc 3 1, 3) := by decide +kernel
theorem dX5_find_80 : decode cX5_find 80 = .ok (.goto (-68), 3) := by decide +kernel
theorem dX5_find_83 : decode cX5_find 83 = .ok (.iconst 0, 1) := by decide +kernel
theorem dX5_find_84 : decode cX5_find 84 = .ok (.istore_n 3, 1) := by decide +kernel
theorem dX5_find_85 : decode cX5_find 85 = .ok (.iload_n 3, 1) := by decide +kernel
theorem dX5_find_86 : decode cX5_find 86 = .ok (.iconst 5, 1) := by decide +kernel
theorem dX5_find_87 : decode cX5_find 87 = .ok (.if_icmp .ge 16, 3) := by decide +kernel
theorem dX5_find_90 : decode cX5_find 90 = .ok (.aload_n 0, 1) := by decide +kernel
theorem dX5_find_91 : decode cX5_find 91 = .ok (.getfield 24, 3) := by decide +kernel
theorem dX5_find_94 : decode cX5_find 94 = .ok (.iload_n 3, 1) := by decide +kernel
theorem dX5_find_95 : decode cX5_find 95 = .ok (.iconst 0, 1) := by decide +kernel
theorem dX5_find_96 : decode cX5_find 96 = .ok (.iastore, 1) := by decide +kernel
theorem dX5_find_97 : decode cX5_find 97 = .ok (.iinc 3 1, 3) := by decide +kernel
theorem dX5_find_100 : decode cX5_find 100 = .ok (.goto (-15), 3) := by decide +kernel
theorem dX5_find_103 : decode cX5_find 103 = .ok (.aload_n 0, 1) := by decide +kernel
theorem dX5_find_104 : decode cX5_find 104 = .ok (.sipush 321, 3) := by decide +kernel
theorem dX5_find_107 : decode cX5_find 107 = .ok (.putfield 43, 3) := by decide +kernel
theorem dX5_find_110 : decode cX5_find 110 = .ok (.aload_n 0, 1) := by decide +kernel
theorem dX5_find_111 : decode cX5_find 111 = .ok (.iconst 0, 1) := by decide +kernel
theorem dX5_find_112 : decode cX5_find 112 = .ok (.iconst 0, 1) := by decide +kernel
theorem dX5_find_113 : decode cX5_find 113 = .ok (.invokestatic 46, 3) := by decide +kernel
theorem dX5_find_116 : decode cX5_find 116 = .ok (.return_, 1) := by decide +kernel
def f_Z_find_85 (N nx : Nat) (P : Ft) (a0 : Nat) (rec85 : Dt → Int32 → Option Dt) (D : Dt) (i3 : Int32) : Option Dt :=
  if 5 ≤ i3 then
    pas (upd2 D a0 7 321) fun D3 =>
    (f_Z_tryFrom N nx 24 D3 P a0 0 0).bind fun z4 =>
    some z4
  else
    nn (P a0 4) fun q5 =>
    if ab nx q5 3 i3 = true then
    pas (upd2 D q5 i3.toNatClampNeg 0) fun D6 =>
    rec85 D6 (i3 + 1)
    else none
def f_Z_find_12 (N nx : Nat) (P : Ft) (a0 : Nat) (a1 : Nat) (rec12 : Dt → Int32 → Option Dt) (D : Dt) (i3 : Int32) : Option Dt :=
  if 8 ≤ i3 then
    wk2 N (f_Z_find_85 N nx P a0) D 0
  else
    nn (P a0 3) fun q8 =>
    if ab nx q8 3 i3 = true then
    pas (upd2 D q8 i3.toNatClampNeg (-4)) fun D9 =>
    if kd nx a1 = 7 then
    (f_C_whereIs N nx D9 P a1 i3).bind fun z10 =>
    if z10 < 0 then
      rec12 D9 (i3 + 1)
    else
      if 8 ≤ D9 a0 5 then
        rec12 D9 (i3 + 1)
      else
        nn (P a0 0) fun q12 =>
        if ab nx q12 3 (D9 a0 5) = true then
        pas (upd2 D9 q12 (D9 a0 5).toNatClampNeg i3) fun D13 =>
        nn (P a0 1) fun q14 =>
        (f_C_largeOf N nx D13 P a1 i3).bind fun z15 =>
        if ab nx q14 3 (D13 a0 5) = true then
        pas (upd2 D13 q14 (D13 a0 5).toNatClampNeg z15) fun D16 =>
        pas (upd2 D16 a0 5 ((D16 a0 5) + 1)) fun D17 =>
        rec12 D17 (i3 + 1)
        else none
        else none
    else none
    else none
def f_Z_find (N nx : Nat) (D : Dt) (P : Ft) (a0 : Nat) (a1 : Nat) (i2 : Int32) : Option Dt :=
  if kd nx a0 = 5 then
  pas (upd2 D a0 6 i2) fun D1 =>
  pas (upd2 D1 a0 5 0) fun D2 =>
  wk2 N (f_Z_find_12 N nx P a0 a1) D2 0
  else none
theorem m_Z_find : MV yX5_find cX5_find 4 none 2 := ⟨mT 694 (by decide +kernel) rfl, mT 692 (by decide +kernel) rfl, mT 693 (by decide +kernel) rfl, mT 62 (by decide +kernel) rfl, by decide +kernel, by decide +kernel, by decide +kernel⟩
set_option maxHeartbeats 4000000 in
set_option maxRecDepth 100000 in
theorem c_Z_find (l : Launch) (cx : Cx) (nx N : Nat) (D : Dt) (P : Ft) (a0 : Nat) (a1 : Nat) (i2 : Int32) (z : Dt) (h : f_Z_find N nx D P a0 a1 i2 = some z) : Ct l cx yX5_find cX5_find 4 none 32 [.ref (cx.2.2 + a0), .ref (cx.2.2 + a1), .int i2] D P nx none z P := by
  refine x_met0 (by decide) (Nat.le_of_ble_eq_true rfl) ?_
  intro p e s m args below meth c X
  have X : XC p s m args meth c cx cX5_find 4 none "HeartPins$Sharing" "find" := X
  refine XW.sub (lv' := [(0, .ref (cx.2.2 + a0)), (1, .ref (cx.2.2 + a1)), (2, .int i2)]) [0, 1, 2] rfl ?_
  unfold f_Z_find at h
  obtain ⟨hk0, h⟩ := grd h
  have hL85 : ∀ (n : Nat) (D : Dt) (i3 : Int32), wk2 n (f_Z_find_85 N nx P a0) D i3 = some z → XW p l e (rmk 32) s m args below meth c (MQ below (Qx cx none z P nx) args s 0 0 (AA cx)) cx 4 D P nx 0 0 85 [(0, .ref (cx.2.2 + a0)), (3, .int i3)] [] := by
    intro n
    induction n with
    | zero => intro D i3 h; exact (nonz h).elim
    | succ n ih85 =>
      intro D i3 h
      have h : f_Z_find_85 N nx P a0 (wk2 n (f_Z_find_85 N nx P a0)) D i3 = some z := h
      generalize wk2 n (f_Z_find_85 N nx P a0) = rec85 at ih85 h
      unfold f_Z_find_85 at h
      refine x_iload_n (pc := 85) X dX5_find_85 (i := 3) rfl 1 rfl ?_
      refine x_iconst (v := 5) (pc := 86) X dX5_find_86 (by decide) ?_
      refine x_icmp_ge (tgt := 103) (pc := 87) X dX5_find_87 (by decide) (fun c7 => ?_) (fun c7 => ?_)
      · have h := ite_t c7 h
        refine x_aload_n (pc := 103) X dX5_find_103 (i := 0) rfl 0 rfl ?_
        refine x_sipush (v := 321) (pc := 104) X dX5_find_104 (by decide) ?_
        obtain ⟨D3, w3, h⟩ := pass h
        refine x_puti (ci := 5) (k := 7) (n := 8) (C := RX5) (T := TX5) (D' := D3) (pc := 107) X dX5_find_107 hk0 rfl (by decide) w_252 rfl (by decide +kernel) rfl w3 ?_
        refine x_aload_n (pc := 110) X dX5_find_110 (i := 0) rfl 0 rfl ?_
        refine x_iconst (v := 0) (pc := 111) X dX5_find_111 (by decide) ?_
        refine x_iconst (v := 0) (pc := 112) X dX5_find_112 (by decide) ?_
        obtain ⟨z4, e4, h⟩ := bnds h
        refine x_callS (pc := 113) (As := [.ref (cx.2.2 + a0), .int 0, .int 0]) (st := []) (st' := []) X (c_Z_tryFrom l cx nx N 24 D3 P _ _ _ z4 e4) dX5_find_113 w_697 m_Z_tryFrom rfl ⟨by decide, by decide⟩ ⟨Nat.zero_le _, Nat.zero_le _⟩ rfl (Nat.le_of_ble_eq_true rfl) rfl ?_
        obtain rfl := Option.some.inj h
        exact x_vret (pc := 116) X dX5_find_116
      · have h := ite_f c7 h
        refine x_aload_n (pc := 90) X dX5_find_90 (i := 0) rfl 0 rfl ?_
        obtain ⟨q5, e5, h⟩ := nns h
        refine x_getr (ci := 5) (k := 4) (n := 8) (C := RX5) (T := TX5) (pc := 91) X dX5_find_91 hk0 rfl (by decide) w_249 rfl e5 ?_
        refine x_iload_n (pc := 94) X dX5_find_94 (i := 3) rfl 1 rfl ?_
        refine x_iconst (v := 0) (pc := 95) X dX5_find_95 (by decide) ?_
        obtain ⟨g6, h⟩ := grd h
        obtain ⟨D6, w6, h⟩ := pass h
        refine x_iast (D' := D6) (pc := 96) X dX5_find_96 g6 w6 ?_
        refine x_iinc (v := i3 + 1) (lv' := [(3, .int (i3 + 1)), (0, .ref (cx.2.2 + a0))]) (pc := 97) X dX5_find_97 1 rfl rfl (by decide) rfl ?_
        refine x_goto (tgt := 85) (pc := 100) X dX5_find_100 (by decide) ?_
        exact XW.sub [1, 0] rfl (ih85 _ _ h)
  have hL12 : ∀ (n : Nat) (D : Dt) (i3 : Int32), wk2 n (f_Z_find_12 N nx P a0 a1) D i3 = some z → XW p l e (rmk 32) s m args below meth c (MQ below (Qx cx none z P nx) args s 0 0 (AA cx)) cx 4 D P nx 0 0 12 [(0, .ref (cx.2.2 + a0)), (1, .ref (cx.2.2 + a1)), (3, .int i3)] [] := by
    intro n
    induction n with
    | zero => intro D i3 h; exact (nonz h).elim
    | succ n ih12 =>
      intro D i3 h
      have h : f_Z_find_12 N nx P a0 a1 (wk2 n (f_Z_find_12 N nx P a0 a1)) D i3 = some z := h
      generalize wk2 n (f_Z_find_12 N nx P a0 a1) = rec12 at ih12 h
      unfold f_Z_find_12 at h
      refine x_iload_n (pc := 12) X dX5_find_12 (i := 3) rfl 2 rfl ?_
      refine x_bipush (v := 8) (pc := 13) X dX5_find_13 (by decide) ?_
      refine x_icmp_ge (tgt := 83) (pc := 15) X dX5_find_15 (by decide) (fun c20 => ?_) (fun c20 => ?_)
      · have h := ite_t c20 h
        refine x_iconst (v := 0) (pc := 83) X dX5_find_83 (by decide) ?_
        refine x_istore_n (lv' := [(3, .int 0), (0, .ref (cx.2.2 + a0)), (1, .ref (cx.2.2 + a1))]) (pc := 84) X dX5_find_84 (i := 3) rfl (by decide) rfl ?_
        exact XW.sub [1, 0] rfl (hL85 _ _ _ h)
      · have h := ite_f c20 h
        refine x_aload_n (pc := 18) X dX5_find_18 (i := 0) rfl 0 rfl ?_
        obtain ⟨q8, e8, h⟩ := nns h
        refine x_getr (ci := 5) (k := 3) (n := 8) (C := RX5) (T := TX5) (pc := 19) X dX5_find_19 hk0 rfl (by decide) w_248 rfl e8 ?_
        refine x_iload_n (pc := 22) X dX5_find_22 (i := 3) rfl 2 rfl ?_
        refine x_bipush (v := (-4)) (pc := 23) X dX5_find_23 (by decide) ?_
        obtain ⟨g9, h⟩ := grd h
        obtain ⟨D9, w9, h⟩ := pass h
        refine x_iast (D' := D9) (pc := 25) X dX5_find_25 g9 w9 ?_
        refine x_aload_n (pc := 26) X dX5_find_26 (i := 1) rfl 1 rfl ?_
        refine x_iload_n (pc := 27) X dX5_find_27 (i := 3) rfl 2 rfl ?_
        obtain ⟨k11, h⟩ := grd h
        obtain ⟨z10, e10, h⟩ := bnds h
        refine x_callV (pc := 28) (As := [.int i3]) (st := []) (st' := [.int z10]) X (c_C_whereIs l cx nx N D9 P _ _ z10 e10) dX5_find_28 w_695 m_C_whereIs rfl k11 (ci := 7) rfl rfl ⟨by decide, by decide⟩ ⟨Nat.zero_le _, Nat.zero_le _⟩ rfl (Nat.le_of_ble_eq_true rfl) rfl ?_
        refine x_if_lt (tgt := 77) (pc := 31) X dX5_find_31 (by decide) (fun c19 => ?_) (fun c19 => ?_)
        · have h := ite_t c19 h
          refine x_iinc (v := i3 + 1) (lv' := [(3, .int (i3 + 1)), (0, .ref (cx.2.2 + a0)), (1, .ref (cx.2.2 + a1))]) (pc := 77) X dX5_find_77 2 rfl rfl (by decide) rfl ?_
          refine x_goto (tgt := 12) (pc := 80) X dX5_find_80 (by decide) ?_
          exact XW.sub [1, 2, 0] rfl (ih12 _ _ h)
        · have h := ite_f c19 h
          refine x_aload_n (pc := 34) X dX5_find_34 (i := 0) rfl 0 rfl ?_
          refine x_geti (ci := 5) (k := 5) (n := 8) (C := RX5) (T := TX5) (pc := 35) X dX5_find_35 hk0 rfl (by decide) w_250 rfl ?_
          refine x_bipush (v := 8) (pc := 38) X dX5_find_38 (by decide) ?_
          refine x_icmp_ge (tgt := 77) (pc := 40) X dX5_find_40 (by decide) (fun c18 => ?_) (fun c18 => ?_)
          · have h := ite_t c18 h
            refine x_iinc (v := i3 + 1) (lv' := [(3, .int (i3 + 1)), (0, .ref (cx.2.2 + a0)), (1, .ref (cx.2.2 + a1))]) (pc := 77) X dX5_find_77 2 rfl rfl (by decide) rfl ?_
            refine x_goto (tgt := 12) (pc := 80) X dX5_find_80 (by decide) ?_
            exact XW.sub [1, 2, 0] rfl (ih12 _ _ h)
          · have h := ite_f c18 h
            refine x_aload_n (pc := 43) X dX5_find_43 (i := 0) rfl 0 rfl ?_
            obtain ⟨q12, e12, h⟩ := nns h
            refine x_getr (ci := 5) (k := 0) (n := 8) (C := RX5) (T := TX5) (pc := 44) X dX5_find_44 hk0 rfl (by decide) w_245 rfl e12 ?_
            refine x_aload_n (pc := 47) X dX5_find_47 (i := 0) rfl 0 rfl ?_
            refine x_geti (ci := 5) (k := 5) (n := 8) (C := RX5) (T := TX5) (pc := 48) X dX5_find_48 hk0 rfl (by decide) w_250 rfl ?_
            refine x_iload_n (pc := 51) X dX5_find_51 (i := 3) rfl 2 rfl ?_
            obtain ⟨g13, h⟩ := grd h
            obtain ⟨D13, w13, h⟩ := pass h
            refine x_iast (D' := D13) (pc := 52) X dX5_find_52 g13 w13 ?_
            refine x_aload_n (pc := 53) X dX5_find_53 (i := 0) rfl 0 rfl ?_
            obtain ⟨q14, e14, h⟩ := nns h
            refine x_getr (ci := 5) (k := 1) (n := 8) (C := RX5) (T := TX5) (pc := 54) X dX5_find_54 hk0 rfl (by decide) w_246 rfl e14 ?_
            refine x_aload_n (pc := 57) X dX5_find_57 (i := 0) rfl 0 rfl ?_
            refine x_geti (ci := 5) (k := 5) (n := 8) (C := RX5) (T := TX5) (pc := 58) X dX5_find_58 hk0 rfl (by decide) w_250 rfl ?_
            refine x_aload_n (pc := 61) X dX5_find_61 (i := 1) rfl 1 rfl ?_
            refine x_iload_n (pc := 62) X dX5_find_62 (i := 3) rfl 2 rfl ?_
            obtain ⟨z15, e15, h⟩ := bnds h
            refine x_callV (pc := 63) (As := [.int i3]) (st := [.int (D13 a0 5), .ref (cx.2.2 + q14)]) (st' := [.int z15, .int (D13 a0 5), .ref (cx.2.2 + q14)]) X (c_C_largeOf l cx nx N D13 P _ _ z15 e15) dX5_find_63 w_696 m_C_largeOf rfl k11 (ci := 7) rfl rfl ⟨by decide, by decide⟩ ⟨Nat.zero_le _, Nat.zero_le _⟩ rfl (Nat.le_of_ble_eq_true rfl) rfl ?_
            obtain ⟨g16, h⟩ := grd h
            obtain ⟨D16, w16, h⟩ := pass h
            refine x_iast (D' := D16) (pc := 66) X dX5_find_66 g16 w16 ?_
            refine x_aload_n (pc := 67) X dX5_find_67 (i := 0) rfl 0 rfl ?_
            refine x_dup (pc := 68) X dX5_find_68 rfl ?_
            refine x_geti (ci := 5) (k := 5) (n := 8) (C := RX5) (T := TX5) (pc := 69) X dX5_find_69 hk0 rfl (by decide) w_250 rfl ?_
            refine x_iconst (v := 1) (pc := 72) X dX5_find_72 (by decide) ?_
            refine x_iadd (pc := 73) X dX5_find_73 ?_
            obtain ⟨D17, w17, h⟩ := pass h
            refine x_puti (ci := 5) (k := 5) (n := 8) (C := RX5) (T := TX5) (D' := D17) (pc := 74) X dX5_find_74 hk0 rfl (by decide) w_250 rfl (by decide +kernel) rfl w17 ?_
            refine x_iinc (v := i3 + 1) (lv' := [(3, .int (i3 + 1)), (0, .ref (cx.2.2 + a0)), (1, .ref (cx.2.2 + a1))]) (pc := 77) X dX5_find_77 2 rfl rfl (by decide) rfl ?_
            refine x_goto (tgt := 12) (pc := 80) X dX5_find_80 (by decide) ?_
            exact XW.sub [1, 2, 0] rfl (ih12 _ _ h)
  refine x_aload_n (pc := 0) X dX5_find_0 (i := 0) rfl 0 rfl ?_
  refine x_iload_n (pc := 1) X dX5_find_1 (i := 2) rfl 2 rfl ?_
  obtain ⟨D1, w1, h⟩ := pass h
  refine x_puti (ci := 5) (k := 6) (n := 8) (C := RX5) (T := TX5) (D' := D1) (pc := 2) X dX5_find_2 hk0 rfl (by decide) w_251 rfl (by decide +kernel) rfl w1 ?_
  refine x_aload_n (pc := 5) X dX5_find_5 (i := 0) rfl 0 rfl ?_
  refine x_iconst (v := 0) (pc := 6) X dX5_find_6 (by decide) ?_
  obtain ⟨D2, w2, h⟩ := pass h
  refine x_puti (ci := 5) (k := 5) (n := 8) (C := RX5) (T := TX5) (D' := D2) (pc := 7) X dX5_find_7 hk0 rfl (by decide) w_250 rfl (by decide +kernel) rfl w2 ?_
  refine x_iconst (v := 0) (pc := 10) X dX5_find_10 (by decide) ?_
  refine x_istore_n (lv' := [(3, .int 0), (0, .ref (cx.2.2 + a0)), (1, .ref (cx.2.2 + a1)), (2, .int i2)]) (pc := 11) X dX5_find_11 (i := 3) rfl (by decide) rfl ?_
  exact XW.sub [1, 2, 0] rfl (hL12 _ _ _ h)
theorem dX5_bearerOf_0 : decode cX5_bearerOf 0 = .ok (.iload_n 1, 1) := by decide +kernel
theorem dX5_bearerOf_1 : decode cX5_bearerOf 1 = .ok (.ifCond .lt 18, 3) := by decide +kernel
theorem dX5_bearerOf_4 : decode cX5_bearerOf 4 = .ok (.iload_n 1, 1) := by decide +kernel
theorem dX5_bearerOf_5 : decode cX5_bearerOf 5 = .ok (.bipush 8, 2) := by decide +kernel
theorem dX5_bearerOf_7 : decode cX5_bearerOf 7 = .ok (.if_icmp .ge 12, 3) := by decide +kernel
theorem dX5_bearerOf_10 : decode cX5_bearerOf 10 = .ok (.aload_n 0, 1) := by decide +kernel
theorem dX5_bearerOf_11 : decode cX5_bearerOf 11 = .ok (.getfield 21, 3) := by decide +kernel
theorem dX5_bearerOf_14 : decode cX5_bearerOf 14 = .ok (.iload_n 1, 1) := by decide +kernel
theorem dX5_bearerOf_15 : decode cX5_bearerOf 15 = .ok (.iaload, 1) := by decide +kernel
theorem dX5_bearerOf_16 : decode cX5_bearerOf 16 = .ok (.goto 5, 3) := by decide +kernel
theorem dX5_bearerOf_19 : decode cX5_bearerOf 19 = .ok (.bipush (-4), 2) := by decide +kernel
theorem dX5_bearerOf_21 : decode cX5_bearerOf 21 = .ok (.ireturn, 1) := by decide +kernel
def f_Z_bearerOf (N nx : Nat) (D : Dt) (P : Ft) (a0 : Nat) (i1 : Int32) : Option Int32 :=
  if kd nx a0 = 5 then
  if i1 < 0 then
    some (-4)
  else
    if 8 ≤ i1 then
      some (-4)
    else
      nn (P a0 3) fun q1 =>
      if ab nx q1 3 i1 = true then
      some (D q1 i1.toNatClampNeg)
      else none
  else none
theorem m_Z_bearerOf : MV yX5_bearerOf cX5_bearerOf 2 (some .int) 1 := ⟨mT 712 (by decide +kernel) rfl, mT 710 (by decide +kernel) rfl, mT 711 (by decide +kernel) rfl, mT 62 (by decide +kernel) rfl, by decide +kernel, by decide +kernel, by decide +kernel⟩
set_option maxHeartbeats 4000000 in
set_option maxRecDepth 100000 in
theorem c_Z_bearerOf (l : Launch) (cx : Cx) (nx N : Nat) (D : Dt) (P : Ft) (a0 : Nat) (i1 : Int32) (z : Int32) (h : f_Z_bearerOf N nx D P a0 i1 = some z) : Ct l cx yX5_bearerOf cX5_bearerOf 2 (some .int) 0 [.ref (cx.2.2 + a0), .int i1] D P nx (some (.int z)) D P := by
  refine x_met0 (by decide) (Nat.le_of_ble_eq_true rfl) ?_
  intro p e s m args below meth c X
  have X : XC p s m args meth c cx cX5_bearerOf 2 (some .int) "HeartPins$Sharing" "bearerOf" := X
  refine XW.sub (lv' := [(0, .ref (cx.2.2 + a0)), (1, .int i1)]) [0, 1] rfl ?_
  unfold f_Z_bearerOf at h
  obtain ⟨hk0, h⟩ := grd h
  refine x_iload_n (pc := 0) X dX5_bearerOf_0 (i := 1) rfl 1 rfl ?_
  refine x_if_lt (tgt := 19) (pc := 1) X dX5_bearerOf_1 (by decide) (fun c4 => ?_) (fun c4 => ?_)
  · have h := ite_t c4 h
    refine x_bipush (v := (-4)) (pc := 19) X dX5_bearerOf_19 (by decide) ?_
    obtain rfl := Option.some.inj h
    exact x_iret (pc := 21) X dX5_bearerOf_21
  · have h := ite_f c4 h
    refine x_iload_n (pc := 4) X dX5_bearerOf_4 (i := 1) rfl 1 rfl ?_
    refine x_bipush (v := 8) (pc := 5) X dX5_bearerOf_5 (by decide) ?_
    refine x_icmp_ge (tgt := 19) (pc := 7) X dX5_bearerOf_7 (by decide) (fun c3 => ?_) (fun c3 => ?_)
    · have h := ite_t c3 h
      refine x_bipush (v := (-4)) (pc := 19) X dX5_bearerOf_19 (by decide) ?_
      obtain rfl := Option.some.inj h
      exact x_iret (pc := 21) X dX5_bearerOf_21
    · have h := ite_f c3 h
      refine x_aload_n (pc := 10) X dX5_bearerOf_10 (i := 0) rfl 0 rfl ?_
      obtain ⟨q1, e1, h⟩ := nns h
      refine x_getr (ci := 5) (k := 3) (n := 8) (C := RX5) (T := TX5) (pc := 11) X dX5_bearerOf_11 hk0 rfl (by decide) w_248 rfl e1 ?_
      refine x_iload_n (pc := 14) X dX5_bearerOf_14 (i := 1) rfl 1 rfl ?_
      obtain ⟨g2, h⟩ := grd h
      refine x_iald (pc := 15) X dX5_bearerOf_15 g2 ?_
      refine x_goto (tgt := 21) (pc := 16) X dX5_bearerOf_16 (by decide) ?_
      obtain rfl := Option.some.inj h
      exact x_iret (pc := 21) X dX5_bearerOf_21
