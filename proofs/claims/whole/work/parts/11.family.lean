theorem w_106 : Cond.fieldLink "HeartPins$Family" 9 "HeartPins$Family" "bearable" "[I" ∈ wT := mT 106 (by decide +kernel) rfl
theorem w_107 : Cond.fieldLink "HeartPins$Family" 15 "HeartPins$Family" "owner" "[I" ∈ wT := mT 107 (by decide +kernel) rfl
theorem w_109 : Cond.fieldLink "HeartPins$Family" 18 "HeartPins$Family" "kind" "[I" ∈ wT := mT 109 (by decide +kernel) rfl
theorem w_110 : Cond.fieldLink "HeartPins$Family" 21 "HeartPins$Family" "told" "[I" ∈ wT := mT 110 (by decide +kernel) rfl
theorem w_112 : Cond.fieldLink "HeartPins$Family" 24 "HeartPins$Family" "persons" "I" ∈ wT := mT 112 (by decide +kernel) rfl
theorem w_115 : Cond.fieldLink "HeartPins$Family" 28 "HeartPins$Family" "pins" "I" ∈ wT := mT 115 (by decide +kernel) rfl
theorem w_117 : Cond.fieldLink "HeartPins$Family" 31 "HeartPins$Family" "room" "I" ∈ wT := mT 117 (by decide +kernel) rfl
theorem w_120 : Cond.fieldLink "HeartPins$Family" 34 "HeartPins$Family" "doorway" "I" ∈ wT := mT 120 (by decide +kernel) rfl
theorem w_123 : Cond.fieldLink "HeartPins$Family" 37 "HeartPins$Family" "rhythm" "I" ∈ wT := mT 123 (by decide +kernel) rfl
theorem w_389 : Cond.methodLink "HeartPins$Family" 44 ⟨"HeartPins$Family", "hasPerson", "(I)Z"⟩ ∈ wT := mT 389 (by decide +kernel) rfl
theorem dX1_clear_0 : decode cX1_clear 0 = .ok (.aload_n 0, 1) := by decide +kernel
theorem dX1_clear_1 : decode cX1_clear 1 = .ok (.iconst 0, 1) := by decide +kernel
theorem dX1_clear_2 : decode cX1_clear 2 = .ok (.putfield 24, 3) := by decide +kernel
theorem dX1_clear_5 : decode cX1_clear 5 = .ok (.aload_n 0, 1) := by decide +kernel
theorem dX1_clear_6 : decode cX1_clear 6 = .ok (.iconst 0, 1) := by decide +kernel
theorem dX1_clear_7 : decode cX1_clear 7 = .ok (.putfield 28, 3) := by decide +kernel
theorem dX1_clear_10 : decode cX1_clear 10 = .ok (.aload_n 0, 1) := by decide +kernel
theorem dX1_clear_11 : decode cX1_clear 11 = .ok (.bipush 12, 2) := by decide +kernel
theorem dX1_clear_13 : decode cX1_clear 13 = .ok (.putfield 31, 3) := by decide +kernel
theorem dX1_clear_16 : decode cX1_clear 16 = .ok (.aload_n 0, 1) := by decide +kernel
theorem dX1_clear_17 : decode cX1_clear 17 = .ok (.iconst 5, 1) := by decide +kernel
theorem dX1_clear_18 : decode cX1_clear 18 = .ok (.putfield 34, 3) := by decide +kernel
theorem dX1_clear_21 : decode cX1_clear 21 = .ok (.aload_n 0, 1) := by decide +kernel
theorem dX1_clear_22 : decode cX1_clear 22 = .ok (.bipush 14, 2) := by decide +kernel
theorem dX1_clear_24 : decode cX1_clear 24 = .ok (.putfield 37, 3) := by decide +kernel
theorem dX1_clear_27 : decode cX1_clear 27 = .ok (.return_, 1) := by decide +kernel
def f_F_clear (N nx : Nat) (D : Dt) (P : Ft) (a0 : Nat) : Option Dt :=
  if kd nx a0 = 1 then
  pas (upd2 D a0 4 0) fun D1 =>
  pas (upd2 D1 a0 5 0) fun D2 =>
  pas (upd2 D2 a0 6 12) fun D3 =>
  pas (upd2 D3 a0 7 5) fun D4 =>
  pas (upd2 D4 a0 8 14) fun D5 =>
  some D5
  else none
theorem m_F_clear : MV yX1_clear cX1_clear 1 none 0 := ⟨mT 359 (by decide +kernel) rfl, mT 357 (by decide +kernel) rfl, mT 358 (by decide +kernel) rfl, mT 56 (by decide +kernel) rfl, by decide +kernel, by decide +kernel, by decide +kernel⟩
set_option maxHeartbeats 4000000 in
set_option maxRecDepth 100000 in
theorem c_F_clear (l : Launch) (cx : Cx) (nx N : Nat) (D : Dt) (P : Ft) (a0 : Nat) (z : Dt) (h : f_F_clear N nx D P a0 = some z) : Ct l cx yX1_clear cX1_clear 1 none 0 [.ref (cx.2.2 + a0)] D P nx none z P := by
  refine x_met0 (by decide) (Nat.le_of_ble_eq_true rfl) ?_
  intro p e s m args below meth c X
  have X : XC p s m args meth c cx cX1_clear 1 none "HeartPins$Family" "clear" := X
  refine XW.sub (lv' := [(0, .ref (cx.2.2 + a0))]) [0] rfl ?_
  unfold f_F_clear at h
  obtain ⟨hk0, h⟩ := grd h
  refine x_aload_n (pc := 0) X dX1_clear_0 (i := 0) rfl 0 rfl ?_
  refine x_iconst (v := 0) (pc := 1) X dX1_clear_1 (by decide) ?_
  obtain ⟨D1, w1, h⟩ := pass h
  refine x_puti (ci := 1) (k := 4) (n := 9) (C := RX1) (T := TX1) (D' := D1) (pc := 2) X dX1_clear_2 hk0 rfl (by decide) w_112 rfl (by decide +kernel) rfl w1 ?_
  refine x_aload_n (pc := 5) X dX1_clear_5 (i := 0) rfl 0 rfl ?_
  refine x_iconst (v := 0) (pc := 6) X dX1_clear_6 (by decide) ?_
  obtain ⟨D2, w2, h⟩ := pass h
  refine x_puti (ci := 1) (k := 5) (n := 9) (C := RX1) (T := TX1) (D' := D2) (pc := 7) X dX1_clear_7 hk0 rfl (by decide) w_115 rfl (by decide +kernel) rfl w2 ?_
  refine x_aload_n (pc := 10) X dX1_clear_10 (i := 0) rfl 0 rfl ?_
  refine x_bipush (v := 12) (pc := 11) X dX1_clear_11 (by decide) ?_
  obtain ⟨D3, w3, h⟩ := pass h
  refine x_puti (ci := 1) (k := 6) (n := 9) (C := RX1) (T := TX1) (D' := D3) (pc := 13) X dX1_clear_13 hk0 rfl (by decide) w_117 rfl (by decide +kernel) rfl w3 ?_
  refine x_aload_n (pc := 16) X dX1_clear_16 (i := 0) rfl 0 rfl ?_
  refine x_iconst (v := 5) (pc := 17) X dX1_clear_17 (by decide) ?_
  obtain ⟨D4, w4, h⟩ := pass h
  refine x_puti (ci := 1) (k := 7) (n := 9) (C := RX1) (T := TX1) (D' := D4) (pc := 18) X dX1_clear_18 hk0 rfl (by decide) w_120 rfl (by decide +kernel) rfl w4 ?_
  refine x_aload_n (pc := 21) X dX1_clear_21 (i := 0) rfl 0 rfl ?_
  refine x_bipush (v := 14) (pc := 22) X dX1_clear_22 (by decide) ?_
  obtain ⟨D5, w5, h⟩ := pass h
  refine x_puti (ci := 1) (k := 8) (n := 9) (C := RX1) (T := TX1) (D' := D5) (pc := 24) X dX1_clear_24 hk0 rfl (by decide) w_123 rfl (by decide +kernel) rfl w5 ?_
  obtain rfl := Option.some.inj h
  exact x_vret (pc := 27) X dX1_clear_27
theorem dX1_copyFrom_0 : decode cX1_copyFrom 0 = .ok (.aload_n 0, 1) := by decide +kernel
theorem dX1_copyFrom_1 : decode cX1_copyFrom 1 = .ok (.aload_n 1, 1) := by decide +kernel
theorem dX1_copyFrom_2 : decode cX1_copyFrom 2 = .ok (.getfield 24, 3) := by decide +kernel
theorem dX1_copyFrom_5 : decode cX1_copyFrom 5 = .ok (.putfield 24, 3) := by decide +kernel
theorem dX1_copyFrom_8 : decode cX1_copyFrom 8 = .ok (.aload_n 0, 1) := by decide +kernel
theorem dX1_copyFrom_9 : decode cX1_copyFrom 9 = .ok (.aload_n 1, 1) := by decide +kernel
theorem dX1_copyFrom_10 : decode cX1_copyFrom 10 = .ok (.getfield 28, 3) := by decide +kernel
theorem dX1_copyFrom_13 : decode cX1_copyFrom 13 = .ok (.putfield 28, 3) := by decide +kernel
theorem dX1_copyFrom_16 : decode cX1_copyFrom 16 = .ok (.aload_n 0, 1) := by decide +kernel
theorem dX1_copyFrom_17 : decode cX1_copyFrom 17 = .ok (.aload_n 1, 1) := by decide +kernel
theorem dX1_copyFrom_18 : decode cX1_copyFrom 18 = .ok (.getfield 31, 3) := by decide +kernel
theorem dX1_copyFrom_21 : decode cX1_copyFrom 21 = .ok (.putfield 31, 3) := by decide +kernel
theorem dX1_copyFrom_24 : decode cX1_copyFrom 24 = .ok (.aload_n 0, 1) := by decide +kernel
theorem dX1_copyFrom_25 : decode cX1_copyFrom 25 = .ok (.aload_n 1, 1) := by decide +kernel
theorem dX1_copyFrom_26 : decode cX1_copyFrom 26 = .ok (.getfield 34, 3) := by decide +kernel
theorem dX1_copyFrom_29 : decode cX1_copyFrom 29 = .ok (.putfield 34, 3) := by decide +kernel
theorem dX1_copyFrom_32 : decode cX1_copyFrom 32 = .ok (.aload_n 0, 1) := by decide +kernel
theorem dX1_copyFrom_33 : decode cX1_copyFrom 33 = .ok (.aload_n 1, 1) := by decide +kernel
theorem dX1_copyFrom_34 : decode cX1_copyFrom 34 = .ok (.getfield 37, 3) := by decide +kernel
theorem dX1_copyFrom_37 : decode cX1_copyFrom 37 = .ok (.putfield 37, 3) := by decide +kernel
theorem dX1_copyFrom_40 : decode cX1_copyFrom 40 = .ok (.iconst 0, 1) := by decide +kernel
theorem dX1_copyFrom_41 : decode cX1_copyFrom 41 = .ok (.istore_n 2, 1) := by decide +kernel
theorem dX1_copyFrom_42 : decode cX1_copyFrom 42 = .ok (.iload_n 2, 1) := by decide +kernel
theorem dX1_copyFrom_43 : decode cX1_copyFrom 43 = .ok (.iconst 5, 1) := by decide +kernel
theorem dX1_copyFrom_44 : decode cX1_copyFrom 44 = .ok (.if_icmp .ge 21, 3) := by decide +kernel
theorem dX1_copyFrom_47 : decode cX1_copyFrom 47 = .ok (.aload_n 0, 1) := by decide +kernel
theorem dX1_copyFrom_48 : decode cX1_copyFrom 48 = .ok (.getfield 9, 3) := by decide +kernel
theorem dX1_copyFrom_51 : decode cX1_copyFrom 51 = .ok (.iload_n 2, 1) := by decide +kernel
theorem dX1_copyFrom_52 : decode cX1_copyFrom 52 = .ok (.aload_n 1, 1) := by decide +kernel
theorem dX1_copyFrom_53 : decode cX1_copyFrom 53 = .ok (.getfield 9, 3) := by decide +kernel
theorem dX1_copyFrom_56 : decode cX1_copyFrom 56 = .ok (.iload_n 2, 1) := by decide +kernel
theorem dX1_copyFrom_57 : decode cX1_copyFrom 57 = .ok (.iaload, 1) := by decide +kernel
theorem dX1_copyFrom_58 : decode cX1_copyFrom 58 = .ok (.iastore, 1) := by decide +kernel
theorem dX1_copyFrom_59 : decode cX1_copyFrom 59 = .ok (.iinc 2 1, 3) := by decide +kernel
theorem dX1_copyFrom_62 : decode cX1_copyFrom 62 = .ok (.goto (-20), 3) := by decide +kernel
theorem dX1_copyFrom_65 : decode cX1_copyFrom 65 = .ok (.iconst 0, 1) := by decide +kernel
theorem dX1_copyFrom_66 : decode cX1_copyFrom 66 = .ok (.istore_n 2, 1) := by decide +kernel
theorem dX1_copyFrom_67 : decode cX1_copyFrom 67 = .ok (.iload_n 2, 1) := by decide +kernel
theorem dX1_copyFrom_68 : decode cX1_copyFrom 68 = .ok (.bipush 8, 2) := by decide +kernel
theorem dX1_copyFrom_70 : decode cX1_copyFrom 70 = .ok (.if_icmp .ge 45, 3) := by decide +kernel
theorem dX1_copyFrom_73 : decode cX1_copyFrom 73 = .ok (.aload_n 0, 1) := by decide +kernel
theorem dX1_copyFrom_74 : decode cX1_copyFrom 74 = .ok (.getfield 15, 3) := by decide +kernel
theorem dX1_copyFrom_77 : decode cX1_copyFrom 77 = .ok (.iload_n 2, 1) := by decide +kernel
theorem dX1_copyFrom_78 : decode cX1_copyFrom 78 = .ok (.aload_n 1, 1) := by decide +kernel
theorem dX1_copyFrom_79 : decode cX1_copyFrom 79 = .ok (.getfield 15, 3) := by decide +kernel
theorem dX1_copyFrom_82 : decode cX1_copyFrom 82 = .ok (.iload_n 2, 1) := by decide +kernel
theorem dX1_copyFrom_83 : decode cX1_copyFrom 83 = .ok (.iaload, 1) := by decide +kernel
theorem dX1_copyFrom_84 : decode cX1_copyFrom 84 = .ok (.iastore, 1) := by decide +kernel
theorem dX1_copyFrom_85 : decode cX1_copyFrom 85 = .ok (.aload_n 0, 1) := by decide +kernel
theorem dX1_copyFrom_86 : decode cX1_copyFrom 86 = .ok (.getfield 18, 3) := by decide +kernel
theorem dX1_copyFrom_89 : decode cX1_copyFrom 89 = .ok (.iload_n 2, 1) := by decide +kernel
theorem dX1_copyFrom_90 : decode cX1_copyFrom 90 = .ok (.aload_n 1, 1) := by decide +kernel
theorem dX1_copyFrom_91 : decode cX1_copyFrom 91 = .ok (.getfield 18, 3) := by decide +kernel
theorem dX1_copyFrom_94 : decode cX1_copyFrom 94 = .ok (.iload_n 2, 1) := by decide +kernel
theorem dX1_copyFrom_95 : decode cX1_copyFrom 95 = .ok (.iaload, 1) := by decide +kernel
theorem dX1_copyFrom_96 : decode cX1_copyFrom 96 = .ok (.iastore, 1) := by decide +kernel
theorem dX1_copyFrom_97 : decode cX1_copyFrom 97 = .ok (.aload_n 0, 1) := by decide +kernel
theorem dX1_copyFrom_98 : decode cX1_copyFrom 98 = .ok (.getfield 21, 3) := by decide +kernel
theorem dX1_copyFrom_101 : decode cX1_copyFrom 101 = .ok (.iload_n 2, 1) := by decide +kernel
theorem dX1_copyFrom_102 : decode cX1_copyFrom 102 = .ok (.aload_n 1, 1) := by decide +kernel
theorem dX1_copyFrom_103 : decode cX1_copyFrom 103 = .ok (.getfield 21, 3) := by decide +kernel
theorem dX1_copyFrom_106 : decode cX1_copyFrom 106 = .ok (.iload_n 2, 1) := by decide +kernel
theorem dX1_copyFrom_107 : decode cX1_copyFrom 107 = .ok (.iaload, 1) := by decide +kernel
theorem dX1_copyFrom_108 : decode cX1_copyFrom 108 = .ok (.iastore, 1) := by decide +kernel
theorem dX1_copyFrom_109 : decode cX1_copyFrom 109 = .ok (.iinc 2 1, 3) := by decide +kernel
theorem dX1_copyFrom_112 : decode cX1_copyFrom 112 = .ok (.goto (-45), 3) := by decide +kernel
theorem dX1_copyFrom_115 : decode cX1_copyFrom 115 = .ok (.return_, 1) := by decide +kernel
def f_F_copyFrom_67 (N nx : Nat) (P : Ft) (a0 : Nat) (a1 : Nat) (rec67 : Dt → Int32 → Option Dt) (D : Dt) (i2 : Int32) : Option Dt :=
  if 8 ≤ i2 then
    some D
  else
    nn (P a0 1) fun q7 =>
    if kd nx a1 = 1 then
    nn (P a1 1) fun q9 =>
    if ab nx q9 3 i2 = true then
    if ab nx q7 3 i2 = true then
    pas (upd2 D q7 i2.toNatClampNeg (D q9 i2.toNatClampNeg)) fun D11 =>
    nn (P a0 2) fun q12 =>
    nn (P a1 2) fun q13 =>
    if ab nx q13 3 i2 = true then
    if ab nx q12 3 i2 = true then
    pas (upd2 D11 q12 i2.toNatClampNeg (D11 q13 i2.toNatClampNeg)) fun D15 =>
    nn (P a0 3) fun q16 =>
    nn (P a1 3) fun q17 =>
    if ab nx q17 3 i2 = true then
    if ab nx q16 3 i2 = true then
    pas (upd2 D15 q16 i2.toNatClampNeg (D15 q17 i2.toNatClampNeg)) fun D19 =>
    rec67 D19 (i2 + 1)
    else none
    else none
    else none
    else none
    else none
    else none
    else none
def f_F_copyFrom_42 (N nx : Nat) (P : Ft) (a0 : Nat) (a1 : Nat) (rec42 : Dt → Int32 → Option Dt) (D : Dt) (i2 : Int32) : Option Dt :=
  if 5 ≤ i2 then
    wk2 N (f_F_copyFrom_67 N nx P a0 a1) D 0
  else
    nn (P a0 0) fun q21 =>
    if kd nx a1 = 1 then
    nn (P a1 0) fun q23 =>
    if ab nx q23 3 i2 = true then
    if ab nx q21 3 i2 = true then
    pas (upd2 D q21 i2.toNatClampNeg (D q23 i2.toNatClampNeg)) fun D25 =>
    rec42 D25 (i2 + 1)
    else none
    else none
    else none
def f_F_copyFrom (N nx : Nat) (D : Dt) (P : Ft) (a0 : Nat) (a1 : Nat) : Option Dt :=
  if kd nx a0 = 1 then
  if kd nx a1 = 1 then
  pas (upd2 D a0 4 (D a1 4)) fun D2 =>
  pas (upd2 D2 a0 5 (D2 a1 5)) fun D3 =>
  pas (upd2 D3 a0 6 (D3 a1 6)) fun D4 =>
  pas (upd2 D4 a0 7 (D4 a1 7)) fun D5 =>
  pas (upd2 D5 a0 8 (D5 a1 8)) fun D6 =>
  wk2 N (f_F_copyFrom_42 N nx P a0 a1) D6 0
  else none
  else none
theorem m_F_copyFrom : MV yX1_copyFrom cX1_copyFrom 3 none 1 := ⟨mT 400 (by decide +kernel) rfl, mT 398 (by decide +kernel) rfl, mT 399 (by decide +kernel) rfl, mT 56 (by decide +kernel) rfl, by decide +kernel, by decide +kernel, by decide +kernel⟩
set_option maxHeartbeats 4000000 in
set_option maxRecDepth 100000 in
theorem c_F_copyFrom (l : Launch) (cx : Cx) (nx N : Nat) (D : Dt) (P : Ft) (a0 : Nat) (a1 : Nat) (z : Dt) (h : f_F_copyFrom N nx D P a0 a1 = some z) : Ct l cx yX1_copyFrom cX1_copyFrom 3 none 0 [.ref (cx.2.2 + a0), .ref (cx.2.2 + a1)] D P nx none z P := by
  refine x_met0 (by decide) (Nat.le_of_ble_eq_true rfl) ?_
  intro p e s m args below meth c X
  have X : XC p s m args meth c cx cX1_copyFrom 3 none "HeartPins$Family" "copyFrom" := X
  refine XW.sub (lv' := [(0, .ref (cx.2.2 + a0)), (1, .ref (cx.2.2 + a1))]) [0, 1] rfl ?_
  unfold f_F_copyFrom at h
  obtain ⟨hk0, h⟩ := grd h
  have hL67 : ∀ (n : Nat) (D : Dt) (i2 : Int32), wk2 n (f_F_copyFrom_67 N nx P a0 a1) D i2 = some z → XW p l e (rmk 0) s m args below meth c (MQ below (Qx cx none z P nx) args s 0 0 (AA cx)) cx 3 D P nx 0 0 67 [(0, .ref (cx.2.2 + a0)), (1, .ref (cx.2.2 + a1)), (2, .int i2)] [] := by
    intro n
    induction n with
    | zero => intro D i2 h; exact (nonz h).elim
    | succ n ih67 =>
      intro D i2 h
      have h : f_F_copyFrom_67 N nx P a0 a1 (wk2 n (f_F_copyFrom_67 N nx P a0 a1)) D i2 = some z := h
      generalize wk2 n (f_F_copyFrom_67 N nx P a0 a1) = rec67 at ih67 h
      unfold f_F_copyFrom_67 at h
      refine x_iload_n (pc := 67) X dX1_copyFrom_67 (i := 2) rfl 2 rfl ?_
      refine x_bipush (v := 8) (pc := 68) X dX1_copyFrom_68 (by decide) ?_
      refine x_icmp_ge (tgt := 115) (pc := 70) X dX1_copyFrom_70 (by decide) (fun c20 => ?_) (fun c20 => ?_)
      · have h := ite_t c20 h
        obtain rfl := Option.some.inj h
        exact x_vret (pc := 115) X dX1_copyFrom_115
      · have h := ite_f c20 h
        refine x_aload_n (pc := 73) X dX1_copyFrom_73 (i := 0) rfl 0 rfl ?_
        obtain ⟨q7, e7, h⟩ := nns h
        refine x_getr (ci := 1) (k := 1) (n := 9) (C := RX1) (T := TX1) (pc := 74) X dX1_copyFrom_74 hk0 rfl (by decide) w_107 rfl e7 ?_
        refine x_iload_n (pc := 77) X dX1_copyFrom_77 (i := 2) rfl 2 rfl ?_
        refine x_aload_n (pc := 78) X dX1_copyFrom_78 (i := 1) rfl 1 rfl ?_
        obtain ⟨k8, h⟩ := grd h
        obtain ⟨q9, e9, h⟩ := nns h
        refine x_getr (ci := 1) (k := 1) (n := 9) (C := RX1) (T := TX1) (pc := 79) X dX1_copyFrom_79 k8 rfl (by decide) w_107 rfl e9 ?_
        refine x_iload_n (pc := 82) X dX1_copyFrom_82 (i := 2) rfl 2 rfl ?_
        obtain ⟨g10, h⟩ := grd h
        refine x_iald (pc := 83) X dX1_copyFrom_83 g10 ?_
        obtain ⟨g11, h⟩ := grd h
        obtain ⟨D11, w11, h⟩ := pass h
        refine x_iast (D' := D11) (pc := 84) X dX1_copyFrom_84 g11 w11 ?_
        refine x_aload_n (pc := 85) X dX1_copyFrom_85 (i := 0) rfl 0 rfl ?_
        obtain ⟨q12, e12, h⟩ := nns h
        refine x_getr (ci := 1) (k := 2) (n := 9) (C := RX1) (T := TX1) (pc := 86) X dX1_copyFrom_86 hk0 rfl (by decide) w_109 rfl e12 ?_
        refine x_iload_n (pc := 89) X dX1_copyFrom_89 (i := 2) rfl 2 rfl ?_
        refine x_aload_n (pc := 90) X dX1_copyFrom_90 (i := 1) rfl 1 rfl ?_
        obtain ⟨q13, e13, h⟩ := nns h
        refine x_getr (ci := 1) (k := 2) (n := 9) (C := RX1) (T := TX1) (pc := 91) X dX1_copyFrom_91 k8 rfl (by decide) w_109 rfl e13 ?_
        refine x_iload_n (pc := 94) X dX1_copyFrom_94 (i := 2) rfl 2 rfl ?_
        obtain ⟨g14, h⟩ := grd h
        refine x_iald (pc := 95) X dX1_copyFrom_95 g14 ?_
        obtain ⟨g15, h⟩ := grd h
        obtain ⟨D15, w15, h⟩ := pass h
        refine x_iast (D' := D15) (pc := 96) X dX1_copyFrom_96 g15 w15 ?_
        refine x_aload_n (pc := 97) X dX1_copyFrom_97 (i := 0) rfl 0 rfl ?_
        obtain ⟨q16, e16, h⟩ := nns h
        refine x_getr (ci := 1) (k := 3) (n := 9) (C := RX1) (T := TX1) (pc := 98) X dX1_copyFrom_98 hk0 rfl (by decide) w_110 rfl e16 ?_
        refine x_iload_n (pc := 101) X dX1_copyFrom_101 (i := 2) rfl 2 rfl ?_
        refine x_aload_n (pc := 102) X dX1_copyFrom_102 (i := 1) rfl 1 rfl ?_
        obtain ⟨q17, e17, h⟩ := nns h
        refine x_getr (ci := 1) (k := 3) (n := 9) (C := RX1) (T := TX1) (pc := 103) X dX1_copyFrom_103 k8 rfl (by decide) w_110 rfl e17 ?_
        refine x_iload_n (pc := 106) X dX1_copyFrom_106 (i := 2) rfl 2 rfl ?_
        obtain ⟨g18, h⟩ := grd h
        refine x_iald (pc := 107) X dX1_copyFrom_107 g18 ?_
        obtain ⟨g19, h⟩ := grd h
        obtain ⟨D19, w19, h⟩ := pass h
        refine x_iast (D' := D19) (pc := 108) X dX1_copyFrom_108 g19 w19 ?_
        refine x_iinc (v := i2 + 1) (lv' := [(2, .int (i2 + 1)), (0, .ref (cx.2.2 + a0)), (1, .ref (cx.2.2 + a1))]) (pc := 109) X dX1_copyFrom_109 2 rfl rfl (by decide) rfl ?_
        refine x_goto (tgt := 67) (pc := 112) X dX1_copyFrom_112 (by decide) ?_
        exact XW.sub [1, 2, 0] rfl (ih67 _ _ h)
  have hL42 : ∀ (n : Nat) (D : Dt) (i2 : Int32), wk2 n (f_F_copyFrom_42 N nx P a0 a1) D i2 = some z → XW p l e (rmk 0) s m args below meth c (MQ below (Qx cx none z P nx) args s 0 0 (AA cx)) cx 3 D P nx 0 0 42 [(0, .ref (cx.2.2 + a0)), (1, .ref (cx.2.2 + a1)), (2, .int i2)] [] := by
    intro n
    induction n with
    | zero => intro D i2 h; exact (nonz h).elim
    | succ n ih42 =>
      intro D i2 h
      have h : f_F_copyFrom_42 N nx P a0 a1 (wk2 n (f_F_copyFrom_42 N nx P a0 a1)) D i2 = some z := h
      generalize wk2 n (f_F_copyFrom_42 N nx P a0 a1) = rec42 at ih42 h
      unfold f_F_copyFrom_42 at h
      refine x_iload_n (pc := 42) X dX1_copyFrom_42 (i := 2) rfl 2 rfl ?_
      refine x_iconst (v := 5) (pc := 43) X dX1_copyFrom_43 (by decide) ?_
      refine x_icmp_ge (tgt := 65) (pc := 44) X dX1_copyFrom_44 (by decide) (fun c26 => ?_) (fun c26 => ?_)
      · have h := ite_t c26 h
        refine x_iconst (v := 0) (pc := 65) X dX1_copyFrom_65 (by decide) ?_
        refine x_istore_n (lv' := [(2, .int 0), (0, .ref (cx.2.2 + a0)), (1, .ref (cx.2.2 + a1))]) (pc := 66) X dX1_copyFrom_66 (i := 2) rfl (by decide) rfl ?_
        exact XW.sub [1, 2, 0] rfl (hL67 _ _ _ h)
      · have h := ite_f c26 h
        refine x_aload_n (pc := 47) X dX1_copyFrom_47 (i := 0) rfl 0 rfl ?_
        obtain ⟨q21, e21, h⟩ := nns h
        refine x_getr (ci := 1) (k := 0) (n := 9) (C := RX1) (T := TX1) (pc := 48) X dX1_copyFrom_48 hk0 rfl (by decide) w_106 rfl e21 ?_
        refine x_iload_n (pc := 51) X dX1_copyFrom_51 (i := 2) rfl 2 rfl ?_
        refine x_aload_n (pc := 52) X dX1_copyFrom_52 (i := 1) rfl 1 rfl ?_
        obtain ⟨k22, h⟩ := grd h
        obtain ⟨q23, e23, h⟩ := nns h
        refine x_getr (ci := 1) (k := 0) (n := 9) (C := RX1) (T := TX1) (pc := 53) X dX1_copyFrom_53 k22 rfl (by decide) w_106 rfl e23 ?_
        refine x_iload_n (pc := 56) X dX1_copyFrom_56 (i := 2) rfl 2 rfl ?_
        obtain ⟨g24, h⟩ := grd h
        refine x_iald (pc := 57) X dX1_copyFrom_57 g24 ?_
        obtain ⟨g25, h⟩ := grd h
        obtain ⟨D25, w25, h⟩ := pass h
        refine x_iast (D' := D25) (pc := 58) X dX1_copyFrom_58 g25 w25 ?_
        refine x_iinc (v := i2 + 1) (lv' := [(2, .int (i2 + 1)), (0, .ref (cx.2.2 + a0)), (1, .ref (cx.2.2 + a1))]) (pc := 59) X dX1_copyFrom_59 2 rfl rfl (by decide) rfl ?_
        refine x_goto (tgt := 42) (pc := 62) X dX1_copyFrom_62 (by decide) ?_
        exact XW.sub [1, 2, 0] rfl (ih42 _ _ h)
  refine x_aload_n (pc := 0) X dX1_copyFrom_0 (i := 0) rfl 0 rfl ?_
  refine x_aload_n (pc := 1) X dX1_copyFrom_1 (i := 1) rfl 1 rfl ?_
  obtain ⟨k1, h⟩ := grd h
  refine x_geti (ci := 1) (k := 4) (n := 9) (C := RX1) (T := TX1) (pc := 2) X dX1_copyFrom_2 k1 rfl (by decide) w_112 rfl ?_
  obtain ⟨D2, w2, h⟩ := pass h
  refine x_puti (ci := 1) (k := 4) (n := 9) (C := RX1) (T := TX1) (D' := D2) (pc := 5) X dX1_copyFrom_5 hk0 rfl (by decide) w_112 rfl (by decide +kernel) rfl w2 ?_
  refine x_aload_n (pc := 8) X dX1_copyFrom_8 (i := 0) rfl 0 rfl ?_
  refine x_aload_n (pc := 9) X dX1_copyFrom_9 (i := 1) rfl 1 rfl ?_
  refine x_geti (ci := 1) (k := 5) (n := 9) (C := RX1) (T := TX1) (pc := 10) X dX1_copyFrom_10 k1 rfl (by decide) w_115 rfl ?_
  obtain ⟨D3, w3, h⟩ := pass h
  refine x_puti (ci := 1) (k := 5) (n := 9) (C := RX1) (T := TX1) (D' := D3) (pc := 13) X dX1_copyFrom_13 hk0 rfl (by decide) w_115 rfl (by decide +kernel) rfl w3 ?_
  refine x_aload_n (pc := 16) X dX1_copyFrom_16 (i := 0) rfl 0 rfl ?_
  refine x_aload_n (pc := 17) X dX1_copyFrom_17 (i := 1) rfl 1 rfl ?_
  refine x_geti (ci := 1) (k := 6) (n := 9) (C := RX1) (T := TX1) (pc := 18) X dX1_copyFrom_18 k1 rfl (by decide) w_117 rfl ?_
  obtain ⟨D4, w4, h⟩ := pass h
  refine x_puti (ci := 1) (k := 6) (n := 9) (C := RX1) (T := TX1) (D' := D4) (pc := 21) X dX1_copyFrom_21 hk0 rfl (by decide) w_117 rfl (by decide +kernel) rfl w4 ?_
  refine x_aload_n (pc := 24) X dX1_copyFrom_24 (i := 0) rfl 0 rfl ?_
  refine x_aload_n (pc := 25) X dX1_copyFrom_25 (i := 1) rfl 1 rfl ?_
  refine x_geti (ci := 1) (k := 7) (n := 9) (C := RX1) (T := TX1) (pc := 26) X dX1_copyFrom_26 k1 rfl (by decide) w_120 rfl ?_
  obtain ⟨D5, w5, h⟩ := pass h
  refine x_puti (ci := 1) (k := 7) (n := 9) (C := RX1) (T := TX1) (D' := D5) (pc := 29) X dX1_copyFrom_29 hk0 rfl (by decide) w_120 rfl (by decide +kernel) rfl w5 ?_
  refine x_aload_n (pc := 32) X dX1_copyFrom_32 (i := 0) rfl 0 rfl ?_
  refine x_aload_n (pc := 33) X dX1_copyFrom_33 (i := 1) rfl 1 rfl ?_
  refine x_geti (ci := 1) (k := 8) (n := 9) (C := RX1) (T := TX1) (pc := 34) X dX1_copyFrom_34 k1 rfl (by decide) w_123 rfl ?_
  obtain ⟨D6, w6, h⟩ := pass h
  refine x_puti (ci := 1) (k := 8) (n := 9) (C := RX1) (T := TX1) (D' := D6) (pc := 37) X dX1_copyFrom_37 hk0 rfl (by decide) w_123 rfl (by decide +kernel) rfl w6 ?_
  refine x_iconst (v := 0) (pc := 40) X dX1_copyFrom_40 (by decide) ?_
  refine x_istore_n (lv' := [(2, .int 0), (0, .ref (cx.2.2 + a0)), (1, .ref (cx.2.2 + a1))]) (pc := 41) X dX1_copyFrom_41 (i := 2) rfl (by decide) rfl ?_
  exact XW.sub [1, 2, 0] rfl (hL42 _ _ _ h)
theorem dX1_addPerson_0 : decode cX1_addPerson 0 = .ok (.iload_n 1, 1) := by decide +kernel
theorem dX1_addPerson_1 : decode cX1_addPerson 1 = .ok (.iconst 0, 1) := by decide +kernel
theorem dX1_addPerson_2 : decode cX1_addPerson 2 = .ok (.bipush 60, 2) := by decide +kernel
theorem dX1_addPerson_4 : decode cX1_addPerson 4 = .ok (.invokestatic 40, 3) := by decide +kernel
theorem dX1_addPerson_7 : decode cX1_addPerson 7 = .ok (.ifCond .eq 15, 3) := by decide +kernel
theorem dX1_addPerson_10 : decode cX1_addPerson 10 = .ok (.aload_n 0, 1) := by decide +kernel
theorem dX1_addPerson_11 : decode cX1_addPerson 11 = .ok (.getfield 24, 3) := by decide +kernel
theorem dX1_addPerson_14 : decode cX1_addPerson 14 = .ok (.iconst 0, 1) := by decide +kernel
theorem dX1_addPerson_15 : decode cX1_addPerson 15 = .ok (.iconst 4, 1) := by decide +kernel
theorem dX1_addPerson_16 : decode cX1_addPerson 16 = .ok (.invokestatic 40, 3) := by decide +kernel
theorem dX1_addPerson_19 : decode cX1_addPerson 19 = .ok (.ifCond .ne 5, 3) := by decide +kernel
theorem dX1_addPerson_22 : decode cX1_addPerson 22 = .ok (.iconst 0, 1) := by decide +kernel
theorem dX1_addPerson_23 : decode cX1_addPerson 23 = .ok (.ireturn, 1) := by decide +kernel
theorem dX1_addPerson_24 : decode cX1_addPerson 24 = .ok (.aload_n 0, 1) := by decide +kernel
theorem dX1_addPerson_25 : decode cX1_addPerson 25 = .ok (.getfield 9, 3) := by decide +kernel
theorem dX1_addPerson_28 : decode cX1_addPerson 28 = .ok (.aload_n 0, 1) := by decide +kernel
theorem dX1_addPerson_29 : decode cX1_addPerson 29 = .ok (.getfield 24, 3) := by decide +kernel
theorem dX1_addPerson_32 : decode cX1_addPerson 32 = .ok (.iload_n 1, 1) := by decide +kernel
theorem dX1_addPerson_33 : decode cX1_addPerson 33 = .ok (.iastore, 1) := by decide +kernel
theorem dX1_addPerson_34 : decode cX1_addPerson 34 = .ok (.aload_n 0, 1) := by decide +kernel
theorem dX1_addPerson_35 : decode cX1_addPerson 35 = .ok (.dup, 1) := by decide +kernel
theorem dX1_addPerson_36 : decode cX1_addPerson 36 = .ok (.getfield 24, 3) := by decide +kernel
theorem dX1_addPerson_39 : decode cX1_addPerson 39 = .ok (.iconst 1, 1) := by decide +kernel
theorem dX1_addPerson_40 : decode cX1_addPerson 40 = .ok (.iadd, 1) := by decide +kernel
theorem dX1_addPerson_41 : decode cX1_addPerson 41 = .ok (.putfield 24, 3) := by decide +kernel
theorem dX1_addPerson_44 : decode cX1_addPerson 44 = .ok (.iconst 1, 1) := by decide +kernel
theorem dX1_addPerson_45 : decode cX1_addPerson 45 = .ok (.ireturn, 1) := by decide +kernel
def f_F_addPerson (N nx : Nat) (D : Dt) (P : Ft) (a0 : Nat) (i1 : Int32) : Option (Int32 × Dt) :=
  if kd nx a0 = 1 then
  (f_H_isWithin N nx D P i1 0 60).bind fun z1 =>
  if z1 = 0 then
    some (0, D)
  else
    (f_H_isWithin N nx D P (D a0 4) 0 4).bind fun z2 =>
    if z2 = 0 then
      some (0, D)
    else
      nn (P a0 0) fun q3 =>
      if ab nx q3 3 (D a0 4) = true then
      pas (upd2 D q3 (D a0 4).toNatClampNeg i1) fun D4 =>
      pas (upd2 D4 a0 4 ((D4 a0 4) + 1)) fun D5 =>
      some (1, D5)
      else none
  else none
theorem m_F_addPerson : MV yX1_addPerson cX1_addPerson 2 (some .boolean) 1 := ⟨mT 383 (by decide +kernel) rfl, mT 381 (by decide +kernel) rfl, mT 382 (by decide +kernel) rfl, mT 56 (by decide +kernel) rfl, by decide +kernel, by decide +kernel, by decide +kernel⟩
set_option maxHeartbeats 4000000 in
set_option maxRecDepth 100000 in
theorem c_F_addPerson (l : Launch) (cx : Cx) (nx N : Nat) (D : Dt) (P : Ft) (a0 : Nat) (i1 : Int32) (z : Int32 × Dt) (h : f_F_addPerson N nx D P a0 i1 = some z) : Ct l cx yX1_addPerson cX1_addPerson 2 (some .boolean) 1 [.ref (cx.2.2 + a0), .int i1] D P nx (some (.int z.1)) z.2 P := by
  refine x_met0 (by decide) (Nat.le_of_ble_eq_true rfl) ?_
  intro p e s m args below meth c X
  have X : XC p s m args meth c cx cX1_addPerson 2 (some .boolean) "HeartPins$Family" "addPerson" := X
  refine XW.sub (lv' := [(0, .ref (cx.2.2 + a0)), (1, .int i1)]) [0, 1] rfl ?_
  unfold f_F_addPerson at h
  obtain ⟨hk0, h⟩ := grd h
  refine x_iload_n (pc := 0) X dX1_addPerson_0 (i := 1) rfl 1 rfl ?_
  refine x_iconst (v := 0) (pc := 1) X dX1_addPerson_1 (by decide) ?_
  refine x_bipush (v := 60) (pc := 2) X dX1_addPerson_2 (by decide) ?_
  obtain ⟨z1, e1, h⟩ := bnds h
  refine x_callSN (pc := 4) (As := [.int i1, .int 0, .int 60]) (st := []) (st' := [.int z1]) (host := "HeartPins") X (c_H_isWithin l cx nx N D P _ _ _ z1 e1) dX1_addPerson_4 (List.mem_of_getElem? (i := 6) rfl) m_H_isWithin rfl ⟨by decide, by decide⟩ ⟨Nat.zero_le _, Nat.zero_le _⟩ rfl (Nat.le_of_ble_eq_true rfl) rfl ?_
  refine x_if_eq (tgt := 22) (pc := 7) X dX1_addPerson_7 (by decide) (fun c7 => ?_) (fun c7 => ?_)
  · have h := ite_t c7 h
    refine x_iconst (v := 0) (pc := 22) X dX1_addPerson_22 (by decide) ?_
    obtain rfl := Option.some.inj h
    exact x_zret (pc := 23) X dX1_addPerson_23 (Or.inl rfl)
  · have h := ite_f c7 h
    refine x_aload_n (pc := 10) X dX1_addPerson_10 (i := 0) rfl 0 rfl ?_
    refine x_geti (ci := 1) (k := 4) (n := 9) (C := RX1) (T := TX1) (pc := 11) X dX1_addPerson_11 hk0 rfl (by decide) w_112 rfl ?_
    refine x_iconst (v := 0) (pc := 14) X dX1_addPerson_14 (by decide) ?_
    refine x_iconst (v := 4) (pc := 15) X dX1_addPerson_15 (by decide) ?_
    obtain ⟨z2, e2, h⟩ := bnds h
    refine x_callSN (pc := 16) (As := [.int (D a0 4), .int 0, .int 4]) (st := []) (st' := [.int z2]) (host := "HeartPins") X (c_H_isWithin l cx nx N D P _ _ _ z2 e2) dX1_addPerson_16 (List.mem_of_getElem? (i := 6) rfl) m_H_isWithin rfl ⟨by decide, by decide⟩ ⟨Nat.zero_le _, Nat.zero_le _⟩ rfl (Nat.le_of_ble_eq_true rfl) rfl ?_
    refine x_if_ne (tgt := 24) (pc := 19) X dX1_addPerson_19 (by decide) (fun c6 => ?_) (fun c6 => ?_)
    · have h := ite_f c6 h
      refine x_aload_n (pc := 24) X dX1_addPerson_24 (i := 0) rfl 0 rfl ?_
      obtain ⟨q3, e3, h⟩ := nns h
      refine x_getr (ci := 1) (k := 0) (n := 9) (C := RX1) (T := TX1) (pc := 25) X dX1_addPerson_25 hk0 rfl (by decide) w_106 rfl e3 ?_
      refine x_aload_n (pc := 28) X dX1_addPerson_28 (i := 0) rfl 0 rfl ?_
      refine x_geti (ci := 1) (k := 4) (n := 9) (C := RX1) (T := TX1) (pc := 29) X dX1_addPerson_29 hk0 rfl (by decide) w_112 rfl ?_
      refine x_iload_n (pc := 32) X dX1_addPerson_32 (i := 1) rfl 1 rfl ?_
      obtain ⟨g4, h⟩ := grd h
      obtain ⟨D4, w4, h⟩ := pass h
      refine x_iast (D' := D4) (pc := 33) X dX1_addPerson_33 g4 w4 ?_
      refine x_aload_n (pc := 34) X dX1_addPerson_34 (i := 0) rfl 0 rfl ?_
      refine x_dup (pc := 35) X dX1_addPerson_35 rfl ?_
      refine x_geti (ci := 1) (k := 4) (n := 9) (C := RX1) (T := TX1) (pc := 36) X dX1_addPerson_36 hk0 rfl (by decide) w_112 rfl ?_
      refine x_iconst (v := 1) (pc := 39) X dX1_addPerson_39 (by decide) ?_
      refine x_iadd (pc := 40) X dX1_addPerson_40 ?_
      obtain ⟨D5, w5, h⟩ := pass h
      refine x_puti (ci := 1) (k := 4) (n := 9) (C := RX1) (T := TX1) (D' := D5) (pc := 41) X dX1_addPerson_41 hk0 rfl (by decide) w_112 rfl (by decide +kernel) rfl w5 ?_
      refine x_iconst (v := 1) (pc := 44) X dX1_addPerson_44 (by decide) ?_
      obtain rfl := Option.some.inj h
      exact x_zret (pc := 45) X dX1_addPerson_45 (Or.inr rfl)
    · have h := ite_t c6 h
      refine x_iconst (v := 0) (pc := 22) X dX1_addPerson_22 (by decide) ?_
      obtain rfl := Option.some.inj h
      exact x_zret (pc := 23) X dX1_addPerson_23 (Or.inl rfl)
theorem dX1_hasPerson_0 : decode cX1_hasPerson 0 = .ok (.iload_n 1, 1) := by decide +kernel
theorem dX1_hasPerson_1 : decode cX1_hasPerson 1 = .ok (.ifCond .lt 20, 3) := by decide +kernel
theorem dX1_hasPerson_4 : decode cX1_hasPerson 4 = .ok (.iload_n 1, 1) := by decide +kernel
theorem dX1_hasPerson_5 : decode cX1_hasPerson 5 = .ok (.aload_n 0, 1) := by decide +kernel
theorem dX1_hasPerson_6 : decode cX1_hasPerson 6 = .ok (.getfield 24, 3) := by decide +kernel
theorem dX1_hasPerson_9 : decode cX1_hasPerson 9 = .ok (.if_icmp .ge 12, 3) := by decide +kernel
theorem dX1_hasPerson_12 : decode cX1_hasPerson 12 = .ok (.iload_n 1, 1) := by decide +kernel
theorem dX1_hasPerson_13 : decode cX1_hasPerson 13 = .ok (.iconst 5, 1) := by decide +kernel
theorem dX1_hasPerson_14 : decode cX1_hasPerson 14 = .ok (.if_icmp .ge 7, 3) := by decide +kernel
theorem dX1_hasPerson_17 : decode cX1_hasPerson 17 = .ok (.iconst 1, 1) := by decide +kernel
theorem dX1_hasPerson_18 : decode cX1_hasPerson 18 = .ok (.goto 4, 3) := by decide +kernel
theorem dX1_hasPerson_21 : decode cX1_hasPerson 21 = .ok (.iconst 0, 1) := by decide +kernel
theorem dX1_hasPerson_22 : decode cX1_hasPerson 22 = .ok (.ireturn, 1) := by decide +kernel
def f_F_hasPerson (N nx : Nat) (D : Dt) (P : Ft) (a0 : Nat) (i1 : Int32) : Option Int32 :=
  if kd nx a0 = 1 then
  if i1 < 0 then
    some 0
  else
    if D a0 4 ≤ i1 then
      some 0
    else
      if 5 ≤ i1 then
        some 0
      else
        some 1
  else none
theorem m_F_hasPerson : MV yX1_hasPerson cX1_hasPerson 2 (some .boolean) 1 := ⟨mT 392 (by decide +kernel) rfl, mT 390 (by decide +kernel) rfl, mT 391 (by decide +kernel) rfl, mT 56 (by decide +kernel) rfl, by decide +kernel, by decide +kernel, by decide +kernel⟩
set_option maxHeartbeats 4000000 in
set_option maxRecDepth 100000 in
theorem c_F_hasPerson (l : Launch) (cx : Cx) (nx N : Nat) (D : Dt) (P : Ft) (a0 : Nat) (i1 : Int32) (z : Int32) (h : f_F_hasPerson N nx D P a0 i1 = some z) : Ct l cx yX1_hasPerson cX1_hasPerson 2 (some .boolean) 0 [.ref (cx.2.2 + a0), .int i1] D P nx (some (.int z)) D P := by
  refine x_met0 (by decide) (Nat.le_of_ble_eq_true rfl) ?_
  intro p e s m args below meth c X
  have X : XC p s m args meth c cx cX1_hasPerson 2 (some .boolean) "HeartPins$Family" "hasPerson" := X
  refine XW.sub (lv' := [(0, .ref (cx.2.2 + a0)), (1, .int i1)]) [0, 1] rfl ?_
  unfold f_F_hasPerson at h
  obtain ⟨hk0, h⟩ := grd h
  refine x_iload_n (pc := 0) X dX1_hasPerson_0 (i := 1) rfl 1 rfl ?_
  refine x_if_lt (tgt := 21) (pc := 1) X dX1_hasPerson_1 (by decide) (fun c3 => ?_) (fun c3 => ?_)
  · have h := ite_t c3 h
    refine x_iconst (v := 0) (pc := 21) X dX1_hasPerson_21 (by decide) ?_
    obtain rfl := Option.some.inj h
    exact x_zret (pc := 22) X dX1_hasPerson_22 (Or.inl rfl)
  · have h := ite_f c3 h
    refine x_iload_n (pc := 4) X dX1_hasPerson_4 (i := 1) rfl 1 rfl ?_
    refine x_aload_n (pc := 5) X dX1_hasPerson_5 (i := 0) rfl 0 rfl ?_
    refine x_geti (ci := 1) (k := 4) (n := 9) (C := RX1) (T := TX1) (pc := 6) X dX1_hasPerson_6 hk0 rfl (by decide) w_112 rfl ?_
    refine x_icmp_ge (tgt := 21) (pc := 9) X dX1_hasPerson_9 (by decide) (fun c2 => ?_) (fun c2 => ?_)
    · have h := ite_t c2 h
      refine x_iconst (v := 0) (pc := 21) X dX1_hasPerson_21 (by decide) ?_
      obtain rfl := Option.some.inj h
      exact x_zret (pc := 22) X dX1_hasPerson_22 (Or.inl rfl)
    · have h := ite_f c2 h
      refine x_iload_n (pc := 12) X dX1_hasPerson_12 (i := 1) rfl 1 rfl ?_
      refine x_iconst (v := 5) (pc := 13) X dX1_hasPerson_13 (by decide) ?_
      refine x_icmp_ge (tgt := 21) (pc := 14) X dX1_hasPerson_14 (by decide) (fun c1 => ?_) (fun c1 => ?_)
      · have h := ite_t c1 h
        refine x_iconst (v := 0) (pc := 21) X dX1_hasPerson_21 (by decide) ?_
        obtain rfl := Option.some.inj h
        exact x_zret (pc := 22) X dX1_hasPerson_22 (Or.inl rfl)
      · have h := ite_f c1 h
        refine x_iconst (v := 1) (pc := 17) X dX1_hasPerson_17 (by decide) ?_
        refine x_goto (tgt := 22) (pc := 18) X dX1_hasPerson_18 (by decide) ?_
        obtain rfl := Option.some.inj h
        exact x_zret (pc := 22) X dX1_hasPerson_22 (Or.inr rfl)
theorem dX1_addPin_0 : decode cX1_addPin 0 = .ok (.aload_n 0, 1) := by decide +kernel
theorem dX1_addPin_1 : decode cX1_addPin 1 = .ok (.iload_n 1, 1) := by decide +kernel
theorem dX1_addPin_2 : decode cX1_addPin 2 = .ok (.invokevirtual 44, 3) := by decide +kernel
theorem dX1_addPin_5 : decode cX1_addPin 5 = .ok (.ifCond .eq 35, 3) := by decide +kernel
theorem dX1_addPin_8 : decode cX1_addPin 8 = .ok (.iload_n 2, 1) := by decide +kernel
theorem dX1_addPin_9 : decode cX1_addPin 9 = .ok (.iconst 0, 1) := by decide +kernel
theorem dX1_addPin_10 : decode cX1_addPin 10 = .ok (.iconst 3, 1) := by decide +kernel
theorem dX1_addPin_11 : decode cX1_addPin 11 = .ok (.invokestatic 40, 3) := by decide +kernel
theorem dX1_addPin_14 : decode cX1_addPin 14 = .ok (.ifCond .eq 26, 3) := by decide +kernel
theorem dX1_addPin_17 : decode cX1_addPin 17 = .ok (.iload_n 3, 1) := by decide +kernel
theorem dX1_addPin_18 : decode cX1_addPin 18 = .ok (.iconst 1, 1) := by decide +kernel
theorem dX1_addPin_19 : decode cX1_addPin 19 = .ok (.bipush 20, 2) := by decide +kernel
theorem dX1_addPin_21 : decode cX1_addPin 21 = .ok (.invokestatic 40, 3) := by decide +kernel
theorem dX1_addPin_24 : decode cX1_addPin 24 = .ok (.ifCond .eq 16, 3) := by decide +kernel
theorem dX1_addPin_27 : decode cX1_addPin 27 = .ok (.aload_n 0, 1) := by decide +kernel
theorem dX1_addPin_28 : decode cX1_addPin 28 = .ok (.getfield 28, 3) := by decide +kernel
theorem dX1_addPin_31 : decode cX1_addPin 31 = .ok (.iconst 0, 1) := by decide +kernel
theorem dX1_addPin_32 : decode cX1_addPin 32 = .ok (.bipush 7, 2) := by decide +kernel
theorem dX1_addPin_34 : decode cX1_addPin 34 = .ok (.invokestatic 40, 3) := by decide +kernel
theorem dX1_addPin_37 : decode cX1_addPin 37 = .ok (.ifCond .ne 5, 3) := by decide +kernel
theorem dX1_addPin_40 : decode cX1_addPin 40 = .ok (.iconst 0, 1) := by decide +kernel
theorem dX1_addPin_41 : decode cX1_addPin 41 = .ok (.ireturn, 1) := by decide +kernel
theorem dX1_addPin_42 : decode cX1_addPin 42 = .ok (.aload_n 0, 1) := by decide +kernel
theorem dX1_addPin_43 : decode cX1_addPin 43 = .ok (.getfield 15, 3) := by decide +kernel
theorem dX1_addPin_46 : decode cX1_addPin 46 = .ok (.aload_n 0, 1) := by decide +kernel
theorem dX1_addPin_47 : decode cX1_addPin 47 = .ok (.getfield 28, 3) := by decide +kernel
theorem dX1_addPin_50 : decode cX1_addPin 50 = .ok (.iload_n 1, 1) := by decide +kernel
theorem dX1_addPin_51 : decode cX1_addPin 51 = .ok (.iastore, 1) := by decide +kernel
theorem dX1_addPin_52 : decode cX1_addPin 52 = .ok (.aload_n 0, 1) := by decide +kernel
theorem dX1_addPin_53 : decode cX1_addPin 53 = .ok (.getfield 18, 3) := by decide +kernel
theorem dX1_addPin_56 : decode cX1_addPin 56 = .ok (.aload_n 0, 1) := by decide +kernel
theorem dX1_addPin_57 : decode cX1_addPin 57 = .ok (.getfield 28, 3) := by decide +kernel
theorem dX1_addPin_60 : decode cX1_addPin 60 = .ok (.iload_n 2, 1) := by decide +kernel
theorem dX1_addPin_61 : decode cX1_addPin 61 = .ok (.iastore, 1) := by decide +kernel
theorem dX1_addPin_62 : decode cX1_addPin 62 = .ok (.aload_n 0, 1) := by decide +kernel
theorem dX1_addPin_63 : decode cX1_addPin 63 = .ok (.getfield 21, 3) := by decide +kernel
theorem dX1_addPin_66 : decode cX1_addPin 66 = .ok (.aload_n 0, 1) := by decide +kernel
theorem dX1_addPin_67 : decode cX1_addPin 67 = .ok (.getfield 28, 3) := by decide +kernel
theorem dX1_addPin_70 : decode cX1_addPin 70 = .ok (.iload_n 3, 1) := by decide +kernel
theorem dX1_addPin_71 : decode cX1_addPin 71 = .ok (.iastore, 1) := by decide +kernel
theorem dX1_addPin_72 : decode cX1_addPin 72 = .ok (.aload_n 0, 1) := by decide +kernel
theorem dX1_addPin_73 : decode cX1_addPin 73 = .ok (.dup, 1) := by decide +kernel
theorem dX1_addPin_74 : decode cX1_addPin 74 = .ok (.getfield 28, 3) := by decide +kernel
theorem dX1_addPin_77 : decode cX1_addPin 77 = .ok (.iconst 1, 1) := by decide +kernel
theorem dX1_addPin_78 : decode cX1_addPin 78 = .ok (.iadd, 1) := by decide +kernel
theorem dX1_addPin_79 : decode cX1_addPin 79 = .ok (.putfield 28, 3) := by decide +kernel
theorem dX1_addPin_82 : decode cX1_addPin 82 = .ok (.iconst 1, 1) := by decide +kernel
theorem dX1_addPin_83 : decode cX1_addPin 83 = .ok (.ireturn, 1) := by decide +kernel
def f_F_addPin (N nx : Nat) (D : Dt) (P : Ft) (a0 : Nat) (i1 : Int32) (i2 : Int32) (i3 : Int32) : Option (Int32 × Dt) :=
  if kd nx a0 = 1 then
  (f_F_hasPerson N nx D P a0 i1).bind fun z1 =>
  if z1 = 0 then
    some (0, D)
  else
    (f_H_isWithin N nx D P i2 0 3).bind fun z2 =>
    if z2 = 0 then
      some (0, D)
    else
      (f_H_isWithin N nx D P i3 1 20).bind fun z3 =>
      if z3 = 0 then
        some (0, D)
      else
        (f_H_isWithin N nx D P (D a0 5) 0 7).bind fun z4 =>
        if z4 = 0 then
          some (0, D)
        else
          nn (P a0 1) fun q5 =>
          if ab nx q5 3 (D a0 5) = true then
          pas (upd2 D q5 (D a0 5).toNatClampNeg i1) fun D6 =>
          nn (P a0 2) fun q7 =>
          if ab nx q7 3 (D6 a0 5) = true then
          pas (upd2 D6 q7 (D6 a0 5).toNatClampNeg i2) fun D8 =>
          nn (P a0 3) fun q9 =>
          if ab nx q9 3 (D8 a0 5) = true then
          pas (upd2 D8 q9 (D8 a0 5).toNatClampNeg i3) fun D10 =>
          pas (upd2 D10 a0 5 ((D10 a0 5) + 1)) fun D11 =>
          some (1, D11)
          else none
          else none
          else none
  else none
theorem m_F_addPin : MV yX1_addPin cX1_addPin 4 (some .boolean) 3 := ⟨mT 388 (by decide +kernel) rfl, mT 386 (by decide +kernel) rfl, mT 387 (by decide +kernel) rfl, mT 56 (by decide +kernel) rfl, by decide +kernel, by decide +kernel, by decide +kernel⟩
set_option maxHeartbeats 4000000 in
set_option maxRecDepth 100000 in
theorem c_F_addPin (l : Launch) (cx : Cx) (nx N : Nat) (D : Dt) (P : Ft) (a0 : Nat) (i1 : Int32) (i2 : Int32) (i3 : Int32) (z : Int32 × Dt) (h : f_F_addPin N nx D P a0 i1 i2 i3 = some z) : Ct l cx yX1_addPin cX1_addPin 4 (some .boolean) 1 [.ref (cx.2.2 + a0), .int i1, .int i2, .int i3] D P nx (some (.int z.1)) z.2 P := by
  refine x_met0 (by decide) (Nat.le_of_ble_eq_true rfl) ?_
  intro p e s m args below meth c X
  have X : XC p s m args meth c cx cX1_addPin 4 (some .boolean) "HeartPins$Family" "addPin" := X
  refine XW.sub (lv' := [(0, .ref (cx.2.2 + a0)), (1, .int i1), (2, .int i2), (3, .int i3)]) [0, 1, 2, 3] rfl ?_
  unfold f_F_addPin at h
  obtain ⟨hk0, h⟩ := grd h
  refine x_aload_n (pc := 0) X dX1_addPin_0 (i := 0) rfl 0 rfl ?_
  refine x_iload_n (pc := 1) X dX1_addPin_1 (i := 1) rfl 1 rfl ?_
  obtain ⟨z1, e1, h⟩ := bnds h
  refine x_callV (pc := 2) (As := [.int i1]) (st := []) (st' := [.int z1]) X (c_F_hasPerson l cx nx N D P _ _ z1 e1) dX1_addPin_2 w_389 m_F_hasPerson rfl hk0 (ci := 1) rfl rfl ⟨by decide, by decide⟩ ⟨Nat.zero_le _, Nat.zero_le _⟩ rfl (Nat.le_of_ble_eq_true rfl) rfl ?_
  refine x_if_eq (tgt := 40) (pc := 5) X dX1_addPin_5 (by decide) (fun c15 => ?_) (fun c15 => ?_)
  · have h := ite_t c15 h
    refine x_iconst (v := 0) (pc := 40) X dX1_addPin_40 (by decide) ?_
    obtain rfl := Option.some.inj h
    exact x_zret (pc := 41) X dX1_addPin_41 (Or.inl rfl)
  · have h := ite_f c15 h
    refine x_iload_n (pc := 8) X dX1_addPin_8 (i := 2) rfl 2 rfl ?_
    refine x_iconst (v := 0) (pc := 9) X dX1_addPin_9 (by decide) ?_
    refine x_iconst (v := 3) (pc := 10) X dX1_addPin_10 (by decide) ?_
    obtain ⟨z2, e2, h⟩ := bnds h
    refine x_callSN (pc := 11) (As := [.int i2, .int 0, .int 3]) (st := []) (st' := [.int z2]) (host := "HeartPins") X (c_H_isWithin l cx nx N D P _ _ _ z2 e2) dX1_addPin_11 (List.mem_of_getElem? (i := 6) rfl) m_H_isWithin rfl ⟨by decide, by decide⟩ ⟨Nat.zero_le _, Nat.zero_le _⟩ rfl (Nat.le_of_ble_eq_true rfl) rfl ?_
    refine x_if_eq (tgt := 40) (pc := 14) X dX1_addPin_14 (by decide) (fun c14 => ?_) (fun c14 => ?_)
    · have h := ite_t c14 h
      refine x_iconst (v := 0) (pc := 40) X dX1_addPin_40 (by decide) ?_
      obtain rfl := Option.some.inj h
      exact x_zret (pc := 41) X dX1_addPin_41 (Or.inl rfl)
    · have h := ite_f c14 h
      refine x_iload_n (pc := 17) X dX1_addPin_17 (i := 3) rfl 3 rfl ?_
      refine x_iconst (v := 1) (pc := 18) X dX1_addPin_18 (by decide) ?_
      refine x_bipush (v := 20) (pc := 19) X dX1_addPin_19 (by decide) ?_
      obtain ⟨z3, e3, h⟩ := bnds h
      refine x_callSN (pc := 21) (As := [.int i3, .int 1, .int 20]) (st := []) (st' := [.int z3]) (host := "HeartPins") X (c_H_isWithin l cx nx N D P _ _ _ z3 e3) dX1_addPin_21 (List.mem_of_getElem? (i := 6) rfl) m_H_isWithin rfl ⟨by decide, by decide⟩ ⟨Nat.zero_le _, Nat.zero_le _⟩ rfl (Nat.le_of_ble_eq_true rfl) rfl ?_
      refine x_if_eq (tgt := 40) (pc := 24) X dX1_addPin_24 (by decide) (fun c13 => ?_) (fun c13 => ?_)
      · have h := ite_t c13 h
        refine x_iconst (v := 0) (pc := 40) X dX1_addPin_40 (by decide) ?_
        obtain rfl := Option.some.inj h
        exact x_zret (pc := 41) X dX1_addPin_41 (Or.inl rfl)
      · have h := ite_f c13 h
        refine x_aload_n (pc := 27) X dX1_addPin_27 (i := 0) rfl 0 rfl ?_
        refine x_geti (ci := 1) (k := 5) (n := 9) (C := RX1) (T := TX1) (pc := 28) X dX1_addPin_28 hk0 rfl (by decide) w_115 rfl ?_
        refine x_iconst (v := 0) (pc := 31) X dX1_addPin_31 (by decide) ?_
        refine x_bipush (v := 7) (pc := 32) X dX1_addPin_32 (by decide) ?_
        obtain ⟨z4, e4, h⟩ := bnds h
        refine x_callSN (pc := 34) (As := [.int (D a0 5), .int 0, .int 7]) (st := []) (st' := [.int z4]) (host := "HeartPins") X (c_H_isWithin l cx nx N D P _ _ _ z4 e4) dX1_addPin_34 (List.mem_of_getElem? (i := 6) rfl) m_H_isWithin rfl ⟨by decide, by decide⟩ ⟨Nat.zero_le _, Nat.zero_le _⟩ rfl (Nat.le_of_ble_eq_true rfl) rfl ?_
        refine x_if_ne (tgt := 42) (pc := 37) X dX1_addPin_37 (by decide) (fun c12 => ?_) (fun c12 => ?_)
        · have h := ite_f c12 h
          refine x_aload_n (pc := 42) X dX1_addPin_42 (i := 0) rfl 0 rfl ?_
          obtain ⟨q5, e5, h⟩ := nns h
          refine x_getr (ci := 1) (k := 1) (n := 9) (C := RX1) (T := TX1) (pc := 43) X dX1_addPin_43 hk0 rfl (by decide) w_107 rfl e5 ?_
          refine x_aload_n (pc := 46) X dX1_addPin_46 (i := 0) rfl 0 rfl ?_
          refine x_geti (ci := 1) (k := 5) (n := 9) (C := RX1) (T := TX1) (pc := 47) X dX1_addPin_47 hk0 rfl (by decide) w_115 rfl ?_
          refine x_iload_n (pc := 50) X dX1_addPin_50 (i := 1) rfl 1 rfl ?_
          obtain ⟨g6, h⟩ := grd h
          obtain ⟨D6, w6, h⟩ := pass h
          refine x_iast (D' := D6) (pc := 51) X dX1_addPin_51 g6 w6 ?_
          refine x_aload_n (pc := 52) X dX1_addPin_52 (i := 0) rfl 0 rfl ?_
          obtain ⟨q7, e7, h⟩ := nns h
          refine x_getr (ci := 1) (k := 2) (n := 9) (C := RX1) (T := TX1) (pc := 53) X dX1_addPin_53 hk0 rfl (by decide) w_109 rfl e7 ?_
          refine x_aload_n (pc := 56) X dX1_addPin_56 (i := 0) rfl 0 rfl ?_
          refine x_geti (ci := 1) (k := 5) (n := 9) (C := RX1) (T := TX1) (pc := 57) X dX1_addPin_57 hk0 rfl (by decide) w_115 rfl ?_
          refine x_iload_n (pc := 60) X dX1_addPin_60 (i := 2) rfl 2 rfl ?_
          obtain ⟨g8, h⟩ := grd h
          obtain ⟨D8, w8, h⟩ := pass h
          refine x_iast (D' := D8) (pc := 61) X dX1_addPin_61 g8 w8 ?_
          refine x_aload_n (pc := 62) X dX1_addPin_62 (i := 0) rfl 0 rfl ?_
          obtain ⟨q9, e9, h⟩ := nns h
          refine x_getr (ci := 1) (k := 3) (n := 9) (C := RX1) (T := TX1) (pc := 63) X dX1_addPin_63 hk0 rfl (by decide) w_110 rfl e9 ?_
          refine x_aload_n (pc := 66) X dX1_addPin_66 (i := 0) rfl 0 rfl ?_
          refine x_geti (ci := 1) (k := 5) (n := 9) (C := RX1) (T := TX1) (pc := 67) X dX1_addPin_67 hk0 rfl (by decide) w_115 rfl ?_
          refine x_iload_n (pc := 70) X dX1_addPin_70 (i := 3) rfl 3 rfl ?_
          obtain ⟨g10, h⟩ := grd h
          obtain ⟨D10, w10, h⟩ := pass h
          refine x_iast (D' := D10) (pc := 71) X dX1_addPin_71 g10 w10 ?_
          refine x_aload_n (pc := 72) X dX1_addPin_72 (i := 0) rfl 0 rfl ?_
          refine x_dup (pc := 73) X dX1_addPin_73 rfl ?_
          refine x_geti (ci := 1) (k := 5) (n := 9) (C := RX1) (T := TX1) (pc := 74) X dX1_addPin_74 hk0 rfl (by decide) w_115 rfl ?_
          refine x_iconst (v := 1) (pc := 77) X dX1_addPin_77 (by decide) ?_
          refine x_iadd (pc := 78) X dX1_addPin_78 ?_
          obtain ⟨D11, w11, h⟩ := pass h
          refine x_puti (ci := 1) (k := 5) (n := 9) (C := RX1) (T := TX1) (D' := D11) (pc := 79) X dX1_addPin_79 hk0 rfl (by decide) w_115 rfl (by decide +kernel) rfl w11 ?_
          refine x_iconst (v := 1) (pc := 82) X dX1_addPin_82 (by decide) ?_
          obtain rfl := Option.some.inj h
          exact x_zret (pc := 83) X dX1_addPin_83 (Or.inr rfl)
        · have h := ite_t c12 h
          refine x_iconst (v := 0) (pc := 40) X dX1_addPin_40 (by decide) ?_
          obtain rfl := Option.some.inj h
          exact x_zret (pc := 41) X dX1_addPin_41 (Or.inl rfl)
theorem dX1_setHeart_0 : decode cX1_setHeart 0 = .ok (.iload_n 1, 1) := by decide +kernel
theorem dX1_setHeart_1 : decode cX1_setHeart 1 = .ok (.iconst 0, 1) := by decide +kernel
theorem dX1_setHeart_2 : decode cX1_setHeart 2 = .ok (.bipush 60, 2) := by decide +kernel
theorem dX1_setHeart_4 : decode cX1_setHeart 4 = .ok (.invokestatic 40, 3) := by decide +kernel
theorem dX1_setHeart_7 : decode cX1_setHeart 7 = .ok (.ifCond .eq 23, 3) := by decide +kernel
theorem dX1_setHeart_10 : decode cX1_setHeart 10 = .ok (.iload_n 2, 1) := by decide +kernel
theorem dX1_setHeart_11 : decode cX1_setHeart 11 = .ok (.iconst 1, 1) := by decide +kernel
theorem dX1_setHeart_12 : decode cX1_setHeart 12 = .ok (.bipush 20, 2) := by decide +kernel
theorem dX1_setHeart_14 : decode cX1_setHeart 14 = .ok (.invokestatic 40, 3) := by decide +kernel
theorem dX1_setHeart_17 : decode cX1_setHeart 17 = .ok (.ifCond .eq 13, 3) := by decide +kernel
theorem dX1_setHeart_20 : decode cX1_setHeart 20 = .ok (.iload_n 3, 1) := by decide +kernel
theorem dX1_setHeart_21 : decode cX1_setHeart 21 = .ok (.iconst 1, 1) := by decide +kernel
theorem dX1_setHeart_22 : decode cX1_setHeart 22 = .ok (.bipush 30, 2) := by decide +kernel
theorem dX1_setHeart_24 : decode cX1_setHeart 24 = .ok (.invokestatic 40, 3) := by decide +kernel
theorem dX1_setHeart_27 : decode cX1_setHeart 27 = .ok (.ifCond .ne 5, 3) := by decide +kernel
theorem dX1_setHeart_30 : decode cX1_setHeart 30 = .ok (.iconst 0, 1) := by decide +kernel
theorem dX1_setHeart_31 : decode cX1_setHeart 31 = .ok (.ireturn, 1) := by decide +kernel
theorem dX1_setHeart_32 : decode cX1_setHeart 32 = .ok (.aload_n 0, 1) := by decide +kernel
theorem dX1_setHeart_33 : decode cX1_setHeart 33 = .ok (.iload_n 1, 1) := by decide +kernel
theorem dX1_setHeart_34 : decode cX1_setHeart 34 = .ok (.putfield 31, 3) := by decide +kernel
theorem dX1_setHeart_37 : decode cX1_setHeart 37 = .ok (.aload_n 0, 1) := by decide +kernel
theorem dX1_setHeart_38 : decode cX1_setHeart 38 = .ok (.iload_n 2, 1) := by decide +kernel
theorem dX1_setHeart_39 : decode cX1_setHeart 39 = .ok (.putfield 34, 3) := by decide +kernel
theorem dX1_setHeart_42 : decode cX1_setHeart 42 = .ok (.aload_n 0, 1) := by decide +kernel
theorem dX1_setHeart_43 : decode cX1_setHeart 43 = .ok (.iload_n 3, 1) := by decide +kernel
theorem dX1_setHeart_44 : decode cX1_setHeart 44 = .ok (.putfield 37, 3) := by decide +kernel
theorem dX1_setHeart_47 : decode cX1_setHeart 47 = .ok (.iconst 1, 1) := by decide +kernel
theorem dX1_setHeart_48 : decode cX1_setHeart 48 = .ok (.ireturn, 1) := by decide +kernel
def f_F_setHeart (N nx : Nat) (D : Dt) (P : Ft) (a0 : Nat) (i1 : Int32) (i2 : Int32) (i3 : Int32) : Option (Int32 × Dt) :=
  if kd nx a0 = 1 then
  (f_H_isWithin N nx D P i1 0 60).bind fun z1 =>
  if z1 = 0 then
    some (0, D)
  else
    (f_H_isWithin N nx D P i2 1 20).bind fun z2 =>
    if z2 = 0 then
      some (0, D)
    else
      (f_H_isWithin N nx D P i3 1 30).bind fun z3 =>
      if z3 = 0 then
        some (0, D)
      else
        pas (upd2 D a0 6 i1) fun D4 =>
        pas (upd2 D4 a0 7 i2) fun D5 =>
        pas (upd2 D5 a0 8 i3) fun D6 =>
        some (1, D6)
  else none
theorem m_F_setHeart : MV yX1_setHeart cX1_setHeart 4 (some .boolean) 3 := ⟨mT 396 (by decide +kernel) rfl, mT 394 (by decide +kernel) rfl, mT 395 (by decide +kernel) rfl, mT 56 (by decide +kernel) rfl, by decide +kernel, by decide +kernel, by decide +kernel⟩
set_option maxHeartbeats 4000000 in
set_option maxRecDepth 100000 in
theorem c_F_setHeart (l : Launch) (cx : Cx) (nx N : Nat) (D : Dt) (P : Ft) (a0 : Nat) (i1 : Int32) (i2 : Int32) (i3 : Int32) (z : Int32 × Dt) (h : f_F_setHeart N nx D P a0 i1 i2 i3 = some z) : Ct l cx yX1_setHeart cX1_setHeart 4 (some .boolean) 1 [.ref (cx.2.2 + a0), .int i1, .int i2, .int i3] D P nx (some (.int z.1)) z.2 P := by
  refine x_met0 (by decide) (Nat.le_of_ble_eq_true rfl) ?_
  intro p e s m args below meth c X
  have X : XC p s m args meth c cx cX1_setHeart 4 (some .boolean) "HeartPins$Family" "setHeart" := X
  refine XW.sub (lv' := [(0, .ref (cx.2.2 + a0)), (1, .int i1), (2, .int i2), (3, .int i3)]) [0, 1, 2, 3] rfl ?_
  unfold f_F_setHeart at h
  obtain ⟨hk0, h⟩ := grd h
  refine x_iload_n (pc := 0) X dX1_setHeart_0 (i := 1) rfl 1 rfl ?_
  refine x_iconst (v := 0) (pc := 1) X dX1_setHeart_1 (by decide) ?_
  refine x_bipush (v := 60) (pc := 2) X dX1_setHeart_2 (by decide) ?_
  obtain ⟨z1, e1, h⟩ := bnds h
  refine x_callSN (pc := 4) (As := [.int i1, .int 0, .int 60]) (st := []) (st' := [.int z1]) (host := "HeartPins") X (c_H_isWithin l cx nx N D P _ _ _ z1 e1) dX1_setHeart_4 (List.mem_of_getElem? (i := 6) rfl) m_H_isWithin rfl ⟨by decide, by decide⟩ ⟨Nat.zero_le _, Nat.zero_le _⟩ rfl (Nat.le_of_ble_eq_true rfl) rfl ?_
  refine x_if_eq (tgt := 30) (pc := 7) X dX1_setHeart_7 (by decide) (fun c9 => ?_) (fun c9 => ?_)
  · have h := ite_t c9 h
    refine x_iconst (v := 0) (pc := 30) X dX1_setHeart_30 (by decide) ?_
    obtain rfl := Option.some.inj h
    exact x_zret (pc := 31) X dX1_setHeart_31 (Or.inl rfl)
  · have h := ite_f c9 h
    refine x_iload_n (pc := 10) X dX1_setHeart_10 (i := 2) rfl 2 rfl ?_
    refine x_iconst (v := 1) (pc := 11) X dX1_setHeart_11 (by decide) ?_
    refine x_bipush (v := 20) (pc := 12) X dX1_setHeart_12 (by decide) ?_
    obtain ⟨z2, e2, h⟩ := bnds h
    refine x_callSN (pc := 14) (As := [.int i2, .int 1, .int 20]) (st := []) (st' := [.int z2]) (host := "HeartPins") X (c_H_isWithin l cx nx N D P _ _ _ z2 e2) dX1_setHeart_14 (List.mem_of_getElem? (i := 6) rfl) m_H_isWithin rfl ⟨by decide, by decide⟩ ⟨Nat.zero_le _, Nat.zero_le _⟩ rfl (Nat.le_of_ble_eq_true rfl) rfl ?_
    refine x_if_eq (tgt := 30) (pc := 17) X dX1_setHeart_17 (by decide) (fun c8 => ?_) (fun c8 => ?_)
    · have h := ite_t c8 h
      refine x_iconst (v := 0) (pc := 30) X dX1_setHeart_30 (by decide) ?_
      obtain rfl := Option.some.inj h
      exact x_zret (pc := 31) X dX1_setHeart_31 (Or.inl rfl)
    · have h := ite_f c8 h
      refine x_iload_n (pc := 20) X dX1_setHeart_20 (i := 3) rfl 3 rfl ?_
      refine x_iconst (v := 1) (pc := 21) X dX1_setHeart_21 (by decide) ?_
      refine x_bipush (v := 30) (pc := 22) X dX1_setHeart_22 (by decide) ?_
      obtain ⟨z3, e3, h⟩ := bnds h
      refine x_callSN (pc := 24) (As := [.int i3, .int 1, .int 30]) (st := []) (st' := [.int z3]) (host := "HeartPins") X (c_H_isWithin l cx nx N D P _ _ _ z3 e3) dX1_setHeart_24 (List.mem_of_getElem? (i := 6) rfl) m_H_isWithin rfl ⟨by decide, by decide⟩ ⟨Nat.zero_le _, Nat.zero_le _⟩ rfl (Nat.le_of_ble_eq_true rfl) rfl ?_
      refine x_if_ne (tgt := 32) (pc := 27) X dX1_setHeart_27 (by decide) (fun c7 => ?_) (fun c7 => ?_)
      · have h := ite_f c7 h
        refine x_aload_n (pc := 32) X dX1_setHeart_32 (i := 0) rfl 0 rfl ?_
        refine x_iload_n (pc := 33) X dX1_setHeart_33 (i := 1) rfl 1 rfl ?_
        obtain ⟨D4, w4, h⟩ := pass h
        refine x_puti (ci := 1) (k := 6) (n := 9) (C := RX1) (T := TX1) (D' := D4) (pc := 34) X dX1_setHeart_34 hk0 rfl (by decide) w_117 rfl (by decide +kernel) rfl w4 ?_
        refine x_aload_n (pc := 37) X dX1_setHeart_37 (i := 0) rfl 0 rfl ?_
        refine x_iload_n (pc := 38) X dX1_setHeart_38 (i := 2) rfl 2 rfl ?_
        obtain ⟨D5, w5, h⟩ := pass h
        refine x_puti (ci := 1) (k := 7) (n := 9) (C := RX1) (T := TX1) (D' := D5) (pc := 39) X dX1_setHeart_39 hk0 rfl (by decide) w_120 rfl (by decide +kernel) rfl w5 ?_
        refine x_aload_n (pc := 42) X dX1_setHeart_42 (i := 0) rfl 0 rfl ?_
        refine x_iload_n (pc := 43) X dX1_setHeart_43 (i := 3) rfl 3 rfl ?_
        obtain ⟨D6, w6, h⟩ := pass h
        refine x_puti (ci := 1) (k := 8) (n := 9) (C := RX1) (T := TX1) (D' := D6) (pc := 44) X dX1_setHeart_44 hk0 rfl (by decide) w_123 rfl (by decide +kernel) rfl w6 ?_
        refine x_iconst (v := 1) (pc := 47) X dX1_setHeart_47 (by decide) ?_
        obtain rfl := Option.some.inj h
        exact x_zret (pc := 48) X dX1_setHeart_48 (Or.inr rfl)
      · have h := ite_t c7 h
        refine x_iconst (v := 0) (pc := 30) X dX1_setHeart_30 (by decide) ?_
        obtain rfl := Option.some.inj h
        exact x_zret (pc := 31) X dX1_setHeart_31 (Or.inl rfl)
theorem dX1_hasPin_0 : decode cX1_hasPin 0 = .ok (.iload_n 1, 1) := by decide +kernel
theorem dX1_hasPin_1 : decode cX1_hasPin 1 = .ok (.ifCond .lt 21, 3) := by decide +kernel
theorem dX1_hasPin_4 : decode cX1_hasPin 4 = .ok (.iload_n 1, 1) := by decide +kernel
theorem dX1_hasPin_5 : decode cX1_hasPin 5 = .ok (.aload_n 0, 1) := by decide +kernel
theorem dX1_hasPin_6 : decode cX1_hasPin 6 = .ok (.getfield 28, 3) := by decide +kernel
theorem dX1_hasPin_9 : decode cX1_hasPin 9 = .ok (.if_icmp .ge 13, 3) := by decide +kernel
theorem dX1_hasPin_12 : decode cX1_hasPin 12 = .ok (.iload_n 1, 1) := by decide +kernel
theorem dX1_hasPin_13 : decode cX1_hasPin 13 = .ok (.bipush 8, 2) := by decide +kernel
theorem dX1_hasPin_15 : decode cX1_hasPin 15 = .ok (.if_icmp .ge 7, 3) := by decide +kernel
theorem dX1_hasPin_18 : decode cX1_hasPin 18 = .ok (.iconst 1, 1) := by decide +kernel
theorem dX1_hasPin_19 : decode cX1_hasPin 19 = .ok (.goto 4, 3) := by decide +kernel
theorem dX1_hasPin_22 : decode cX1_hasPin 22 = .ok (.iconst 0, 1) := by decide +kernel
theorem dX1_hasPin_23 : decode cX1_hasPin 23 = .ok (.ireturn, 1) := by decide +kernel
def f_F_hasPin (N nx : Nat) (D : Dt) (P : Ft) (a0 : Nat) (i1 : Int32) : Option Int32 :=
  if kd nx a0 = 1 then
  if i1 < 0 then
    some 0
  else
    if D a0 5 ≤ i1 then
      some 0
    else
      if 8 ≤ i1 then
        some 0
      else
        some 1
  else none
theorem m_F_hasPin : MV yX1_hasPin cX1_hasPin 2 (some .boolean) 1 := ⟨mT 408 (by decide +kernel) rfl, mT 406 (by decide +kernel) rfl, mT 407 (by decide +kernel) rfl, mT 56 (by decide +kernel) rfl, by decide +kernel, by decide +kernel, by decide +kernel⟩
set_option maxHeartbeats 4000000 in
set_option maxRecDepth 100000 in
theorem c_F_hasPin (l : Launch) (cx : Cx) (nx N : Nat) (D : Dt) (P : Ft) (a0 : Nat) (i1 : Int32) (z : Int32) (h : f_F_hasPin N nx D P a0 i1 = some z) : Ct l cx yX1_hasPin cX1_hasPin 2 (some .boolean) 0 [.ref (cx.2.2 + a0), .int i1] D P nx (some (.int z)) D P := by
  refine x_met0 (by decide) (Nat.le_of_ble_eq_true rfl) ?_
  intro p e s m args below meth c X
  have X : XC p s m args meth c cx cX1_hasPin 2 (some .boolean) "HeartPins$Family" "hasPin" := X
  refine XW.sub (lv' := [(0, .ref (cx.2.2 + a0)), (1, .int i1)]) [0, 1] rfl ?_
  unfold f_F_hasPin at h
  obtain ⟨hk0, h⟩ := grd h
  refine x_iload_n (pc := 0) X dX1_hasPin_0 (i := 1) rfl 1 rfl ?_
  refine x_if_lt (tgt := 22) (pc := 1) X dX1_hasPin_1 (by decide) (fun c3 => ?_) (fun c3 => ?_)
  · have h := ite_t c3 h
    refine x_iconst (v := 0) (pc := 22) X dX1_hasPin_22 (by decide) ?_
    obtain rfl := Option.some.inj h
    exact x_zret (pc := 23) X dX1_hasPin_23 (Or.inl rfl)
  · have h := ite_f c3 h
    refine x_iload_n (pc := 4) X dX1_hasPin_4 (i := 1) rfl 1 rfl ?_
    refine x_aload_n (pc := 5) X dX1_hasPin_5 (i := 0) rfl 0 rfl ?_
    refine x_geti (ci := 1) (k := 5) (n := 9) (C := RX1) (T := TX1) (pc := 6) X dX1_hasPin_6 hk0 rfl (by decide) w_115 rfl ?_
    refine x_icmp_ge (tgt := 22) (pc := 9) X dX1_hasPin_9 (by decide) (fun c2 => ?_) (fun c2 => ?_)
    · have h := ite_t c2 h
      refine x_iconst (v := 0) (pc := 22) X dX1_hasPin_22 (by decide) ?_
      obtain rfl := Option.some.inj h
      exact x_zret (pc := 23) X dX1_hasPin_23 (Or.inl rfl)
    · have h := ite_f c2 h
      refine x_iload_n (pc := 12) X dX1_hasPin_12 (i := 1) rfl 1 rfl ?_
      refine x_bipush (v := 8) (pc := 13) X dX1_hasPin_13 (by decide) ?_
      refine x_icmp_ge (tgt := 22) (pc := 15) X dX1_hasPin_15 (by decide) (fun c1 => ?_) (fun c1 => ?_)
      · have h := ite_t c1 h
        refine x_iconst (v := 0) (pc := 22) X dX1_hasPin_22 (by decide) ?_
        obtain rfl := Option.some.inj h
        exact x_zret (pc := 23) X dX1_hasPin_23 (Or.inl rfl)
      · have h := ite_f c1 h
        refine x_iconst (v := 1) (pc := 18) X dX1_hasPin_18 (by decide) ?_
        refine x_goto (tgt := 23) (pc := 19) X dX1_hasPin_19 (by decide) ?_
        obtain rfl := Option.some.inj h
        exact x_zret (pc := 23) X dX1_hasPin_23 (Or.inr rfl)
theorem dX1_bearableBy_0 : decode cX1_bearableBy 0 = .ok (.iload_n 1, 1) := by decide +kernel
theorem dX1_bearableBy_1 : decode cX1_bearableBy 1 = .ok (.ifCond .lt 17, 3) := by decide +kernel
theorem dX1_bearableBy_4 : decode cX1_bearableBy 4 = .ok (.iload_n 1, 1) := by decide +kernel
theorem dX1_bearableBy_5 : decode cX1_bearableBy 5 = .ok (.iconst 5, 1) := by decide +kernel
theorem dX1_bearableBy_6 : decode cX1_bearableBy 6 = .ok (.if_icmp .ge 12, 3) := by decide +kernel
theorem dX1_bearableBy_9 : decode cX1_bearableBy 9 = .ok (.aload_n 0, 1) := by decide +kernel
theorem dX1_bearableBy_10 : decode cX1_bearableBy 10 = .ok (.getfield 9, 3) := by decide +kernel
theorem dX1_bearableBy_13 : decode cX1_bearableBy 13 = .ok (.iload_n 1, 1) := by decide +kernel
theorem dX1_bearableBy_14 : decode cX1_bearableBy 14 = .ok (.iaload, 1) := by decide +kernel
theorem dX1_bearableBy_15 : decode cX1_bearableBy 15 = .ok (.goto 4, 3) := by decide +kernel
theorem dX1_bearableBy_18 : decode cX1_bearableBy 18 = .ok (.iconst 0, 1) := by decide +kernel
theorem dX1_bearableBy_19 : decode cX1_bearableBy 19 = .ok (.ireturn, 1) := by decide +kernel
def f_F_bearableBy (N nx : Nat) (D : Dt) (P : Ft) (a0 : Nat) (i1 : Int32) : Option Int32 :=
  if kd nx a0 = 1 then
  if i1 < 0 then
    some 0
  else
    if 5 ≤ i1 then
      some 0
    else
      nn (P a0 0) fun q1 =>
      if ab nx q1 3 i1 = true then
      some (D q1 i1.toNatClampNeg)
      else none
  else none
theorem m_F_bearableBy : MV yX1_bearableBy cX1_bearableBy 2 (some .int) 1 := ⟨mT 478 (by decide +kernel) rfl, mT 476 (by decide +kernel) rfl, mT 477 (by decide +kernel) rfl, mT 56 (by decide +kernel) rfl, by decide +kernel, by decide +kernel, by decide +kernel⟩
set_option maxHeartbeats 4000000 in
set_option maxRecDepth 100000 in
theorem c_F_bearableBy (l : Launch) (cx : Cx) (nx N : Nat) (D : Dt) (P : Ft) (a0 : Nat) (i1 : Int32) (z : Int32) (h : f_F_bearableBy N nx D P a0 i1 = some z) : Ct l cx yX1_bearableBy cX1_bearableBy 2 (some .int) 0 [.ref (cx.2.2 + a0), .int i1] D P nx (some (.int z)) D P := by
  refine x_met0 (by decide) (Nat.le_of_ble_eq_true rfl) ?_
  intro p e s m args below meth c X
  have X : XC p s m args meth c cx cX1_bearableBy 2 (some .int) "HeartPins$Family" "bearableBy" := X
  refine XW.sub (lv' := [(0, .ref (cx.2.2 + a0)), (1, .int i1)]) [0, 1] rfl ?_
  unfold f_F_bearableBy at h
  obtain ⟨hk0, h⟩ := grd h
  refine x_iload_n (pc := 0) X dX1_bearableBy_0 (i := 1) rfl 1 rfl ?_
  refine x_if_lt (tgt := 18) (pc := 1) X dX1_bearableBy_1 (by decide) (fun c4 => ?_) (fun c4 => ?_)
  · have h := ite_t c4 h
    refine x_iconst (v := 0) (pc := 18) X dX1_bearableBy_18 (by decide) ?_
    obtain rfl := Option.some.inj h
    exact x_iret (pc := 19) X dX1_bearableBy_19
  · have h := ite_f c4 h
    refine x_iload_n (pc := 4) X dX1_bearableBy_4 (i := 1) rfl 1 rfl ?_
    refine x_iconst (v := 5) (pc := 5) X dX1_bearableBy_5 (by decide) ?_
    refine x_icmp_ge (tgt := 18) (pc := 6) X dX1_bearableBy_6 (by decide) (fun c3 => ?_) (fun c3 => ?_)
    · have h := ite_t c3 h
      refine x_iconst (v := 0) (pc := 18) X dX1_bearableBy_18 (by decide) ?_
      obtain rfl := Option.some.inj h
      exact x_iret (pc := 19) X dX1_bearableBy_19
    · have h := ite_f c3 h
      refine x_aload_n (pc := 9) X dX1_bearableBy_9 (i := 0) rfl 0 rfl ?_
      obtain ⟨q1, e1, h⟩ := nns h
      refine x_getr (ci := 1) (k := 0) (n := 9) (C := RX1) (T := TX1) (pc := 10) X dX1_bearableBy_10 hk0 rfl (by decide) w_106 rfl e1 ?_
      refine x_iload_n (pc := 13) X dX1_bearableBy_13 (i := 1) rfl 1 rfl ?_
      obtain ⟨g2, h⟩ := grd h
      refine x_iald (pc := 14) X dX1_bearableBy_14 g2 ?_
      refine x_goto (tgt := 19) (pc := 15) X dX1_bearableBy_15 (by decide) ?_
      obtain rfl := Option.some.inj h
      exact x_iret (pc := 19) X dX1_bearableBy_19
theorem dX1_ownerOf_0 : decode cX1_ownerOf 0 = .ok (.iload_n 1, 1) := by decide +kernel
theorem dX1_ownerOf_1 : decode cX1_ownerOf 1 = .ok (.ifCond .lt 18, 3) := by decide +kernel
theorem dX1_ownerOf_4 : decode cX1_ownerOf 4 = .ok (.iload_n 1, 1) := by decide +kernel
theorem dX1_ownerOf_5 : decode cX1_ownerOf 5 = .ok (.bipush 8, 2) := by decide +kernel
theorem dX1_ownerOf_7 : decode cX1_ownerOf 7 = .ok (.if_icmp .ge 12, 3) := by decide +kernel
theorem dX1_ownerOf_10 : decode cX1_ownerOf 10 = .ok (.aload_n 0, 1) := by decide +kernel
theorem dX1_ownerOf_11 : decode cX1_ownerOf 11 = .ok (.getfield 15, 3) := by decide +kernel
theorem dX1_ownerOf_14 : decode cX1_ownerOf 14 = .ok (.iload_n 1, 1) := by decide +kernel
theorem dX1_ownerOf_15 : decode cX1_ownerOf 15 = .ok (.iaload, 1) := by decide +kernel
theorem dX1_ownerOf_16 : decode cX1_ownerOf 16 = .ok (.goto 5, 3) := by decide +kernel
theorem dX1_ownerOf_19 : decode cX1_ownerOf 19 = .ok (.bipush (-4), 2) := by decide +kernel
theorem dX1_ownerOf_21 : decode cX1_ownerOf 21 = .ok (.ireturn, 1) := by decide +kernel
def f_F_ownerOf (N nx : Nat) (D : Dt) (P : Ft) (a0 : Nat) (i1 : Int32) : Option Int32 :=
  if kd nx a0 = 1 then
  if i1 < 0 then
    some (-4)
  else
    if 8 ≤ i1 then
      some (-4)
    else
      nn (P a0 1) fun q1 =>
      if ab nx q1 3 i1 = true then
      some (D q1 i1.toNatClampNeg)
      else none
  else none
theorem m_F_ownerOf : MV yX1_ownerOf cX1_ownerOf 2 (some .int) 1 := ⟨mT 505 (by decide +kernel) rfl, mT 503 (by decide +kernel) rfl, mT 504 (by decide +kernel) rfl, mT 56 (by decide +kernel) rfl, by decide +kernel, by decide +kernel, by decide +kernel⟩
set_option maxHeartbeats 4000000 in
set_option maxRecDepth 100000 in
theorem c_F_ownerOf (l : Launch) (cx : Cx) (nx N : Nat) (D : Dt) (P : Ft) (a0 : Nat) (i1 : Int32) (z : Int32) (h : f_F_ownerOf N nx D P a0 i1 = some z) : Ct l cx yX1_ownerOf cX1_ownerOf 2 (some .int) 0 [.ref (cx.2.2 + a0), .int i1] D P nx (some (.int z)) D P := by
  refine x_met0 (by decide) (Nat.le_of_ble_eq_true rfl) ?_
  intro p e s m args below meth c X
  have X : XC p s m args meth c cx cX1_ownerOf 2 (some .int) "HeartPins$Family" "ownerOf" := X
  refine XW.sub (lv' := [(0, .ref (cx.2.2 + a0)), (1, .int i1)]) [0, 1] rfl ?_
  unfold f_F_ownerOf at h
  obtain ⟨hk0, h⟩ := grd h
  refine x_iload_n (pc := 0) X dX1_ownerOf_0 (i := 1) rfl 1 rfl ?_
  refine x_if_lt (tgt := 19) (pc := 1) X dX1_ownerOf_1 (by decide) (fun c4 => ?_) (fun c4 => ?_)
  · have h := ite_t c4 h
    refine x_bipush (v := (-4)) (pc := 19) X dX1_ownerOf_19 (by decide) ?_
    obtain rfl := Option.some.inj h
    exact x_iret (pc := 21) X dX1_ownerOf_21
  · have h := ite_f c4 h
    refine x_iload_n (pc := 4) X dX1_ownerOf_4 (i := 1) rfl 1 rfl ?_
    refine x_bipush (v := 8) (pc := 5) X dX1_ownerOf_5 (by decide) ?_
    refine x_icmp_ge (tgt := 19) (pc := 7) X dX1_ownerOf_7 (by decide) (fun c3 => ?_) (fun c3 => ?_)
    · have h := ite_t c3 h
      refine x_bipush (v := (-4)) (pc := 19) X dX1_ownerOf_19 (by decide) ?_
      obtain rfl := Option.some.inj h
      exact x_iret (pc := 21) X dX1_ownerOf_21
    · have h := ite_f c3 h
      refine x_aload_n (pc := 10) X dX1_ownerOf_10 (i := 0) rfl 0 rfl ?_
      obtain ⟨q1, e1, h⟩ := nns h
      refine x_getr (ci := 1) (k := 1) (n := 9) (C := RX1) (T := TX1) (pc := 11) X dX1_ownerOf_11 hk0 rfl (by decide) w_107 rfl e1 ?_
      refine x_iload_n (pc := 14) X dX1_ownerOf_14 (i := 1) rfl 1 rfl ?_
      obtain ⟨g2, h⟩ := grd h
      refine x_iald (pc := 15) X dX1_ownerOf_15 g2 ?_
      refine x_goto (tgt := 21) (pc := 16) X dX1_ownerOf_16 (by decide) ?_
      obtain rfl := Option.some.inj h
      exact x_iret (pc := 21) X dX1_ownerOf_21
theorem dX1_kindOf_0 : decode cX1_kindOf 0 = .ok (.iload_n 1, 1) := by decide +kernel
theorem dX1_kindOf_1 : decode cX1_kindOf 1 = .ok (.ifCond .lt 18, 3) := by decide +kernel
theorem dX1_kindOf_4 : decode cX1_kindOf 4 = .ok (.iload_n 1, 1) := by decide +kernel
theorem dX1_kindOf_5 : decode cX1_kindOf 5 = .ok (.bipush 8, 2) := by decide +kernel
theorem dX1_kindOf_7 : decode cX1_kindOf 7 = .ok (.if_icmp .ge 12, 3) := by decide +kernel
theorem dX1_kindOf_10 : decode cX1_kindOf 10 = .ok (.aload_n 0, 1) := by decide +kernel
theorem dX1_kindOf_11 : decode cX1_kindOf 11 = .ok (.getfield 18, 3) := by decide +kernel
theorem dX1_kindOf_14 : decode cX1_kindOf 14 = .ok (.iload_n 1, 1) := by decide +kernel
theorem dX1_kindOf_15 : decode cX1_kindOf 15 = .ok (.iaload, 1) := by decide +kernel
theorem dX1_kindOf_16 : decode cX1_kindOf 16 = .ok (.goto 4, 3) := by decide +kernel
theorem dX1_kindOf_19 : decode cX1_kindOf 19 = .ok (.iconst 0, 1) := by decide +kernel
theorem dX1_kindOf_20 : decode cX1_kindOf 20 = .ok (.ireturn, 1) := by decide +kernel
def f_F_kindOf (N nx : Nat) (D : Dt) (P : Ft) (a0 : Nat) (i1 : Int32) : Option Int32 :=
  if kd nx a0 = 1 then
  if i1 < 0 then
    some 0
  else
    if 8 ≤ i1 then
      some 0
    else
      nn (P a0 2) fun q1 =>
      if ab nx q1 3 i1 = true then
      some (D q1 i1.toNatClampNeg)
      else none
  else none
theorem m_F_kindOf : MV yX1_kindOf cX1_kindOf 2 (some .int) 1 := ⟨mT 509 (by decide +kernel) rfl, mT 507 (by decide +kernel) rfl, mT 508 (by decide +kernel) rfl, mT 56 (by decide +kernel) rfl, by decide +kernel, by decide +kernel, by decide +kernel⟩
set_option maxHeartbeats 4000000 in
set_option maxRecDepth 100000 in
theorem c_F_kindOf (l : Launch) (cx : Cx) (nx N : Nat) (D : Dt) (P : Ft) (a0 : Nat) (i1 : Int32) (z : Int32) (h : f_F_kindOf N nx D P a0 i1 = some z) : Ct l cx yX1_kindOf cX1_kindOf 2 (some .int) 0 [.ref (cx.2.2 + a0), .int i1] D P nx (some (.int z)) D P := by
  refine x_met0 (by decide) (Nat.le_of_ble_eq_true rfl) ?_
  intro p e s m args below meth c X
  have X : XC p s m args meth c cx cX1_kindOf 2 (some .int) "HeartPins$Family" "kindOf" := X
  refine XW.sub (lv' := [(0, .ref (cx.2.2 + a0)), (1, .int i1)]) [0, 1] rfl ?_
  unfold f_F_kindOf at h
  obtain ⟨hk0, h⟩ := grd h
  refine x_iload_n (pc := 0) X dX1_kindOf_0 (i := 1) rfl 1 rfl ?_
  refine x_if_lt (tgt := 19) (pc := 1) X dX1_kindOf_1 (by decide) (fun c4 => ?_) (fun c4 => ?_)
  · have h := ite_t c4 h
    refine x_iconst (v := 0) (pc := 19) X dX1_kindOf_19 (by decide) ?_
    obtain rfl := Option.some.inj h
    exact x_iret (pc := 20) X dX1_kindOf_20
  · have h := ite_f c4 h
    refine x_iload_n (pc := 4) X dX1_kindOf_4 (i := 1) rfl 1 rfl ?_
    refine x_bipush (v := 8) (pc := 5) X dX1_kindOf_5 (by decide) ?_
    refine x_icmp_ge (tgt := 19) (pc := 7) X dX1_kindOf_7 (by decide) (fun c3 => ?_) (fun c3 => ?_)
    · have h := ite_t c3 h
      refine x_iconst (v := 0) (pc := 19) X dX1_kindOf_19 (by decide) ?_
      obtain rfl := Option.some.inj h
      exact x_iret (pc := 20) X dX1_kindOf_20
    · have h := ite_f c3 h
      refine x_aload_n (pc := 10) X dX1_kindOf_10 (i := 0) rfl 0 rfl ?_
      obtain ⟨q1, e1, h⟩ := nns h
      refine x_getr (ci := 1) (k := 2) (n := 9) (C := RX1) (T := TX1) (pc := 11) X dX1_kindOf_11 hk0 rfl (by decide) w_109 rfl e1 ?_
      refine x_iload_n (pc := 14) X dX1_kindOf_14 (i := 1) rfl 1 rfl ?_
      obtain ⟨g2, h⟩ := grd h
      refine x_iald (pc := 15) X dX1_kindOf_15 g2 ?_
      refine x_goto (tgt := 20) (pc := 16) X dX1_kindOf_16 (by decide) ?_
      obtain rfl := Option.some.inj h
      exact x_iret (pc := 20) X dX1_kindOf_20
