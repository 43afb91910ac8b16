/-! what is made: constructors -/
def zD (D : Dt) (nx : Nat) : Dt := fun q => if q = nx then fun _ => 0 else D q
def zP (P : Ft) (nx : Nat) : Ft := fun q => if q = nx then fun _ => none else P q
section XN
variable {p : Program} {l : Launch} {e : Env} {R : Room} {s : State} {m : MethodId} {args : Array Value} {below : List Frame} {meth : Method} {c : Code} {Q : State → Prop} {cx : Cx} {b : ByteArray} {nL : Nat} {rt : Option FieldType} {own mn : String} {D : Dt} {P : Ft} {nx cells slots pc : Nat} {lv : List (Nat × Value)} {st : List Value}
theorem XW.ren {nx' c' s' : Nat} (h1 : nx = nx') (h2 : cells = c') (h3 : slots = s') (kk : XW p l e R s m args below meth c Q cx nL D P nx' c' s' pc lv st) : XW p l e R s m args below meth c Q cx nL D P nx cells slots pc lv st := by
  subst h1; subst h2; subst h3; exact kk
end XN
theorem dfl0 : ∀ k, k < 4 → ∀ ty, parseFieldDescriptor (TX0 k).2.2.1 = some ty → defaultValue ty = if isI 0 k = true then .int 0 else .null := by
  intro k hk ty h
  rw [tyX0_ok k hk] at h
  cases h
  rcases (show k = 0 ∨ k = 1 ∨ k = 2 ∨ k = 3 by omega) with rfl | rfl | rfl | rfl <;> rfl
theorem dfl1 : ∀ k, k < 9 → ∀ ty, parseFieldDescriptor (TX1 k).2.2.1 = some ty → defaultValue ty = if isI 1 k = true then .int 0 else .null := by
  intro k hk ty h
  rw [tyX1_ok k hk] at h
  cases h
  rcases (show k = 0 ∨ k = 1 ∨ k = 2 ∨ k = 3 ∨ k = 4 ∨ k = 5 ∨ k = 6 ∨ k = 7 ∨ k = 8 by omega) with rfl | rfl | rfl | rfl | rfl | rfl | rfl | rfl | rfl <;> rfl
theorem dfl2 : ∀ k, k < 4 → ∀ ty, parseFieldDescriptor (TX2 k).2.2.1 = some ty → defaultValue ty = if isI 2 k = true then .int 0 else .null := by
  intro k hk ty h
  rw [tyX2_ok k hk] at h
  cases h
  rcases (show k = 0 ∨ k = 1 ∨ k = 2 ∨ k = 3 by omega) with rfl | rfl | rfl | rfl <;> rfl
theorem dfl3 : ∀ k, k < 4 → ∀ ty, parseFieldDescriptor (TX3 k).2.2.1 = some ty → defaultValue ty = if isI 3 k = true then .int 0 else .null := by
  intro k hk ty h
  rw [tyX3_ok k hk] at h
  cases h
  rcases (show k = 0 ∨ k = 1 ∨ k = 2 ∨ k = 3 by omega) with rfl | rfl | rfl | rfl <;> rfl
theorem dfl4 : ∀ k, k < 6 → ∀ ty, parseFieldDescriptor (TX4 k).2.2.1 = some ty → defaultValue ty = if isI 4 k = true then .int 0 else .null := by
  intro k hk ty h
  rw [tyX4_ok k hk] at h
  cases h
  rcases (show k = 0 ∨ k = 1 ∨ k = 2 ∨ k = 3 ∨ k = 4 ∨ k = 5 by omega) with rfl | rfl | rfl | rfl | rfl | rfl <;> rfl
theorem dfl5 : ∀ k, k < 8 → ∀ ty, parseFieldDescriptor (TX5 k).2.2.1 = some ty → defaultValue ty = if isI 5 k = true then .int 0 else .null := by
  intro k hk ty h
  rw [tyX5_ok k hk] at h
  cases h
  rcases (show k = 0 ∨ k = 1 ∨ k = 2 ∨ k = 3 ∨ k = 4 ∨ k = 5 ∨ k = 6 ∨ k = 7 by omega) with rfl | rfl | rfl | rfl | rfl | rfl | rfl | rfl <;> rfl
theorem dfl6 : ∀ k, k < 2 → ∀ ty, parseFieldDescriptor (TX6 k).2.2.1 = some ty → defaultValue ty = if isI 6 k = true then .int 0 else .null := by
  intro k hk ty h
  rw [tyX6_ok k hk] at h
  cases h
  rcases (show k = 0 ∨ k = 1 by omega) with rfl | rfl <;> rfl
theorem dfl7 : ∀ k, k < 5 → ∀ ty, parseFieldDescriptor (TX7 k).2.2.1 = some ty → defaultValue ty = if isI 7 k = true then .int 0 else .null := by
  intro k hk ty h
  rw [tyX7_ok k hk] at h
  cases h
  rcases (show k = 0 ∨ k = 1 ∨ k = 2 ∨ k = 3 ∨ k = 4 by omega) with rfl | rfl | rfl | rfl | rfl <;> rfl
theorem dfl8 : ∀ k, k < 11 → ∀ ty, parseFieldDescriptor (TX8 k).2.2.1 = some ty → defaultValue ty = if isI 8 k = true then .int 0 else .null := by
  intro k hk ty h
  rw [tyX8_ok k hk] at h
  cases h
  rcases (show k = 0 ∨ k = 1 ∨ k = 2 ∨ k = 3 ∨ k = 4 ∨ k = 5 ∨ k = 6 ∨ k = 7 ∨ k = 8 ∨ k = 9 ∨ k = 10 by omega) with rfl | rfl | rfl | rfl | rfl | rfl | rfl | rfl | rfl | rfl | rfl <;> rfl
theorem dfl9 : ∀ k, k < 26 → ∀ ty, parseFieldDescriptor (TX9 k).2.2.1 = some ty → defaultValue ty = if isI 9 k = true then .int 0 else .null := by
  intro k hk ty h
  rw [tyX9_ok k hk] at h
  cases h
  rcases (show k = 0 ∨ k = 1 ∨ k = 2 ∨ k = 3 ∨ k = 4 ∨ k = 5 ∨ k = 6 ∨ k = 7 ∨ k = 8 ∨ k = 9 ∨ k = 10 ∨ k = 11 ∨ k = 12 ∨ k = 13 ∨ k = 14 ∨ k = 15 ∨ k = 16 ∨ k = 17 ∨ k = 18 ∨ k = 19 ∨ k = 20 ∨ k = 21 ∨ k = 22 ∨ k = 23 ∨ k = 24 ∨ k = 25 by omega) with rfl | rfl | rfl | rfl | rfl | rfl | rfl | rfl | rfl | rfl | rfl | rfl | rfl | rfl | rfl | rfl | rfl | rfl | rfl | rfl | rfl | rfl | rfl | rfl | rfl | rfl <;> rfl
theorem w_57 : Cond.initialized "HeartPins$Standing" ∈ wT := mT 57 (by decide +kernel) rfl
theorem w_83 : Cond.methodLink "HeartPins$Letters" 3 ⟨"java/lang/Object", "<init>", "()V"⟩ ∈ wT := mT 83 (by decide +kernel) rfl
theorem w_98 : Cond.arrayClass FieldType.char ∈ wT := mT 98 (by decide +kernel) rfl
theorem w_99 : Cond.arrayClass FieldType.int ∈ wT := mT 99 (by decide +kernel) rfl
theorem w_105 : Cond.methodLink "HeartPins$Family" 3 ⟨"java/lang/Object", "<init>", "()V"⟩ ∈ wT := mT 105 (by decide +kernel) rfl
theorem w_146 : Cond.instantiable "HeartPins$Standing" 5 ∈ wT := mT 146 (by decide +kernel) rfl
theorem w_150 : Cond.methodLink "HeartPins$Standing" 3 ⟨"java/lang/Object", "<init>", "()V"⟩ ∈ wT := mT 150 (by decide +kernel) rfl
theorem w_176 : Cond.methodLink "HeartPins$Shelf" 1 ⟨"java/lang/Object", "<init>", "()V"⟩ ∈ wT := mT 176 (by decide +kernel) rfl
theorem w_177 : Cond.methodLink "HeartPins$Shelf" 7 ⟨"java/lang/Math", "max", "(II)I"⟩ ∈ wT := mT 177 (by decide +kernel) rfl
theorem w_180 : Cond.classLink "HeartPins$Shelf" 13 "HeartPins$Standing" ∈ wT := mT 180 (by decide +kernel) rfl
theorem w_182 : Cond.methodLink "HeartPins$Shelf" 21 ⟨"HeartPins$Standing", "<init>", "(LHeartPins$Family;)V"⟩ ∈ wT := mT 182 (by decide +kernel) rfl
theorem w_196 : Cond.methodLink "HeartPins$Notes" 3 ⟨"java/lang/Object", "<init>", "()V"⟩ ∈ wT := mT 196 (by decide +kernel) rfl
theorem w_224 : Cond.methodLink "HeartPins$Matching" 3 ⟨"java/lang/Object", "<init>", "()V"⟩ ∈ wT := mT 224 (by decide +kernel) rfl
theorem w_244 : Cond.methodLink "HeartPins$Sharing" 3 ⟨"java/lang/Object", "<init>", "()V"⟩ ∈ wT := mT 244 (by decide +kernel) rfl
theorem w_276 : Cond.methodLink "HeartPins$BadDays" 3 ⟨"java/lang/Object", "<init>", "()V"⟩ ∈ wT := mT 276 (by decide +kernel) rfl
theorem w_277 : Cond.classLink "HeartPins$BadDays" 9 "HeartPins$Standing" ∈ wT := mT 277 (by decide +kernel) rfl
theorem w_278 : Cond.methodLink "HeartPins$BadDays" 17 ⟨"HeartPins$Standing", "<init>", "(LHeartPins$Family;)V"⟩ ∈ wT := mT 278 (by decide +kernel) rfl
theorem w_455 : Cond.arrayClass FieldType.byte ∈ wT := mT 455 (by decide +kernel) rfl
theorem w_864 : Cond.methodLink "HeartPinsModel" 1 ⟨"java/lang/Object", "<init>", "()V"⟩ ∈ wT := mT 864 (by decide +kernel) rfl
theorem w_865 : Cond.methodLink "HeartPinsModel" 68 ⟨"HeartPinsModel", "first", "()V"⟩ ∈ wT := mT 865 (by decide +kernel) rfl
theorem dX1_init_0 : decode cX1_init 0 = .ok (.aload_n 0, 1) := by decide +kernel
theorem dX1_init_1 : decode cX1_init 1 = .ok (.invokespecial 3, 3) := by decide +kernel
theorem dX1_init_4 : decode cX1_init 4 = .ok (.aload_n 0, 1) := by decide +kernel
theorem dX1_init_5 : decode cX1_init 5 = .ok (.iconst 5, 1) := by decide +kernel
theorem dX1_init_6 : decode cX1_init 6 = .ok (.newarray .int, 2) := by decide +kernel
theorem dX1_init_8 : decode cX1_init 8 = .ok (.putfield 9, 3) := by decide +kernel
theorem dX1_init_11 : decode cX1_init 11 = .ok (.aload_n 0, 1) := by decide +kernel
theorem dX1_init_12 : decode cX1_init 12 = .ok (.bipush 8, 2) := by decide +kernel
theorem dX1_init_14 : decode cX1_init 14 = .ok (.newarray .int, 2) := by decide +kernel
theorem dX1_init_16 : decode cX1_init 16 = .ok (.putfield 15, 3) := by decide +kernel
theorem dX1_init_19 : decode cX1_init 19 = .ok (.aload_n 0, 1) := by decide +kernel
theorem dX1_init_20 : decode cX1_init 20 = .ok (.bipush 8, 2) := by decide +kernel
theorem dX1_init_22 : decode cX1_init 22 = .ok (.newarray .int, 2) := by decide +kernel
theorem dX1_init_24 : decode cX1_init 24 = .ok (.putfield 18, 3) := by decide +kernel
theorem dX1_init_27 : decode cX1_init 27 = .ok (.aload_n 0, 1) := by decide +kernel
theorem dX1_init_28 : decode cX1_init 28 = .ok (.bipush 8, 2) := by decide +kernel
theorem dX1_init_30 : decode cX1_init 30 = .ok (.newarray .int, 2) := by decide +kernel
theorem dX1_init_32 : decode cX1_init 32 = .ok (.putfield 21, 3) := by decide +kernel
theorem dX1_init_35 : decode cX1_init 35 = .ok (.return_, 1) := by decide +kernel
def f_F_init (N nx : Nat) (D : Dt) (P : Ft) (a0 : Nat) : Option (Dt × Ft) :=
  if kd nx a0 = 1 then
  if SH nx = 30005 then
  pas (zD D nx) fun D1 =>
  pas (zP P nx) fun P1 =>
  if kd (nx + 1) a0 = 1 then
  pas (updF P1 a0 0 (some nx)) fun P3 =>
  if SH (nx + 1) = 30008 then
  pas (zD D1 (nx + 1)) fun D4 =>
  pas (zP P3 (nx + 1)) fun P4 =>
  if kd (nx + 2) a0 = 1 then
  pas (updF P4 a0 1 (some (nx + 1))) fun P6 =>
  if SH (nx + 2) = 30008 then
  pas (zD D4 (nx + 2)) fun D7 =>
  pas (zP P6 (nx + 2)) fun P7 =>
  if kd (nx + 3) a0 = 1 then
  pas (updF P7 a0 2 (some (nx + 2))) fun P9 =>
  if SH (nx + 3) = 30008 then
  pas (zD D7 (nx + 3)) fun D10 =>
  pas (zP P9 (nx + 3)) fun P10 =>
  if kd (nx + 4) a0 = 1 then
  pas (updF P10 a0 3 (some (nx + 3))) fun P12 =>
  some (D10, P12)
  else none
  else none
  else none
  else none
  else none
  else none
  else none
  else none
  else none
theorem m_F_init : MI yX1_init cX1_init 1 0 := ⟨mT 104 (by decide +kernel) rfl, mT 103 (by decide +kernel) rfl, rfl, mT 56 (by decide +kernel) rfl, by decide +kernel, by decide +kernel, by decide +kernel⟩
set_option maxHeartbeats 4000000 in
set_option maxRecDepth 100000 in
theorem c_F_init (l : Launch) (cx : Cx) (nx N : Nat) (D : Dt) (P : Ft) (a0 : Nat) (z : Dt × Ft) (h : f_F_init N nx D P a0 = some z) : Cc l cx yX1_init cX1_init 1 1 4 29 [.ref (cx.2.2 + a0)] D P nx z.1 z.2 (nx + 4) := by
  refine x_met0 (by decide) (Nat.le_of_ble_eq_true rfl) ?_
  intro p e s m args below meth c X
  have X : XC p s m args meth c cx cX1_init 1 none "HeartPins$Family" "<init>" := X
  refine XW.sub (lv' := [(0, .ref (cx.2.2 + a0))]) [0] rfl ?_
  unfold f_F_init at h
  obtain ⟨hk0, h⟩ := grd h
  refine x_aload_n (pc := 0) X dX1_init_0 (i := 0) rfl 0 rfl ?_
  refine x_objInit (pc := 1) X dX1_init_1 w_105 w_oi1 w_oi2 ⟨by decide, by decide⟩ (Nat.le_of_ble_eq_true rfl) ?_
  refine x_aload_n (pc := 4) X dX1_init_4 (i := 0) rfl 0 rfl ?_
  refine x_iconst (v := 5) (pc := 5) X dX1_init_5 (by decide) ?_
  obtain ⟨k1, h⟩ := grd h
  obtain ⟨D1, w1, h⟩ := pass h
  obtain ⟨P1, u1, h⟩ := pass h
  refine x_newarr (t := 3) (N := 5) (D' := D1) (P' := P1) (pc := 6) X dX1_init_6 k1 (by decide) (by decide) (by decide) w_99 w1 u1 (Or.inr (Or.inr ⟨rfl, rfl, rfl⟩)) ⟨by decide, by decide⟩ ?_
  refine XW.ren (nx' := nx + 1) (c' := 1) (s' := 5) rfl rfl rfl ?_
  obtain ⟨k2, h⟩ := grd h
  obtain ⟨P3, w3, h⟩ := pass h
  refine x_putr (ci := 1) (k := 0) (n := 9) (C := RX1) (T := TX1) (ty := .array (.int)) (P' := P3) (pc := 8) X dX1_init_8 k2 rfl (by decide) w_106 rfl (by decide +kernel) (Or.inr ⟨_, rfl⟩) rfl w3 ?_
  refine x_aload_n (pc := 11) X dX1_init_11 (i := 0) rfl 0 rfl ?_
  refine x_bipush (v := 8) (pc := 12) X dX1_init_12 (by decide) ?_
  obtain ⟨k4, h⟩ := grd h
  obtain ⟨D4, w4, h⟩ := pass h
  obtain ⟨P4, u4, h⟩ := pass h
  refine x_newarr (t := 3) (N := 8) (D' := D4) (P' := P4) (pc := 14) X dX1_init_14 k4 (by decide) (by decide) (by decide) w_99 w4 u4 (Or.inr (Or.inr ⟨rfl, rfl, rfl⟩)) ⟨by decide, by decide⟩ ?_
  refine XW.ren (nx' := nx + 2) (c' := 2) (s' := 13) rfl rfl rfl ?_
  obtain ⟨k5, h⟩ := grd h
  obtain ⟨P6, w6, h⟩ := pass h
  refine x_putr (ci := 1) (k := 1) (n := 9) (C := RX1) (T := TX1) (ty := .array (.int)) (P' := P6) (pc := 16) X dX1_init_16 k5 rfl (by decide) w_107 rfl (by decide +kernel) (Or.inr ⟨_, rfl⟩) rfl w6 ?_
  refine x_aload_n (pc := 19) X dX1_init_19 (i := 0) rfl 0 rfl ?_
  refine x_bipush (v := 8) (pc := 20) X dX1_init_20 (by decide) ?_
  obtain ⟨k7, h⟩ := grd h
  obtain ⟨D7, w7, h⟩ := pass h
  obtain ⟨P7, u7, h⟩ := pass h
  refine x_newarr (t := 3) (N := 8) (D' := D7) (P' := P7) (pc := 22) X dX1_init_22 k7 (by decide) (by decide) (by decide) w_99 w7 u7 (Or.inr (Or.inr ⟨rfl, rfl, rfl⟩)) ⟨by decide, by decide⟩ ?_
  refine XW.ren (nx' := nx + 3) (c' := 3) (s' := 21) rfl rfl rfl ?_
  obtain ⟨k8, h⟩ := grd h
  obtain ⟨P9, w9, h⟩ := pass h
  refine x_putr (ci := 1) (k := 2) (n := 9) (C := RX1) (T := TX1) (ty := .array (.int)) (P' := P9) (pc := 24) X dX1_init_24 k8 rfl (by decide) w_109 rfl (by decide +kernel) (Or.inr ⟨_, rfl⟩) rfl w9 ?_
  refine x_aload_n (pc := 27) X dX1_init_27 (i := 0) rfl 0 rfl ?_
  refine x_bipush (v := 8) (pc := 28) X dX1_init_28 (by decide) ?_
  obtain ⟨k10, h⟩ := grd h
  obtain ⟨D10, w10, h⟩ := pass h
  obtain ⟨P10, u10, h⟩ := pass h
  refine x_newarr (t := 3) (N := 8) (D' := D10) (P' := P10) (pc := 30) X dX1_init_30 k10 (by decide) (by decide) (by decide) w_99 w10 u10 (Or.inr (Or.inr ⟨rfl, rfl, rfl⟩)) ⟨by decide, by decide⟩ ?_
  refine XW.ren (nx' := nx + 4) (c' := 4) (s' := 29) rfl rfl rfl ?_
  obtain ⟨k11, h⟩ := grd h
  obtain ⟨P12, w12, h⟩ := pass h
  refine x_putr (ci := 1) (k := 3) (n := 9) (C := RX1) (T := TX1) (ty := .array (.int)) (P' := P12) (pc := 32) X dX1_init_32 k11 rfl (by decide) w_110 rfl (by decide +kernel) (Or.inr ⟨_, rfl⟩) rfl w12 ?_
  obtain rfl := Option.some.inj h
  exact x_vret (pc := 35) X dX1_init_35
theorem dX2_init_0 : decode cX2_init 0 = .ok (.aload_n 0, 1) := by decide +kernel
theorem dX2_init_1 : decode cX2_init 1 = .ok (.invokespecial 3, 3) := by decide +kernel
theorem dX2_init_4 : decode cX2_init 4 = .ok (.aload_n 0, 1) := by decide +kernel
theorem dX2_init_5 : decode cX2_init 5 = .ok (.sipush 200, 3) := by decide +kernel
theorem dX2_init_8 : decode cX2_init 8 = .ok (.newarray .char, 2) := by decide +kernel
theorem dX2_init_10 : decode cX2_init 10 = .ok (.putfield 9, 3) := by decide +kernel
theorem dX2_init_13 : decode cX2_init 13 = .ok (.aload_n 0, 1) := by decide +kernel
theorem dX2_init_14 : decode cX2_init 14 = .ok (.iconst 3, 1) := by decide +kernel
theorem dX2_init_15 : decode cX2_init 15 = .ok (.newarray .int, 2) := by decide +kernel
theorem dX2_init_17 : decode cX2_init 17 = .ok (.putfield 15, 3) := by decide +kernel
theorem dX2_init_20 : decode cX2_init 20 = .ok (.return_, 1) := by decide +kernel
def f_T_init (N nx : Nat) (D : Dt) (P : Ft) (a0 : Nat) : Option (Dt × Ft) :=
  if kd nx a0 = 2 then
  if SH nx = 20200 then
  pas (zD D nx) fun D1 =>
  pas (zP P nx) fun P1 =>
  if kd (nx + 1) a0 = 2 then
  pas (updF P1 a0 0 (some nx)) fun P3 =>
  if SH (nx + 1) = 30003 then
  pas (zD D1 (nx + 1)) fun D4 =>
  pas (zP P3 (nx + 1)) fun P4 =>
  if kd (nx + 2) a0 = 2 then
  pas (updF P4 a0 1 (some (nx + 1))) fun P6 =>
  some (D4, P6)
  else none
  else none
  else none
  else none
  else none
theorem m_T_init : MI yX2_init cX2_init 1 0 := ⟨mT 82 (by decide +kernel) rfl, mT 81 (by decide +kernel) rfl, rfl, mT 55 (by decide +kernel) rfl, by decide +kernel, by decide +kernel, by decide +kernel⟩
set_option maxHeartbeats 4000000 in
set_option maxRecDepth 100000 in
theorem c_T_init (l : Launch) (cx : Cx) (nx N : Nat) (D : Dt) (P : Ft) (a0 : Nat) (z : Dt × Ft) (h : f_T_init N nx D P a0 = some z) : Cc l cx yX2_init cX2_init 1 1 2 203 [.ref (cx.2.2 + a0)] D P nx z.1 z.2 (nx + 2) := by
  refine x_met0 (by decide) (Nat.le_of_ble_eq_true rfl) ?_
  intro p e s m args below meth c X
  have X : XC p s m args meth c cx cX2_init 1 none "HeartPins$Letters" "<init>" := X
  refine XW.sub (lv' := [(0, .ref (cx.2.2 + a0))]) [0] rfl ?_
  unfold f_T_init at h
  obtain ⟨hk0, h⟩ := grd h
  refine x_aload_n (pc := 0) X dX2_init_0 (i := 0) rfl 0 rfl ?_
  refine x_objInit (pc := 1) X dX2_init_1 w_83 w_oi1 w_oi2 ⟨by decide, by decide⟩ (Nat.le_of_ble_eq_true rfl) ?_
  refine x_aload_n (pc := 4) X dX2_init_4 (i := 0) rfl 0 rfl ?_
  refine x_sipush (v := 200) (pc := 5) X dX2_init_5 (by decide) ?_
  obtain ⟨k1, h⟩ := grd h
  obtain ⟨D1, w1, h⟩ := pass h
  obtain ⟨P1, u1, h⟩ := pass h
  refine x_newarr (t := 2) (N := 200) (D' := D1) (P' := P1) (pc := 8) X dX2_init_8 k1 (by decide) (by decide) (by decide) w_98 w1 u1 (Or.inr (Or.inl ⟨rfl, rfl, rfl⟩)) ⟨by decide, by decide⟩ ?_
  refine XW.ren (nx' := nx + 1) (c' := 1) (s' := 200) rfl rfl rfl ?_
  obtain ⟨k2, h⟩ := grd h
  obtain ⟨P3, w3, h⟩ := pass h
  refine x_putr (ci := 2) (k := 0) (n := 4) (C := RX2) (T := TX2) (ty := .array (.char)) (P' := P3) (pc := 10) X dX2_init_10 k2 rfl (by decide) w_84 rfl (by decide +kernel) (Or.inr ⟨_, rfl⟩) rfl w3 ?_
  refine x_aload_n (pc := 13) X dX2_init_13 (i := 0) rfl 0 rfl ?_
  refine x_iconst (v := 3) (pc := 14) X dX2_init_14 (by decide) ?_
  obtain ⟨k4, h⟩ := grd h
  obtain ⟨D4, w4, h⟩ := pass h
  obtain ⟨P4, u4, h⟩ := pass h
  refine x_newarr (t := 3) (N := 3) (D' := D4) (P' := P4) (pc := 15) X dX2_init_15 k4 (by decide) (by decide) (by decide) w_99 w4 u4 (Or.inr (Or.inr ⟨rfl, rfl, rfl⟩)) ⟨by decide, by decide⟩ ?_
  refine XW.ren (nx' := nx + 2) (c' := 2) (s' := 203) rfl rfl rfl ?_
  obtain ⟨k5, h⟩ := grd h
  obtain ⟨P6, w6, h⟩ := pass h
  refine x_putr (ci := 2) (k := 1) (n := 4) (C := RX2) (T := TX2) (ty := .array (.int)) (P' := P6) (pc := 17) X dX2_init_17 k5 rfl (by decide) w_85 rfl (by decide +kernel) (Or.inr ⟨_, rfl⟩) rfl w6 ?_
  obtain rfl := Option.some.inj h
  exact x_vret (pc := 20) X dX2_init_20
theorem dX7_init_0 : decode cX7_init 0 = .ok (.aload_n 0, 1) := by decide +kernel
theorem dX7_init_1 : decode cX7_init 1 = .ok (.invokespecial 3, 3) := by decide +kernel
theorem dX7_init_4 : decode cX7_init 4 = .ok (.aload_n 0, 1) := by decide +kernel
theorem dX7_init_5 : decode cX7_init 5 = .ok (.bipush 8, 2) := by decide +kernel
theorem dX7_init_7 : decode cX7_init 7 = .ok (.newarray .int, 2) := by decide +kernel
theorem dX7_init_9 : decode cX7_init 9 = .ok (.putfield 9, 3) := by decide +kernel
theorem dX7_init_12 : decode cX7_init 12 = .ok (.aload_n 0, 1) := by decide +kernel
theorem dX7_init_13 : decode cX7_init 13 = .ok (.bipush 8, 2) := by decide +kernel
theorem dX7_init_15 : decode cX7_init 15 = .ok (.newarray .int, 2) := by decide +kernel
theorem dX7_init_17 : decode cX7_init 17 = .ok (.putfield 15, 3) := by decide +kernel
theorem dX7_init_20 : decode cX7_init 20 = .ok (.aload_n 0, 1) := by decide +kernel
theorem dX7_init_21 : decode cX7_init 21 = .ok (.aload_n 1, 1) := by decide +kernel
theorem dX7_init_22 : decode cX7_init 22 = .ok (.putfield 18, 3) := by decide +kernel
theorem dX7_init_25 : decode cX7_init 25 = .ok (.return_, 1) := by decide +kernel
def f_C_init (N nx : Nat) (D : Dt) (P : Ft) (a0 : Nat) (a1 : Nat) : Option (Dt × Ft) :=
  if kd nx a0 = 7 then
  if SH nx = 30008 then
  pas (zD D nx) fun D1 =>
  pas (zP P nx) fun P1 =>
  if kd (nx + 1) a0 = 7 then
  pas (updF P1 a0 1 (some nx)) fun P3 =>
  if SH (nx + 1) = 30008 then
  pas (zD D1 (nx + 1)) fun D4 =>
  pas (zP P3 (nx + 1)) fun P4 =>
  if kd (nx + 2) a0 = 7 then
  pas (updF P4 a0 2 (some (nx + 1))) fun P6 =>
  pas (updF P6 a0 0 (some a1)) fun P7 =>
  some (D4, P7)
  else none
  else none
  else none
  else none
  else none
theorem m_C_init : MI yX7_init cX7_init 2 1 := ⟨mT 149 (by decide +kernel) rfl, mT 148 (by decide +kernel) rfl, rfl, mT 57 (by decide +kernel) rfl, by decide +kernel, by decide +kernel, by decide +kernel⟩
set_option maxHeartbeats 4000000 in
set_option maxRecDepth 100000 in
theorem c_C_init (l : Launch) (cx : Cx) (nx N : Nat) (D : Dt) (P : Ft) (a0 : Nat) (a1 : Nat) (z : Dt × Ft) (h : f_C_init N nx D P a0 a1 = some z) : Cc l cx yX7_init cX7_init 2 1 2 16 [.ref (cx.2.2 + a0), .ref (cx.2.2 + a1)] D P nx z.1 z.2 (nx + 2) := by
  refine x_met0 (by decide) (Nat.le_of_ble_eq_true rfl) ?_
  intro p e s m args below meth c X
  have X : XC p s m args meth c cx cX7_init 2 none "HeartPins$Standing" "<init>" := X
  refine XW.sub (lv' := [(0, .ref (cx.2.2 + a0)), (1, .ref (cx.2.2 + a1))]) [0, 1] rfl ?_
  unfold f_C_init at h
  obtain ⟨hk0, h⟩ := grd h
  refine x_aload_n (pc := 0) X dX7_init_0 (i := 0) rfl 0 rfl ?_
  refine x_objInit (pc := 1) X dX7_init_1 w_150 w_oi1 w_oi2 ⟨by decide, by decide⟩ (Nat.le_of_ble_eq_true rfl) ?_
  refine x_aload_n (pc := 4) X dX7_init_4 (i := 0) rfl 0 rfl ?_
  refine x_bipush (v := 8) (pc := 5) X dX7_init_5 (by decide) ?_
  obtain ⟨k1, h⟩ := grd h
  obtain ⟨D1, w1, h⟩ := pass h
  obtain ⟨P1, u1, h⟩ := pass h
  refine x_newarr (t := 3) (N := 8) (D' := D1) (P' := P1) (pc := 7) X dX7_init_7 k1 (by decide) (by decide) (by decide) w_99 w1 u1 (Or.inr (Or.inr ⟨rfl, rfl, rfl⟩)) ⟨by decide, by decide⟩ ?_
  refine XW.ren (nx' := nx + 1) (c' := 1) (s' := 8) rfl rfl rfl ?_
  obtain ⟨k2, h⟩ := grd h
  obtain ⟨P3, w3, h⟩ := pass h
  refine x_putr (ci := 7) (k := 1) (n := 5) (C := RX7) (T := TX7) (ty := .array (.int)) (P' := P3) (pc := 9) X dX7_init_9 k2 rfl (by decide) w_153 rfl (by decide +kernel) (Or.inr ⟨_, rfl⟩) rfl w3 ?_
  refine x_aload_n (pc := 12) X dX7_init_12 (i := 0) rfl 0 rfl ?_
  refine x_bipush (v := 8) (pc := 13) X dX7_init_13 (by decide) ?_
  obtain ⟨k4, h⟩ := grd h
  obtain ⟨D4, w4, h⟩ := pass h
  obtain ⟨P4, u4, h⟩ := pass h
  refine x_newarr (t := 3) (N := 8) (D' := D4) (P' := P4) (pc := 15) X dX7_init_15 k4 (by decide) (by decide) (by decide) w_99 w4 u4 (Or.inr (Or.inr ⟨rfl, rfl, rfl⟩)) ⟨by decide, by decide⟩ ?_
  refine XW.ren (nx' := nx + 2) (c' := 2) (s' := 16) rfl rfl rfl ?_
  obtain ⟨k5, h⟩ := grd h
  obtain ⟨P6, w6, h⟩ := pass h
  refine x_putr (ci := 7) (k := 2) (n := 5) (C := RX7) (T := TX7) (ty := .array (.int)) (P' := P6) (pc := 17) X dX7_init_17 k5 rfl (by decide) w_154 rfl (by decide +kernel) (Or.inr ⟨_, rfl⟩) rfl w6 ?_
  refine x_aload_n (pc := 20) X dX7_init_20 (i := 0) rfl 0 rfl ?_
  refine x_aload_n (pc := 21) X dX7_init_21 (i := 1) rfl 1 rfl ?_
  obtain ⟨P7, w7, h⟩ := pass h
  refine x_putr (ci := 7) (k := 0) (n := 5) (C := RX7) (T := TX7) (ty := .object "HeartPins$Family") (P' := P7) (pc := 22) X dX7_init_22 k5 rfl (by decide) w_151 rfl (by decide +kernel) (Or.inl ⟨_, rfl⟩) rfl w7 ?_
  obtain rfl := Option.some.inj h
  exact x_vret (pc := 25) X dX7_init_25
theorem dX4_init_0 : decode cX4_init 0 = .ok (.aload_n 0, 1) := by decide +kernel
theorem dX4_init_1 : decode cX4_init 1 = .ok (.invokespecial 3, 3) := by decide +kernel
theorem dX4_init_4 : decode cX4_init 4 = .ok (.aload_n 0, 1) := by decide +kernel
theorem dX4_init_5 : decode cX4_init 5 = .ok (.bipush 8, 2) := by decide +kernel
theorem dX4_init_7 : decode cX4_init 7 = .ok (.newarray .int, 2) := by decide +kernel
theorem dX4_init_9 : decode cX4_init 9 = .ok (.putfield 9, 3) := by decide +kernel
theorem dX4_init_12 : decode cX4_init 12 = .ok (.aload_n 0, 1) := by decide +kernel
theorem dX4_init_13 : decode cX4_init 13 = .ok (.bipush 8, 2) := by decide +kernel
theorem dX4_init_15 : decode cX4_init 15 = .ok (.newarray .int, 2) := by decide +kernel
theorem dX4_init_17 : decode cX4_init 17 = .ok (.putfield 15, 3) := by decide +kernel
theorem dX4_init_20 : decode cX4_init 20 = .ok (.aload_n 0, 1) := by decide +kernel
theorem dX4_init_21 : decode cX4_init 21 = .ok (.bipush 8, 2) := by decide +kernel
theorem dX4_init_23 : decode cX4_init 23 = .ok (.newarray .int, 2) := by decide +kernel
theorem dX4_init_25 : decode cX4_init 25 = .ok (.putfield 18, 3) := by decide +kernel
theorem dX4_init_28 : decode cX4_init 28 = .ok (.aload_n 0, 1) := by decide +kernel
theorem dX4_init_29 : decode cX4_init 29 = .ok (.bipush 8, 2) := by decide +kernel
theorem dX4_init_31 : decode cX4_init 31 = .ok (.newarray .int, 2) := by decide +kernel
theorem dX4_init_33 : decode cX4_init 33 = .ok (.putfield 21, 3) := by decide +kernel
theorem dX4_init_36 : decode cX4_init 36 = .ok (.return_, 1) := by decide +kernel
def f_N_init (N nx : Nat) (D : Dt) (P : Ft) (a0 : Nat) : Option (Dt × Ft) :=
  if kd nx a0 = 4 then
  if SH nx = 30008 then
  pas (zD D nx) fun D1 =>
  pas (zP P nx) fun P1 =>
  if kd (nx + 1) a0 = 4 then
  pas (updF P1 a0 0 (some nx)) fun P3 =>
  if SH (nx + 1) = 30008 then
  pas (zD D1 (nx + 1)) fun D4 =>
  pas (zP P3 (nx + 1)) fun P4 =>
  if kd (nx + 2) a0 = 4 then
  pas (updF P4 a0 1 (some (nx + 1))) fun P6 =>
  if SH (nx + 2) = 30008 then
  pas (zD D4 (nx + 2)) fun D7 =>
  pas (zP P6 (nx + 2)) fun P7 =>
  if kd (nx + 3) a0 = 4 then
  pas (updF P7 a0 2 (some (nx + 2))) fun P9 =>
  if SH (nx + 3) = 30008 then
  pas (zD D7 (nx + 3)) fun D10 =>
  pas (zP P9 (nx + 3)) fun P10 =>
  if kd (nx + 4) a0 = 4 then
  pas (updF P10 a0 3 (some (nx + 3))) fun P12 =>
  some (D10, P12)
  else none
  else none
  else none
  else none
  else none
  else none
  else none
  else none
  else none
theorem m_N_init : MI yX4_init cX4_init 1 0 := ⟨mT 195 (by decide +kernel) rfl, mT 194 (by decide +kernel) rfl, rfl, mT 60 (by decide +kernel) rfl, by decide +kernel, by decide +kernel, by decide +kernel⟩
set_option maxHeartbeats 4000000 in
set_option maxRecDepth 100000 in
theorem c_N_init (l : Launch) (cx : Cx) (nx N : Nat) (D : Dt) (P : Ft) (a0 : Nat) (z : Dt × Ft) (h : f_N_init N nx D P a0 = some z) : Cc l cx yX4_init cX4_init 1 1 4 32 [.ref (cx.2.2 + a0)] D P nx z.1 z.2 (nx + 4) := by
  refine x_met0 (by decide) (Nat.le_of_ble_eq_true rfl) ?_
  intro p e s m args below meth c X
  have X : XC p s m args meth c cx cX4_init 1 none "HeartPins$Notes" "<init>" := X
  refine XW.sub (lv' := [(0, .ref (cx.2.2 + a0))]) [0] rfl ?_
  unfold f_N_init at h
  obtain ⟨hk0, h⟩ := grd h
  refine x_aload_n (pc := 0) X dX4_init_0 (i := 0) rfl 0 rfl ?_
  refine x_objInit (pc := 1) X dX4_init_1 w_196 w_oi1 w_oi2 ⟨by decide, by decide⟩ (Nat.le_of_ble_eq_true rfl) ?_
  refine x_aload_n (pc := 4) X dX4_init_4 (i := 0) rfl 0 rfl ?_
  refine x_bipush (v := 8) (pc := 5) X dX4_init_5 (by decide) ?_
  obtain ⟨k1, h⟩ := grd h
  obtain ⟨D1, w1, h⟩ := pass h
  obtain ⟨P1, u1, h⟩ := pass h
  refine x_newarr (t := 3) (N := 8) (D' := D1) (P' := P1) (pc := 7) X dX4_init_7 k1 (by decide) (by decide) (by decide) w_99 w1 u1 (Or.inr (Or.inr ⟨rfl, rfl, rfl⟩)) ⟨by decide, by decide⟩ ?_
  refine XW.ren (nx' := nx + 1) (c' := 1) (s' := 8) rfl rfl rfl ?_
  obtain ⟨k2, h⟩ := grd h
  obtain ⟨P3, w3, h⟩ := pass h
  refine x_putr (ci := 4) (k := 0) (n := 6) (C := RX4) (T := TX4) (ty := .array (.int)) (P' := P3) (pc := 9) X dX4_init_9 k2 rfl (by decide) w_197 rfl (by decide +kernel) (Or.inr ⟨_, rfl⟩) rfl w3 ?_
  refine x_aload_n (pc := 12) X dX4_init_12 (i := 0) rfl 0 rfl ?_
  refine x_bipush (v := 8) (pc := 13) X dX4_init_13 (by decide) ?_
  obtain ⟨k4, h⟩ := grd h
  obtain ⟨D4, w4, h⟩ := pass h
  obtain ⟨P4, u4, h⟩ := pass h
  refine x_newarr (t := 3) (N := 8) (D' := D4) (P' := P4) (pc := 15) X dX4_init_15 k4 (by decide) (by decide) (by decide) w_99 w4 u4 (Or.inr (Or.inr ⟨rfl, rfl, rfl⟩)) ⟨by decide, by decide⟩ ?_
  refine XW.ren (nx' := nx + 2) (c' := 2) (s' := 16) rfl rfl rfl ?_
  obtain ⟨k5, h⟩ := grd h
  obtain ⟨P6, w6, h⟩ := pass h
  refine x_putr (ci := 4) (k := 1) (n := 6) (C := RX4) (T := TX4) (ty := .array (.int)) (P' := P6) (pc := 17) X dX4_init_17 k5 rfl (by decide) w_198 rfl (by decide +kernel) (Or.inr ⟨_, rfl⟩) rfl w6 ?_
  refine x_aload_n (pc := 20) X dX4_init_20 (i := 0) rfl 0 rfl ?_
  refine x_bipush (v := 8) (pc := 21) X dX4_init_21 (by decide) ?_
  obtain ⟨k7, h⟩ := grd h
  obtain ⟨D7, w7, h⟩ := pass h
  obtain ⟨P7, u7, h⟩ := pass h
  refine x_newarr (t := 3) (N := 8) (D' := D7) (P' := P7) (pc := 23) X dX4_init_23 k7 (by decide) (by decide) (by decide) w_99 w7 u7 (Or.inr (Or.inr ⟨rfl, rfl, rfl⟩)) ⟨by decide, by decide⟩ ?_
  refine XW.ren (nx' := nx + 3) (c' := 3) (s' := 24) rfl rfl rfl ?_
  obtain ⟨k8, h⟩ := grd h
  obtain ⟨P9, w9, h⟩ := pass h
  refine x_putr (ci := 4) (k := 2) (n := 6) (C := RX4) (T := TX4) (ty := .array (.int)) (P' := P9) (pc := 25) X dX4_init_25 k8 rfl (by decide) w_199 rfl (by decide +kernel) (Or.inr ⟨_, rfl⟩) rfl w9 ?_
  refine x_aload_n (pc := 28) X dX4_init_28 (i := 0) rfl 0 rfl ?_
  refine x_bipush (v := 8) (pc := 29) X dX4_init_29 (by decide) ?_
  obtain ⟨k10, h⟩ := grd h
  obtain ⟨D10, w10, h⟩ := pass h
  obtain ⟨P10, u10, h⟩ := pass h
  refine x_newarr (t := 3) (N := 8) (D' := D10) (P' := P10) (pc := 31) X dX4_init_31 k10 (by decide) (by decide) (by decide) w_99 w10 u10 (Or.inr (Or.inr ⟨rfl, rfl, rfl⟩)) ⟨by decide, by decide⟩ ?_
  refine XW.ren (nx' := nx + 4) (c' := 4) (s' := 32) rfl rfl rfl ?_
  obtain ⟨k11, h⟩ := grd h
  obtain ⟨P12, w12, h⟩ := pass h
  refine x_putr (ci := 4) (k := 3) (n := 6) (C := RX4) (T := TX4) (ty := .array (.int)) (P' := P12) (pc := 33) X dX4_init_33 k11 rfl (by decide) w_200 rfl (by decide +kernel) (Or.inr ⟨_, rfl⟩) rfl w12 ?_
  obtain rfl := Option.some.inj h
  exact x_vret (pc := 36) X dX4_init_36
theorem dX3_init_0 : decode cX3_init 0 = .ok (.aload_n 0, 1) := by decide +kernel
theorem dX3_init_1 : decode cX3_init 1 = .ok (.invokespecial 3, 3) := by decide +kernel
theorem dX3_init_4 : decode cX3_init 4 = .ok (.aload_n 0, 1) := by decide +kernel
theorem dX3_init_5 : decode cX3_init 5 = .ok (.bipush 8, 2) := by decide +kernel
theorem dX3_init_7 : decode cX3_init 7 = .ok (.newarray .int, 2) := by decide +kernel
theorem dX3_init_9 : decode cX3_init 9 = .ok (.putfield 9, 3) := by decide +kernel
theorem dX3_init_12 : decode cX3_init 12 = .ok (.aload_n 0, 1) := by decide +kernel
theorem dX3_init_13 : decode cX3_init 13 = .ok (.bipush 8, 2) := by decide +kernel
theorem dX3_init_15 : decode cX3_init 15 = .ok (.newarray .int, 2) := by decide +kernel
theorem dX3_init_17 : decode cX3_init 17 = .ok (.putfield 15, 3) := by decide +kernel
theorem dX3_init_20 : decode cX3_init 20 = .ok (.return_, 1) := by decide +kernel
def f_G_init (N nx : Nat) (D : Dt) (P : Ft) (a0 : Nat) : Option (Dt × Ft) :=
  if kd nx a0 = 3 then
  if SH nx = 30008 then
  pas (zD D nx) fun D1 =>
  pas (zP P nx) fun P1 =>
  if kd (nx + 1) a0 = 3 then
  pas (updF P1 a0 0 (some nx)) fun P3 =>
  if SH (nx + 1) = 30008 then
  pas (zD D1 (nx + 1)) fun D4 =>
  pas (zP P3 (nx + 1)) fun P4 =>
  if kd (nx + 2) a0 = 3 then
  pas (updF P4 a0 1 (some (nx + 1))) fun P6 =>
  some (D4, P6)
  else none
  else none
  else none
  else none
  else none
theorem m_G_init : MI yX3_init cX3_init 1 0 := ⟨mT 223 (by decide +kernel) rfl, mT 222 (by decide +kernel) rfl, rfl, mT 61 (by decide +kernel) rfl, by decide +kernel, by decide +kernel, by decide +kernel⟩
set_option maxHeartbeats 4000000 in
set_option maxRecDepth 100000 in
theorem c_G_init (l : Launch) (cx : Cx) (nx N : Nat) (D : Dt) (P : Ft) (a0 : Nat) (z : Dt × Ft) (h : f_G_init N nx D P a0 = some z) : Cc l cx yX3_init cX3_init 1 1 2 16 [.ref (cx.2.2 + a0)] D P nx z.1 z.2 (nx + 2) := by
  refine x_met0 (by decide) (Nat.le_of_ble_eq_true rfl) ?_
  intro p e s m args below meth c X
  have X : XC p s m args meth c cx cX3_init 1 none "HeartPins$Matching" "<init>" := X
  refine XW.sub (lv' := [(0, .ref (cx.2.2 + a0))]) [0] rfl ?_
  unfold f_G_init at h
  obtain ⟨hk0, h⟩ := grd h
  refine x_aload_n (pc := 0) X dX3_init_0 (i := 0) rfl 0 rfl ?_
  refine x_objInit (pc := 1) X dX3_init_1 w_224 w_oi1 w_oi2 ⟨by decide, by decide⟩ (Nat.le_of_ble_eq_true rfl) ?_
  refine x_aload_n (pc := 4) X dX3_init_4 (i := 0) rfl 0 rfl ?_
  refine x_bipush (v := 8) (pc := 5) X dX3_init_5 (by decide) ?_
  obtain ⟨k1, h⟩ := grd h
  obtain ⟨D1, w1, h⟩ := pass h
  obtain ⟨P1, u1, h⟩ := pass h
  refine x_newarr (t := 3) (N := 8) (D' := D1) (P' := P1) (pc := 7) X dX3_init_7 k1 (by decide) (by decide) (by decide) w_99 w1 u1 (Or.inr (Or.inr ⟨rfl, rfl, rfl⟩)) ⟨by decide, by decide⟩ ?_
  refine XW.ren (nx' := nx + 1) (c' := 1) (s' := 8) rfl rfl rfl ?_
  obtain ⟨k2, h⟩ := grd h
  obtain ⟨P3, w3, h⟩ := pass h
  refine x_putr (ci := 3) (k := 0) (n := 4) (C := RX3) (T := TX3) (ty := .array (.int)) (P' := P3) (pc := 9) X dX3_init_9 k2 rfl (by decide) w_225 rfl (by decide +kernel) (Or.inr ⟨_, rfl⟩) rfl w3 ?_
  refine x_aload_n (pc := 12) X dX3_init_12 (i := 0) rfl 0 rfl ?_
  refine x_bipush (v := 8) (pc := 13) X dX3_init_13 (by decide) ?_
  obtain ⟨k4, h⟩ := grd h
  obtain ⟨D4, w4, h⟩ := pass h
  obtain ⟨P4, u4, h⟩ := pass h
  refine x_newarr (t := 3) (N := 8) (D' := D4) (P' := P4) (pc := 15) X dX3_init_15 k4 (by decide) (by decide) (by decide) w_99 w4 u4 (Or.inr (Or.inr ⟨rfl, rfl, rfl⟩)) ⟨by decide, by decide⟩ ?_
  refine XW.ren (nx' := nx + 2) (c' := 2) (s' := 16) rfl rfl rfl ?_
  obtain ⟨k5, h⟩ := grd h
  obtain ⟨P6, w6, h⟩ := pass h
  refine x_putr (ci := 3) (k := 1) (n := 4) (C := RX3) (T := TX3) (ty := .array (.int)) (P' := P6) (pc := 17) X dX3_init_17 k5 rfl (by decide) w_226 rfl (by decide +kernel) (Or.inr ⟨_, rfl⟩) rfl w6 ?_
  obtain rfl := Option.some.inj h
  exact x_vret (pc := 20) X dX3_init_20
theorem dX5_init_0 : decode cX5_init 0 = .ok (.aload_n 0, 1) := by decide +kernel
theorem dX5_init_1 : decode cX5_init 1 = .ok (.invokespecial 3, 3) := by decide +kernel
theorem dX5_init_4 : decode cX5_init 4 = .ok (.aload_n 0, 1) := by decide +kernel
theorem dX5_init_5 : decode cX5_init 5 = .ok (.bipush 8, 2) := by decide +kernel
theorem dX5_init_7 : decode cX5_init 7 = .ok (.newarray .int, 2) := by decide +kernel
theorem dX5_init_9 : decode cX5_init 9 = .ok (.putfield 9, 3) := by decide +kernel
theorem dX5_init_12 : decode cX5_init 12 = .ok (.aload_n 0, 1) := by decide +kernel
theorem dX5_init_13 : decode cX5_init 13 = .ok (.bipush 8, 2) := by decide +kernel
theorem dX5_init_15 : decode cX5_init 15 = .ok (.newarray .int, 2) := by decide +kernel
theorem dX5_init_17 : decode cX5_init 17 = .ok (.putfield 15, 3) := by decide +kernel
theorem dX5_init_20 : decode cX5_init 20 = .ok (.aload_n 0, 1) := by decide +kernel
theorem dX5_init_21 : decode cX5_init 21 = .ok (.bipush 8, 2) := by decide +kernel
theorem dX5_init_23 : decode cX5_init 23 = .ok (.newarray .int, 2) := by decide +kernel
theorem dX5_init_25 : decode cX5_init 25 = .ok (.putfield 18, 3) := by decide +kernel
theorem dX5_init_28 : decode cX5_init 28 = .ok (.aload_n 0, 1) := by decide +kernel
theorem dX5_init_29 : decode cX5_init 29 = .ok (.bipush 8, 2) := by decide +kernel
theorem dX5_init_31 : decode cX5_init 31 = .ok (.newarray .int, 2) := by decide +kernel
theorem dX5_init_33 : decode cX5_init 33 = .ok (.putfield 21, 3) := by decide +kernel
theorem dX5_init_36 : decode cX5_init 36 = .ok (.aload_n 0, 1) := by decide +kernel
theorem dX5_init_37 : decode cX5_init 37 = .ok (.iconst 5, 1) := by decide +kernel
theorem dX5_init_38 : decode cX5_init 38 = .ok (.newarray .int, 2) := by decide +kernel
theorem dX5_init_40 : decode cX5_init 40 = .ok (.putfield 24, 3) := by decide +kernel
theorem dX5_init_43 : decode cX5_init 43 = .ok (.return_, 1) := by decide +kernel
def f_Z_init (N nx : Nat) (D : Dt) (P : Ft) (a0 : Nat) : Option (Dt × Ft) :=
  if kd nx a0 = 5 then
  if SH nx = 30008 then
  pas (zD D nx) fun D1 =>
  pas (zP P nx) fun P1 =>
  if kd (nx + 1) a0 = 5 then
  pas (updF P1 a0 0 (some nx)) fun P3 =>
  if SH (nx + 1) = 30008 then
  pas (zD D1 (nx + 1)) fun D4 =>
  pas (zP P3 (nx + 1)) fun P4 =>
  if kd (nx + 2) a0 = 5 then
  pas (updF P4 a0 1 (some (nx + 1))) fun P6 =>
  if SH (nx + 2) = 30008 then
  pas (zD D4 (nx + 2)) fun D7 =>
  pas (zP P6 (nx + 2)) fun P7 =>
  if kd (nx + 3) a0 = 5 then
  pas (updF P7 a0 2 (some (nx + 2))) fun P9 =>
  if SH (nx + 3) = 30008 then
  pas (zD D7 (nx + 3)) fun D10 =>
  pas (zP P9 (nx + 3)) fun P10 =>
  if kd (nx + 4) a0 = 5 then
  pas (updF P10 a0 3 (some (nx + 3))) fun P12 =>
  if SH (nx + 4) = 30005 then
  pas (zD D10 (nx + 4)) fun D13 =>
  pas (zP P12 (nx + 4)) fun P13 =>
  if kd (nx + 5) a0 = 5 then
  pas (updF P13 a0 4 (some (nx + 4))) fun P15 =>
  some (D13, P15)
  else none
  else none
  else none
  else none
  else none
  else none
  else none
  else none
  else none
  else none
  else none
theorem m_Z_init : MI yX5_init cX5_init 1 0 := ⟨mT 243 (by decide +kernel) rfl, mT 242 (by decide +kernel) rfl, rfl, mT 62 (by decide +kernel) rfl, by decide +kernel, by decide +kernel, by decide +kernel⟩
set_option maxHeartbeats 4000000 in
set_option maxRecDepth 100000 in
theorem c_Z_init (l : Launch) (cx : Cx) (nx N : Nat) (D : Dt) (P : Ft) (a0 : Nat) (z : Dt × Ft) (h : f_Z_init N nx D P a0 = some z) : Cc l cx yX5_init cX5_init 1 1 5 37 [.ref (cx.2.2 + a0)] D P nx z.1 z.2 (nx + 5) := by
  refine x_met0 (by decide) (Nat.le_of_ble_eq_true rfl) ?_
  intro p e s m args below meth c X
  have X : XC p s m args meth c cx cX5_init 1 none "HeartPins$Sharing" "<init>" := X
  refine XW.sub (lv' := [(0, .ref (cx.2.2 + a0))]) [0] rfl ?_
  unfold f_Z_init at h
  obtain ⟨hk0, h⟩ := grd h
  refine x_aload_n (pc := 0) X dX5_init_0 (i := 0) rfl 0 rfl ?_
  refine x_objInit (pc := 1) X dX5_init_1 w_244 w_oi1 w_oi2 ⟨by decide, by decide⟩ (Nat.le_of_ble_eq_true rfl) ?_
  refine x_aload_n (pc := 4) X dX5_init_4 (i := 0) rfl 0 rfl ?_
  refine x_bipush (v := 8) (pc := 5) X dX5_init_5 (by decide) ?_
  obtain ⟨k1, h⟩ := grd h
  obtain ⟨D1, w1, h⟩ := pass h
  obtain ⟨P1, u1, h⟩ := pass h
  refine x_newarr (t := 3) (N := 8) (D' := D1) (P' := P1) (pc := 7) X dX5_init_7 k1 (by decide) (by decide) (by decide) w_99 w1 u1 (Or.inr (Or.inr ⟨rfl, rfl, rfl⟩)) ⟨by decide, by decide⟩ ?_
  refine XW.ren (nx' := nx + 1) (c' := 1) (s' := 8) rfl rfl rfl ?_
  obtain ⟨k2, h⟩ := grd h
  obtain ⟨P3, w3, h⟩ := pass h
  refine x_putr (ci := 5) (k := 0) (n := 8) (C := RX5) (T := TX5) (ty := .array (.int)) (P' := P3) (pc := 9) X dX5_init_9 k2 rfl (by decide) w_245 rfl (by decide +kernel) (Or.inr ⟨_, rfl⟩) rfl w3 ?_
  refine x_aload_n (pc := 12) X dX5_init_12 (i := 0) rfl 0 rfl ?_
  refine x_bipush (v := 8) (pc := 13) X dX5_init_13 (by decide) ?_
  obtain ⟨k4, h⟩ := grd h
  obtain ⟨D4, w4, h⟩ := pass h
  obtain ⟨P4, u4, h⟩ := pass h
  refine x_newarr (t := 3) (N := 8) (D' := D4) (P' := P4) (pc := 15) X dX5_init_15 k4 (by decide) (by decide) (by decide) w_99 w4 u4 (Or.inr (Or.inr ⟨rfl, rfl, rfl⟩)) ⟨by decide, by decide⟩ ?_
  refine XW.ren (nx' := nx + 2) (c' := 2) (s' := 16) rfl rfl rfl ?_
  obtain ⟨k5, h⟩ := grd h
  obtain ⟨P6, w6, h⟩ := pass h
  refine x_putr (ci := 5) (k := 1) (n := 8) (C := RX5) (T := TX5) (ty := .array (.int)) (P' := P6) (pc := 17) X dX5_init_17 k5 rfl (by decide) w_246 rfl (by decide +kernel) (Or.inr ⟨_, rfl⟩) rfl w6 ?_
  refine x_aload_n (pc := 20) X dX5_init_20 (i := 0) rfl 0 rfl ?_
  refine x_bipush (v := 8) (pc := 21) X dX5_init_21 (by decide) ?_
  obtain ⟨k7, h⟩ := grd h
  obtain ⟨D7, w7, h⟩ := pass h
  obtain ⟨P7, u7, h⟩ := pass h
  refine x_newarr (t := 3) (N := 8) (D' := D7) (P' := P7) (pc := 23) X dX5_init_23 k7 (by decide) (by decide) (by decide) w_99 w7 u7 (Or.inr (Or.inr ⟨rfl, rfl, rfl⟩)) ⟨by decide, by decide⟩ ?_
  refine XW.ren (nx' := nx + 3) (c' := 3) (s' := 24) rfl rfl rfl ?_
  obtain ⟨k8, h⟩ := grd h
  obtain ⟨P9, w9, h⟩ := pass h
  refine x_putr (ci := 5) (k := 2) (n := 8) (C := RX5) (T := TX5) (ty := .array (.int)) (P' := P9) (pc := 25) X dX5_init_25 k8 rfl (by decide) w_247 rfl (by decide +kernel) (Or.inr ⟨_, rfl⟩) rfl w9 ?_
  refine x_aload_n (pc := 28) X dX5_init_28 (i := 0) rfl 0 rfl ?_
  refine x_bipush (v := 8) (pc := 29) X dX5_init_29 (by decide) ?_
  obtain ⟨k10, h⟩ := grd h
  obtain ⟨D10, w10, h⟩ := pass h
  obtain ⟨P10, u10, h⟩ := pass h
  refine x_newarr (t := 3) (N := 8) (D' := D10) (P' := P10) (pc := 31) X dX5_init_31 k10 (by decide) (by decide) (by decide) w_99 w10 u10 (Or.inr (Or.inr ⟨rfl, rfl, rfl⟩)) ⟨by decide, by decide⟩ ?_
  refine XW.ren (nx' := nx + 4) (c' := 4) (s' := 32) rfl rfl rfl ?_
  obtain ⟨k11, h⟩ := grd h
  obtain ⟨P12, w12, h⟩ := pass h
  refine x_putr (ci := 5) (k := 3) (n := 8) (C := RX5) (T := TX5) (ty := .array (.int)) (P' := P12) (pc := 33) X dX5_init_33 k11 rfl (by decide) w_248 rfl (by decide +kernel) (Or.inr ⟨_, rfl⟩) rfl w12 ?_
  refine x_aload_n (pc := 36) X dX5_init_36 (i := 0) rfl 0 rfl ?_
  refine x_iconst (v := 5) (pc := 37) X dX5_init_37 (by decide) ?_
  obtain ⟨k13, h⟩ := grd h
  obtain ⟨D13, w13, h⟩ := pass h
  obtain ⟨P13, u13, h⟩ := pass h
  refine x_newarr (t := 3) (N := 5) (D' := D13) (P' := P13) (pc := 38) X dX5_init_38 k13 (by decide) (by decide) (by decide) w_99 w13 u13 (Or.inr (Or.inr ⟨rfl, rfl, rfl⟩)) ⟨by decide, by decide⟩ ?_
  refine XW.ren (nx' := nx + 5) (c' := 5) (s' := 37) rfl rfl rfl ?_
  obtain ⟨k14, h⟩ := grd h
  obtain ⟨P15, w15, h⟩ := pass h
  refine x_putr (ci := 5) (k := 4) (n := 8) (C := RX5) (T := TX5) (ty := .array (.int)) (P' := P15) (pc := 40) X dX5_init_40 k14 rfl (by decide) w_249 rfl (by decide +kernel) (Or.inr ⟨_, rfl⟩) rfl w15 ?_
  obtain rfl := Option.some.inj h
  exact x_vret (pc := 43) X dX5_init_43
theorem dX6_init_0 : decode cX6_init 0 = .ok (.aload_n 0, 1) := by decide +kernel
theorem dX6_init_1 : decode cX6_init 1 = .ok (.invokespecial 1, 3) := by decide +kernel
theorem dX6_init_4 : decode cX6_init 4 = .ok (.aload_n 0, 1) := by decide +kernel
theorem dX6_init_5 : decode cX6_init 5 = .ok (.iconst 0, 1) := by decide +kernel
theorem dX6_init_6 : decode cX6_init 6 = .ok (.iload_n 2, 1) := by decide +kernel
theorem dX6_init_7 : decode cX6_init 7 = .ok (.invokestatic 7, 3) := by decide +kernel
theorem dX6_init_10 : decode cX6_init 10 = .ok (.anewarray 13, 3) := by decide +kernel
theorem dX6_init_13 : decode cX6_init 13 = .ok (.putfield 15, 3) := by decide +kernel
theorem dX6_init_16 : decode cX6_init 16 = .ok (.iconst 0, 1) := by decide +kernel
theorem dX6_init_17 : decode cX6_init 17 = .ok (.istore_n 3, 1) := by decide +kernel
theorem dX6_init_18 : decode cX6_init 18 = .ok (.iload_n 3, 1) := by decide +kernel
theorem dX6_init_19 : decode cX6_init 19 = .ok (.aload_n 0, 1) := by decide +kernel
theorem dX6_init_20 : decode cX6_init 20 = .ok (.getfield 15, 3) := by decide +kernel
theorem dX6_init_23 : decode cX6_init 23 = .ok (.arraylength, 1) := by decide +kernel
theorem dX6_init_24 : decode cX6_init 24 = .ok (.if_icmp .ge 23, 3) := by decide +kernel
theorem dX6_init_27 : decode cX6_init 27 = .ok (.aload_n 0, 1) := by decide +kernel
theorem dX6_init_28 : decode cX6_init 28 = .ok (.getfield 15, 3) := by decide +kernel
theorem dX6_init_31 : decode cX6_init 31 = .ok (.iload_n 3, 1) := by decide +kernel
theorem dX6_init_32 : decode cX6_init 32 = .ok (.new 13, 3) := by decide +kernel
theorem dX6_init_35 : decode cX6_init 35 = .ok (.dup, 1) := by decide +kernel
theorem dX6_init_36 : decode cX6_init 36 = .ok (.aload_n 1, 1) := by decide +kernel
theorem dX6_init_37 : decode cX6_init 37 = .ok (.invokespecial 21, 3) := by decide +kernel
theorem dX6_init_40 : decode cX6_init 40 = .ok (.aastore, 1) := by decide +kernel
theorem dX6_init_41 : decode cX6_init 41 = .ok (.iinc 3 1, 3) := by decide +kernel
theorem dX6_init_44 : decode cX6_init 44 = .ok (.goto (-26), 3) := by decide +kernel
theorem dX6_init_47 : decode cX6_init 47 = .ok (.return_, 1) := by decide +kernel
def f_S_init8 (N nx : Nat) (D : Dt) (P : Ft) (a0 : Nat) (a1 : Nat) : Option (Dt × Ft) :=
  if kd nx a0 = 6 then
  if SH nx = 40008 then
  pas (zD D nx) fun D1 =>
  pas (zP P nx) fun P1 =>
  if kd (nx + 1) a0 = 6 then
  pas (updF P1 a0 0 (some nx)) fun P3 =>
  nn (P3 a0 0) fun q4 =>
  if kd (nx + 1) q4 = 40008 then
  if SH (nx + 1) = 7 then
  pas (zD D1 (nx + 1)) fun D8 =>
  pas (zP P3 (nx + 1)) fun P8 =>
  (f_C_init N (nx + 2) D8 P8 (nx + 1) a1).bind fun z9 =>
  if kd (nx + 4) (nx + 1) = 7 then
  if ab (nx + 4) q4 4 0 = true then
  pas (updF z9.2 q4 (0 : Int32).toNatClampNeg (some (nx + 1))) fun P10 =>
  if kd (nx + 4) a0 = 6 then
  nn (P10 a0 0) fun q13 =>
  if kd (nx + 4) q13 = 40008 then
  if SH (nx + 4) = 7 then
  pas (zD z9.1 (nx + 4)) fun D17 =>
  pas (zP P10 (nx + 4)) fun P17 =>
  (f_C_init N (nx + 5) D17 P17 (nx + 4) a1).bind fun z18 =>
  if kd (nx + 7) (nx + 4) = 7 then
  if ab (nx + 7) q13 4 1 = true then
  pas (updF z18.2 q13 (1 : Int32).toNatClampNeg (some (nx + 4))) fun P19 =>
  if kd (nx + 7) a0 = 6 then
  nn (P19 a0 0) fun q22 =>
  if kd (nx + 7) q22 = 40008 then
  if SH (nx + 7) = 7 then
  pas (zD z18.1 (nx + 7)) fun D26 =>
  pas (zP P19 (nx + 7)) fun P26 =>
  (f_C_init N (nx + 8) D26 P26 (nx + 7) a1).bind fun z27 =>
  if kd (nx + 10) (nx + 7) = 7 then
  if ab (nx + 10) q22 4 2 = true then
  pas (updF z27.2 q22 (2 : Int32).toNatClampNeg (some (nx + 7))) fun P28 =>
  if kd (nx + 10) a0 = 6 then
  nn (P28 a0 0) fun q31 =>
  if kd (nx + 10) q31 = 40008 then
  if SH (nx + 10) = 7 then
  pas (zD z27.1 (nx + 10)) fun D35 =>
  pas (zP P28 (nx + 10)) fun P35 =>
  (f_C_init N (nx + 11) D35 P35 (nx + 10) a1).bind fun z36 =>
  if kd (nx + 13) (nx + 10) = 7 then
  if ab (nx + 13) q31 4 3 = true then
  pas (updF z36.2 q31 (3 : Int32).toNatClampNeg (some (nx + 10))) fun P37 =>
  if kd (nx + 13) a0 = 6 then
  nn (P37 a0 0) fun q40 =>
  if kd (nx + 13) q40 = 40008 then
  if SH (nx + 13) = 7 then
  pas (zD z36.1 (nx + 13)) fun D44 =>
  pas (zP P37 (nx + 13)) fun P44 =>
  (f_C_init N (nx + 14) D44 P44 (nx + 13) a1).bind fun z45 =>
  if kd (nx + 16) (nx + 13) = 7 then
  if ab (nx + 16) q40 4 4 = true then
  pas (updF z45.2 q40 (4 : Int32).toNatClampNeg (some (nx + 13))) fun P46 =>
  if kd (nx + 16) a0 = 6 then
  nn (P46 a0 0) fun q49 =>
  if kd (nx + 16) q49 = 40008 then
  if SH (nx + 16) = 7 then
  pas (zD z45.1 (nx + 16)) fun D53 =>
  pas (zP P46 (nx + 16)) fun P53 =>
  (f_C_init N (nx + 17) D53 P53 (nx + 16) a1).bind fun z54 =>
  if kd (nx + 19) (nx + 16) = 7 then
  if ab (nx + 19) q49 4 5 = true then
  pas (updF z54.2 q49 (5 : Int32).toNatClampNeg (some (nx + 16))) fun P55 =>
  if kd (nx + 19) a0 = 6 then
  nn (P55 a0 0) fun q58 =>
  if kd (nx + 19) q58 = 40008 then
  if SH (nx + 19) = 7 then
  pas (zD z54.1 (nx + 19)) fun D62 =>
  pas (zP P55 (nx + 19)) fun P62 =>
  (f_C_init N (nx + 20) D62 P62 (nx + 19) a1).bind fun z63 =>
  if kd (nx + 22) (nx + 19) = 7 then
  if ab (nx + 22) q58 4 6 = true then
  pas (updF z63.2 q58 (6 : Int32).toNatClampNeg (some (nx + 19))) fun P64 =>
  if kd (nx + 22) a0 = 6 then
  nn (P64 a0 0) fun q67 =>
  if kd (nx + 22) q67 = 40008 then
  if SH (nx + 22) = 7 then
  pas (zD z63.1 (nx + 22)) fun D71 =>
  pas (zP P64 (nx + 22)) fun P71 =>
  (f_C_init N (nx + 23) D71 P71 (nx + 22) a1).bind fun z72 =>
  if kd (nx + 25) (nx + 22) = 7 then
  if ab (nx + 25) q67 4 7 = true then
  pas (updF z72.2 q67 (7 : Int32).toNatClampNeg (some (nx + 22))) fun P73 =>
  if kd (nx + 25) a0 = 6 then
  nn (P73 a0 0) fun q76 =>
  if kd (nx + 25) q76 = 40008 then
  some (z72.1, P73)
  else none
  else none
  else none
  else none
  else none
  else none
  else none
  else none
  else none
  else none
  else none
  else none
  else none
  else none
  else none
  else none
  else none
  else none
  else none
  else none
  else none
  else none
  else none
  else none
  else none
  else none
  else none
  else none
  else none
  else none
  else none
  else none
  else none
  else none
  else none
  else none
  else none
  else none
  else none
  else none
  else none
  else none
  else none
  else none
theorem m_S_init8 : MI yX6_init cX6_init 4 2 := ⟨mT 175 (by decide +kernel) rfl, mT 174 (by decide +kernel) rfl, rfl, mT 58 (by decide +kernel) rfl, by decide +kernel, by decide +kernel, by decide +kernel⟩
set_option maxHeartbeats 4000000 in
set_option maxRecDepth 100000 in
theorem c_S_init8 (l : Launch) (cx : Cx) (nx N : Nat) (D : Dt) (P : Ft) (a0 : Nat) (a1 : Nat) (z : Dt × Ft) (h : f_S_init8 N nx D P a0 a1 = some z) : Cc l cx yX6_init cX6_init 4 2 25 176 [.ref (cx.2.2 + a0), .ref (cx.2.2 + a1), .int 8] D P nx z.1 z.2 (nx + 25) := by
  refine x_met0 (by decide) (Nat.le_of_ble_eq_true rfl) ?_
  intro p e s m args below meth c X
  have X : XC p s m args meth c cx cX6_init 4 none "HeartPins$Shelf" "<init>" := X
  refine XW.sub (lv' := [(0, .ref (cx.2.2 + a0)), (1, .ref (cx.2.2 + a1)), (2, .int 8)]) [0, 1, 2] rfl ?_
  unfold f_S_init8 at h
  obtain ⟨hk0, h⟩ := grd h
  refine x_aload_n (pc := 0) X dX6_init_0 (i := 0) rfl 0 rfl ?_
  refine x_objInit (pc := 1) X dX6_init_1 w_176 w_oi1 w_oi2 ⟨by decide, by decide⟩ (Nat.le_of_ble_eq_true rfl) ?_
  refine x_aload_n (pc := 4) X dX6_init_4 (i := 0) rfl 0 rfl ?_
  refine x_iconst (v := 0) (pc := 5) X dX6_init_5 (by decide) ?_
  refine x_iload_n (pc := 6) X dX6_init_6 (i := 2) rfl 2 rfl ?_
  refine x_mmax (pc := 7) X dX6_init_7 w_177 ⟨by decide, by decide⟩ ⟨by decide, by decide⟩ (Nat.le_of_ble_eq_true rfl) ?_
  refine x_nm (y := 8) (by decide) ?_
  obtain ⟨k1, h⟩ := grd h
  obtain ⟨D1, w1, h⟩ := pass h
  obtain ⟨P1, u1, h⟩ := pass h
  refine x_anewarr (N := 8) (D' := D1) (P' := P1) (pc := 10) X dX6_init_10 k1 (by decide) (by decide) (by decide) w_180 w1 u1 ⟨by decide, by decide⟩ ?_
  refine XW.ren (nx' := nx + 1) (c' := 1) (s' := 8) rfl rfl rfl ?_
  obtain ⟨k2, h⟩ := grd h
  obtain ⟨P3, w3, h⟩ := pass h
  refine x_putr (ci := 6) (k := 0) (n := 2) (C := RX6) (T := TX6) (ty := .array (.object "HeartPins$Standing")) (P' := P3) (pc := 13) X dX6_init_13 k2 rfl (by decide) w_183 rfl (by decide +kernel) (Or.inr ⟨_, rfl⟩) rfl w3 ?_
  refine x_iconst (v := 0) (pc := 16) X dX6_init_16 (by decide) ?_
  refine x_istore_n (lv' := [(3, .int 0), (0, .ref (cx.2.2 + a0)), (1, .ref (cx.2.2 + a1)), (2, .int 8)]) (pc := 17) X dX6_init_17 (i := 3) rfl (by decide) rfl ?_
  refine x_iload_n (pc := 18) X dX6_init_18 (i := 3) rfl 0 rfl ?_
  refine x_aload_n (pc := 19) X dX6_init_19 (i := 0) rfl 1 rfl ?_
  obtain ⟨q4, e4, h⟩ := nns h
  refine x_getr (ci := 6) (k := 0) (n := 2) (C := RX6) (T := TX6) (pc := 20) X dX6_init_20 k2 rfl (by decide) w_183 rfl e4 ?_
  obtain ⟨k6, h⟩ := grd h
  refine x_alen (v := 8) (pc := 23) X dX6_init_23 k6 (by decide) (by decide) ?_
  refine x_icmp_ge (tgt := 47) (pc := 24) X dX6_init_24 (by decide) (fun c7 => ?_) (fun c7 => ?_)
  · exact absurd c7 (by decide)
  · refine x_aload_n (pc := 27) X dX6_init_27 (i := 0) rfl 1 rfl ?_
    refine x_getr (ci := 6) (k := 0) (n := 2) (C := RX6) (T := TX6) (pc := 28) X dX6_init_28 k2 rfl (by decide) w_183 rfl e4 ?_
    refine x_iload_n (pc := 31) X dX6_init_31 (i := 3) rfl 0 rfl ?_
    obtain ⟨k8, h⟩ := grd h
    obtain ⟨D8, w8, h⟩ := pass h
    obtain ⟨P8, u8, h⟩ := pass h
    refine x_new (ci := 7) (n := 5) (C := RX7) (T := TX7) (D' := D8) (P' := P8) (pc := 32) X dX6_init_32 k8 rfl w_180 w_146 w_57 w8 u8 dfl7 ⟨by decide, by decide⟩ ?_
    refine XW.ren (nx' := nx + 2) (c' := 2) (s' := 13) rfl rfl rfl ?_
    refine x_dup (pc := 35) X dX6_init_35 rfl ?_
    refine x_aload_n (pc := 36) X dX6_init_36 (i := 1) rfl 2 rfl ?_
    obtain ⟨z9, e9, h⟩ := bnds h
    refine x_callI (pc := 37) (As := [.ref (cx.2.2 + a1)]) (st := [.ref (cx.2.2 + (nx + 1)), .int 0, .ref (cx.2.2 + q4)]) X (c_C_init l cx (nx + 2) N D8 P8 _ _ z9 e9) dX6_init_37 w_182 m_C_init rfl ⟨by decide, by decide⟩ ⟨by decide, by decide⟩ rfl (Nat.le_of_ble_eq_true rfl) ?_
    refine XW.ren (nx' := nx + 4) (c' := 4) (s' := 29) rfl rfl rfl ?_
    obtain ⟨k11, h⟩ := grd h
    obtain ⟨g10, h⟩ := grd h
    obtain ⟨P10, w10, h⟩ := pass h
    refine x_aast (P' := P10) (pc := 40) X dX6_init_40 g10 k11 w10 ?_
    refine x_iinc (v := 1) (lv' := [(3, .int 1), (0, .ref (cx.2.2 + a0)), (1, .ref (cx.2.2 + a1)), (2, .int 8)]) (pc := 41) X dX6_init_41 0 rfl (by decide) (by decide) rfl ?_
    refine x_goto (tgt := 18) (pc := 44) X dX6_init_44 (by decide) ?_
    refine x_iload_n (pc := 18) X dX6_init_18 (i := 3) rfl 0 rfl ?_
    refine x_aload_n (pc := 19) X dX6_init_19 (i := 0) rfl 1 rfl ?_
    obtain ⟨k12, h⟩ := grd h
    obtain ⟨q13, e13, h⟩ := nns h
    refine x_getr (ci := 6) (k := 0) (n := 2) (C := RX6) (T := TX6) (pc := 20) X dX6_init_20 k12 rfl (by decide) w_183 rfl e13 ?_
    obtain ⟨k15, h⟩ := grd h
    refine x_alen (v := 8) (pc := 23) X dX6_init_23 k15 (by decide) (by decide) ?_
    refine x_icmp_ge (tgt := 47) (pc := 24) X dX6_init_24 (by decide) (fun c16 => ?_) (fun c16 => ?_)
    · exact absurd c16 (by decide)
    · refine x_aload_n (pc := 27) X dX6_init_27 (i := 0) rfl 1 rfl ?_
      refine x_getr (ci := 6) (k := 0) (n := 2) (C := RX6) (T := TX6) (pc := 28) X dX6_init_28 k12 rfl (by decide) w_183 rfl e13 ?_
      refine x_iload_n (pc := 31) X dX6_init_31 (i := 3) rfl 0 rfl ?_
      obtain ⟨k17, h⟩ := grd h
      obtain ⟨D17, w17, h⟩ := pass h
      obtain ⟨P17, u17, h⟩ := pass h
      refine x_new (ci := 7) (n := 5) (C := RX7) (T := TX7) (D' := D17) (P' := P17) (pc := 32) X dX6_init_32 k17 rfl w_180 w_146 w_57 w17 u17 dfl7 ⟨by decide, by decide⟩ ?_
      refine XW.ren (nx' := nx + 5) (c' := 5) (s' := 34) rfl rfl rfl ?_
      refine x_dup (pc := 35) X dX6_init_35 rfl ?_
      refine x_aload_n (pc := 36) X dX6_init_36 (i := 1) rfl 2 rfl ?_
      obtain ⟨z18, e18, h⟩ := bnds h
      refine x_callI (pc := 37) (As := [.ref (cx.2.2 + a1)]) (st := [.ref (cx.2.2 + (nx + 4)), .int 1, .ref (cx.2.2 + q13)]) X (c_C_init l cx (nx + 5) N D17 P17 _ _ z18 e18) dX6_init_37 w_182 m_C_init rfl ⟨by decide, by decide⟩ ⟨by decide, by decide⟩ rfl (Nat.le_of_ble_eq_true rfl) ?_
      refine XW.ren (nx' := nx + 7) (c' := 7) (s' := 50) rfl rfl rfl ?_
      obtain ⟨k20, h⟩ := grd h
      obtain ⟨g19, h⟩ := grd h
      obtain ⟨P19, w19, h⟩ := pass h
      refine x_aast (P' := P19) (pc := 40) X dX6_init_40 g19 k20 w19 ?_
      refine x_iinc (v := 2) (lv' := [(3, .int 2), (0, .ref (cx.2.2 + a0)), (1, .ref (cx.2.2 + a1)), (2, .int 8)]) (pc := 41) X dX6_init_41 0 rfl (by decide) (by decide) rfl ?_
      refine x_goto (tgt := 18) (pc := 44) X dX6_init_44 (by decide) ?_
      refine x_iload_n (pc := 18) X dX6_init_18 (i := 3) rfl 0 rfl ?_
      refine x_aload_n (pc := 19) X dX6_init_19 (i := 0) rfl 1 rfl ?_
      obtain ⟨k21, h⟩ := grd h
      obtain ⟨q22, e22, h⟩ := nns h
      refine x_getr (ci := 6) (k := 0) (n := 2) (C := RX6) (T := TX6) (pc := 20) X dX6_init_20 k21 rfl (by decide) w_183 rfl e22 ?_
      obtain ⟨k24, h⟩ := grd h
      refine x_alen (v := 8) (pc := 23) X dX6_init_23 k24 (by decide) (by decide) ?_
      refine x_icmp_ge (tgt := 47) (pc := 24) X dX6_init_24 (by decide) (fun c25 => ?_) (fun c25 => ?_)
      · exact absurd c25 (by decide)
      · refine x_aload_n (pc := 27) X dX6_init_27 (i := 0) rfl 1 rfl ?_
        refine x_getr (ci := 6) (k := 0) (n := 2) (C := RX6) (T := TX6) (pc := 28) X dX6_init_28 k21 rfl (by decide) w_183 rfl e22 ?_
        refine x_iload_n (pc := 31) X dX6_init_31 (i := 3) rfl 0 rfl ?_
        obtain ⟨k26, h⟩ := grd h
        obtain ⟨D26, w26, h⟩ := pass h
        obtain ⟨P26, u26, h⟩ := pass h
        refine x_new (ci := 7) (n := 5) (C := RX7) (T := TX7) (D' := D26) (P' := P26) (pc := 32) X dX6_init_32 k26 rfl w_180 w_146 w_57 w26 u26 dfl7 ⟨by decide, by decide⟩ ?_
        refine XW.ren (nx' := nx + 8) (c' := 8) (s' := 55) rfl rfl rfl ?_
        refine x_dup (pc := 35) X dX6_init_35 rfl ?_
        refine x_aload_n (pc := 36) X dX6_init_36 (i := 1) rfl 2 rfl ?_
        obtain ⟨z27, e27, h⟩ := bnds h
        refine x_callI (pc := 37) (As := [.ref (cx.2.2 + a1)]) (st := [.ref (cx.2.2 + (nx + 7)), .int 2, .ref (cx.2.2 + q22)]) X (c_C_init l cx (nx + 8) N D26 P26 _ _ z27 e27) dX6_init_37 w_182 m_C_init rfl ⟨by decide, by decide⟩ ⟨by decide, by decide⟩ rfl (Nat.le_of_ble_eq_true rfl) ?_
        refine XW.ren (nx' := nx + 10) (c' := 10) (s' := 71) rfl rfl rfl ?_
        obtain ⟨k29, h⟩ := grd h
        obtain ⟨g28, h⟩ := grd h
        obtain ⟨P28, w28, h⟩ := pass h
        refine x_aast (P' := P28) (pc := 40) X dX6_init_40 g28 k29 w28 ?_
        refine x_iinc (v := 3) (lv' := [(3, .int 3), (0, .ref (cx.2.2 + a0)), (1, .ref (cx.2.2 + a1)), (2, .int 8)]) (pc := 41) X dX6_init_41 0 rfl (by decide) (by decide) rfl ?_
        refine x_goto (tgt := 18) (pc := 44) X dX6_init_44 (by decide) ?_
        refine x_iload_n (pc := 18) X dX6_init_18 (i := 3) rfl 0 rfl ?_
        refine x_aload_n (pc := 19) X dX6_init_19 (i := 0) rfl 1 rfl ?_
        obtain ⟨k30, h⟩ := grd h
        obtain ⟨q31, e31, h⟩ := nns h
        refine x_getr (ci := 6) (k := 0) (n := 2) (C := RX6) (T := TX6) (pc := 20) X dX6_init_20 k30 rfl (by decide) w_183 rfl e31 ?_
        obtain ⟨k33, h⟩ := grd h
        refine x_alen (v := 8) (pc := 23) X dX6_init_23 k33 (by decide) (by decide) ?_
        refine x_icmp_ge (tgt := 47) (pc := 24) X dX6_init_24 (by decide) (fun c34 => ?_) (fun c34 => ?_)
        · exact absurd c34 (by decide)
        · refine x_aload_n (pc := 27) X dX6_init_27 (i := 0) rfl 1 rfl ?_
          refine x_getr (ci := 6) (k := 0) (n := 2) (C := RX6) (T := TX6) (pc := 28) X dX6_init_28 k30 rfl (by decide) w_183 rfl e31 ?_
          refine x_iload_n (pc := 31) X dX6_init_31 (i := 3) rfl 0 rfl ?_
          obtain ⟨k35, h⟩ := grd h
          obtain ⟨D35, w35, h⟩ := pass h
          obtain ⟨P35, u35, h⟩ := pass h
          refine x_new (ci := 7) (n := 5) (C := RX7) (T := TX7) (D' := D35) (P' := P35) (pc := 32) X dX6_init_32 k35 rfl w_180 w_146 w_57 w35 u35 dfl7 ⟨by decide, by decide⟩ ?_
          refine XW.ren (nx' := nx + 11) (c' := 11) (s' := 76) rfl rfl rfl ?_
          refine x_dup (pc := 35) X dX6_init_35 rfl ?_
          refine x_aload_n (pc := 36) X dX6_init_36 (i := 1) rfl 2 rfl ?_
          obtain ⟨z36, e36, h⟩ := bnds h
          refine x_callI (pc := 37) (As := [.ref (cx.2.2 + a1)]) (st := [.ref (cx.2.2 + (nx + 10)), .int 3, .ref (cx.2.2 + q31)]) X (c_C_init l cx (nx + 11) N D35 P35 _ _ z36 e36) dX6_init_37 w_182 m_C_init rfl ⟨by decide, by decide⟩ ⟨by decide, by decide⟩ rfl (Nat.le_of_ble_eq_true rfl) ?_
          refine XW.ren (nx' := nx + 13) (c' := 13) (s' := 92) rfl rfl rfl ?_
          obtain ⟨k38, h⟩ := grd h
          obtain ⟨g37, h⟩ := grd h
          obtain ⟨P37, w37, h⟩ := pass h
          refine x_aast (P' := P37) (pc := 40) X dX6_init_40 g37 k38 w37 ?_
          refine x_iinc (v := 4) (lv' := [(3, .int 4), (0, .ref (cx.2.2 + a0)), (1, .ref (cx.2.2 + a1)), (2, .int 8)]) (pc := 41) X dX6_init_41 0 rfl (by decide) (by decide) rfl ?_
          refine x_goto (tgt := 18) (pc := 44) X dX6_init_44 (by decide) ?_
          refine x_iload_n (pc := 18) X dX6_init_18 (i := 3) rfl 0 rfl ?_
          refine x_aload_n (pc := 19) X dX6_init_19 (i := 0) rfl 1 rfl ?_
          obtain ⟨k39, h⟩ := grd h
          obtain ⟨q40, e40, h⟩ := nns h
          refine x_getr (ci := 6) (k := 0) (n := 2) (C := RX6) (T := TX6) (pc := 20) X dX6_init_20 k39 rfl (by decide) w_183 rfl e40 ?_
          obtain ⟨k42, h⟩ := grd h
          refine x_alen (v := 8) (pc := 23) X dX6_init_23 k42 (by decide) (by decide) ?_
          refine x_icmp_ge (tgt := 47) (pc := 24) X dX6_init_24 (by decide) (fun c43 => ?_) (fun c43 => ?_)
          · exact absurd c43 (by decide)
          · refine x_aload_n (pc := 27) X dX6_init_27 (i := 0) rfl 1 rfl ?_
            refine x_getr (ci := 6) (k := 0) (n := 2) (C := RX6) (T := TX6) (pc := 28) X dX6_init_28 k39 rfl (by decide) w_183 rfl e40 ?_
            refine x_iload_n (pc := 31) X dX6_init_31 (i := 3) rfl 0 rfl ?_
            obtain ⟨k44, h⟩ := grd h
            obtain ⟨D44, w44, h⟩ := pass h
            obtain ⟨P44, u44, h⟩ := pass h
            refine x_new (ci := 7) (n := 5) (C := RX7) (T := TX7) (D' := D44) (P' := P44) (pc := 32) X dX6_init_32 k44 rfl w_180 w_146 w_57 w44 u44 dfl7 ⟨by decide, by decide⟩ ?_
            refine XW.ren (nx' := nx + 14) (c' := 14) (s' := 97) rfl rfl rfl ?_
            refine x_dup (pc := 35) X dX6_init_35 rfl ?_
            refine x_aload_n (pc := 36) X dX6_init_36 (i := 1) rfl 2 rfl ?_
            obtain ⟨z45, e45, h⟩ := bnds h
            refine x_callI (pc := 37) (As := [.ref (cx.2.2 + a1)]) (st := [.ref (cx.2.2 + (nx + 13)), .int 4, .ref (cx.2.2 + q40)]) X (c_C_init l cx (nx + 14) N D44 P44 _ _ z45 e45) dX6_init_37 w_182 m_C_init rfl ⟨by decide, by decide⟩ ⟨by decide, by decide⟩ rfl (Nat.le_of_ble_eq_true rfl) ?_
            refine XW.ren (nx' := nx + 16) (c' := 16) (s' := 113) rfl rfl rfl ?_
            obtain ⟨k47, h⟩ := grd h
            obtain ⟨g46, h⟩ := grd h
            obtain ⟨P46, w46, h⟩ := pass h
            refine x_aast (P' := P46) (pc := 40) X dX6_init_40 g46 k47 w46 ?_
            refine x_iinc (v := 5) (lv' := [(3, .int 5), (0, .ref (cx.2.2 + a0)), (1, .ref (cx.2.2 + a1)), (2, .int 8)]) (pc := 41) X dX6_init_41 0 rfl (by decide) (by decide) rfl ?_
            refine x_goto (tgt := 18) (pc := 44) X dX6_init_44 (by decide) ?_
            refine x_iload_n (pc := 18) X dX6_init_18 (i := 3) rfl 0 rfl ?_
            refine x_aload_n (pc := 19) X dX6_init_19 (i := 0) rfl 1 rfl ?_
            obtain ⟨k48, h⟩ := grd h
            obtain ⟨q49, e49, h⟩ := nns h
            refine x_getr (ci := 6) (k := 0) (n := 2) (C := RX6) (T := TX6) (pc := 20) X dX6_init_20 k48 rfl (by decide) w_183 rfl e49 ?_
            obtain ⟨k51, h⟩ := grd h
            refine x_alen (v := 8) (pc := 23) X dX6_init_23 k51 (by decide) (by decide) ?_
            refine x_icmp_ge (tgt := 47) (pc := 24) X dX6_init_24 (by decide) (fun c52 => ?_) (fun c52 => ?_)
            · exact absurd c52 (by decide)
            · refine x_aload_n (pc := 27) X dX6_init_27 (i := 0) rfl 1 rfl ?_
              refine x_getr (ci := 6) (k := 0) (n := 2) (C := RX6) (T := TX6) (pc := 28) X dX6_init_28 k48 rfl (by decide) w_183 rfl e49 ?_
              refine x_iload_n (pc := 31) X dX6_init_31 (i := 3) rfl 0 rfl ?_
              obtain ⟨k53, h⟩ := grd h
              obtain ⟨D53, w53, h⟩ := pass h
              obtain ⟨P53, u53, h⟩ := pass h
              refine x_new (ci := 7) (n := 5) (C := RX7) (T := TX7) (D' := D53) (P' := P53) (pc := 32) X dX6_init_32 k53 rfl w_180 w_146 w_57 w53 u53 dfl7 ⟨by decide, by decide⟩ ?_
              refine XW.ren (nx' := nx + 17) (c' := 17) (s' := 118) rfl rfl rfl ?_
              refine x_dup (pc := 35) X dX6_init_35 rfl ?_
              refine x_aload_n (pc := 36) X dX6_init_36 (i := 1) rfl 2 rfl ?_
              obtain ⟨z54, e54, h⟩ := bnds h
              refine x_callI (pc := 37) (As := [.ref (cx.2.2 + a1)]) (st := [.ref (cx.2.2 + (nx + 16)), .int 5, .ref (cx.2.2 + q49)]) X (c_C_init l cx (nx + 17) N D53 P53 _ _ z54 e54) dX6_init_37 w_182 m_C_init rfl ⟨by decide, by decide⟩ ⟨by decide, by decide⟩ rfl (Nat.le_of_ble_eq_true rfl) ?_
              refine XW.ren (nx' := nx + 19) (c' := 19) (s' := 134) rfl rfl rfl ?_
              obtain ⟨k56, h⟩ := grd h
              obtain ⟨g55, h⟩ := grd h
              obtain ⟨P55, w55, h⟩ := pass h
              refine x_aast (P' := P55) (pc := 40) X dX6_init_40 g55 k56 w55 ?_
              refine x_iinc (v := 6) (lv' := [(3, .int 6), (0, .ref (cx.2.2 + a0)), (1, .ref (cx.2.2 + a1)), (2, .int 8)]) (pc := 41) X dX6_init_41 0 rfl (by decide) (by decide) rfl ?_
              refine x_goto (tgt := 18) (pc := 44) X dX6_init_44 (by decide) ?_
              refine x_iload_n (pc := 18) X dX6_init_18 (i := 3) rfl 0 rfl ?_
              refine x_aload_n (pc := 19) X dX6_init_19 (i := 0) rfl 1 rfl ?_
              obtain ⟨k57, h⟩ := grd h
              obtain ⟨q58, e58, h⟩ := nns h
              refine x_getr (ci := 6) (k := 0) (n := 2) (C := RX6) (T := TX6) (pc := 20) X dX6_init_20 k57 rfl (by decide) w_183 rfl e58 ?_
              obtain ⟨k60, h⟩ := grd h
              refine x_alen (v := 8) (pc := 23) X dX6_init_23 k60 (by decide) (by decide) ?_
              refine x_icmp_ge (tgt := 47) (pc := 24) X dX6_init_24 (by decide) (fun c61 => ?_) (fun c61 => ?_)
              · exact absurd c61 (by decide)
              · refine x_aload_n (pc := 27) X dX6_init_27 (i := 0) rfl 1 rfl ?_
                refine x_getr (ci := 6) (k := 0) (n := 2) (C := RX6) (T := TX6) (pc := 28) X dX6_init_28 k57 rfl (by decide) w_183 rfl e58 ?_
                refine x_iload_n (pc := 31) X dX6_init_31 (i := 3) rfl 0 rfl ?_
                obtain ⟨k62, h⟩ := grd h
                obtain ⟨D62, w62, h⟩ := pass h
                obtain ⟨P62, u62, h⟩ := pass h
                refine x_new (ci := 7) (n := 5) (C := RX7) (T := TX7) (D' := D62) (P' := P62) (pc := 32) X dX6_init_32 k62 rfl w_180 w_146 w_57 w62 u62 dfl7 ⟨by decide, by decide⟩ ?_
                refine XW.ren (nx' := nx + 20) (c' := 20) (s' := 139) rfl rfl rfl ?_
                refine x_dup (pc := 35) X dX6_init_35 rfl ?_
                refine x_aload_n (pc := 36) X dX6_init_36 (i := 1) rfl 2 rfl ?_
                obtain ⟨z63, e63, h⟩ := bnds h
                refine x_callI (pc := 37) (As := [.ref (cx.2.2 + a1)]) (st := [.ref (cx.2.2 + (nx + 19)), .int 6, .ref (cx.2.2 + q58)]) X (c_C_init l cx (nx + 20) N D62 P62 _ _ z63 e63) dX6_init_37 w_182 m_C_init rfl ⟨by decide, by decide⟩ ⟨by decide, by decide⟩ rfl (Nat.le_of_ble_eq_true rfl) ?_
                refine XW.ren (nx' := nx + 22) (c' := 22) (s' := 155) rfl rfl rfl ?_
                obtain ⟨k65, h⟩ := grd h
                obtain ⟨g64, h⟩ := grd h
                obtain ⟨P64, w64, h⟩ := pass h
                refine x_aast (P' := P64) (pc := 40) X dX6_init_40 g64 k65 w64 ?_
                refine x_iinc (v := 7) (lv' := [(3, .int 7), (0, .ref (cx.2.2 + a0)), (1, .ref (cx.2.2 + a1)), (2, .int 8)]) (pc := 41) X dX6_init_41 0 rfl (by decide) (by decide) rfl ?_
                refine x_goto (tgt := 18) (pc := 44) X dX6_init_44 (by decide) ?_
                refine x_iload_n (pc := 18) X dX6_init_18 (i := 3) rfl 0 rfl ?_
                refine x_aload_n (pc := 19) X dX6_init_19 (i := 0) rfl 1 rfl ?_
                obtain ⟨k66, h⟩ := grd h
                obtain ⟨q67, e67, h⟩ := nns h
                refine x_getr (ci := 6) (k := 0) (n := 2) (C := RX6) (T := TX6) (pc := 20) X dX6_init_20 k66 rfl (by decide) w_183 rfl e67 ?_
                obtain ⟨k69, h⟩ := grd h
                refine x_alen (v := 8) (pc := 23) X dX6_init_23 k69 (by decide) (by decide) ?_
                refine x_icmp_ge (tgt := 47) (pc := 24) X dX6_init_24 (by decide) (fun c70 => ?_) (fun c70 => ?_)
                · exact absurd c70 (by decide)
                · refine x_aload_n (pc := 27) X dX6_init_27 (i := 0) rfl 1 rfl ?_
                  refine x_getr (ci := 6) (k := 0) (n := 2) (C := RX6) (T := TX6) (pc := 28) X dX6_init_28 k66 rfl (by decide) w_183 rfl e67 ?_
                  refine x_iload_n (pc := 31) X dX6_init_31 (i := 3) rfl 0 rfl ?_
                  obtain ⟨k71, h⟩ := grd h
                  obtain ⟨D71, w71, h⟩ := pass h
                  obtain ⟨P71, u71, h⟩ := pass h
                  refine x_new (ci := 7) (n := 5) (C := RX7) (T := TX7) (D' := D71) (P' := P71) (pc := 32) X dX6_init_32 k71 rfl w_180 w_146 w_57 w71 u71 dfl7 ⟨by decide, by decide⟩ ?_
                  refine XW.ren (nx' := nx + 23) (c' := 23) (s' := 160) rfl rfl rfl ?_
                  refine x_dup (pc := 35) X dX6_init_35 rfl ?_
                  refine x_aload_n (pc := 36) X dX6_init_36 (i := 1) rfl 2 rfl ?_
                  obtain ⟨z72, e72, h⟩ := bnds h
                  refine x_callI (pc := 37) (As := [.ref (cx.2.2 + a1)]) (st := [.ref (cx.2.2 + (nx + 22)), .int 7, .ref (cx.2.2 + q67)]) X (c_C_init l cx (nx + 23) N D71 P71 _ _ z72 e72) dX6_init_37 w_182 m_C_init rfl ⟨by decide, by decide⟩ ⟨by decide, by decide⟩ rfl (Nat.le_of_ble_eq_true rfl) ?_
                  refine XW.ren (nx' := nx + 25) (c' := 25) (s' := 176) rfl rfl rfl ?_
                  obtain ⟨k74, h⟩ := grd h
                  obtain ⟨g73, h⟩ := grd h
                  obtain ⟨P73, w73, h⟩ := pass h
                  refine x_aast (P' := P73) (pc := 40) X dX6_init_40 g73 k74 w73 ?_
                  refine x_iinc (v := 8) (lv' := [(3, .int 8), (0, .ref (cx.2.2 + a0)), (1, .ref (cx.2.2 + a1)), (2, .int 8)]) (pc := 41) X dX6_init_41 0 rfl (by decide) (by decide) rfl ?_
                  refine x_goto (tgt := 18) (pc := 44) X dX6_init_44 (by decide) ?_
                  refine x_iload_n (pc := 18) X dX6_init_18 (i := 3) rfl 0 rfl ?_
                  refine x_aload_n (pc := 19) X dX6_init_19 (i := 0) rfl 1 rfl ?_
                  obtain ⟨k75, h⟩ := grd h
                  obtain ⟨q76, e76, h⟩ := nns h
                  refine x_getr (ci := 6) (k := 0) (n := 2) (C := RX6) (T := TX6) (pc := 20) X dX6_init_20 k75 rfl (by decide) w_183 rfl e76 ?_
                  obtain ⟨k78, h⟩ := grd h
                  refine x_alen (v := 8) (pc := 23) X dX6_init_23 k78 (by decide) (by decide) ?_
                  refine x_icmp_ge (tgt := 47) (pc := 24) X dX6_init_24 (by decide) (fun c79 => ?_) (fun c79 => ?_)
                  · obtain rfl := Option.some.inj h
                    exact x_vret (pc := 47) X dX6_init_47
                  · exact absurd c79 (by decide)
def f_S_init2 (N nx : Nat) (D : Dt) (P : Ft) (a0 : Nat) (a1 : Nat) : Option (Dt × Ft) :=
  if kd nx a0 = 6 then
  if SH nx = 40002 then
  pas (zD D nx) fun D1 =>
  pas (zP P nx) fun P1 =>
  if kd (nx + 1) a0 = 6 then
  pas (updF P1 a0 0 (some nx)) fun P3 =>
  nn (P3 a0 0) fun q4 =>
  if kd (nx + 1) q4 = 40002 then
  if SH (nx + 1) = 7 then
  pas (zD D1 (nx + 1)) fun D8 =>
  pas (zP P3 (nx + 1)) fun P8 =>
  (f_C_init N (nx + 2) D8 P8 (nx + 1) a1).bind fun z9 =>
  if kd (nx + 4) (nx + 1) = 7 then
  if ab (nx + 4) q4 4 0 = true then
  pas (updF z9.2 q4 (0 : Int32).toNatClampNeg (some (nx + 1))) fun P10 =>
  if kd (nx + 4) a0 = 6 then
  nn (P10 a0 0) fun q13 =>
  if kd (nx + 4) q13 = 40002 then
  if SH (nx + 4) = 7 then
  pas (zD z9.1 (nx + 4)) fun D17 =>
  pas (zP P10 (nx + 4)) fun P17 =>
  (f_C_init N (nx + 5) D17 P17 (nx + 4) a1).bind fun z18 =>
  if kd (nx + 7) (nx + 4) = 7 then
  if ab (nx + 7) q13 4 1 = true then
  pas (updF z18.2 q13 (1 : Int32).toNatClampNeg (some (nx + 4))) fun P19 =>
  if kd (nx + 7) a0 = 6 then
  nn (P19 a0 0) fun q22 =>
  if kd (nx + 7) q22 = 40002 then
  some (z18.1, P19)
  else none
  else none
  else none
  else none
  else none
  else none
  else none
  else none
  else none
  else none
  else none
  else none
  else none
  else none
theorem m_S_init2 : MI yX6_init cX6_init 4 2 := ⟨mT 175 (by decide +kernel) rfl, mT 174 (by decide +kernel) rfl, rfl, mT 58 (by decide +kernel) rfl, by decide +kernel, by decide +kernel, by decide +kernel⟩
set_option maxHeartbeats 4000000 in
set_option maxRecDepth 100000 in
theorem c_S_init2 (l : Launch) (cx : Cx) (nx N : Nat) (D : Dt) (P : Ft) (a0 : Nat) (a1 : Nat) (z : Dt × Ft) (h : f_S_init2 N nx D P a0 a1 = some z) : Cc l cx yX6_init cX6_init 4 2 7 44 [.ref (cx.2.2 + a0), .ref (cx.2.2 + a1), .int 2] D P nx z.1 z.2 (nx + 7) := by
  refine x_met0 (by decide) (Nat.le_of_ble_eq_true rfl) ?_
  intro p e s m args below meth c X
  have X : XC p s m args meth c cx cX6_init 4 none "HeartPins$Shelf" "<init>" := X
  refine XW.sub (lv' := [(0, .ref (cx.2.2 + a0)), (1, .ref (cx.2.2 + a1)), (2, .int 2)]) [0, 1, 2] rfl ?_
  unfold f_S_init2 at h
  obtain ⟨hk0, h⟩ := grd h
  refine x_aload_n (pc := 0) X dX6_init_0 (i := 0) rfl 0 rfl ?_
  refine x_objInit (pc := 1) X dX6_init_1 w_176 w_oi1 w_oi2 ⟨by decide, by decide⟩ (Nat.le_of_ble_eq_true rfl) ?_
  refine x_aload_n (pc := 4) X dX6_init_4 (i := 0) rfl 0 rfl ?_
  refine x_iconst (v := 0) (pc := 5) X dX6_init_5 (by decide) ?_
  refine x_iload_n (pc := 6) X dX6_init_6 (i := 2) rfl 2 rfl ?_
  refine x_mmax (pc := 7) X dX6_init_7 w_177 ⟨by decide, by decide⟩ ⟨by decide, by decide⟩ (Nat.le_of_ble_eq_true rfl) ?_
  refine x_nm (y := 2) (by decide) ?_
  obtain ⟨k1, h⟩ := grd h
  obtain ⟨D1, w1, h⟩ := pass h
  obtain ⟨P1, u1, h⟩ := pass h
  refine x_anewarr (N := 2) (D' := D1) (P' := P1) (pc := 10) X dX6_init_10 k1 (by decide) (by decide) (by decide) w_180 w1 u1 ⟨by decide, by decide⟩ ?_
  refine XW.ren (nx' := nx + 1) (c' := 1) (s' := 2) rfl rfl rfl ?_
  obtain ⟨k2, h⟩ := grd h
  obtain ⟨P3, w3, h⟩ := pass h
  refine x_putr (ci := 6) (k := 0) (n := 2) (C := RX6) (T := TX6) (ty := .array (.object "HeartPins$Standing")) (P' := P3) (pc := 13) X dX6_init_13 k2 rfl (by decide) w_183 rfl (by decide +kernel) (Or.inr ⟨_, rfl⟩) rfl w3 ?_
  refine x_iconst (v := 0) (pc := 16) X dX6_init_16 (by decide) ?_
  refine x_istore_n (lv' := [(3, .int 0), (0, .ref (cx.2.2 + a0)), (1, .ref (cx.2.2 + a1)), (2, .int 2)]) (pc := 17) X dX6_init_17 (i := 3) rfl (by decide) rfl ?_
  refine x_iload_n (pc := 18) X dX6_init_18 (i := 3) rfl 0 rfl ?_
  refine x_aload_n (pc := 19) X dX6_init_19 (i := 0) rfl 1 rfl ?_
  obtain ⟨q4, e4, h⟩ := nns h
  refine x_getr (ci := 6) (k := 0) (n := 2) (C := RX6) (T := TX6) (pc := 20) X dX6_init_20 k2 rfl (by decide) w_183 rfl e4 ?_
  obtain ⟨k6, h⟩ := grd h
  refine x_alen (v := 2) (pc := 23) X dX6_init_23 k6 (by decide) (by decide) ?_
  refine x_icmp_ge (tgt := 47) (pc := 24) X dX6_init_24 (by decide) (fun c7 => ?_) (fun c7 => ?_)
  · exact absurd c7 (by decide)
  · refine x_aload_n (pc := 27) X dX6_init_27 (i := 0) rfl 1 rfl ?_
    refine x_getr (ci := 6) (k := 0) (n := 2) (C := RX6) (T := TX6) (pc := 28) X dX6_init_28 k2 rfl (by decide) w_183 rfl e4 ?_
    refine x_iload_n (pc := 31) X dX6_init_31 (i := 3) rfl 0 rfl ?_
    obtain ⟨k8, h⟩ := grd h
    obtain ⟨D8, w8, h⟩ := pass h
    obtain ⟨P8, u8, h⟩ := pass h
    refine x_new (ci := 7) (n := 5) (C := RX7) (T := TX7) (D' := D8) (P' := P8) (pc := 32) X dX6_init_32 k8 rfl w_180 w_146 w_57 w8 u8 dfl7 ⟨by decide, by decide⟩ ?_
    refine XW.ren (nx' := nx + 2) (c' := 2) (s' := 7) rfl rfl rfl ?_
    refine x_dup (pc := 35) X dX6_init_35 rfl ?_
    refine x_aload_n (pc := 36) X dX6_init_36 (i := 1) rfl 2 rfl ?_
    obtain ⟨z9, e9, h⟩ := bnds h
    refine x_callI (pc := 37) (As := [.ref (cx.2.2 + a1)]) (st := [.ref (cx.2.2 + (nx + 1)), .int 0, .ref (cx.2.2 + q4)]) X (c_C_init l cx (nx + 2) N D8 P8 _ _ z9 e9) dX6_init_37 w_182 m_C_init rfl ⟨by decide, by decide⟩ ⟨by decide, by decide⟩ rfl (Nat.le_of_ble_eq_true rfl) ?_
    refine XW.ren (nx' := nx + 4) (c' := 4) (s' := 23) rfl rfl rfl ?_
    obtain ⟨k11, h⟩ := grd h
    obtain ⟨g10, h⟩ := grd h
    obtain ⟨P10, w10, h⟩ := pass h
    refine x_aast (P' := P10) (pc := 40) X dX6_init_40 g10 k11 w10 ?_
    refine x_iinc (v := 1) (lv' := [(3, .int 1), (0, .ref (cx.2.2 + a0)), (1, .ref (cx.2.2 + a1)), (2, .int 2)]) (pc := 41) X dX6_init_41 0 rfl (by decide) (by decide) rfl ?_
    refine x_goto (tgt := 18) (pc := 44) X dX6_init_44 (by decide) ?_
    refine x_iload_n (pc := 18) X dX6_init_18 (i := 3) rfl 0 rfl ?_
    refine x_aload_n (pc := 19) X dX6_init_19 (i := 0) rfl 1 rfl ?_
    obtain ⟨k12, h⟩ := grd h
    obtain ⟨q13, e13, h⟩ := nns h
    refine x_getr (ci := 6) (k := 0) (n := 2) (C := RX6) (T := TX6) (pc := 20) X dX6_init_20 k12 rfl (by decide) w_183 rfl e13 ?_
    obtain ⟨k15, h⟩ := grd h
    refine x_alen (v := 2) (pc := 23) X dX6_init_23 k15 (by decide) (by decide) ?_
    refine x_icmp_ge (tgt := 47) (pc := 24) X dX6_init_24 (by decide) (fun c16 => ?_) (fun c16 => ?_)
    · exact absurd c16 (by decide)
    · refine x_aload_n (pc := 27) X dX6_init_27 (i := 0) rfl 1 rfl ?_
      refine x_getr (ci := 6) (k := 0) (n := 2) (C := RX6) (T := TX6) (pc := 28) X dX6_init_28 k12 rfl (by decide) w_183 rfl e13 ?_
      refine x_iload_n (pc := 31) X dX6_init_31 (i := 3) rfl 0 rfl ?_
      obtain ⟨k17, h⟩ := grd h
      obtain ⟨D17, w17, h⟩ := pass h
      obtain ⟨P17, u17, h⟩ := pass h
      refine x_new (ci := 7) (n := 5) (C := RX7) (T := TX7) (D' := D17) (P' := P17) (pc := 32) X dX6_init_32 k17 rfl w_180 w_146 w_57 w17 u17 dfl7 ⟨by decide, by decide⟩ ?_
      refine XW.ren (nx' := nx + 5) (c' := 5) (s' := 28) rfl rfl rfl ?_
      refine x_dup (pc := 35) X dX6_init_35 rfl ?_
      refine x_aload_n (pc := 36) X dX6_init_36 (i := 1) rfl 2 rfl ?_
      obtain ⟨z18, e18, h⟩ := bnds h
      refine x_callI (pc := 37) (As := [.ref (cx.2.2 + a1)]) (st := [.ref (cx.2.2 + (nx + 4)), .int 1, .ref (cx.2.2 + q13)]) X (c_C_init l cx (nx + 5) N D17 P17 _ _ z18 e18) dX6_init_37 w_182 m_C_init rfl ⟨by decide, by decide⟩ ⟨by decide, by decide⟩ rfl (Nat.le_of_ble_eq_true rfl) ?_
      refine XW.ren (nx' := nx + 7) (c' := 7) (s' := 44) rfl rfl rfl ?_
      obtain ⟨k20, h⟩ := grd h
      obtain ⟨g19, h⟩ := grd h
      obtain ⟨P19, w19, h⟩ := pass h
      refine x_aast (P' := P19) (pc := 40) X dX6_init_40 g19 k20 w19 ?_
      refine x_iinc (v := 2) (lv' := [(3, .int 2), (0, .ref (cx.2.2 + a0)), (1, .ref (cx.2.2 + a1)), (2, .int 2)]) (pc := 41) X dX6_init_41 0 rfl (by decide) (by decide) rfl ?_
      refine x_goto (tgt := 18) (pc := 44) X dX6_init_44 (by decide) ?_
      refine x_iload_n (pc := 18) X dX6_init_18 (i := 3) rfl 0 rfl ?_
      refine x_aload_n (pc := 19) X dX6_init_19 (i := 0) rfl 1 rfl ?_
      obtain ⟨k21, h⟩ := grd h
      obtain ⟨q22, e22, h⟩ := nns h
      refine x_getr (ci := 6) (k := 0) (n := 2) (C := RX6) (T := TX6) (pc := 20) X dX6_init_20 k21 rfl (by decide) w_183 rfl e22 ?_
      obtain ⟨k24, h⟩ := grd h
      refine x_alen (v := 2) (pc := 23) X dX6_init_23 k24 (by decide) (by decide) ?_
      refine x_icmp_ge (tgt := 47) (pc := 24) X dX6_init_24 (by decide) (fun c25 => ?_) (fun c25 => ?_)
      · obtain rfl := Option.some.inj h
        exact x_vret (pc := 47) X dX6_init_47
      · exact absurd c25 (by decide)
theorem dX0_init_0 : decode cX0_init 0 = .ok (.aload_n 0, 1) := by decide +kernel
theorem dX0_init_1 : decode cX0_init 1 = .ok (.invokespecial 3, 3) := by decide +kernel
theorem dX0_init_4 : decode cX0_init 4 = .ok (.aload_n 0, 1) := by decide +kernel
theorem dX0_init_5 : decode cX0_init 5 = .ok (.bipush 9, 2) := by decide +kernel
theorem dX0_init_7 : decode cX0_init 7 = .ok (.anewarray 9, 3) := by decide +kernel
theorem dX0_init_10 : decode cX0_init 10 = .ok (.putfield 11, 3) := by decide +kernel
theorem dX0_init_13 : decode cX0_init 13 = .ok (.iconst 0, 1) := by decide +kernel
theorem dX0_init_14 : decode cX0_init 14 = .ok (.istore_n 2, 1) := by decide +kernel
theorem dX0_init_15 : decode cX0_init 15 = .ok (.iload_n 2, 1) := by decide +kernel
theorem dX0_init_16 : decode cX0_init 16 = .ok (.aload_n 0, 1) := by decide +kernel
theorem dX0_init_17 : decode cX0_init 17 = .ok (.getfield 11, 3) := by decide +kernel
theorem dX0_init_20 : decode cX0_init 20 = .ok (.arraylength, 1) := by decide +kernel
theorem dX0_init_21 : decode cX0_init 21 = .ok (.if_icmp .ge 23, 3) := by decide +kernel
theorem dX0_init_24 : decode cX0_init 24 = .ok (.aload_n 0, 1) := by decide +kernel
theorem dX0_init_25 : decode cX0_init 25 = .ok (.getfield 11, 3) := by decide +kernel
theorem dX0_init_28 : decode cX0_init 28 = .ok (.iload_n 2, 1) := by decide +kernel
theorem dX0_init_29 : decode cX0_init 29 = .ok (.new 9, 3) := by decide +kernel
theorem dX0_init_32 : decode cX0_init 32 = .ok (.dup, 1) := by decide +kernel
theorem dX0_init_33 : decode cX0_init 33 = .ok (.aload_n 1, 1) := by decide +kernel
theorem dX0_init_34 : decode cX0_init 34 = .ok (.invokespecial 17, 3) := by decide +kernel
theorem dX0_init_37 : decode cX0_init 37 = .ok (.aastore, 1) := by decide +kernel
theorem dX0_init_38 : decode cX0_init 38 = .ok (.iinc 2 1, 3) := by decide +kernel
theorem dX0_init_41 : decode cX0_init 41 = .ok (.goto (-26), 3) := by decide +kernel
theorem dX0_init_44 : decode cX0_init 44 = .ok (.return_, 1) := by decide +kernel
def f_B_init (N nx : Nat) (D : Dt) (P : Ft) (a0 : Nat) (a1 : Nat) : Option (Dt × Ft) :=
  if kd nx a0 = 0 then
  if SH nx = 40009 then
  pas (zD D nx) fun D1 =>
  pas (zP P nx) fun P1 =>
  if kd (nx + 1) a0 = 0 then
  pas (updF P1 a0 0 (some nx)) fun P3 =>
  nn (P3 a0 0) fun q4 =>
  if kd (nx + 1) q4 = 40009 then
  if SH (nx + 1) = 7 then
  pas (zD D1 (nx + 1)) fun D8 =>
  pas (zP P3 (nx + 1)) fun P8 =>
  (f_C_init N (nx + 2) D8 P8 (nx + 1) a1).bind fun z9 =>
  if kd (nx + 4) (nx + 1) = 7 then
  if ab (nx + 4) q4 4 0 = true then
  pas (updF z9.2 q4 (0 : Int32).toNatClampNeg (some (nx + 1))) fun P10 =>
  if kd (nx + 4) a0 = 0 then
  nn (P10 a0 0) fun q13 =>
  if kd (nx + 4) q13 = 40009 then
  if SH (nx + 4) = 7 then
  pas (zD z9.1 (nx + 4)) fun D17 =>
  pas (zP P10 (nx + 4)) fun P17 =>
  (f_C_init N (nx + 5) D17 P17 (nx + 4) a1).bind fun z18 =>
  if kd (nx + 7) (nx + 4) = 7 then
  if ab (nx + 7) q13 4 1 = true then
  pas (updF z18.2 q13 (1 : Int32).toNatClampNeg (some (nx + 4))) fun P19 =>
  if kd (nx + 7) a0 = 0 then
  nn (P19 a0 0) fun q22 =>
  if kd (nx + 7) q22 = 40009 then
  if SH (nx + 7) = 7 then
  pas (zD z18.1 (nx + 7)) fun D26 =>
  pas (zP P19 (nx + 7)) fun P26 =>
  (f_C_init N (nx + 8) D26 P26 (nx + 7) a1).bind fun z27 =>
  if kd (nx + 10) (nx + 7) = 7 then
  if ab (nx + 10) q22 4 2 = true then
  pas (updF z27.2 q22 (2 : Int32).toNatClampNeg (some (nx + 7))) fun P28 =>
  if kd (nx + 10) a0 = 0 then
  nn (P28 a0 0) fun q31 =>
  if kd (nx + 10) q31 = 40009 then
  if SH (nx + 10) = 7 then
  pas (zD z27.1 (nx + 10)) fun D35 =>
  pas (zP P28 (nx + 10)) fun P35 =>
  (f_C_init N (nx + 11) D35 P35 (nx + 10) a1).bind fun z36 =>
  if kd (nx + 13) (nx + 10) = 7 then
  if ab (nx + 13) q31 4 3 = true then
  pas (updF z36.2 q31 (3 : Int32).toNatClampNeg (some (nx + 10))) fun P37 =>
  if kd (nx + 13) a0 = 0 then
  nn (P37 a0 0) fun q40 =>
  if kd (nx + 13) q40 = 40009 then
  if SH (nx + 13) = 7 then
  pas (zD z36.1 (nx + 13)) fun D44 =>
  pas (zP P37 (nx + 13)) fun P44 =>
  (f_C_init N (nx + 14) D44 P44 (nx + 13) a1).bind fun z45 =>
  if kd (nx + 16) (nx + 13) = 7 then
  if ab (nx + 16) q40 4 4 = true then
  pas (updF z45.2 q40 (4 : Int32).toNatClampNeg (some (nx + 13))) fun P46 =>
  if kd (nx + 16) a0 = 0 then
  nn (P46 a0 0) fun q49 =>
  if kd (nx + 16) q49 = 40009 then
  if SH (nx + 16) = 7 then
  pas (zD z45.1 (nx + 16)) fun D53 =>
  pas (zP P46 (nx + 16)) fun P53 =>
  (f_C_init N (nx + 17) D53 P53 (nx + 16) a1).bind fun z54 =>
  if kd (nx + 19) (nx + 16) = 7 then
  if ab (nx + 19) q49 4 5 = true then
  pas (updF z54.2 q49 (5 : Int32).toNatClampNeg (some (nx + 16))) fun P55 =>
  if kd (nx + 19) a0 = 0 then
  nn (P55 a0 0) fun q58 =>
  if kd (nx + 19) q58 = 40009 then
  if SH (nx + 19) = 7 then
  pas (zD z54.1 (nx + 19)) fun D62 =>
  pas (zP P55 (nx + 19)) fun P62 =>
  (f_C_init N (nx + 20) D62 P62 (nx + 19) a1).bind fun z63 =>
  if kd (nx + 22) (nx + 19) = 7 then
  if ab (nx + 22) q58 4 6 = true then
  pas (updF z63.2 q58 (6 : Int32).toNatClampNeg (some (nx + 19))) fun P64 =>
  if kd (nx + 22) a0 = 0 then
  nn (P64 a0 0) fun q67 =>
  if kd (nx + 22) q67 = 40009 then
  if SH (nx + 22) = 7 then
  pas (zD z63.1 (nx + 22)) fun D71 =>
  pas (zP P64 (nx + 22)) fun P71 =>
  (f_C_init N (nx + 23) D71 P71 (nx + 22) a1).bind fun z72 =>
  if kd (nx + 25) (nx + 22) = 7 then
  if ab (nx + 25) q67 4 7 = true then
  pas (updF z72.2 q67 (7 : Int32).toNatClampNeg (some (nx + 22))) fun P73 =>
  if kd (nx + 25) a0 = 0 then
  nn (P73 a0 0) fun q76 =>
  if kd (nx + 25) q76 = 40009 then
  if SH (nx + 25) = 7 then
  pas (zD z72.1 (nx + 25)) fun D80 =>
  pas (zP P73 (nx + 25)) fun P80 =>
  (f_C_init N (nx + 26) D80 P80 (nx + 25) a1).bind fun z81 =>
  if kd (nx + 28) (nx + 25) = 7 then
  if ab (nx + 28) q76 4 8 = true then
  pas (updF z81.2 q76 (8 : Int32).toNatClampNeg (some (nx + 25))) fun P82 =>
  if kd (nx + 28) a0 = 0 then
  nn (P82 a0 0) fun q85 =>
  if kd (nx + 28) q85 = 40009 then
  some (z81.1, P82)
  else none
  else none
  else none
  else none
  else none
  else none
  else none
  else none
  else none
  else none
  else none
  else none
  else none
  else none
  else none
  else none
  else none
  else none
  else none
  else none
  else none
  else none
  else none
  else none
  else none
  else none
  else none
  else none
  else none
  else none
  else none
  else none
  else none
  else none
  else none
  else none
  else none
  else none
  else none
  else none
  else none
  else none
  else none
  else none
  else none
  else none
  else none
  else none
  else none
theorem m_B_init : MI yX0_init cX0_init 3 1 := ⟨mT 275 (by decide +kernel) rfl, mT 274 (by decide +kernel) rfl, rfl, mT 63 (by decide +kernel) rfl, by decide +kernel, by decide +kernel, by decide +kernel⟩
set_option maxHeartbeats 4000000 in
set_option maxRecDepth 100000 in
theorem c_B_init (l : Launch) (cx : Cx) (nx N : Nat) (D : Dt) (P : Ft) (a0 : Nat) (a1 : Nat) (z : Dt × Ft) (h : f_B_init N nx D P a0 a1 = some z) : Cc l cx yX0_init cX0_init 3 2 28 198 [.ref (cx.2.2 + a0), .ref (cx.2.2 + a1)] D P nx z.1 z.2 (nx + 28) := by
  refine x_met0 (by decide) (Nat.le_of_ble_eq_true rfl) ?_
  intro p e s m args below meth c X
  have X : XC p s m args meth c cx cX0_init 3 none "HeartPins$BadDays" "<init>" := X
  refine XW.sub (lv' := [(0, .ref (cx.2.2 + a0)), (1, .ref (cx.2.2 + a1))]) [0, 1] rfl ?_
  unfold f_B_init at h
  obtain ⟨hk0, h⟩ := grd h
  refine x_aload_n (pc := 0) X dX0_init_0 (i := 0) rfl 0 rfl ?_
  refine x_objInit (pc := 1) X dX0_init_1 w_276 w_oi1 w_oi2 ⟨by decide, by decide⟩ (Nat.le_of_ble_eq_true rfl) ?_
  refine x_aload_n (pc := 4) X dX0_init_4 (i := 0) rfl 0 rfl ?_
  refine x_bipush (v := 9) (pc := 5) X dX0_init_5 (by decide) ?_
  obtain ⟨k1, h⟩ := grd h
  obtain ⟨D1, w1, h⟩ := pass h
  obtain ⟨P1, u1, h⟩ := pass h
  refine x_anewarr (N := 9) (D' := D1) (P' := P1) (pc := 7) X dX0_init_7 k1 (by decide) (by decide) (by decide) w_277 w1 u1 ⟨by decide, by decide⟩ ?_
  refine XW.ren (nx' := nx + 1) (c' := 1) (s' := 9) rfl rfl rfl ?_
  obtain ⟨k2, h⟩ := grd h
  obtain ⟨P3, w3, h⟩ := pass h
  refine x_putr (ci := 0) (k := 0) (n := 4) (C := RX0) (T := TX0) (ty := .array (.object "HeartPins$Standing")) (P' := P3) (pc := 10) X dX0_init_10 k2 rfl (by decide) w_279 rfl (by decide +kernel) (Or.inr ⟨_, rfl⟩) rfl w3 ?_
  refine x_iconst (v := 0) (pc := 13) X dX0_init_13 (by decide) ?_
  refine x_istore_n (lv' := [(2, .int 0), (0, .ref (cx.2.2 + a0)), (1, .ref (cx.2.2 + a1))]) (pc := 14) X dX0_init_14 (i := 2) rfl (by decide) rfl ?_
  refine x_iload_n (pc := 15) X dX0_init_15 (i := 2) rfl 0 rfl ?_
  refine x_aload_n (pc := 16) X dX0_init_16 (i := 0) rfl 1 rfl ?_
  obtain ⟨q4, e4, h⟩ := nns h
  refine x_getr (ci := 0) (k := 0) (n := 4) (C := RX0) (T := TX0) (pc := 17) X dX0_init_17 k2 rfl (by decide) w_279 rfl e4 ?_
  obtain ⟨k6, h⟩ := grd h
  refine x_alen (v := 9) (pc := 20) X dX0_init_20 k6 (by decide) (by decide) ?_
  refine x_icmp_ge (tgt := 44) (pc := 21) X dX0_init_21 (by decide) (fun c7 => ?_) (fun c7 => ?_)
  · exact absurd c7 (by decide)
  · refine x_aload_n (pc := 24) X dX0_init_24 (i := 0) rfl 1 rfl ?_
    refine x_getr (ci := 0) (k := 0) (n := 4) (C := RX0) (T := TX0) (pc := 25) X dX0_init_25 k2 rfl (by decide) w_279 rfl e4 ?_
    refine x_iload_n (pc := 28) X dX0_init_28 (i := 2) rfl 0 rfl ?_
    obtain ⟨k8, h⟩ := grd h
    obtain ⟨D8, w8, h⟩ := pass h
    obtain ⟨P8, u8, h⟩ := pass h
    refine x_new (ci := 7) (n := 5) (C := RX7) (T := TX7) (D' := D8) (P' := P8) (pc := 29) X dX0_init_29 k8 rfl w_277 w_146 w_57 w8 u8 dfl7 ⟨by decide, by decide⟩ ?_
    refine XW.ren (nx' := nx + 2) (c' := 2) (s' := 14) rfl rfl rfl ?_
    refine x_dup (pc := 32) X dX0_init_32 rfl ?_
    refine x_aload_n (pc := 33) X dX0_init_33 (i := 1) rfl 2 rfl ?_
    obtain ⟨z9, e9, h⟩ := bnds h
    refine x_callI (pc := 34) (As := [.ref (cx.2.2 + a1)]) (st := [.ref (cx.2.2 + (nx + 1)), .int 0, .ref (cx.2.2 + q4)]) X (c_C_init l cx (nx + 2) N D8 P8 _ _ z9 e9) dX0_init_34 w_278 m_C_init rfl ⟨by decide, by decide⟩ ⟨by decide, by decide⟩ rfl (Nat.le_of_ble_eq_true rfl) ?_
    refine XW.ren (nx' := nx + 4) (c' := 4) (s' := 30) rfl rfl rfl ?_
    obtain ⟨k11, h⟩ := grd h
    obtain ⟨g10, h⟩ := grd h
    obtain ⟨P10, w10, h⟩ := pass h
    refine x_aast (P' := P10) (pc := 37) X dX0_init_37 g10 k11 w10 ?_
    refine x_iinc (v := 1) (lv' := [(2, .int 1), (0, .ref (cx.2.2 + a0)), (1, .ref (cx.2.2 + a1))]) (pc := 38) X dX0_init_38 0 rfl (by decide) (by decide) rfl ?_
    refine x_goto (tgt := 15) (pc := 41) X dX0_init_41 (by decide) ?_
    refine x_iload_n (pc := 15) X dX0_init_15 (i := 2) rfl 0 rfl ?_
    refine x_aload_n (pc := 16) X dX0_init_16 (i := 0) rfl 1 rfl ?_
    obtain ⟨k12, h⟩ := grd h
    obtain ⟨q13, e13, h⟩ := nns h
    refine x_getr (ci := 0) (k := 0) (n := 4) (C := RX0) (T := TX0) (pc := 17) X dX0_init_17 k12 rfl (by decide) w_279 rfl e13 ?_
    obtain ⟨k15, h⟩ := grd h
    refine x_alen (v := 9) (pc := 20) X dX0_init_20 k15 (by decide) (by decide) ?_
    refine x_icmp_ge (tgt := 44) (pc := 21) X dX0_init_21 (by decide) (fun c16 => ?_) (fun c16 => ?_)
    · exact absurd c16 (by decide)
    · refine x_aload_n (pc := 24) X dX0_init_24 (i := 0) rfl 1 rfl ?_
      refine x_getr (ci := 0) (k := 0) (n := 4) (C := RX0) (T := TX0) (pc := 25) X dX0_init_25 k12 rfl (by decide) w_279 rfl e13 ?_
      refine x_iload_n (pc := 28) X dX0_init_28 (i := 2) rfl 0 rfl ?_
      obtain ⟨k17, h⟩ := grd h
      obtain ⟨D17, w17, h⟩ := pass h
      obtain ⟨P17, u17, h⟩ := pass h
      refine x_new (ci := 7) (n := 5) (C := RX7) (T := TX7) (D' := D17) (P' := P17) (pc := 29) X dX0_init_29 k17 rfl w_277 w_146 w_57 w17 u17 dfl7 ⟨by decide, by decide⟩ ?_
      refine XW.ren (nx' := nx + 5) (c' := 5) (s' := 35) rfl rfl rfl ?_
      refine x_dup (pc := 32) X dX0_init_32 rfl ?_
      refine x_aload_n (pc := 33) X dX0_init_33 (i := 1) rfl 2 rfl ?_
      obtain ⟨z18, e18, h⟩ := bnds h
      refine x_callI (pc := 34) (As := [.ref (cx.2.2 + a1)]) (st := [.ref (cx.2.2 + (nx + 4)), .int 1, .ref (cx.2.2 + q13)]) X (c_C_init l cx (nx + 5) N D17 P17 _ _ z18 e18) dX0_init_34 w_278 m_C_init rfl ⟨by decide, by decide⟩ ⟨by decide, by decide⟩ rfl (Nat.le_of_ble_eq_true rfl) ?_
      refine XW.ren (nx' := nx + 7) (c' := 7) (s' := 51) rfl rfl rfl ?_
      obtain ⟨k20, h⟩ := grd h
      obtain ⟨g19, h⟩ := grd h
      obtain ⟨P19, w19, h⟩ := pass h
      refine x_aast (P' := P19) (pc := 37) X dX0_init_37 g19 k20 w19 ?_
      refine x_iinc (v := 2) (lv' := [(2, .int 2), (0, .ref (cx.2.2 + a0)), (1, .ref (cx.2.2 + a1))]) (pc := 38) X dX0_init_38 0 rfl (by decide) (by decide) rfl ?_
      refine x_goto (tgt := 15) (pc := 41) X dX0_init_41 (by decide) ?_
      refine x_iload_n (pc := 15) X dX0_init_15 (i := 2) rfl 0 rfl ?_
      refine x_aload_n (pc := 16) X dX0_init_16 (i := 0) rfl 1 rfl ?_
      obtain ⟨k21, h⟩ := grd h
      obtain ⟨q22, e22, h⟩ := nns h
      refine x_getr (ci := 0) (k := 0) (n := 4) (C := RX0) (T := TX0) (pc := 17) X dX0_init_17 k21 rfl (by decide) w_279 rfl e22 ?_
      obtain ⟨k24, h⟩ := grd h
      refine x_alen (v := 9) (pc := 20) X dX0_init_20 k24 (by decide) (by decide) ?_
      refine x_icmp_ge (tgt := 44) (pc := 21) X dX0_init_21 (by decide) (fun c25 => ?_) (fun c25 => ?_)
      · exact absurd c25 (by decide)
      · refine x_aload_n (pc := 24) X dX0_init_24 (i := 0) rfl 1 rfl ?_
        refine x_getr (ci := 0) (k := 0) (n := 4) (C := RX0) (T := TX0) (pc := 25) X dX0_init_25 k21 rfl (by decide) w_279 rfl e22 ?_
        refine x_iload_n (pc := 28) X dX0_init_28 (i := 2) rfl 0 rfl ?_
        obtain ⟨k26, h⟩ := grd h
        obtain ⟨D26, w26, h⟩ := pass h
        obtain ⟨P26, u26, h⟩ := pass h
        refine x_new (ci := 7) (n := 5) (C := RX7) (T := TX7) (D' := D26) (P' := P26) (pc := 29) X dX0_init_29 k26 rfl w_277 w_146 w_57 w26 u26 dfl7 ⟨by decide, by decide⟩ ?_
        refine XW.ren (nx' := nx + 8) (c' := 8) (s' := 56) rfl rfl rfl ?_
        refine x_dup (pc := 32) X dX0_init_32 rfl ?_
        refine x_aload_n (pc := 33) X dX0_init_33 (i := 1) rfl 2 rfl ?_
        obtain ⟨z27, e27, h⟩ := bnds h
        refine x_callI (pc := 34) (As := [.ref (cx.2.2 + a1)]) (st := [.ref (cx.2.2 + (nx + 7)), .int 2, .ref (cx.2.2 + q22)]) X (c_C_init l cx (nx + 8) N D26 P26 _ _ z27 e27) dX0_init_34 w_278 m_C_init rfl ⟨by decide, by decide⟩ ⟨by decide, by decide⟩ rfl (Nat.le_of_ble_eq_true rfl) ?_
        refine XW.ren (nx' := nx + 10) (c' := 10) (s' := 72) rfl rfl rfl ?_
        obtain ⟨k29, h⟩ := grd h
        obtain ⟨g28, h⟩ := grd h
        obtain ⟨P28, w28, h⟩ := pass h
        refine x_aast (P' := P28) (pc := 37) X dX0_init_37 g28 k29 w28 ?_
        refine x_iinc (v := 3) (lv' := [(2, .int 3), (0, .ref (cx.2.2 + a0)), (1, .ref (cx.2.2 + a1))]) (pc := 38) X dX0_init_38 0 rfl (by decide) (by decide) rfl ?_
        refine x_goto (tgt := 15) (pc := 41) X dX0_init_41 (by decide) ?_
        refine x_iload_n (pc := 15) X dX0_init_15 (i := 2) rfl 0 rfl ?_
        refine x_aload_n (pc := 16) X dX0_init_16 (i := 0) rfl 1 rfl ?_
        obtain ⟨k30, h⟩ := grd h
        obtain ⟨q31, e31, h⟩ := nns h
        refine x_getr (ci := 0) (k := 0) (n := 4) (C := RX0) (T := TX0) (pc := 17) X dX0_init_17 k30 rfl (by decide) w_279 rfl e31 ?_
        obtain ⟨k33, h⟩ := grd h
        refine x_alen (v := 9) (pc := 20) X dX0_init_20 k33 (by decide) (by decide) ?_
        refine x_icmp_ge (tgt := 44) (pc := 21) X dX0_init_21 (by decide) (fun c34 => ?_) (fun c34 => ?_)
        · exact absurd c34 (by decide)
        · refine x_aload_n (pc := 24) X dX0_init_24 (i := 0) rfl 1 rfl ?_
          refine x_getr (ci := 0) (k := 0) (n := 4) (C := RX0) (T := TX0) (pc := 25) X dX0_init_25 k30 rfl (by decide) w_279 rfl e31 ?_
          refine x_iload_n (pc := 28) X dX0_init_28 (i := 2) rfl 0 rfl ?_
          obtain ⟨k35, h⟩ := grd h
          obtain ⟨D35, w35, h⟩ := pass h
          obtain ⟨P35, u35, h⟩ := pass h
          refine x_new (ci := 7) (n := 5) (C := RX7) (T := TX7) (D' := D35) (P' := P35) (pc := 29) X dX0_init_29 k35 rfl w_277 w_146 w_57 w35 u35 dfl7 ⟨by decide, by decide⟩ ?_
          refine XW.ren (nx' := nx + 11) (c' := 11) (s' := 77) rfl rfl rfl ?_
          refine x_dup (pc := 32) X dX0_init_32 rfl ?_
          refine x_aload_n (pc := 33) X dX0_init_33 (i := 1) rfl 2 rfl ?_
          obtain ⟨z36, e36, h⟩ := bnds h
          refine x_callI (pc := 34) (As := [.ref (cx.2.2 + a1)]) (st := [.ref (cx.2.2 + (nx + 10)), .int 3, .ref (cx.2.2 + q31)]) X (c_C_init l cx (nx + 11) N D35 P35 _ _ z36 e36) dX0_init_34 w_278 m_C_init rfl ⟨by decide, by decide⟩ ⟨by decide, by decide⟩ rfl (Nat.le_of_ble_eq_true rfl) ?_
          refine XW.ren (nx' := nx + 13) (c' := 13) (s' := 93) rfl rfl rfl ?_
          obtain ⟨k38, h⟩ := grd h
          obtain ⟨g37, h⟩ := grd h
          obtain ⟨P37, w37, h⟩ := pass h
          refine x_aast (P' := P37) (pc := 37) X dX0_init_37 g37 k38 w37 ?_
          refine x_iinc (v := 4) (lv' := [(2, .int 4), (0, .ref (cx.2.2 + a0)), (1, .ref (cx.2.2 + a1))]) (pc := 38) X dX0_init_38 0 rfl (by decide) (by decide) rfl ?_
          refine x_goto (tgt := 15) (pc := 41) X dX0_init_41 (by decide) ?_
          refine x_iload_n (pc := 15) X dX0_init_15 (i := 2) rfl 0 rfl ?_
          refine x_aload_n (pc := 16) X dX0_init_16 (i := 0) rfl 1 rfl ?_
          obtain ⟨k39, h⟩ := grd h
          obtain ⟨q40, e40, h⟩ := nns h
          refine x_getr (ci := 0) (k := 0) (n := 4) (C := RX0) (T := TX0) (pc := 17) X dX0_init_17 k39 rfl (by decide) w_279 rfl e40 ?_
          obtain ⟨k42, h⟩ := grd h
          refine x_alen (v := 9) (pc := 20) X dX0_init_20 k42 (by decide) (by decide) ?_
          refine x_icmp_ge (tgt := 44) (pc := 21) X dX0_init_21 (by decide) (fun c43 => ?_) (fun c43 => ?_)
          · exact absurd c43 (by decide)
          · refine x_aload_n (pc := 24) X dX0_init_24 (i := 0) rfl 1 rfl ?_
            refine x_getr (ci := 0) (k := 0) (n := 4) (C := RX0) (T := TX0) (pc := 25) X dX0_init_25 k39 rfl (by decide) w_279 rfl e40 ?_
            refine x_iload_n (pc := 28) X dX0_init_28 (i := 2) rfl 0 rfl ?_
            obtain ⟨k44, h⟩ := grd h
            obtain ⟨D44, w44, h⟩ := pass h
            obtain ⟨P44, u44, h⟩ := pass h
            refine x_new (ci := 7) (n := 5) (C := RX7) (T := TX7) (D' := D44) (P' := P44) (pc := 29) X dX0_init_29 k44 rfl w_277 w_146 w_57 w44 u44 dfl7 ⟨by decide, by decide⟩ ?_
            refine XW.ren (nx' := nx + 14) (c' := 14) (s' := 98) rfl rfl rfl ?_
            refine x_dup (pc := 32) X dX0_init_32 rfl ?_
            refine x_aload_n (pc := 33) X dX0_init_33 (i := 1) rfl 2 rfl ?_
            obtain ⟨z45, e45, h⟩ := bnds h
            refine x_callI (pc := 34) (As := [.ref (cx.2.2 + a1)]) (st := [.ref (cx.2.2 + (nx + 13)), .int 4, .ref (cx.2.2 + q40)]) X (c_C_init l cx (nx + 14) N D44 P44 _ _ z45 e45) dX0_init_34 w_278 m_C_init rfl ⟨by decide, by decide⟩ ⟨by decide, by decide⟩ rfl (Nat.le_of_ble_eq_true rfl) ?_
            refine XW.ren (nx' := nx + 16) (c' := 16) (s' := 114) rfl rfl rfl ?_
            obtain ⟨k47, h⟩ := grd h
            obtain ⟨g46, h⟩ := grd h
            obtain ⟨P46, w46, h⟩ := pass h
            refine x_aast (P' := P46) (pc := 37) X dX0_init_37 g46 k47 w46 ?_
            refine x_iinc (v := 5) (lv' := [(2, .int 5), (0, .ref (cx.2.2 + a0)), (1, .ref (cx.2.2 + a1))]) (pc := 38) X dX0_init_38 0 rfl (by decide) (by decide) rfl ?_
            refine x_goto (tgt := 15) (pc := 41) X dX0_init_41 (by decide) ?_
            refine x_iload_n (pc := 15) X dX0_init_15 (i := 2) rfl 0 rfl ?_
            refine x_aload_n (pc := 16) X dX0_init_16 (i := 0) rfl 1 rfl ?_
            obtain ⟨k48, h⟩ := grd h
            obtain ⟨q49, e49, h⟩ := nns h
            refine x_getr (ci := 0) (k := 0) (n := 4) (C := RX0) (T := TX0) (pc := 17) X dX0_init_17 k48 rfl (by decide) w_279 rfl e49 ?_
            obtain ⟨k51, h⟩ := grd h
            refine x_alen (v := 9) (pc := 20) X dX0_init_20 k51 (by decide) (by decide) ?_
            refine x_icmp_ge (tgt := 44) (pc := 21) X dX0_init_21 (by decide) (fun c52 => ?_) (fun c52 => ?_)
            · exact absurd c52 (by decide)
            · refine x_aload_n (pc := 24) X dX0_init_24 (i := 0) rfl 1 rfl ?_
              refine x_getr (ci := 0) (k := 0) (n := 4) (C := RX0) (T := TX0) (pc := 25) X dX0_init_25 k48 rfl (by decide) w_279 rfl e49 ?_
              refine x_iload_n (pc := 28) X dX0_init_28 (i := 2) rfl 0 rfl ?_
              obtain ⟨k53, h⟩ := grd h
              obtain ⟨D53, w53, h⟩ := pass h
              obtain ⟨P53, u53, h⟩ := pass h
              refine x_new (ci := 7) (n := 5) (C := RX7) (T := TX7) (D' := D53) (P' := P53) (pc := 29) X dX0_init_29 k53 rfl w_277 w_146 w_57 w53 u53 dfl7 ⟨by decide, by decide⟩ ?_
              refine XW.ren (nx' := nx + 17) (c' := 17) (s' := 119) rfl rfl rfl ?_
              refine x_dup (pc := 32) X dX0_init_32 rfl ?_
              refine x_aload_n (pc := 33) X dX0_init_33 (i := 1) rfl 2 rfl ?_
              obtain ⟨z54, e54, h⟩ := bnds h
              refine x_callI (pc := 34) (As := [.ref (cx.2.2 + a1)]) (st := [.ref (cx.2.2 + (nx + 16)), .int 5, .ref (cx.2.2 + q49)]) X (c_C_init l cx (nx + 17) N D53 P53 _ _ z54 e54) dX0_init_34 w_278 m_C_init rfl ⟨by decide, by decide⟩ ⟨by decide, by decide⟩ rfl (Nat.le_of_ble_eq_true rfl) ?_
              refine XW.ren (nx' := nx + 19) (c' := 19) (s' := 135) rfl rfl rfl ?_
              obtain ⟨k56, h⟩ := grd h
              obtain ⟨g55, h⟩ := grd h
              obtain ⟨P55, w55, h⟩ := pass h
              refine x_aast (P' := P55) (pc := 37) X dX0_init_37 g55 k56 w55 ?_
              refine x_iinc (v := 6) (lv' := [(2, .int 6), (0, .ref (cx.2.2 + a0)), (1, .ref (cx.2.2 + a1))]) (pc := 38) X dX0_init_38 0 rfl (by decide) (by decide) rfl ?_
              refine x_goto (tgt := 15) (pc := 41) X dX0_init_41 (by decide) ?_
              refine x_iload_n (pc := 15) X dX0_init_15 (i := 2) rfl 0 rfl ?_
              refine x_aload_n (pc := 16) X dX0_init_16 (i := 0) rfl 1 rfl ?_
              obtain ⟨k57, h⟩ := grd h
              obtain ⟨q58, e58, h⟩ := nns h
              refine x_getr (ci := 0) (k := 0) (n := 4) (C := RX0) (T := TX0) (pc := 17) X dX0_init_17 k57 rfl (by decide) w_279 rfl e58 ?_
              obtain ⟨k60, h⟩ := grd h
              refine x_alen (v := 9) (pc := 20) X dX0_init_20 k60 (by decide) (by decide) ?_
              refine x_icmp_ge (tgt := 44) (pc := 21) X dX0_init_21 (by decide) (fun c61 => ?_) (fun c61 => ?_)
              · exact absurd c61 (by decide)
              · refine x_aload_n (pc := 24) X dX0_init_24 (i := 0) rfl 1 rfl ?_
                refine x_getr (ci := 0) (k := 0) (n := 4) (C := RX0) (T := TX0) (pc := 25) X dX0_init_25 k57 rfl (by decide) w_279 rfl e58 ?_
                refine x_iload_n (pc := 28) X dX0_init_28 (i := 2) rfl 0 rfl ?_
                obtain ⟨k62, h⟩ := grd h
                obtain ⟨D62, w62, h⟩ := pass h
                obtain ⟨P62, u62, h⟩ := pass h
                refine x_new (ci := 7) (n := 5) (C := RX7) (T := TX7) (D' := D62) (P' := P62) (pc := 29) X dX0_init_29 k62 rfl w_277 w_146 w_57 w62 u62 dfl7 ⟨by decide, by decide⟩ ?_
                refine XW.ren (nx' := nx + 20) (c' := 20) (s' := 140) rfl rfl rfl ?_
                refine x_dup (pc := 32) X dX0_init_32 rfl ?_
                refine x_aload_n (pc := 33) X dX0_init_33 (i := 1) rfl 2 rfl ?_
                obtain ⟨z63, e63, h⟩ := bnds h
                refine x_callI (pc := 34) (As := [.ref (cx.2.2 + a1)]) (st := [.ref (cx.2.2 + (nx + 19)), .int 6, .ref (cx.2.2 + q58)]) X (c_C_init l cx (nx + 20) N D62 P62 _ _ z63 e63) dX0_init_34 w_278 m_C_init rfl ⟨by decide, by decide⟩ ⟨by decide, by decide⟩ rfl (Nat.le_of_ble_eq_true rfl) ?_
                refine XW.ren (nx' := nx + 22) (c' := 22) (s' := 156) rfl rfl rfl ?_
                obtain ⟨k65, h⟩ := grd h
                obtain ⟨g64, h⟩ := grd h
                obtain ⟨P64, w64, h⟩ := pass h
                refine x_aast (P' := P64) (pc := 37) X dX0_init_37 g64 k65 w64 ?_
                refine x_iinc (v := 7) (lv' := [(2, .int 7), (0, .ref (cx.2.2 + a0)), (1, .ref (cx.2.2 + a1))]) (pc := 38) X dX0_init_38 0 rfl (by decide) (by decide) rfl ?_
                refine x_goto (tgt := 15) (pc := 41) X dX0_init_41 (by decide) ?_
                refine x_iload_n (pc := 15) X dX0_init_15 (i := 2) rfl 0 rfl ?_
                refine x_aload_n (pc := 16) X dX0_init_16 (i := 0) rfl 1 rfl ?_
                obtain ⟨k66, h⟩ := grd h
                obtain ⟨q67, e67, h⟩ := nns h
                refine x_getr (ci := 0) (k := 0) (n := 4) (C := RX0) (T := TX0) (pc := 17) X dX0_init_17 k66 rfl (by decide) w_279 rfl e67 ?_
                obtain ⟨k69, h⟩ := grd h
                refine x_alen (v := 9) (pc := 20) X dX0_init_20 k69 (by decide) (by decide) ?_
                refine x_icmp_ge (tgt := 44) (pc := 21) X dX0_init_21 (by decide) (fun c70 => ?_) (fun c70 => ?_)
                · exact absurd c70 (by decide)
                · refine x_aload_n (pc := 24) X dX0_init_24 (i := 0) rfl 1 rfl ?_
                  refine x_getr (ci := 0) (k := 0) (n := 4) (C := RX0) (T := TX0) (pc := 25) X dX0_init_25 k66 rfl (by decide) w_279 rfl e67 ?_
                  refine x_iload_n (pc := 28) X dX0_init_28 (i := 2) rfl 0 rfl ?_
                  obtain ⟨k71, h⟩ := grd h
                  obtain ⟨D71, w71, h⟩ := pass h
                  obtain ⟨P71, u71, h⟩ := pass h
                  refine x_new (ci := 7) (n := 5) (C := RX7) (T := TX7) (D' := D71) (P' := P71) (pc := 29) X dX0_init_29 k71 rfl w_277 w_146 w_57 w71 u71 dfl7 ⟨by decide, by decide⟩ ?_
                  refine XW.ren (nx' := nx + 23) (c' := 23) (s' := 161) rfl rfl rfl ?_
                  refine x_dup (pc := 32) X dX0_init_32 rfl ?_
                  refine x_aload_n (pc := 33) X dX0_init_33 (i := 1) rfl 2 rfl ?_
                  obtain ⟨z72, e72, h⟩ := bnds h
                  refine x_callI (pc := 34) (As := [.ref (cx.2.2 + a1)]) (st := [.ref (cx.2.2 + (nx + 22)), .int 7, .ref (cx.2.2 + q67)]) X (c_C_init l cx (nx + 23) N D71 P71 _ _ z72 e72) dX0_init_34 w_278 m_C_init rfl ⟨by decide, by decide⟩ ⟨by decide, by decide⟩ rfl (Nat.le_of_ble_eq_true rfl) ?_
                  refine XW.ren (nx' := nx + 25) (c' := 25) (s' := 177) rfl rfl rfl ?_
                  obtain ⟨k74, h⟩ := grd h
                  obtain ⟨g73, h⟩ := grd h
                  obtain ⟨P73, w73, h⟩ := pass h
                  refine x_aast (P' := P73) (pc := 37) X dX0_init_37 g73 k74 w73 ?_
                  refine x_iinc (v := 8) (lv' := [(2, .int 8), (0, .ref (cx.2.2 + a0)), (1, .ref (cx.2.2 + a1))]) (pc := 38) X dX0_init_38 0 rfl (by decide) (by decide) rfl ?_
                  refine x_goto (tgt := 15) (pc := 41) X dX0_init_41 (by decide) ?_
                  refine x_iload_n (pc := 15) X dX0_init_15 (i := 2) rfl 0 rfl ?_
                  refine x_aload_n (pc := 16) X dX0_init_16 (i := 0) rfl 1 rfl ?_
                  obtain ⟨k75, h⟩ := grd h
                  obtain ⟨q76, e76, h⟩ := nns h
                  refine x_getr (ci := 0) (k := 0) (n := 4) (C := RX0) (T := TX0) (pc := 17) X dX0_init_17 k75 rfl (by decide) w_279 rfl e76 ?_
                  obtain ⟨k78, h⟩ := grd h
                  refine x_alen (v := 9) (pc := 20) X dX0_init_20 k78 (by decide) (by decide) ?_
                  refine x_icmp_ge (tgt := 44) (pc := 21) X dX0_init_21 (by decide) (fun c79 => ?_) (fun c79 => ?_)
                  · exact absurd c79 (by decide)
                  · refine x_aload_n (pc := 24) X dX0_init_24 (i := 0) rfl 1 rfl ?_
                    refine x_getr (ci := 0) (k := 0) (n := 4) (C := RX0) (T := TX0) (pc := 25) X dX0_init_25 k75 rfl (by decide) w_279 rfl e76 ?_
                    refine x_iload_n (pc := 28) X dX0_init_28 (i := 2) rfl 0 rfl ?_
                    obtain ⟨k80, h⟩ := grd h
                    obtain ⟨D80, w80, h⟩ := pass h
                    obtain ⟨P80, u80, h⟩ := pass h
                    refine x_new (ci := 7) (n := 5) (C := RX7) (T := TX7) (D' := D80) (P' := P80) (pc := 29) X dX0_init_29 k80 rfl w_277 w_146 w_57 w80 u80 dfl7 ⟨by decide, by decide⟩ ?_
                    refine XW.ren (nx' := nx + 26) (c' := 26) (s' := 182) rfl rfl rfl ?_
                    refine x_dup (pc := 32) X dX0_init_32 rfl ?_
                    refine x_aload_n (pc := 33) X dX0_init_33 (i := 1) rfl 2 rfl ?_
                    obtain ⟨z81, e81, h⟩ := bnds h
                    refine x_callI (pc := 34) (As := [.ref (cx.2.2 + a1)]) (st := [.ref (cx.2.2 + (nx + 25)), .int 8, .ref (cx.2.2 + q76)]) X (c_C_init l cx (nx + 26) N D80 P80 _ _ z81 e81) dX0_init_34 w_278 m_C_init rfl ⟨by decide, by decide⟩ ⟨by decide, by decide⟩ rfl (Nat.le_of_ble_eq_true rfl) ?_
                    refine XW.ren (nx' := nx + 28) (c' := 28) (s' := 198) rfl rfl rfl ?_
                    obtain ⟨k83, h⟩ := grd h
                    obtain ⟨g82, h⟩ := grd h
                    obtain ⟨P82, w82, h⟩ := pass h
                    refine x_aast (P' := P82) (pc := 37) X dX0_init_37 g82 k83 w82 ?_
                    refine x_iinc (v := 9) (lv' := [(2, .int 9), (0, .ref (cx.2.2 + a0)), (1, .ref (cx.2.2 + a1))]) (pc := 38) X dX0_init_38 0 rfl (by decide) (by decide) rfl ?_
                    refine x_goto (tgt := 15) (pc := 41) X dX0_init_41 (by decide) ?_
                    refine x_iload_n (pc := 15) X dX0_init_15 (i := 2) rfl 0 rfl ?_
                    refine x_aload_n (pc := 16) X dX0_init_16 (i := 0) rfl 1 rfl ?_
                    obtain ⟨k84, h⟩ := grd h
                    obtain ⟨q85, e85, h⟩ := nns h
                    refine x_getr (ci := 0) (k := 0) (n := 4) (C := RX0) (T := TX0) (pc := 17) X dX0_init_17 k84 rfl (by decide) w_279 rfl e85 ?_
                    obtain ⟨k87, h⟩ := grd h
                    refine x_alen (v := 9) (pc := 20) X dX0_init_20 k87 (by decide) (by decide) ?_
                    refine x_icmp_ge (tgt := 44) (pc := 21) X dX0_init_21 (by decide) (fun c88 => ?_) (fun c88 => ?_)
                    · obtain rfl := Option.some.inj h
                      exact x_vret (pc := 44) X dX0_init_44
                    · exact absurd c88 (by decide)
theorem dX9_init_0 : decode cX9_init 0 = .ok (.aload_n 0, 1) := by decide +kernel
theorem dX9_init_1 : decode cX9_init 1 = .ok (.invokespecial 1, 3) := by decide +kernel
theorem dX9_init_4 : decode cX9_init 4 = .ok (.aload_n 0, 1) := by decide +kernel
theorem dX9_init_5 : decode cX9_init 5 = .ok (.sipush 200, 3) := by decide +kernel
theorem dX9_init_8 : decode cX9_init 8 = .ok (.newarray .byte, 2) := by decide +kernel
theorem dX9_init_10 : decode cX9_init 10 = .ok (.putfield 7, 3) := by decide +kernel
theorem dX9_init_13 : decode cX9_init 13 = .ok (.aload_n 0, 1) := by decide +kernel
theorem dX9_init_14 : decode cX9_init 14 = .ok (.iconst 2, 1) := by decide +kernel
theorem dX9_init_15 : decode cX9_init 15 = .ok (.newarray .int, 2) := by decide +kernel
theorem dX9_init_17 : decode cX9_init 17 = .ok (.putfield 13, 3) := by decide +kernel
theorem dX9_init_20 : decode cX9_init 20 = .ok (.aload_n 0, 1) := by decide +kernel
theorem dX9_init_21 : decode cX9_init 21 = .ok (.iconst 2, 1) := by decide +kernel
theorem dX9_init_22 : decode cX9_init 22 = .ok (.newarray .int, 2) := by decide +kernel
theorem dX9_init_24 : decode cX9_init 24 = .ok (.putfield 17, 3) := by decide +kernel
theorem dX9_init_27 : decode cX9_init 27 = .ok (.aload_n 0, 1) := by decide +kernel
theorem dX9_init_28 : decode cX9_init 28 = .ok (.bipush 6, 2) := by decide +kernel
theorem dX9_init_30 : decode cX9_init 30 = .ok (.newarray .int, 2) := by decide +kernel
theorem dX9_init_32 : decode cX9_init 32 = .ok (.putfield 20, 3) := by decide +kernel
theorem dX9_init_35 : decode cX9_init 35 = .ok (.aload_n 0, 1) := by decide +kernel
theorem dX9_init_36 : decode cX9_init 36 = .ok (.bipush 10, 2) := by decide +kernel
theorem dX9_init_38 : decode cX9_init 38 = .ok (.newarray .int, 2) := by decide +kernel
theorem dX9_init_40 : decode cX9_init 40 = .ok (.putfield 23, 3) := by decide +kernel
theorem dX9_init_43 : decode cX9_init 43 = .ok (.aload_n 0, 1) := by decide +kernel
theorem dX9_init_44 : decode cX9_init 44 = .ok (.bipush 16, 2) := by decide +kernel
theorem dX9_init_46 : decode cX9_init 46 = .ok (.newarray .int, 2) := by decide +kernel
theorem dX9_init_48 : decode cX9_init 48 = .ok (.putfield 26, 3) := by decide +kernel
theorem dX9_init_51 : decode cX9_init 51 = .ok (.aload_n 0, 1) := by decide +kernel
theorem dX9_init_52 : decode cX9_init 52 = .ok (.bipush 16, 2) := by decide +kernel
theorem dX9_init_54 : decode cX9_init 54 = .ok (.newarray .int, 2) := by decide +kernel
theorem dX9_init_56 : decode cX9_init 56 = .ok (.putfield 29, 3) := by decide +kernel
theorem dX9_init_59 : decode cX9_init 59 = .ok (.aload_n 0, 1) := by decide +kernel
theorem dX9_init_60 : decode cX9_init 60 = .ok (.bipush 16, 2) := by decide +kernel
theorem dX9_init_62 : decode cX9_init 62 = .ok (.newarray .int, 2) := by decide +kernel
theorem dX9_init_64 : decode cX9_init 64 = .ok (.putfield 32, 3) := by decide +kernel
theorem dX9_init_67 : decode cX9_init 67 = .ok (.aload_n 0, 1) := by decide +kernel
theorem dX9_init_68 : decode cX9_init 68 = .ok (.bipush 18, 2) := by decide +kernel
theorem dX9_init_70 : decode cX9_init 70 = .ok (.newarray .int, 2) := by decide +kernel
theorem dX9_init_72 : decode cX9_init 72 = .ok (.putfield 35, 3) := by decide +kernel
theorem dX9_init_75 : decode cX9_init 75 = .ok (.aload_n 0, 1) := by decide +kernel
theorem dX9_init_76 : decode cX9_init 76 = .ok (.sipush 144, 3) := by decide +kernel
theorem dX9_init_79 : decode cX9_init 79 = .ok (.newarray .int, 2) := by decide +kernel
theorem dX9_init_81 : decode cX9_init 81 = .ok (.putfield 38, 3) := by decide +kernel
theorem dX9_init_84 : decode cX9_init 84 = .ok (.aload_n 0, 1) := by decide +kernel
theorem dX9_init_85 : decode cX9_init 85 = .ok (.bipush 36, 2) := by decide +kernel
theorem dX9_init_87 : decode cX9_init 87 = .ok (.newarray .int, 2) := by decide +kernel
theorem dX9_init_89 : decode cX9_init 89 = .ok (.putfield 41, 3) := by decide +kernel
theorem dX9_init_92 : decode cX9_init 92 = .ok (.aload_n 0, 1) := by decide +kernel
theorem dX9_init_93 : decode cX9_init 93 = .ok (.bipush 18, 2) := by decide +kernel
theorem dX9_init_95 : decode cX9_init 95 = .ok (.newarray .int, 2) := by decide +kernel
theorem dX9_init_97 : decode cX9_init 97 = .ok (.putfield 44, 3) := by decide +kernel
theorem dX9_init_100 : decode cX9_init 100 = .ok (.aload_n 0, 1) := by decide +kernel
theorem dX9_init_101 : decode cX9_init 101 = .ok (.iconst 5, 1) := by decide +kernel
theorem dX9_init_102 : decode cX9_init 102 = .ok (.newarray .int, 2) := by decide +kernel
theorem dX9_init_104 : decode cX9_init 104 = .ok (.putfield 47, 3) := by decide +kernel
theorem dX9_init_107 : decode cX9_init 107 = .ok (.aload_n 0, 1) := by decide +kernel
theorem dX9_init_108 : decode cX9_init 108 = .ok (.sipush 1536, 3) := by decide +kernel
theorem dX9_init_111 : decode cX9_init 111 = .ok (.newarray .int, 2) := by decide +kernel
theorem dX9_init_113 : decode cX9_init 113 = .ok (.putfield 50, 3) := by decide +kernel
theorem dX9_init_116 : decode cX9_init 116 = .ok (.aload_n 0, 1) := by decide +kernel
theorem dX9_init_117 : decode cX9_init 117 = .ok (.bipush 8, 2) := by decide +kernel
theorem dX9_init_119 : decode cX9_init 119 = .ok (.newarray .int, 2) := by decide +kernel
theorem dX9_init_121 : decode cX9_init 121 = .ok (.putfield 53, 3) := by decide +kernel
theorem dX9_init_124 : decode cX9_init 124 = .ok (.aload_n 0, 1) := by decide +kernel
theorem dX9_init_125 : decode cX9_init 125 = .ok (.bipush 8, 2) := by decide +kernel
theorem dX9_init_127 : decode cX9_init 127 = .ok (.newarray .int, 2) := by decide +kernel
theorem dX9_init_129 : decode cX9_init 129 = .ok (.putfield 56, 3) := by decide +kernel
theorem dX9_init_132 : decode cX9_init 132 = .ok (.aload_n 0, 1) := by decide +kernel
theorem dX9_init_133 : decode cX9_init 133 = .ok (.bipush 8, 2) := by decide +kernel
theorem dX9_init_135 : decode cX9_init 135 = .ok (.newarray .int, 2) := by decide +kernel
theorem dX9_init_137 : decode cX9_init 137 = .ok (.putfield 59, 3) := by decide +kernel
theorem dX9_init_140 : decode cX9_init 140 = .ok (.aload_n 0, 1) := by decide +kernel
theorem dX9_init_141 : decode cX9_init 141 = .ok (.bipush 8, 2) := by decide +kernel
theorem dX9_init_143 : decode cX9_init 143 = .ok (.newarray .int, 2) := by decide +kernel
theorem dX9_init_145 : decode cX9_init 145 = .ok (.putfield 62, 3) := by decide +kernel
theorem dX9_init_148 : decode cX9_init 148 = .ok (.aload_n 0, 1) := by decide +kernel
theorem dX9_init_149 : decode cX9_init 149 = .ok (.sipush 256, 3) := by decide +kernel
theorem dX9_init_152 : decode cX9_init 152 = .ok (.newarray .int, 2) := by decide +kernel
theorem dX9_init_154 : decode cX9_init 154 = .ok (.putfield 65, 3) := by decide +kernel
theorem dX9_init_157 : decode cX9_init 157 = .ok (.aload_n 0, 1) := by decide +kernel
theorem dX9_init_158 : decode cX9_init 158 = .ok (.invokevirtual 68, 3) := by decide +kernel
theorem dX9_init_161 : decode cX9_init 161 = .ok (.aload_n 0, 1) := by decide +kernel
theorem dX9_init_162 : decode cX9_init 162 = .ok (.invokevirtual 71, 3) := by decide +kernel
theorem dX9_init_165 : decode cX9_init 165 = .ok (.return_, 1) := by decide +kernel
def f_M_init (N nx : Nat) (D : Dt) (P : Ft) (a0 : Nat) : Option (Dt × Ft) :=
  if kd nx a0 = 9 then
  if SH nx = 10200 then
  pas (zD D nx) fun D1 =>
  pas (zP P nx) fun P1 =>
  if kd (nx + 1) a0 = 9 then
  pas (updF P1 a0 0 (some nx)) fun P3 =>
  if SH (nx + 1) = 30002 then
  pas (zD D1 (nx + 1)) fun D4 =>
  pas (zP P3 (nx + 1)) fun P4 =>
  if kd (nx + 2) a0 = 9 then
  pas (updF P4 a0 2 (some (nx + 1))) fun P6 =>
  if SH (nx + 2) = 30002 then
  pas (zD D4 (nx + 2)) fun D7 =>
  pas (zP P6 (nx + 2)) fun P7 =>
  if kd (nx + 3) a0 = 9 then
  pas (updF P7 a0 3 (some (nx + 2))) fun P9 =>
  if SH (nx + 3) = 30006 then
  pas (zD D7 (nx + 3)) fun D10 =>
  pas (zP P9 (nx + 3)) fun P10 =>
  if kd (nx + 4) a0 = 9 then
  pas (updF P10 a0 4 (some (nx + 3))) fun P12 =>
  if SH (nx + 4) = 30010 then
  pas (zD D10 (nx + 4)) fun D13 =>
  pas (zP P12 (nx + 4)) fun P13 =>
  if kd (nx + 5) a0 = 9 then
  pas (updF P13 a0 5 (some (nx + 4))) fun P15 =>
  if SH (nx + 5) = 30016 then
  pas (zD D13 (nx + 5)) fun D16 =>
  pas (zP P15 (nx + 5)) fun P16 =>
  if kd (nx + 6) a0 = 9 then
  pas (updF P16 a0 6 (some (nx + 5))) fun P18 =>
  if SH (nx + 6) = 30016 then
  pas (zD D16 (nx + 6)) fun D19 =>
  pas (zP P18 (nx + 6)) fun P19 =>
  if kd (nx + 7) a0 = 9 then
  pas (updF P19 a0 7 (some (nx + 6))) fun P21 =>
  if SH (nx + 7) = 30016 then
  pas (zD D19 (nx + 7)) fun D22 =>
  pas (zP P21 (nx + 7)) fun P22 =>
  if kd (nx + 8) a0 = 9 then
  pas (updF P22 a0 8 (some (nx + 7))) fun P24 =>
  if SH (nx + 8) = 30018 then
  pas (zD D22 (nx + 8)) fun D25 =>
  pas (zP P24 (nx + 8)) fun P25 =>
  if kd (nx + 9) a0 = 9 then
  pas (updF P25 a0 11 (some (nx + 8))) fun P27 =>
  if SH (nx + 9) = 30144 then
  pas (zD D25 (nx + 9)) fun D28 =>
  pas (zP P27 (nx + 9)) fun P28 =>
  if kd (nx + 10) a0 = 9 then
  pas (updF P28 a0 12 (some (nx + 9))) fun P30 =>
  if SH (nx + 10) = 30036 then
  pas (zD D28 (nx + 10)) fun D31 =>
  pas (zP P30 (nx + 10)) fun P31 =>
  if kd (nx + 11) a0 = 9 then
  pas (updF P31 a0 14 (some (nx + 10))) fun P33 =>
  if SH (nx + 11) = 30018 then
  pas (zD D31 (nx + 11)) fun D34 =>
  pas (zP P33 (nx + 11)) fun P34 =>
  if kd (nx + 12) a0 = 9 then
  pas (updF P34 a0 16 (some (nx + 11))) fun P36 =>
  if SH (nx + 12) = 30005 then
  pas (zD D34 (nx + 12)) fun D37 =>
  pas (zP P36 (nx + 12)) fun P37 =>
  if kd (nx + 13) a0 = 9 then
  pas (updF P37 a0 17 (some (nx + 12))) fun P39 =>
  if SH (nx + 13) = 31536 then
  pas (zD D37 (nx + 13)) fun D40 =>
  pas (zP P39 (nx + 13)) fun P40 =>
  if kd (nx + 14) a0 = 9 then
  pas (updF P40 a0 18 (some (nx + 13))) fun P42 =>
  if SH (nx + 14) = 30008 then
  pas (zD D40 (nx + 14)) fun D43 =>
  pas (zP P42 (nx + 14)) fun P43 =>
  if kd (nx + 15) a0 = 9 then
  pas (updF P43 a0 19 (some (nx + 14))) fun P45 =>
  if SH (nx + 15) = 30008 then
  pas (zD D43 (nx + 15)) fun D46 =>
  pas (zP P45 (nx + 15)) fun P46 =>
  if kd (nx + 16) a0 = 9 then
  pas (updF P46 a0 20 (some (nx + 15))) fun P48 =>
  if SH (nx + 16) = 30008 then
  pas (zD D46 (nx + 16)) fun D49 =>
  pas (zP P48 (nx + 16)) fun P49 =>
  if kd (nx + 17) a0 = 9 then
  pas (updF P49 a0 21 (some (nx + 16))) fun P51 =>
  if SH (nx + 17) = 30008 then
  pas (zD D49 (nx + 17)) fun D52 =>
  pas (zP P51 (nx + 17)) fun P52 =>
  if kd (nx + 18) a0 = 9 then
  pas (updF P52 a0 23 (some (nx + 17))) fun P54 =>
  if SH (nx + 18) = 30256 then
  pas (zD D52 (nx + 18)) fun D55 =>
  pas (zP P54 (nx + 18)) fun P55 =>
  if kd (nx + 19) a0 = 9 then
  pas (updF P55 a0 25 (some (nx + 18))) fun P57 =>
  (f_M_first N (nx + 19) D55 P57 a0).bind fun z58 =>
  (f_M_takeDraft N (nx + 19) z58 P57 a0).bind fun z59 =>
  some (z59, P57)
  else none
  else none
  else none
  else none
  else none
  else none
  else none
  else none
  else none
  else none
  else none
  else none
  else none
  else none
  else none
  else none
  else none
  else none
  else none
  else none
  else none
  else none
  else none
  else none
  else none
  else none
  else none
  else none
  else none
  else none
  else none
  else none
  else none
  else none
  else none
  else none
  else none
  else none
  else none
theorem m_M_init : MI yX9_init cX9_init 1 0 := ⟨mT 863 (by decide +kernel) rfl, mT 862 (by decide +kernel) rfl, rfl, mT 68 (by decide +kernel) rfl, by decide +kernel, by decide +kernel, by decide +kernel⟩
set_option maxHeartbeats 4000000 in
set_option maxRecDepth 100000 in
theorem c_M_init (l : Launch) (cx : Cx) (nx N : Nat) (D : Dt) (P : Ft) (a0 : Nat) (z : Dt × Ft) (h : f_M_init N nx D P a0 = some z) : Cc l cx yX9_init cX9_init 1 3 19 2313 [.ref (cx.2.2 + a0)] D P nx z.1 z.2 (nx + 19) := by
  refine x_met0 (by decide) (Nat.le_of_ble_eq_true rfl) ?_
  intro p e s m args below meth c X
  have X : XC p s m args meth c cx cX9_init 1 none "HeartPinsModel" "<init>" := X
  refine XW.sub (lv' := [(0, .ref (cx.2.2 + a0))]) [0] rfl ?_
  unfold f_M_init at h
  obtain ⟨hk0, h⟩ := grd h
  refine x_aload_n (pc := 0) X dX9_init_0 (i := 0) rfl 0 rfl ?_
  refine x_objInit (pc := 1) X dX9_init_1 w_864 w_oi1 w_oi2 ⟨by decide, by decide⟩ (Nat.le_of_ble_eq_true rfl) ?_
  refine x_aload_n (pc := 4) X dX9_init_4 (i := 0) rfl 0 rfl ?_
  refine x_sipush (v := 200) (pc := 5) X dX9_init_5 (by decide) ?_
  obtain ⟨k1, h⟩ := grd h
  obtain ⟨D1, w1, h⟩ := pass h
  obtain ⟨P1, u1, h⟩ := pass h
  refine x_newarr (t := 1) (N := 200) (D' := D1) (P' := P1) (pc := 8) X dX9_init_8 k1 (by decide) (by decide) (by decide) w_455 w1 u1 (Or.inl ⟨rfl, rfl, rfl⟩) ⟨by decide, by decide⟩ ?_
  refine XW.ren (nx' := nx + 1) (c' := 1) (s' := 200) rfl rfl rfl ?_
  obtain ⟨k2, h⟩ := grd h
  obtain ⟨P3, w3, h⟩ := pass h
  refine x_putr (ci := 9) (k := 0) (n := 26) (C := RX9) (T := TX9) (ty := .array (.byte)) (P' := P3) (pc := 10) X dX9_init_10 k2 rfl (by decide) w_889 rfl (by decide +kernel) (Or.inr ⟨_, rfl⟩) rfl w3 ?_
  refine x_aload_n (pc := 13) X dX9_init_13 (i := 0) rfl 0 rfl ?_
  refine x_iconst (v := 2) (pc := 14) X dX9_init_14 (by decide) ?_
  obtain ⟨k4, h⟩ := grd h
  obtain ⟨D4, w4, h⟩ := pass h
  obtain ⟨P4, u4, h⟩ := pass h
  refine x_newarr (t := 3) (N := 2) (D' := D4) (P' := P4) (pc := 15) X dX9_init_15 k4 (by decide) (by decide) (by decide) w_99 w4 u4 (Or.inr (Or.inr ⟨rfl, rfl, rfl⟩)) ⟨by decide, by decide⟩ ?_
  refine XW.ren (nx' := nx + 2) (c' := 2) (s' := 202) rfl rfl rfl ?_
  obtain ⟨k5, h⟩ := grd h
  obtain ⟨P6, w6, h⟩ := pass h
  refine x_putr (ci := 9) (k := 2) (n := 26) (C := RX9) (T := TX9) (ty := .array (.int)) (P' := P6) (pc := 17) X dX9_init_17 k5 rfl (by decide) w_891 rfl (by decide +kernel) (Or.inr ⟨_, rfl⟩) rfl w6 ?_
  refine x_aload_n (pc := 20) X dX9_init_20 (i := 0) rfl 0 rfl ?_
  refine x_iconst (v := 2) (pc := 21) X dX9_init_21 (by decide) ?_
  obtain ⟨k7, h⟩ := grd h
  obtain ⟨D7, w7, h⟩ := pass h
  obtain ⟨P7, u7, h⟩ := pass h
  refine x_newarr (t := 3) (N := 2) (D' := D7) (P' := P7) (pc := 22) X dX9_init_22 k7 (by decide) (by decide) (by decide) w_99 w7 u7 (Or.inr (Or.inr ⟨rfl, rfl, rfl⟩)) ⟨by decide, by decide⟩ ?_
  refine XW.ren (nx' := nx + 3) (c' := 3) (s' := 204) rfl rfl rfl ?_
  obtain ⟨k8, h⟩ := grd h
  obtain ⟨P9, w9, h⟩ := pass h
  refine x_putr (ci := 9) (k := 3) (n := 26) (C := RX9) (T := TX9) (ty := .array (.int)) (P' := P9) (pc := 24) X dX9_init_24 k8 rfl (by decide) w_892 rfl (by decide +kernel) (Or.inr ⟨_, rfl⟩) rfl w9 ?_
  refine x_aload_n (pc := 27) X dX9_init_27 (i := 0) rfl 0 rfl ?_
  refine x_bipush (v := 6) (pc := 28) X dX9_init_28 (by decide) ?_
  obtain ⟨k10, h⟩ := grd h
  obtain ⟨D10, w10, h⟩ := pass h
  obtain ⟨P10, u10, h⟩ := pass h
  refine x_newarr (t := 3) (N := 6) (D' := D10) (P' := P10) (pc := 30) X dX9_init_30 k10 (by decide) (by decide) (by decide) w_99 w10 u10 (Or.inr (Or.inr ⟨rfl, rfl, rfl⟩)) ⟨by decide, by decide⟩ ?_
  refine XW.ren (nx' := nx + 4) (c' := 4) (s' := 210) rfl rfl rfl ?_
  obtain ⟨k11, h⟩ := grd h
  obtain ⟨P12, w12, h⟩ := pass h
  refine x_putr (ci := 9) (k := 4) (n := 26) (C := RX9) (T := TX9) (ty := .array (.int)) (P' := P12) (pc := 32) X dX9_init_32 k11 rfl (by decide) w_893 rfl (by decide +kernel) (Or.inr ⟨_, rfl⟩) rfl w12 ?_
  refine x_aload_n (pc := 35) X dX9_init_35 (i := 0) rfl 0 rfl ?_
  refine x_bipush (v := 10) (pc := 36) X dX9_init_36 (by decide) ?_
  obtain ⟨k13, h⟩ := grd h
  obtain ⟨D13, w13, h⟩ := pass h
  obtain ⟨P13, u13, h⟩ := pass h
  refine x_newarr (t := 3) (N := 10) (D' := D13) (P' := P13) (pc := 38) X dX9_init_38 k13 (by decide) (by decide) (by decide) w_99 w13 u13 (Or.inr (Or.inr ⟨rfl, rfl, rfl⟩)) ⟨by decide, by decide⟩ ?_
  refine XW.ren (nx' := nx + 5) (c' := 5) (s' := 220) rfl rfl rfl ?_
  obtain ⟨k14, h⟩ := grd h
  obtain ⟨P15, w15, h⟩ := pass h
  refine x_putr (ci := 9) (k := 5) (n := 26) (C := RX9) (T := TX9) (ty := .array (.int)) (P' := P15) (pc := 40) X dX9_init_40 k14 rfl (by decide) w_894 rfl (by decide +kernel) (Or.inr ⟨_, rfl⟩) rfl w15 ?_
  refine x_aload_n (pc := 43) X dX9_init_43 (i := 0) rfl 0 rfl ?_
  refine x_bipush (v := 16) (pc := 44) X dX9_init_44 (by decide) ?_
  obtain ⟨k16, h⟩ := grd h
  obtain ⟨D16, w16, h⟩ := pass h
  obtain ⟨P16, u16, h⟩ := pass h
  refine x_newarr (t := 3) (N := 16) (D' := D16) (P' := P16) (pc := 46) X dX9_init_46 k16 (by decide) (by decide) (by decide) w_99 w16 u16 (Or.inr (Or.inr ⟨rfl, rfl, rfl⟩)) ⟨by decide, by decide⟩ ?_
  refine XW.ren (nx' := nx + 6) (c' := 6) (s' := 236) rfl rfl rfl ?_
  obtain ⟨k17, h⟩ := grd h
  obtain ⟨P18, w18, h⟩ := pass h
  refine x_putr (ci := 9) (k := 6) (n := 26) (C := RX9) (T := TX9) (ty := .array (.int)) (P' := P18) (pc := 48) X dX9_init_48 k17 rfl (by decide) w_895 rfl (by decide +kernel) (Or.inr ⟨_, rfl⟩) rfl w18 ?_
  refine x_aload_n (pc := 51) X dX9_init_51 (i := 0) rfl 0 rfl ?_
  refine x_bipush (v := 16) (pc := 52) X dX9_init_52 (by decide) ?_
  obtain ⟨k19, h⟩ := grd h
  obtain ⟨D19, w19, h⟩ := pass h
  obtain ⟨P19, u19, h⟩ := pass h
  refine x_newarr (t := 3) (N := 16) (D' := D19) (P' := P19) (pc := 54) X dX9_init_54 k19 (by decide) (by decide) (by decide) w_99 w19 u19 (Or.inr (Or.inr ⟨rfl, rfl, rfl⟩)) ⟨by decide, by decide⟩ ?_
  refine XW.ren (nx' := nx + 7) (c' := 7) (s' := 252) rfl rfl rfl ?_
  obtain ⟨k20, h⟩ := grd h
  obtain ⟨P21, w21, h⟩ := pass h
  refine x_putr (ci := 9) (k := 7) (n := 26) (C := RX9) (T := TX9) (ty := .array (.int)) (P' := P21) (pc := 56) X dX9_init_56 k20 rfl (by decide) w_896 rfl (by decide +kernel) (Or.inr ⟨_, rfl⟩) rfl w21 ?_
  refine x_aload_n (pc := 59) X dX9_init_59 (i := 0) rfl 0 rfl ?_
  refine x_bipush (v := 16) (pc := 60) X dX9_init_60 (by decide) ?_
  obtain ⟨k22, h⟩ := grd h
  obtain ⟨D22, w22, h⟩ := pass h
  obtain ⟨P22, u22, h⟩ := pass h
  refine x_newarr (t := 3) (N := 16) (D' := D22) (P' := P22) (pc := 62) X dX9_init_62 k22 (by decide) (by decide) (by decide) w_99 w22 u22 (Or.inr (Or.inr ⟨rfl, rfl, rfl⟩)) ⟨by decide, by decide⟩ ?_
  refine XW.ren (nx' := nx + 8) (c' := 8) (s' := 268) rfl rfl rfl ?_
  obtain ⟨k23, h⟩ := grd h
  obtain ⟨P24, w24, h⟩ := pass h
  refine x_putr (ci := 9) (k := 8) (n := 26) (C := RX9) (T := TX9) (ty := .array (.int)) (P' := P24) (pc := 64) X dX9_init_64 k23 rfl (by decide) w_897 rfl (by decide +kernel) (Or.inr ⟨_, rfl⟩) rfl w24 ?_
  refine x_aload_n (pc := 67) X dX9_init_67 (i := 0) rfl 0 rfl ?_
  refine x_bipush (v := 18) (pc := 68) X dX9_init_68 (by decide) ?_
  obtain ⟨k25, h⟩ := grd h
  obtain ⟨D25, w25, h⟩ := pass h
  obtain ⟨P25, u25, h⟩ := pass h
  refine x_newarr (t := 3) (N := 18) (D' := D25) (P' := P25) (pc := 70) X dX9_init_70 k25 (by decide) (by decide) (by decide) w_99 w25 u25 (Or.inr (Or.inr ⟨rfl, rfl, rfl⟩)) ⟨by decide, by decide⟩ ?_
  refine XW.ren (nx' := nx + 9) (c' := 9) (s' := 286) rfl rfl rfl ?_
  obtain ⟨k26, h⟩ := grd h
  obtain ⟨P27, w27, h⟩ := pass h
  refine x_putr (ci := 9) (k := 11) (n := 26) (C := RX9) (T := TX9) (ty := .array (.int)) (P' := P27) (pc := 72) X dX9_init_72 k26 rfl (by decide) w_900 rfl (by decide +kernel) (Or.inr ⟨_, rfl⟩) rfl w27 ?_
  refine x_aload_n (pc := 75) X dX9_init_75 (i := 0) rfl 0 rfl ?_
  refine x_sipush (v := 144) (pc := 76) X dX9_init_76 (by decide) ?_
  obtain ⟨k28, h⟩ := grd h
  obtain ⟨D28, w28, h⟩ := pass h
  obtain ⟨P28, u28, h⟩ := pass h
  refine x_newarr (t := 3) (N := 144) (D' := D28) (P' := P28) (pc := 79) X dX9_init_79 k28 (by decide) (by decide) (by decide) w_99 w28 u28 (Or.inr (Or.inr ⟨rfl, rfl, rfl⟩)) ⟨by decide, by decide⟩ ?_
  refine XW.ren (nx' := nx + 10) (c' := 10) (s' := 430) rfl rfl rfl ?_
  obtain ⟨k29, h⟩ := grd h
  obtain ⟨P30, w30, h⟩ := pass h
  refine x_putr (ci := 9) (k := 12) (n := 26) (C := RX9) (T := TX9) (ty := .array (.int)) (P' := P30) (pc := 81) X dX9_init_81 k29 rfl (by decide) w_901 rfl (by decide +kernel) (Or.inr ⟨_, rfl⟩) rfl w30 ?_
  refine x_aload_n (pc := 84) X dX9_init_84 (i := 0) rfl 0 rfl ?_
  refine x_bipush (v := 36) (pc := 85) X dX9_init_85 (by decide) ?_
  obtain ⟨k31, h⟩ := grd h
  obtain ⟨D31, w31, h⟩ := pass h
  obtain ⟨P31, u31, h⟩ := pass h
  refine x_newarr (t := 3) (N := 36) (D' := D31) (P' := P31) (pc := 87) X dX9_init_87 k31 (by decide) (by decide) (by decide) w_99 w31 u31 (Or.inr (Or.inr ⟨rfl, rfl, rfl⟩)) ⟨by decide, by decide⟩ ?_
  refine XW.ren (nx' := nx + 11) (c' := 11) (s' := 466) rfl rfl rfl ?_
  obtain ⟨k32, h⟩ := grd h
  obtain ⟨P33, w33, h⟩ := pass h
  refine x_putr (ci := 9) (k := 14) (n := 26) (C := RX9) (T := TX9) (ty := .array (.int)) (P' := P33) (pc := 89) X dX9_init_89 k32 rfl (by decide) w_903 rfl (by decide +kernel) (Or.inr ⟨_, rfl⟩) rfl w33 ?_
  refine x_aload_n (pc := 92) X dX9_init_92 (i := 0) rfl 0 rfl ?_
  refine x_bipush (v := 18) (pc := 93) X dX9_init_93 (by decide) ?_
  obtain ⟨k34, h⟩ := grd h
  obtain ⟨D34, w34, h⟩ := pass h
  obtain ⟨P34, u34, h⟩ := pass h
  refine x_newarr (t := 3) (N := 18) (D' := D34) (P' := P34) (pc := 95) X dX9_init_95 k34 (by decide) (by decide) (by decide) w_99 w34 u34 (Or.inr (Or.inr ⟨rfl, rfl, rfl⟩)) ⟨by decide, by decide⟩ ?_
  refine XW.ren (nx' := nx + 12) (c' := 12) (s' := 484) rfl rfl rfl ?_
  obtain ⟨k35, h⟩ := grd h
  obtain ⟨P36, w36, h⟩ := pass h
  refine x_putr (ci := 9) (k := 16) (n := 26) (C := RX9) (T := TX9) (ty := .array (.int)) (P' := P36) (pc := 97) X dX9_init_97 k35 rfl (by decide) w_905 rfl (by decide +kernel) (Or.inr ⟨_, rfl⟩) rfl w36 ?_
  refine x_aload_n (pc := 100) X dX9_init_100 (i := 0) rfl 0 rfl ?_
  refine x_iconst (v := 5) (pc := 101) X dX9_init_101 (by decide) ?_
  obtain ⟨k37, h⟩ := grd h
  obtain ⟨D37, w37, h⟩ := pass h
  obtain ⟨P37, u37, h⟩ := pass h
  refine x_newarr (t := 3) (N := 5) (D' := D37) (P' := P37) (pc := 102) X dX9_init_102 k37 (by decide) (by decide) (by decide) w_99 w37 u37 (Or.inr (Or.inr ⟨rfl, rfl, rfl⟩)) ⟨by decide, by decide⟩ ?_
  refine XW.ren (nx' := nx + 13) (c' := 13) (s' := 489) rfl rfl rfl ?_
  obtain ⟨k38, h⟩ := grd h
  obtain ⟨P39, w39, h⟩ := pass h
  refine x_putr (ci := 9) (k := 17) (n := 26) (C := RX9) (T := TX9) (ty := .array (.int)) (P' := P39) (pc := 104) X dX9_init_104 k38 rfl (by decide) w_906 rfl (by decide +kernel) (Or.inr ⟨_, rfl⟩) rfl w39 ?_
  refine x_aload_n (pc := 107) X dX9_init_107 (i := 0) rfl 0 rfl ?_
  refine x_sipush (v := 1536) (pc := 108) X dX9_init_108 (by decide) ?_
  obtain ⟨k40, h⟩ := grd h
  obtain ⟨D40, w40, h⟩ := pass h
  obtain ⟨P40, u40, h⟩ := pass h
  refine x_newarr (t := 3) (N := 1536) (D' := D40) (P' := P40) (pc := 111) X dX9_init_111 k40 (by decide) (by decide) (by decide) w_99 w40 u40 (Or.inr (Or.inr ⟨rfl, rfl, rfl⟩)) ⟨by decide, by decide⟩ ?_
  refine XW.ren (nx' := nx + 14) (c' := 14) (s' := 2025) rfl rfl rfl ?_
  obtain ⟨k41, h⟩ := grd h
  obtain ⟨P42, w42, h⟩ := pass h
  refine x_putr (ci := 9) (k := 18) (n := 26) (C := RX9) (T := TX9) (ty := .array (.int)) (P' := P42) (pc := 113) X dX9_init_113 k41 rfl (by decide) w_907 rfl (by decide +kernel) (Or.inr ⟨_, rfl⟩) rfl w42 ?_
  refine x_aload_n (pc := 116) X dX9_init_116 (i := 0) rfl 0 rfl ?_
  refine x_bipush (v := 8) (pc := 117) X dX9_init_117 (by decide) ?_
  obtain ⟨k43, h⟩ := grd h
  obtain ⟨D43, w43, h⟩ := pass h
  obtain ⟨P43, u43, h⟩ := pass h
  refine x_newarr (t := 3) (N := 8) (D' := D43) (P' := P43) (pc := 119) X dX9_init_119 k43 (by decide) (by decide) (by decide) w_99 w43 u43 (Or.inr (Or.inr ⟨rfl, rfl, rfl⟩)) ⟨by decide, by decide⟩ ?_
  refine XW.ren (nx' := nx + 15) (c' := 15) (s' := 2033) rfl rfl rfl ?_
  obtain ⟨k44, h⟩ := grd h
  obtain ⟨P45, w45, h⟩ := pass h
  refine x_putr (ci := 9) (k := 19) (n := 26) (C := RX9) (T := TX9) (ty := .array (.int)) (P' := P45) (pc := 121) X dX9_init_121 k44 rfl (by decide) w_908 rfl (by decide +kernel) (Or.inr ⟨_, rfl⟩) rfl w45 ?_
  refine x_aload_n (pc := 124) X dX9_init_124 (i := 0) rfl 0 rfl ?_
  refine x_bipush (v := 8) (pc := 125) X dX9_init_125 (by decide) ?_
  obtain ⟨k46, h⟩ := grd h
  obtain ⟨D46, w46, h⟩ := pass h
  obtain ⟨P46, u46, h⟩ := pass h
  refine x_newarr (t := 3) (N := 8) (D' := D46) (P' := P46) (pc := 127) X dX9_init_127 k46 (by decide) (by decide) (by decide) w_99 w46 u46 (Or.inr (Or.inr ⟨rfl, rfl, rfl⟩)) ⟨by decide, by decide⟩ ?_
  refine XW.ren (nx' := nx + 16) (c' := 16) (s' := 2041) rfl rfl rfl ?_
  obtain ⟨k47, h⟩ := grd h
  obtain ⟨P48, w48, h⟩ := pass h
  refine x_putr (ci := 9) (k := 20) (n := 26) (C := RX9) (T := TX9) (ty := .array (.int)) (P' := P48) (pc := 129) X dX9_init_129 k47 rfl (by decide) w_909 rfl (by decide +kernel) (Or.inr ⟨_, rfl⟩) rfl w48 ?_
  refine x_aload_n (pc := 132) X dX9_init_132 (i := 0) rfl 0 rfl ?_
  refine x_bipush (v := 8) (pc := 133) X dX9_init_133 (by decide) ?_
  obtain ⟨k49, h⟩ := grd h
  obtain ⟨D49, w49, h⟩ := pass h
  obtain ⟨P49, u49, h⟩ := pass h
  refine x_newarr (t := 3) (N := 8) (D' := D49) (P' := P49) (pc := 135) X dX9_init_135 k49 (by decide) (by decide) (by decide) w_99 w49 u49 (Or.inr (Or.inr ⟨rfl, rfl, rfl⟩)) ⟨by decide, by decide⟩ ?_
  refine XW.ren (nx' := nx + 17) (c' := 17) (s' := 2049) rfl rfl rfl ?_
  obtain ⟨k50, h⟩ := grd h
  obtain ⟨P51, w51, h⟩ := pass h
  refine x_putr (ci := 9) (k := 21) (n := 26) (C := RX9) (T := TX9) (ty := .array (.int)) (P' := P51) (pc := 137) X dX9_init_137 k50 rfl (by decide) w_910 rfl (by decide +kernel) (Or.inr ⟨_, rfl⟩) rfl w51 ?_
  refine x_aload_n (pc := 140) X dX9_init_140 (i := 0) rfl 0 rfl ?_
  refine x_bipush (v := 8) (pc := 141) X dX9_init_141 (by decide) ?_
  obtain ⟨k52, h⟩ := grd h
  obtain ⟨D52, w52, h⟩ := pass h
  obtain ⟨P52, u52, h⟩ := pass h
  refine x_newarr (t := 3) (N := 8) (D' := D52) (P' := P52) (pc := 143) X dX9_init_143 k52 (by decide) (by decide) (by decide) w_99 w52 u52 (Or.inr (Or.inr ⟨rfl, rfl, rfl⟩)) ⟨by decide, by decide⟩ ?_
  refine XW.ren (nx' := nx + 18) (c' := 18) (s' := 2057) rfl rfl rfl ?_
  obtain ⟨k53, h⟩ := grd h
  obtain ⟨P54, w54, h⟩ := pass h
  refine x_putr (ci := 9) (k := 23) (n := 26) (C := RX9) (T := TX9) (ty := .array (.int)) (P' := P54) (pc := 145) X dX9_init_145 k53 rfl (by decide) w_912 rfl (by decide +kernel) (Or.inr ⟨_, rfl⟩) rfl w54 ?_
  refine x_aload_n (pc := 148) X dX9_init_148 (i := 0) rfl 0 rfl ?_
  refine x_sipush (v := 256) (pc := 149) X dX9_init_149 (by decide) ?_
  obtain ⟨k55, h⟩ := grd h
  obtain ⟨D55, w55, h⟩ := pass h
  obtain ⟨P55, u55, h⟩ := pass h
  refine x_newarr (t := 3) (N := 256) (D' := D55) (P' := P55) (pc := 152) X dX9_init_152 k55 (by decide) (by decide) (by decide) w_99 w55 u55 (Or.inr (Or.inr ⟨rfl, rfl, rfl⟩)) ⟨by decide, by decide⟩ ?_
  refine XW.ren (nx' := nx + 19) (c' := 19) (s' := 2313) rfl rfl rfl ?_
  obtain ⟨k56, h⟩ := grd h
  obtain ⟨P57, w57, h⟩ := pass h
  refine x_putr (ci := 9) (k := 25) (n := 26) (C := RX9) (T := TX9) (ty := .array (.int)) (P' := P57) (pc := 154) X dX9_init_154 k56 rfl (by decide) w_914 rfl (by decide +kernel) (Or.inr ⟨_, rfl⟩) rfl w57 ?_
  refine x_aload_n (pc := 157) X dX9_init_157 (i := 0) rfl 0 rfl ?_
  obtain ⟨z58, e58, h⟩ := bnds h
  refine x_callV (pc := 158) (As := []) (st := []) (st' := []) X (c_M_first l cx (nx + 19) N D55 P57 _ z58 e58) dX9_init_158 w_865 m_M_first rfl k56 (ci := 9) rfl rfl ⟨by decide, by decide⟩ ⟨by decide, by decide⟩ rfl (Nat.le_of_ble_eq_true rfl) rfl ?_
  refine x_aload_n (pc := 161) X dX9_init_161 (i := 0) rfl 0 rfl ?_
  obtain ⟨z59, e59, h⟩ := bnds h
  refine x_callV (pc := 162) (As := []) (st := []) (st' := []) X (c_M_takeDraft l cx (nx + 19) N z58 P57 _ z59 e59) dX9_init_162 w_885 m_M_takeDraft rfl k56 (ci := 9) rfl rfl ⟨by decide, by decide⟩ ⟨by decide, by decide⟩ rfl (Nat.le_of_ble_eq_true rfl) rfl ?_
  obtain rfl := Option.some.inj h
  exact x_vret (pc := 165) X dX9_init_165
