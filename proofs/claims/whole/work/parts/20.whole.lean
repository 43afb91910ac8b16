/-! the making of the whole object -/
theorem x_metH {l : Launch} {cx : Cx} {sa sv : Nat} {y : MethodName} {b : ByteArray} {nL : Nat} {rt : Option FieldType} {rm : Room} {As : List Value} {D : Dt} {P : Ft} {nx mc ms : Nat} {ov : Option Value} {D' : Dt} {P' : Ft} {nx' : Nat}
    (hy : plainName y.cls = true) (hlen : (lg_sl As).length ≤ nL)
    (body : ∀ (p : Program) (e : Env) (s : State) (m : MethodId) (args : Array Value) (below : List Frame) (meth : Method) (c : Code), XC p s m args meth c cx b nL rt y.cls y.name → SF cx sa sv s →
      XW p l e rm s m args below meth c (MQ below (Qx cx ov D' P' nx') args s mc ms (AA cx)) cx nL D P nx 0 0 0 (lv_args 0 As) []) :
    Met l y (.code y b nL rt :: wT) rm (va_Pc As (fun U => Wd cx D P nx U ∧ SF cx sa sv U)) (Qx cx ov D' P' nx') mc ms (AA cx) := by
  refine Met.ofW (cc := b) (maxL := nL) (ret := rt) hy rfl ?_
  intro p e s m args below meth c s₁ B hml hv
  obtain ⟨rfl, ⟨hR, hK⟩, hF⟩ := hv
  have hts := atoms_spec (ws := .code y b nL rt :: wT) B.pre
  have X : XC p s m As.toArray meth c cx b nL rt y.cls y.name := ⟨B.exec, B.bytes, hml, B.returns, findClass_of_methodNamed B.named, fun w hw => hts w (List.mem_cons_of_mem _ hw), hK, B.notSynchronized, (name_of_methodNamed B.named B.method).1⟩
  have hl := lv_entry As (n := nL) hlen
  rw [lg_entry_eq]
  exact body p e s m _ below meth c X hF _ _ _ hR va_S.rf hl
section XS
variable {p : Program} {l : Launch} {e : Env} {R : Room} {s : State} {m : MethodId} {args : Array Value} {below : List Frame} {meth : Method} {c : Code} {Q : State → Prop} {cx : Cx} {b : ByteArray} {nL : Nat} {rt : Option FieldType} {mn : String} {D : Dt} {P : Ft} {nx cells slots pc : Nat} {lv : List (Nat × Value)} {st : List Value} {sa sv : Nat}
theorem x_ldcS (X : XC p s m args meth c cx b nL rt "HeartPins" mn) (hd : decode b pc = .ok (.ldc 78, 2)) (hF : SF cx sa sv s) (kk : XW p l e R s m args below meth c Q cx nL D P nx cells slots (pc + 2) lv (.ref sa :: st)) : XW p l e R s m args below meth c Q cx nL D P nx cells slots pc lv st :=
  fun H locs ls hR hS hl => va_ldcS X.1 X.2.1 X.2.2.2.2.1 hF.1 hd (kk H locs ls hR hS hl)
theorem x_strlen (X : XC p s m args meth c cx b nL rt "HeartPins" mn) (hd : decode b pc = .ok (.invokevirtual 80, 3)) (hF : SF cx sa sv s) (hw : Cond.methodLink "HeartPins" 80 ⟨"java/lang/String", "length", "()I"⟩ ∈ wT) (hR : 2 ≤ R.frames ∧ 80 ≤ R.locals) (hf : cells ≤ R.cells ∧ slots ≤ R.slots) (hcat : (st.map fun v => v.category).sum ≤ 8) (kk : XW p l e R s m args below meth c Q cx nL D P nx cells slots (pc + 3) lv (.int 79 :: st)) : XW p l e R s m args below meth c Q cx nL D P nx cells slots pc lv (.ref sa :: st) :=
  fun H locs ls hRp hS hl => j_callV (As := []) (st := st) X.1 X.2.1 X.2.2.1 X.2.2.2.2.1 X.2.2.2.2.2.1 hF hS hl (c_Jlength l cx sa sv) hd hw m_Jlength rfl rfl ⟨by omega, by omega⟩ hf rfl hcat (kk H locs ls hRp hS hl)
theorem x_strchr (X : XC p s m args meth c cx b nL rt "HeartPins" mn) {i : Int32} (hd : decode b pc = .ok (.invokevirtual 86, 3)) (hF : SF cx sa sv s) (hw : Cond.methodLink "HeartPins" 86 ⟨"java/lang/String", "charAt", "(I)C"⟩ ∈ wT) (hi : ¬ i < 0 ∧ i < 79) (hR : 4 ≤ R.frames ∧ 201 ≤ R.locals) (hf : cells ≤ R.cells ∧ slots ≤ R.slots) (hcat : (st.map fun v => v.category).sum ≤ 8) (kk : XW p l e R s m args below meth c Q cx nL D P nx cells slots (pc + 3) lv (.int ((FB i.toNatClampNeg &&& 255).toUInt32 % 65536).toInt32 :: st)) : XW p l e R s m args below meth c Q cx nL D P nx cells slots pc lv (.int i :: .ref sa :: st) :=
  fun H locs ls hRp hS hl => j_callV (As := [.int i]) (st := st) X.1 X.2.1 X.2.2.1 X.2.2.2.2.1 X.2.2.2.2.2.1 hF hS hl (c_JcharAt l cx sa sv i hi) hd hw m_JcharAt rfl rfl ⟨by omega, by omega⟩ hf rfl hcat (kk H locs ls hRp hS hl)
end XS
theorem w_55 : Cond.initialized "HeartPins$Letters" ∈ wT := mT 55 (by decide +kernel) rfl
theorem w_56 : Cond.initialized "HeartPins$Family" ∈ wT := mT 56 (by decide +kernel) rfl
theorem w_58 : Cond.initialized "HeartPins$Shelf" ∈ wT := mT 58 (by decide +kernel) rfl
theorem w_60 : Cond.initialized "HeartPins$Notes" ∈ wT := mT 60 (by decide +kernel) rfl
theorem w_61 : Cond.initialized "HeartPins$Matching" ∈ wT := mT 61 (by decide +kernel) rfl
theorem w_62 : Cond.initialized "HeartPins$Sharing" ∈ wT := mT 62 (by decide +kernel) rfl
theorem w_63 : Cond.initialized "HeartPins$BadDays" ∈ wT := mT 63 (by decide +kernel) rfl
theorem w_75 : Cond.methodLink "HeartPins" 3 ⟨"java/lang/Object", "<init>", "()V"⟩ ∈ wT := mT 75 (by decide +kernel) rfl
theorem w_78 : Cond.classLink "HeartPins" 9 "HeartPins$Letters" ∈ wT := mT 78 (by decide +kernel) rfl
theorem w_79 : Cond.instantiable "HeartPins$Letters" 4 ∈ wT := mT 79 (by decide +kernel) rfl
theorem w_100 : Cond.classLink "HeartPins" 16 "HeartPins$Family" ∈ wT := mT 100 (by decide +kernel) rfl
theorem w_101 : Cond.instantiable "HeartPins$Family" 9 ∈ wT := mT 101 (by decide +kernel) rfl
theorem w_145 : Cond.classLink "HeartPins" 26 "HeartPins$Standing" ∈ wT := mT 145 (by decide +kernel) rfl
theorem w_147 : Cond.methodLink "HeartPins" 28 ⟨"HeartPins$Standing", "<init>", "(LHeartPins$Family;)V"⟩ ∈ wT := mT 147 (by decide +kernel) rfl
theorem w_171 : Cond.classLink "HeartPins" 38 "HeartPins$Shelf" ∈ wT := mT 171 (by decide +kernel) rfl
theorem w_172 : Cond.instantiable "HeartPins$Shelf" 2 ∈ wT := mT 172 (by decide +kernel) rfl
theorem w_173 : Cond.methodLink "HeartPins" 40 ⟨"HeartPins$Shelf", "<init>", "(LHeartPins$Family;I)V"⟩ ∈ wT := mT 173 (by decide +kernel) rfl
theorem w_191 : Cond.classLink "HeartPins" 50 "HeartPins$Notes" ∈ wT := mT 191 (by decide +kernel) rfl
theorem w_192 : Cond.instantiable "HeartPins$Notes" 6 ∈ wT := mT 192 (by decide +kernel) rfl
theorem w_219 : Cond.classLink "HeartPins" 57 "HeartPins$Matching" ∈ wT := mT 219 (by decide +kernel) rfl
theorem w_220 : Cond.instantiable "HeartPins$Matching" 4 ∈ wT := mT 220 (by decide +kernel) rfl
theorem w_239 : Cond.classLink "HeartPins" 64 "HeartPins$Sharing" ∈ wT := mT 239 (by decide +kernel) rfl
theorem w_240 : Cond.instantiable "HeartPins$Sharing" 8 ∈ wT := mT 240 (by decide +kernel) rfl
theorem w_271 : Cond.classLink "HeartPins" 71 "HeartPins$BadDays" ∈ wT := mT 271 (by decide +kernel) rfl
theorem w_272 : Cond.instantiable "HeartPins$BadDays" 4 ∈ wT := mT 272 (by decide +kernel) rfl
theorem w_273 : Cond.methodLink "HeartPins" 73 ⟨"HeartPins$BadDays", "<init>", "(LHeartPins$Family;)V"⟩ ∈ wT := mT 273 (by decide +kernel) rfl
theorem w_348 : Cond.methodLink "HeartPins" 94 ⟨"HeartPins", "lay", "()I"⟩ ∈ wT := mT 348 (by decide +kernel) rfl
theorem dX8_init_0 : decode cX8_init 0 = .ok (.aload_n 0, 1) := by decide +kernel
theorem dX8_init_1 : decode cX8_init 1 = .ok (.invokespecial 3, 3) := by decide +kernel
theorem dX8_init_4 : decode cX8_init 4 = .ok (.aload_n 0, 1) := by decide +kernel
theorem dX8_init_5 : decode cX8_init 5 = .ok (.new 9, 3) := by decide +kernel
theorem dX8_init_8 : decode cX8_init 8 = .ok (.dup, 1) := by decide +kernel
theorem dX8_init_9 : decode cX8_init 9 = .ok (.invokespecial 11, 3) := by decide +kernel
theorem dX8_init_12 : decode cX8_init 12 = .ok (.putfield 12, 3) := by decide +kernel
theorem dX8_init_15 : decode cX8_init 15 = .ok (.aload_n 0, 1) := by decide +kernel
theorem dX8_init_16 : decode cX8_init 16 = .ok (.new 16, 3) := by decide +kernel
theorem dX8_init_19 : decode cX8_init 19 = .ok (.dup, 1) := by decide +kernel
theorem dX8_init_20 : decode cX8_init 20 = .ok (.invokespecial 18, 3) := by decide +kernel
theorem dX8_init_23 : decode cX8_init 23 = .ok (.putfield 19, 3) := by decide +kernel
theorem dX8_init_26 : decode cX8_init 26 = .ok (.aload_n 0, 1) := by decide +kernel
theorem dX8_init_27 : decode cX8_init 27 = .ok (.new 16, 3) := by decide +kernel
theorem dX8_init_30 : decode cX8_init 30 = .ok (.dup, 1) := by decide +kernel
theorem dX8_init_31 : decode cX8_init 31 = .ok (.invokespecial 18, 3) := by decide +kernel
theorem dX8_init_34 : decode cX8_init 34 = .ok (.putfield 23, 3) := by decide +kernel
theorem dX8_init_37 : decode cX8_init 37 = .ok (.aload_n 0, 1) := by decide +kernel
theorem dX8_init_38 : decode cX8_init 38 = .ok (.new 26, 3) := by decide +kernel
theorem dX8_init_41 : decode cX8_init 41 = .ok (.dup, 1) := by decide +kernel
theorem dX8_init_42 : decode cX8_init 42 = .ok (.aload_n 0, 1) := by decide +kernel
theorem dX8_init_43 : decode cX8_init 43 = .ok (.getfield 19, 3) := by decide +kernel
theorem dX8_init_46 : decode cX8_init 46 = .ok (.invokespecial 28, 3) := by decide +kernel
theorem dX8_init_49 : decode cX8_init 49 = .ok (.putfield 31, 3) := by decide +kernel
theorem dX8_init_52 : decode cX8_init 52 = .ok (.aload_n 0, 1) := by decide +kernel
theorem dX8_init_53 : decode cX8_init 53 = .ok (.new 26, 3) := by decide +kernel
theorem dX8_init_56 : decode cX8_init 56 = .ok (.dup, 1) := by decide +kernel
theorem dX8_init_57 : decode cX8_init 57 = .ok (.aload_n 0, 1) := by decide +kernel
theorem dX8_init_58 : decode cX8_init 58 = .ok (.getfield 19, 3) := by decide +kernel
theorem dX8_init_61 : decode cX8_init 61 = .ok (.invokespecial 28, 3) := by decide +kernel
theorem dX8_init_64 : decode cX8_init 64 = .ok (.putfield 35, 3) := by decide +kernel
theorem dX8_init_67 : decode cX8_init 67 = .ok (.aload_n 0, 1) := by decide +kernel
theorem dX8_init_68 : decode cX8_init 68 = .ok (.new 38, 3) := by decide +kernel
theorem dX8_init_71 : decode cX8_init 71 = .ok (.dup, 1) := by decide +kernel
theorem dX8_init_72 : decode cX8_init 72 = .ok (.aload_n 0, 1) := by decide +kernel
theorem dX8_init_73 : decode cX8_init 73 = .ok (.getfield 19, 3) := by decide +kernel
theorem dX8_init_76 : decode cX8_init 76 = .ok (.bipush 8, 2) := by decide +kernel
theorem dX8_init_78 : decode cX8_init 78 = .ok (.invokespecial 40, 3) := by decide +kernel
theorem dX8_init_81 : decode cX8_init 81 = .ok (.putfield 43, 3) := by decide +kernel
theorem dX8_init_84 : decode cX8_init 84 = .ok (.aload_n 0, 1) := by decide +kernel
theorem dX8_init_85 : decode cX8_init 85 = .ok (.new 38, 3) := by decide +kernel
theorem dX8_init_88 : decode cX8_init 88 = .ok (.dup, 1) := by decide +kernel
theorem dX8_init_89 : decode cX8_init 89 = .ok (.aload_n 0, 1) := by decide +kernel
theorem dX8_init_90 : decode cX8_init 90 = .ok (.getfield 19, 3) := by decide +kernel
theorem dX8_init_93 : decode cX8_init 93 = .ok (.iconst 2, 1) := by decide +kernel
theorem dX8_init_94 : decode cX8_init 94 = .ok (.invokespecial 40, 3) := by decide +kernel
theorem dX8_init_97 : decode cX8_init 97 = .ok (.putfield 47, 3) := by decide +kernel
theorem dX8_init_100 : decode cX8_init 100 = .ok (.aload_n 0, 1) := by decide +kernel
theorem dX8_init_101 : decode cX8_init 101 = .ok (.new 50, 3) := by decide +kernel
theorem dX8_init_104 : decode cX8_init 104 = .ok (.dup, 1) := by decide +kernel
theorem dX8_init_105 : decode cX8_init 105 = .ok (.invokespecial 52, 3) := by decide +kernel
theorem dX8_init_108 : decode cX8_init 108 = .ok (.putfield 53, 3) := by decide +kernel
theorem dX8_init_111 : decode cX8_init 111 = .ok (.aload_n 0, 1) := by decide +kernel
theorem dX8_init_112 : decode cX8_init 112 = .ok (.new 57, 3) := by decide +kernel
theorem dX8_init_115 : decode cX8_init 115 = .ok (.dup, 1) := by decide +kernel
theorem dX8_init_116 : decode cX8_init 116 = .ok (.invokespecial 59, 3) := by decide +kernel
theorem dX8_init_119 : decode cX8_init 119 = .ok (.putfield 60, 3) := by decide +kernel
theorem dX8_init_122 : decode cX8_init 122 = .ok (.aload_n 0, 1) := by decide +kernel
theorem dX8_init_123 : decode cX8_init 123 = .ok (.new 64, 3) := by decide +kernel
theorem dX8_init_126 : decode cX8_init 126 = .ok (.dup, 1) := by decide +kernel
theorem dX8_init_127 : decode cX8_init 127 = .ok (.invokespecial 66, 3) := by decide +kernel
theorem dX8_init_130 : decode cX8_init 130 = .ok (.putfield 67, 3) := by decide +kernel
theorem dX8_init_133 : decode cX8_init 133 = .ok (.aload_n 0, 1) := by decide +kernel
theorem dX8_init_134 : decode cX8_init 134 = .ok (.new 71, 3) := by decide +kernel
theorem dX8_init_137 : decode cX8_init 137 = .ok (.dup, 1) := by decide +kernel
theorem dX8_init_138 : decode cX8_init 138 = .ok (.aload_n 0, 1) := by decide +kernel
theorem dX8_init_139 : decode cX8_init 139 = .ok (.getfield 19, 3) := by decide +kernel
theorem dX8_init_142 : decode cX8_init 142 = .ok (.invokespecial 73, 3) := by decide +kernel
theorem dX8_init_145 : decode cX8_init 145 = .ok (.putfield 74, 3) := by decide +kernel
theorem dX8_init_148 : decode cX8_init 148 = .ok (.iconst 0, 1) := by decide +kernel
theorem dX8_init_149 : decode cX8_init 149 = .ok (.istore_n 1, 1) := by decide +kernel
theorem dX8_init_150 : decode cX8_init 150 = .ok (.iload_n 1, 1) := by decide +kernel
theorem dX8_init_151 : decode cX8_init 151 = .ok (.ldc 78, 2) := by decide +kernel
theorem dX8_init_153 : decode cX8_init 153 = .ok (.invokevirtual 80, 3) := by decide +kernel
theorem dX8_init_156 : decode cX8_init 156 = .ok (.if_icmp .ge 23, 3) := by decide +kernel
theorem dX8_init_159 : decode cX8_init 159 = .ok (.aload_n 0, 1) := by decide +kernel
theorem dX8_init_160 : decode cX8_init 160 = .ok (.getfield 12, 3) := by decide +kernel
theorem dX8_init_163 : decode cX8_init 163 = .ok (.ldc 78, 2) := by decide +kernel
theorem dX8_init_165 : decode cX8_init 165 = .ok (.iload_n 1, 1) := by decide +kernel
theorem dX8_init_166 : decode cX8_init 166 = .ok (.invokevirtual 86, 3) := by decide +kernel
theorem dX8_init_169 : decode cX8_init 169 = .ok (.invokevirtual 90, 3) := by decide +kernel
theorem dX8_init_172 : decode cX8_init 172 = .ok (.pop, 1) := by decide +kernel
theorem dX8_init_173 : decode cX8_init 173 = .ok (.iinc 1 1, 3) := by decide +kernel
theorem dX8_init_176 : decode cX8_init 176 = .ok (.goto (-26), 3) := by decide +kernel
theorem dX8_init_179 : decode cX8_init 179 = .ok (.aload_n 0, 1) := by decide +kernel
theorem dX8_init_180 : decode cX8_init 180 = .ok (.invokevirtual 94, 3) := by decide +kernel
theorem dX8_init_183 : decode cX8_init 183 = .ok (.pop, 1) := by decide +kernel
theorem dX8_init_184 : decode cX8_init 184 = .ok (.aload_n 0, 1) := by decide +kernel
theorem dX8_init_185 : decode cX8_init 185 = .ok (.getfield 12, 3) := by decide +kernel
theorem dX8_init_188 : decode cX8_init 188 = .ok (.invokevirtual 97, 3) := by decide +kernel
theorem dX8_init_191 : decode cX8_init 191 = .ok (.return_, 1) := by decide +kernel
def f_H_init_150 (N nx : Nat) (P : Ft) (a0 : Nat) (rec150 : Dt → Int32 → Option (Dt × Ft)) (D : Dt) (i1 : Int32) : Option (Dt × Ft) :=
  if 79 ≤ i1 then
    if kd (nx + 96) a0 = 8 then
    (f_H_lay N (nx + 96) D P a0).bind fun z55 =>
    nn (P a0 0) fun q57 =>
    if kd (nx + 96) q57 = 2 then
    (f_T_clear N (nx + 96) z55.2 P q57).bind fun z58 =>
    some (z58, P)
    else none
    else none
  else
    if kd (nx + 96) a0 = 8 then
    nn (P a0 0) fun q61 =>
    if ¬ i1 < 0 ∧ i1 < 79 then
    if kd (nx + 96) q61 = 2 then
    (f_T_add N (nx + 96) D P q61 (((FB i1.toNatClampNeg &&& 255).toUInt32 % 65536).toInt32)).bind fun z63 =>
    rec150 z63.2 (i1 + 1)
    else none
    else none
    else none
def f_H_init (N nx : Nat) (D : Dt) (P : Ft) (a0 : Nat) : Option (Dt × Ft) :=
  if kd nx a0 = 8 then
  if SH nx = 2 then
  pas (zD D nx) fun D1 =>
  pas (zP P nx) fun P1 =>
  (f_T_init N (nx + 1) D1 P1 nx).bind fun z2 =>
  if kd (nx + 3) a0 = 8 then
  pas (updF z2.2 a0 0 (some nx)) fun P4 =>
  if SH (nx + 3) = 1 then
  pas (zD z2.1 (nx + 3)) fun D5 =>
  pas (zP P4 (nx + 3)) fun P5 =>
  (f_F_init N (nx + 4) D5 P5 (nx + 3)).bind fun z6 =>
  if kd (nx + 8) a0 = 8 then
  pas (updF z6.2 a0 1 (some (nx + 3))) fun P8 =>
  if SH (nx + 8) = 1 then
  pas (zD z6.1 (nx + 8)) fun D9 =>
  pas (zP P8 (nx + 8)) fun P9 =>
  (f_F_init N (nx + 9) D9 P9 (nx + 8)).bind fun z10 =>
  if kd (nx + 13) a0 = 8 then
  pas (updF z10.2 a0 2 (some (nx + 8))) fun P12 =>
  if SH (nx + 13) = 7 then
  pas (zD z10.1 (nx + 13)) fun D13 =>
  pas (zP P12 (nx + 13)) fun P13 =>
  if kd (nx + 14) a0 = 8 then
  nn (P13 a0 1) fun q15 =>
  (f_C_init N (nx + 14) D13 P13 (nx + 13) q15).bind fun z16 =>
  if kd (nx + 16) a0 = 8 then
  pas (updF z16.2 a0 3 (some (nx + 13))) fun P18 =>
  if SH (nx + 16) = 7 then
  pas (zD z16.1 (nx + 16)) fun D19 =>
  pas (zP P18 (nx + 16)) fun P19 =>
  if kd (nx + 17) a0 = 8 then
  nn (P19 a0 1) fun q21 =>
  (f_C_init N (nx + 17) D19 P19 (nx + 16) q21).bind fun z22 =>
  if kd (nx + 19) a0 = 8 then
  pas (updF z22.2 a0 4 (some (nx + 16))) fun P24 =>
  if SH (nx + 19) = 6 then
  pas (zD z22.1 (nx + 19)) fun D25 =>
  pas (zP P24 (nx + 19)) fun P25 =>
  if kd (nx + 20) a0 = 8 then
  nn (P25 a0 1) fun q27 =>
  (f_S_init8 N (nx + 20) D25 P25 (nx + 19) q27).bind fun z28 =>
  if kd (nx + 45) a0 = 8 then
  pas (updF z28.2 a0 5 (some (nx + 19))) fun P30 =>
  if SH (nx + 45) = 6 then
  pas (zD z28.1 (nx + 45)) fun D31 =>
  pas (zP P30 (nx + 45)) fun P31 =>
  if kd (nx + 46) a0 = 8 then
  nn (P31 a0 1) fun q33 =>
  (f_S_init2 N (nx + 46) D31 P31 (nx + 45) q33).bind fun z34 =>
  if kd (nx + 53) a0 = 8 then
  pas (updF z34.2 a0 6 (some (nx + 45))) fun P36 =>
  if SH (nx + 53) = 4 then
  pas (zD z34.1 (nx + 53)) fun D37 =>
  pas (zP P36 (nx + 53)) fun P37 =>
  (f_N_init N (nx + 54) D37 P37 (nx + 53)).bind fun z38 =>
  if kd (nx + 58) a0 = 8 then
  pas (updF z38.2 a0 7 (some (nx + 53))) fun P40 =>
  if SH (nx + 58) = 3 then
  pas (zD z38.1 (nx + 58)) fun D41 =>
  pas (zP P40 (nx + 58)) fun P41 =>
  (f_G_init N (nx + 59) D41 P41 (nx + 58)).bind fun z42 =>
  if kd (nx + 61) a0 = 8 then
  pas (updF z42.2 a0 8 (some (nx + 58))) fun P44 =>
  if SH (nx + 61) = 5 then
  pas (zD z42.1 (nx + 61)) fun D45 =>
  pas (zP P44 (nx + 61)) fun P45 =>
  (f_Z_init N (nx + 62) D45 P45 (nx + 61)).bind fun z46 =>
  if kd (nx + 67) a0 = 8 then
  pas (updF z46.2 a0 9 (some (nx + 61))) fun P48 =>
  if SH (nx + 67) = 0 then
  pas (zD z46.1 (nx + 67)) fun D49 =>
  pas (zP P48 (nx + 67)) fun P49 =>
  if kd (nx + 68) a0 = 8 then
  nn (P49 a0 1) fun q51 =>
  (f_B_init N (nx + 68) D49 P49 (nx + 67) q51).bind fun z52 =>
  if kd (nx + 96) a0 = 8 then
  pas (updF z52.2 a0 10 (some (nx + 67))) fun P54 =>
  wk2 N (f_H_init_150 N nx P54 a0) z52.1 0
  else none
  else none
  else none
  else none
  else none
  else none
  else none
  else none
  else none
  else none
  else none
  else none
  else none
  else none
  else none
  else none
  else none
  else none
  else none
  else none
  else none
  else none
  else none
  else none
  else none
  else none
  else none
  else none
theorem m_H_init : MI yX8_init cX8_init 2 0 := ⟨mT 74 (by decide +kernel) rfl, mT 73 (by decide +kernel) rfl, rfl, mT 54 (by decide +kernel) rfl, by decide +kernel, by decide +kernel, by decide +kernel⟩
set_option maxHeartbeats 4000000 in
set_option maxRecDepth 100000 in
theorem c_H_init (l : Launch) (cx : Cx) (nx N : Nat) (D : Dt) (P : Ft) (a0 : Nat) (z : Dt × Ft) (h : f_H_init N nx D P a0 = some z) (sa sv : Nat) : Met l yX8_init (.code yX8_init cX8_init 2 none :: wT) (rmc 8 96 854) (va_Pc [.ref (cx.2.2 + a0)] (fun U => Wd cx D P nx U ∧ SF cx sa sv U)) (Qx cx none z.1 z.2 (nx + 96)) 96 854 (AA cx) := by
  refine x_metH (by decide) (Nat.le_of_ble_eq_true rfl) ?_
  intro p e s m args below meth c X hF
  have X : XC p s m args meth c cx cX8_init 2 none "HeartPins" "<init>" := X
  refine XW.sub (lv' := [(0, .ref (cx.2.2 + a0))]) [0] rfl ?_
  unfold f_H_init at h
  obtain ⟨hk0, h⟩ := grd h
  have hL150 : ∀ (P : Ft) (n : Nat) (D : Dt) (i1 : Int32), wk2 n (f_H_init_150 N nx P a0) D i1 = some z → XW p l e (rmc 8 96 854) s m args below meth c (MQ below (Qx cx none z.1 z.2 (nx + 96)) args s 96 854 (AA cx)) cx 2 D P (nx + 96) 96 854 150 [(0, .ref (cx.2.2 + a0)), (1, .int i1)] [] := by
    intro P n
    induction n with
    | zero => intro D i1 h; exact (nonz h).elim
    | succ n ih150 =>
      intro D i1 h
      have h : f_H_init_150 N nx P a0 (wk2 n (f_H_init_150 N nx P a0)) D i1 = some z := h
      generalize wk2 n (f_H_init_150 N nx P a0) = rec150 at ih150 h
      unfold f_H_init_150 at h
      refine x_iload_n (pc := 150) X dX8_init_150 (i := 1) rfl 1 rfl ?_
      refine x_ldcS (pc := 151) X dX8_init_151 hF ?_
      refine x_strlen (pc := 153) X dX8_init_153 hF wH80 ⟨by decide, by decide⟩ ⟨by decide, by decide⟩ (Nat.le_of_ble_eq_true rfl) ?_
      refine x_icmp_ge (tgt := 179) (pc := 156) X dX8_init_156 (by decide) (fun c65 => ?_) (fun c65 => ?_)
      · have h := ite_t c65 h
        refine x_aload_n (pc := 179) X dX8_init_179 (i := 0) rfl 0 rfl ?_
        obtain ⟨k56, h⟩ := grd h
        obtain ⟨z55, e55, h⟩ := bnds h
        refine x_callV (pc := 180) (As := []) (st := []) (st' := [.int z55.1]) X (c_H_lay l cx (nx + 96) N D P _ z55 e55) dX8_init_180 w_348 m_H_lay rfl k56 (ci := 8) rfl rfl ⟨by decide, by decide⟩ ⟨by decide, by decide⟩ rfl (Nat.le_of_ble_eq_true rfl) rfl ?_
        refine x_pop (pc := 183) X dX8_init_183 rfl ?_
        refine x_aload_n (pc := 184) X dX8_init_184 (i := 0) rfl 0 rfl ?_
        obtain ⟨q57, e57, h⟩ := nns h
        refine x_getr (ci := 8) (k := 0) (n := 11) (C := RX8) (T := TX8) (pc := 185) X dX8_init_185 k56 rfl (by decide) w_421 rfl e57 ?_
        obtain ⟨k59, h⟩ := grd h
        obtain ⟨z58, e58, h⟩ := bnds h
        refine x_callV (pc := 188) (As := []) (st := []) (st' := []) X (c_T_clear l cx (nx + 96) N z55.2 P _ z58 e58) dX8_init_188 w_417 m_T_clear rfl k59 (ci := 2) rfl rfl ⟨by decide, by decide⟩ ⟨by decide, by decide⟩ rfl (Nat.le_of_ble_eq_true rfl) rfl ?_
        obtain rfl := Option.some.inj h
        exact x_vret (pc := 191) X dX8_init_191
      · have h := ite_f c65 h
        refine x_aload_n (pc := 159) X dX8_init_159 (i := 0) rfl 0 rfl ?_
        obtain ⟨k60, h⟩ := grd h
        obtain ⟨q61, e61, h⟩ := nns h
        refine x_getr (ci := 8) (k := 0) (n := 11) (C := RX8) (T := TX8) (pc := 160) X dX8_init_160 k60 rfl (by decide) w_421 rfl e61 ?_
        refine x_ldcS (pc := 163) X dX8_init_163 hF ?_
        refine x_iload_n (pc := 165) X dX8_init_165 (i := 1) rfl 1 rfl ?_
        obtain ⟨k62, h⟩ := grd h
        refine x_strchr (pc := 166) X dX8_init_166 hF wH86 k62 ⟨by decide, by decide⟩ ⟨by decide, by decide⟩ (Nat.le_of_ble_eq_true rfl) ?_
        obtain ⟨k64, h⟩ := grd h
        obtain ⟨z63, e63, h⟩ := bnds h
        refine x_callV (pc := 169) (As := [.int (((FB i1.toNatClampNeg &&& 255).toUInt32 % 65536).toInt32)]) (st := []) (st' := [.int z63.1]) X (c_T_add l cx (nx + 96) N D P _ _ z63 e63) dX8_init_169 w_341 m_T_add rfl k64 (ci := 2) rfl rfl ⟨by decide, by decide⟩ ⟨by decide, by decide⟩ rfl (Nat.le_of_ble_eq_true rfl) rfl ?_
        refine x_pop (pc := 172) X dX8_init_172 rfl ?_
        refine x_iinc (v := i1 + 1) (lv' := [(1, .int (i1 + 1)), (0, .ref (cx.2.2 + a0))]) (pc := 173) X dX8_init_173 1 rfl rfl (by decide) rfl ?_
        refine x_goto (tgt := 150) (pc := 176) X dX8_init_176 (by decide) ?_
        exact XW.sub [1, 0] rfl (ih150 _ _ h)
  refine x_aload_n (pc := 0) X dX8_init_0 (i := 0) rfl 0 rfl ?_
  refine x_objInit (pc := 1) X dX8_init_1 w_75 w_oi1 w_oi2 ⟨by decide, by decide⟩ (Nat.le_of_ble_eq_true rfl) ?_
  refine x_aload_n (pc := 4) X dX8_init_4 (i := 0) rfl 0 rfl ?_
  obtain ⟨k1, h⟩ := grd h
  obtain ⟨D1, w1, h⟩ := pass h
  obtain ⟨P1, u1, h⟩ := pass h
  refine x_new (ci := 2) (n := 4) (C := RX2) (T := TX2) (D' := D1) (P' := P1) (pc := 5) X dX8_init_5 k1 rfl w_78 w_79 w_55 w1 u1 dfl2 ⟨by decide, by decide⟩ ?_
  refine XW.ren (nx' := nx + 1) (c' := 1) (s' := 4) rfl rfl rfl ?_
  refine x_dup (pc := 8) X dX8_init_8 rfl ?_
  obtain ⟨z2, e2, h⟩ := bnds h
  refine x_callIN (pc := 9) (As := []) (st := [.ref (cx.2.2 + nx), .ref (cx.2.2 + a0)]) (host := "HeartPins") X (c_T_init l cx (nx + 1) N D1 P1 _ z2 e2) dX8_init_9 (List.mem_of_getElem? (i := 0) rfl) m_T_init rfl ⟨by decide, by decide⟩ ⟨by decide, by decide⟩ rfl (Nat.le_of_ble_eq_true rfl) ?_
  refine XW.ren (nx' := nx + 3) (c' := 3) (s' := 207) rfl rfl rfl ?_
  obtain ⟨k3, h⟩ := grd h
  obtain ⟨P4, w4, h⟩ := pass h
  refine x_putr (ci := 8) (k := 0) (n := 11) (C := RX8) (T := TX8) (ty := .object "HeartPins$Letters") (P' := P4) (pc := 12) X dX8_init_12 k3 rfl (by decide) w_421 rfl (by decide +kernel) (Or.inl ⟨_, rfl⟩) rfl w4 ?_
  refine x_aload_n (pc := 15) X dX8_init_15 (i := 0) rfl 0 rfl ?_
  obtain ⟨k5, h⟩ := grd h
  obtain ⟨D5, w5, h⟩ := pass h
  obtain ⟨P5, u5, h⟩ := pass h
  refine x_new (ci := 1) (n := 9) (C := RX1) (T := TX1) (D' := D5) (P' := P5) (pc := 16) X dX8_init_16 k5 rfl w_100 w_101 w_56 w5 u5 dfl1 ⟨by decide, by decide⟩ ?_
  refine XW.ren (nx' := nx + 4) (c' := 4) (s' := 216) rfl rfl rfl ?_
  refine x_dup (pc := 19) X dX8_init_19 rfl ?_
  obtain ⟨z6, e6, h⟩ := bnds h
  refine x_callIN (pc := 20) (As := []) (st := [.ref (cx.2.2 + (nx + 3)), .ref (cx.2.2 + a0)]) (host := "HeartPins") X (c_F_init l cx (nx + 4) N D5 P5 _ z6 e6) dX8_init_20 (List.mem_of_getElem? (i := 1) rfl) m_F_init rfl ⟨by decide, by decide⟩ ⟨by decide, by decide⟩ rfl (Nat.le_of_ble_eq_true rfl) ?_
  refine XW.ren (nx' := nx + 8) (c' := 8) (s' := 245) rfl rfl rfl ?_
  obtain ⟨k7, h⟩ := grd h
  obtain ⟨P8, w8, h⟩ := pass h
  refine x_putr (ci := 8) (k := 1) (n := 11) (C := RX8) (T := TX8) (ty := .object "HeartPins$Family") (P' := P8) (pc := 23) X dX8_init_23 k7 rfl (by decide) w_422 rfl (by decide +kernel) (Or.inl ⟨_, rfl⟩) rfl w8 ?_
  refine x_aload_n (pc := 26) X dX8_init_26 (i := 0) rfl 0 rfl ?_
  obtain ⟨k9, h⟩ := grd h
  obtain ⟨D9, w9, h⟩ := pass h
  obtain ⟨P9, u9, h⟩ := pass h
  refine x_new (ci := 1) (n := 9) (C := RX1) (T := TX1) (D' := D9) (P' := P9) (pc := 27) X dX8_init_27 k9 rfl w_100 w_101 w_56 w9 u9 dfl1 ⟨by decide, by decide⟩ ?_
  refine XW.ren (nx' := nx + 9) (c' := 9) (s' := 254) rfl rfl rfl ?_
  refine x_dup (pc := 30) X dX8_init_30 rfl ?_
  obtain ⟨z10, e10, h⟩ := bnds h
  refine x_callIN (pc := 31) (As := []) (st := [.ref (cx.2.2 + (nx + 8)), .ref (cx.2.2 + a0)]) (host := "HeartPins") X (c_F_init l cx (nx + 9) N D9 P9 _ z10 e10) dX8_init_31 (List.mem_of_getElem? (i := 1) rfl) m_F_init rfl ⟨by decide, by decide⟩ ⟨by decide, by decide⟩ rfl (Nat.le_of_ble_eq_true rfl) ?_
  refine XW.ren (nx' := nx + 13) (c' := 13) (s' := 283) rfl rfl rfl ?_
  obtain ⟨k11, h⟩ := grd h
  obtain ⟨P12, w12, h⟩ := pass h
  refine x_putr (ci := 8) (k := 2) (n := 11) (C := RX8) (T := TX8) (ty := .object "HeartPins$Family") (P' := P12) (pc := 34) X dX8_init_34 k11 rfl (by decide) w_423 rfl (by decide +kernel) (Or.inl ⟨_, rfl⟩) rfl w12 ?_
  refine x_aload_n (pc := 37) X dX8_init_37 (i := 0) rfl 0 rfl ?_
  obtain ⟨k13, h⟩ := grd h
  obtain ⟨D13, w13, h⟩ := pass h
  obtain ⟨P13, u13, h⟩ := pass h
  refine x_new (ci := 7) (n := 5) (C := RX7) (T := TX7) (D' := D13) (P' := P13) (pc := 38) X dX8_init_38 k13 rfl w_145 w_146 w_57 w13 u13 dfl7 ⟨by decide, by decide⟩ ?_
  refine XW.ren (nx' := nx + 14) (c' := 14) (s' := 288) rfl rfl rfl ?_
  refine x_dup (pc := 41) X dX8_init_41 rfl ?_
  refine x_aload_n (pc := 42) X dX8_init_42 (i := 0) rfl 0 rfl ?_
  obtain ⟨k14, h⟩ := grd h
  obtain ⟨q15, e15, h⟩ := nns h
  refine x_getr (ci := 8) (k := 1) (n := 11) (C := RX8) (T := TX8) (pc := 43) X dX8_init_43 k14 rfl (by decide) w_422 rfl e15 ?_
  obtain ⟨z16, e16, h⟩ := bnds h
  refine x_callI (pc := 46) (As := [.ref (cx.2.2 + q15)]) (st := [.ref (cx.2.2 + (nx + 13)), .ref (cx.2.2 + a0)]) X (c_C_init l cx (nx + 14) N D13 P13 _ _ z16 e16) dX8_init_46 w_147 m_C_init rfl ⟨by decide, by decide⟩ ⟨by decide, by decide⟩ rfl (Nat.le_of_ble_eq_true rfl) ?_
  refine XW.ren (nx' := nx + 16) (c' := 16) (s' := 304) rfl rfl rfl ?_
  obtain ⟨k17, h⟩ := grd h
  obtain ⟨P18, w18, h⟩ := pass h
  refine x_putr (ci := 8) (k := 3) (n := 11) (C := RX8) (T := TX8) (ty := .object "HeartPins$Standing") (P' := P18) (pc := 49) X dX8_init_49 k17 rfl (by decide) w_424 rfl (by decide +kernel) (Or.inl ⟨_, rfl⟩) rfl w18 ?_
  refine x_aload_n (pc := 52) X dX8_init_52 (i := 0) rfl 0 rfl ?_
  obtain ⟨k19, h⟩ := grd h
  obtain ⟨D19, w19, h⟩ := pass h
  obtain ⟨P19, u19, h⟩ := pass h
  refine x_new (ci := 7) (n := 5) (C := RX7) (T := TX7) (D' := D19) (P' := P19) (pc := 53) X dX8_init_53 k19 rfl w_145 w_146 w_57 w19 u19 dfl7 ⟨by decide, by decide⟩ ?_
  refine XW.ren (nx' := nx + 17) (c' := 17) (s' := 309) rfl rfl rfl ?_
  refine x_dup (pc := 56) X dX8_init_56 rfl ?_
  refine x_aload_n (pc := 57) X dX8_init_57 (i := 0) rfl 0 rfl ?_
  obtain ⟨k20, h⟩ := grd h
  obtain ⟨q21, e21, h⟩ := nns h
  refine x_getr (ci := 8) (k := 1) (n := 11) (C := RX8) (T := TX8) (pc := 58) X dX8_init_58 k20 rfl (by decide) w_422 rfl e21 ?_
  obtain ⟨z22, e22, h⟩ := bnds h
  refine x_callI (pc := 61) (As := [.ref (cx.2.2 + q21)]) (st := [.ref (cx.2.2 + (nx + 16)), .ref (cx.2.2 + a0)]) X (c_C_init l cx (nx + 17) N D19 P19 _ _ z22 e22) dX8_init_61 w_147 m_C_init rfl ⟨by decide, by decide⟩ ⟨by decide, by decide⟩ rfl (Nat.le_of_ble_eq_true rfl) ?_
  refine XW.ren (nx' := nx + 19) (c' := 19) (s' := 325) rfl rfl rfl ?_
  obtain ⟨k23, h⟩ := grd h
  obtain ⟨P24, w24, h⟩ := pass h
  refine x_putr (ci := 8) (k := 4) (n := 11) (C := RX8) (T := TX8) (ty := .object "HeartPins$Standing") (P' := P24) (pc := 64) X dX8_init_64 k23 rfl (by decide) w_425 rfl (by decide +kernel) (Or.inl ⟨_, rfl⟩) rfl w24 ?_
  refine x_aload_n (pc := 67) X dX8_init_67 (i := 0) rfl 0 rfl ?_
  obtain ⟨k25, h⟩ := grd h
  obtain ⟨D25, w25, h⟩ := pass h
  obtain ⟨P25, u25, h⟩ := pass h
  refine x_new (ci := 6) (n := 2) (C := RX6) (T := TX6) (D' := D25) (P' := P25) (pc := 68) X dX8_init_68 k25 rfl w_171 w_172 w_58 w25 u25 dfl6 ⟨by decide, by decide⟩ ?_
  refine XW.ren (nx' := nx + 20) (c' := 20) (s' := 327) rfl rfl rfl ?_
  refine x_dup (pc := 71) X dX8_init_71 rfl ?_
  refine x_aload_n (pc := 72) X dX8_init_72 (i := 0) rfl 0 rfl ?_
  obtain ⟨k26, h⟩ := grd h
  obtain ⟨q27, e27, h⟩ := nns h
  refine x_getr (ci := 8) (k := 1) (n := 11) (C := RX8) (T := TX8) (pc := 73) X dX8_init_73 k26 rfl (by decide) w_422 rfl e27 ?_
  refine x_bipush (v := 8) (pc := 76) X dX8_init_76 (by decide) ?_
  obtain ⟨z28, e28, h⟩ := bnds h
  refine x_callI (pc := 78) (As := [.ref (cx.2.2 + q27), .int 8]) (st := [.ref (cx.2.2 + (nx + 19)), .ref (cx.2.2 + a0)]) X (c_S_init8 l cx (nx + 20) N D25 P25 _ _ z28 e28) dX8_init_78 w_173 m_S_init8 rfl ⟨by decide, by decide⟩ ⟨by decide, by decide⟩ rfl (Nat.le_of_ble_eq_true rfl) ?_
  refine XW.ren (nx' := nx + 45) (c' := 45) (s' := 503) rfl rfl rfl ?_
  obtain ⟨k29, h⟩ := grd h
  obtain ⟨P30, w30, h⟩ := pass h
  refine x_putr (ci := 8) (k := 5) (n := 11) (C := RX8) (T := TX8) (ty := .object "HeartPins$Shelf") (P' := P30) (pc := 81) X dX8_init_81 k29 rfl (by decide) w_426 rfl (by decide +kernel) (Or.inl ⟨_, rfl⟩) rfl w30 ?_
  refine x_aload_n (pc := 84) X dX8_init_84 (i := 0) rfl 0 rfl ?_
  obtain ⟨k31, h⟩ := grd h
  obtain ⟨D31, w31, h⟩ := pass h
  obtain ⟨P31, u31, h⟩ := pass h
  refine x_new (ci := 6) (n := 2) (C := RX6) (T := TX6) (D' := D31) (P' := P31) (pc := 85) X dX8_init_85 k31 rfl w_171 w_172 w_58 w31 u31 dfl6 ⟨by decide, by decide⟩ ?_
  refine XW.ren (nx' := nx + 46) (c' := 46) (s' := 505) rfl rfl rfl ?_
  refine x_dup (pc := 88) X dX8_init_88 rfl ?_
  refine x_aload_n (pc := 89) X dX8_init_89 (i := 0) rfl 0 rfl ?_
  obtain ⟨k32, h⟩ := grd h
  obtain ⟨q33, e33, h⟩ := nns h
  refine x_getr (ci := 8) (k := 1) (n := 11) (C := RX8) (T := TX8) (pc := 90) X dX8_init_90 k32 rfl (by decide) w_422 rfl e33 ?_
  refine x_iconst (v := 2) (pc := 93) X dX8_init_93 (by decide) ?_
  obtain ⟨z34, e34, h⟩ := bnds h
  refine x_callI (pc := 94) (As := [.ref (cx.2.2 + q33), .int 2]) (st := [.ref (cx.2.2 + (nx + 45)), .ref (cx.2.2 + a0)]) X (c_S_init2 l cx (nx + 46) N D31 P31 _ _ z34 e34) dX8_init_94 w_173 m_S_init2 rfl ⟨by decide, by decide⟩ ⟨by decide, by decide⟩ rfl (Nat.le_of_ble_eq_true rfl) ?_
  refine XW.ren (nx' := nx + 53) (c' := 53) (s' := 549) rfl rfl rfl ?_
  obtain ⟨k35, h⟩ := grd h
  obtain ⟨P36, w36, h⟩ := pass h
  refine x_putr (ci := 8) (k := 6) (n := 11) (C := RX8) (T := TX8) (ty := .object "HeartPins$Shelf") (P' := P36) (pc := 97) X dX8_init_97 k35 rfl (by decide) w_427 rfl (by decide +kernel) (Or.inl ⟨_, rfl⟩) rfl w36 ?_
  refine x_aload_n (pc := 100) X dX8_init_100 (i := 0) rfl 0 rfl ?_
  obtain ⟨k37, h⟩ := grd h
  obtain ⟨D37, w37, h⟩ := pass h
  obtain ⟨P37, u37, h⟩ := pass h
  refine x_new (ci := 4) (n := 6) (C := RX4) (T := TX4) (D' := D37) (P' := P37) (pc := 101) X dX8_init_101 k37 rfl w_191 w_192 w_60 w37 u37 dfl4 ⟨by decide, by decide⟩ ?_
  refine XW.ren (nx' := nx + 54) (c' := 54) (s' := 555) rfl rfl rfl ?_
  refine x_dup (pc := 104) X dX8_init_104 rfl ?_
  obtain ⟨z38, e38, h⟩ := bnds h
  refine x_callIN (pc := 105) (As := []) (st := [.ref (cx.2.2 + (nx + 53)), .ref (cx.2.2 + a0)]) (host := "HeartPins") X (c_N_init l cx (nx + 54) N D37 P37 _ z38 e38) dX8_init_105 (List.mem_of_getElem? (i := 2) rfl) m_N_init rfl ⟨by decide, by decide⟩ ⟨by decide, by decide⟩ rfl (Nat.le_of_ble_eq_true rfl) ?_
  refine XW.ren (nx' := nx + 58) (c' := 58) (s' := 587) rfl rfl rfl ?_
  obtain ⟨k39, h⟩ := grd h
  obtain ⟨P40, w40, h⟩ := pass h
  refine x_putr (ci := 8) (k := 7) (n := 11) (C := RX8) (T := TX8) (ty := .object "HeartPins$Notes") (P' := P40) (pc := 108) X dX8_init_108 k39 rfl (by decide) w_428 rfl (by decide +kernel) (Or.inl ⟨_, rfl⟩) rfl w40 ?_
  refine x_aload_n (pc := 111) X dX8_init_111 (i := 0) rfl 0 rfl ?_
  obtain ⟨k41, h⟩ := grd h
  obtain ⟨D41, w41, h⟩ := pass h
  obtain ⟨P41, u41, h⟩ := pass h
  refine x_new (ci := 3) (n := 4) (C := RX3) (T := TX3) (D' := D41) (P' := P41) (pc := 112) X dX8_init_112 k41 rfl w_219 w_220 w_61 w41 u41 dfl3 ⟨by decide, by decide⟩ ?_
  refine XW.ren (nx' := nx + 59) (c' := 59) (s' := 591) rfl rfl rfl ?_
  refine x_dup (pc := 115) X dX8_init_115 rfl ?_
  obtain ⟨z42, e42, h⟩ := bnds h
  refine x_callIN (pc := 116) (As := []) (st := [.ref (cx.2.2 + (nx + 58)), .ref (cx.2.2 + a0)]) (host := "HeartPins") X (c_G_init l cx (nx + 59) N D41 P41 _ z42 e42) dX8_init_116 (List.mem_of_getElem? (i := 3) rfl) m_G_init rfl ⟨by decide, by decide⟩ ⟨by decide, by decide⟩ rfl (Nat.le_of_ble_eq_true rfl) ?_
  refine XW.ren (nx' := nx + 61) (c' := 61) (s' := 607) rfl rfl rfl ?_
  obtain ⟨k43, h⟩ := grd h
  obtain ⟨P44, w44, h⟩ := pass h
  refine x_putr (ci := 8) (k := 8) (n := 11) (C := RX8) (T := TX8) (ty := .object "HeartPins$Matching") (P' := P44) (pc := 119) X dX8_init_119 k43 rfl (by decide) w_429 rfl (by decide +kernel) (Or.inl ⟨_, rfl⟩) rfl w44 ?_
  refine x_aload_n (pc := 122) X dX8_init_122 (i := 0) rfl 0 rfl ?_
  obtain ⟨k45, h⟩ := grd h
  obtain ⟨D45, w45, h⟩ := pass h
  obtain ⟨P45, u45, h⟩ := pass h
  refine x_new (ci := 5) (n := 8) (C := RX5) (T := TX5) (D' := D45) (P' := P45) (pc := 123) X dX8_init_123 k45 rfl w_239 w_240 w_62 w45 u45 dfl5 ⟨by decide, by decide⟩ ?_
  refine XW.ren (nx' := nx + 62) (c' := 62) (s' := 615) rfl rfl rfl ?_
  refine x_dup (pc := 126) X dX8_init_126 rfl ?_
  obtain ⟨z46, e46, h⟩ := bnds h
  refine x_callIN (pc := 127) (As := []) (st := [.ref (cx.2.2 + (nx + 61)), .ref (cx.2.2 + a0)]) (host := "HeartPins") X (c_Z_init l cx (nx + 62) N D45 P45 _ z46 e46) dX8_init_127 (List.mem_of_getElem? (i := 4) rfl) m_Z_init rfl ⟨by decide, by decide⟩ ⟨by decide, by decide⟩ rfl (Nat.le_of_ble_eq_true rfl) ?_
  refine XW.ren (nx' := nx + 67) (c' := 67) (s' := 652) rfl rfl rfl ?_
  obtain ⟨k47, h⟩ := grd h
  obtain ⟨P48, w48, h⟩ := pass h
  refine x_putr (ci := 8) (k := 9) (n := 11) (C := RX8) (T := TX8) (ty := .object "HeartPins$Sharing") (P' := P48) (pc := 130) X dX8_init_130 k47 rfl (by decide) w_430 rfl (by decide +kernel) (Or.inl ⟨_, rfl⟩) rfl w48 ?_
  refine x_aload_n (pc := 133) X dX8_init_133 (i := 0) rfl 0 rfl ?_
  obtain ⟨k49, h⟩ := grd h
  obtain ⟨D49, w49, h⟩ := pass h
  obtain ⟨P49, u49, h⟩ := pass h
  refine x_new (ci := 0) (n := 4) (C := RX0) (T := TX0) (D' := D49) (P' := P49) (pc := 134) X dX8_init_134 k49 rfl w_271 w_272 w_63 w49 u49 dfl0 ⟨by decide, by decide⟩ ?_
  refine XW.ren (nx' := nx + 68) (c' := 68) (s' := 656) rfl rfl rfl ?_
  refine x_dup (pc := 137) X dX8_init_137 rfl ?_
  refine x_aload_n (pc := 138) X dX8_init_138 (i := 0) rfl 0 rfl ?_
  obtain ⟨k50, h⟩ := grd h
  obtain ⟨q51, e51, h⟩ := nns h
  refine x_getr (ci := 8) (k := 1) (n := 11) (C := RX8) (T := TX8) (pc := 139) X dX8_init_139 k50 rfl (by decide) w_422 rfl e51 ?_
  obtain ⟨z52, e52, h⟩ := bnds h
  refine x_callI (pc := 142) (As := [.ref (cx.2.2 + q51)]) (st := [.ref (cx.2.2 + (nx + 67)), .ref (cx.2.2 + a0)]) X (c_B_init l cx (nx + 68) N D49 P49 _ _ z52 e52) dX8_init_142 w_273 m_B_init rfl ⟨by decide, by decide⟩ ⟨by decide, by decide⟩ rfl (Nat.le_of_ble_eq_true rfl) ?_
  refine XW.ren (nx' := nx + 96) (c' := 96) (s' := 854) rfl rfl rfl ?_
  obtain ⟨k53, h⟩ := grd h
  obtain ⟨P54, w54, h⟩ := pass h
  refine x_putr (ci := 8) (k := 10) (n := 11) (C := RX8) (T := TX8) (ty := .object "HeartPins$BadDays") (P' := P54) (pc := 145) X dX8_init_145 k53 rfl (by decide) w_431 rfl (by decide +kernel) (Or.inl ⟨_, rfl⟩) rfl w54 ?_
  refine x_iconst (v := 0) (pc := 148) X dX8_init_148 (by decide) ?_
  refine x_istore_n (lv' := [(1, .int 0), (0, .ref (cx.2.2 + a0))]) (pc := 149) X dX8_init_149 (i := 1) rfl (by decide) rfl ?_
  exact XW.sub [1, 0] rfl (hL150 _ _ _ _ h)
