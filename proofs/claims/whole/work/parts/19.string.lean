/-! the String constant's length and charAt, as the JDK's code says them -/
def FTx : String := "p12;p20;p9;p15;t0,0,5;t0,1,3;t1,2,9;t1,3,4;t2,1,6;t2,0,2;t3,3,7;t3,2,4;h10,4,9;"
def FBl : List Int32 := [112, 49, 50, 59, 112, 50, 48, 59, 112, 57, 59, 112, 49, 53, 59, 116, 48, 44, 48, 44, 53, 59, 116, 48, 44, 49, 44, 51, 59, 116, 49, 44, 50, 44, 57, 59, 116, 49, 44, 51, 44, 52, 59, 116, 50, 44, 49, 44, 54, 59, 116, 50, 44, 48, 44, 50, 59, 116, 51, 44, 51, 44, 55, 59, 116, 51, 44, 50, 44, 52, 59, 104, 49, 48, 44, 52, 44, 57, 59]
def FB (j : Nat) : Int32 := FBl.getD j 0
theorem dJ0_coder_7d493_0 : decode cJ0_coder_7d493 0 = .ok (.getstatic 38, 3) := by decide +kernel
theorem dJ0_coder_7d493_3 : decode cJ0_coder_7d493 3 = .ok (.ifCond .eq 10, 3) := by decide +kernel
theorem dJ0_coder_7d493_6 : decode cJ0_coder_7d493 6 = .ok (.aload_n 0, 1) := by decide +kernel
theorem dJ0_coder_7d493_7 : decode cJ0_coder_7d493 7 = .ok (.getfield 15, 3) := by decide +kernel
theorem dJ0_coder_7d493_10 : decode cJ0_coder_7d493 10 = .ok (.goto 4, 3) := by decide +kernel
theorem dJ0_coder_7d493_13 : decode cJ0_coder_7d493 13 = .ok (.iconst 1, 1) := by decide +kernel
theorem dJ0_coder_7d493_14 : decode cJ0_coder_7d493 14 = .ok (.ireturn, 1) := by decide +kernel
theorem dJ0_length_8abf5_0 : decode cJ0_length_8abf5 0 = .ok (.aload_n 0, 1) := by decide +kernel
theorem dJ0_length_8abf5_1 : decode cJ0_length_8abf5 1 = .ok (.getfield 9, 3) := by decide +kernel
theorem dJ0_length_8abf5_4 : decode cJ0_length_8abf5 4 = .ok (.arraylength, 1) := by decide +kernel
theorem dJ0_length_8abf5_5 : decode cJ0_length_8abf5 5 = .ok (.aload_n 0, 1) := by decide +kernel
theorem dJ0_length_8abf5_6 : decode cJ0_length_8abf5 6 = .ok (.invokevirtual 335, 3) := by decide +kernel
theorem dJ0_length_8abf5_9 : decode cJ0_length_8abf5 9 = .ok (.ishr, 1) := by decide +kernel
theorem dJ0_length_8abf5_10 : decode cJ0_length_8abf5 10 = .ok (.ireturn, 1) := by decide +kernel
theorem dJ0_isLatin1_aae02_0 : decode cJ0_isLatin1_aae02 0 = .ok (.getstatic 38, 3) := by decide +kernel
theorem dJ0_isLatin1_aae02_3 : decode cJ0_isLatin1_aae02 3 = .ok (.ifCond .eq 14, 3) := by decide +kernel
theorem dJ0_isLatin1_aae02_6 : decode cJ0_isLatin1_aae02 6 = .ok (.aload_n 0, 1) := by decide +kernel
theorem dJ0_isLatin1_aae02_7 : decode cJ0_isLatin1_aae02 7 = .ok (.getfield 15, 3) := by decide +kernel
theorem dJ0_isLatin1_aae02_10 : decode cJ0_isLatin1_aae02 10 = .ok (.ifCond .ne 7, 3) := by decide +kernel
theorem dJ0_isLatin1_aae02_13 : decode cJ0_isLatin1_aae02 13 = .ok (.iconst 1, 1) := by decide +kernel
theorem dJ0_isLatin1_aae02_14 : decode cJ0_isLatin1_aae02 14 = .ok (.goto 4, 3) := by decide +kernel
theorem dJ0_isLatin1_aae02_17 : decode cJ0_isLatin1_aae02 17 = .ok (.iconst 0, 1) := by decide +kernel
theorem dJ0_isLatin1_aae02_18 : decode cJ0_isLatin1_aae02 18 = .ok (.ireturn, 1) := by decide +kernel
theorem dJ0_checkIndex_df160_0 : decode cJ0_checkIndex_df160 0 = .ok (.iload_n 0, 1) := by decide +kernel
theorem dJ0_checkIndex_df160_1 : decode cJ0_checkIndex_df160 1 = .ok (.iload_n 1, 1) := by decide +kernel
theorem dJ0_checkIndex_df160_2 : decode cJ0_checkIndex_df160 2 = .ok (.getstatic 1053, 3) := by decide +kernel
theorem dJ0_checkIndex_df160_5 : decode cJ0_checkIndex_df160 5 = .ok (.invokestatic 1059, 3) := by decide +kernel
theorem dJ0_checkIndex_df160_8 : decode cJ0_checkIndex_df160 8 = .ok (.pop, 1) := by decide +kernel
theorem dJ0_checkIndex_df160_9 : decode cJ0_checkIndex_df160 9 = .ok (.return_, 1) := by decide +kernel
theorem dJ0_charAt_5068e_0 : decode cJ0_charAt_5068e 0 = .ok (.aload_n 0, 1) := by decide +kernel
theorem dJ0_charAt_5068e_1 : decode cJ0_charAt_5068e 1 = .ok (.invokevirtual 492, 3) := by decide +kernel
theorem dJ0_charAt_5068e_4 : decode cJ0_charAt_5068e 4 = .ok (.ifCond .eq 12, 3) := by decide +kernel
theorem dJ0_charAt_5068e_7 : decode cJ0_charAt_5068e 7 = .ok (.aload_n 0, 1) := by decide +kernel
theorem dJ0_charAt_5068e_8 : decode cJ0_charAt_5068e 8 = .ok (.getfield 9, 3) := by decide +kernel
theorem dJ0_charAt_5068e_11 : decode cJ0_charAt_5068e 11 = .ok (.iload_n 1, 1) := by decide +kernel
theorem dJ0_charAt_5068e_12 : decode cJ0_charAt_5068e 12 = .ok (.invokestatic 495, 3) := by decide +kernel
theorem dJ0_charAt_5068e_15 : decode cJ0_charAt_5068e 15 = .ok (.ireturn, 1) := by decide +kernel
theorem dJ1_charAt_3b067_0 : decode cJ1_charAt_3b067 0 = .ok (.iload_n 1, 1) := by decide +kernel
theorem dJ1_charAt_3b067_1 : decode cJ1_charAt_3b067 1 = .ok (.aload_n 0, 1) := by decide +kernel
theorem dJ1_charAt_3b067_2 : decode cJ1_charAt_3b067 2 = .ok (.arraylength, 1) := by decide +kernel
theorem dJ1_charAt_3b067_3 : decode cJ1_charAt_3b067 3 = .ok (.invokestatic 9, 3) := by decide +kernel
theorem dJ1_charAt_3b067_6 : decode cJ1_charAt_3b067 6 = .ok (.aload_n 0, 1) := by decide +kernel
theorem dJ1_charAt_3b067_7 : decode cJ1_charAt_3b067 7 = .ok (.iload_n 1, 1) := by decide +kernel
theorem dJ1_charAt_3b067_8 : decode cJ1_charAt_3b067 8 = .ok (.baload, 1) := by decide +kernel
theorem dJ1_charAt_3b067_9 : decode cJ1_charAt_3b067 9 = .ok (.sipush 255, 3) := by decide +kernel
theorem dJ1_charAt_3b067_12 : decode cJ1_charAt_3b067 12 = .ok (.iand, 1) := by decide +kernel
theorem dJ1_charAt_3b067_13 : decode cJ1_charAt_3b067 13 = .ok (.i2c, 1) := by decide +kernel
theorem dJ1_charAt_3b067_14 : decode cJ1_charAt_3b067 14 = .ok (.ireturn, 1) := by decide +kernel
theorem dJ3_checkIndex_8e157_0 : decode cJ3_checkIndex_8e157 0 = .ok (.iload_n 0, 1) := by decide +kernel
theorem dJ3_checkIndex_8e157_1 : decode cJ3_checkIndex_8e157 1 = .ok (.ifCond .lt 8, 3) := by decide +kernel
theorem dJ3_checkIndex_8e157_4 : decode cJ3_checkIndex_8e157 4 = .ok (.iload_n 0, 1) := by decide +kernel
theorem dJ3_checkIndex_8e157_5 : decode cJ3_checkIndex_8e157 5 = .ok (.iload_n 1, 1) := by decide +kernel
theorem dJ3_checkIndex_8e157_6 : decode cJ3_checkIndex_8e157 6 = .ok (.if_icmp .lt 10, 3) := by decide +kernel
theorem dJ3_checkIndex_8e157_16 : decode cJ3_checkIndex_8e157 16 = .ok (.iload_n 0, 1) := by decide +kernel
theorem dJ3_checkIndex_8e157_17 : decode cJ3_checkIndex_8e157 17 = .ok (.ireturn, 1) := by decide +kernel
theorem m_Jcoder : MV yJ0_coder_7d493 cJ0_coder_7d493 1 (some .byte) 0 := ⟨mT 300 (by decide +kernel) rfl, mT 298 (by decide +kernel) rfl, mT 299 (by decide +kernel) rfl, mT 64 (by decide +kernel) rfl, by decide +kernel, by decide +kernel, by decide +kernel⟩
theorem m_Jlength : MV yJ0_length_8abf5 cJ0_length_8abf5 1 (some .int) 0 := ⟨mT 296 (by decide +kernel) rfl, mT 294 (by decide +kernel) rfl, mT 295 (by decide +kernel) rfl, mT 64 (by decide +kernel) rfl, by decide +kernel, by decide +kernel, by decide +kernel⟩
theorem m_JisLatin1 : MV yJ0_isLatin1_aae02 cJ0_isLatin1_aae02 1 (some .boolean) 0 := ⟨mT 310 (by decide +kernel) rfl, mT 308 (by decide +kernel) rfl, mT 309 (by decide +kernel) rfl, mT 64 (by decide +kernel) rfl, by decide +kernel, by decide +kernel, by decide +kernel⟩
theorem m_JcheckIndex : MS yJ0_checkIndex_df160 cJ0_checkIndex_df160 2 none 2 := ⟨mT 316 (by decide +kernel) rfl, mT 315 (by decide +kernel) rfl, mT 64 (by decide +kernel) rfl, by decide +kernel, by decide +kernel, by decide +kernel⟩
theorem m_JcharAt : MV yJ0_charAt_5068e cJ0_charAt_5068e 2 (some .char) 1 := ⟨mT 306 (by decide +kernel) rfl, mT 304 (by decide +kernel) rfl, mT 305 (by decide +kernel) rfl, mT 64 (by decide +kernel) rfl, by decide +kernel, by decide +kernel, by decide +kernel⟩
theorem m_Jlat : MS yJ1_charAt_3b067 cJ1_charAt_3b067 2 (some .char) 2 := ⟨mT 313 (by decide +kernel) rfl, mT 312 (by decide +kernel) rfl, mT 65 (by decide +kernel) rfl, by decide +kernel, by decide +kernel, by decide +kernel⟩
theorem m_Jpre : MS yJ3_checkIndex_8e157 cJ3_checkIndex_8e157 3 (some .int) 3 := ⟨mT 321 (by decide +kernel) rfl, mT 320 (by decide +kernel) rfl, mT 66 (by decide +kernel) rfl, by decide +kernel, by decide +kernel, by decide +kernel⟩
theorem wJval : Cond.fieldLink "java/lang/String" 9 "java/lang/String" "value" "[B" ∈ wT := mT 1227 (by decide +kernel) rfl
theorem wJcod : Cond.fieldLink "java/lang/String" 15 "java/lang/String" "coder" "B" ∈ wT := mT 1228 (by decide +kernel) rfl
theorem wJcs : Cond.fieldLink "java/lang/String" 38 "java/lang/String" "COMPACT_STRINGS" "Z" ∈ wT := mT 301 (by decide +kernel) rfl
theorem wJsf : Cond.fieldLink "java/lang/String" 1053 "jdk/internal/util/Preconditions" "SIOOBE_FORMATTER" "Ljava/util/function/BiFunction;" ∈ wT := mT 317 (by decide +kernel) rfl
theorem wJl335 : Cond.methodLink "java/lang/String" 335 ⟨"java/lang/String", "coder", "()B"⟩ ∈ wT := mT 297 (by decide +kernel) rfl
theorem wJl492 : Cond.methodLink "java/lang/String" 492 ⟨"java/lang/String", "isLatin1", "()Z"⟩ ∈ wT := mT 307 (by decide +kernel) rfl
theorem wJl495 : Cond.methodLink "java/lang/String" 495 ⟨"java/lang/StringLatin1", "charAt", "([BI)C"⟩ ∈ wT := mT 311 (by decide +kernel) rfl
theorem wJl9 : Cond.methodLink "java/lang/StringLatin1" 9 ⟨"java/lang/String", "checkIndex", "(II)V"⟩ ∈ wT := mT 314 (by decide +kernel) rfl
theorem wJl1059 : Cond.methodLink "java/lang/String" 1059 ⟨"jdk/internal/util/Preconditions", "checkIndex", "(IILjava/util/function/BiFunction;)I"⟩ ∈ wT := mT 319 (by decide +kernel) rfl
theorem wH80 : Cond.methodLink "HeartPins" 80 ⟨"java/lang/String", "length", "()I"⟩ ∈ wT := mT 293 (by decide +kernel) rfl
theorem wH86 : Cond.methodLink "HeartPins" 86 ⟨"java/lang/String", "charAt", "(I)C"⟩ ∈ wT := mT 303 (by decide +kernel) rfl
def SF (cx : Cx) (sa sv : Nat) (U : State) : Prop := vk_R "HeartPins" 78 FTx sa U ∧ va_O "java/lang/String" sa (AA cx) U U.heap ∧ va_OF "java/lang/String" "coder" "B" (.int 0) sa (AA cx) U U.heap ∧ va_OF "java/lang/String" "value" "[B" (.ref sv) sa (AA cx) U U.heap ∧ va_T .byte sv 79 (fun j => .int (FB j)) (AA cx) U U.heap ∧ va_Z "java/lang/String" "COMPACT_STRINGS" "Z" (.int 1) (AA cx) U U.heap ∧ va_Zq "jdk/internal/util/Preconditions" "SIOOBE_FORMATTER" "Ljava/util/function/BiFunction;" (AA cx) U U.heap
theorem SF.pre {cx : Cx} {sa sv : Nat} {s U : State} {H : Heap} {locs : List Loc} (h : SF cx sa sv s) (hU : U.heap = H) (hS : va_S (AA cx) s.heap H locs) (hW : s.WarmedH U.vm) : SF cx sa sv U := by
  subst hU
  obtain ⟨h1, h2, h3, h4, h5, h6, h7⟩ := h
  have a := hW.alike
  exact ⟨vk_R.warm hW h1, (va_O.moved a h2).kept hS.2.1, (va_OF.moved a h3).kept hS.2.1, (va_OF.moved a h4).kept hS.2.1, (va_T.moved a h5).kept hS.2.1, (va_Z.moved a h6).kept hS.2.1, (va_Zq.moved a h7).kept hS.2.1⟩
theorem SF.calling {cx : Cx} {sa sv : Nat} {U : State} {g : JFrame} {mk : MethodId} {a : Array Value} (h : SF cx sa sv U) : SF cx sa sv (U.calling g mk a) := by
  obtain ⟨h1, h2, h3, h4, h5, h6, h7⟩ := h
  have a := Vm.Alike.refl U.vm
  exact ⟨vk_R.same (u := U) rfl h1, va_O.moved (u := U) a h2, va_OF.moved (u := U) a h3, va_OF.moved (u := U) a h4, va_T.moved (u := U) a h5, va_Z.moved (u := U) a h6, va_Zq.moved (u := U) a h7⟩
theorem SF.blind {cx : Cx} {sa sv : Nat} {av : List Value} : FrameBlind (va_Pc av (SF cx sa sv)) := fun a U g mk q => ⟨q.1, q.2.calling⟩
def Ji (v : Int32) : Array Value → State → Outcome → State → Prop := fun _ st o t => o = .returned (some (.int v)) ∧ t.heap = st.heap
def Jv : Array Value → State → Outcome → State → Prop := fun _ st o t => o = .returned none ∧ t.heap = st.heap
theorem j_met {l : Launch} {cx : Cx} {sa sv : Nat} {y : MethodName} {b : ByteArray} {nL : Nat} {rt : Option FieldType} {lvl : Nat} {As : List Value} {Q : Array Value → State → Outcome → State → Prop} (hy : plainName y.cls = true) (hlen : (lg_sl As).length ≤ nL)
    (body : ∀ (p : Program) (e : Env) (s : State) (m : MethodId) (args : Array Value) (below : List Frame) (meth : Method) (c : Code), p.tables.exec = Jvm.exec → c.code = b → c.maxLocals = nL → meth.sig.returnType = rt → s.vm.findClass y.cls = some m.cls → (∀ w ∈ wT, w.before args s = true) → meth.locks = false → SF cx sa sv s → ∀ ls, lv_has ls nL (lv_args 0 As) →
      W p l e (rmk lvl) s m args below meth c s.heap [] 0 0 (MQ below Q args s 0 0 (fun _ => False)) (F0 m 0 ls [])) :
    Met l y (.code y b nL rt :: wT) (rmk lvl) (va_Pc As (SF cx sa sv)) Q 0 0 (fun _ => False) := by
  refine Met.ofW (cc := b) (maxL := nL) (ret := rt) hy rfl ?_
  intro p e s m args below meth c s₁ B hml hv
  obtain ⟨rfl, hF⟩ := hv
  have hts := atoms_spec (ws := .code y b nL rt :: wT) B.pre
  have hl := lv_entry As (n := nL) hlen
  rw [lg_entry_eq]
  exact body p e s m _ below meth c B.exec B.bytes hml B.returns (findClass_of_methodNamed B.named) (fun w hw => hts w (List.mem_cons_of_mem _ hw)) B.notSynchronized hF _ hl
section JB
variable {p : Program} {l : Launch} {e : Env} {R : Room} {s : State} {m : MethodId} {args : Array Value} {below : List Frame} {meth : Method} {c : Code} {H : Heap} {locs : List Loc} {cells slots : Nat} {Q : State → Prop} {pc : Nat} {ls : Array Slot} {rest st0 : List Value} {a : Array Value}
theorem j_backi {v : Int32} (hr : va_Run p l e R s m args below meth c H locs cells slots 0 0 (F0 m pc ls st0) rest (Ji v a) (fun _ => False)) (kk : W p l e R s m args below meth c H locs cells slots Q (F0 m (pc + 3) ls (.int v :: rest))) : W p l e R s m args below meth c H locs cells slots Q (F0 m pc ls st0) := by
  intro T hT X
  obtain ⟨ov, st₀, t, T', L, h0, X', hL, e1, e2, ⟨hv, hh⟩, stp⟩ := hr T hT X
  cases hv
  have hL0 : L = [] := List.eq_nil_iff_forall_not_mem.mpr fun q hq => hL q hq
  subst hL0
  rw [List.append_nil] at X'
  obtain ⟨t2, a1, b1⟩ := kk T' (by rw [e1, hh, h0]) X'
  exact ⟨t2, stp t2 a1, b1⟩
theorem j_backv (hr : va_Run p l e R s m args below meth c H locs cells slots 0 0 (F0 m pc ls st0) rest (Jv a) (fun _ => False)) (kk : W p l e R s m args below meth c H locs cells slots Q (F0 m (pc + 3) ls rest)) : W p l e R s m args below meth c H locs cells slots Q (F0 m pc ls st0) := by
  intro T hT X
  obtain ⟨ov, st₀, t, T', L, h0, X', hL, e1, e2, ⟨hv, hh⟩, stp⟩ := hr T hT X
  cases hv
  have hL0 : L = [] := List.eq_nil_iff_forall_not_mem.mpr fun q hq => hL q hq
  subst hL0
  rw [List.append_nil] at X'
  obtain ⟨t2, a1, b1⟩ := kk T' (by rw [e1, hh, h0]) X'
  exact ⟨t2, stp t2 a1, b1⟩
end JB
theorem c_Jcoder (l : Launch) (cx : Cx) (sa sv : Nat) : Met l yJ0_coder_7d493 (.code yJ0_coder_7d493 cJ0_coder_7d493 1 (some .byte) :: wT) (rmk 0) (va_Pc [.ref sa] (SF cx sa sv)) (Ji 0) 0 0 (fun _ => False) := by
  refine j_met (by decide) (Nat.le_of_ble_eq_true rfl) ?_
  intro p e s m args below meth c hx hb hml hr hown hts hlk hF ls hl
  have hS : va_S (AA cx) s.heap s.heap [] := va_S.rf
  have hl : lv_has ls 1 [(0, .ref sa)] := hl
  refine va_gets hx hb hF.2.2.2.2.2.1 hS hown (hts _ wJcs) (fun x h => h) dJ0_coder_7d493_0 ?_
  refine lv_if_eq (tgt := 13) hx hb dJ0_coder_7d493_3 (by decide) (fun h => absurd h (by decide)) (fun _ => ?_)
  refine lv_aload_n hx hb dJ0_coder_7d493_6 rfl (lv_at hl 0 rfl) ?_
  refine va_getX (N := 1) (v := fun _ => .int 0) (ad := fun _ => sa) (i := 0) hx hb (fun i hi => hF.2.2.1) (by decide) hS hown (hts _ wJcod) (fun x h => h) dJ0_coder_7d493_7 ?_
  refine lv_goto (tgt := 14) hx hb dJ0_coder_7d493_10 (by decide) ?_
  exact W.zret hx hb hr rfl (fun t ht hW => ⟨rfl, ht⟩) (fun q h => by cases h) dJ0_coder_7d493_14
theorem c_JisLatin1 (l : Launch) (cx : Cx) (sa sv : Nat) : Met l yJ0_isLatin1_aae02 (.code yJ0_isLatin1_aae02 cJ0_isLatin1_aae02 1 (some .boolean) :: wT) (rmk 0) (va_Pc [.ref sa] (SF cx sa sv)) (Ji 1) 0 0 (fun _ => False) := by
  refine j_met (by decide) (Nat.le_of_ble_eq_true rfl) ?_
  intro p e s m args below meth c hx hb hml hr hown hts hlk hF ls hl
  have hS : va_S (AA cx) s.heap s.heap [] := va_S.rf
  have hl : lv_has ls 1 [(0, .ref sa)] := hl
  refine va_gets hx hb hF.2.2.2.2.2.1 hS hown (hts _ wJcs) (fun x h => h) dJ0_isLatin1_aae02_0 ?_
  refine lv_if_eq (tgt := 17) hx hb dJ0_isLatin1_aae02_3 (by decide) (fun h => absurd h (by decide)) (fun _ => ?_)
  refine lv_aload_n hx hb dJ0_isLatin1_aae02_6 rfl (lv_at hl 0 rfl) ?_
  refine va_getX (N := 1) (v := fun _ => .int 0) (ad := fun _ => sa) (i := 0) hx hb (fun i hi => hF.2.2.1) (by decide) hS hown (hts _ wJcod) (fun x h => h) dJ0_isLatin1_aae02_7 ?_
  refine lv_if_ne (tgt := 17) hx hb dJ0_isLatin1_aae02_10 (by decide) (fun h => absurd rfl h) (fun _ => ?_)
  refine lv_iconst (v := 1) hx hb dJ0_isLatin1_aae02_13 (by decide) ?_
  refine lv_goto (tgt := 18) hx hb dJ0_isLatin1_aae02_14 (by decide) ?_
  exact W.zret hx hb hr rfl (fun t ht hW => ⟨rfl, ht⟩) (fun q h => by cases h) dJ0_isLatin1_aae02_18
theorem c_Jpre (l : Launch) (cx : Cx) (sa sv : Nat) (i : Int32) (v : Value) (hi : ¬ i < 0 ∧ i < 79) (hv : v = .null ∨ ∃ a, v = .ref a) : Met l yJ3_checkIndex_8e157 (.code yJ3_checkIndex_8e157 cJ3_checkIndex_8e157 3 (some .int) :: wT) (rmk 0) (va_Pc [.int i, .int 79, v] (SF cx sa sv)) (Ji i) 0 0 (fun _ => False) := by
  rcases hv with rfl | ⟨a, rfl⟩
  · refine j_met (by decide) (Nat.le_of_ble_eq_true rfl) ?_
    intro p e s m args below meth c hx hb hml hr hown hts hlk hF ls hl
    have hl : lv_has ls 3 [(0, .int i), (1, .int 79), (2, .null)] := hl
    refine lv_iload_n hx hb dJ3_checkIndex_8e157_0 rfl (lv_at hl 0 rfl) ?_
    refine lv_if_lt (tgt := 9) hx hb dJ3_checkIndex_8e157_1 (by decide) (fun h => absurd h hi.1) (fun _ => ?_)
    refine lv_iload_n hx hb dJ3_checkIndex_8e157_4 rfl (lv_at hl 0 rfl) ?_
    refine lv_iload_n hx hb dJ3_checkIndex_8e157_5 rfl (lv_at hl 1 rfl) ?_
    refine lv_icmp_lt (tgt := 16) hx hb dJ3_checkIndex_8e157_6 (by decide) (fun _ => ?_) (fun h => absurd hi.2 h)
    refine lv_iload_n hx hb dJ3_checkIndex_8e157_16 rfl (lv_at hl 0 rfl) ?_
    exact W.iret hx hb hr (fun t ht hW => ⟨rfl, ht⟩) (fun q h => by cases h) dJ3_checkIndex_8e157_17
  · refine j_met (by decide) (Nat.le_of_ble_eq_true rfl) ?_
    intro p e s m args below meth c hx hb hml hr hown hts hlk hF ls hl
    have hl : lv_has ls 3 [(0, .int i), (1, .int 79), (2, .ref a)] := hl
    refine lv_iload_n hx hb dJ3_checkIndex_8e157_0 rfl (lv_at hl 0 rfl) ?_
    refine lv_if_lt (tgt := 9) hx hb dJ3_checkIndex_8e157_1 (by decide) (fun h => absurd h hi.1) (fun _ => ?_)
    refine lv_iload_n hx hb dJ3_checkIndex_8e157_4 rfl (lv_at hl 0 rfl) ?_
    refine lv_iload_n hx hb dJ3_checkIndex_8e157_5 rfl (lv_at hl 1 rfl) ?_
    refine lv_icmp_lt (tgt := 16) hx hb dJ3_checkIndex_8e157_6 (by decide) (fun _ => ?_) (fun h => absurd hi.2 h)
    refine lv_iload_n hx hb dJ3_checkIndex_8e157_16 rfl (lv_at hl 0 rfl) ?_
    exact W.iret hx hb hr (fun t ht hW => ⟨rfl, ht⟩) (fun q h => by cases h) dJ3_checkIndex_8e157_17
section JC
variable {p : Program} {l : Launch} {e : Env} {R : Room} {s : State} {m : MethodId} {args : Array Value} {below : List Frame} {meth : Method} {c : Code} {H : Heap} {locs : List Loc} {cells slots : Nat} {Q : State → Prop} {pc nL : Nat} {ls : Array Slot} {st st0 : List Value} {cx : Cx} {b : ByteArray} {own : String} {lv : List (Nat × Value)} {sa sv : Nat}
theorem j_callV (hx : p.tables.exec = Jvm.exec) (hb : c.code = b) (hml : c.maxLocals = nL) (hown : s.vm.findClass own = some m.cls) (hts : ∀ w ∈ wT, w.before args s = true) (hF : SF cx sa sv s) (hS : va_S (AA cx) s.heap H locs) (hl : lv_has ls nL lv) {idx lvl nL' nA : Nat} {y : MethodName} {b' : ByteArray} {rt' : Option FieldType} {As : List Value} {v : Int32}
    (hM : Met l y (.code y b' nL' rt' :: wT) (rmk lvl) (va_Pc (.ref sa :: As) (SF cx sa sv)) (Ji v) 0 0 (fun _ => False)) (hd : decode b pc = .ok (.invokevirtual idx, 3)) (hw : Cond.methodLink own idx y ∈ wT) (hm : MV y b' nL' rt' nA) (hn : As.length = nA) (hC : y.cls = "java/lang/String") (hR : lvl + 1 ≤ R.frames ∧ 8 + (nL' + 11) + 60 * lvl ≤ R.locals) (hf : cells ≤ R.cells ∧ slots ≤ R.slots) (hs0 : As.reverse ++ .ref sa :: st = st0) (hcat : (st.map fun v => v.category).sum ≤ 8)
    (kk : W p l e R s m args below meth c H locs cells slots Q (F0 m (pc + 3) ls (.int v :: st))) : W p l e R s m args below meth c H locs cells slots Q (F0 m pc ls st0) := by
  subst hs0
  obtain ⟨m1, m2, m3, m4, m5, m6, m7⟩ := hm
  refine j_backi (va_runV (C := "java/lang/String") (As := As) (rest := st) (nL := nL) ⟨hx, hb, hml, hown, hts⟩ hM ⟨callB_of nA hts (good_wT m1) rfl rfl rfl (hts _ m4) (hts _ hw) ⟨m5, m6, m7⟩ hR, hts _ m2, ?_⟩ ⟨SF.blind, ?_, fun U hU hW => ⟨rfl, hF.pre hU hS hW⟩⟩ rfl hn hl.1 rfl (lv_room hcat) hd ⟨hf.1, hf.2⟩) kk
  · rw [← hC]; exact hts _ m3
  · obtain ⟨cell, h1, h2, h3, h4⟩ := hF.2.1.kept hS.2.1
    exact ⟨cell, h1, h2, h3⟩
theorem j_callSi (hx : p.tables.exec = Jvm.exec) (hb : c.code = b) (hml : c.maxLocals = nL) (hown : s.vm.findClass own = some m.cls) (hts : ∀ w ∈ wT, w.before args s = true) (hF : SF cx sa sv s) (hS : va_S (AA cx) s.heap H locs) (hl : lv_has ls nL lv) {idx lvl nL' nA : Nat} {y : MethodName} {b' : ByteArray} {rt' : Option FieldType} {As : List Value} {v : Int32}
    (hM : Met l y (.code y b' nL' rt' :: wT) (rmk lvl) (va_Pc As (SF cx sa sv)) (Ji v) 0 0 (fun _ => False)) (hd : decode b pc = .ok (.invokestatic idx, 3)) (hw : Cond.methodLink own idx y ∈ wT) (hm : MS y b' nL' rt' nA) (hn : As.length = nA) (hR : lvl + 1 ≤ R.frames ∧ 8 + (nL' + 11) + 60 * lvl ≤ R.locals) (hf : cells ≤ R.cells ∧ slots ≤ R.slots) (hs0 : As.reverse ++ st = st0) (hcat : (st.map fun v => v.category).sum ≤ 8)
    (kk : W p l e R s m args below meth c H locs cells slots Q (F0 m (pc + 3) ls (.int v :: st))) : W p l e R s m args below meth c H locs cells slots Q (F0 m pc ls st0) := by
  subst hs0
  obtain ⟨m1, m2, m4, m5, m6, m7⟩ := hm
  exact j_backi (va_runS (As := As) (rest := st) (nL := nL) ⟨hx, hb, hml, hown, hts⟩ hM ⟨callB_of nA hts (good_wT m1) rfl rfl rfl (hts _ m4) (hts _ hw) ⟨m5, m6, m7⟩ hR, hts _ m2⟩ ⟨SF.blind, fun U hU hW => ⟨rfl, hF.pre hU hS hW⟩⟩ rfl hn hl.1 rfl (lv_room hcat) hd ⟨hf.1, hf.2⟩) kk
theorem j_callSv (hx : p.tables.exec = Jvm.exec) (hb : c.code = b) (hml : c.maxLocals = nL) (hown : s.vm.findClass own = some m.cls) (hts : ∀ w ∈ wT, w.before args s = true) (hF : SF cx sa sv s) (hS : va_S (AA cx) s.heap H locs) (hl : lv_has ls nL lv) {idx lvl nL' nA : Nat} {y : MethodName} {b' : ByteArray} {rt' : Option FieldType} {As : List Value}
    (hM : Met l y (.code y b' nL' rt' :: wT) (rmk lvl) (va_Pc As (SF cx sa sv)) Jv 0 0 (fun _ => False)) (hd : decode b pc = .ok (.invokestatic idx, 3)) (hw : Cond.methodLink own idx y ∈ wT) (hm : MS y b' nL' rt' nA) (hn : As.length = nA) (hR : lvl + 1 ≤ R.frames ∧ 8 + (nL' + 11) + 60 * lvl ≤ R.locals) (hf : cells ≤ R.cells ∧ slots ≤ R.slots) (hs0 : As.reverse ++ st = st0) (hcat : (st.map fun v => v.category).sum ≤ 8)
    (kk : W p l e R s m args below meth c H locs cells slots Q (F0 m (pc + 3) ls st)) : W p l e R s m args below meth c H locs cells slots Q (F0 m pc ls st0) := by
  subst hs0
  obtain ⟨m1, m2, m4, m5, m6, m7⟩ := hm
  exact j_backv (va_runS (As := As) (rest := st) (nL := nL) ⟨hx, hb, hml, hown, hts⟩ hM ⟨callB_of nA hts (good_wT m1) rfl rfl rfl (hts _ m4) (hts _ hw) ⟨m5, m6, m7⟩ hR, hts _ m2⟩ ⟨SF.blind, fun U hU hW => ⟨rfl, hF.pre hU hS hW⟩⟩ rfl hn hl.1 rfl (lv_room hcat) hd ⟨hf.1, hf.2⟩) kk
theorem j_tlen (hx : p.tables.exec = Jvm.exec) (hb : c.code = b) {t N : Nat} {f : Nat → Value} {A : Nat → Prop} {v : Int32} (hT : va_T .byte t N f A s s.heap) (hS : va_S A s.heap H locs) (hv : Int32.ofNat N = v) (hd : decode b pc = .ok (.arraylength, 1)) (kk : W p l e R s m args below meth c H locs cells slots Q (F0 m (pc + 1) ls (.int v :: st))) : W p l e R s m args below meth c H locs cells slots Q (F0 m pc ls (.ref t :: st)) := by
  obtain ⟨cell, h1, h2, h3, h4, h5, h6, h7⟩ := hT
  exact W.alen hx hb (by rw [hS.2.1 t (Array.getElem?_eq_some_iff.mp h1).1 h7]; exact h1) h2 (h5.trans hv) rfl rfl hd kk
end JC
theorem c_Jlength (l : Launch) (cx : Cx) (sa sv : Nat) : Met l yJ0_length_8abf5 (.code yJ0_length_8abf5 cJ0_length_8abf5 1 (some .int) :: wT) (rmk 1) (va_Pc [.ref sa] (SF cx sa sv)) (Ji 79) 0 0 (fun _ => False) := by
  refine j_met (by decide) (Nat.le_of_ble_eq_true rfl) ?_
  intro p e s m args below meth c hx hb hml hr hown hts hlk hF ls hl
  have hS : va_S (AA cx) s.heap s.heap [] := va_S.rf
  have hl : lv_has ls 1 [(0, .ref sa)] := hl
  refine lv_aload_n hx hb dJ0_length_8abf5_0 rfl (lv_at hl 0 rfl) ?_
  refine va_getX (N := 1) (v := fun _ => .ref sv) (ad := fun _ => sa) (i := 0) hx hb (fun i hi => hF.2.2.2.1) (by decide) hS hown (hts _ wJval) (fun x h => h) dJ0_length_8abf5_1 ?_
  refine j_tlen (v := 79) hx hb hF.2.2.2.2.1 hS (by decide) dJ0_length_8abf5_4 ?_
  refine lv_aload_n hx hb dJ0_length_8abf5_5 rfl (lv_at hl 0 rfl) ?_
  refine j_callV (As := []) (st := [.int 79]) hx hb hml hown hts hF hS hl (c_Jcoder l cx sa sv) dJ0_length_8abf5_6 wJl335 m_Jcoder rfl rfl ⟨by decide, by decide⟩ ⟨by decide, by decide⟩ rfl (Nat.le_of_ble_eq_true rfl) ?_
  refine lv_ishr hx hb dJ0_length_8abf5_9 ?_
  exact W.iret (v := (79 : Int32) >>> ((0 : Int32) &&& 31)) hx hb hr (fun t ht hW => ⟨by decide, ht⟩) (fun q h => by cases h) dJ0_length_8abf5_10
theorem c_JcheckIndex (l : Launch) (cx : Cx) (sa sv : Nat) (i : Int32) (hi : ¬ i < 0 ∧ i < 79) : Met l yJ0_checkIndex_df160 (.code yJ0_checkIndex_df160 cJ0_checkIndex_df160 2 none :: wT) (rmk 1) (va_Pc [.int i, .int 79] (SF cx sa sv)) Jv 0 0 (fun _ => False) := by
  refine j_met (by decide) (Nat.le_of_ble_eq_true rfl) ?_
  intro p e s m args below meth c hx hb hml hr hown hts hlk hF ls hl
  have hS : va_S (AA cx) s.heap s.heap [] := va_S.rf
  have hl : lv_has ls 2 [(0, .int i), (1, .int 79)] := hl
  refine lv_iload_n hx hb dJ0_checkIndex_df160_0 rfl (lv_at hl 0 rfl) ?_
  refine lv_iload_n hx hb dJ0_checkIndex_df160_1 rfl (lv_at hl 1 rfl) ?_
  rcases hF.2.2.2.2.2.2 with hZ | ⟨t, hZ⟩
  · refine va_gets hx hb hZ hS hown (hts _ wJsf) (fun x h => h) dJ0_checkIndex_df160_2 ?_
    refine j_callSi (As := [.int i, .int 79, .null]) (st := []) hx hb hml hown hts hF hS hl (c_Jpre l cx sa sv i _ hi (Or.inl rfl)) dJ0_checkIndex_df160_5 wJl1059 m_Jpre rfl ⟨by decide, by decide⟩ ⟨by decide, by decide⟩ rfl (Nat.le_of_ble_eq_true rfl) ?_
    refine lv_pop hx hb dJ0_checkIndex_df160_8 rfl ?_
    exact W.vret hx hb hr (fun t ht hW => ⟨rfl, ht⟩) (fun q h => by cases h) dJ0_checkIndex_df160_9
  · refine va_gets hx hb hZ hS hown (hts _ wJsf) (fun x h => h) dJ0_checkIndex_df160_2 ?_
    refine j_callSi (As := [.int i, .int 79, .ref t]) (st := []) hx hb hml hown hts hF hS hl (c_Jpre l cx sa sv i _ hi (Or.inr ⟨t, rfl⟩)) dJ0_checkIndex_df160_5 wJl1059 m_Jpre rfl ⟨by decide, by decide⟩ ⟨by decide, by decide⟩ rfl (Nat.le_of_ble_eq_true rfl) ?_
    refine lv_pop hx hb dJ0_checkIndex_df160_8 rfl ?_
    exact W.vret hx hb hr (fun t ht hW => ⟨rfl, ht⟩) (fun q h => by cases h) dJ0_checkIndex_df160_9
theorem c_Jlat (l : Launch) (cx : Cx) (sa sv : Nat) (i : Int32) (hi : ¬ i < 0 ∧ i < 79) : Met l yJ1_charAt_3b067 (.code yJ1_charAt_3b067 cJ1_charAt_3b067 2 (some .char) :: wT) (rmk 2) (va_Pc [.ref sv, .int i] (SF cx sa sv)) (Ji ((FB i.toNatClampNeg &&& 255).toUInt32 % 65536).toInt32) 0 0 (fun _ => False) := by
  refine j_met (by decide) (Nat.le_of_ble_eq_true rfl) ?_
  intro p e s m args below meth c hx hb hml hr hown hts hlk hF ls hl
  have hS : va_S (AA cx) s.heap s.heap [] := va_S.rf
  have hl : lv_has ls 2 [(0, .ref sv), (1, .int i)] := hl
  have hin : vp_in i 79 := by
    rw [vp_in_iff]
    have h1 := hi.1; have h2 := hi.2
    rw [Int32.lt_iff_toInt_lt] at h1 h2
    have e1 : (0 : Int32).toInt = 0 := by decide
    have e2 : (79 : Int32).toInt = 79 := by decide
    omega
  refine lv_iload_n hx hb dJ1_charAt_3b067_0 rfl (lv_at hl 1 rfl) ?_
  refine lv_aload_n hx hb dJ1_charAt_3b067_1 rfl (lv_at hl 0 rfl) ?_
  refine j_tlen (v := 79) hx hb hF.2.2.2.2.1 hS (by decide) dJ1_charAt_3b067_2 ?_
  refine j_callSv (As := [.int i, .int 79]) (st := []) hx hb hml hown hts hF hS hl (c_JcheckIndex l cx sa sv i hi) dJ1_charAt_3b067_3 wJl9 m_JcheckIndex rfl ⟨by decide, by decide⟩ ⟨by decide, by decide⟩ rfl (Nat.le_of_ble_eq_true rfl) ?_
  refine lv_aload_n hx hb dJ1_charAt_3b067_6 rfl (lv_at hl 0 rfl) ?_
  refine lv_iload_n hx hb dJ1_charAt_3b067_7 rfl (lv_at hl 1 rfl) ?_
  refine va_tb hx hb hF.2.2.2.2.1 hS hin rfl dJ1_charAt_3b067_8 ?_
  refine lv_sipush (v := 255) hx hb dJ1_charAt_3b067_9 (by decide) ?_
  refine lv_iand hx hb dJ1_charAt_3b067_12 ?_
  refine lv_i2c hx hb dJ1_charAt_3b067_13 rfl ?_
  exact W.zret hx hb hr (pk_nc _) (fun t ht hW => ⟨rfl, ht⟩) (fun q h => by cases h) dJ1_charAt_3b067_14
theorem c_JcharAt (l : Launch) (cx : Cx) (sa sv : Nat) (i : Int32) (hi : ¬ i < 0 ∧ i < 79) : Met l yJ0_charAt_5068e (.code yJ0_charAt_5068e cJ0_charAt_5068e 2 (some .char) :: wT) (rmk 3) (va_Pc [.ref sa, .int i] (SF cx sa sv)) (Ji ((FB i.toNatClampNeg &&& 255).toUInt32 % 65536).toInt32) 0 0 (fun _ => False) := by
  refine j_met (by decide) (Nat.le_of_ble_eq_true rfl) ?_
  intro p e s m args below meth c hx hb hml hr hown hts hlk hF ls hl
  have hS : va_S (AA cx) s.heap s.heap [] := va_S.rf
  have hl : lv_has ls 2 [(0, .ref sa), (1, .int i)] := hl
  refine lv_aload_n hx hb dJ0_charAt_5068e_0 rfl (lv_at hl 0 rfl) ?_
  refine j_callV (As := []) (st := []) hx hb hml hown hts hF hS hl (c_JisLatin1 l cx sa sv) dJ0_charAt_5068e_1 wJl492 m_JisLatin1 rfl rfl ⟨by decide, by decide⟩ ⟨by decide, by decide⟩ rfl (Nat.le_of_ble_eq_true rfl) ?_
  refine lv_if_eq (tgt := 16) hx hb dJ0_charAt_5068e_4 (by decide) (fun h => absurd h (by decide)) (fun _ => ?_)
  refine lv_aload_n hx hb dJ0_charAt_5068e_7 rfl (lv_at hl 0 rfl) ?_
  refine va_getX (N := 1) (v := fun _ => .ref sv) (ad := fun _ => sa) (i := 0) hx hb (fun i hi => hF.2.2.2.1) (by decide) hS hown (hts _ wJval) (fun x h => h) dJ0_charAt_5068e_8 ?_
  refine lv_iload_n hx hb dJ0_charAt_5068e_11 rfl (lv_at hl 1 rfl) ?_
  refine j_callSi (As := [.ref sv, .int i]) (st := []) hx hb hml hown hts hF hS hl (c_Jlat l cx sa sv i hi) dJ0_charAt_5068e_12 wJl495 m_Jlat rfl ⟨by decide, by decide⟩ ⟨by decide, by decide⟩ rfl (Nat.le_of_ble_eq_true rfl) ?_
  exact W.zret hx hb hr (pk_nc _) (fun t ht hW => ⟨rfl, ht⟩) (fun q h => by cases h) dJ0_charAt_5068e_15

