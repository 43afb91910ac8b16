/-! THE CLAIM OUT OF ONE WALK OF THE LAW'S BODY. Your part is whole_start (and what it stands on); all else here is the same for every law, but numbers. -/
def R_law : String := "HeartPinsLaw"
def lw_P (b : Addr) (xs : List Int32) (args : Array Value) (s : State) : Prop := args = #[.ref b] ∧ s.IntsAt b xs ∧ xs.length ≤ 320 ∧ (Jvm.Cond.and given_1 narrow_1).before args s = true
def lw_Q (_ : Array Value) (s : State) (o : Outcome) (t : State) : Prop := o = .returned (some (.int 1)) ∧ Framed s o t [] 600000 7302250
def lw_Z (below : List Frame) (a : Array Value) (s : State) : State → Prop := fun t => ∃ o, t.status = .running ∧ Ended t below o ∧ lw_Q a s o t
/-- the law's own end, with 1 on the stack, nothing written that was there before, its room as the claim has it -/
theorem lw_ret {p : Program} {l : Launch} {e : Env} {s : State} {m : MethodId} {below : List Frame} {meth : Method} {c : Code} {b : Nat} (hx : p.tables.exec = Jvm.exec) (hb : c.code = code) (hr : meth.sig.returnType = ret) (hlocks : meth.locks = false) {pc : Nat} {H : Heap} {ls : Array Slot} (hdg : decode code pc = .ok (.ireturn, 1)) : W p l e room_1 s m #[Value.ref b] below meth c H [] 600000 7302250 (lw_Z below #[Value.ref b] s) (F0 m pc ls [.int 1]) := by
  intro T hT X
  obtain ⟨fs, hret, hrun, hended, hW, hframe⟩ := X.leave (v := some (.int 1)) (hlocks := hlocks) (fun h => by rw [hr] at h; cases h)
  have hmeth' : T.vm.method? m = some meth := X.method'
  refine ⟨T.setFrames fs, ?_, .returned (some (.int 1)), hrun, hended, rfl, ⟨_, rfl⟩, hW, hframe⟩
  jvm_step X.here [X.here.top, hx, hb, hdg, hmeth', hr, ret, narrow_b1]
  (try refine ⟨rfl, ?_⟩); (try refine ⟨rfl, ?_⟩)
  first | (intro acts; rw [hret _ acts rfl rfl rfl]) | rw [hret _ _ rfl rfl rfl]
  exact Steps.refl _
/-- what holds at the law's entry: the machine, the code, the tables' words (any of lw_tbl by 'hts w (by decide +kernel)'), the script of L ints xs at the cell b, what the Statement gives of the start (any of its parts by flat_of_before) -/
def lw_At (p : Program) (s : State) (m : MethodId) (meth : Method) (c : Code) (b L : Nat) (xs : Nat → Int32) : Prop :=
  p.tables.exec = Jvm.exec ∧ c.code = code ∧ meth.sig.returnType = ret ∧ c.maxLocals = 4 ∧ s.vm.findClass R_law = some m.cls ∧ (∀ w ∈ lw_tbl, w.before #[Value.ref b] s = true) ∧ va_X b L xs s s.heap ∧ b < s.heap.size ∧ meth.locks = false ∧ (Jvm.Cond.and given_1 narrow_1).before #[Value.ref b] s = true
/-! the law -/
def sb (L : Nat) (i : Int32) : Bool := !(decide (i < 0) || decide (L ≤ i.toNatClampNeg))
theorem sb_sp {L : Nat} {i : Int32} (h : sb L i = true) : vp_in i L := by
  unfold sb at h
  simp only [Bool.not_eq_true', Bool.or_eq_false_iff, decide_eq_false_iff_not] at h
  exact fun q => q.elim h.1 h.2
section XL
variable {p : Program} {l : Launch} {e : Env} {R : Room} {s : State} {m : MethodId} {args : Array Value} {below : List Frame} {meth : Method} {c : Code} {Q : State → Prop} {cx : Cx} {b : ByteArray} {nL : Nat} {rt : Option FieldType} {own mn : String} {D : Dt} {P : Ft} {nx cells slots pc : Nat} {lv : List (Nat × Value)} {st : List Value} {sa sv : Nat} {q L : Nat} {xs : Nat → Int32}
theorem x_sld (hXb : va_X q L xs s s.heap ∧ q < s.heap.size ∧ cx.2.2 = s.heap.size) (X : XC p s m args meth c cx b nL rt own mn) {i : Int32} (hd : decode b pc = .ok (.iaload, 1)) (hg : sb L i = true) (kk : XW p l e R s m args below meth c Q cx nL D P nx cells slots (pc + 1) lv (.int (xs i.toNatClampNeg) :: st)) : XW p l e R s m args below meth c Q cx nL D P nx cells slots pc lv (.int i :: .ref q :: st) :=
  fun H locs ls hR hS hl => va_sld X.1 X.2.1 hXb.1 hXb.2.1 (by show ¬ cx.2.2 ≤ q; rw [hXb.2.2]; exact Nat.not_le.mpr hXb.2.1) hS (sb_sp hg) hd (kk H locs ls hR hS hl)
theorem x_slen (hXb : va_X q L xs s s.heap ∧ q < s.heap.size ∧ cx.2.2 = s.heap.size) (X : XC p s m args meth c cx b nL rt own mn) (hd : decode b pc = .ok (.arraylength, 1)) (kk : XW p l e R s m args below meth c Q cx nL D P nx cells slots (pc + 1) lv (.int (Int32.ofNat L) :: st)) : XW p l e R s m args below meth c Q cx nL D P nx cells slots pc lv (.ref q :: st) :=
  fun H locs ls hR hS hl => va_slen X.1 X.2.1 hXb.1 hXb.2.1 (by show ¬ cx.2.2 ≤ q; rw [hXb.2.2]; exact Nat.not_le.mpr hXb.2.1) hS hd (kk H locs ls hR hS hl)
theorem x_lawret (hcx : cx.2.2 = s.heap.size) (X : XC p s m args meth c cx code nL ret own mn) (hd : decode code pc = .ok (.ireturn, 1)) (ha : args = #[Value.ref q] := by rfl) (h1 : cells ≤ 600000 := by first | exact Nat.le_of_ble_eq_true rfl) (h2 : slots ≤ 7302250 := by first | exact Nat.le_of_ble_eq_true rfl) : XW p l e room_1 s m args below meth c (lw_Z below #[Value.ref q] s) cx nL D P nx cells slots pc lv [.int 1] := by
  subst ha
  intro H locs ls hR hS hl
  obtain ⟨hx, hb, hml, hr, hown, hts, hK, hlk, hmn⟩ := X
  exact va_forget (fun q hq => by have := hS.2.2 q hq; unfold AA at this; rw [hcx] at this; exact this) (W.widen h1 h2 (lw_ret hx hb hr hlk hd))
theorem x_callIH (hF : SF cx sa sv s) (X : XC p s m args meth c cx b nL rt own mn) {idx a lvl nL' nA mc ms nx' : Nat} {y : MethodName} {b' : ByteArray} {As : List Value} {st0 : List Value} {D' : Dt} {P' : Ft}
    (hM : Met l y (.code y b' nL' none :: wT) (rmc lvl mc ms) (va_Pc (.ref (cx.2.2 + a) :: As) (fun U => Wd cx D P nx U ∧ SF cx sa sv U)) (Qx cx none D' P' nx') mc ms (AA cx)) (hd : decode b pc = .ok (.invokespecial idx, 3)) (hw : Cond.methodLink own idx y ∈ wT) (hm : MI y b' nL' nA) (hn : As.length = nA) (hR : lvl + 1 ≤ R.frames ∧ 8 + (nL' + 11) + 60 * lvl ≤ R.locals) (hf : cells + mc ≤ R.cells ∧ slots + ms ≤ R.slots) (hs0 : As.reverse ++ .ref (cx.2.2 + a) :: st = st0) (hcat : (st.map fun v => v.category).sum ≤ 8)
    (kk : XW p l e R s m args below meth c Q cx nL D' P' nx' (cells + mc) (slots + ms) (pc + 3) lv st) : XW p l e R s m args below meth c Q cx nL D P nx cells slots pc lv st0 := by
  subst hs0
  intro H locs ls hRp hS hl
  obtain ⟨hx, hb, hml, hr, hown, hts, hK, hlk, hmn⟩ := X
  obtain ⟨m1, m2, m3, m4, m5, m6, m7⟩ := hm
  exact x_back (mc := mc) (ms := ms) (va_runI (As := As) (rest := st) (nL := nL) ⟨hx, hb, hml, hown, hts⟩ hM ⟨callB_of nA hts (good_wT m1) rfl rfl rfl (hts _ m4) (hts _ hw) ⟨m5, m6, m7⟩ hR, m3, hts _ m2⟩ ⟨fun a U g mk q => ⟨q.1, (Wd.blind (av := (.ref (cx.2.2 + _) :: As)) a U g mk ⟨q.1, q.2.1⟩).2, q.2.2.calling⟩, fun U hU hW => ⟨rfl, Wd.pre hRp hK hU hW, hF.pre hU hS hW⟩⟩ rfl hn hl.1 rfl (lv_room hcat) hd hf) hS hl rfl kk
end XL
/-- the skeleton: see 01 -/
theorem w_54 : Cond.initialized "HeartPins" ∈ wT := mT 54 (by decide +kernel) rfl
theorem w_68 : Cond.initialized "HeartPinsModel" ∈ wT := mT 68 (by decide +kernel) rfl
theorem w_70 : Cond.classLink "HeartPinsLaw" 7 "HeartPins" ∈ wT := mT 70 (by decide +kernel) rfl
theorem w_71 : Cond.instantiable "HeartPins" 11 ∈ wT := mT 71 (by decide +kernel) rfl
theorem w_72 : Cond.methodLink "HeartPinsLaw" 9 ⟨"HeartPins", "<init>", "()V"⟩ ∈ wT := mT 72 (by decide +kernel) rfl
theorem w_456 : Cond.methodLink "HeartPinsLaw" 13 ⟨"HeartPins", "write", "(I)I"⟩ ∈ wT := mT 456 (by decide +kernel) rfl
theorem w_461 : Cond.methodLink "HeartPinsLaw" 18 ⟨"HeartPins", "wipe", "()I"⟩ ∈ wT := mT 461 (by decide +kernel) rfl
theorem w_465 : Cond.methodLink "HeartPinsLaw" 23 ⟨"HeartPins", "fault", "()I"⟩ ∈ wT := mT 465 (by decide +kernel) rfl
theorem w_469 : Cond.methodLink "HeartPinsLaw" 27 ⟨"HeartPins", "lay", "()I"⟩ ∈ wT := mT 469 (by decide +kernel) rfl
theorem w_470 : Cond.methodLink "HeartPinsLaw" 31 ⟨"HeartPins", "person", "(II)I"⟩ ∈ wT := mT 470 (by decide +kernel) rfl
theorem w_497 : Cond.methodLink "HeartPinsLaw" 36 ⟨"HeartPins", "pin", "(II)I"⟩ ∈ wT := mT 497 (by decide +kernel) rfl
theorem w_521 : Cond.methodLink "HeartPinsLaw" 40 ⟨"HeartPins", "heart", "(I)I"⟩ ∈ wT := mT 521 (by decide +kernel) rfl
theorem w_538 : Cond.methodLink "HeartPinsLaw" 44 ⟨"HeartPins", "stick", "(I)I"⟩ ∈ wT := mT 538 (by decide +kernel) rfl
theorem w_569 : Cond.methodLink "HeartPinsLaw" 48 ⟨"HeartPins", "feel", "(II)I"⟩ ∈ wT := mT 569 (by decide +kernel) rfl
theorem w_583 : Cond.methodLink "HeartPinsLaw" 52 ⟨"HeartPins", "bear", "(II)I"⟩ ∈ wT := mT 583 (by decide +kernel) rfl
theorem w_596 : Cond.methodLink "HeartPinsLaw" 56 ⟨"HeartPins", "pass", "(I)I"⟩ ∈ wT := mT 596 (by decide +kernel) rfl
theorem w_626 : Cond.methodLink "HeartPinsLaw" 60 ⟨"HeartPins", "undo", "()I"⟩ ∈ wT := mT 626 (by decide +kernel) rfl
theorem w_634 : Cond.methodLink "HeartPinsLaw" 64 ⟨"HeartPins", "behind", "(II)I"⟩ ∈ wT := mT 634 (by decide +kernel) rfl
theorem w_643 : Cond.methodLink "HeartPinsLaw" 68 ⟨"HeartPins", "walked", "(I)I"⟩ ∈ wT := mT 643 (by decide +kernel) rfl
theorem w_647 : Cond.methodLink "HeartPinsLaw" 72 ⟨"HeartPins", "breaks", "(I)I"⟩ ∈ wT := mT 647 (by decide +kernel) rfl
theorem w_652 : Cond.methodLink "HeartPinsLaw" 76 ⟨"HeartPins", "door", "()I"⟩ ∈ wT := mT 652 (by decide +kernel) rfl
theorem w_656 : Cond.methodLink "HeartPinsLaw" 80 ⟨"HeartPins", "best", "(II)I"⟩ ∈ wT := mT 656 (by decide +kernel) rfl
theorem w_687 : Cond.methodLink "HeartPinsLaw" 84 ⟨"HeartPins", "share", "(I)I"⟩ ∈ wT := mT 687 (by decide +kernel) rfl
theorem w_713 : Cond.methodLink "HeartPinsLaw" 88 ⟨"HeartPins", "relief", "(I)I"⟩ ∈ wT := mT 713 (by decide +kernel) rfl
theorem w_721 : Cond.methodLink "HeartPinsLaw" 92 ⟨"HeartPins", "pair", "(I)I"⟩ ∈ wT := mT 721 (by decide +kernel) rfl
theorem w_729 : Cond.methodLink "HeartPinsLaw" 96 ⟨"HeartPins", "see", "(III)I"⟩ ∈ wT := mT 729 (by decide +kernel) rfl
theorem w_738 : Cond.methodLink "HeartPinsLaw" 101 ⟨"HeartPins", "mark", "(I)I"⟩ ∈ wT := mT 738 (by decide +kernel) rfl
theorem w_746 : Cond.methodLink "HeartPinsLaw" 105 ⟨"HeartPins", "forget", "()I"⟩ ∈ wT := mT 746 (by decide +kernel) rfl
theorem w_750 : Cond.methodLink "HeartPinsLaw" 109 ⟨"HeartPins", "kinds", "(I)I"⟩ ∈ wT := mT 750 (by decide +kernel) rfl
theorem w_762 : Cond.methodLink "HeartPinsLaw" 113 ⟨"HeartPins", "which", "(II)I"⟩ ∈ wT := mT 762 (by decide +kernel) rfl
theorem w_792 : Cond.methodLink "HeartPinsLaw" 117 ⟨"HeartPins", "bad", "(IIII)I"⟩ ∈ wT := mT 792 (by decide +kernel) rfl
theorem w_822 : Cond.methodLink "HeartPinsLaw" 122 ⟨"HeartPins", "month", "(III)I"⟩ ∈ wT := mT 822 (by decide +kernel) rfl
theorem w_840 : Cond.methodLink "HeartPinsLaw" 126 ⟨"HeartPins", "keep", "()I"⟩ ∈ wT := mT 840 (by decide +kernel) rfl
theorem w_844 : Cond.methodLink "HeartPinsLaw" 130 ⟨"HeartPins", "back", "()I"⟩ ∈ wT := mT 844 (by decide +kernel) rfl
theorem w_848 : Cond.methodLink "HeartPinsLaw" 134 ⟨"HeartPins", "count", "(I)I"⟩ ∈ wT := mT 848 (by decide +kernel) rfl
theorem w_859 : Cond.classLink "HeartPinsLaw" 10 "HeartPinsModel" ∈ wT := mT 859 (by decide +kernel) rfl
theorem w_860 : Cond.instantiable "HeartPinsModel" 26 ∈ wT := mT 860 (by decide +kernel) rfl
theorem w_861 : Cond.methodLink "HeartPinsLaw" 12 ⟨"HeartPinsModel", "<init>", "()V"⟩ ∈ wT := mT 861 (by decide +kernel) rfl
theorem w_968 : Cond.methodLink "HeartPinsLaw" 17 ⟨"HeartPinsModel", "write", "(I)I"⟩ ∈ wT := mT 968 (by decide +kernel) rfl
theorem w_975 : Cond.methodLink "HeartPinsLaw" 22 ⟨"HeartPinsModel", "wipe", "()I"⟩ ∈ wT := mT 975 (by decide +kernel) rfl
theorem w_979 : Cond.methodLink "HeartPinsLaw" 26 ⟨"HeartPinsModel", "fault", "()I"⟩ ∈ wT := mT 979 (by decide +kernel) rfl
theorem w_1019 : Cond.methodLink "HeartPinsLaw" 30 ⟨"HeartPinsModel", "lay", "()I"⟩ ∈ wT := mT 1019 (by decide +kernel) rfl
theorem w_1023 : Cond.methodLink "HeartPinsLaw" 35 ⟨"HeartPinsModel", "person", "(II)I"⟩ ∈ wT := mT 1023 (by decide +kernel) rfl
theorem w_1050 : Cond.methodLink "HeartPinsLaw" 39 ⟨"HeartPinsModel", "pin", "(II)I"⟩ ∈ wT := mT 1050 (by decide +kernel) rfl
theorem w_1061 : Cond.methodLink "HeartPinsLaw" 43 ⟨"HeartPinsModel", "heart", "(I)I"⟩ ∈ wT := mT 1061 (by decide +kernel) rfl
theorem w_1073 : Cond.methodLink "HeartPinsLaw" 47 ⟨"HeartPinsModel", "stick", "(I)I"⟩ ∈ wT := mT 1073 (by decide +kernel) rfl
theorem w_1081 : Cond.methodLink "HeartPinsLaw" 51 ⟨"HeartPinsModel", "feel", "(II)I"⟩ ∈ wT := mT 1081 (by decide +kernel) rfl
theorem w_1085 : Cond.methodLink "HeartPinsLaw" 55 ⟨"HeartPinsModel", "bear", "(II)I"⟩ ∈ wT := mT 1085 (by decide +kernel) rfl
theorem w_1089 : Cond.methodLink "HeartPinsLaw" 59 ⟨"HeartPinsModel", "pass", "(I)I"⟩ ∈ wT := mT 1089 (by decide +kernel) rfl
theorem w_1100 : Cond.methodLink "HeartPinsLaw" 63 ⟨"HeartPinsModel", "undo", "()I"⟩ ∈ wT := mT 1100 (by decide +kernel) rfl
theorem w_1104 : Cond.methodLink "HeartPinsLaw" 67 ⟨"HeartPinsModel", "behind", "(II)I"⟩ ∈ wT := mT 1104 (by decide +kernel) rfl
theorem w_1116 : Cond.methodLink "HeartPinsLaw" 71 ⟨"HeartPinsModel", "walked", "(I)I"⟩ ∈ wT := mT 1116 (by decide +kernel) rfl
theorem w_1120 : Cond.methodLink "HeartPinsLaw" 75 ⟨"HeartPinsModel", "breaks", "(I)I"⟩ ∈ wT := mT 1120 (by decide +kernel) rfl
theorem w_1124 : Cond.methodLink "HeartPinsLaw" 79 ⟨"HeartPinsModel", "door", "()I"⟩ ∈ wT := mT 1124 (by decide +kernel) rfl
theorem w_1128 : Cond.methodLink "HeartPinsLaw" 83 ⟨"HeartPinsModel", "best", "(II)I"⟩ ∈ wT := mT 1128 (by decide +kernel) rfl
theorem w_1147 : Cond.methodLink "HeartPinsLaw" 87 ⟨"HeartPinsModel", "share", "(I)I"⟩ ∈ wT := mT 1147 (by decide +kernel) rfl
theorem w_1156 : Cond.methodLink "HeartPinsLaw" 91 ⟨"HeartPinsModel", "relief", "(I)I"⟩ ∈ wT := mT 1156 (by decide +kernel) rfl
theorem w_1164 : Cond.methodLink "HeartPinsLaw" 95 ⟨"HeartPinsModel", "pair", "(I)I"⟩ ∈ wT := mT 1164 (by decide +kernel) rfl
theorem w_1168 : Cond.methodLink "HeartPinsLaw" 100 ⟨"HeartPinsModel", "see", "(III)I"⟩ ∈ wT := mT 1168 (by decide +kernel) rfl
theorem w_1172 : Cond.methodLink "HeartPinsLaw" 104 ⟨"HeartPinsModel", "mark", "(I)I"⟩ ∈ wT := mT 1172 (by decide +kernel) rfl
theorem w_1176 : Cond.methodLink "HeartPinsLaw" 108 ⟨"HeartPinsModel", "forget", "()I"⟩ ∈ wT := mT 1176 (by decide +kernel) rfl
theorem w_1180 : Cond.methodLink "HeartPinsLaw" 112 ⟨"HeartPinsModel", "kinds", "(I)I"⟩ ∈ wT := mT 1180 (by decide +kernel) rfl
theorem w_1188 : Cond.methodLink "HeartPinsLaw" 116 ⟨"HeartPinsModel", "which", "(II)I"⟩ ∈ wT := mT 1188 (by decide +kernel) rfl
theorem w_1196 : Cond.methodLink "HeartPinsLaw" 121 ⟨"HeartPinsModel", "bad", "(IIII)I"⟩ ∈ wT := mT 1196 (by decide +kernel) rfl
theorem w_1204 : Cond.methodLink "HeartPinsLaw" 125 ⟨"HeartPinsModel", "month", "(III)I"⟩ ∈ wT := mT 1204 (by decide +kernel) rfl
theorem w_1215 : Cond.methodLink "HeartPinsLaw" 129 ⟨"HeartPinsModel", "keep", "()I"⟩ ∈ wT := mT 1215 (by decide +kernel) rfl
theorem w_1219 : Cond.methodLink "HeartPinsLaw" 133 ⟨"HeartPinsModel", "back", "()I"⟩ ∈ wT := mT 1219 (by decide +kernel) rfl
theorem w_1223 : Cond.methodLink "HeartPinsLaw" 137 ⟨"HeartPinsModel", "count", "(I)I"⟩ ∈ wT := mT 1223 (by decide +kernel) rfl
theorem dL_law_0 : decode code 0 = .ok (.new 7, 3) := by decide +kernel
theorem dL_law_3 : decode code 3 = .ok (.dup, 1) := by decide +kernel
theorem dL_law_4 : decode code 4 = .ok (.invokespecial 9, 3) := by decide +kernel
theorem dL_law_7 : decode code 7 = .ok (.astore_n 1, 1) := by decide +kernel
theorem dL_law_8 : decode code 8 = .ok (.new 10, 3) := by decide +kernel
theorem dL_law_11 : decode code 11 = .ok (.dup, 1) := by decide +kernel
theorem dL_law_12 : decode code 12 = .ok (.invokespecial 12, 3) := by decide +kernel
theorem dL_law_15 : decode code 15 = .ok (.astore_n 2, 1) := by decide +kernel
theorem dL_law_16 : decode code 16 = .ok (.iconst 0, 1) := by decide +kernel
theorem dL_law_17 : decode code 17 = .ok (.istore_n 3, 1) := by decide +kernel
theorem dL_law_18 : decode code 18 = .ok (.iload_n 3, 1) := by decide +kernel
theorem dL_law_19 : decode code 19 = .ok (.aload_n 0, 1) := by decide +kernel
theorem dL_law_20 : decode code 20 = .ok (.arraylength, 1) := by decide +kernel
theorem dL_law_21 : decode code 21 = .ok (.iconst 5, 1) := by decide +kernel
theorem dL_law_22 : decode code 22 = .ok (.isub, 1) := by decide +kernel
theorem dL_law_23 : decode code 23 = .ok (.if_icmp .gt 901, 3) := by decide +kernel
theorem dL_law_26 : decode code 26 = .ok (.aload_n 0, 1) := by decide +kernel
theorem dL_law_27 : decode code 27 = .ok (.iload_n 3, 1) := by decide +kernel
theorem dL_law_28 : decode code 28 = .ok (.iaload, 1) := by decide +kernel
theorem dL_law_29 : decode code 29 = .ok (.bipush 31, 2) := by decide +kernel
theorem dL_law_31 : decode code 31 = .ok (.iand, 1) := by decide +kernel
theorem dL_law_32 : decode code 32 = .ok (.tableswitch 886 0 29 #[136, 159, 172, 185, 198, 231, 264, 287, 310, 343, 376, 399, 412, 445, 468, 491, 504, 537, 560, 583, 606, 649, 672, 685, 708, 741, 794, 837, 850, 863], 136) := by decide +kernel
theorem dL_law_168 : decode code 168 = .ok (.aload_n 1, 1) := by decide +kernel
theorem dL_law_169 : decode code 169 = .ok (.aload_n 0, 1) := by decide +kernel
theorem dL_law_170 : decode code 170 = .ok (.iload_n 3, 1) := by decide +kernel
theorem dL_law_171 : decode code 171 = .ok (.iconst 1, 1) := by decide +kernel
theorem dL_law_172 : decode code 172 = .ok (.iadd, 1) := by decide +kernel
theorem dL_law_173 : decode code 173 = .ok (.iaload, 1) := by decide +kernel
theorem dL_law_174 : decode code 174 = .ok (.invokevirtual 13, 3) := by decide +kernel
theorem dL_law_177 : decode code 177 = .ok (.aload_n 2, 1) := by decide +kernel
theorem dL_law_178 : decode code 178 = .ok (.aload_n 0, 1) := by decide +kernel
theorem dL_law_179 : decode code 179 = .ok (.iload_n 3, 1) := by decide +kernel
theorem dL_law_180 : decode code 180 = .ok (.iconst 1, 1) := by decide +kernel
theorem dL_law_181 : decode code 181 = .ok (.iadd, 1) := by decide +kernel
theorem dL_law_182 : decode code 182 = .ok (.iaload, 1) := by decide +kernel
theorem dL_law_183 : decode code 183 = .ok (.invokevirtual 17, 3) := by decide +kernel
theorem dL_law_186 : decode code 186 = .ok (.if_icmp .eq 732, 3) := by decide +kernel
theorem dL_law_189 : decode code 189 = .ok (.iconst 0, 1) := by decide +kernel
theorem dL_law_190 : decode code 190 = .ok (.ireturn, 1) := by decide +kernel
theorem dL_law_191 : decode code 191 = .ok (.aload_n 1, 1) := by decide +kernel
theorem dL_law_192 : decode code 192 = .ok (.invokevirtual 18, 3) := by decide +kernel
theorem dL_law_195 : decode code 195 = .ok (.aload_n 2, 1) := by decide +kernel
theorem dL_law_196 : decode code 196 = .ok (.invokevirtual 22, 3) := by decide +kernel
theorem dL_law_199 : decode code 199 = .ok (.if_icmp .eq 719, 3) := by decide +kernel
theorem dL_law_202 : decode code 202 = .ok (.iconst 0, 1) := by decide +kernel
theorem dL_law_203 : decode code 203 = .ok (.ireturn, 1) := by decide +kernel
theorem dL_law_204 : decode code 204 = .ok (.aload_n 1, 1) := by decide +kernel
theorem dL_law_205 : decode code 205 = .ok (.invokevirtual 23, 3) := by decide +kernel
theorem dL_law_208 : decode code 208 = .ok (.aload_n 2, 1) := by decide +kernel
theorem dL_law_209 : decode code 209 = .ok (.invokevirtual 26, 3) := by decide +kernel
theorem dL_law_212 : decode code 212 = .ok (.if_icmp .eq 706, 3) := by decide +kernel
theorem dL_law_215 : decode code 215 = .ok (.iconst 0, 1) := by decide +kernel
theorem dL_law_216 : decode code 216 = .ok (.ireturn, 1) := by decide +kernel
theorem dL_law_217 : decode code 217 = .ok (.aload_n 1, 1) := by decide +kernel
theorem dL_law_218 : decode code 218 = .ok (.invokevirtual 27, 3) := by decide +kernel
theorem dL_law_221 : decode code 221 = .ok (.aload_n 2, 1) := by decide +kernel
theorem dL_law_222 : decode code 222 = .ok (.invokevirtual 30, 3) := by decide +kernel
theorem dL_law_225 : decode code 225 = .ok (.if_icmp .eq 693, 3) := by decide +kernel
theorem dL_law_228 : decode code 228 = .ok (.iconst 0, 1) := by decide +kernel
theorem dL_law_229 : decode code 229 = .ok (.ireturn, 1) := by decide +kernel
theorem dL_law_230 : decode code 230 = .ok (.aload_n 1, 1) := by decide +kernel
theorem dL_law_231 : decode code 231 = .ok (.aload_n 0, 1) := by decide +kernel
theorem dL_law_232 : decode code 232 = .ok (.iload_n 3, 1) := by decide +kernel
theorem dL_law_233 : decode code 233 = .ok (.iconst 1, 1) := by decide +kernel
theorem dL_law_234 : decode code 234 = .ok (.iadd, 1) := by decide +kernel
theorem dL_law_235 : decode code 235 = .ok (.iaload, 1) := by decide +kernel
theorem dL_law_236 : decode code 236 = .ok (.aload_n 0, 1) := by decide +kernel
theorem dL_law_237 : decode code 237 = .ok (.iload_n 3, 1) := by decide +kernel
theorem dL_law_238 : decode code 238 = .ok (.iconst 2, 1) := by decide +kernel
theorem dL_law_239 : decode code 239 = .ok (.iadd, 1) := by decide +kernel
theorem dL_law_240 : decode code 240 = .ok (.iaload, 1) := by decide +kernel
theorem dL_law_241 : decode code 241 = .ok (.invokevirtual 31, 3) := by decide +kernel
theorem dL_law_244 : decode code 244 = .ok (.aload_n 2, 1) := by decide +kernel
theorem dL_law_245 : decode code 245 = .ok (.aload_n 0, 1) := by decide +kernel
theorem dL_law_246 : decode code 246 = .ok (.iload_n 3, 1) := by decide +kernel
theorem dL_law_247 : decode code 247 = .ok (.iconst 1, 1) := by decide +kernel
theorem dL_law_248 : decode code 248 = .ok (.iadd, 1) := by decide +kernel
theorem dL_law_249 : decode code 249 = .ok (.iaload, 1) := by decide +kernel
theorem dL_law_250 : decode code 250 = .ok (.aload_n 0, 1) := by decide +kernel
theorem dL_law_251 : decode code 251 = .ok (.iload_n 3, 1) := by decide +kernel
theorem dL_law_252 : decode code 252 = .ok (.iconst 2, 1) := by decide +kernel
theorem dL_law_253 : decode code 253 = .ok (.iadd, 1) := by decide +kernel
theorem dL_law_254 : decode code 254 = .ok (.iaload, 1) := by decide +kernel
theorem dL_law_255 : decode code 255 = .ok (.invokevirtual 35, 3) := by decide +kernel
theorem dL_law_258 : decode code 258 = .ok (.if_icmp .eq 660, 3) := by decide +kernel
theorem dL_law_261 : decode code 261 = .ok (.iconst 0, 1) := by decide +kernel
theorem dL_law_262 : decode code 262 = .ok (.ireturn, 1) := by decide +kernel
theorem dL_law_263 : decode code 263 = .ok (.aload_n 1, 1) := by decide +kernel
theorem dL_law_264 : decode code 264 = .ok (.aload_n 0, 1) := by decide +kernel
theorem dL_law_265 : decode code 265 = .ok (.iload_n 3, 1) := by decide +kernel
theorem dL_law_266 : decode code 266 = .ok (.iconst 1, 1) := by decide +kernel
theorem dL_law_267 : decode code 267 = .ok (.iadd, 1) := by decide +kernel
theorem dL_law_268 : decode code 268 = .ok (.iaload, 1) := by decide +kernel
theorem dL_law_269 : decode code 269 = .ok (.aload_n 0, 1) := by decide +kernel
theorem dL_law_270 : decode code 270 = .ok (.iload_n 3, 1) := by decide +kernel
theorem dL_law_271 : decode code 271 = .ok (.iconst 2, 1) := by decide +kernel
theorem dL_law_272 : decode code 272 = .ok (.iadd, 1) := by decide +kernel
theorem dL_law_273 : decode code 273 = .ok (.iaload, 1) := by decide +kernel
theorem dL_law_274 : decode code 274 = .ok (.invokevirtual 36, 3) := by decide +kernel
theorem dL_law_277 : decode code 277 = .ok (.aload_n 2, 1) := by decide +kernel
theorem dL_law_278 : decode code 278 = .ok (.aload_n 0, 1) := by decide +kernel
theorem dL_law_279 : decode code 279 = .ok (.iload_n 3, 1) := by decide +kernel
theorem dL_law_280 : decode code 280 = .ok (.iconst 1, 1) := by decide +kernel
theorem dL_law_281 : decode code 281 = .ok (.iadd, 1) := by decide +kernel
theorem dL_law_282 : decode code 282 = .ok (.iaload, 1) := by decide +kernel
theorem dL_law_283 : decode code 283 = .ok (.aload_n 0, 1) := by decide +kernel
theorem dL_law_284 : decode code 284 = .ok (.iload_n 3, 1) := by decide +kernel
theorem dL_law_285 : decode code 285 = .ok (.iconst 2, 1) := by decide +kernel
theorem dL_law_286 : decode code 286 = .ok (.iadd, 1) := by decide +kernel
theorem dL_law_287 : decode code 287 = .ok (.iaload, 1) := by decide +kernel
theorem dL_law_288 : decode code 288 = .ok (.invokevirtual 39, 3) := by decide +kernel
theorem dL_law_291 : decode code 291 = .ok (.if_icmp .eq 627, 3) := by decide +kernel
theorem dL_law_294 : decode code 294 = .ok (.iconst 0, 1) := by decide +kernel
theorem dL_law_295 : decode code 295 = .ok (.ireturn, 1) := by decide +kernel
theorem dL_law_296 : decode code 296 = .ok (.aload_n 1, 1) := by decide +kernel
theorem dL_law_297 : decode code 297 = .ok (.aload_n 0, 1) := by decide +kernel
theorem dL_law_298 : decode code 298 = .ok (.iload_n 3, 1) := by decide +kernel
theorem dL_law_299 : decode code 299 = .ok (.iconst 1, 1) := by decide +kernel
theorem dL_law_300 : decode code 300 = .ok (.iadd, 1) := by decide +kernel
theorem dL_law_301 : decode code 301 = .ok (.iaload, 1) := by decide +kernel
theorem dL_law_302 : decode code 302 = .ok (.invokevirtual 40, 3) := by decide +kernel
theorem dL_law_305 : decode code 305 = .ok (.aload_n 2, 1) := by decide +kernel
theorem dL_law_306 : decode code 306 = .ok (.aload_n 0, 1) := by decide +kernel
theorem dL_law_307 : decode code 307 = .ok (.iload_n 3, 1) := by decide +kernel
theorem dL_law_308 : decode code 308 = .ok (.iconst 1, 1) := by decide +kernel
theorem dL_law_309 : decode code 309 = .ok (.iadd, 1) := by decide +kernel
theorem dL_law_310 : decode code 310 = .ok (.iaload, 1) := by decide +kernel
theorem dL_law_311 : decode code 311 = .ok (.invokevirtual 43, 3) := by decide +kernel
theorem dL_law_314 : decode code 314 = .ok (.if_icmp .eq 604, 3) := by decide +kernel
theorem dL_law_317 : decode code 317 = .ok (.iconst 0, 1) := by decide +kernel
theorem dL_law_318 : decode code 318 = .ok (.ireturn, 1) := by decide +kernel
theorem dL_law_319 : decode code 319 = .ok (.aload_n 1, 1) := by decide +kernel
theorem dL_law_320 : decode code 320 = .ok (.aload_n 0, 1) := by decide +kernel
theorem dL_law_321 : decode code 321 = .ok (.iload_n 3, 1) := by decide +kernel
theorem dL_law_322 : decode code 322 = .ok (.iconst 1, 1) := by decide +kernel
theorem dL_law_323 : decode code 323 = .ok (.iadd, 1) := by decide +kernel
theorem dL_law_324 : decode code 324 = .ok (.iaload, 1) := by decide +kernel
theorem dL_law_325 : decode code 325 = .ok (.invokevirtual 44, 3) := by decide +kernel
theorem dL_law_328 : decode code 328 = .ok (.aload_n 2, 1) := by decide +kernel
theorem dL_law_329 : decode code 329 = .ok (.aload_n 0, 1) := by decide +kernel
theorem dL_law_330 : decode code 330 = .ok (.iload_n 3, 1) := by decide +kernel
theorem dL_law_331 : decode code 331 = .ok (.iconst 1, 1) := by decide +kernel
theorem dL_law_332 : decode code 332 = .ok (.iadd, 1) := by decide +kernel
theorem dL_law_333 : decode code 333 = .ok (.iaload, 1) := by decide +kernel
theorem dL_law_334 : decode code 334 = .ok (.invokevirtual 47, 3) := by decide +kernel
theorem dL_law_337 : decode code 337 = .ok (.if_icmp .eq 581, 3) := by decide +kernel
theorem dL_law_340 : decode code 340 = .ok (.iconst 0, 1) := by decide +kernel
theorem dL_law_341 : decode code 341 = .ok (.ireturn, 1) := by decide +kernel
theorem dL_law_342 : decode code 342 = .ok (.aload_n 1, 1) := by decide +kernel
theorem dL_law_343 : decode code 343 = .ok (.aload_n 0, 1) := by decide +kernel
theorem dL_law_344 : decode code 344 = .ok (.iload_n 3, 1) := by decide +kernel
theorem dL_law_345 : decode code 345 = .ok (.iconst 1, 1) := by decide +kernel
theorem dL_law_346 : decode code 346 = .ok (.iadd, 1) := by decide +kernel
theorem dL_law_347 : decode code 347 = .ok (.iaload, 1) := by decide +kernel
theorem dL_law_348 : decode code 348 = .ok (.aload_n 0, 1) := by decide +kernel
theorem dL_law_349 : decode code 349 = .ok (.iload_n 3, 1) := by decide +kernel
theorem dL_law_350 : decode code 350 = .ok (.iconst 2, 1) := by decide +kernel
theorem dL_law_351 : decode code 351 = .ok (.iadd, 1) := by decide +kernel
theorem dL_law_352 : decode code 352 = .ok (.iaload, 1) := by decide +kernel
theorem dL_law_353 : decode code 353 = .ok (.invokevirtual 48, 3) := by decide +kernel
theorem dL_law_356 : decode code 356 = .ok (.aload_n 2, 1) := by decide +kernel
theorem dL_law_357 : decode code 357 = .ok (.aload_n 0, 1) := by decide +kernel
theorem dL_law_358 : decode code 358 = .ok (.iload_n 3, 1) := by decide +kernel
theorem dL_law_359 : decode code 359 = .ok (.iconst 1, 1) := by decide +kernel
theorem dL_law_360 : decode code 360 = .ok (.iadd, 1) := by decide +kernel
theorem dL_law_361 : decode code 361 = .ok (.iaload, 1) := by decide +kernel
theorem dL_law_362 : decode code 362 = .ok (.aload_n 0, 1) := by decide +kernel
theorem dL_law_363 : decode code 363 = .ok (.iload_n 3, 1) := by decide +kernel
theorem dL_law_364 : decode code 364 = .ok (.iconst 2, 1) := by decide +kernel
theorem dL_law_365 : decode code 365 = .ok (.iadd, 1) := by decide +kernel
theorem dL_law_366 : decode code 366 = .ok (.iaload, 1) := by decide +kernel
theorem dL_law_367 : decode code 367 = .ok (.invokevirtual 51, 3) := by decide +kernel
theorem dL_law_370 : decode code 370 = .ok (.if_icmp .eq 548, 3) := by decide +kernel
theorem dL_law_373 : decode code 373 = .ok (.iconst 0, 1) := by decide +kernel
theorem dL_law_374 : decode code 374 = .ok (.ireturn, 1) := by decide +kernel
theorem dL_law_375 : decode code 375 = .ok (.aload_n 1, 1) := by decide +kernel
theorem dL_law_376 : decode code 376 = .ok (.aload_n 0, 1) := by decide +kernel
theorem dL_law_377 : decode code 377 = .ok (.iload_n 3, 1) := by decide +kernel
theorem dL_law_378 : decode code 378 = .ok (.iconst 1, 1) := by decide +kernel
theorem dL_law_379 : decode code 379 = .ok (.iadd, 1) := by decide +kernel
theorem dL_law_380 : decode code 380 = .ok (.iaload, 1) := by decide +kernel
theorem dL_law_381 : decode code 381 = .ok (.aload_n 0, 1) := by decide +kernel
theorem dL_law_382 : decode code 382 = .ok (.iload_n 3, 1) := by decide +kernel
theorem dL_law_383 : decode code 383 = .ok (.iconst 2, 1) := by decide +kernel
theorem dL_law_384 : decode code 384 = .ok (.iadd, 1) := by decide +kernel
theorem dL_law_385 : decode code 385 = .ok (.iaload, 1) := by decide +kernel
theorem dL_law_386 : decode code 386 = .ok (.invokevirtual 52, 3) := by decide +kernel
theorem dL_law_389 : decode code 389 = .ok (.aload_n 2, 1) := by decide +kernel
theorem dL_law_390 : decode code 390 = .ok (.aload_n 0, 1) := by decide +kernel
theorem dL_law_391 : decode code 391 = .ok (.iload_n 3, 1) := by decide +kernel
theorem dL_law_392 : decode code 392 = .ok (.iconst 1, 1) := by decide +kernel
theorem dL_law_393 : decode code 393 = .ok (.iadd, 1) := by decide +kernel
theorem dL_law_394 : decode code 394 = .ok (.iaload, 1) := by decide +kernel
theorem dL_law_395 : decode code 395 = .ok (.aload_n 0, 1) := by decide +kernel
theorem dL_law_396 : decode code 396 = .ok (.iload_n 3, 1) := by decide +kernel
theorem dL_law_397 : decode code 397 = .ok (.iconst 2, 1) := by decide +kernel
theorem dL_law_398 : decode code 398 = .ok (.iadd, 1) := by decide +kernel
theorem dL_law_399 : decode code 399 = .ok (.iaload, 1) := by decide +kernel
theorem dL_law_400 : decode code 400 = .ok (.invokevirtual 55, 3) := by decide +kernel
theorem dL_law_403 : decode code 403 = .ok (.if_icmp .eq 515, 3) := by decide +kernel
theorem dL_law_406 : decode code 406 = .ok (.iconst 0, 1) := by decide +kernel
theorem dL_law_407 : decode code 407 = .ok (.ireturn, 1) := by decide +kernel
theorem dL_law_408 : decode code 408 = .ok (.aload_n 1, 1) := by decide +kernel
theorem dL_law_409 : decode code 409 = .ok (.aload_n 0, 1) := by decide +kernel
theorem dL_law_410 : decode code 410 = .ok (.iload_n 3, 1) := by decide +kernel
theorem dL_law_411 : decode code 411 = .ok (.iconst 1, 1) := by decide +kernel
theorem dL_law_412 : decode code 412 = .ok (.iadd, 1) := by decide +kernel
theorem dL_law_413 : decode code 413 = .ok (.iaload, 1) := by decide +kernel
theorem dL_law_414 : decode code 414 = .ok (.invokevirtual 56, 3) := by decide +kernel
theorem dL_law_417 : decode code 417 = .ok (.aload_n 2, 1) := by decide +kernel
theorem dL_law_418 : decode code 418 = .ok (.aload_n 0, 1) := by decide +kernel
theorem dL_law_419 : decode code 419 = .ok (.iload_n 3, 1) := by decide +kernel
theorem dL_law_420 : decode code 420 = .ok (.iconst 1, 1) := by decide +kernel
theorem dL_law_421 : decode code 421 = .ok (.iadd, 1) := by decide +kernel
theorem dL_law_422 : decode code 422 = .ok (.iaload, 1) := by decide +kernel
theorem dL_law_423 : decode code 423 = .ok (.invokevirtual 59, 3) := by decide +kernel
theorem dL_law_426 : decode code 426 = .ok (.if_icmp .eq 492, 3) := by decide +kernel
theorem dL_law_429 : decode code 429 = .ok (.iconst 0, 1) := by decide +kernel
theorem dL_law_430 : decode code 430 = .ok (.ireturn, 1) := by decide +kernel
theorem dL_law_431 : decode code 431 = .ok (.aload_n 1, 1) := by decide +kernel
theorem dL_law_432 : decode code 432 = .ok (.invokevirtual 60, 3) := by decide +kernel
theorem dL_law_435 : decode code 435 = .ok (.aload_n 2, 1) := by decide +kernel
theorem dL_law_436 : decode code 436 = .ok (.invokevirtual 63, 3) := by decide +kernel
theorem dL_law_439 : decode code 439 = .ok (.if_icmp .eq 479, 3) := by decide +kernel
theorem dL_law_442 : decode code 442 = .ok (.iconst 0, 1) := by decide +kernel
theorem dL_law_443 : decode code 443 = .ok (.ireturn, 1) := by decide +kernel
theorem dL_law_444 : decode code 444 = .ok (.aload_n 1, 1) := by decide +kernel
theorem dL_law_445 : decode code 445 = .ok (.aload_n 0, 1) := by decide +kernel
theorem dL_law_446 : decode code 446 = .ok (.iload_n 3, 1) := by decide +kernel
theorem dL_law_447 : decode code 447 = .ok (.iconst 1, 1) := by decide +kernel
theorem dL_law_448 : decode code 448 = .ok (.iadd, 1) := by decide +kernel
theorem dL_law_449 : decode code 449 = .ok (.iaload, 1) := by decide +kernel
theorem dL_law_450 : decode code 450 = .ok (.aload_n 0, 1) := by decide +kernel
theorem dL_law_451 : decode code 451 = .ok (.iload_n 3, 1) := by decide +kernel
theorem dL_law_452 : decode code 452 = .ok (.iconst 2, 1) := by decide +kernel
theorem dL_law_453 : decode code 453 = .ok (.iadd, 1) := by decide +kernel
theorem dL_law_454 : decode code 454 = .ok (.iaload, 1) := by decide +kernel
theorem dL_law_455 : decode code 455 = .ok (.invokevirtual 64, 3) := by decide +kernel
theorem dL_law_458 : decode code 458 = .ok (.aload_n 2, 1) := by decide +kernel
theorem dL_law_459 : decode code 459 = .ok (.aload_n 0, 1) := by decide +kernel
theorem dL_law_460 : decode code 460 = .ok (.iload_n 3, 1) := by decide +kernel
theorem dL_law_461 : decode code 461 = .ok (.iconst 1, 1) := by decide +kernel
theorem dL_law_462 : decode code 462 = .ok (.iadd, 1) := by decide +kernel
theorem dL_law_463 : decode code 463 = .ok (.iaload, 1) := by decide +kernel
theorem dL_law_464 : decode code 464 = .ok (.aload_n 0, 1) := by decide +kernel
theorem dL_law_465 : decode code 465 = .ok (.iload_n 3, 1) := by decide +kernel
theorem dL_law_466 : decode code 466 = .ok (.iconst 2, 1) := by decide +kernel
theorem dL_law_467 : decode code 467 = .ok (.iadd, 1) := by decide +kernel
theorem dL_law_468 : decode code 468 = .ok (.iaload, 1) := by decide +kernel
theorem dL_law_469 : decode code 469 = .ok (.invokevirtual 67, 3) := by decide +kernel
theorem dL_law_472 : decode code 472 = .ok (.if_icmp .eq 446, 3) := by decide +kernel
theorem dL_law_475 : decode code 475 = .ok (.iconst 0, 1) := by decide +kernel
theorem dL_law_476 : decode code 476 = .ok (.ireturn, 1) := by decide +kernel
theorem dL_law_477 : decode code 477 = .ok (.aload_n 1, 1) := by decide +kernel
theorem dL_law_478 : decode code 478 = .ok (.aload_n 0, 1) := by decide +kernel
theorem dL_law_479 : decode code 479 = .ok (.iload_n 3, 1) := by decide +kernel
theorem dL_law_480 : decode code 480 = .ok (.iconst 1, 1) := by decide +kernel
theorem dL_law_481 : decode code 481 = .ok (.iadd, 1) := by decide +kernel
theorem dL_law_482 : decode code 482 = .ok (.iaload, 1) := by decide +kernel
theorem dL_law_483 : decode code 483 = .ok (.invokevirtual 68, 3) := by decide +kernel
theorem dL_law_486 : decode code 486 = .ok (.aload_n 2, 1) := by decide +kernel
theorem dL_law_487 : decode code 487 = .ok (.aload_n 0, 1) := by decide +kernel
theorem dL_law_488 : decode code 488 = .ok (.iload_n 3, 1) := by decide +kernel
theorem dL_law_489 : decode code 489 = .ok (.iconst 1, 1) := by decide +kernel
theorem dL_law_490 : decode code 490 = .ok (.iadd, 1) := by decide +kernel
theorem dL_law_491 : decode code 491 = .ok (.iaload, 1) := by decide +kernel
theorem dL_law_492 : decode code 492 = .ok (.invokevirtual 71, 3) := by decide +kernel
theorem dL_law_495 : decode code 495 = .ok (.if_icmp .eq 423, 3) := by decide +kernel
theorem dL_law_498 : decode code 498 = .ok (.iconst 0, 1) := by decide +kernel
theorem dL_law_499 : decode code 499 = .ok (.ireturn, 1) := by decide +kernel
theorem dL_law_500 : decode code 500 = .ok (.aload_n 1, 1) := by decide +kernel
theorem dL_law_501 : decode code 501 = .ok (.aload_n 0, 1) := by decide +kernel
theorem dL_law_502 : decode code 502 = .ok (.iload_n 3, 1) := by decide +kernel
theorem dL_law_503 : decode code 503 = .ok (.iconst 1, 1) := by decide +kernel
theorem dL_law_504 : decode code 504 = .ok (.iadd, 1) := by decide +kernel
theorem dL_law_505 : decode code 505 = .ok (.iaload, 1) := by decide +kernel
theorem dL_law_506 : decode code 506 = .ok (.invokevirtual 72, 3) := by decide +kernel
theorem dL_law_509 : decode code 509 = .ok (.aload_n 2, 1) := by decide +kernel
theorem dL_law_510 : decode code 510 = .ok (.aload_n 0, 1) := by decide +kernel
theorem dL_law_511 : decode code 511 = .ok (.iload_n 3, 1) := by decide +kernel
theorem dL_law_512 : decode code 512 = .ok (.iconst 1, 1) := by decide +kernel
theorem dL_law_513 : decode code 513 = .ok (.iadd, 1) := by decide +kernel
theorem dL_law_514 : decode code 514 = .ok (.iaload, 1) := by decide +kernel
theorem dL_law_515 : decode code 515 = .ok (.invokevirtual 75, 3) := by decide +kernel
theorem dL_law_518 : decode code 518 = .ok (.if_icmp .eq 400, 3) := by decide +kernel
theorem dL_law_521 : decode code 521 = .ok (.iconst 0, 1) := by decide +kernel
theorem dL_law_522 : decode code 522 = .ok (.ireturn, 1) := by decide +kernel
theorem dL_law_523 : decode code 523 = .ok (.aload_n 1, 1) := by decide +kernel
theorem dL_law_524 : decode code 524 = .ok (.invokevirtual 76, 3) := by decide +kernel
theorem dL_law_527 : decode code 527 = .ok (.aload_n 2, 1) := by decide +kernel
theorem dL_law_528 : decode code 528 = .ok (.invokevirtual 79, 3) := by decide +kernel
theorem dL_law_531 : decode code 531 = .ok (.if_icmp .eq 387, 3) := by decide +kernel
theorem dL_law_534 : decode code 534 = .ok (.iconst 0, 1) := by decide +kernel
theorem dL_law_535 : decode code 535 = .ok (.ireturn, 1) := by decide +kernel
theorem dL_law_536 : decode code 536 = .ok (.aload_n 1, 1) := by decide +kernel
theorem dL_law_537 : decode code 537 = .ok (.aload_n 0, 1) := by decide +kernel
theorem dL_law_538 : decode code 538 = .ok (.iload_n 3, 1) := by decide +kernel
theorem dL_law_539 : decode code 539 = .ok (.iconst 1, 1) := by decide +kernel
theorem dL_law_540 : decode code 540 = .ok (.iadd, 1) := by decide +kernel
theorem dL_law_541 : decode code 541 = .ok (.iaload, 1) := by decide +kernel
theorem dL_law_542 : decode code 542 = .ok (.aload_n 0, 1) := by decide +kernel
theorem dL_law_543 : decode code 543 = .ok (.iload_n 3, 1) := by decide +kernel
theorem dL_law_544 : decode code 544 = .ok (.iconst 2, 1) := by decide +kernel
theorem dL_law_545 : decode code 545 = .ok (.iadd, 1) := by decide +kernel
theorem dL_law_546 : decode code 546 = .ok (.iaload, 1) := by decide +kernel
theorem dL_law_547 : decode code 547 = .ok (.invokevirtual 80, 3) := by decide +kernel
theorem dL_law_550 : decode code 550 = .ok (.aload_n 2, 1) := by decide +kernel
theorem dL_law_551 : decode code 551 = .ok (.aload_n 0, 1) := by decide +kernel
theorem dL_law_552 : decode code 552 = .ok (.iload_n 3, 1) := by decide +kernel
theorem dL_law_553 : decode code 553 = .ok (.iconst 1, 1) := by decide +kernel
theorem dL_law_554 : decode code 554 = .ok (.iadd, 1) := by decide +kernel
theorem dL_law_555 : decode code 555 = .ok (.iaload, 1) := by decide +kernel
theorem dL_law_556 : decode code 556 = .ok (.aload_n 0, 1) := by decide +kernel
theorem dL_law_557 : decode code 557 = .ok (.iload_n 3, 1) := by decide +kernel
theorem dL_law_558 : decode code 558 = .ok (.iconst 2, 1) := by decide +kernel
theorem dL_law_559 : decode code 559 = .ok (.iadd, 1) := by decide +kernel
theorem dL_law_560 : decode code 560 = .ok (.iaload, 1) := by decide +kernel
theorem dL_law_561 : decode code 561 = .ok (.invokevirtual 83, 3) := by decide +kernel
theorem dL_law_564 : decode code 564 = .ok (.if_icmp .eq 354, 3) := by decide +kernel
theorem dL_law_567 : decode code 567 = .ok (.iconst 0, 1) := by decide +kernel
theorem dL_law_568 : decode code 568 = .ok (.ireturn, 1) := by decide +kernel
theorem dL_law_569 : decode code 569 = .ok (.aload_n 1, 1) := by decide +kernel
theorem dL_law_570 : decode code 570 = .ok (.aload_n 0, 1) := by decide +kernel
theorem dL_law_571 : decode code 571 = .ok (.iload_n 3, 1) := by decide +kernel
theorem dL_law_572 : decode code 572 = .ok (.iconst 1, 1) := by decide +kernel
theorem dL_law_573 : decode code 573 = .ok (.iadd, 1) := by decide +kernel
theorem dL_law_574 : decode code 574 = .ok (.iaload, 1) := by decide +kernel
theorem dL_law_575 : decode code 575 = .ok (.invokevirtual 84, 3) := by decide +kernel
theorem dL_law_578 : decode code 578 = .ok (.aload_n 2, 1) := by decide +kernel
theorem dL_law_579 : decode code 579 = .ok (.aload_n 0, 1) := by decide +kernel
theorem dL_law_580 : decode code 580 = .ok (.iload_n 3, 1) := by decide +kernel
theorem dL_law_581 : decode code 581 = .ok (.iconst 1, 1) := by decide +kernel
theorem dL_law_582 : decode code 582 = .ok (.iadd, 1) := by decide +kernel
theorem dL_law_583 : decode code 583 = .ok (.iaload, 1) := by decide +kernel
theorem dL_law_584 : decode code 584 = .ok (.invokevirtual 87, 3) := by decide +kernel
theorem dL_law_587 : decode code 587 = .ok (.if_icmp .eq 331, 3) := by decide +kernel
theorem dL_law_590 : decode code 590 = .ok (.iconst 0, 1) := by decide +kernel
theorem dL_law_591 : decode code 591 = .ok (.ireturn, 1) := by decide +kernel
theorem dL_law_592 : decode code 592 = .ok (.aload_n 1, 1) := by decide +kernel
theorem dL_law_593 : decode code 593 = .ok (.aload_n 0, 1) := by decide +kernel
theorem dL_law_594 : decode code 594 = .ok (.iload_n 3, 1) := by decide +kernel
theorem dL_law_595 : decode code 595 = .ok (.iconst 1, 1) := by decide +kernel
theorem dL_law_596 : decode code 596 = .ok (.iadd, 1) := by decide +kernel
theorem dL_law_597 : decode code 597 = .ok (.iaload, 1) := by decide +kernel
theorem dL_law_598 : decode code 598 = .ok (.invokevirtual 88, 3) := by decide +kernel
theorem dL_law_601 : decode code 601 = .ok (.aload_n 2, 1) := by decide +kernel
theorem dL_law_602 : decode code 602 = .ok (.aload_n 0, 1) := by decide +kernel
theorem dL_law_603 : decode code 603 = .ok (.iload_n 3, 1) := by decide +kernel
theorem dL_law_604 : decode code 604 = .ok (.iconst 1, 1) := by decide +kernel
theorem dL_law_605 : decode code 605 = .ok (.iadd, 1) := by decide +kernel
theorem dL_law_606 : decode code 606 = .ok (.iaload, 1) := by decide +kernel
theorem dL_law_607 : decode code 607 = .ok (.invokevirtual 91, 3) := by decide +kernel
theorem dL_law_610 : decode code 610 = .ok (.if_icmp .eq 308, 3) := by decide +kernel
theorem dL_law_613 : decode code 613 = .ok (.iconst 0, 1) := by decide +kernel
theorem dL_law_614 : decode code 614 = .ok (.ireturn, 1) := by decide +kernel
theorem dL_law_615 : decode code 615 = .ok (.aload_n 1, 1) := by decide +kernel
theorem dL_law_616 : decode code 616 = .ok (.aload_n 0, 1) := by decide +kernel
theorem dL_law_617 : decode code 617 = .ok (.iload_n 3, 1) := by decide +kernel
theorem dL_law_618 : decode code 618 = .ok (.iconst 1, 1) := by decide +kernel
theorem dL_law_619 : decode code 619 = .ok (.iadd, 1) := by decide +kernel
theorem dL_law_620 : decode code 620 = .ok (.iaload, 1) := by decide +kernel
theorem dL_law_621 : decode code 621 = .ok (.invokevirtual 92, 3) := by decide +kernel
theorem dL_law_624 : decode code 624 = .ok (.aload_n 2, 1) := by decide +kernel
theorem dL_law_625 : decode code 625 = .ok (.aload_n 0, 1) := by decide +kernel
theorem dL_law_626 : decode code 626 = .ok (.iload_n 3, 1) := by decide +kernel
theorem dL_law_627 : decode code 627 = .ok (.iconst 1, 1) := by decide +kernel
theorem dL_law_628 : decode code 628 = .ok (.iadd, 1) := by decide +kernel
theorem dL_law_629 : decode code 629 = .ok (.iaload, 1) := by decide +kernel
theorem dL_law_630 : decode code 630 = .ok (.invokevirtual 95, 3) := by decide +kernel
theorem dL_law_633 : decode code 633 = .ok (.if_icmp .eq 285, 3) := by decide +kernel
theorem dL_law_636 : decode code 636 = .ok (.iconst 0, 1) := by decide +kernel
theorem dL_law_637 : decode code 637 = .ok (.ireturn, 1) := by decide +kernel
theorem dL_law_638 : decode code 638 = .ok (.aload_n 1, 1) := by decide +kernel
theorem dL_law_639 : decode code 639 = .ok (.aload_n 0, 1) := by decide +kernel
theorem dL_law_640 : decode code 640 = .ok (.iload_n 3, 1) := by decide +kernel
theorem dL_law_641 : decode code 641 = .ok (.iconst 1, 1) := by decide +kernel
theorem dL_law_642 : decode code 642 = .ok (.iadd, 1) := by decide +kernel
theorem dL_law_643 : decode code 643 = .ok (.iaload, 1) := by decide +kernel
theorem dL_law_644 : decode code 644 = .ok (.aload_n 0, 1) := by decide +kernel
theorem dL_law_645 : decode code 645 = .ok (.iload_n 3, 1) := by decide +kernel
theorem dL_law_646 : decode code 646 = .ok (.iconst 2, 1) := by decide +kernel
theorem dL_law_647 : decode code 647 = .ok (.iadd, 1) := by decide +kernel
theorem dL_law_648 : decode code 648 = .ok (.iaload, 1) := by decide +kernel
theorem dL_law_649 : decode code 649 = .ok (.aload_n 0, 1) := by decide +kernel
theorem dL_law_650 : decode code 650 = .ok (.iload_n 3, 1) := by decide +kernel
theorem dL_law_651 : decode code 651 = .ok (.iconst 3, 1) := by decide +kernel
theorem dL_law_652 : decode code 652 = .ok (.iadd, 1) := by decide +kernel
theorem dL_law_653 : decode code 653 = .ok (.iaload, 1) := by decide +kernel
theorem dL_law_654 : decode code 654 = .ok (.invokevirtual 96, 3) := by decide +kernel
theorem dL_law_657 : decode code 657 = .ok (.aload_n 2, 1) := by decide +kernel
theorem dL_law_658 : decode code 658 = .ok (.aload_n 0, 1) := by decide +kernel
theorem dL_law_659 : decode code 659 = .ok (.iload_n 3, 1) := by decide +kernel
theorem dL_law_660 : decode code 660 = .ok (.iconst 1, 1) := by decide +kernel
theorem dL_law_661 : decode code 661 = .ok (.iadd, 1) := by decide +kernel
theorem dL_law_662 : decode code 662 = .ok (.iaload, 1) := by decide +kernel
theorem dL_law_663 : decode code 663 = .ok (.aload_n 0, 1) := by decide +kernel
theorem dL_law_664 : decode code 664 = .ok (.iload_n 3, 1) := by decide +kernel
theorem dL_law_665 : decode code 665 = .ok (.iconst 2, 1) := by decide +kernel
theorem dL_law_666 : decode code 666 = .ok (.iadd, 1) := by decide +kernel
theorem dL_law_667 : decode code 667 = .ok (.iaload, 1) := by decide +kernel
theorem dL_law_668 : decode code 668 = .ok (.aload_n 0, 1) := by decide +kernel
theorem dL_law_669 : decode code 669 = .ok (.iload_n 3, 1) := by decide +kernel
theorem dL_law_670 : decode code 670 = .ok (.iconst 3, 1) := by decide +kernel
theorem dL_law_671 : decode code 671 = .ok (.iadd, 1) := by decide +kernel
theorem dL_law_672 : decode code 672 = .ok (.iaload, 1) := by decide +kernel
theorem dL_law_673 : decode code 673 = .ok (.invokevirtual 100, 3) := by decide +kernel
theorem dL_law_676 : decode code 676 = .ok (.if_icmp .eq 242, 3) := by decide +kernel
theorem dL_law_679 : decode code 679 = .ok (.iconst 0, 1) := by decide +kernel
theorem dL_law_680 : decode code 680 = .ok (.ireturn, 1) := by decide +kernel
theorem dL_law_681 : decode code 681 = .ok (.aload_n 1, 1) := by decide +kernel
theorem dL_law_682 : decode code 682 = .ok (.aload_n 0, 1) := by decide +kernel
theorem dL_law_683 : decode code 683 = .ok (.iload_n 3, 1) := by decide +kernel
theorem dL_law_684 : decode code 684 = .ok (.iconst 1, 1) := by decide +kernel
theorem dL_law_685 : decode code 685 = .ok (.iadd, 1) := by decide +kernel
theorem dL_law_686 : decode code 686 = .ok (.iaload, 1) := by decide +kernel
theorem dL_law_687 : decode code 687 = .ok (.invokevirtual 101, 3) := by decide +kernel
theorem dL_law_690 : decode code 690 = .ok (.aload_n 2, 1) := by decide +kernel
theorem dL_law_691 : decode code 691 = .ok (.aload_n 0, 1) := by decide +kernel
theorem dL_law_692 : decode code 692 = .ok (.iload_n 3, 1) := by decide +kernel
theorem dL_law_693 : decode code 693 = .ok (.iconst 1, 1) := by decide +kernel
theorem dL_law_694 : decode code 694 = .ok (.iadd, 1) := by decide +kernel
theorem dL_law_695 : decode code 695 = .ok (.iaload, 1) := by decide +kernel
theorem dL_law_696 : decode code 696 = .ok (.invokevirtual 104, 3) := by decide +kernel
theorem dL_law_699 : decode code 699 = .ok (.if_icmp .eq 219, 3) := by decide +kernel
theorem dL_law_702 : decode code 702 = .ok (.iconst 0, 1) := by decide +kernel
theorem dL_law_703 : decode code 703 = .ok (.ireturn, 1) := by decide +kernel
theorem dL_law_704 : decode code 704 = .ok (.aload_n 1, 1) := by decide +kernel
theorem dL_law_705 : decode code 705 = .ok (.invokevirtual 105, 3) := by decide +kernel
theorem dL_law_708 : decode code 708 = .ok (.aload_n 2, 1) := by decide +kernel
theorem dL_law_709 : decode code 709 = .ok (.invokevirtual 108, 3) := by decide +kernel
theorem dL_law_712 : decode code 712 = .ok (.if_icmp .eq 206, 3) := by decide +kernel
theorem dL_law_715 : decode code 715 = .ok (.iconst 0, 1) := by decide +kernel
theorem dL_law_716 : decode code 716 = .ok (.ireturn, 1) := by decide +kernel
theorem dL_law_717 : decode code 717 = .ok (.aload_n 1, 1) := by decide +kernel
theorem dL_law_718 : decode code 718 = .ok (.aload_n 0, 1) := by decide +kernel
theorem dL_law_719 : decode code 719 = .ok (.iload_n 3, 1) := by decide +kernel
theorem dL_law_720 : decode code 720 = .ok (.iconst 1, 1) := by decide +kernel
theorem dL_law_721 : decode code 721 = .ok (.iadd, 1) := by decide +kernel
theorem dL_law_722 : decode code 722 = .ok (.iaload, 1) := by decide +kernel
theorem dL_law_723 : decode code 723 = .ok (.invokevirtual 109, 3) := by decide +kernel
theorem dL_law_726 : decode code 726 = .ok (.aload_n 2, 1) := by decide +kernel
theorem dL_law_727 : decode code 727 = .ok (.aload_n 0, 1) := by decide +kernel
theorem dL_law_728 : decode code 728 = .ok (.iload_n 3, 1) := by decide +kernel
theorem dL_law_729 : decode code 729 = .ok (.iconst 1, 1) := by decide +kernel
theorem dL_law_730 : decode code 730 = .ok (.iadd, 1) := by decide +kernel
theorem dL_law_731 : decode code 731 = .ok (.iaload, 1) := by decide +kernel
theorem dL_law_732 : decode code 732 = .ok (.invokevirtual 112, 3) := by decide +kernel
theorem dL_law_735 : decode code 735 = .ok (.if_icmp .eq 183, 3) := by decide +kernel
theorem dL_law_738 : decode code 738 = .ok (.iconst 0, 1) := by decide +kernel
theorem dL_law_739 : decode code 739 = .ok (.ireturn, 1) := by decide +kernel
theorem dL_law_740 : decode code 740 = .ok (.aload_n 1, 1) := by decide +kernel
theorem dL_law_741 : decode code 741 = .ok (.aload_n 0, 1) := by decide +kernel
theorem dL_law_742 : decode code 742 = .ok (.iload_n 3, 1) := by decide +kernel
theorem dL_law_743 : decode code 743 = .ok (.iconst 1, 1) := by decide +kernel
theorem dL_law_744 : decode code 744 = .ok (.iadd, 1) := by decide +kernel
theorem dL_law_745 : decode code 745 = .ok (.iaload, 1) := by decide +kernel
theorem dL_law_746 : decode code 746 = .ok (.aload_n 0, 1) := by decide +kernel
theorem dL_law_747 : decode code 747 = .ok (.iload_n 3, 1) := by decide +kernel
theorem dL_law_748 : decode code 748 = .ok (.iconst 2, 1) := by decide +kernel
theorem dL_law_749 : decode code 749 = .ok (.iadd, 1) := by decide +kernel
theorem dL_law_750 : decode code 750 = .ok (.iaload, 1) := by decide +kernel
theorem dL_law_751 : decode code 751 = .ok (.invokevirtual 113, 3) := by decide +kernel
theorem dL_law_754 : decode code 754 = .ok (.aload_n 2, 1) := by decide +kernel
theorem dL_law_755 : decode code 755 = .ok (.aload_n 0, 1) := by decide +kernel
theorem dL_law_756 : decode code 756 = .ok (.iload_n 3, 1) := by decide +kernel
theorem dL_law_757 : decode code 757 = .ok (.iconst 1, 1) := by decide +kernel
theorem dL_law_758 : decode code 758 = .ok (.iadd, 1) := by decide +kernel
theorem dL_law_759 : decode code 759 = .ok (.iaload, 1) := by decide +kernel
theorem dL_law_760 : decode code 760 = .ok (.aload_n 0, 1) := by decide +kernel
theorem dL_law_761 : decode code 761 = .ok (.iload_n 3, 1) := by decide +kernel
theorem dL_law_762 : decode code 762 = .ok (.iconst 2, 1) := by decide +kernel
theorem dL_law_763 : decode code 763 = .ok (.iadd, 1) := by decide +kernel
theorem dL_law_764 : decode code 764 = .ok (.iaload, 1) := by decide +kernel
theorem dL_law_765 : decode code 765 = .ok (.invokevirtual 116, 3) := by decide +kernel
theorem dL_law_768 : decode code 768 = .ok (.if_icmp .eq 150, 3) := by decide +kernel
theorem dL_law_771 : decode code 771 = .ok (.iconst 0, 1) := by decide +kernel
theorem dL_law_772 : decode code 772 = .ok (.ireturn, 1) := by decide +kernel
theorem dL_law_773 : decode code 773 = .ok (.aload_n 1, 1) := by decide +kernel
theorem dL_law_774 : decode code 774 = .ok (.aload_n 0, 1) := by decide +kernel
theorem dL_law_775 : decode code 775 = .ok (.iload_n 3, 1) := by decide +kernel
theorem dL_law_776 : decode code 776 = .ok (.iconst 1, 1) := by decide +kernel
theorem dL_law_777 : decode code 777 = .ok (.iadd, 1) := by decide +kernel
theorem dL_law_778 : decode code 778 = .ok (.iaload, 1) := by decide +kernel
theorem dL_law_779 : decode code 779 = .ok (.aload_n 0, 1) := by decide +kernel
theorem dL_law_780 : decode code 780 = .ok (.iload_n 3, 1) := by decide +kernel
theorem dL_law_781 : decode code 781 = .ok (.iconst 2, 1) := by decide +kernel
theorem dL_law_782 : decode code 782 = .ok (.iadd, 1) := by decide +kernel
theorem dL_law_783 : decode code 783 = .ok (.iaload, 1) := by decide +kernel
theorem dL_law_784 : decode code 784 = .ok (.aload_n 0, 1) := by decide +kernel
theorem dL_law_785 : decode code 785 = .ok (.iload_n 3, 1) := by decide +kernel
theorem dL_law_786 : decode code 786 = .ok (.iconst 3, 1) := by decide +kernel
theorem dL_law_787 : decode code 787 = .ok (.iadd, 1) := by decide +kernel
theorem dL_law_788 : decode code 788 = .ok (.iaload, 1) := by decide +kernel
theorem dL_law_789 : decode code 789 = .ok (.aload_n 0, 1) := by decide +kernel
theorem dL_law_790 : decode code 790 = .ok (.iload_n 3, 1) := by decide +kernel
theorem dL_law_791 : decode code 791 = .ok (.iconst 4, 1) := by decide +kernel
theorem dL_law_792 : decode code 792 = .ok (.iadd, 1) := by decide +kernel
theorem dL_law_793 : decode code 793 = .ok (.iaload, 1) := by decide +kernel
theorem dL_law_794 : decode code 794 = .ok (.invokevirtual 117, 3) := by decide +kernel
theorem dL_law_797 : decode code 797 = .ok (.aload_n 2, 1) := by decide +kernel
theorem dL_law_798 : decode code 798 = .ok (.aload_n 0, 1) := by decide +kernel
theorem dL_law_799 : decode code 799 = .ok (.iload_n 3, 1) := by decide +kernel
theorem dL_law_800 : decode code 800 = .ok (.iconst 1, 1) := by decide +kernel
theorem dL_law_801 : decode code 801 = .ok (.iadd, 1) := by decide +kernel
theorem dL_law_802 : decode code 802 = .ok (.iaload, 1) := by decide +kernel
theorem dL_law_803 : decode code 803 = .ok (.aload_n 0, 1) := by decide +kernel
theorem dL_law_804 : decode code 804 = .ok (.iload_n 3, 1) := by decide +kernel
theorem dL_law_805 : decode code 805 = .ok (.iconst 2, 1) := by decide +kernel
theorem dL_law_806 : decode code 806 = .ok (.iadd, 1) := by decide +kernel
theorem dL_law_807 : decode code 807 = .ok (.iaload, 1) := by decide +kernel
theorem dL_law_808 : decode code 808 = .ok (.aload_n 0, 1) := by decide +kernel
theorem dL_law_809 : decode code 809 = .ok (.iload_n 3, 1) := by decide +kernel
theorem dL_law_810 : decode code 810 = .ok (.iconst 3, 1) := by decide +kernel
theorem dL_law_811 : decode code 811 = .ok (.iadd, 1) := by decide +kernel
theorem dL_law_812 : decode code 812 = .ok (.iaload, 1) := by decide +kernel
theorem dL_law_813 : decode code 813 = .ok (.aload_n 0, 1) := by decide +kernel
theorem dL_law_814 : decode code 814 = .ok (.iload_n 3, 1) := by decide +kernel
theorem dL_law_815 : decode code 815 = .ok (.iconst 4, 1) := by decide +kernel
theorem dL_law_816 : decode code 816 = .ok (.iadd, 1) := by decide +kernel
theorem dL_law_817 : decode code 817 = .ok (.iaload, 1) := by decide +kernel
theorem dL_law_818 : decode code 818 = .ok (.invokevirtual 121, 3) := by decide +kernel
theorem dL_law_821 : decode code 821 = .ok (.if_icmp .eq 97, 3) := by decide +kernel
theorem dL_law_824 : decode code 824 = .ok (.iconst 0, 1) := by decide +kernel
theorem dL_law_825 : decode code 825 = .ok (.ireturn, 1) := by decide +kernel
theorem dL_law_826 : decode code 826 = .ok (.aload_n 1, 1) := by decide +kernel
theorem dL_law_827 : decode code 827 = .ok (.aload_n 0, 1) := by decide +kernel
theorem dL_law_828 : decode code 828 = .ok (.iload_n 3, 1) := by decide +kernel
theorem dL_law_829 : decode code 829 = .ok (.iconst 1, 1) := by decide +kernel
theorem dL_law_830 : decode code 830 = .ok (.iadd, 1) := by decide +kernel
theorem dL_law_831 : decode code 831 = .ok (.iaload, 1) := by decide +kernel
theorem dL_law_832 : decode code 832 = .ok (.aload_n 0, 1) := by decide +kernel
theorem dL_law_833 : decode code 833 = .ok (.iload_n 3, 1) := by decide +kernel
theorem dL_law_834 : decode code 834 = .ok (.iconst 2, 1) := by decide +kernel
theorem dL_law_835 : decode code 835 = .ok (.iadd, 1) := by decide +kernel
theorem dL_law_836 : decode code 836 = .ok (.iaload, 1) := by decide +kernel
theorem dL_law_837 : decode code 837 = .ok (.aload_n 0, 1) := by decide +kernel
theorem dL_law_838 : decode code 838 = .ok (.iload_n 3, 1) := by decide +kernel
theorem dL_law_839 : decode code 839 = .ok (.iconst 3, 1) := by decide +kernel
theorem dL_law_840 : decode code 840 = .ok (.iadd, 1) := by decide +kernel
theorem dL_law_841 : decode code 841 = .ok (.iaload, 1) := by decide +kernel
theorem dL_law_842 : decode code 842 = .ok (.invokevirtual 122, 3) := by decide +kernel
theorem dL_law_845 : decode code 845 = .ok (.aload_n 2, 1) := by decide +kernel
theorem dL_law_846 : decode code 846 = .ok (.aload_n 0, 1) := by decide +kernel
theorem dL_law_847 : decode code 847 = .ok (.iload_n 3, 1) := by decide +kernel
theorem dL_law_848 : decode code 848 = .ok (.iconst 1, 1) := by decide +kernel
theorem dL_law_849 : decode code 849 = .ok (.iadd, 1) := by decide +kernel
theorem dL_law_850 : decode code 850 = .ok (.iaload, 1) := by decide +kernel
theorem dL_law_851 : decode code 851 = .ok (.aload_n 0, 1) := by decide +kernel
theorem dL_law_852 : decode code 852 = .ok (.iload_n 3, 1) := by decide +kernel
theorem dL_law_853 : decode code 853 = .ok (.iconst 2, 1) := by decide +kernel
theorem dL_law_854 : decode code 854 = .ok (.iadd, 1) := by decide +kernel
theorem dL_law_855 : decode code 855 = .ok (.iaload, 1) := by decide +kernel
theorem dL_law_856 : decode code 856 = .ok (.aload_n 0, 1) := by decide +kernel
theorem dL_law_857 : decode code 857 = .ok (.iload_n 3, 1) := by decide +kernel
theorem dL_law_858 : decode code 858 = .ok (.iconst 3, 1) := by decide +kernel
theorem dL_law_859 : decode code 859 = .ok (.iadd, 1) := by decide +kernel
theorem dL_law_860 : decode code 860 = .ok (.iaload, 1) := by decide +kernel
theorem dL_law_861 : decode code 861 = .ok (.invokevirtual 125, 3) := by decide +kernel
theorem dL_law_864 : decode code 864 = .ok (.if_icmp .eq 54, 3) := by decide +kernel
theorem dL_law_867 : decode code 867 = .ok (.iconst 0, 1) := by decide +kernel
theorem dL_law_868 : decode code 868 = .ok (.ireturn, 1) := by decide +kernel
theorem dL_law_869 : decode code 869 = .ok (.aload_n 1, 1) := by decide +kernel
theorem dL_law_870 : decode code 870 = .ok (.invokevirtual 126, 3) := by decide +kernel
theorem dL_law_873 : decode code 873 = .ok (.aload_n 2, 1) := by decide +kernel
theorem dL_law_874 : decode code 874 = .ok (.invokevirtual 129, 3) := by decide +kernel
theorem dL_law_877 : decode code 877 = .ok (.if_icmp .eq 41, 3) := by decide +kernel
theorem dL_law_880 : decode code 880 = .ok (.iconst 0, 1) := by decide +kernel
theorem dL_law_881 : decode code 881 = .ok (.ireturn, 1) := by decide +kernel
theorem dL_law_882 : decode code 882 = .ok (.aload_n 1, 1) := by decide +kernel
theorem dL_law_883 : decode code 883 = .ok (.invokevirtual 130, 3) := by decide +kernel
theorem dL_law_886 : decode code 886 = .ok (.aload_n 2, 1) := by decide +kernel
theorem dL_law_887 : decode code 887 = .ok (.invokevirtual 133, 3) := by decide +kernel
theorem dL_law_890 : decode code 890 = .ok (.if_icmp .eq 28, 3) := by decide +kernel
theorem dL_law_893 : decode code 893 = .ok (.iconst 0, 1) := by decide +kernel
theorem dL_law_894 : decode code 894 = .ok (.ireturn, 1) := by decide +kernel
theorem dL_law_895 : decode code 895 = .ok (.aload_n 1, 1) := by decide +kernel
theorem dL_law_896 : decode code 896 = .ok (.aload_n 0, 1) := by decide +kernel
theorem dL_law_897 : decode code 897 = .ok (.iload_n 3, 1) := by decide +kernel
theorem dL_law_898 : decode code 898 = .ok (.iconst 1, 1) := by decide +kernel
theorem dL_law_899 : decode code 899 = .ok (.iadd, 1) := by decide +kernel
theorem dL_law_900 : decode code 900 = .ok (.iaload, 1) := by decide +kernel
theorem dL_law_901 : decode code 901 = .ok (.invokevirtual 134, 3) := by decide +kernel
theorem dL_law_904 : decode code 904 = .ok (.aload_n 2, 1) := by decide +kernel
theorem dL_law_905 : decode code 905 = .ok (.aload_n 0, 1) := by decide +kernel
theorem dL_law_906 : decode code 906 = .ok (.iload_n 3, 1) := by decide +kernel
theorem dL_law_907 : decode code 907 = .ok (.iconst 1, 1) := by decide +kernel
theorem dL_law_908 : decode code 908 = .ok (.iadd, 1) := by decide +kernel
theorem dL_law_909 : decode code 909 = .ok (.iaload, 1) := by decide +kernel
theorem dL_law_910 : decode code 910 = .ok (.invokevirtual 137, 3) := by decide +kernel
theorem dL_law_913 : decode code 913 = .ok (.if_icmp .eq 5, 3) := by decide +kernel
theorem dL_law_916 : decode code 916 = .ok (.iconst 0, 1) := by decide +kernel
theorem dL_law_917 : decode code 917 = .ok (.ireturn, 1) := by decide +kernel
theorem dL_law_918 : decode code 918 = .ok (.iinc 3 5, 3) := by decide +kernel
theorem dL_law_921 : decode code 921 = .ok (.goto (-903), 3) := by decide +kernel
theorem dL_law_924 : decode code 924 = .ok (.iconst 1, 1) := by decide +kernel
theorem dL_law_925 : decode code 925 = .ok (.ireturn, 1) := by decide +kernel
def f_L_law_18 (N : Nat) (L : Nat) (xs : Nat → Int32) (a1 : Nat) (a2 : Nat) (rec18 : Dt → Ft → Int32 → Option Int32) (D : Dt) (P : Ft) (i3 : Int32) : Option Int32 :=
  if (Int32.ofNat L) - 5 < i3 then
    some 1
  else
    if sb L i3 = true then
    if (xs i3.toNatClampNeg) &&& 31 = 0 then
      if sb L (i3 + 1) = true then
      if kd 117 a1 = 8 then
      (f_H_write N 117 D P a1 (xs (i3 + 1).toNatClampNeg)).bind fun z8 =>
      if sb L (i3 + 1) = true then
      if kd 117 a2 = 9 then
      (f_M_write N 117 z8.2 P a2 (xs (i3 + 1).toNatClampNeg)).bind fun z11 =>
      if z8.1 = z11.1 then
        rec18 z11.2 P (i3 + 5)
      else
        some 0
      else none
      else none
      else none
      else none
    else
      if (xs i3.toNatClampNeg) &&& 31 = 1 then
        if kd 117 a1 = 8 then
        (f_H_wipe N 117 D P a1).bind fun z14 =>
        if kd 117 a2 = 9 then
        (f_M_wipe N 117 z14.2 P a2).bind fun z16 =>
        if z14.1 = z16.1 then
          rec18 z16.2 P (i3 + 5)
        else
          some 0
        else none
        else none
      else
        if (xs i3.toNatClampNeg) &&& 31 = 2 then
          if kd 117 a1 = 8 then
          (f_H_fault N 117 D P a1).bind fun z19 =>
          if kd 117 a2 = 9 then
          (f_M_fault N 117 z19.2 P a2).bind fun z21 =>
          if z19.1 = z21.1 then
            rec18 z21.2 P (i3 + 5)
          else
            some 0
          else none
          else none
        else
          if (xs i3.toNatClampNeg) &&& 31 = 3 then
            if kd 117 a1 = 8 then
            (f_H_lay N 117 D P a1).bind fun z24 =>
            if kd 117 a2 = 9 then
            (f_M_lay N 117 z24.2 P a2).bind fun z26 =>
            if z24.1 = z26.1 then
              rec18 z26.2 P (i3 + 5)
            else
              some 0
            else none
            else none
          else
            if (xs i3.toNatClampNeg) &&& 31 = 4 then
              if sb L (i3 + 1) = true then
              if sb L (i3 + 2) = true then
              if kd 117 a1 = 8 then
              (f_H_person N 117 D P a1 (xs (i3 + 1).toNatClampNeg) (xs (i3 + 2).toNatClampNeg)).bind fun z31 =>
              if sb L (i3 + 1) = true then
              if sb L (i3 + 2) = true then
              if kd 117 a2 = 9 then
              (f_M_person N 117 D P a2 (xs (i3 + 1).toNatClampNeg) (xs (i3 + 2).toNatClampNeg)).bind fun z35 =>
              if z31 = z35 then
                rec18 D P (i3 + 5)
              else
                some 0
              else none
              else none
              else none
              else none
              else none
              else none
            else
              if (xs i3.toNatClampNeg) &&& 31 = 5 then
                if sb L (i3 + 1) = true then
                if sb L (i3 + 2) = true then
                if kd 117 a1 = 8 then
                (f_H_pin N 117 D P a1 (xs (i3 + 1).toNatClampNeg) (xs (i3 + 2).toNatClampNeg)).bind fun z40 =>
                if sb L (i3 + 1) = true then
                if sb L (i3 + 2) = true then
                if kd 117 a2 = 9 then
                (f_M_pin N 117 D P a2 (xs (i3 + 1).toNatClampNeg) (xs (i3 + 2).toNatClampNeg)).bind fun z44 =>
                if z40 = z44 then
                  rec18 D P (i3 + 5)
                else
                  some 0
                else none
                else none
                else none
                else none
                else none
                else none
              else
                if (xs i3.toNatClampNeg) &&& 31 = 6 then
                  if sb L (i3 + 1) = true then
                  if kd 117 a1 = 8 then
                  (f_H_heart N 117 D P a1 (xs (i3 + 1).toNatClampNeg)).bind fun z48 =>
                  if sb L (i3 + 1) = true then
                  if kd 117 a2 = 9 then
                  (f_M_heart N 117 D P a2 (xs (i3 + 1).toNatClampNeg)).bind fun z51 =>
                  if z48 = z51 then
                    rec18 D P (i3 + 5)
                  else
                    some 0
                  else none
                  else none
                  else none
                  else none
                else
                  if (xs i3.toNatClampNeg) &&& 31 = 7 then
                    if sb L (i3 + 1) = true then
                    if kd 117 a1 = 8 then
                    (f_H_stick N 117 D P a1 (xs (i3 + 1).toNatClampNeg)).bind fun z55 =>
                    if sb L (i3 + 1) = true then
                    if kd 117 a2 = 9 then
                    (f_M_stick N 117 z55.2.1 z55.2.2 a2 (xs (i3 + 1).toNatClampNeg)).bind fun z58 =>
                    if z55.1 = z58.1 then
                      rec18 z58.2 z55.2.2 (i3 + 5)
                    else
                      some 0
                    else none
                    else none
                    else none
                    else none
                  else
                    if (xs i3.toNatClampNeg) &&& 31 = 8 then
                      if sb L (i3 + 1) = true then
                      if sb L (i3 + 2) = true then
                      if kd 117 a1 = 8 then
                      (f_H_feel N 117 D P a1 (xs (i3 + 1).toNatClampNeg) (xs (i3 + 2).toNatClampNeg)).bind fun z63 =>
                      if sb L (i3 + 1) = true then
                      if sb L (i3 + 2) = true then
                      if kd 117 a2 = 9 then
                      (f_M_feel N 117 z63.2.1 z63.2.2 a2 (xs (i3 + 1).toNatClampNeg) (xs (i3 + 2).toNatClampNeg)).bind fun z67 =>
                      if z63.1 = z67.1 then
                        rec18 z67.2 z63.2.2 (i3 + 5)
                      else
                        some 0
                      else none
                      else none
                      else none
                      else none
                      else none
                      else none
                    else
                      if (xs i3.toNatClampNeg) &&& 31 = 9 then
                        if sb L (i3 + 1) = true then
                        if sb L (i3 + 2) = true then
                        if kd 117 a1 = 8 then
                        (f_H_bear N 117 D P a1 (xs (i3 + 1).toNatClampNeg) (xs (i3 + 2).toNatClampNeg)).bind fun z72 =>
                        if sb L (i3 + 1) = true then
                        if sb L (i3 + 2) = true then
                        if kd 117 a2 = 9 then
                        (f_M_bear N 117 z72.2.1 z72.2.2 a2 (xs (i3 + 1).toNatClampNeg) (xs (i3 + 2).toNatClampNeg)).bind fun z76 =>
                        if z72.1 = z76.1 then
                          rec18 z76.2 z72.2.2 (i3 + 5)
                        else
                          some 0
                        else none
                        else none
                        else none
                        else none
                        else none
                        else none
                      else
                        if (xs i3.toNatClampNeg) &&& 31 = 10 then
                          if sb L (i3 + 1) = true then
                          if kd 117 a1 = 8 then
                          (f_H_pass N 117 D P a1 (xs (i3 + 1).toNatClampNeg)).bind fun z80 =>
                          if sb L (i3 + 1) = true then
                          if kd 117 a2 = 9 then
                          (f_M_pass N 117 z80.2.1 z80.2.2 a2 (xs (i3 + 1).toNatClampNeg)).bind fun z83 =>
                          if z80.1 = z83.1 then
                            rec18 z83.2 z80.2.2 (i3 + 5)
                          else
                            some 0
                          else none
                          else none
                          else none
                          else none
                        else
                          if (xs i3.toNatClampNeg) &&& 31 = 11 then
                            if kd 117 a1 = 8 then
                            (f_H_undo N 117 D P a1).bind fun z86 =>
                            if kd 117 a2 = 9 then
                            (f_M_undo N 117 z86.2 P a2).bind fun z88 =>
                            if z86.1 = z88.1 then
                              rec18 z88.2 P (i3 + 5)
                            else
                              some 0
                            else none
                            else none
                          else
                            if (xs i3.toNatClampNeg) &&& 31 = 12 then
                              if sb L (i3 + 1) = true then
                              if sb L (i3 + 2) = true then
                              if kd 117 a1 = 8 then
                              (f_H_behind N 117 D P a1 (xs (i3 + 1).toNatClampNeg) (xs (i3 + 2).toNatClampNeg)).bind fun z93 =>
                              if sb L (i3 + 1) = true then
                              if sb L (i3 + 2) = true then
                              if kd 117 a2 = 9 then
                              (f_M_behind N 117 z93.2 P a2 (xs (i3 + 1).toNatClampNeg) (xs (i3 + 2).toNatClampNeg)).bind fun z97 =>
                              if z93.1 = z97.1 then
                                rec18 z97.2 P (i3 + 5)
                              else
                                some 0
                              else none
                              else none
                              else none
                              else none
                              else none
                              else none
                            else
                              if (xs i3.toNatClampNeg) &&& 31 = 13 then
                                if sb L (i3 + 1) = true then
                                if kd 117 a1 = 8 then
                                (f_H_walked N 117 D P a1 (xs (i3 + 1).toNatClampNeg)).bind fun z101 =>
                                if sb L (i3 + 1) = true then
                                if kd 117 a2 = 9 then
                                (f_M_walked N 117 z101.2 P a2 (xs (i3 + 1).toNatClampNeg)).bind fun z104 =>
                                if z101.1 = z104.1 then
                                  rec18 z104.2 P (i3 + 5)
                                else
                                  some 0
                                else none
                                else none
                                else none
                                else none
                              else
                                if (xs i3.toNatClampNeg) &&& 31 = 14 then
                                  if sb L (i3 + 1) = true then
                                  if kd 117 a1 = 8 then
                                  (f_H_breaks N 117 D P a1 (xs (i3 + 1).toNatClampNeg)).bind fun z108 =>
                                  if sb L (i3 + 1) = true then
                                  if kd 117 a2 = 9 then
                                  (f_M_breaks N 117 z108.2 P a2 (xs (i3 + 1).toNatClampNeg)).bind fun z111 =>
                                  if z108.1 = z111.1 then
                                    rec18 z111.2 P (i3 + 5)
                                  else
                                    some 0
                                  else none
                                  else none
                                  else none
                                  else none
                                else
                                  if (xs i3.toNatClampNeg) &&& 31 = 15 then
                                    if kd 117 a1 = 8 then
                                    (f_H_door N 117 D P a1).bind fun z114 =>
                                    if kd 117 a2 = 9 then
                                    (f_M_door N 117 z114.2 P a2).bind fun z116 =>
                                    if z114.1 = z116.1 then
                                      rec18 z116.2 P (i3 + 5)
                                    else
                                      some 0
                                    else none
                                    else none
                                  else
                                    if (xs i3.toNatClampNeg) &&& 31 = 16 then
                                      if sb L (i3 + 1) = true then
                                      if sb L (i3 + 2) = true then
                                      if kd 117 a1 = 8 then
                                      (f_H_best N 117 D P a1 (xs (i3 + 1).toNatClampNeg) (xs (i3 + 2).toNatClampNeg)).bind fun z121 =>
                                      if sb L (i3 + 1) = true then
                                      if sb L (i3 + 2) = true then
                                      if kd 117 a2 = 9 then
                                      (f_M_best N 117 z121.2 P a2 (xs (i3 + 1).toNatClampNeg) (xs (i3 + 2).toNatClampNeg)).bind fun z125 =>
                                      if z121.1 = z125.1 then
                                        rec18 z125.2 P (i3 + 5)
                                      else
                                        some 0
                                      else none
                                      else none
                                      else none
                                      else none
                                      else none
                                      else none
                                    else
                                      if (xs i3.toNatClampNeg) &&& 31 = 17 then
                                        if sb L (i3 + 1) = true then
                                        if kd 117 a1 = 8 then
                                        (f_H_share N 117 D P a1 (xs (i3 + 1).toNatClampNeg)).bind fun z129 =>
                                        if sb L (i3 + 1) = true then
                                        if kd 117 a2 = 9 then
                                        (f_M_share N 117 z129.2 P a2 (xs (i3 + 1).toNatClampNeg)).bind fun z132 =>
                                        if z129.1 = z132.1 then
                                          rec18 z132.2 P (i3 + 5)
                                        else
                                          some 0
                                        else none
                                        else none
                                        else none
                                        else none
                                      else
                                        if (xs i3.toNatClampNeg) &&& 31 = 18 then
                                          if sb L (i3 + 1) = true then
                                          if kd 117 a1 = 8 then
                                          (f_H_relief N 117 D P a1 (xs (i3 + 1).toNatClampNeg)).bind fun z136 =>
                                          if sb L (i3 + 1) = true then
                                          if kd 117 a2 = 9 then
                                          (f_M_relief N 117 z136.2 P a2 (xs (i3 + 1).toNatClampNeg)).bind fun z139 =>
                                          if z136.1 = z139.1 then
                                            rec18 z139.2 P (i3 + 5)
                                          else
                                            some 0
                                          else none
                                          else none
                                          else none
                                          else none
                                        else
                                          if (xs i3.toNatClampNeg) &&& 31 = 19 then
                                            if sb L (i3 + 1) = true then
                                            if kd 117 a1 = 8 then
                                            (f_H_pair N 117 D P a1 (xs (i3 + 1).toNatClampNeg)).bind fun z143 =>
                                            if sb L (i3 + 1) = true then
                                            if kd 117 a2 = 9 then
                                            (f_M_pair N 117 D P a2 (xs (i3 + 1).toNatClampNeg)).bind fun z146 =>
                                            if z143 = z146 then
                                              rec18 D P (i3 + 5)
                                            else
                                              some 0
                                            else none
                                            else none
                                            else none
                                            else none
                                          else
                                            if (xs i3.toNatClampNeg) &&& 31 = 20 then
                                              if sb L (i3 + 1) = true then
                                              if sb L (i3 + 2) = true then
                                              if sb L (i3 + 3) = true then
                                              if kd 117 a1 = 8 then
                                              (f_H_see N 117 D P a1 (xs (i3 + 1).toNatClampNeg) (xs (i3 + 2).toNatClampNeg) (xs (i3 + 3).toNatClampNeg)).bind fun z152 =>
                                              if sb L (i3 + 1) = true then
                                              if sb L (i3 + 2) = true then
                                              if sb L (i3 + 3) = true then
                                              if kd 117 a2 = 9 then
                                              (f_M_see N 117 z152.2 P a2 (xs (i3 + 1).toNatClampNeg) (xs (i3 + 2).toNatClampNeg) (xs (i3 + 3).toNatClampNeg)).bind fun z157 =>
                                              if z152.1 = z157.1 then
                                                rec18 z157.2 P (i3 + 5)
                                              else
                                                some 0
                                              else none
                                              else none
                                              else none
                                              else none
                                              else none
                                              else none
                                              else none
                                              else none
                                            else
                                              if (xs i3.toNatClampNeg) &&& 31 = 21 then
                                                if sb L (i3 + 1) = true then
                                                if kd 117 a1 = 8 then
                                                (f_H_mark N 117 D P a1 (xs (i3 + 1).toNatClampNeg)).bind fun z161 =>
                                                if sb L (i3 + 1) = true then
                                                if kd 117 a2 = 9 then
                                                (f_M_mark N 117 z161.2 P a2 (xs (i3 + 1).toNatClampNeg)).bind fun z164 =>
                                                if z161.1 = z164.1 then
                                                  rec18 z164.2 P (i3 + 5)
                                                else
                                                  some 0
                                                else none
                                                else none
                                                else none
                                                else none
                                              else
                                                if (xs i3.toNatClampNeg) &&& 31 = 22 then
                                                  if kd 117 a1 = 8 then
                                                  (f_H_forget N 117 D P a1).bind fun z167 =>
                                                  if kd 117 a2 = 9 then
                                                  (f_M_forget N 117 z167.2 P a2).bind fun z169 =>
                                                  if z167.1 = z169.1 then
                                                    rec18 z169.2 P (i3 + 5)
                                                  else
                                                    some 0
                                                  else none
                                                  else none
                                                else
                                                  if (xs i3.toNatClampNeg) &&& 31 = 23 then
                                                    if sb L (i3 + 1) = true then
                                                    if kd 117 a1 = 8 then
                                                    (f_H_kinds N 117 D P a1 (xs (i3 + 1).toNatClampNeg)).bind fun z173 =>
                                                    if sb L (i3 + 1) = true then
                                                    if kd 117 a2 = 9 then
                                                    (f_M_kinds N 117 D P a2 (xs (i3 + 1).toNatClampNeg)).bind fun z176 =>
                                                    if z173 = z176 then
                                                      rec18 D P (i3 + 5)
                                                    else
                                                      some 0
                                                    else none
                                                    else none
                                                    else none
                                                    else none
                                                  else
                                                    if (xs i3.toNatClampNeg) &&& 31 = 24 then
                                                      if sb L (i3 + 1) = true then
                                                      if sb L (i3 + 2) = true then
                                                      if kd 117 a1 = 8 then
                                                      (f_H_which N 117 D P a1 (xs (i3 + 1).toNatClampNeg) (xs (i3 + 2).toNatClampNeg)).bind fun z181 =>
                                                      if sb L (i3 + 1) = true then
                                                      if sb L (i3 + 2) = true then
                                                      if kd 117 a2 = 9 then
                                                      (f_M_which N 117 z181.2 P a2 (xs (i3 + 1).toNatClampNeg) (xs (i3 + 2).toNatClampNeg)).bind fun z185 =>
                                                      if z181.1 = z185.1 then
                                                        rec18 z185.2 P (i3 + 5)
                                                      else
                                                        some 0
                                                      else none
                                                      else none
                                                      else none
                                                      else none
                                                      else none
                                                      else none
                                                    else
                                                      if (xs i3.toNatClampNeg) &&& 31 = 25 then
                                                        if sb L (i3 + 1) = true then
                                                        if sb L (i3 + 2) = true then
                                                        if sb L (i3 + 3) = true then
                                                        if sb L (i3 + 4) = true then
                                                        if kd 117 a1 = 8 then
                                                        (f_H_bad N 117 D P a1 (xs (i3 + 1).toNatClampNeg) (xs (i3 + 2).toNatClampNeg) (xs (i3 + 3).toNatClampNeg) (xs (i3 + 4).toNatClampNeg)).bind fun z192 =>
                                                        if sb L (i3 + 1) = true then
                                                        if sb L (i3 + 2) = true then
                                                        if sb L (i3 + 3) = true then
                                                        if sb L (i3 + 4) = true then
                                                        if kd 117 a2 = 9 then
                                                        (f_M_bad N 117 z192.2 P a2 (xs (i3 + 1).toNatClampNeg) (xs (i3 + 2).toNatClampNeg) (xs (i3 + 3).toNatClampNeg) (xs (i3 + 4).toNatClampNeg)).bind fun z198 =>
                                                        if z192.1 = z198.1 then
                                                          rec18 z198.2 P (i3 + 5)
                                                        else
                                                          some 0
                                                        else none
                                                        else none
                                                        else none
                                                        else none
                                                        else none
                                                        else none
                                                        else none
                                                        else none
                                                        else none
                                                        else none
                                                      else
                                                        if (xs i3.toNatClampNeg) &&& 31 = 26 then
                                                          if sb L (i3 + 1) = true then
                                                          if sb L (i3 + 2) = true then
                                                          if sb L (i3 + 3) = true then
                                                          if kd 117 a1 = 8 then
                                                          (f_H_month N 117 D P a1 (xs (i3 + 1).toNatClampNeg) (xs (i3 + 2).toNatClampNeg) (xs (i3 + 3).toNatClampNeg)).bind fun z204 =>
                                                          if sb L (i3 + 1) = true then
                                                          if sb L (i3 + 2) = true then
                                                          if sb L (i3 + 3) = true then
                                                          if kd 117 a2 = 9 then
                                                          (f_M_month N 117 z204.2 P a2 (xs (i3 + 1).toNatClampNeg) (xs (i3 + 2).toNatClampNeg) (xs (i3 + 3).toNatClampNeg)).bind fun z209 =>
                                                          if z204.1 = z209.1 then
                                                            rec18 z209.2 P (i3 + 5)
                                                          else
                                                            some 0
                                                          else none
                                                          else none
                                                          else none
                                                          else none
                                                          else none
                                                          else none
                                                          else none
                                                          else none
                                                        else
                                                          if (xs i3.toNatClampNeg) &&& 31 = 27 then
                                                            if kd 117 a1 = 8 then
                                                            (f_H_keep N 117 D P a1).bind fun z212 =>
                                                            if kd 117 a2 = 9 then
                                                            (f_M_keep N 117 z212.2.1 z212.2.2 a2).bind fun z214 =>
                                                            if z212.1 = z214.1 then
                                                              rec18 z214.2 z212.2.2 (i3 + 5)
                                                            else
                                                              some 0
                                                            else none
                                                            else none
                                                          else
                                                            if (xs i3.toNatClampNeg) &&& 31 = 28 then
                                                              if kd 117 a1 = 8 then
                                                              (f_H_back N 117 D P a1).bind fun z217 =>
                                                              if kd 117 a2 = 9 then
                                                              (f_M_back N 117 z217.2 P a2).bind fun z219 =>
                                                              if z217.1 = z219.1 then
                                                                rec18 z219.2 P (i3 + 5)
                                                              else
                                                                some 0
                                                              else none
                                                              else none
                                                            else
                                                              if (xs i3.toNatClampNeg) &&& 31 = 29 then
                                                                if sb L (i3 + 1) = true then
                                                                if kd 117 a1 = 8 then
                                                                (f_H_count N 117 D P a1 (xs (i3 + 1).toNatClampNeg)).bind fun z223 =>
                                                                if sb L (i3 + 1) = true then
                                                                if kd 117 a2 = 9 then
                                                                (f_M_count N 117 D P a2 (xs (i3 + 1).toNatClampNeg)).bind fun z226 =>
                                                                if z223 = z226 then
                                                                  rec18 D P (i3 + 5)
                                                                else
                                                                  some 0
                                                                else none
                                                                else none
                                                                else none
                                                                else none
                                                              else
                                                                rec18 D P (i3 + 5)
    else none
def f_L_law (N : Nat) (L : Nat) (xs : Nat → Int32) : Option Int32 :=
  if SH 0 = 8 then
  pas (zD (fun _ _ => 0) 0) fun D1 =>
  pas (zP (fun _ _ => none) 0) fun P1 =>
  (f_H_init N 1 D1 P1 0).bind fun z2 =>
  if SH 97 = 9 then
  pas (zD z2.1 97) fun D3 =>
  pas (zP z2.2 97) fun P3 =>
  (f_M_init N 98 D3 P3 97).bind fun z4 =>
  wk3 N (f_L_law_18 N L xs 0 97) z4.1 z4.2 0
  else none
  else none
set_option maxHeartbeats 16000000 in
set_option maxRecDepth 100000 in
theorem law_walk {p : Program} {e : Env} {s : State} {m : MethodId} {below : List Frame} {meth : Method} {c : Code} (l : Launch) {b L : Nat} {xs : Nat → Int32} {cx : Cx} {sa sv : Nat} {mn : String} (hcx : cx.2.2 = s.heap.size) (hF : SF cx sa sv s) (hXb : va_X b L xs s s.heap ∧ b < s.heap.size ∧ cx.2.2 = s.heap.size) (X : XC p s m #[Value.ref b] meth c cx code 4 ret "HeartPinsLaw" mn) (N : Nat) (h : f_L_law N L xs = some 1) : XW p l e room_1 s m #[Value.ref b] below meth c (lw_Z below #[Value.ref b] s) cx 4 (fun _ _ => 0) (fun _ _ => none) 0 0 0 0 [(0, .ref b)] [] := by
  unfold f_L_law at h
  have hL18 : ∀ (a1 : Nat) (a2 : Nat) (n : Nat) (D : Dt) (P : Ft) (i3 : Int32), wk3 n (f_L_law_18 N L xs a1 a2) D P i3 = some 1 → XW p l e room_1 s m #[Value.ref b] below meth c (lw_Z below #[Value.ref b] s) cx 4 D P 117 117 3204 18 [(0, .ref b), (1, .ref (cx.2.2 + a1)), (2, .ref (cx.2.2 + a2)), (3, .int i3)] [] := by
    intro a1 a2 n
    induction n with
    | zero => intro D P i3 h; exact (nonz h).elim
    | succ n ih18 =>
      intro D P i3 h
      have h : f_L_law_18 N L xs a1 a2 (wk3 n (f_L_law_18 N L xs a1 a2)) D P i3 = some 1 := h
      generalize wk3 n (f_L_law_18 N L xs a1 a2) = rec18 at ih18 h
      unfold f_L_law_18 at h
      refine x_iload_n (pc := 18) X dL_law_18 (i := 3) rfl 3 rfl ?_
      refine x_aload_n (pc := 19) X dL_law_19 (i := 0) rfl 0 rfl ?_
      refine x_slen hXb (pc := 20) X dL_law_20 ?_
      refine x_iconst (v := 5) (pc := 21) X dL_law_21 (by decide) ?_
      refine x_isub (pc := 22) X dL_law_22 ?_
      refine x_icmp_gt (tgt := 924) (pc := 23) X dL_law_23 (by decide) (fun c230 => ?_) (fun c230 => ?_)
      · have h := ite_t c230 h
        refine x_iconst (v := 1) (pc := 924) X dL_law_924 (by decide) ?_
        have h := Option.some.inj h
        exact x_lawret hcx (pc := 925) X dL_law_925
      · have h := ite_f c230 h
        refine x_aload_n (pc := 26) X dL_law_26 (i := 0) rfl 0 rfl ?_
        refine x_iload_n (pc := 27) X dL_law_27 (i := 3) rfl 3 rfl ?_
        obtain ⟨g6, h⟩ := grd h
        refine x_sld hXb (pc := 28) X dL_law_28 g6 ?_
        refine x_bipush (v := 31) (pc := 29) X dL_law_29 (by decide) ?_
        refine x_iand (pc := 31) X dL_law_31 ?_
        by_cases cs32_0 : (xs i3.toNatClampNeg) &&& 31 = 0
        · have h := ite_t cs32_0 h
          refine x_tsw (off := 136) (tgt := 168) (pc := 32) X 0 dL_law_32 cs32_0 (by decide) (by decide) (by decide) (by decide) ?_
          refine x_aload_n (pc := 168) X dL_law_168 (i := 1) rfl 1 rfl ?_
          refine x_aload_n (pc := 169) X dL_law_169 (i := 0) rfl 0 rfl ?_
          refine x_iload_n (pc := 170) X dL_law_170 (i := 3) rfl 3 rfl ?_
          refine x_iconst (v := 1) (pc := 171) X dL_law_171 (by decide) ?_
          refine x_iadd (pc := 172) X dL_law_172 ?_
          obtain ⟨g7, h⟩ := grd h
          refine x_sld hXb (pc := 173) X dL_law_173 g7 ?_
          obtain ⟨k9, h⟩ := grd h
          obtain ⟨z8, e8, h⟩ := bnds h
          refine x_callV (pc := 174) (As := [.int (xs (i3 + 1).toNatClampNeg)]) (st := []) (st' := [.int z8.1]) X (c_H_write l cx 117 N D P _ _ z8 e8) dL_law_174 w_456 m_H_write rfl k9 (ci := 8) rfl rfl ⟨Nat.le_of_ble_eq_true rfl, Nat.le_of_ble_eq_true rfl⟩ ⟨Nat.le_of_ble_eq_true rfl, Nat.le_of_ble_eq_true rfl⟩ rfl (Nat.le_of_ble_eq_true rfl) rfl ?_
          refine x_aload_n (pc := 177) X dL_law_177 (i := 2) rfl 2 rfl ?_
          refine x_aload_n (pc := 178) X dL_law_178 (i := 0) rfl 0 rfl ?_
          refine x_iload_n (pc := 179) X dL_law_179 (i := 3) rfl 3 rfl ?_
          refine x_iconst (v := 1) (pc := 180) X dL_law_180 (by decide) ?_
          refine x_iadd (pc := 181) X dL_law_181 ?_
          obtain ⟨g10, h⟩ := grd h
          refine x_sld hXb (pc := 182) X dL_law_182 g10 ?_
          obtain ⟨k12, h⟩ := grd h
          obtain ⟨z11, e11, h⟩ := bnds h
          refine x_callV (pc := 183) (As := [.int (xs (i3 + 1).toNatClampNeg)]) (st := [.int z8.1]) (st' := [.int z11.1, .int z8.1]) X (c_M_write l cx 117 N z8.2 P _ _ z11 e11) dL_law_183 w_968 m_M_write rfl k12 (ci := 9) rfl rfl ⟨Nat.le_of_ble_eq_true rfl, Nat.le_of_ble_eq_true rfl⟩ ⟨Nat.le_of_ble_eq_true rfl, Nat.le_of_ble_eq_true rfl⟩ rfl (Nat.le_of_ble_eq_true rfl) rfl ?_
          refine x_icmp_eq (tgt := 918) (pc := 186) X dL_law_186 (by decide) (fun c13 => ?_) (fun c13 => ?_)
          · have h := ite_t c13 h
            refine x_iinc (v := i3 + 5) (lv' := [(3, .int (i3 + 5)), (0, .ref b), (1, .ref (cx.2.2 + a1)), (2, .ref (cx.2.2 + a2))]) (pc := 918) X dL_law_918 3 rfl rfl (by decide) rfl ?_
            refine x_goto (tgt := 18) (pc := 921) X dL_law_921 (by decide) ?_
            exact XW.sub [1, 2, 3, 0] rfl (ih18 _ _ _ h)
          · have h := ite_f c13 h
            refine x_iconst (v := 0) (pc := 189) X dL_law_189 (by decide) ?_
            have h := Option.some.inj h
            exact absurd h (by decide)
        · have h := ite_f cs32_0 h
          by_cases cs32_1 : (xs i3.toNatClampNeg) &&& 31 = 1
          · have h := ite_t cs32_1 h
            refine x_tsw (off := 159) (tgt := 191) (pc := 32) X 1 dL_law_32 cs32_1 (by decide) (by decide) (by decide) (by decide) ?_
            refine x_aload_n (pc := 191) X dL_law_191 (i := 1) rfl 1 rfl ?_
            obtain ⟨k15, h⟩ := grd h
            obtain ⟨z14, e14, h⟩ := bnds h
            refine x_callV (pc := 192) (As := []) (st := []) (st' := [.int z14.1]) X (c_H_wipe l cx 117 N D P _ z14 e14) dL_law_192 w_461 m_H_wipe rfl k15 (ci := 8) rfl rfl ⟨Nat.le_of_ble_eq_true rfl, Nat.le_of_ble_eq_true rfl⟩ ⟨Nat.le_of_ble_eq_true rfl, Nat.le_of_ble_eq_true rfl⟩ rfl (Nat.le_of_ble_eq_true rfl) rfl ?_
            refine x_aload_n (pc := 195) X dL_law_195 (i := 2) rfl 2 rfl ?_
            obtain ⟨k17, h⟩ := grd h
            obtain ⟨z16, e16, h⟩ := bnds h
            refine x_callV (pc := 196) (As := []) (st := [.int z14.1]) (st' := [.int z16.1, .int z14.1]) X (c_M_wipe l cx 117 N z14.2 P _ z16 e16) dL_law_196 w_975 m_M_wipe rfl k17 (ci := 9) rfl rfl ⟨Nat.le_of_ble_eq_true rfl, Nat.le_of_ble_eq_true rfl⟩ ⟨Nat.le_of_ble_eq_true rfl, Nat.le_of_ble_eq_true rfl⟩ rfl (Nat.le_of_ble_eq_true rfl) rfl ?_
            refine x_icmp_eq (tgt := 918) (pc := 199) X dL_law_199 (by decide) (fun c18 => ?_) (fun c18 => ?_)
            · have h := ite_t c18 h
              refine x_iinc (v := i3 + 5) (lv' := [(3, .int (i3 + 5)), (0, .ref b), (1, .ref (cx.2.2 + a1)), (2, .ref (cx.2.2 + a2))]) (pc := 918) X dL_law_918 3 rfl rfl (by decide) rfl ?_
              refine x_goto (tgt := 18) (pc := 921) X dL_law_921 (by decide) ?_
              exact XW.sub [1, 2, 3, 0] rfl (ih18 _ _ _ h)
            · have h := ite_f c18 h
              refine x_iconst (v := 0) (pc := 202) X dL_law_202 (by decide) ?_
              have h := Option.some.inj h
              exact absurd h (by decide)
          · have h := ite_f cs32_1 h
            by_cases cs32_2 : (xs i3.toNatClampNeg) &&& 31 = 2
            · have h := ite_t cs32_2 h
              refine x_tsw (off := 172) (tgt := 204) (pc := 32) X 2 dL_law_32 cs32_2 (by decide) (by decide) (by decide) (by decide) ?_
              refine x_aload_n (pc := 204) X dL_law_204 (i := 1) rfl 1 rfl ?_
              obtain ⟨k20, h⟩ := grd h
              obtain ⟨z19, e19, h⟩ := bnds h
              refine x_callV (pc := 205) (As := []) (st := []) (st' := [.int z19.1]) X (c_H_fault l cx 117 N D P _ z19 e19) dL_law_205 w_465 m_H_fault rfl k20 (ci := 8) rfl rfl ⟨Nat.le_of_ble_eq_true rfl, Nat.le_of_ble_eq_true rfl⟩ ⟨Nat.le_of_ble_eq_true rfl, Nat.le_of_ble_eq_true rfl⟩ rfl (Nat.le_of_ble_eq_true rfl) rfl ?_
              refine x_aload_n (pc := 208) X dL_law_208 (i := 2) rfl 2 rfl ?_
              obtain ⟨k22, h⟩ := grd h
              obtain ⟨z21, e21, h⟩ := bnds h
              refine x_callV (pc := 209) (As := []) (st := [.int z19.1]) (st' := [.int z21.1, .int z19.1]) X (c_M_fault l cx 117 N z19.2 P _ z21 e21) dL_law_209 w_979 m_M_fault rfl k22 (ci := 9) rfl rfl ⟨Nat.le_of_ble_eq_true rfl, Nat.le_of_ble_eq_true rfl⟩ ⟨Nat.le_of_ble_eq_true rfl, Nat.le_of_ble_eq_true rfl⟩ rfl (Nat.le_of_ble_eq_true rfl) rfl ?_
              refine x_icmp_eq (tgt := 918) (pc := 212) X dL_law_212 (by decide) (fun c23 => ?_) (fun c23 => ?_)
              · have h := ite_t c23 h
                refine x_iinc (v := i3 + 5) (lv' := [(3, .int (i3 + 5)), (0, .ref b), (1, .ref (cx.2.2 + a1)), (2, .ref (cx.2.2 + a2))]) (pc := 918) X dL_law_918 3 rfl rfl (by decide) rfl ?_
                refine x_goto (tgt := 18) (pc := 921) X dL_law_921 (by decide) ?_
                exact XW.sub [1, 2, 3, 0] rfl (ih18 _ _ _ h)
              · have h := ite_f c23 h
                refine x_iconst (v := 0) (pc := 215) X dL_law_215 (by decide) ?_
                have h := Option.some.inj h
                exact absurd h (by decide)
            · have h := ite_f cs32_2 h
              by_cases cs32_3 : (xs i3.toNatClampNeg) &&& 31 = 3
              · have h := ite_t cs32_3 h
                refine x_tsw (off := 185) (tgt := 217) (pc := 32) X 3 dL_law_32 cs32_3 (by decide) (by decide) (by decide) (by decide) ?_
                refine x_aload_n (pc := 217) X dL_law_217 (i := 1) rfl 1 rfl ?_
                obtain ⟨k25, h⟩ := grd h
                obtain ⟨z24, e24, h⟩ := bnds h
                refine x_callV (pc := 218) (As := []) (st := []) (st' := [.int z24.1]) X (c_H_lay l cx 117 N D P _ z24 e24) dL_law_218 w_469 m_H_lay rfl k25 (ci := 8) rfl rfl ⟨Nat.le_of_ble_eq_true rfl, Nat.le_of_ble_eq_true rfl⟩ ⟨Nat.le_of_ble_eq_true rfl, Nat.le_of_ble_eq_true rfl⟩ rfl (Nat.le_of_ble_eq_true rfl) rfl ?_
                refine x_aload_n (pc := 221) X dL_law_221 (i := 2) rfl 2 rfl ?_
                obtain ⟨k27, h⟩ := grd h
                obtain ⟨z26, e26, h⟩ := bnds h
                refine x_callV (pc := 222) (As := []) (st := [.int z24.1]) (st' := [.int z26.1, .int z24.1]) X (c_M_lay l cx 117 N z24.2 P _ z26 e26) dL_law_222 w_1019 m_M_lay rfl k27 (ci := 9) rfl rfl ⟨Nat.le_of_ble_eq_true rfl, Nat.le_of_ble_eq_true rfl⟩ ⟨Nat.le_of_ble_eq_true rfl, Nat.le_of_ble_eq_true rfl⟩ rfl (Nat.le_of_ble_eq_true rfl) rfl ?_
                refine x_icmp_eq (tgt := 918) (pc := 225) X dL_law_225 (by decide) (fun c28 => ?_) (fun c28 => ?_)
                · have h := ite_t c28 h
                  refine x_iinc (v := i3 + 5) (lv' := [(3, .int (i3 + 5)), (0, .ref b), (1, .ref (cx.2.2 + a1)), (2, .ref (cx.2.2 + a2))]) (pc := 918) X dL_law_918 3 rfl rfl (by decide) rfl ?_
                  refine x_goto (tgt := 18) (pc := 921) X dL_law_921 (by decide) ?_
                  exact XW.sub [1, 2, 3, 0] rfl (ih18 _ _ _ h)
                · have h := ite_f c28 h
                  refine x_iconst (v := 0) (pc := 228) X dL_law_228 (by decide) ?_
                  have h := Option.some.inj h
                  exact absurd h (by decide)
              · have h := ite_f cs32_3 h
                by_cases cs32_4 : (xs i3.toNatClampNeg) &&& 31 = 4
                · have h := ite_t cs32_4 h
                  refine x_tsw (off := 198) (tgt := 230) (pc := 32) X 4 dL_law_32 cs32_4 (by decide) (by decide) (by decide) (by decide) ?_
                  refine x_aload_n (pc := 230) X dL_law_230 (i := 1) rfl 1 rfl ?_
                  refine x_aload_n (pc := 231) X dL_law_231 (i := 0) rfl 0 rfl ?_
                  refine x_iload_n (pc := 232) X dL_law_232 (i := 3) rfl 3 rfl ?_
                  refine x_iconst (v := 1) (pc := 233) X dL_law_233 (by decide) ?_
                  refine x_iadd (pc := 234) X dL_law_234 ?_
                  obtain ⟨g29, h⟩ := grd h
                  refine x_sld hXb (pc := 235) X dL_law_235 g29 ?_
                  refine x_aload_n (pc := 236) X dL_law_236 (i := 0) rfl 0 rfl ?_
                  refine x_iload_n (pc := 237) X dL_law_237 (i := 3) rfl 3 rfl ?_
                  refine x_iconst (v := 2) (pc := 238) X dL_law_238 (by decide) ?_
                  refine x_iadd (pc := 239) X dL_law_239 ?_
                  obtain ⟨g30, h⟩ := grd h
                  refine x_sld hXb (pc := 240) X dL_law_240 g30 ?_
                  obtain ⟨k32, h⟩ := grd h
                  obtain ⟨z31, e31, h⟩ := bnds h
                  refine x_callV (pc := 241) (As := [.int (xs (i3 + 1).toNatClampNeg), .int (xs (i3 + 2).toNatClampNeg)]) (st := []) (st' := [.int z31]) X (c_H_person l cx 117 N D P _ _ _ z31 e31) dL_law_241 w_470 m_H_person rfl k32 (ci := 8) rfl rfl ⟨Nat.le_of_ble_eq_true rfl, Nat.le_of_ble_eq_true rfl⟩ ⟨Nat.le_of_ble_eq_true rfl, Nat.le_of_ble_eq_true rfl⟩ rfl (Nat.le_of_ble_eq_true rfl) rfl ?_
                  refine x_aload_n (pc := 244) X dL_law_244 (i := 2) rfl 2 rfl ?_
                  refine x_aload_n (pc := 245) X dL_law_245 (i := 0) rfl 0 rfl ?_
                  refine x_iload_n (pc := 246) X dL_law_246 (i := 3) rfl 3 rfl ?_
                  refine x_iconst (v := 1) (pc := 247) X dL_law_247 (by decide) ?_
                  refine x_iadd (pc := 248) X dL_law_248 ?_
                  obtain ⟨g33, h⟩ := grd h
                  refine x_sld hXb (pc := 249) X dL_law_249 g33 ?_
                  refine x_aload_n (pc := 250) X dL_law_250 (i := 0) rfl 0 rfl ?_
                  refine x_iload_n (pc := 251) X dL_law_251 (i := 3) rfl 3 rfl ?_
                  refine x_iconst (v := 2) (pc := 252) X dL_law_252 (by decide) ?_
                  refine x_iadd (pc := 253) X dL_law_253 ?_
                  obtain ⟨g34, h⟩ := grd h
                  refine x_sld hXb (pc := 254) X dL_law_254 g34 ?_
                  obtain ⟨k36, h⟩ := grd h
                  obtain ⟨z35, e35, h⟩ := bnds h
                  refine x_callV (pc := 255) (As := [.int (xs (i3 + 1).toNatClampNeg), .int (xs (i3 + 2).toNatClampNeg)]) (st := [.int z31]) (st' := [.int z35, .int z31]) X (c_M_person l cx 117 N D P _ _ _ z35 e35) dL_law_255 w_1023 m_M_person rfl k36 (ci := 9) rfl rfl ⟨Nat.le_of_ble_eq_true rfl, Nat.le_of_ble_eq_true rfl⟩ ⟨Nat.le_of_ble_eq_true rfl, Nat.le_of_ble_eq_true rfl⟩ rfl (Nat.le_of_ble_eq_true rfl) rfl ?_
                  refine x_icmp_eq (tgt := 918) (pc := 258) X dL_law_258 (by decide) (fun c37 => ?_) (fun c37 => ?_)
                  · have h := ite_t c37 h
                    refine x_iinc (v := i3 + 5) (lv' := [(3, .int (i3 + 5)), (0, .ref b), (1, .ref (cx.2.2 + a1)), (2, .ref (cx.2.2 + a2))]) (pc := 918) X dL_law_918 3 rfl rfl (by decide) rfl ?_
                    refine x_goto (tgt := 18) (pc := 921) X dL_law_921 (by decide) ?_
                    exact XW.sub [1, 2, 3, 0] rfl (ih18 _ _ _ h)
                  · have h := ite_f c37 h
                    refine x_iconst (v := 0) (pc := 261) X dL_law_261 (by decide) ?_
                    have h := Option.some.inj h
                    exact absurd h (by decide)
                · have h := ite_f cs32_4 h
                  by_cases cs32_5 : (xs i3.toNatClampNeg) &&& 31 = 5
                  · have h := ite_t cs32_5 h
                    refine x_tsw (off := 231) (tgt := 263) (pc := 32) X 5 dL_law_32 cs32_5 (by decide) (by decide) (by decide) (by decide) ?_
                    refine x_aload_n (pc := 263) X dL_law_263 (i := 1) rfl 1 rfl ?_
                    refine x_aload_n (pc := 264) X dL_law_264 (i := 0) rfl 0 rfl ?_
                    refine x_iload_n (pc := 265) X dL_law_265 (i := 3) rfl 3 rfl ?_
                    refine x_iconst (v := 1) (pc := 266) X dL_law_266 (by decide) ?_
                    refine x_iadd (pc := 267) X dL_law_267 ?_
                    obtain ⟨g38, h⟩ := grd h
                    refine x_sld hXb (pc := 268) X dL_law_268 g38 ?_
                    refine x_aload_n (pc := 269) X dL_law_269 (i := 0) rfl 0 rfl ?_
                    refine x_iload_n (pc := 270) X dL_law_270 (i := 3) rfl 3 rfl ?_
                    refine x_iconst (v := 2) (pc := 271) X dL_law_271 (by decide) ?_
                    refine x_iadd (pc := 272) X dL_law_272 ?_
                    obtain ⟨g39, h⟩ := grd h
                    refine x_sld hXb (pc := 273) X dL_law_273 g39 ?_
                    obtain ⟨k41, h⟩ := grd h
                    obtain ⟨z40, e40, h⟩ := bnds h
                    refine x_callV (pc := 274) (As := [.int (xs (i3 + 1).toNatClampNeg), .int (xs (i3 + 2).toNatClampNeg)]) (st := []) (st' := [.int z40]) X (c_H_pin l cx 117 N D P _ _ _ z40 e40) dL_law_274 w_497 m_H_pin rfl k41 (ci := 8) rfl rfl ⟨Nat.le_of_ble_eq_true rfl, Nat.le_of_ble_eq_true rfl⟩ ⟨Nat.le_of_ble_eq_true rfl, Nat.le_of_ble_eq_true rfl⟩ rfl (Nat.le_of_ble_eq_true rfl) rfl ?_
                    refine x_aload_n (pc := 277) X dL_law_277 (i := 2) rfl 2 rfl ?_
                    refine x_aload_n (pc := 278) X dL_law_278 (i := 0) rfl 0 rfl ?_
                    refine x_iload_n (pc := 279) X dL_law_279 (i := 3) rfl 3 rfl ?_
                    refine x_iconst (v := 1) (pc := 280) X dL_law_280 (by decide) ?_
                    refine x_iadd (pc := 281) X dL_law_281 ?_
                    obtain ⟨g42, h⟩ := grd h
                    refine x_sld hXb (pc := 282) X dL_law_282 g42 ?_
                    refine x_aload_n (pc := 283) X dL_law_283 (i := 0) rfl 0 rfl ?_
                    refine x_iload_n (pc := 284) X dL_law_284 (i := 3) rfl 3 rfl ?_
                    refine x_iconst (v := 2) (pc := 285) X dL_law_285 (by decide) ?_
                    refine x_iadd (pc := 286) X dL_law_286 ?_
                    obtain ⟨g43, h⟩ := grd h
                    refine x_sld hXb (pc := 287) X dL_law_287 g43 ?_
                    obtain ⟨k45, h⟩ := grd h
                    obtain ⟨z44, e44, h⟩ := bnds h
                    refine x_callV (pc := 288) (As := [.int (xs (i3 + 1).toNatClampNeg), .int (xs (i3 + 2).toNatClampNeg)]) (st := [.int z40]) (st' := [.int z44, .int z40]) X (c_M_pin l cx 117 N D P _ _ _ z44 e44) dL_law_288 w_1050 m_M_pin rfl k45 (ci := 9) rfl rfl ⟨Nat.le_of_ble_eq_true rfl, Nat.le_of_ble_eq_true rfl⟩ ⟨Nat.le_of_ble_eq_true rfl, Nat.le_of_ble_eq_true rfl⟩ rfl (Nat.le_of_ble_eq_true rfl) rfl ?_
                    refine x_icmp_eq (tgt := 918) (pc := 291) X dL_law_291 (by decide) (fun c46 => ?_) (fun c46 => ?_)
                    · have h := ite_t c46 h
                      refine x_iinc (v := i3 + 5) (lv' := [(3, .int (i3 + 5)), (0, .ref b), (1, .ref (cx.2.2 + a1)), (2, .ref (cx.2.2 + a2))]) (pc := 918) X dL_law_918 3 rfl rfl (by decide) rfl ?_
                      refine x_goto (tgt := 18) (pc := 921) X dL_law_921 (by decide) ?_
                      exact XW.sub [1, 2, 3, 0] rfl (ih18 _ _ _ h)
                    · have h := ite_f c46 h
                      refine x_iconst (v := 0) (pc := 294) X dL_law_294 (by decide) ?_
                      have h := Option.some.inj h
                      exact absurd h (by decide)
                  · have h := ite_f cs32_5 h
                    by_cases cs32_6 : (xs i3.toNatClampNeg) &&& 31 = 6
                    · have h := ite_t cs32_6 h
                      refine x_tsw (off := 264) (tgt := 296) (pc := 32) X 6 dL_law_32 cs32_6 (by decide) (by decide) (by decide) (by decide) ?_
                      refine x_aload_n (pc := 296) X dL_law_296 (i := 1) rfl 1 rfl ?_
                      refine x_aload_n (pc := 297) X dL_law_297 (i := 0) rfl 0 rfl ?_
                      refine x_iload_n (pc := 298) X dL_law_298 (i := 3) rfl 3 rfl ?_
                      refine x_iconst (v := 1) (pc := 299) X dL_law_299 (by decide) ?_
                      refine x_iadd (pc := 300) X dL_law_300 ?_
                      obtain ⟨g47, h⟩ := grd h
                      refine x_sld hXb (pc := 301) X dL_law_301 g47 ?_
                      obtain ⟨k49, h⟩ := grd h
                      obtain ⟨z48, e48, h⟩ := bnds h
                      refine x_callV (pc := 302) (As := [.int (xs (i3 + 1).toNatClampNeg)]) (st := []) (st' := [.int z48]) X (c_H_heart l cx 117 N D P _ _ z48 e48) dL_law_302 w_521 m_H_heart rfl k49 (ci := 8) rfl rfl ⟨Nat.le_of_ble_eq_true rfl, Nat.le_of_ble_eq_true rfl⟩ ⟨Nat.le_of_ble_eq_true rfl, Nat.le_of_ble_eq_true rfl⟩ rfl (Nat.le_of_ble_eq_true rfl) rfl ?_
                      refine x_aload_n (pc := 305) X dL_law_305 (i := 2) rfl 2 rfl ?_
                      refine x_aload_n (pc := 306) X dL_law_306 (i := 0) rfl 0 rfl ?_
                      refine x_iload_n (pc := 307) X dL_law_307 (i := 3) rfl 3 rfl ?_
                      refine x_iconst (v := 1) (pc := 308) X dL_law_308 (by decide) ?_
                      refine x_iadd (pc := 309) X dL_law_309 ?_
                      obtain ⟨g50, h⟩ := grd h
                      refine x_sld hXb (pc := 310) X dL_law_310 g50 ?_
                      obtain ⟨k52, h⟩ := grd h
                      obtain ⟨z51, e51, h⟩ := bnds h
                      refine x_callV (pc := 311) (As := [.int (xs (i3 + 1).toNatClampNeg)]) (st := [.int z48]) (st' := [.int z51, .int z48]) X (c_M_heart l cx 117 N D P _ _ z51 e51) dL_law_311 w_1061 m_M_heart rfl k52 (ci := 9) rfl rfl ⟨Nat.le_of_ble_eq_true rfl, Nat.le_of_ble_eq_true rfl⟩ ⟨Nat.le_of_ble_eq_true rfl, Nat.le_of_ble_eq_true rfl⟩ rfl (Nat.le_of_ble_eq_true rfl) rfl ?_
                      refine x_icmp_eq (tgt := 918) (pc := 314) X dL_law_314 (by decide) (fun c53 => ?_) (fun c53 => ?_)
                      · have h := ite_t c53 h
                        refine x_iinc (v := i3 + 5) (lv' := [(3, .int (i3 + 5)), (0, .ref b), (1, .ref (cx.2.2 + a1)), (2, .ref (cx.2.2 + a2))]) (pc := 918) X dL_law_918 3 rfl rfl (by decide) rfl ?_
                        refine x_goto (tgt := 18) (pc := 921) X dL_law_921 (by decide) ?_
                        exact XW.sub [1, 2, 3, 0] rfl (ih18 _ _ _ h)
                      · have h := ite_f c53 h
                        refine x_iconst (v := 0) (pc := 317) X dL_law_317 (by decide) ?_
                        have h := Option.some.inj h
                        exact absurd h (by decide)
                    · have h := ite_f cs32_6 h
                      by_cases cs32_7 : (xs i3.toNatClampNeg) &&& 31 = 7
                      · have h := ite_t cs32_7 h
                        refine x_tsw (off := 287) (tgt := 319) (pc := 32) X 7 dL_law_32 cs32_7 (by decide) (by decide) (by decide) (by decide) ?_
                        refine x_aload_n (pc := 319) X dL_law_319 (i := 1) rfl 1 rfl ?_
                        refine x_aload_n (pc := 320) X dL_law_320 (i := 0) rfl 0 rfl ?_
                        refine x_iload_n (pc := 321) X dL_law_321 (i := 3) rfl 3 rfl ?_
                        refine x_iconst (v := 1) (pc := 322) X dL_law_322 (by decide) ?_
                        refine x_iadd (pc := 323) X dL_law_323 ?_
                        obtain ⟨g54, h⟩ := grd h
                        refine x_sld hXb (pc := 324) X dL_law_324 g54 ?_
                        obtain ⟨k56, h⟩ := grd h
                        obtain ⟨z55, e55, h⟩ := bnds h
                        refine x_callV (pc := 325) (As := [.int (xs (i3 + 1).toNatClampNeg)]) (st := []) (st' := [.int z55.1]) X (c_H_stick l cx 117 N D P _ _ z55 e55) dL_law_325 w_538 m_H_stick rfl k56 (ci := 8) rfl rfl ⟨Nat.le_of_ble_eq_true rfl, Nat.le_of_ble_eq_true rfl⟩ ⟨Nat.le_of_ble_eq_true rfl, Nat.le_of_ble_eq_true rfl⟩ rfl (Nat.le_of_ble_eq_true rfl) rfl ?_
                        refine x_aload_n (pc := 328) X dL_law_328 (i := 2) rfl 2 rfl ?_
                        refine x_aload_n (pc := 329) X dL_law_329 (i := 0) rfl 0 rfl ?_
                        refine x_iload_n (pc := 330) X dL_law_330 (i := 3) rfl 3 rfl ?_
                        refine x_iconst (v := 1) (pc := 331) X dL_law_331 (by decide) ?_
                        refine x_iadd (pc := 332) X dL_law_332 ?_
                        obtain ⟨g57, h⟩ := grd h
                        refine x_sld hXb (pc := 333) X dL_law_333 g57 ?_
                        obtain ⟨k59, h⟩ := grd h
                        obtain ⟨z58, e58, h⟩ := bnds h
                        refine x_callV (pc := 334) (As := [.int (xs (i3 + 1).toNatClampNeg)]) (st := [.int z55.1]) (st' := [.int z58.1, .int z55.1]) X (c_M_stick l cx 117 N z55.2.1 z55.2.2 _ _ z58 e58) dL_law_334 w_1073 m_M_stick rfl k59 (ci := 9) rfl rfl ⟨Nat.le_of_ble_eq_true rfl, Nat.le_of_ble_eq_true rfl⟩ ⟨Nat.le_of_ble_eq_true rfl, Nat.le_of_ble_eq_true rfl⟩ rfl (Nat.le_of_ble_eq_true rfl) rfl ?_
                        refine x_icmp_eq (tgt := 918) (pc := 337) X dL_law_337 (by decide) (fun c60 => ?_) (fun c60 => ?_)
                        · have h := ite_t c60 h
                          refine x_iinc (v := i3 + 5) (lv' := [(3, .int (i3 + 5)), (0, .ref b), (1, .ref (cx.2.2 + a1)), (2, .ref (cx.2.2 + a2))]) (pc := 918) X dL_law_918 3 rfl rfl (by decide) rfl ?_
                          refine x_goto (tgt := 18) (pc := 921) X dL_law_921 (by decide) ?_
                          exact XW.sub [1, 2, 3, 0] rfl (ih18 _ _ _ h)
                        · have h := ite_f c60 h
                          refine x_iconst (v := 0) (pc := 340) X dL_law_340 (by decide) ?_
                          have h := Option.some.inj h
                          exact absurd h (by decide)
                      · have h := ite_f cs32_7 h
                        by_cases cs32_8 : (xs i3.toNatClampNeg) &&& 31 = 8
                        · have h := ite_t cs32_8 h
                          refine x_tsw (off := 310) (tgt := 342) (pc := 32) X 8 dL_law_32 cs32_8 (by decide) (by decide) (by decide) (by decide) ?_
                          refine x_aload_n (pc := 342) X dL_law_342 (i := 1) rfl 1 rfl ?_
                          refine x_aload_n (pc := 343) X dL_law_343 (i := 0) rfl 0 rfl ?_
                          refine x_iload_n (pc := 344) X dL_law_344 (i := 3) rfl 3 rfl ?_
                          refine x_iconst (v := 1) (pc := 345) X dL_law_345 (by decide) ?_
                          refine x_iadd (pc := 346) X dL_law_346 ?_
                          obtain ⟨g61, h⟩ := grd h
                          refine x_sld hXb (pc := 347) X dL_law_347 g61 ?_
                          refine x_aload_n (pc := 348) X dL_law_348 (i := 0) rfl 0 rfl ?_
                          refine x_iload_n (pc := 349) X dL_law_349 (i := 3) rfl 3 rfl ?_
                          refine x_iconst (v := 2) (pc := 350) X dL_law_350 (by decide) ?_
                          refine x_iadd (pc := 351) X dL_law_351 ?_
                          obtain ⟨g62, h⟩ := grd h
                          refine x_sld hXb (pc := 352) X dL_law_352 g62 ?_
                          obtain ⟨k64, h⟩ := grd h
                          obtain ⟨z63, e63, h⟩ := bnds h
                          refine x_callV (pc := 353) (As := [.int (xs (i3 + 1).toNatClampNeg), .int (xs (i3 + 2).toNatClampNeg)]) (st := []) (st' := [.int z63.1]) X (c_H_feel l cx 117 N D P _ _ _ z63 e63) dL_law_353 w_569 m_H_feel rfl k64 (ci := 8) rfl rfl ⟨Nat.le_of_ble_eq_true rfl, Nat.le_of_ble_eq_true rfl⟩ ⟨Nat.le_of_ble_eq_true rfl, Nat.le_of_ble_eq_true rfl⟩ rfl (Nat.le_of_ble_eq_true rfl) rfl ?_
                          refine x_aload_n (pc := 356) X dL_law_356 (i := 2) rfl 2 rfl ?_
                          refine x_aload_n (pc := 357) X dL_law_357 (i := 0) rfl 0 rfl ?_
                          refine x_iload_n (pc := 358) X dL_law_358 (i := 3) rfl 3 rfl ?_
                          refine x_iconst (v := 1) (pc := 359) X dL_law_359 (by decide) ?_
                          refine x_iadd (pc := 360) X dL_law_360 ?_
                          obtain ⟨g65, h⟩ := grd h
                          refine x_sld hXb (pc := 361) X dL_law_361 g65 ?_
                          refine x_aload_n (pc := 362) X dL_law_362 (i := 0) rfl 0 rfl ?_
                          refine x_iload_n (pc := 363) X dL_law_363 (i := 3) rfl 3 rfl ?_
                          refine x_iconst (v := 2) (pc := 364) X dL_law_364 (by decide) ?_
                          refine x_iadd (pc := 365) X dL_law_365 ?_
                          obtain ⟨g66, h⟩ := grd h
                          refine x_sld hXb (pc := 366) X dL_law_366 g66 ?_
                          obtain ⟨k68, h⟩ := grd h
                          obtain ⟨z67, e67, h⟩ := bnds h
                          refine x_callV (pc := 367) (As := [.int (xs (i3 + 1).toNatClampNeg), .int (xs (i3 + 2).toNatClampNeg)]) (st := [.int z63.1]) (st' := [.int z67.1, .int z63.1]) X (c_M_feel l cx 117 N z63.2.1 z63.2.2 _ _ _ z67 e67) dL_law_367 w_1081 m_M_feel rfl k68 (ci := 9) rfl rfl ⟨Nat.le_of_ble_eq_true rfl, Nat.le_of_ble_eq_true rfl⟩ ⟨Nat.le_of_ble_eq_true rfl, Nat.le_of_ble_eq_true rfl⟩ rfl (Nat.le_of_ble_eq_true rfl) rfl ?_
                          refine x_icmp_eq (tgt := 918) (pc := 370) X dL_law_370 (by decide) (fun c69 => ?_) (fun c69 => ?_)
                          · have h := ite_t c69 h
                            refine x_iinc (v := i3 + 5) (lv' := [(3, .int (i3 + 5)), (0, .ref b), (1, .ref (cx.2.2 + a1)), (2, .ref (cx.2.2 + a2))]) (pc := 918) X dL_law_918 3 rfl rfl (by decide) rfl ?_
                            refine x_goto (tgt := 18) (pc := 921) X dL_law_921 (by decide) ?_
                            exact XW.sub [1, 2, 3, 0] rfl (ih18 _ _ _ h)
                          · have h := ite_f c69 h
                            refine x_iconst (v := 0) (pc := 373) X dL_law_373 (by decide) ?_
                            have h := Option.some.inj h
                            exact absurd h (by decide)
                        · have h := ite_f cs32_8 h
                          by_cases cs32_9 : (xs i3.toNatClampNeg) &&& 31 = 9
                          · have h := ite_t cs32_9 h
                            refine x_tsw (off := 343) (tgt := 375) (pc := 32) X 9 dL_law_32 cs32_9 (by decide) (by decide) (by decide) (by decide) ?_
                            refine x_aload_n (pc := 375) X dL_law_375 (i := 1) rfl 1 rfl ?_
                            refine x_aload_n (pc := 376) X dL_law_376 (i := 0) rfl 0 rfl ?_
                            refine x_iload_n (pc := 377) X dL_law_377 (i := 3) rfl 3 rfl ?_
                            refine x_iconst (v := 1) (pc := 378) X dL_law_378 (by decide) ?_
                            refine x_iadd (pc := 379) X dL_law_379 ?_
                            obtain ⟨g70, h⟩ := grd h
                            refine x_sld hXb (pc := 380) X dL_law_380 g70 ?_
                            refine x_aload_n (pc := 381) X dL_law_381 (i := 0) rfl 0 rfl ?_
                            refine x_iload_n (pc := 382) X dL_law_382 (i := 3) rfl 3 rfl ?_
                            refine x_iconst (v := 2) (pc := 383) X dL_law_383 (by decide) ?_
                            refine x_iadd (pc := 384) X dL_law_384 ?_
                            obtain ⟨g71, h⟩ := grd h
                            refine x_sld hXb (pc := 385) X dL_law_385 g71 ?_
                            obtain ⟨k73, h⟩ := grd h
                            obtain ⟨z72, e72, h⟩ := bnds h
                            refine x_callV (pc := 386) (As := [.int (xs (i3 + 1).toNatClampNeg), .int (xs (i3 + 2).toNatClampNeg)]) (st := []) (st' := [.int z72.1]) X (c_H_bear l cx 117 N D P _ _ _ z72 e72) dL_law_386 w_583 m_H_bear rfl k73 (ci := 8) rfl rfl ⟨Nat.le_of_ble_eq_true rfl, Nat.le_of_ble_eq_true rfl⟩ ⟨Nat.le_of_ble_eq_true rfl, Nat.le_of_ble_eq_true rfl⟩ rfl (Nat.le_of_ble_eq_true rfl) rfl ?_
                            refine x_aload_n (pc := 389) X dL_law_389 (i := 2) rfl 2 rfl ?_
                            refine x_aload_n (pc := 390) X dL_law_390 (i := 0) rfl 0 rfl ?_
                            refine x_iload_n (pc := 391) X dL_law_391 (i := 3) rfl 3 rfl ?_
                            refine x_iconst (v := 1) (pc := 392) X dL_law_392 (by decide) ?_
                            refine x_iadd (pc := 393) X dL_law_393 ?_
                            obtain ⟨g74, h⟩ := grd h
                            refine x_sld hXb (pc := 394) X dL_law_394 g74 ?_
                            refine x_aload_n (pc := 395) X dL_law_395 (i := 0) rfl 0 rfl ?_
                            refine x_iload_n (pc := 396) X dL_law_396 (i := 3) rfl 3 rfl ?_
                            refine x_iconst (v := 2) (pc := 397) X dL_law_397 (by decide) ?_
                            refine x_iadd (pc := 398) X dL_law_398 ?_
                            obtain ⟨g75, h⟩ := grd h
                            refine x_sld hXb (pc := 399) X dL_law_399 g75 ?_
                            obtain ⟨k77, h⟩ := grd h
                            obtain ⟨z76, e76, h⟩ := bnds h
                            refine x_callV (pc := 400) (As := [.int (xs (i3 + 1).toNatClampNeg), .int (xs (i3 + 2).toNatClampNeg)]) (st := [.int z72.1]) (st' := [.int z76.1, .int z72.1]) X (c_M_bear l cx 117 N z72.2.1 z72.2.2 _ _ _ z76 e76) dL_law_400 w_1085 m_M_bear rfl k77 (ci := 9) rfl rfl ⟨Nat.le_of_ble_eq_true rfl, Nat.le_of_ble_eq_true rfl⟩ ⟨Nat.le_of_ble_eq_true rfl, Nat.le_of_ble_eq_true rfl⟩ rfl (Nat.le_of_ble_eq_true rfl) rfl ?_
                            refine x_icmp_eq (tgt := 918) (pc := 403) X dL_law_403 (by decide) (fun c78 => ?_) (fun c78 => ?_)
                            · have h := ite_t c78 h
                              refine x_iinc (v := i3 + 5) (lv' := [(3, .int (i3 + 5)), (0, .ref b), (1, .ref (cx.2.2 + a1)), (2, .ref (cx.2.2 + a2))]) (pc := 918) X dL_law_918 3 rfl rfl (by decide) rfl ?_
                              refine x_goto (tgt := 18) (pc := 921) X dL_law_921 (by decide) ?_
                              exact XW.sub [1, 2, 3, 0] rfl (ih18 _ _ _ h)
                            · have h := ite_f c78 h
                              refine x_iconst (v := 0) (pc := 406) X dL_law_406 (by decide) ?_
                              have h := Option.some.inj h
                              exact absurd h (by decide)
                          · have h := ite_f cs32_9 h
                            by_cases cs32_10 : (xs i3.toNatClampNeg) &&& 31 = 10
                            · have h := ite_t cs32_10 h
                              refine x_tsw (off := 376) (tgt := 408) (pc := 32) X 10 dL_law_32 cs32_10 (by decide) (by decide) (by decide) (by decide) ?_
                              refine x_aload_n (pc := 408) X dL_law_408 (i := 1) rfl 1 rfl ?_
                              refine x_aload_n (pc := 409) X dL_law_409 (i := 0) rfl 0 rfl ?_
                              refine x_iload_n (pc := 410) X dL_law_410 (i := 3) rfl 3 rfl ?_
                              refine x_iconst (v := 1) (pc := 411) X dL_law_411 (by decide) ?_
                              refine x_iadd (pc := 412) X dL_law_412 ?_
                              obtain ⟨g79, h⟩ := grd h
                              refine x_sld hXb (pc := 413) X dL_law_413 g79 ?_
                              obtain ⟨k81, h⟩ := grd h
                              obtain ⟨z80, e80, h⟩ := bnds h
                              refine x_callV (pc := 414) (As := [.int (xs (i3 + 1).toNatClampNeg)]) (st := []) (st' := [.int z80.1]) X (c_H_pass l cx 117 N D P _ _ z80 e80) dL_law_414 w_596 m_H_pass rfl k81 (ci := 8) rfl rfl ⟨Nat.le_of_ble_eq_true rfl, Nat.le_of_ble_eq_true rfl⟩ ⟨Nat.le_of_ble_eq_true rfl, Nat.le_of_ble_eq_true rfl⟩ rfl (Nat.le_of_ble_eq_true rfl) rfl ?_
                              refine x_aload_n (pc := 417) X dL_law_417 (i := 2) rfl 2 rfl ?_
                              refine x_aload_n (pc := 418) X dL_law_418 (i := 0) rfl 0 rfl ?_
                              refine x_iload_n (pc := 419) X dL_law_419 (i := 3) rfl 3 rfl ?_
                              refine x_iconst (v := 1) (pc := 420) X dL_law_420 (by decide) ?_
                              refine x_iadd (pc := 421) X dL_law_421 ?_
                              obtain ⟨g82, h⟩ := grd h
                              refine x_sld hXb (pc := 422) X dL_law_422 g82 ?_
                              obtain ⟨k84, h⟩ := grd h
                              obtain ⟨z83, e83, h⟩ := bnds h
                              refine x_callV (pc := 423) (As := [.int (xs (i3 + 1).toNatClampNeg)]) (st := [.int z80.1]) (st' := [.int z83.1, .int z80.1]) X (c_M_pass l cx 117 N z80.2.1 z80.2.2 _ _ z83 e83) dL_law_423 w_1089 m_M_pass rfl k84 (ci := 9) rfl rfl ⟨Nat.le_of_ble_eq_true rfl, Nat.le_of_ble_eq_true rfl⟩ ⟨Nat.le_of_ble_eq_true rfl, Nat.le_of_ble_eq_true rfl⟩ rfl (Nat.le_of_ble_eq_true rfl) rfl ?_
                              refine x_icmp_eq (tgt := 918) (pc := 426) X dL_law_426 (by decide) (fun c85 => ?_) (fun c85 => ?_)
                              · have h := ite_t c85 h
                                refine x_iinc (v := i3 + 5) (lv' := [(3, .int (i3 + 5)), (0, .ref b), (1, .ref (cx.2.2 + a1)), (2, .ref (cx.2.2 + a2))]) (pc := 918) X dL_law_918 3 rfl rfl (by decide) rfl ?_
                                refine x_goto (tgt := 18) (pc := 921) X dL_law_921 (by decide) ?_
                                exact XW.sub [1, 2, 3, 0] rfl (ih18 _ _ _ h)
                              · have h := ite_f c85 h
                                refine x_iconst (v := 0) (pc := 429) X dL_law_429 (by decide) ?_
                                have h := Option.some.inj h
                                exact absurd h (by decide)
                            · have h := ite_f cs32_10 h
                              by_cases cs32_11 : (xs i3.toNatClampNeg) &&& 31 = 11
                              · have h := ite_t cs32_11 h
                                refine x_tsw (off := 399) (tgt := 431) (pc := 32) X 11 dL_law_32 cs32_11 (by decide) (by decide) (by decide) (by decide) ?_
                                refine x_aload_n (pc := 431) X dL_law_431 (i := 1) rfl 1 rfl ?_
                                obtain ⟨k87, h⟩ := grd h
                                obtain ⟨z86, e86, h⟩ := bnds h
                                refine x_callV (pc := 432) (As := []) (st := []) (st' := [.int z86.1]) X (c_H_undo l cx 117 N D P _ z86 e86) dL_law_432 w_626 m_H_undo rfl k87 (ci := 8) rfl rfl ⟨Nat.le_of_ble_eq_true rfl, Nat.le_of_ble_eq_true rfl⟩ ⟨Nat.le_of_ble_eq_true rfl, Nat.le_of_ble_eq_true rfl⟩ rfl (Nat.le_of_ble_eq_true rfl) rfl ?_
                                refine x_aload_n (pc := 435) X dL_law_435 (i := 2) rfl 2 rfl ?_
                                obtain ⟨k89, h⟩ := grd h
                                obtain ⟨z88, e88, h⟩ := bnds h
                                refine x_callV (pc := 436) (As := []) (st := [.int z86.1]) (st' := [.int z88.1, .int z86.1]) X (c_M_undo l cx 117 N z86.2 P _ z88 e88) dL_law_436 w_1100 m_M_undo rfl k89 (ci := 9) rfl rfl ⟨Nat.le_of_ble_eq_true rfl, Nat.le_of_ble_eq_true rfl⟩ ⟨Nat.le_of_ble_eq_true rfl, Nat.le_of_ble_eq_true rfl⟩ rfl (Nat.le_of_ble_eq_true rfl) rfl ?_
                                refine x_icmp_eq (tgt := 918) (pc := 439) X dL_law_439 (by decide) (fun c90 => ?_) (fun c90 => ?_)
                                · have h := ite_t c90 h
                                  refine x_iinc (v := i3 + 5) (lv' := [(3, .int (i3 + 5)), (0, .ref b), (1, .ref (cx.2.2 + a1)), (2, .ref (cx.2.2 + a2))]) (pc := 918) X dL_law_918 3 rfl rfl (by decide) rfl ?_
                                  refine x_goto (tgt := 18) (pc := 921) X dL_law_921 (by decide) ?_
                                  exact XW.sub [1, 2, 3, 0] rfl (ih18 _ _ _ h)
                                · have h := ite_f c90 h
                                  refine x_iconst (v := 0) (pc := 442) X dL_law_442 (by decide) ?_
                                  have h := Option.some.inj h
                                  exact absurd h (by decide)
                              · have h := ite_f cs32_11 h
                                by_cases cs32_12 : (xs i3.toNatClampNeg) &&& 31 = 12
                                · have h := ite_t cs32_12 h
                                  refine x_tsw (off := 412) (tgt := 444) (pc := 32) X 12 dL_law_32 cs32_12 (by decide) (by decide) (by decide) (by decide) ?_
                                  refine x_aload_n (pc := 444) X dL_law_444 (i := 1) rfl 1 rfl ?_
                                  refine x_aload_n (pc := 445) X dL_law_445 (i := 0) rfl 0 rfl ?_
                                  refine x_iload_n (pc := 446) X dL_law_446 (i := 3) rfl 3 rfl ?_
                                  refine x_iconst (v := 1) (pc := 447) X dL_law_447 (by decide) ?_
                                  refine x_iadd (pc := 448) X dL_law_448 ?_
                                  obtain ⟨g91, h⟩ := grd h
                                  refine x_sld hXb (pc := 449) X dL_law_449 g91 ?_
                                  refine x_aload_n (pc := 450) X dL_law_450 (i := 0) rfl 0 rfl ?_
                                  refine x_iload_n (pc := 451) X dL_law_451 (i := 3) rfl 3 rfl ?_
                                  refine x_iconst (v := 2) (pc := 452) X dL_law_452 (by decide) ?_
                                  refine x_iadd (pc := 453) X dL_law_453 ?_
                                  obtain ⟨g92, h⟩ := grd h
                                  refine x_sld hXb (pc := 454) X dL_law_454 g92 ?_
                                  obtain ⟨k94, h⟩ := grd h
                                  obtain ⟨z93, e93, h⟩ := bnds h
                                  refine x_callV (pc := 455) (As := [.int (xs (i3 + 1).toNatClampNeg), .int (xs (i3 + 2).toNatClampNeg)]) (st := []) (st' := [.int z93.1]) X (c_H_behind l cx 117 N D P _ _ _ z93 e93) dL_law_455 w_634 m_H_behind rfl k94 (ci := 8) rfl rfl ⟨Nat.le_of_ble_eq_true rfl, Nat.le_of_ble_eq_true rfl⟩ ⟨Nat.le_of_ble_eq_true rfl, Nat.le_of_ble_eq_true rfl⟩ rfl (Nat.le_of_ble_eq_true rfl) rfl ?_
                                  refine x_aload_n (pc := 458) X dL_law_458 (i := 2) rfl 2 rfl ?_
                                  refine x_aload_n (pc := 459) X dL_law_459 (i := 0) rfl 0 rfl ?_
                                  refine x_iload_n (pc := 460) X dL_law_460 (i := 3) rfl 3 rfl ?_
                                  refine x_iconst (v := 1) (pc := 461) X dL_law_461 (by decide) ?_
                                  refine x_iadd (pc := 462) X dL_law_462 ?_
                                  obtain ⟨g95, h⟩ := grd h
                                  refine x_sld hXb (pc := 463) X dL_law_463 g95 ?_
                                  refine x_aload_n (pc := 464) X dL_law_464 (i := 0) rfl 0 rfl ?_
                                  refine x_iload_n (pc := 465) X dL_law_465 (i := 3) rfl 3 rfl ?_
                                  refine x_iconst (v := 2) (pc := 466) X dL_law_466 (by decide) ?_
                                  refine x_iadd (pc := 467) X dL_law_467 ?_
                                  obtain ⟨g96, h⟩ := grd h
                                  refine x_sld hXb (pc := 468) X dL_law_468 g96 ?_
                                  obtain ⟨k98, h⟩ := grd h
                                  obtain ⟨z97, e97, h⟩ := bnds h
                                  refine x_callV (pc := 469) (As := [.int (xs (i3 + 1).toNatClampNeg), .int (xs (i3 + 2).toNatClampNeg)]) (st := [.int z93.1]) (st' := [.int z97.1, .int z93.1]) X (c_M_behind l cx 117 N z93.2 P _ _ _ z97 e97) dL_law_469 w_1104 m_M_behind rfl k98 (ci := 9) rfl rfl ⟨Nat.le_of_ble_eq_true rfl, Nat.le_of_ble_eq_true rfl⟩ ⟨Nat.le_of_ble_eq_true rfl, Nat.le_of_ble_eq_true rfl⟩ rfl (Nat.le_of_ble_eq_true rfl) rfl ?_
                                  refine x_icmp_eq (tgt := 918) (pc := 472) X dL_law_472 (by decide) (fun c99 => ?_) (fun c99 => ?_)
                                  · have h := ite_t c99 h
                                    refine x_iinc (v := i3 + 5) (lv' := [(3, .int (i3 + 5)), (0, .ref b), (1, .ref (cx.2.2 + a1)), (2, .ref (cx.2.2 + a2))]) (pc := 918) X dL_law_918 3 rfl rfl (by decide) rfl ?_
                                    refine x_goto (tgt := 18) (pc := 921) X dL_law_921 (by decide) ?_
                                    exact XW.sub [1, 2, 3, 0] rfl (ih18 _ _ _ h)
                                  · have h := ite_f c99 h
                                    refine x_iconst (v := 0) (pc := 475) X dL_law_475 (by decide) ?_
                                    have h := Option.some.inj h
                                    exact absurd h (by decide)
                                · have h := ite_f cs32_12 h
                                  by_cases cs32_13 : (xs i3.toNatClampNeg) &&& 31 = 13
                                  · have h := ite_t cs32_13 h
                                    refine x_tsw (off := 445) (tgt := 477) (pc := 32) X 13 dL_law_32 cs32_13 (by decide) (by decide) (by decide) (by decide) ?_
                                    refine x_aload_n (pc := 477) X dL_law_477 (i := 1) rfl 1 rfl ?_
                                    refine x_aload_n (pc := 478) X dL_law_478 (i := 0) rfl 0 rfl ?_
                                    refine x_iload_n (pc := 479) X dL_law_479 (i := 3) rfl 3 rfl ?_
                                    refine x_iconst (v := 1) (pc := 480) X dL_law_480 (by decide) ?_
                                    refine x_iadd (pc := 481) X dL_law_481 ?_
                                    obtain ⟨g100, h⟩ := grd h
                                    refine x_sld hXb (pc := 482) X dL_law_482 g100 ?_
                                    obtain ⟨k102, h⟩ := grd h
                                    obtain ⟨z101, e101, h⟩ := bnds h
                                    refine x_callV (pc := 483) (As := [.int (xs (i3 + 1).toNatClampNeg)]) (st := []) (st' := [.int z101.1]) X (c_H_walked l cx 117 N D P _ _ z101 e101) dL_law_483 w_643 m_H_walked rfl k102 (ci := 8) rfl rfl ⟨Nat.le_of_ble_eq_true rfl, Nat.le_of_ble_eq_true rfl⟩ ⟨Nat.le_of_ble_eq_true rfl, Nat.le_of_ble_eq_true rfl⟩ rfl (Nat.le_of_ble_eq_true rfl) rfl ?_
                                    refine x_aload_n (pc := 486) X dL_law_486 (i := 2) rfl 2 rfl ?_
                                    refine x_aload_n (pc := 487) X dL_law_487 (i := 0) rfl 0 rfl ?_
                                    refine x_iload_n (pc := 488) X dL_law_488 (i := 3) rfl 3 rfl ?_
                                    refine x_iconst (v := 1) (pc := 489) X dL_law_489 (by decide) ?_
                                    refine x_iadd (pc := 490) X dL_law_490 ?_
                                    obtain ⟨g103, h⟩ := grd h
                                    refine x_sld hXb (pc := 491) X dL_law_491 g103 ?_
                                    obtain ⟨k105, h⟩ := grd h
                                    obtain ⟨z104, e104, h⟩ := bnds h
                                    refine x_callV (pc := 492) (As := [.int (xs (i3 + 1).toNatClampNeg)]) (st := [.int z101.1]) (st' := [.int z104.1, .int z101.1]) X (c_M_walked l cx 117 N z101.2 P _ _ z104 e104) dL_law_492 w_1116 m_M_walked rfl k105 (ci := 9) rfl rfl ⟨Nat.le_of_ble_eq_true rfl, Nat.le_of_ble_eq_true rfl⟩ ⟨Nat.le_of_ble_eq_true rfl, Nat.le_of_ble_eq_true rfl⟩ rfl (Nat.le_of_ble_eq_true rfl) rfl ?_
                                    refine x_icmp_eq (tgt := 918) (pc := 495) X dL_law_495 (by decide) (fun c106 => ?_) (fun c106 => ?_)
                                    · have h := ite_t c106 h
                                      refine x_iinc (v := i3 + 5) (lv' := [(3, .int (i3 + 5)), (0, .ref b), (1, .ref (cx.2.2 + a1)), (2, .ref (cx.2.2 + a2))]) (pc := 918) X dL_law_918 3 rfl rfl (by decide) rfl ?_
                                      refine x_goto (tgt := 18) (pc := 921) X dL_law_921 (by decide) ?_
                                      exact XW.sub [1, 2, 3, 0] rfl (ih18 _ _ _ h)
                                    · have h := ite_f c106 h
                                      refine x_iconst (v := 0) (pc := 498) X dL_law_498 (by decide) ?_
                                      have h := Option.some.inj h
                                      exact absurd h (by decide)
                                  · have h := ite_f cs32_13 h
                                    by_cases cs32_14 : (xs i3.toNatClampNeg) &&& 31 = 14
                                    · have h := ite_t cs32_14 h
                                      refine x_tsw (off := 468) (tgt := 500) (pc := 32) X 14 dL_law_32 cs32_14 (by decide) (by decide) (by decide) (by decide) ?_
                                      refine x_aload_n (pc := 500) X dL_law_500 (i := 1) rfl 1 rfl ?_
                                      refine x_aload_n (pc := 501) X dL_law_501 (i := 0) rfl 0 rfl ?_
                                      refine x_iload_n (pc := 502) X dL_law_502 (i := 3) rfl 3 rfl ?_
                                      refine x_iconst (v := 1) (pc := 503) X dL_law_503 (by decide) ?_
                                      refine x_iadd (pc := 504) X dL_law_504 ?_
                                      obtain ⟨g107, h⟩ := grd h
                                      refine x_sld hXb (pc := 505) X dL_law_505 g107 ?_
                                      obtain ⟨k109, h⟩ := grd h
                                      obtain ⟨z108, e108, h⟩ := bnds h
                                      refine x_callV (pc := 506) (As := [.int (xs (i3 + 1).toNatClampNeg)]) (st := []) (st' := [.int z108.1]) X (c_H_breaks l cx 117 N D P _ _ z108 e108) dL_law_506 w_647 m_H_breaks rfl k109 (ci := 8) rfl rfl ⟨Nat.le_of_ble_eq_true rfl, Nat.le_of_ble_eq_true rfl⟩ ⟨Nat.le_of_ble_eq_true rfl, Nat.le_of_ble_eq_true rfl⟩ rfl (Nat.le_of_ble_eq_true rfl) rfl ?_
                                      refine x_aload_n (pc := 509) X dL_law_509 (i := 2) rfl 2 rfl ?_
                                      refine x_aload_n (pc := 510) X dL_law_510 (i := 0) rfl 0 rfl ?_
                                      refine x_iload_n (pc := 511) X dL_law_511 (i := 3) rfl 3 rfl ?_
                                      refine x_iconst (v := 1) (pc := 512) X dL_law_512 (by decide) ?_
                                      refine x_iadd (pc := 513) X dL_law_513 ?_
                                      obtain ⟨g110, h⟩ := grd h
                                      refine x_sld hXb (pc := 514) X dL_law_514 g110 ?_
                                      obtain ⟨k112, h⟩ := grd h
                                      obtain ⟨z111, e111, h⟩ := bnds h
                                      refine x_callV (pc := 515) (As := [.int (xs (i3 + 1).toNatClampNeg)]) (st := [.int z108.1]) (st' := [.int z111.1, .int z108.1]) X (c_M_breaks l cx 117 N z108.2 P _ _ z111 e111) dL_law_515 w_1120 m_M_breaks rfl k112 (ci := 9) rfl rfl ⟨Nat.le_of_ble_eq_true rfl, Nat.le_of_ble_eq_true rfl⟩ ⟨Nat.le_of_ble_eq_true rfl, Nat.le_of_ble_eq_true rfl⟩ rfl (Nat.le_of_ble_eq_true rfl) rfl ?_
                                      refine x_icmp_eq (tgt := 918) (pc := 518) X dL_law_518 (by decide) (fun c113 => ?_) (fun c113 => ?_)
                                      · have h := ite_t c113 h
                                        refine x_iinc (v := i3 + 5) (lv' := [(3, .int (i3 + 5)), (0, .ref b), (1, .ref (cx.2.2 + a1)), (2, .ref (cx.2.2 + a2))]) (pc := 918) X dL_law_918 3 rfl rfl (by decide) rfl ?_
                                        refine x_goto (tgt := 18) (pc := 921) X dL_law_921 (by decide) ?_
                                        exact XW.sub [1, 2, 3, 0] rfl (ih18 _ _ _ h)
                                      · have h := ite_f c113 h
                                        refine x_iconst (v := 0) (pc := 521) X dL_law_521 (by decide) ?_
                                        have h := Option.some.inj h
                                        exact absurd h (by decide)
                                    · have h := ite_f cs32_14 h
                                      by_cases cs32_15 : (xs i3.toNatClampNeg) &&& 31 = 15
                                      · have h := ite_t cs32_15 h
                                        refine x_tsw (off := 491) (tgt := 523) (pc := 32) X 15 dL_law_32 cs32_15 (by decide) (by decide) (by decide) (by decide) ?_
                                        refine x_aload_n (pc := 523) X dL_law_523 (i := 1) rfl 1 rfl ?_
                                        obtain ⟨k115, h⟩ := grd h
                                        obtain ⟨z114, e114, h⟩ := bnds h
                                        refine x_callV (pc := 524) (As := []) (st := []) (st' := [.int z114.1]) X (c_H_door l cx 117 N D P _ z114 e114) dL_law_524 w_652 m_H_door rfl k115 (ci := 8) rfl rfl ⟨Nat.le_of_ble_eq_true rfl, Nat.le_of_ble_eq_true rfl⟩ ⟨Nat.le_of_ble_eq_true rfl, Nat.le_of_ble_eq_true rfl⟩ rfl (Nat.le_of_ble_eq_true rfl) rfl ?_
                                        refine x_aload_n (pc := 527) X dL_law_527 (i := 2) rfl 2 rfl ?_
                                        obtain ⟨k117, h⟩ := grd h
                                        obtain ⟨z116, e116, h⟩ := bnds h
                                        refine x_callV (pc := 528) (As := []) (st := [.int z114.1]) (st' := [.int z116.1, .int z114.1]) X (c_M_door l cx 117 N z114.2 P _ z116 e116) dL_law_528 w_1124 m_M_door rfl k117 (ci := 9) rfl rfl ⟨Nat.le_of_ble_eq_true rfl, Nat.le_of_ble_eq_true rfl⟩ ⟨Nat.le_of_ble_eq_true rfl, Nat.le_of_ble_eq_true rfl⟩ rfl (Nat.le_of_ble_eq_true rfl) rfl ?_
                                        refine x_icmp_eq (tgt := 918) (pc := 531) X dL_law_531 (by decide) (fun c118 => ?_) (fun c118 => ?_)
                                        · have h := ite_t c118 h
                                          refine x_iinc (v := i3 + 5) (lv' := [(3, .int (i3 + 5)), (0, .ref b), (1, .ref (cx.2.2 + a1)), (2, .ref (cx.2.2 + a2))]) (pc := 918) X dL_law_918 3 rfl rfl (by decide) rfl ?_
                                          refine x_goto (tgt := 18) (pc := 921) X dL_law_921 (by decide) ?_
                                          exact XW.sub [1, 2, 3, 0] rfl (ih18 _ _ _ h)
                                        · have h := ite_f c118 h
                                          refine x_iconst (v := 0) (pc := 534) X dL_law_534 (by decide) ?_
                                          have h := Option.some.inj h
                                          exact absurd h (by decide)
                                      · have h := ite_f cs32_15 h
                                        by_cases cs32_16 : (xs i3.toNatClampNeg) &&& 31 = 16
                                        · have h := ite_t cs32_16 h
                                          refine x_tsw (off := 504) (tgt := 536) (pc := 32) X 16 dL_law_32 cs32_16 (by decide) (by decide) (by decide) (by decide) ?_
                                          refine x_aload_n (pc := 536) X dL_law_536 (i := 1) rfl 1 rfl ?_
                                          refine x_aload_n (pc := 537) X dL_law_537 (i := 0) rfl 0 rfl ?_
                                          refine x_iload_n (pc := 538) X dL_law_538 (i := 3) rfl 3 rfl ?_
                                          refine x_iconst (v := 1) (pc := 539) X dL_law_539 (by decide) ?_
                                          refine x_iadd (pc := 540) X dL_law_540 ?_
                                          obtain ⟨g119, h⟩ := grd h
                                          refine x_sld hXb (pc := 541) X dL_law_541 g119 ?_
                                          refine x_aload_n (pc := 542) X dL_law_542 (i := 0) rfl 0 rfl ?_
                                          refine x_iload_n (pc := 543) X dL_law_543 (i := 3) rfl 3 rfl ?_
                                          refine x_iconst (v := 2) (pc := 544) X dL_law_544 (by decide) ?_
                                          refine x_iadd (pc := 545) X dL_law_545 ?_
                                          obtain ⟨g120, h⟩ := grd h
                                          refine x_sld hXb (pc := 546) X dL_law_546 g120 ?_
                                          obtain ⟨k122, h⟩ := grd h
                                          obtain ⟨z121, e121, h⟩ := bnds h
                                          refine x_callV (pc := 547) (As := [.int (xs (i3 + 1).toNatClampNeg), .int (xs (i3 + 2).toNatClampNeg)]) (st := []) (st' := [.int z121.1]) X (c_H_best l cx 117 N D P _ _ _ z121 e121) dL_law_547 w_656 m_H_best rfl k122 (ci := 8) rfl rfl ⟨Nat.le_of_ble_eq_true rfl, Nat.le_of_ble_eq_true rfl⟩ ⟨Nat.le_of_ble_eq_true rfl, Nat.le_of_ble_eq_true rfl⟩ rfl (Nat.le_of_ble_eq_true rfl) rfl ?_
                                          refine x_aload_n (pc := 550) X dL_law_550 (i := 2) rfl 2 rfl ?_
                                          refine x_aload_n (pc := 551) X dL_law_551 (i := 0) rfl 0 rfl ?_
                                          refine x_iload_n (pc := 552) X dL_law_552 (i := 3) rfl 3 rfl ?_
                                          refine x_iconst (v := 1) (pc := 553) X dL_law_553 (by decide) ?_
                                          refine x_iadd (pc := 554) X dL_law_554 ?_
                                          obtain ⟨g123, h⟩ := grd h
                                          refine x_sld hXb (pc := 555) X dL_law_555 g123 ?_
                                          refine x_aload_n (pc := 556) X dL_law_556 (i := 0) rfl 0 rfl ?_
                                          refine x_iload_n (pc := 557) X dL_law_557 (i := 3) rfl 3 rfl ?_
                                          refine x_iconst (v := 2) (pc := 558) X dL_law_558 (by decide) ?_
                                          refine x_iadd (pc := 559) X dL_law_559 ?_
                                          obtain ⟨g124, h⟩ := grd h
                                          refine x_sld hXb (pc := 560) X dL_law_560 g124 ?_
                                          obtain ⟨k126, h⟩ := grd h
                                          obtain ⟨z125, e125, h⟩ := bnds h
                                          refine x_callV (pc := 561) (As := [.int (xs (i3 + 1).toNatClampNeg), .int (xs (i3 + 2).toNatClampNeg)]) (st := [.int z121.1]) (st' := [.int z125.1, .int z121.1]) X (c_M_best l cx 117 N z121.2 P _ _ _ z125 e125) dL_law_561 w_1128 m_M_best rfl k126 (ci := 9) rfl rfl ⟨Nat.le_of_ble_eq_true rfl, Nat.le_of_ble_eq_true rfl⟩ ⟨Nat.le_of_ble_eq_true rfl, Nat.le_of_ble_eq_true rfl⟩ rfl (Nat.le_of_ble_eq_true rfl) rfl ?_
                                          refine x_icmp_eq (tgt := 918) (pc := 564) X dL_law_564 (by decide) (fun c127 => ?_) (fun c127 => ?_)
                                          · have h := ite_t c127 h
                                            refine x_iinc (v := i3 + 5) (lv' := [(3, .int (i3 + 5)), (0, .ref b), (1, .ref (cx.2.2 + a1)), (2, .ref (cx.2.2 + a2))]) (pc := 918) X dL_law_918 3 rfl rfl (by decide) rfl ?_
                                            refine x_goto (tgt := 18) (pc := 921) X dL_law_921 (by decide) ?_
                                            exact XW.sub [1, 2, 3, 0] rfl (ih18 _ _ _ h)
                                          · have h := ite_f c127 h
                                            refine x_iconst (v := 0) (pc := 567) X dL_law_567 (by decide) ?_
                                            have h := Option.some.inj h
                                            exact absurd h (by decide)
                                        · have h := ite_f cs32_16 h
                                          by_cases cs32_17 : (xs i3.toNatClampNeg) &&& 31 = 17
                                          · have h := ite_t cs32_17 h
                                            refine x_tsw (off := 537) (tgt := 569) (pc := 32) X 17 dL_law_32 cs32_17 (by decide) (by decide) (by decide) (by decide) ?_
                                            refine x_aload_n (pc := 569) X dL_law_569 (i := 1) rfl 1 rfl ?_
                                            refine x_aload_n (pc := 570) X dL_law_570 (i := 0) rfl 0 rfl ?_
                                            refine x_iload_n (pc := 571) X dL_law_571 (i := 3) rfl 3 rfl ?_
                                            refine x_iconst (v := 1) (pc := 572) X dL_law_572 (by decide) ?_
                                            refine x_iadd (pc := 573) X dL_law_573 ?_
                                            obtain ⟨g128, h⟩ := grd h
                                            refine x_sld hXb (pc := 574) X dL_law_574 g128 ?_
                                            obtain ⟨k130, h⟩ := grd h
                                            obtain ⟨z129, e129, h⟩ := bnds h
                                            refine x_callV (pc := 575) (As := [.int (xs (i3 + 1).toNatClampNeg)]) (st := []) (st' := [.int z129.1]) X (c_H_share l cx 117 N D P _ _ z129 e129) dL_law_575 w_687 m_H_share rfl k130 (ci := 8) rfl rfl ⟨Nat.le_of_ble_eq_true rfl, Nat.le_of_ble_eq_true rfl⟩ ⟨Nat.le_of_ble_eq_true rfl, Nat.le_of_ble_eq_true rfl⟩ rfl (Nat.le_of_ble_eq_true rfl) rfl ?_
                                            refine x_aload_n (pc := 578) X dL_law_578 (i := 2) rfl 2 rfl ?_
                                            refine x_aload_n (pc := 579) X dL_law_579 (i := 0) rfl 0 rfl ?_
                                            refine x_iload_n (pc := 580) X dL_law_580 (i := 3) rfl 3 rfl ?_
                                            refine x_iconst (v := 1) (pc := 581) X dL_law_581 (by decide) ?_
                                            refine x_iadd (pc := 582) X dL_law_582 ?_
                                            obtain ⟨g131, h⟩ := grd h
                                            refine x_sld hXb (pc := 583) X dL_law_583 g131 ?_
                                            obtain ⟨k133, h⟩ := grd h
                                            obtain ⟨z132, e132, h⟩ := bnds h
                                            refine x_callV (pc := 584) (As := [.int (xs (i3 + 1).toNatClampNeg)]) (st := [.int z129.1]) (st' := [.int z132.1, .int z129.1]) X (c_M_share l cx 117 N z129.2 P _ _ z132 e132) dL_law_584 w_1147 m_M_share rfl k133 (ci := 9) rfl rfl ⟨Nat.le_of_ble_eq_true rfl, Nat.le_of_ble_eq_true rfl⟩ ⟨Nat.le_of_ble_eq_true rfl, Nat.le_of_ble_eq_true rfl⟩ rfl (Nat.le_of_ble_eq_true rfl) rfl ?_
                                            refine x_icmp_eq (tgt := 918) (pc := 587) X dL_law_587 (by decide) (fun c134 => ?_) (fun c134 => ?_)
                                            · have h := ite_t c134 h
                                              refine x_iinc (v := i3 + 5) (lv' := [(3, .int (i3 + 5)), (0, .ref b), (1, .ref (cx.2.2 + a1)), (2, .ref (cx.2.2 + a2))]) (pc := 918) X dL_law_918 3 rfl rfl (by decide) rfl ?_
                                              refine x_goto (tgt := 18) (pc := 921) X dL_law_921 (by decide) ?_
                                              exact XW.sub [1, 2, 3, 0] rfl (ih18 _ _ _ h)
                                            · have h := ite_f c134 h
                                              refine x_iconst (v := 0) (pc := 590) X dL_law_590 (by decide) ?_
                                              have h := Option.some.inj h
                                              exact absurd h (by decide)
                                          · have h := ite_f cs32_17 h
                                            by_cases cs32_18 : (xs i3.toNatClampNeg) &&& 31 = 18
                                            · have h := ite_t cs32_18 h
                                              refine x_tsw (off := 560) (tgt := 592) (pc := 32) X 18 dL_law_32 cs32_18 (by decide) (by decide) (by decide) (by decide) ?_
                                              refine x_aload_n (pc := 592) X dL_law_592 (i := 1) rfl 1 rfl ?_
                                              refine x_aload_n (pc := 593) X dL_law_593 (i := 0) rfl 0 rfl ?_
                                              refine x_iload_n (pc := 594) X dL_law_594 (i := 3) rfl 3 rfl ?_
                                              refine x_iconst (v := 1) (pc := 595) X dL_law_595 (by decide) ?_
                                              refine x_iadd (pc := 596) X dL_law_596 ?_
                                              obtain ⟨g135, h⟩ := grd h
                                              refine x_sld hXb (pc := 597) X dL_law_597 g135 ?_
                                              obtain ⟨k137, h⟩ := grd h
                                              obtain ⟨z136, e136, h⟩ := bnds h
                                              refine x_callV (pc := 598) (As := [.int (xs (i3 + 1).toNatClampNeg)]) (st := []) (st' := [.int z136.1]) X (c_H_relief l cx 117 N D P _ _ z136 e136) dL_law_598 w_713 m_H_relief rfl k137 (ci := 8) rfl rfl ⟨Nat.le_of_ble_eq_true rfl, Nat.le_of_ble_eq_true rfl⟩ ⟨Nat.le_of_ble_eq_true rfl, Nat.le_of_ble_eq_true rfl⟩ rfl (Nat.le_of_ble_eq_true rfl) rfl ?_
                                              refine x_aload_n (pc := 601) X dL_law_601 (i := 2) rfl 2 rfl ?_
                                              refine x_aload_n (pc := 602) X dL_law_602 (i := 0) rfl 0 rfl ?_
                                              refine x_iload_n (pc := 603) X dL_law_603 (i := 3) rfl 3 rfl ?_
                                              refine x_iconst (v := 1) (pc := 604) X dL_law_604 (by decide) ?_
                                              refine x_iadd (pc := 605) X dL_law_605 ?_
                                              obtain ⟨g138, h⟩ := grd h
                                              refine x_sld hXb (pc := 606) X dL_law_606 g138 ?_
                                              obtain ⟨k140, h⟩ := grd h
                                              obtain ⟨z139, e139, h⟩ := bnds h
                                              refine x_callV (pc := 607) (As := [.int (xs (i3 + 1).toNatClampNeg)]) (st := [.int z136.1]) (st' := [.int z139.1, .int z136.1]) X (c_M_relief l cx 117 N z136.2 P _ _ z139 e139) dL_law_607 w_1156 m_M_relief rfl k140 (ci := 9) rfl rfl ⟨Nat.le_of_ble_eq_true rfl, Nat.le_of_ble_eq_true rfl⟩ ⟨Nat.le_of_ble_eq_true rfl, Nat.le_of_ble_eq_true rfl⟩ rfl (Nat.le_of_ble_eq_true rfl) rfl ?_
                                              refine x_icmp_eq (tgt := 918) (pc := 610) X dL_law_610 (by decide) (fun c141 => ?_) (fun c141 => ?_)
                                              · have h := ite_t c141 h
                                                refine x_iinc (v := i3 + 5) (lv' := [(3, .int (i3 + 5)), (0, .ref b), (1, .ref (cx.2.2 + a1)), (2, .ref (cx.2.2 + a2))]) (pc := 918) X dL_law_918 3 rfl rfl (by decide) rfl ?_
                                                refine x_goto (tgt := 18) (pc := 921) X dL_law_921 (by decide) ?_
                                                exact XW.sub [1, 2, 3, 0] rfl (ih18 _ _ _ h)
                                              · have h := ite_f c141 h
                                                refine x_iconst (v := 0) (pc := 613) X dL_law_613 (by decide) ?_
                                                have h := Option.some.inj h
                                                exact absurd h (by decide)
                                            · have h := ite_f cs32_18 h
                                              by_cases cs32_19 : (xs i3.toNatClampNeg) &&& 31 = 19
                                              · have h := ite_t cs32_19 h
                                                refine x_tsw (off := 583) (tgt := 615) (pc := 32) X 19 dL_law_32 cs32_19 (by decide) (by decide) (by decide) (by decide) ?_
                                                refine x_aload_n (pc := 615) X dL_law_615 (i := 1) rfl 1 rfl ?_
                                                refine x_aload_n (pc := 616) X dL_law_616 (i := 0) rfl 0 rfl ?_
                                                refine x_iload_n (pc := 617) X dL_law_617 (i := 3) rfl 3 rfl ?_
                                                refine x_iconst (v := 1) (pc := 618) X dL_law_618 (by decide) ?_
                                                refine x_iadd (pc := 619) X dL_law_619 ?_
                                                obtain ⟨g142, h⟩ := grd h
                                                refine x_sld hXb (pc := 620) X dL_law_620 g142 ?_
                                                obtain ⟨k144, h⟩ := grd h
                                                obtain ⟨z143, e143, h⟩ := bnds h
                                                refine x_callV (pc := 621) (As := [.int (xs (i3 + 1).toNatClampNeg)]) (st := []) (st' := [.int z143]) X (c_H_pair l cx 117 N D P _ _ z143 e143) dL_law_621 w_721 m_H_pair rfl k144 (ci := 8) rfl rfl ⟨Nat.le_of_ble_eq_true rfl, Nat.le_of_ble_eq_true rfl⟩ ⟨Nat.le_of_ble_eq_true rfl, Nat.le_of_ble_eq_true rfl⟩ rfl (Nat.le_of_ble_eq_true rfl) rfl ?_
                                                refine x_aload_n (pc := 624) X dL_law_624 (i := 2) rfl 2 rfl ?_
                                                refine x_aload_n (pc := 625) X dL_law_625 (i := 0) rfl 0 rfl ?_
                                                refine x_iload_n (pc := 626) X dL_law_626 (i := 3) rfl 3 rfl ?_
                                                refine x_iconst (v := 1) (pc := 627) X dL_law_627 (by decide) ?_
                                                refine x_iadd (pc := 628) X dL_law_628 ?_
                                                obtain ⟨g145, h⟩ := grd h
                                                refine x_sld hXb (pc := 629) X dL_law_629 g145 ?_
                                                obtain ⟨k147, h⟩ := grd h
                                                obtain ⟨z146, e146, h⟩ := bnds h
                                                refine x_callV (pc := 630) (As := [.int (xs (i3 + 1).toNatClampNeg)]) (st := [.int z143]) (st' := [.int z146, .int z143]) X (c_M_pair l cx 117 N D P _ _ z146 e146) dL_law_630 w_1164 m_M_pair rfl k147 (ci := 9) rfl rfl ⟨Nat.le_of_ble_eq_true rfl, Nat.le_of_ble_eq_true rfl⟩ ⟨Nat.le_of_ble_eq_true rfl, Nat.le_of_ble_eq_true rfl⟩ rfl (Nat.le_of_ble_eq_true rfl) rfl ?_
                                                refine x_icmp_eq (tgt := 918) (pc := 633) X dL_law_633 (by decide) (fun c148 => ?_) (fun c148 => ?_)
                                                · have h := ite_t c148 h
                                                  refine x_iinc (v := i3 + 5) (lv' := [(3, .int (i3 + 5)), (0, .ref b), (1, .ref (cx.2.2 + a1)), (2, .ref (cx.2.2 + a2))]) (pc := 918) X dL_law_918 3 rfl rfl (by decide) rfl ?_
                                                  refine x_goto (tgt := 18) (pc := 921) X dL_law_921 (by decide) ?_
                                                  exact XW.sub [1, 2, 3, 0] rfl (ih18 _ _ _ h)
                                                · have h := ite_f c148 h
                                                  refine x_iconst (v := 0) (pc := 636) X dL_law_636 (by decide) ?_
                                                  have h := Option.some.inj h
                                                  exact absurd h (by decide)
                                              · have h := ite_f cs32_19 h
                                                by_cases cs32_20 : (xs i3.toNatClampNeg) &&& 31 = 20
                                                · have h := ite_t cs32_20 h
                                                  refine x_tsw (off := 606) (tgt := 638) (pc := 32) X 20 dL_law_32 cs32_20 (by decide) (by decide) (by decide) (by decide) ?_
                                                  refine x_aload_n (pc := 638) X dL_law_638 (i := 1) rfl 1 rfl ?_
                                                  refine x_aload_n (pc := 639) X dL_law_639 (i := 0) rfl 0 rfl ?_
                                                  refine x_iload_n (pc := 640) X dL_law_640 (i := 3) rfl 3 rfl ?_
                                                  refine x_iconst (v := 1) (pc := 641) X dL_law_641 (by decide) ?_
                                                  refine x_iadd (pc := 642) X dL_law_642 ?_
                                                  obtain ⟨g149, h⟩ := grd h
                                                  refine x_sld hXb (pc := 643) X dL_law_643 g149 ?_
                                                  refine x_aload_n (pc := 644) X dL_law_644 (i := 0) rfl 0 rfl ?_
                                                  refine x_iload_n (pc := 645) X dL_law_645 (i := 3) rfl 3 rfl ?_
                                                  refine x_iconst (v := 2) (pc := 646) X dL_law_646 (by decide) ?_
                                                  refine x_iadd (pc := 647) X dL_law_647 ?_
                                                  obtain ⟨g150, h⟩ := grd h
                                                  refine x_sld hXb (pc := 648) X dL_law_648 g150 ?_
                                                  refine x_aload_n (pc := 649) X dL_law_649 (i := 0) rfl 0 rfl ?_
                                                  refine x_iload_n (pc := 650) X dL_law_650 (i := 3) rfl 3 rfl ?_
                                                  refine x_iconst (v := 3) (pc := 651) X dL_law_651 (by decide) ?_
                                                  refine x_iadd (pc := 652) X dL_law_652 ?_
                                                  obtain ⟨g151, h⟩ := grd h
                                                  refine x_sld hXb (pc := 653) X dL_law_653 g151 ?_
                                                  obtain ⟨k153, h⟩ := grd h
                                                  obtain ⟨z152, e152, h⟩ := bnds h
                                                  refine x_callV (pc := 654) (As := [.int (xs (i3 + 1).toNatClampNeg), .int (xs (i3 + 2).toNatClampNeg), .int (xs (i3 + 3).toNatClampNeg)]) (st := []) (st' := [.int z152.1]) X (c_H_see l cx 117 N D P _ _ _ _ z152 e152) dL_law_654 w_729 m_H_see rfl k153 (ci := 8) rfl rfl ⟨Nat.le_of_ble_eq_true rfl, Nat.le_of_ble_eq_true rfl⟩ ⟨Nat.le_of_ble_eq_true rfl, Nat.le_of_ble_eq_true rfl⟩ rfl (Nat.le_of_ble_eq_true rfl) rfl ?_
                                                  refine x_aload_n (pc := 657) X dL_law_657 (i := 2) rfl 2 rfl ?_
                                                  refine x_aload_n (pc := 658) X dL_law_658 (i := 0) rfl 0 rfl ?_
                                                  refine x_iload_n (pc := 659) X dL_law_659 (i := 3) rfl 3 rfl ?_
                                                  refine x_iconst (v := 1) (pc := 660) X dL_law_660 (by decide) ?_
                                                  refine x_iadd (pc := 661) X dL_law_661 ?_
                                                  obtain ⟨g154, h⟩ := grd h
                                                  refine x_sld hXb (pc := 662) X dL_law_662 g154 ?_
                                                  refine x_aload_n (pc := 663) X dL_law_663 (i := 0) rfl 0 rfl ?_
                                                  refine x_iload_n (pc := 664) X dL_law_664 (i := 3) rfl 3 rfl ?_
                                                  refine x_iconst (v := 2) (pc := 665) X dL_law_665 (by decide) ?_
                                                  refine x_iadd (pc := 666) X dL_law_666 ?_
                                                  obtain ⟨g155, h⟩ := grd h
                                                  refine x_sld hXb (pc := 667) X dL_law_667 g155 ?_
                                                  refine x_aload_n (pc := 668) X dL_law_668 (i := 0) rfl 0 rfl ?_
                                                  refine x_iload_n (pc := 669) X dL_law_669 (i := 3) rfl 3 rfl ?_
                                                  refine x_iconst (v := 3) (pc := 670) X dL_law_670 (by decide) ?_
                                                  refine x_iadd (pc := 671) X dL_law_671 ?_
                                                  obtain ⟨g156, h⟩ := grd h
                                                  refine x_sld hXb (pc := 672) X dL_law_672 g156 ?_
                                                  obtain ⟨k158, h⟩ := grd h
                                                  obtain ⟨z157, e157, h⟩ := bnds h
                                                  refine x_callV (pc := 673) (As := [.int (xs (i3 + 1).toNatClampNeg), .int (xs (i3 + 2).toNatClampNeg), .int (xs (i3 + 3).toNatClampNeg)]) (st := [.int z152.1]) (st' := [.int z157.1, .int z152.1]) X (c_M_see l cx 117 N z152.2 P _ _ _ _ z157 e157) dL_law_673 w_1168 m_M_see rfl k158 (ci := 9) rfl rfl ⟨Nat.le_of_ble_eq_true rfl, Nat.le_of_ble_eq_true rfl⟩ ⟨Nat.le_of_ble_eq_true rfl, Nat.le_of_ble_eq_true rfl⟩ rfl (Nat.le_of_ble_eq_true rfl) rfl ?_
                                                  refine x_icmp_eq (tgt := 918) (pc := 676) X dL_law_676 (by decide) (fun c159 => ?_) (fun c159 => ?_)
                                                  · have h := ite_t c159 h
                                                    refine x_iinc (v := i3 + 5) (lv' := [(3, .int (i3 + 5)), (0, .ref b), (1, .ref (cx.2.2 + a1)), (2, .ref (cx.2.2 + a2))]) (pc := 918) X dL_law_918 3 rfl rfl (by decide) rfl ?_
                                                    refine x_goto (tgt := 18) (pc := 921) X dL_law_921 (by decide) ?_
                                                    exact XW.sub [1, 2, 3, 0] rfl (ih18 _ _ _ h)
                                                  · have h := ite_f c159 h
                                                    refine x_iconst (v := 0) (pc := 679) X dL_law_679 (by decide) ?_
                                                    have h := Option.some.inj h
                                                    exact absurd h (by decide)
                                                · have h := ite_f cs32_20 h
                                                  by_cases cs32_21 : (xs i3.toNatClampNeg) &&& 31 = 21
                                                  · have h := ite_t cs32_21 h
                                                    refine x_tsw (off := 649) (tgt := 681) (pc := 32) X 21 dL_law_32 cs32_21 (by decide) (by decide) (by decide) (by decide) ?_
                                                    refine x_aload_n (pc := 681) X dL_law_681 (i := 1) rfl 1 rfl ?_
                                                    refine x_aload_n (pc := 682) X dL_law_682 (i := 0) rfl 0 rfl ?_
                                                    refine x_iload_n (pc := 683) X dL_law_683 (i := 3) rfl 3 rfl ?_
                                                    refine x_iconst (v := 1) (pc := 684) X dL_law_684 (by decide) ?_
                                                    refine x_iadd (pc := 685) X dL_law_685 ?_
                                                    obtain ⟨g160, h⟩ := grd h
                                                    refine x_sld hXb (pc := 686) X dL_law_686 g160 ?_
                                                    obtain ⟨k162, h⟩ := grd h
                                                    obtain ⟨z161, e161, h⟩ := bnds h
                                                    refine x_callV (pc := 687) (As := [.int (xs (i3 + 1).toNatClampNeg)]) (st := []) (st' := [.int z161.1]) X (c_H_mark l cx 117 N D P _ _ z161 e161) dL_law_687 w_738 m_H_mark rfl k162 (ci := 8) rfl rfl ⟨Nat.le_of_ble_eq_true rfl, Nat.le_of_ble_eq_true rfl⟩ ⟨Nat.le_of_ble_eq_true rfl, Nat.le_of_ble_eq_true rfl⟩ rfl (Nat.le_of_ble_eq_true rfl) rfl ?_
                                                    refine x_aload_n (pc := 690) X dL_law_690 (i := 2) rfl 2 rfl ?_
                                                    refine x_aload_n (pc := 691) X dL_law_691 (i := 0) rfl 0 rfl ?_
                                                    refine x_iload_n (pc := 692) X dL_law_692 (i := 3) rfl 3 rfl ?_
                                                    refine x_iconst (v := 1) (pc := 693) X dL_law_693 (by decide) ?_
                                                    refine x_iadd (pc := 694) X dL_law_694 ?_
                                                    obtain ⟨g163, h⟩ := grd h
                                                    refine x_sld hXb (pc := 695) X dL_law_695 g163 ?_
                                                    obtain ⟨k165, h⟩ := grd h
                                                    obtain ⟨z164, e164, h⟩ := bnds h
                                                    refine x_callV (pc := 696) (As := [.int (xs (i3 + 1).toNatClampNeg)]) (st := [.int z161.1]) (st' := [.int z164.1, .int z161.1]) X (c_M_mark l cx 117 N z161.2 P _ _ z164 e164) dL_law_696 w_1172 m_M_mark rfl k165 (ci := 9) rfl rfl ⟨Nat.le_of_ble_eq_true rfl, Nat.le_of_ble_eq_true rfl⟩ ⟨Nat.le_of_ble_eq_true rfl, Nat.le_of_ble_eq_true rfl⟩ rfl (Nat.le_of_ble_eq_true rfl) rfl ?_
                                                    refine x_icmp_eq (tgt := 918) (pc := 699) X dL_law_699 (by decide) (fun c166 => ?_) (fun c166 => ?_)
                                                    · have h := ite_t c166 h
                                                      refine x_iinc (v := i3 + 5) (lv' := [(3, .int (i3 + 5)), (0, .ref b), (1, .ref (cx.2.2 + a1)), (2, .ref (cx.2.2 + a2))]) (pc := 918) X dL_law_918 3 rfl rfl (by decide) rfl ?_
                                                      refine x_goto (tgt := 18) (pc := 921) X dL_law_921 (by decide) ?_
                                                      exact XW.sub [1, 2, 3, 0] rfl (ih18 _ _ _ h)
                                                    · have h := ite_f c166 h
                                                      refine x_iconst (v := 0) (pc := 702) X dL_law_702 (by decide) ?_
                                                      have h := Option.some.inj h
                                                      exact absurd h (by decide)
                                                  · have h := ite_f cs32_21 h
                                                    by_cases cs32_22 : (xs i3.toNatClampNeg) &&& 31 = 22
                                                    · have h := ite_t cs32_22 h
                                                      refine x_tsw (off := 672) (tgt := 704) (pc := 32) X 22 dL_law_32 cs32_22 (by decide) (by decide) (by decide) (by decide) ?_
                                                      refine x_aload_n (pc := 704) X dL_law_704 (i := 1) rfl 1 rfl ?_
                                                      obtain ⟨k168, h⟩ := grd h
                                                      obtain ⟨z167, e167, h⟩ := bnds h
                                                      refine x_callV (pc := 705) (As := []) (st := []) (st' := [.int z167.1]) X (c_H_forget l cx 117 N D P _ z167 e167) dL_law_705 w_746 m_H_forget rfl k168 (ci := 8) rfl rfl ⟨Nat.le_of_ble_eq_true rfl, Nat.le_of_ble_eq_true rfl⟩ ⟨Nat.le_of_ble_eq_true rfl, Nat.le_of_ble_eq_true rfl⟩ rfl (Nat.le_of_ble_eq_true rfl) rfl ?_
                                                      refine x_aload_n (pc := 708) X dL_law_708 (i := 2) rfl 2 rfl ?_
                                                      obtain ⟨k170, h⟩ := grd h
                                                      obtain ⟨z169, e169, h⟩ := bnds h
                                                      refine x_callV (pc := 709) (As := []) (st := [.int z167.1]) (st' := [.int z169.1, .int z167.1]) X (c_M_forget l cx 117 N z167.2 P _ z169 e169) dL_law_709 w_1176 m_M_forget rfl k170 (ci := 9) rfl rfl ⟨Nat.le_of_ble_eq_true rfl, Nat.le_of_ble_eq_true rfl⟩ ⟨Nat.le_of_ble_eq_true rfl, Nat.le_of_ble_eq_true rfl⟩ rfl (Nat.le_of_ble_eq_true rfl) rfl ?_
                                                      refine x_icmp_eq (tgt := 918) (pc := 712) X dL_law_712 (by decide) (fun c171 => ?_) (fun c171 => ?_)
                                                      · have h := ite_t c171 h
                                                        refine x_iinc (v := i3 + 5) (lv' := [(3, .int (i3 + 5)), (0, .ref b), (1, .ref (cx.2.2 + a1)), (2, .ref (cx.2.2 + a2))]) (pc := 918) X dL_law_918 3 rfl rfl (by decide) rfl ?_
                                                        refine x_goto (tgt := 18) (pc := 921) X dL_law_921 (by decide) ?_
                                                        exact XW.sub [1, 2, 3, 0] rfl (ih18 _ _ _ h)
                                                      · have h := ite_f c171 h
                                                        refine x_iconst (v := 0) (pc := 715) X dL_law_715 (by decide) ?_
                                                        have h := Option.some.inj h
                                                        exact absurd h (by decide)
                                                    · have h := ite_f cs32_22 h
                                                      by_cases cs32_23 : (xs i3.toNatClampNeg) &&& 31 = 23
                                                      · have h := ite_t cs32_23 h
                                                        refine x_tsw (off := 685) (tgt := 717) (pc := 32) X 23 dL_law_32 cs32_23 (by decide) (by decide) (by decide) (by decide) ?_
                                                        refine x_aload_n (pc := 717) X dL_law_717 (i := 1) rfl 1 rfl ?_
                                                        refine x_aload_n (pc := 718) X dL_law_718 (i := 0) rfl 0 rfl ?_
                                                        refine x_iload_n (pc := 719) X dL_law_719 (i := 3) rfl 3 rfl ?_
                                                        refine x_iconst (v := 1) (pc := 720) X dL_law_720 (by decide) ?_
                                                        refine x_iadd (pc := 721) X dL_law_721 ?_
                                                        obtain ⟨g172, h⟩ := grd h
                                                        refine x_sld hXb (pc := 722) X dL_law_722 g172 ?_
                                                        obtain ⟨k174, h⟩ := grd h
                                                        obtain ⟨z173, e173, h⟩ := bnds h
                                                        refine x_callV (pc := 723) (As := [.int (xs (i3 + 1).toNatClampNeg)]) (st := []) (st' := [.int z173]) X (c_H_kinds l cx 117 N D P _ _ z173 e173) dL_law_723 w_750 m_H_kinds rfl k174 (ci := 8) rfl rfl ⟨Nat.le_of_ble_eq_true rfl, Nat.le_of_ble_eq_true rfl⟩ ⟨Nat.le_of_ble_eq_true rfl, Nat.le_of_ble_eq_true rfl⟩ rfl (Nat.le_of_ble_eq_true rfl) rfl ?_
                                                        refine x_aload_n (pc := 726) X dL_law_726 (i := 2) rfl 2 rfl ?_
                                                        refine x_aload_n (pc := 727) X dL_law_727 (i := 0) rfl 0 rfl ?_
                                                        refine x_iload_n (pc := 728) X dL_law_728 (i := 3) rfl 3 rfl ?_
                                                        refine x_iconst (v := 1) (pc := 729) X dL_law_729 (by decide) ?_
                                                        refine x_iadd (pc := 730) X dL_law_730 ?_
                                                        obtain ⟨g175, h⟩ := grd h
                                                        refine x_sld hXb (pc := 731) X dL_law_731 g175 ?_
                                                        obtain ⟨k177, h⟩ := grd h
                                                        obtain ⟨z176, e176, h⟩ := bnds h
                                                        refine x_callV (pc := 732) (As := [.int (xs (i3 + 1).toNatClampNeg)]) (st := [.int z173]) (st' := [.int z176, .int z173]) X (c_M_kinds l cx 117 N D P _ _ z176 e176) dL_law_732 w_1180 m_M_kinds rfl k177 (ci := 9) rfl rfl ⟨Nat.le_of_ble_eq_true rfl, Nat.le_of_ble_eq_true rfl⟩ ⟨Nat.le_of_ble_eq_true rfl, Nat.le_of_ble_eq_true rfl⟩ rfl (Nat.le_of_ble_eq_true rfl) rfl ?_
                                                        refine x_icmp_eq (tgt := 918) (pc := 735) X dL_law_735 (by decide) (fun c178 => ?_) (fun c178 => ?_)
                                                        · have h := ite_t c178 h
                                                          refine x_iinc (v := i3 + 5) (lv' := [(3, .int (i3 + 5)), (0, .ref b), (1, .ref (cx.2.2 + a1)), (2, .ref (cx.2.2 + a2))]) (pc := 918) X dL_law_918 3 rfl rfl (by decide) rfl ?_
                                                          refine x_goto (tgt := 18) (pc := 921) X dL_law_921 (by decide) ?_
                                                          exact XW.sub [1, 2, 3, 0] rfl (ih18 _ _ _ h)
                                                        · have h := ite_f c178 h
                                                          refine x_iconst (v := 0) (pc := 738) X dL_law_738 (by decide) ?_
                                                          have h := Option.some.inj h
                                                          exact absurd h (by decide)
                                                      · have h := ite_f cs32_23 h
                                                        by_cases cs32_24 : (xs i3.toNatClampNeg) &&& 31 = 24
                                                        · have h := ite_t cs32_24 h
                                                          refine x_tsw (off := 708) (tgt := 740) (pc := 32) X 24 dL_law_32 cs32_24 (by decide) (by decide) (by decide) (by decide) ?_
                                                          refine x_aload_n (pc := 740) X dL_law_740 (i := 1) rfl 1 rfl ?_
                                                          refine x_aload_n (pc := 741) X dL_law_741 (i := 0) rfl 0 rfl ?_
                                                          refine x_iload_n (pc := 742) X dL_law_742 (i := 3) rfl 3 rfl ?_
                                                          refine x_iconst (v := 1) (pc := 743) X dL_law_743 (by decide) ?_
                                                          refine x_iadd (pc := 744) X dL_law_744 ?_
                                                          obtain ⟨g179, h⟩ := grd h
                                                          refine x_sld hXb (pc := 745) X dL_law_745 g179 ?_
                                                          refine x_aload_n (pc := 746) X dL_law_746 (i := 0) rfl 0 rfl ?_
                                                          refine x_iload_n (pc := 747) X dL_law_747 (i := 3) rfl 3 rfl ?_
                                                          refine x_iconst (v := 2) (pc := 748) X dL_law_748 (by decide) ?_
                                                          refine x_iadd (pc := 749) X dL_law_749 ?_
                                                          obtain ⟨g180, h⟩ := grd h
                                                          refine x_sld hXb (pc := 750) X dL_law_750 g180 ?_
                                                          obtain ⟨k182, h⟩ := grd h
                                                          obtain ⟨z181, e181, h⟩ := bnds h
                                                          refine x_callV (pc := 751) (As := [.int (xs (i3 + 1).toNatClampNeg), .int (xs (i3 + 2).toNatClampNeg)]) (st := []) (st' := [.int z181.1]) X (c_H_which l cx 117 N D P _ _ _ z181 e181) dL_law_751 w_762 m_H_which rfl k182 (ci := 8) rfl rfl ⟨Nat.le_of_ble_eq_true rfl, Nat.le_of_ble_eq_true rfl⟩ ⟨Nat.le_of_ble_eq_true rfl, Nat.le_of_ble_eq_true rfl⟩ rfl (Nat.le_of_ble_eq_true rfl) rfl ?_
                                                          refine x_aload_n (pc := 754) X dL_law_754 (i := 2) rfl 2 rfl ?_
                                                          refine x_aload_n (pc := 755) X dL_law_755 (i := 0) rfl 0 rfl ?_
                                                          refine x_iload_n (pc := 756) X dL_law_756 (i := 3) rfl 3 rfl ?_
                                                          refine x_iconst (v := 1) (pc := 757) X dL_law_757 (by decide) ?_
                                                          refine x_iadd (pc := 758) X dL_law_758 ?_
                                                          obtain ⟨g183, h⟩ := grd h
                                                          refine x_sld hXb (pc := 759) X dL_law_759 g183 ?_
                                                          refine x_aload_n (pc := 760) X dL_law_760 (i := 0) rfl 0 rfl ?_
                                                          refine x_iload_n (pc := 761) X dL_law_761 (i := 3) rfl 3 rfl ?_
                                                          refine x_iconst (v := 2) (pc := 762) X dL_law_762 (by decide) ?_
                                                          refine x_iadd (pc := 763) X dL_law_763 ?_
                                                          obtain ⟨g184, h⟩ := grd h
                                                          refine x_sld hXb (pc := 764) X dL_law_764 g184 ?_
                                                          obtain ⟨k186, h⟩ := grd h
                                                          obtain ⟨z185, e185, h⟩ := bnds h
                                                          refine x_callV (pc := 765) (As := [.int (xs (i3 + 1).toNatClampNeg), .int (xs (i3 + 2).toNatClampNeg)]) (st := [.int z181.1]) (st' := [.int z185.1, .int z181.1]) X (c_M_which l cx 117 N z181.2 P _ _ _ z185 e185) dL_law_765 w_1188 m_M_which rfl k186 (ci := 9) rfl rfl ⟨Nat.le_of_ble_eq_true rfl, Nat.le_of_ble_eq_true rfl⟩ ⟨Nat.le_of_ble_eq_true rfl, Nat.le_of_ble_eq_true rfl⟩ rfl (Nat.le_of_ble_eq_true rfl) rfl ?_
                                                          refine x_icmp_eq (tgt := 918) (pc := 768) X dL_law_768 (by decide) (fun c187 => ?_) (fun c187 => ?_)
                                                          · have h := ite_t c187 h
                                                            refine x_iinc (v := i3 + 5) (lv' := [(3, .int (i3 + 5)), (0, .ref b), (1, .ref (cx.2.2 + a1)), (2, .ref (cx.2.2 + a2))]) (pc := 918) X dL_law_918 3 rfl rfl (by decide) rfl ?_
                                                            refine x_goto (tgt := 18) (pc := 921) X dL_law_921 (by decide) ?_
                                                            exact XW.sub [1, 2, 3, 0] rfl (ih18 _ _ _ h)
                                                          · have h := ite_f c187 h
                                                            refine x_iconst (v := 0) (pc := 771) X dL_law_771 (by decide) ?_
                                                            have h := Option.some.inj h
                                                            exact absurd h (by decide)
                                                        · have h := ite_f cs32_24 h
                                                          by_cases cs32_25 : (xs i3.toNatClampNeg) &&& 31 = 25
                                                          · have h := ite_t cs32_25 h
                                                            refine x_tsw (off := 741) (tgt := 773) (pc := 32) X 25 dL_law_32 cs32_25 (by decide) (by decide) (by decide) (by decide) ?_
                                                            refine x_aload_n (pc := 773) X dL_law_773 (i := 1) rfl 1 rfl ?_
                                                            refine x_aload_n (pc := 774) X dL_law_774 (i := 0) rfl 0 rfl ?_
                                                            refine x_iload_n (pc := 775) X dL_law_775 (i := 3) rfl 3 rfl ?_
                                                            refine x_iconst (v := 1) (pc := 776) X dL_law_776 (by decide) ?_
                                                            refine x_iadd (pc := 777) X dL_law_777 ?_
                                                            obtain ⟨g188, h⟩ := grd h
                                                            refine x_sld hXb (pc := 778) X dL_law_778 g188 ?_
                                                            refine x_aload_n (pc := 779) X dL_law_779 (i := 0) rfl 0 rfl ?_
                                                            refine x_iload_n (pc := 780) X dL_law_780 (i := 3) rfl 3 rfl ?_
                                                            refine x_iconst (v := 2) (pc := 781) X dL_law_781 (by decide) ?_
                                                            refine x_iadd (pc := 782) X dL_law_782 ?_
                                                            obtain ⟨g189, h⟩ := grd h
                                                            refine x_sld hXb (pc := 783) X dL_law_783 g189 ?_
                                                            refine x_aload_n (pc := 784) X dL_law_784 (i := 0) rfl 0 rfl ?_
                                                            refine x_iload_n (pc := 785) X dL_law_785 (i := 3) rfl 3 rfl ?_
                                                            refine x_iconst (v := 3) (pc := 786) X dL_law_786 (by decide) ?_
                                                            refine x_iadd (pc := 787) X dL_law_787 ?_
                                                            obtain ⟨g190, h⟩ := grd h
                                                            refine x_sld hXb (pc := 788) X dL_law_788 g190 ?_
                                                            refine x_aload_n (pc := 789) X dL_law_789 (i := 0) rfl 0 rfl ?_
                                                            refine x_iload_n (pc := 790) X dL_law_790 (i := 3) rfl 3 rfl ?_
                                                            refine x_iconst (v := 4) (pc := 791) X dL_law_791 (by decide) ?_
                                                            refine x_iadd (pc := 792) X dL_law_792 ?_
                                                            obtain ⟨g191, h⟩ := grd h
                                                            refine x_sld hXb (pc := 793) X dL_law_793 g191 ?_
                                                            obtain ⟨k193, h⟩ := grd h
                                                            obtain ⟨z192, e192, h⟩ := bnds h
                                                            refine x_callV (pc := 794) (As := [.int (xs (i3 + 1).toNatClampNeg), .int (xs (i3 + 2).toNatClampNeg), .int (xs (i3 + 3).toNatClampNeg), .int (xs (i3 + 4).toNatClampNeg)]) (st := []) (st' := [.int z192.1]) X (c_H_bad l cx 117 N D P _ _ _ _ _ z192 e192) dL_law_794 w_792 m_H_bad rfl k193 (ci := 8) rfl rfl ⟨Nat.le_of_ble_eq_true rfl, Nat.le_of_ble_eq_true rfl⟩ ⟨Nat.le_of_ble_eq_true rfl, Nat.le_of_ble_eq_true rfl⟩ rfl (Nat.le_of_ble_eq_true rfl) rfl ?_
                                                            refine x_aload_n (pc := 797) X dL_law_797 (i := 2) rfl 2 rfl ?_
                                                            refine x_aload_n (pc := 798) X dL_law_798 (i := 0) rfl 0 rfl ?_
                                                            refine x_iload_n (pc := 799) X dL_law_799 (i := 3) rfl 3 rfl ?_
                                                            refine x_iconst (v := 1) (pc := 800) X dL_law_800 (by decide) ?_
                                                            refine x_iadd (pc := 801) X dL_law_801 ?_
                                                            obtain ⟨g194, h⟩ := grd h
                                                            refine x_sld hXb (pc := 802) X dL_law_802 g194 ?_
                                                            refine x_aload_n (pc := 803) X dL_law_803 (i := 0) rfl 0 rfl ?_
                                                            refine x_iload_n (pc := 804) X dL_law_804 (i := 3) rfl 3 rfl ?_
                                                            refine x_iconst (v := 2) (pc := 805) X dL_law_805 (by decide) ?_
                                                            refine x_iadd (pc := 806) X dL_law_806 ?_
                                                            obtain ⟨g195, h⟩ := grd h
                                                            refine x_sld hXb (pc := 807) X dL_law_807 g195 ?_
                                                            refine x_aload_n (pc := 808) X dL_law_808 (i := 0) rfl 0 rfl ?_
                                                            refine x_iload_n (pc := 809) X dL_law_809 (i := 3) rfl 3 rfl ?_
                                                            refine x_iconst (v := 3) (pc := 810) X dL_law_810 (by decide) ?_
                                                            refine x_iadd (pc := 811) X dL_law_811 ?_
                                                            obtain ⟨g196, h⟩ := grd h
                                                            refine x_sld hXb (pc := 812) X dL_law_812 g196 ?_
                                                            refine x_aload_n (pc := 813) X dL_law_813 (i := 0) rfl 0 rfl ?_
                                                            refine x_iload_n (pc := 814) X dL_law_814 (i := 3) rfl 3 rfl ?_
                                                            refine x_iconst (v := 4) (pc := 815) X dL_law_815 (by decide) ?_
                                                            refine x_iadd (pc := 816) X dL_law_816 ?_
                                                            obtain ⟨g197, h⟩ := grd h
                                                            refine x_sld hXb (pc := 817) X dL_law_817 g197 ?_
                                                            obtain ⟨k199, h⟩ := grd h
                                                            obtain ⟨z198, e198, h⟩ := bnds h
                                                            refine x_callV (pc := 818) (As := [.int (xs (i3 + 1).toNatClampNeg), .int (xs (i3 + 2).toNatClampNeg), .int (xs (i3 + 3).toNatClampNeg), .int (xs (i3 + 4).toNatClampNeg)]) (st := [.int z192.1]) (st' := [.int z198.1, .int z192.1]) X (c_M_bad l cx 117 N z192.2 P _ _ _ _ _ z198 e198) dL_law_818 w_1196 m_M_bad rfl k199 (ci := 9) rfl rfl ⟨Nat.le_of_ble_eq_true rfl, Nat.le_of_ble_eq_true rfl⟩ ⟨Nat.le_of_ble_eq_true rfl, Nat.le_of_ble_eq_true rfl⟩ rfl (Nat.le_of_ble_eq_true rfl) rfl ?_
                                                            refine x_icmp_eq (tgt := 918) (pc := 821) X dL_law_821 (by decide) (fun c200 => ?_) (fun c200 => ?_)
                                                            · have h := ite_t c200 h
                                                              refine x_iinc (v := i3 + 5) (lv' := [(3, .int (i3 + 5)), (0, .ref b), (1, .ref (cx.2.2 + a1)), (2, .ref (cx.2.2 + a2))]) (pc := 918) X dL_law_918 3 rfl rfl (by decide) rfl ?_
                                                              refine x_goto (tgt := 18) (pc := 921) X dL_law_921 (by decide) ?_
                                                              exact XW.sub [1, 2, 3, 0] rfl (ih18 _ _ _ h)
                                                            · have h := ite_f c200 h
                                                              refine x_iconst (v := 0) (pc := 824) X dL_law_824 (by decide) ?_
                                                              have h := Option.some.inj h
                                                              exact absurd h (by decide)
                                                          · have h := ite_f cs32_25 h
                                                            by_cases cs32_26 : (xs i3.toNatClampNeg) &&& 31 = 26
                                                            · have h := ite_t cs32_26 h
                                                              refine x_tsw (off := 794) (tgt := 826) (pc := 32) X 26 dL_law_32 cs32_26 (by decide) (by decide) (by decide) (by decide) ?_
                                                              refine x_aload_n (pc := 826) X dL_law_826 (i := 1) rfl 1 rfl ?_
                                                              refine x_aload_n (pc := 827) X dL_law_827 (i := 0) rfl 0 rfl ?_
                                                              refine x_iload_n (pc := 828) X dL_law_828 (i := 3) rfl 3 rfl ?_
                                                              refine x_iconst (v := 1) (pc := 829) X dL_law_829 (by decide) ?_
                                                              refine x_iadd (pc := 830) X dL_law_830 ?_
                                                              obtain ⟨g201, h⟩ := grd h
                                                              refine x_sld hXb (pc := 831) X dL_law_831 g201 ?_
                                                              refine x_aload_n (pc := 832) X dL_law_832 (i := 0) rfl 0 rfl ?_
                                                              refine x_iload_n (pc := 833) X dL_law_833 (i := 3) rfl 3 rfl ?_
                                                              refine x_iconst (v := 2) (pc := 834) X dL_law_834 (by decide) ?_
                                                              refine x_iadd (pc := 835) X dL_law_835 ?_
                                                              obtain ⟨g202, h⟩ := grd h
                                                              refine x_sld hXb (pc := 836) X dL_law_836 g202 ?_
                                                              refine x_aload_n (pc := 837) X dL_law_837 (i := 0) rfl 0 rfl ?_
                                                              refine x_iload_n (pc := 838) X dL_law_838 (i := 3) rfl 3 rfl ?_
                                                              refine x_iconst (v := 3) (pc := 839) X dL_law_839 (by decide) ?_
                                                              refine x_iadd (pc := 840) X dL_law_840 ?_
                                                              obtain ⟨g203, h⟩ := grd h
                                                              refine x_sld hXb (pc := 841) X dL_law_841 g203 ?_
                                                              obtain ⟨k205, h⟩ := grd h
                                                              obtain ⟨z204, e204, h⟩ := bnds h
                                                              refine x_callV (pc := 842) (As := [.int (xs (i3 + 1).toNatClampNeg), .int (xs (i3 + 2).toNatClampNeg), .int (xs (i3 + 3).toNatClampNeg)]) (st := []) (st' := [.int z204.1]) X (c_H_month l cx 117 N D P _ _ _ _ z204 e204) dL_law_842 w_822 m_H_month rfl k205 (ci := 8) rfl rfl ⟨Nat.le_of_ble_eq_true rfl, Nat.le_of_ble_eq_true rfl⟩ ⟨Nat.le_of_ble_eq_true rfl, Nat.le_of_ble_eq_true rfl⟩ rfl (Nat.le_of_ble_eq_true rfl) rfl ?_
                                                              refine x_aload_n (pc := 845) X dL_law_845 (i := 2) rfl 2 rfl ?_
                                                              refine x_aload_n (pc := 846) X dL_law_846 (i := 0) rfl 0 rfl ?_
                                                              refine x_iload_n (pc := 847) X dL_law_847 (i := 3) rfl 3 rfl ?_
                                                              refine x_iconst (v := 1) (pc := 848) X dL_law_848 (by decide) ?_
                                                              refine x_iadd (pc := 849) X dL_law_849 ?_
                                                              obtain ⟨g206, h⟩ := grd h
                                                              refine x_sld hXb (pc := 850) X dL_law_850 g206 ?_
                                                              refine x_aload_n (pc := 851) X dL_law_851 (i := 0) rfl 0 rfl ?_
                                                              refine x_iload_n (pc := 852) X dL_law_852 (i := 3) rfl 3 rfl ?_
                                                              refine x_iconst (v := 2) (pc := 853) X dL_law_853 (by decide) ?_
                                                              refine x_iadd (pc := 854) X dL_law_854 ?_
                                                              obtain ⟨g207, h⟩ := grd h
                                                              refine x_sld hXb (pc := 855) X dL_law_855 g207 ?_
                                                              refine x_aload_n (pc := 856) X dL_law_856 (i := 0) rfl 0 rfl ?_
                                                              refine x_iload_n (pc := 857) X dL_law_857 (i := 3) rfl 3 rfl ?_
                                                              refine x_iconst (v := 3) (pc := 858) X dL_law_858 (by decide) ?_
                                                              refine x_iadd (pc := 859) X dL_law_859 ?_
                                                              obtain ⟨g208, h⟩ := grd h
                                                              refine x_sld hXb (pc := 860) X dL_law_860 g208 ?_
                                                              obtain ⟨k210, h⟩ := grd h
                                                              obtain ⟨z209, e209, h⟩ := bnds h
                                                              refine x_callV (pc := 861) (As := [.int (xs (i3 + 1).toNatClampNeg), .int (xs (i3 + 2).toNatClampNeg), .int (xs (i3 + 3).toNatClampNeg)]) (st := [.int z204.1]) (st' := [.int z209.1, .int z204.1]) X (c_M_month l cx 117 N z204.2 P _ _ _ _ z209 e209) dL_law_861 w_1204 m_M_month rfl k210 (ci := 9) rfl rfl ⟨Nat.le_of_ble_eq_true rfl, Nat.le_of_ble_eq_true rfl⟩ ⟨Nat.le_of_ble_eq_true rfl, Nat.le_of_ble_eq_true rfl⟩ rfl (Nat.le_of_ble_eq_true rfl) rfl ?_
                                                              refine x_icmp_eq (tgt := 918) (pc := 864) X dL_law_864 (by decide) (fun c211 => ?_) (fun c211 => ?_)
                                                              · have h := ite_t c211 h
                                                                refine x_iinc (v := i3 + 5) (lv' := [(3, .int (i3 + 5)), (0, .ref b), (1, .ref (cx.2.2 + a1)), (2, .ref (cx.2.2 + a2))]) (pc := 918) X dL_law_918 3 rfl rfl (by decide) rfl ?_
                                                                refine x_goto (tgt := 18) (pc := 921) X dL_law_921 (by decide) ?_
                                                                exact XW.sub [1, 2, 3, 0] rfl (ih18 _ _ _ h)
                                                              · have h := ite_f c211 h
                                                                refine x_iconst (v := 0) (pc := 867) X dL_law_867 (by decide) ?_
                                                                have h := Option.some.inj h
                                                                exact absurd h (by decide)
                                                            · have h := ite_f cs32_26 h
                                                              by_cases cs32_27 : (xs i3.toNatClampNeg) &&& 31 = 27
                                                              · have h := ite_t cs32_27 h
                                                                refine x_tsw (off := 837) (tgt := 869) (pc := 32) X 27 dL_law_32 cs32_27 (by decide) (by decide) (by decide) (by decide) ?_
                                                                refine x_aload_n (pc := 869) X dL_law_869 (i := 1) rfl 1 rfl ?_
                                                                obtain ⟨k213, h⟩ := grd h
                                                                obtain ⟨z212, e212, h⟩ := bnds h
                                                                refine x_callV (pc := 870) (As := []) (st := []) (st' := [.int z212.1]) X (c_H_keep l cx 117 N D P _ z212 e212) dL_law_870 w_840 m_H_keep rfl k213 (ci := 8) rfl rfl ⟨Nat.le_of_ble_eq_true rfl, Nat.le_of_ble_eq_true rfl⟩ ⟨Nat.le_of_ble_eq_true rfl, Nat.le_of_ble_eq_true rfl⟩ rfl (Nat.le_of_ble_eq_true rfl) rfl ?_
                                                                refine x_aload_n (pc := 873) X dL_law_873 (i := 2) rfl 2 rfl ?_
                                                                obtain ⟨k215, h⟩ := grd h
                                                                obtain ⟨z214, e214, h⟩ := bnds h
                                                                refine x_callV (pc := 874) (As := []) (st := [.int z212.1]) (st' := [.int z214.1, .int z212.1]) X (c_M_keep l cx 117 N z212.2.1 z212.2.2 _ z214 e214) dL_law_874 w_1215 m_M_keep rfl k215 (ci := 9) rfl rfl ⟨Nat.le_of_ble_eq_true rfl, Nat.le_of_ble_eq_true rfl⟩ ⟨Nat.le_of_ble_eq_true rfl, Nat.le_of_ble_eq_true rfl⟩ rfl (Nat.le_of_ble_eq_true rfl) rfl ?_
                                                                refine x_icmp_eq (tgt := 918) (pc := 877) X dL_law_877 (by decide) (fun c216 => ?_) (fun c216 => ?_)
                                                                · have h := ite_t c216 h
                                                                  refine x_iinc (v := i3 + 5) (lv' := [(3, .int (i3 + 5)), (0, .ref b), (1, .ref (cx.2.2 + a1)), (2, .ref (cx.2.2 + a2))]) (pc := 918) X dL_law_918 3 rfl rfl (by decide) rfl ?_
                                                                  refine x_goto (tgt := 18) (pc := 921) X dL_law_921 (by decide) ?_
                                                                  exact XW.sub [1, 2, 3, 0] rfl (ih18 _ _ _ h)
                                                                · have h := ite_f c216 h
                                                                  refine x_iconst (v := 0) (pc := 880) X dL_law_880 (by decide) ?_
                                                                  have h := Option.some.inj h
                                                                  exact absurd h (by decide)
                                                              · have h := ite_f cs32_27 h
                                                                by_cases cs32_28 : (xs i3.toNatClampNeg) &&& 31 = 28
                                                                · have h := ite_t cs32_28 h
                                                                  refine x_tsw (off := 850) (tgt := 882) (pc := 32) X 28 dL_law_32 cs32_28 (by decide) (by decide) (by decide) (by decide) ?_
                                                                  refine x_aload_n (pc := 882) X dL_law_882 (i := 1) rfl 1 rfl ?_
                                                                  obtain ⟨k218, h⟩ := grd h
                                                                  obtain ⟨z217, e217, h⟩ := bnds h
                                                                  refine x_callV (pc := 883) (As := []) (st := []) (st' := [.int z217.1]) X (c_H_back l cx 117 N D P _ z217 e217) dL_law_883 w_844 m_H_back rfl k218 (ci := 8) rfl rfl ⟨Nat.le_of_ble_eq_true rfl, Nat.le_of_ble_eq_true rfl⟩ ⟨Nat.le_of_ble_eq_true rfl, Nat.le_of_ble_eq_true rfl⟩ rfl (Nat.le_of_ble_eq_true rfl) rfl ?_
                                                                  refine x_aload_n (pc := 886) X dL_law_886 (i := 2) rfl 2 rfl ?_
                                                                  obtain ⟨k220, h⟩ := grd h
                                                                  obtain ⟨z219, e219, h⟩ := bnds h
                                                                  refine x_callV (pc := 887) (As := []) (st := [.int z217.1]) (st' := [.int z219.1, .int z217.1]) X (c_M_back l cx 117 N z217.2 P _ z219 e219) dL_law_887 w_1219 m_M_back rfl k220 (ci := 9) rfl rfl ⟨Nat.le_of_ble_eq_true rfl, Nat.le_of_ble_eq_true rfl⟩ ⟨Nat.le_of_ble_eq_true rfl, Nat.le_of_ble_eq_true rfl⟩ rfl (Nat.le_of_ble_eq_true rfl) rfl ?_
                                                                  refine x_icmp_eq (tgt := 918) (pc := 890) X dL_law_890 (by decide) (fun c221 => ?_) (fun c221 => ?_)
                                                                  · have h := ite_t c221 h
                                                                    refine x_iinc (v := i3 + 5) (lv' := [(3, .int (i3 + 5)), (0, .ref b), (1, .ref (cx.2.2 + a1)), (2, .ref (cx.2.2 + a2))]) (pc := 918) X dL_law_918 3 rfl rfl (by decide) rfl ?_
                                                                    refine x_goto (tgt := 18) (pc := 921) X dL_law_921 (by decide) ?_
                                                                    exact XW.sub [1, 2, 3, 0] rfl (ih18 _ _ _ h)
                                                                  · have h := ite_f c221 h
                                                                    refine x_iconst (v := 0) (pc := 893) X dL_law_893 (by decide) ?_
                                                                    have h := Option.some.inj h
                                                                    exact absurd h (by decide)
                                                                · have h := ite_f cs32_28 h
                                                                  by_cases cs32_29 : (xs i3.toNatClampNeg) &&& 31 = 29
                                                                  · have h := ite_t cs32_29 h
                                                                    refine x_tsw (off := 863) (tgt := 895) (pc := 32) X 29 dL_law_32 cs32_29 (by decide) (by decide) (by decide) (by decide) ?_
                                                                    refine x_aload_n (pc := 895) X dL_law_895 (i := 1) rfl 1 rfl ?_
                                                                    refine x_aload_n (pc := 896) X dL_law_896 (i := 0) rfl 0 rfl ?_
                                                                    refine x_iload_n (pc := 897) X dL_law_897 (i := 3) rfl 3 rfl ?_
                                                                    refine x_iconst (v := 1) (pc := 898) X dL_law_898 (by decide) ?_
                                                                    refine x_iadd (pc := 899) X dL_law_899 ?_
                                                                    obtain ⟨g222, h⟩ := grd h
                                                                    refine x_sld hXb (pc := 900) X dL_law_900 g222 ?_
                                                                    obtain ⟨k224, h⟩ := grd h
                                                                    obtain ⟨z223, e223, h⟩ := bnds h
                                                                    refine x_callV (pc := 901) (As := [.int (xs (i3 + 1).toNatClampNeg)]) (st := []) (st' := [.int z223]) X (c_H_count l cx 117 N D P _ _ z223 e223) dL_law_901 w_848 m_H_count rfl k224 (ci := 8) rfl rfl ⟨Nat.le_of_ble_eq_true rfl, Nat.le_of_ble_eq_true rfl⟩ ⟨Nat.le_of_ble_eq_true rfl, Nat.le_of_ble_eq_true rfl⟩ rfl (Nat.le_of_ble_eq_true rfl) rfl ?_
                                                                    refine x_aload_n (pc := 904) X dL_law_904 (i := 2) rfl 2 rfl ?_
                                                                    refine x_aload_n (pc := 905) X dL_law_905 (i := 0) rfl 0 rfl ?_
                                                                    refine x_iload_n (pc := 906) X dL_law_906 (i := 3) rfl 3 rfl ?_
                                                                    refine x_iconst (v := 1) (pc := 907) X dL_law_907 (by decide) ?_
                                                                    refine x_iadd (pc := 908) X dL_law_908 ?_
                                                                    obtain ⟨g225, h⟩ := grd h
                                                                    refine x_sld hXb (pc := 909) X dL_law_909 g225 ?_
                                                                    obtain ⟨k227, h⟩ := grd h
                                                                    obtain ⟨z226, e226, h⟩ := bnds h
                                                                    refine x_callV (pc := 910) (As := [.int (xs (i3 + 1).toNatClampNeg)]) (st := [.int z223]) (st' := [.int z226, .int z223]) X (c_M_count l cx 117 N D P _ _ z226 e226) dL_law_910 w_1223 m_M_count rfl k227 (ci := 9) rfl rfl ⟨Nat.le_of_ble_eq_true rfl, Nat.le_of_ble_eq_true rfl⟩ ⟨Nat.le_of_ble_eq_true rfl, Nat.le_of_ble_eq_true rfl⟩ rfl (Nat.le_of_ble_eq_true rfl) rfl ?_
                                                                    refine x_icmp_eq (tgt := 918) (pc := 913) X dL_law_913 (by decide) (fun c228 => ?_) (fun c228 => ?_)
                                                                    · have h := ite_t c228 h
                                                                      refine x_iinc (v := i3 + 5) (lv' := [(3, .int (i3 + 5)), (0, .ref b), (1, .ref (cx.2.2 + a1)), (2, .ref (cx.2.2 + a2))]) (pc := 918) X dL_law_918 3 rfl rfl (by decide) rfl ?_
                                                                      refine x_goto (tgt := 18) (pc := 921) X dL_law_921 (by decide) ?_
                                                                      exact XW.sub [1, 2, 3, 0] rfl (ih18 _ _ _ h)
                                                                    · have h := ite_f c228 h
                                                                      refine x_iconst (v := 0) (pc := 916) X dL_law_916 (by decide) ?_
                                                                      have h := Option.some.inj h
                                                                      exact absurd h (by decide)
                                                                  · have h := ite_f cs32_29 h
                                                                    refine x_tswd (tgt := 918) (pc := 32) X dL_law_32 (sw_outg (lo := 0) (n := 30) (by decide) (by decide) rfl (fun k hk => ?_)) (by decide) ?_
                                                                    · rcases (show k = 0 ∨ k = 1 ∨ k = 2 ∨ k = 3 ∨ k = 4 ∨ k = 5 ∨ k = 6 ∨ k = 7 ∨ k = 8 ∨ k = 9 ∨ k = 10 ∨ k = 11 ∨ k = 12 ∨ k = 13 ∨ k = 14 ∨ k = 15 ∨ k = 16 ∨ k = 17 ∨ k = 18 ∨ k = 19 ∨ k = 20 ∨ k = 21 ∨ k = 22 ∨ k = 23 ∨ k = 24 ∨ k = 25 ∨ k = 26 ∨ k = 27 ∨ k = 28 ∨ k = 29 by omega) with rfl | rfl | rfl | rfl | rfl | rfl | rfl | rfl | rfl | rfl | rfl | rfl | rfl | rfl | rfl | rfl | rfl | rfl | rfl | rfl | rfl | rfl | rfl | rfl | rfl | rfl | rfl | rfl | rfl | rfl
                                                                      · exact fun y => cs32_0 (y.trans (by decide))
                                                                      · exact fun y => cs32_1 (y.trans (by decide))
                                                                      · exact fun y => cs32_2 (y.trans (by decide))
                                                                      · exact fun y => cs32_3 (y.trans (by decide))
                                                                      · exact fun y => cs32_4 (y.trans (by decide))
                                                                      · exact fun y => cs32_5 (y.trans (by decide))
                                                                      · exact fun y => cs32_6 (y.trans (by decide))
                                                                      · exact fun y => cs32_7 (y.trans (by decide))
                                                                      · exact fun y => cs32_8 (y.trans (by decide))
                                                                      · exact fun y => cs32_9 (y.trans (by decide))
                                                                      · exact fun y => cs32_10 (y.trans (by decide))
                                                                      · exact fun y => cs32_11 (y.trans (by decide))
                                                                      · exact fun y => cs32_12 (y.trans (by decide))
                                                                      · exact fun y => cs32_13 (y.trans (by decide))
                                                                      · exact fun y => cs32_14 (y.trans (by decide))
                                                                      · exact fun y => cs32_15 (y.trans (by decide))
                                                                      · exact fun y => cs32_16 (y.trans (by decide))
                                                                      · exact fun y => cs32_17 (y.trans (by decide))
                                                                      · exact fun y => cs32_18 (y.trans (by decide))
                                                                      · exact fun y => cs32_19 (y.trans (by decide))
                                                                      · exact fun y => cs32_20 (y.trans (by decide))
                                                                      · exact fun y => cs32_21 (y.trans (by decide))
                                                                      · exact fun y => cs32_22 (y.trans (by decide))
                                                                      · exact fun y => cs32_23 (y.trans (by decide))
                                                                      · exact fun y => cs32_24 (y.trans (by decide))
                                                                      · exact fun y => cs32_25 (y.trans (by decide))
                                                                      · exact fun y => cs32_26 (y.trans (by decide))
                                                                      · exact fun y => cs32_27 (y.trans (by decide))
                                                                      · exact fun y => cs32_28 (y.trans (by decide))
                                                                      · exact fun y => cs32_29 (y.trans (by decide))
                                                                    · refine x_iinc (v := i3 + 5) (lv' := [(3, .int (i3 + 5)), (0, .ref b), (1, .ref (cx.2.2 + a1)), (2, .ref (cx.2.2 + a2))]) (pc := 918) X dL_law_918 3 rfl rfl (by decide) rfl ?_
                                                                      refine x_goto (tgt := 18) (pc := 921) X dL_law_921 (by decide) ?_
                                                                      exact XW.sub [1, 2, 3, 0] rfl (ih18 _ _ _ h)
  obtain ⟨k1, h⟩ := grd h
  obtain ⟨D1, w1, h⟩ := pass h
  obtain ⟨P1, u1, h⟩ := pass h
  refine x_new (ci := 8) (n := 11) (C := RX8) (T := TX8) (D' := D1) (P' := P1) (pc := 0) X dL_law_0 k1 rfl w_70 w_71 w_54 w1 u1 dfl8 ⟨Nat.le_of_ble_eq_true rfl, Nat.le_of_ble_eq_true rfl⟩ ?_
  refine XW.ren (nx' := 1) (c' := 1) (s' := 11) rfl rfl rfl ?_
  refine x_dup (pc := 3) X dL_law_3 rfl ?_
  obtain ⟨z2, e2, h⟩ := bnds h
  refine x_callIH hF (pc := 4) (As := []) (st := [.ref (cx.2.2 + 0)]) X (c_H_init l cx 1 N D1 P1 _ z2 e2 sa sv) dL_law_4 w_72 m_H_init rfl ⟨Nat.le_of_ble_eq_true rfl, Nat.le_of_ble_eq_true rfl⟩ ⟨Nat.le_of_ble_eq_true rfl, Nat.le_of_ble_eq_true rfl⟩ rfl (Nat.le_of_ble_eq_true rfl) ?_
  refine XW.ren (nx' := 97) (c' := 97) (s' := 865) rfl rfl rfl ?_
  refine x_astore_n (lv' := [(1, .ref (cx.2.2 + 0)), (0, .ref b)]) (pc := 7) X dL_law_7 (i := 1) rfl (by decide) rfl ?_
  obtain ⟨k3, h⟩ := grd h
  obtain ⟨D3, w3, h⟩ := pass h
  obtain ⟨P3, u3, h⟩ := pass h
  refine x_new (ci := 9) (n := 26) (C := RX9) (T := TX9) (D' := D3) (P' := P3) (pc := 8) X dL_law_8 k3 rfl w_859 w_860 w_68 w3 u3 dfl9 ⟨Nat.le_of_ble_eq_true rfl, Nat.le_of_ble_eq_true rfl⟩ ?_
  refine XW.ren (nx' := 98) (c' := 98) (s' := 891) rfl rfl rfl ?_
  refine x_dup (pc := 11) X dL_law_11 rfl ?_
  obtain ⟨z4, e4, h⟩ := bnds h
  refine x_callI (pc := 12) (As := []) (st := [.ref (cx.2.2 + 97)]) X (c_M_init l cx 98 N D3 P3 _ z4 e4) dL_law_12 w_861 m_M_init rfl ⟨Nat.le_of_ble_eq_true rfl, Nat.le_of_ble_eq_true rfl⟩ ⟨Nat.le_of_ble_eq_true rfl, Nat.le_of_ble_eq_true rfl⟩ rfl (Nat.le_of_ble_eq_true rfl) ?_
  refine XW.ren (nx' := 117) (c' := 117) (s' := 3204) rfl rfl rfl ?_
  refine x_astore_n (lv' := [(2, .ref (cx.2.2 + 97)), (1, .ref (cx.2.2 + 0)), (0, .ref b)]) (pc := 15) X dL_law_15 (i := 2) rfl (by decide) rfl ?_
  refine x_iconst (v := 0) (pc := 16) X dL_law_16 (by decide) ?_
  refine x_istore_n (lv' := [(3, .int 0), (2, .ref (cx.2.2 + 97)), (1, .ref (cx.2.2 + 0)), (0, .ref b)]) (pc := 17) X dL_law_17 (i := 3) rfl (by decide) rfl ?_
  exact XW.sub [3, 2, 1, 0] rfl (hL18 _ _ _ _ _ _ h)
theorem nest_in : ∀ w ∈ nestW, w ∈ lw_tbl := by
  have h : nestW = ([80, 102, 193, 221, 241, 345, 384, 614, 737, 758, 773] : List Nat).filterMap (fun i => lw_tbl[i]?) := by decide +kernel
  intro w hw
  rw [h] at hw
  obtain ⟨i, -, hi⟩ := List.mem_filterMap.mp hw
  exact List.mem_of_getElem? hi
theorem nest_on : nestW.all (fun w => w.onTables) = true := by decide +kernel
theorem tbl_arr {args : Array Value} {s : State} {ty : FieldType} (h : (Cond.arrayClass ty).before args s = true) : ∃ cA : ClassId, ArrOfT s cA ty ∧ s.vm.findClass ("[" ++ ty.toString) = some cA := by
  obtain ⟨cA, kA, comp, h1, h2, h3⟩ := Cond.arrayClass_spec h
  exact ⟨cA, fun n z => ⟨fun k h => (by cases h), kA, h2, comp, h3⟩, h1⟩
/-- the world at the law's start: the tables' classes and the String constant -/
theorem law_world {p : Program} {s : State} {m : MethodId} {meth : Method} {c : Code} {b L : Nat} {xs : Nat → Int32} (C0 : lw_At p s m meth c b L xs) : ∃ (cx : Cx) (sa sv : Nat), cx.2.2 = s.heap.size ∧ KK cx s ∧ SF cx sa sv s := by
  obtain ⟨hx, hb, hr, hml, hown, hts, hX, hbl, hlocks, hgv⟩ := id C0
  have hT : ∀ w ∈ wT, w.before #[Value.ref b] s = true := fun w hw => hts w (List.mem_filter.mp hw).1
  obtain ⟨c0, i0, k0⟩ := u_known (C := RX0) (T := TX0) (N := 4) (n := 4) hT wIn0 (hT _ (mT 272 (by decide +kernel) rfl))
  obtain ⟨c1, i1, k1⟩ := u_known (C := RX1) (T := TX1) (N := 9) (n := 9) hT wIn1 (hT _ (mT 101 (by decide +kernel) rfl))
  obtain ⟨c2, i2, k2⟩ := u_known (C := RX2) (T := TX2) (N := 4) (n := 4) hT wIn2 (hT _ (mT 79 (by decide +kernel) rfl))
  obtain ⟨c3, i3, k3⟩ := u_known (C := RX3) (T := TX3) (N := 4) (n := 4) hT wIn3 (hT _ (mT 220 (by decide +kernel) rfl))
  obtain ⟨c4, i4, k4⟩ := u_known (C := RX4) (T := TX4) (N := 6) (n := 6) hT wIn4 (hT _ (mT 192 (by decide +kernel) rfl))
  obtain ⟨c5, i5, k5⟩ := u_known (C := RX5) (T := TX5) (N := 8) (n := 8) hT wIn5 (hT _ (mT 240 (by decide +kernel) rfl))
  obtain ⟨c6, i6, k6⟩ := u_known (C := RX6) (T := TX6) (N := 2) (n := 2) hT wIn6 (hT _ (mT 172 (by decide +kernel) rfl))
  obtain ⟨c7, i7, k7⟩ := u_known (C := RX7) (T := TX7) (N := 5) (n := 5) hT wIn7 (hT _ (mT 146 (by decide +kernel) rfl))
  obtain ⟨c8, i8, k8⟩ := u_known (C := RX8) (T := TX8) (N := 11) (n := 11) hT wIn8 (hT _ (mT 71 (by decide +kernel) rfl))
  obtain ⟨c9, i9, k9⟩ := u_known (C := RX9) (T := TX9) (N := 26) (n := 26) hT wIn9 (hT _ (mT 860 (by decide +kernel) rfl))
  obtain ⟨dC, dI, hKc⟩ : ∃ (dC : Nat → ClassId) (dI : Nat → Nat → Nat), ∀ (k : Nat) (q : vw_C), vwCl[k]? = some q → u_Kn s q.1 q.2.1 q.2.2 (dC k) (dI k) := by
    refine ⟨fun k => [c0, c1, c2, c3, c4, c5, c6, c7, c8, c9].getD k 0, fun k => [i0, i1, i2, i3, i4, i5, i6, i7, i8, i9].getD k (fun _ => 0), ?_⟩
    intro k q hq
    match k, hq with
    | 0, hq => cases (Option.some.inj (show some _ = some q from hq)); exact k0
    | 1, hq => cases (Option.some.inj (show some _ = some q from hq)); exact k1
    | 2, hq => cases (Option.some.inj (show some _ = some q from hq)); exact k2
    | 3, hq => cases (Option.some.inj (show some _ = some q from hq)); exact k3
    | 4, hq => cases (Option.some.inj (show some _ = some q from hq)); exact k4
    | 5, hq => cases (Option.some.inj (show some _ = some q from hq)); exact k5
    | 6, hq => cases (Option.some.inj (show some _ = some q from hq)); exact k6
    | 7, hq => cases (Option.some.inj (show some _ = some q from hq)); exact k7
    | 8, hq => cases (Option.some.inj (show some _ = some q from hq)); exact k8
    | 9, hq => cases (Option.some.inj (show some _ = some q from hq)); exact k9
    | k + 10, hq => exact absurd (List.getElem?_eq_some_iff.mp hq).1 (by show ¬ k + 10 < 10; omega)
  obtain ⟨cB, aB, nB⟩ := tbl_arr (ty := .byte) (hT _ w_455)
  obtain ⟨cC, aC, nC⟩ := tbl_arr (ty := .char) (hT _ w_98)
  obtain ⟨cI, aI, nI'⟩ := tbl_arr (ty := .int) (hT _ w_99)
  have hov : (Cond.arrayOver (.object "HeartPins$Standing")).before #[Value.ref b] s = true := hts _ (List.mem_of_getElem? (i := 181) (by decide +kernel))
  obtain ⟨comp, cS, kS, f1, f2, f3, f4, f5⟩ := Cond.arrayOver_spec hov
  have aS : ArrOfT s cS (.object "HeartPins$Standing") := fun N z => ⟨fun k h => (by cases h), kS, f3, comp, f4⟩
  obtain ⟨cx, hcx⟩ : ∃ cx : Cx, cx = ((dC, dI), (cB, cC, cI, cS), s.heap.size) := ⟨_, rfl⟩
  have hAA : ∀ a : Nat, a < s.heap.size → ¬ AA cx a := fun a ha h => by rw [hcx] at h; exact absurd h (Nat.not_le.mpr ha)
  have hs := flat_of_before _ hgv
  obtain ⟨adK, adV, hv, hev⟩ := vk_Sof (args := #[Value.ref b]) (s := s) (N := 1) (tm := fun _ => Term.string "HeartPins" 78) (len := [79]) (byt := [FBl]) (A := AA cx)
    (fun i hi => by rcases (show i = 0 by omega) with rfl; decide)
    (fun i hi => hs _ (by decide +kernel)) (fun i hi => hs _ (by decide +kernel)) (fun i hi => hs _ (by decide +kernel))
    (fun i hi => by rcases (show i = 0 by omega) with rfl; exact hs _ (by decide +kernel))
    (fun i hi j hj => by rcases (show i = 0 by omega) with rfl; exact hs _ ((by decide +kernel : ∀ j, j < 79 → Cond.eq (.elem (.field (Term.string "HeartPins" 78) "java/lang/String" "value" "[B") (.int (Int32.ofNat j))) (.int (([FBl].getD 0 []).getD j 0)) ∈ flatC (Jvm.Cond.and given_1 narrow_1)) j hj))
    (fun i j hi hj n => absurd (by omega : i = j) n) hAA
  obtain ⟨v1, v2, v3, v4⟩ := hv.1 0 (by decide)
  refine ⟨cx, adK 0, adV 0, by rw [hcx], ⟨⟨?_, ?_⟩, ?_, va_AO.of hov⟩, ?_, v1, v2, v3, v4, ?_, ?_⟩
  · rw [hcx]; exact hKc
  · rw [hcx]
    intro k q hq
    match k, hq with
    | 0, hq => cases (Option.some.inj (show some _ = some q from hq)); exact ⟨aB, nB⟩
    | 1, hq => cases (Option.some.inj (show some _ = some q from hq)); exact ⟨aC, nC⟩
    | 2, hq => cases (Option.some.inj (show some _ = some q from hq)); exact ⟨aI, nI'⟩
    | 3, hq => cases (Option.some.inj (show some _ = some q from hq)); exact ⟨aS, kS, comp, f3, f4, f1, f5⟩
    | k + 4, hq => exact absurd (List.getElem?_eq_some_iff.mp hq).1 (by show ¬ k + 4 < 4; omega)
  · intro w hw
    exact va_Nw.of (List.all_eq_true.mp nest_on w hw) (hts w (nest_in w hw))
  · exact vk_R.of (hts _ (List.mem_of_getElem? (i := 292) (by decide +kernel))) (hev 0 (by decide))
  · exact va_Zof (hts _ (List.mem_of_getElem? (i := 302) (by decide +kernel))) (hts _ (List.mem_of_getElem? (i := 64) (by decide +kernel))) (va_eqi (hs _ (by decide +kernel))) hAA
  · exact va_Zqof (hts _ (List.mem_of_getElem? (i := 318) (by decide +kernel))) (hts _ (List.mem_of_getElem? (i := 66) (by decide +kernel))) (hs _ (by decide +kernel)) hAA
/-- the law's walk out of its function -/
theorem whole_of {p : Program} {e : Env} {s : State} {m : MethodId} {below : List Frame} {meth : Method} {c : Code} (l : Launch) {b L : Nat} {xs : Nat → Int32} (C0 : lw_At p s m meth c b L xs) (N : Nat) (h : f_L_law N L xs = some 1) : W p l e room_1 s m #[Value.ref b] below meth c s.heap [] 0 0 (lw_Z below #[Value.ref b] s) (entryFrame m ([Value.ref b] : List Value).toArray 4) := by
  obtain ⟨cx, sa, sv, hcx, hK, hF⟩ := law_world C0
  obtain ⟨hx, hb, hr, hml, hown, hts, hX, hbl, hlocks, hgv⟩ := id C0
  have X : XC p s m #[Value.ref b] meth c cx code 4 ret "HeartPinsLaw" meth.name := ⟨hx, hb, hml, hr, hown, fun w hw => hts w (List.mem_filter.mp hw).1, hK, hlocks, rfl⟩
  have hl := lv_entry ([.ref b]) (n := 4) (Nat.le_of_ble_eq_true rfl)
  rw [lg_entry_eq]
  exact law_walk l hcx hF ⟨hX, hbl, hcx⟩ X N h s.heap [] _ ⟨by rw [hcx]; rfl, fun a ha => absurd ha (Nat.not_lt_zero a)⟩ va_S.rf hl
